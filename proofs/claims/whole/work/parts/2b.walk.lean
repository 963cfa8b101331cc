theorem kX3_readState_b82 {r0 : Int32} {w0 : Wd} {w wb : Wd} (hm : mo wb w) (h : fX3_readState_b82 w = some (r0, w0)) : mo wb w0 := by
  unfold fX3_readState_b82 at h
  replace h := ckp_inv h; obtain ⟨hk_1, h⟩ := h
  cases h; exact hm
theorem kX3_readState {r0 : Int32} {w0 : Wd} {a0 : Nat} {a1 : Nat} {w : Wd} (h : fX3_readState a0 a1 w = some (r0, w0)) : mo w w0 := by
  have hm := mo_rf w
  unfold fX3_readState at h
  replace h := lt_inv h; obtain ⟨u_1, er_2, h⟩ := h
  replace h := nn_inv h; obtain ⟨b_5, rfl, h⟩ := h
  replace h := bd2_inv h; obtain ⟨y_8, w_9, hcl_7, h⟩ := h
  have hm := hm.tr (kX4_take hcl_7)
  by_cases hc_15 : y_8 = 0
  · rw [if_pos hc_15] at h
    replace h := lt_inv h; obtain ⟨u_16, er_17, h⟩ := h
    replace h := nn_inv h; obtain ⟨b_20, rfl, h⟩ := h
    replace h := bd2_inv h; obtain ⟨y_23, w_24, hcl_22, h⟩ := h
    have hm := hm.tr (kX4_take hcl_22)
    by_cases hc_29 : y_23 = 0
    · rw [if_pos hc_29] at h
      replace h := lt_inv h; obtain ⟨u_30, er_31, h⟩ := h
      replace h := nn_inv h; obtain ⟨b_34, rfl, h⟩ := h
      replace h := bd2_inv h; obtain ⟨y_37, w_38, hcl_36, h⟩ := h
      have hm := hm.tr (kX4_take hcl_36)
      by_cases hc_43 : y_37 = 0
      · rw [if_pos hc_43] at h
        replace h := lt_inv h; obtain ⟨u_44, er_45, h⟩ := h
        replace h := nn_inv h; obtain ⟨b_48, rfl, h⟩ := h
        replace h := bd2_inv h; obtain ⟨y_51, w_52, hcl_50, h⟩ := h
        have hm := hm.tr (kX4_take hcl_50)
        by_cases hc_57 : y_51 = 0
        · rw [if_pos hc_57] at h
          replace h := ckp_inv h; obtain ⟨hk_58, h⟩ := h
          cases h; exact hm
        · rw [if_neg hc_57] at h
          replace h := lt_inv h; obtain ⟨w_59, ew_60, h⟩ := h
          have hm := mo_eI hm ew_60
          exact kX3_readState_b82 hm h
      · rw [if_neg hc_43] at h
        replace h := lt_inv h; obtain ⟨w_64, ew_65, h⟩ := h
        have hm := mo_eI hm ew_65
        exact kX3_readState_b82 hm h
    · rw [if_neg hc_29] at h
      replace h := lt_inv h; obtain ⟨w_69, ew_70, h⟩ := h
      have hm := mo_eI hm ew_70
      exact kX3_readState_b82 hm h
  · rw [if_neg hc_15] at h
    replace h := lt_inv h; obtain ⟨w_74, ew_75, h⟩ := h
    have hm := mo_eI hm ew_75
    exact kX3_readState_b82 hm h
theorem vX3_readState_b82 {x : CT} (hx : CX x cX3_readState RX3 rmX3_readState (some .boolean)) {r0 : Int32} {w0 : Wd} (hq : RI x rmX3_readState r0 w0) {w : Wd} (h : fX3_readState_b82 w = some (r0, w0)) : V x 82 [none, none] [] (Rp (xD x) w) 0 0 := by
  unfold fX3_readState_b82 at h
  refine v_iconst (pc' := 83) (v := 1) hx dX3_readState_82 (by decide) rfl ?_
  replace h := ckp_inv h; obtain ⟨hk_1, h⟩ := h
  exact v_zret hx hq (by decide) (by decide) dX3_readState_83 hk_1 (by cases h; rfl)
theorem vX3_readState {x : CT} (hx : CX x cX3_readState RX3 rmX3_readState (some .boolean)) {r0 : Int32} {w0 : Wd} {w : Wd} (hq : RI x rmX3_readState r0 w0) (a0 : Nat) (a1 : Nat) (hl0 : zL w 3 a0 = true) (hl1 : zL w 2 a1 = true) (h : fX3_readState a0 a1 w = some (r0, w0)) : V x 0 [some (.ref a0), some (.ref a1)] [] (Rp (xD x) w) 0 0 := by
  unfold fX3_readState at h
  refine v_aload_n (pc' := 1) hx dX3_readState_0 rfl rfl ?_
  refine v_getR (pc' := 4) hx hl0 fi_3_0.1 fi_3_0.2.1 fk_X3_9 dX3_readState_1 rfl ?_
  replace h := lt_inv h; obtain ⟨u_1, er_2, h⟩ := h
  rw [← er_2]
  refine v_liv hl0 (fun ht_3 => ?_)
  have hl_4 : ∀ b, u_1 = some b → zL w 4 b = true := fun b hb => ht_3 0 _ b (er_2.symm.trans hb)
  refine v_bipush (pc' := 6) (v := 82) hx dX3_readState_4 (by decide) rfl ?_
  replace h := nn_inv h; obtain ⟨b_5, rfl, h⟩ := h
  have hl_6 : zL w 4 b_5 = true := hl_4 _ rfl
  replace h := bd2_inv h; obtain ⟨y_8, w_9, hcl_7, h⟩ := h
  refine v_wf (fun hwf_10 => ?_)
  refine v_callVi (pc' := 9) (w' := w_9) (r := y_8) (ci := 4) (b := b_5) (As := [.int 82]) (rest := []) hx hl_6 (fun G sz hR => ctX4_take (xl x) (xD x) w G sz hR b_5 82 hl_6 hcl_7) rfl my_X4_take ml_X3_19 ⟨by decide, by decide⟩ ⟨by decide, by decide⟩ rfl rfl (Nat.le_of_ble_eq_true rfl) dX3_readState_6 rfl ?_
  have hm_12 := kX4_take hcl_7 hwf_10
  have hl_13 : zL w_9 3 a0 = true := (hm_12.2 _ _ hl0).1
  have hl_14 : zL w_9 2 a1 = true := (hm_12.2 _ _ hl1).1
  refine v_if_eq (tgt := 20) (pc' := 12) hx dX3_readState_9 (by decide) rfl (fun hc_15 => ?_) (fun hc_15 => ?_)
  · rw [if_pos hc_15] at h
    refine v_aload_n (pc' := 21) hx dX3_readState_20 rfl rfl ?_
    refine v_getR (pc' := 24) hx hl_13 fi_3_0.1 fi_3_0.2.1 fk_X3_9 dX3_readState_21 rfl ?_
    replace h := lt_inv h; obtain ⟨u_16, er_17, h⟩ := h
    rw [← er_17]
    refine v_liv hl_13 (fun ht_18 => ?_)
    have hl_19 : ∀ b, u_16 = some b → zL w_9 4 b = true := fun b hb => ht_18 0 _ b (er_17.symm.trans hb)
    refine v_bipush (pc' := 26) (v := 87) hx dX3_readState_24 (by decide) rfl ?_
    replace h := nn_inv h; obtain ⟨b_20, rfl, h⟩ := h
    have hl_21 : zL w_9 4 b_20 = true := hl_19 _ rfl
    replace h := bd2_inv h; obtain ⟨y_23, w_24, hcl_22, h⟩ := h
    refine v_callVi (pc' := 29) (w' := w_24) (r := y_23) (ci := 4) (b := b_20) (As := [.int 87]) (rest := []) hx hl_21 (fun G sz hR => ctX4_take (xl x) (xD x) w_9 G sz hR b_20 87 hl_21 hcl_22) rfl my_X4_take ml_X3_19 ⟨by decide, by decide⟩ ⟨by decide, by decide⟩ rfl rfl (Nat.le_of_ble_eq_true rfl) dX3_readState_26 rfl ?_
    have hm_26 := kX4_take hcl_22 hm_12.1
    have hl_27 : zL w_24 3 a0 = true := (hm_26.2 _ _ hl_13).1
    have hl_28 : zL w_24 2 a1 = true := (hm_26.2 _ _ hl_14).1
    refine v_if_eq (tgt := 40) (pc' := 32) hx dX3_readState_29 (by decide) rfl (fun hc_29 => ?_) (fun hc_29 => ?_)
    · rw [if_pos hc_29] at h
      refine v_aload_n (pc' := 41) hx dX3_readState_40 rfl rfl ?_
      refine v_getR (pc' := 44) hx hl_27 fi_3_0.1 fi_3_0.2.1 fk_X3_9 dX3_readState_41 rfl ?_
      replace h := lt_inv h; obtain ⟨u_30, er_31, h⟩ := h
      rw [← er_31]
      refine v_liv hl_27 (fun ht_32 => ?_)
      have hl_33 : ∀ b, u_30 = some b → zL w_24 4 b = true := fun b hb => ht_32 0 _ b (er_31.symm.trans hb)
      refine v_bipush (pc' := 46) (v := 83) hx dX3_readState_44 (by decide) rfl ?_
      replace h := nn_inv h; obtain ⟨b_34, rfl, h⟩ := h
      have hl_35 : zL w_24 4 b_34 = true := hl_33 _ rfl
      replace h := bd2_inv h; obtain ⟨y_37, w_38, hcl_36, h⟩ := h
      refine v_callVi (pc' := 49) (w' := w_38) (r := y_37) (ci := 4) (b := b_34) (As := [.int 83]) (rest := []) hx hl_35 (fun G sz hR => ctX4_take (xl x) (xD x) w_24 G sz hR b_34 83 hl_35 hcl_36) rfl my_X4_take ml_X3_19 ⟨by decide, by decide⟩ ⟨by decide, by decide⟩ rfl rfl (Nat.le_of_ble_eq_true rfl) dX3_readState_46 rfl ?_
      have hm_40 := kX4_take hcl_36 hm_26.1
      have hl_41 : zL w_38 3 a0 = true := (hm_40.2 _ _ hl_27).1
      have hl_42 : zL w_38 2 a1 = true := (hm_40.2 _ _ hl_28).1
      refine v_if_eq (tgt := 60) (pc' := 52) hx dX3_readState_49 (by decide) rfl (fun hc_43 => ?_) (fun hc_43 => ?_)
      · rw [if_pos hc_43] at h
        refine v_aload_n (pc' := 61) hx dX3_readState_60 rfl rfl ?_
        refine v_getR (pc' := 64) hx hl_41 fi_3_0.1 fi_3_0.2.1 fk_X3_9 dX3_readState_61 rfl ?_
        replace h := lt_inv h; obtain ⟨u_44, er_45, h⟩ := h
        rw [← er_45]
        refine v_liv hl_41 (fun ht_46 => ?_)
        have hl_47 : ∀ b, u_44 = some b → zL w_38 4 b = true := fun b hb => ht_46 0 _ b (er_45.symm.trans hb)
        refine v_bipush (pc' := 66) (v := 70) hx dX3_readState_64 (by decide) rfl ?_
        replace h := nn_inv h; obtain ⟨b_48, rfl, h⟩ := h
        have hl_49 : zL w_38 4 b_48 = true := hl_47 _ rfl
        replace h := bd2_inv h; obtain ⟨y_51, w_52, hcl_50, h⟩ := h
        refine v_callVi (pc' := 69) (w' := w_52) (r := y_51) (ci := 4) (b := b_48) (As := [.int 70]) (rest := []) hx hl_49 (fun G sz hR => ctX4_take (xl x) (xD x) w_38 G sz hR b_48 70 hl_49 hcl_50) rfl my_X4_take ml_X3_19 ⟨by decide, by decide⟩ ⟨by decide, by decide⟩ rfl rfl (Nat.le_of_ble_eq_true rfl) dX3_readState_66 rfl ?_
        have hm_54 := kX4_take hcl_50 hm_40.1
        have hl_55 : zL w_52 3 a0 = true := (hm_54.2 _ _ hl_41).1
        have hl_56 : zL w_52 2 a1 = true := (hm_54.2 _ _ hl_42).1
        refine v_if_eq (tgt := 80) (pc' := 72) hx dX3_readState_69 (by decide) rfl (fun hc_57 => ?_) (fun hc_57 => ?_)
        · rw [if_pos hc_57] at h
          refine v_iconst (pc' := 81) (v := 0) hx dX3_readState_80 (by decide) rfl ?_
          replace h := ckp_inv h; obtain ⟨hk_58, h⟩ := h
          exact v_zret hx hq (by decide) (by decide) dX3_readState_81 hk_58 (by cases h; rfl)
        · rw [if_neg hc_57] at h
          refine v_aload_n (pc' := 73) hx dX3_readState_72 rfl rfl ?_
          refine v_iconst (pc' := 74) (v := 3) hx dX3_readState_73 (by decide) rfl ?_
          refine v_putI (pc' := 77) hx hl_56 fi_2_2.1 fi_2_2.2.1 fi_2_2.2.2 fk_X3_82 dX3_readState_74 rfl ?_
          replace h := lt_inv h; obtain ⟨w_59, ew_60, h⟩ := h
          rw [← ew_60]
          have hl_61 : zL w_59 3 a0 = true := by rw [ew_60]; exact hl_55
          have hl_62 : zL w_59 2 a1 = true := by rw [ew_60]; exact hl_56
          have hwf_63 : WF w_59 := by rw [ew_60]; exact hm_54.1
          refine v_goto (tgt := 82) hx dX3_readState_77 (by decide) ?_
          refine V.sb (L' := [none, none]) ⟨Or.inl rfl, Or.inl rfl, trivial⟩ ?_
          exact vX3_readState_b82 hx hq h
      · rw [if_neg hc_43] at h
        refine v_aload_n (pc' := 53) hx dX3_readState_52 rfl rfl ?_
        refine v_iconst (pc' := 54) (v := 2) hx dX3_readState_53 (by decide) rfl ?_
        refine v_putI (pc' := 57) hx hl_42 fi_2_2.1 fi_2_2.2.1 fi_2_2.2.2 fk_X3_82 dX3_readState_54 rfl ?_
        replace h := lt_inv h; obtain ⟨w_64, ew_65, h⟩ := h
        rw [← ew_65]
        have hl_66 : zL w_64 3 a0 = true := by rw [ew_65]; exact hl_41
        have hl_67 : zL w_64 2 a1 = true := by rw [ew_65]; exact hl_42
        have hwf_68 : WF w_64 := by rw [ew_65]; exact hm_40.1
        refine v_goto (tgt := 82) hx dX3_readState_57 (by decide) ?_
        refine V.sb (L' := [none, none]) ⟨Or.inl rfl, Or.inl rfl, trivial⟩ ?_
        exact vX3_readState_b82 hx hq h
    · rw [if_neg hc_29] at h
      refine v_aload_n (pc' := 33) hx dX3_readState_32 rfl rfl ?_
      refine v_iconst (pc' := 34) (v := 1) hx dX3_readState_33 (by decide) rfl ?_
      refine v_putI (pc' := 37) hx hl_28 fi_2_2.1 fi_2_2.2.1 fi_2_2.2.2 fk_X3_82 dX3_readState_34 rfl ?_
      replace h := lt_inv h; obtain ⟨w_69, ew_70, h⟩ := h
      rw [← ew_70]
      have hl_71 : zL w_69 3 a0 = true := by rw [ew_70]; exact hl_27
      have hl_72 : zL w_69 2 a1 = true := by rw [ew_70]; exact hl_28
      have hwf_73 : WF w_69 := by rw [ew_70]; exact hm_26.1
      refine v_goto (tgt := 82) hx dX3_readState_37 (by decide) ?_
      refine V.sb (L' := [none, none]) ⟨Or.inl rfl, Or.inl rfl, trivial⟩ ?_
      exact vX3_readState_b82 hx hq h
  · rw [if_neg hc_15] at h
    refine v_aload_n (pc' := 13) hx dX3_readState_12 rfl rfl ?_
    refine v_iconst (pc' := 14) (v := 0) hx dX3_readState_13 (by decide) rfl ?_
    refine v_putI (pc' := 17) hx hl_14 fi_2_2.1 fi_2_2.2.1 fi_2_2.2.2 fk_X3_82 dX3_readState_14 rfl ?_
    replace h := lt_inv h; obtain ⟨w_74, ew_75, h⟩ := h
    rw [← ew_75]
    have hl_76 : zL w_74 3 a0 = true := by rw [ew_75]; exact hl_13
    have hl_77 : zL w_74 2 a1 = true := by rw [ew_75]; exact hl_14
    have hwf_78 : WF w_74 := by rw [ew_75]; exact hm_12.1
    refine v_goto (tgt := 82) hx dX3_readState_17 (by decide) ?_
    refine V.sb (L' := [none, none]) ⟨Or.inl rfl, Or.inl rfl, trivial⟩ ?_
    exact vX3_readState_b82 hx hq h
theorem ctX3_readState (l : Launch) (D : DD) (w : Wd) (G : GT) (sz : Nat) (hR : Rp D w G sz) (a0 : Nat) (a1 : Nat) (hl0 : zL w 3 a0 = true) (hl1 : zL w 2 a1 = true) {r0 : Int32} {w0 : Wd} (h : fX3_readState a0 a1 w = some (r0, w0)) : MetI l yX3_readState (WS yX3_readState cX3_readState 2 (some .boolean)) rmX3_readState D [.ref a0, .ref a1] G sz r0 w0 := by
  refine MetI_ofV (own := RX3) (P := Rp D w) hR (by decide) rfl (by simp [Value.category]) (Nat.le_of_ble_eq_true rfl) (fun x hx hq hD hl => ?_)
  subst hD
  exact vX3_readState hx hq a0 a1 hl0 hl1 h
theorem kX3_readCounter_b28 {r0 : Int32} {w0 : Wd} {xs0 : Int32} {w wb : Wd} (hm : mo wb w) (h : fX3_readCounter_b28 xs0 w = some (r0, w0)) : mo wb w0 := by
  unfold fX3_readCounter_b28 at h
  replace h := ckp_inv h; obtain ⟨hk_1, h⟩ := h
  cases h; exact hm
theorem kX3_readCounter {r0 : Int32} {w0 : Wd} {a0 : Nat} {a1 : Nat} {w : Wd} (h : fX3_readCounter a0 a1 w = some (r0, w0)) : mo w w0 := by
  have hm := mo_rf w
  unfold fX3_readCounter at h
  replace h := lt_inv h; obtain ⟨u_1, er_2, h⟩ := h
  replace h := nn_inv h; obtain ⟨b_5, rfl, h⟩ := h
  replace h := bd2_inv h; obtain ⟨y_8, w_9, hcl_7, h⟩ := h
  have hm := hm.tr (kX4_takeNumber hcl_7)
  replace h := lt_inv h; obtain ⟨w_15, ew_16, h⟩ := h
  have hm := mo_eI hm ew_16
  by_cases hc_20 : (zI w_15 2 a1 3 0) = (-1)
  · rw [if_pos hc_20] at h
    exact kX3_readCounter_b28 hm h
  · rw [if_neg hc_20] at h
    exact kX3_readCounter_b28 hm h
theorem vX3_readCounter_b28 {x : CT} (hx : CX x cX3_readCounter RX3 rmX3_readCounter (some .boolean)) {r0 : Int32} {w0 : Wd} (hq : RI x rmX3_readCounter r0 w0) {xs0 : Int32} {w : Wd} (h : fX3_readCounter_b28 xs0 w = some (r0, w0)) : V x 28 [none, none] [.int xs0] (Rp (xD x) w) 0 0 := by
  unfold fX3_readCounter_b28 at h
  replace h := ckp_inv h; obtain ⟨hk_1, h⟩ := h
  exact v_zret hx hq (by decide) (by decide) dX3_readCounter_28 hk_1 (by cases h; rfl)
theorem vX3_readCounter {x : CT} (hx : CX x cX3_readCounter RX3 rmX3_readCounter (some .boolean)) {r0 : Int32} {w0 : Wd} {w : Wd} (hq : RI x rmX3_readCounter r0 w0) (a0 : Nat) (a1 : Nat) (hl0 : zL w 3 a0 = true) (hl1 : zL w 2 a1 = true) (h : fX3_readCounter a0 a1 w = some (r0, w0)) : V x 0 [some (.ref a0), some (.ref a1)] [] (Rp (xD x) w) 0 0 := by
  unfold fX3_readCounter at h
  refine v_aload_n (pc' := 1) hx dX3_readCounter_0 rfl rfl ?_
  refine v_aload_n (pc' := 2) hx dX3_readCounter_1 rfl rfl ?_
  refine v_getR (pc' := 5) hx hl0 fi_3_0.1 fi_3_0.2.1 fk_X3_9 dX3_readCounter_2 rfl ?_
  replace h := lt_inv h; obtain ⟨u_1, er_2, h⟩ := h
  rw [← er_2]
  refine v_liv hl0 (fun ht_3 => ?_)
  have hl_4 : ∀ b, u_1 = some b → zL w 4 b = true := fun b hb => ht_3 0 _ b (er_2.symm.trans hb)
  refine v_iconst (pc' := 6) (v := 4) hx dX3_readCounter_5 (by decide) rfl ?_
  refine v_sipush (pc' := 9) (v := 9999) hx dX3_readCounter_6 (by decide) rfl ?_
  replace h := nn_inv h; obtain ⟨b_5, rfl, h⟩ := h
  have hl_6 : zL w 4 b_5 = true := hl_4 _ rfl
  replace h := bd2_inv h; obtain ⟨y_8, w_9, hcl_7, h⟩ := h
  refine v_wf (fun hwf_10 => ?_)
  refine v_callVi (pc' := 12) (w' := w_9) (r := y_8) (ci := 4) (b := b_5) (As := [.int 4, .int 9999]) (rest := [.ref a1]) hx hl_6 (fun G sz hR => ctX4_takeNumber (xl x) (xD x) w G sz hR b_5 4 9999 hl_6 hcl_7) rfl my_X4_takeNumber ml_X3_67 ⟨by decide, by decide⟩ ⟨by decide, by decide⟩ rfl rfl (Nat.le_of_ble_eq_true rfl) dX3_readCounter_9 rfl ?_
  have hm_12 := kX4_takeNumber hcl_7 hwf_10
  have hl_13 : zL w_9 3 a0 = true := (hm_12.2 _ _ hl0).1
  have hl_14 : zL w_9 2 a1 = true := (hm_12.2 _ _ hl1).1
  refine v_putI (pc' := 15) hx hl_14 fi_2_3.1 fi_2_3.2.1 fi_2_3.2.2 fk_X3_85 dX3_readCounter_12 rfl ?_
  replace h := lt_inv h; obtain ⟨w_15, ew_16, h⟩ := h
  rw [← ew_16]
  have hl_17 : zL w_15 3 a0 = true := by rw [ew_16]; exact hl_13
  have hl_18 : zL w_15 2 a1 = true := by rw [ew_16]; exact hl_14
  have hwf_19 : WF w_15 := by rw [ew_16]; exact hm_12.1
  refine v_aload_n (pc' := 16) hx dX3_readCounter_15 rfl rfl ?_
  refine v_getI (pc' := 19) hx hl_18 fi_2_3.1 fi_2_3.2.1 fk_X3_85 dX3_readCounter_16 rfl ?_
  refine v_iconst (pc' := 20) (v := (-1)) hx dX3_readCounter_19 (by decide) rfl ?_
  refine v_icmp_eq (tgt := 27) (pc' := 23) hx dX3_readCounter_20 (by decide) rfl (fun hc_20 => ?_) (fun hc_20 => ?_)
  · rw [if_pos hc_20] at h
    refine v_iconst (pc' := 28) (v := 0) hx dX3_readCounter_27 (by decide) rfl ?_
    refine V.sb (L' := [none, none]) ⟨Or.inl rfl, Or.inl rfl, trivial⟩ ?_
    exact vX3_readCounter_b28 hx hq h
  · rw [if_neg hc_20] at h
    refine v_iconst (pc' := 24) (v := 1) hx dX3_readCounter_23 (by decide) rfl ?_
    refine v_goto (tgt := 28) hx dX3_readCounter_24 (by decide) ?_
    refine V.sb (L' := [none, none]) ⟨Or.inl rfl, Or.inl rfl, trivial⟩ ?_
    exact vX3_readCounter_b28 hx hq h
theorem ctX3_readCounter (l : Launch) (D : DD) (w : Wd) (G : GT) (sz : Nat) (hR : Rp D w G sz) (a0 : Nat) (a1 : Nat) (hl0 : zL w 3 a0 = true) (hl1 : zL w 2 a1 = true) {r0 : Int32} {w0 : Wd} (h : fX3_readCounter a0 a1 w = some (r0, w0)) : MetI l yX3_readCounter (WS yX3_readCounter cX3_readCounter 2 (some .boolean)) rmX3_readCounter D [.ref a0, .ref a1] G sz r0 w0 := by
  refine MetI_ofV (own := RX3) (P := Rp D w) hR (by decide) rfl (by simp [Value.category]) (Nat.le_of_ble_eq_true rfl) (fun x hx hq hD hl => ?_)
  subst hD
  exact vX3_readCounter hx hq a0 a1 hl0 hl1 h
theorem vX5_hasBit_b13 {x : CT} (hx : CX x cX5_hasBit RX5 rmX5_hasBit (some .boolean)) {r0 : Int32} {w : Wd} (hq : RI x rmX5_hasBit r0 w) {xs0 : Int32} (h : fX5_hasBit_b13 w xs0 = some r0) : V x 13 [none, none] [.int xs0] (Rp (xD x) w) 0 0 := by
  unfold fX5_hasBit_b13 at h
  replace h := ckp_inv h; obtain ⟨hk_1, h⟩ := h
  exact v_zret hx hq (by decide) (by decide) dX5_hasBit_13 hk_1 (by cases h; rfl)
theorem vX5_hasBit {x : CT} (hx : CX x cX5_hasBit RX5 rmX5_hasBit (some .boolean)) {r0 : Int32} {w : Wd} (hq : RI x rmX5_hasBit r0 w) (x0 : Int32) (x1 : Int32) (h : fX5_hasBit x0 x1 w = some r0) : V x 0 [some (.int x0), some (.int x1)] [] (Rp (xD x) w) 0 0 := by
  unfold fX5_hasBit at h
  refine v_iload_n (pc' := 1) hx dX5_hasBit_0 rfl rfl ?_
  refine v_iload_n (pc' := 2) hx dX5_hasBit_1 rfl rfl ?_
  refine v_ishr (pc' := 3) hx dX5_hasBit_2 rfl ?_
  refine v_iconst (pc' := 4) (v := 1) hx dX5_hasBit_3 (by decide) rfl ?_
  refine v_iand (pc' := 5) hx dX5_hasBit_4 rfl ?_
  refine v_if_eq (tgt := 12) (pc' := 8) hx dX5_hasBit_5 (by decide) rfl (fun hc_1 => ?_) (fun hc_1 => ?_)
  · rw [if_pos hc_1] at h
    refine v_iconst (pc' := 13) (v := 0) hx dX5_hasBit_12 (by decide) rfl ?_
    refine V.sb (L' := [none, none]) ⟨Or.inl rfl, Or.inl rfl, trivial⟩ ?_
    exact vX5_hasBit_b13 hx hq h
  · rw [if_neg hc_1] at h
    refine v_iconst (pc' := 9) (v := 1) hx dX5_hasBit_8 (by decide) rfl ?_
    refine v_goto (tgt := 13) hx dX5_hasBit_9 (by decide) ?_
    refine V.sb (L' := [none, none]) ⟨Or.inl rfl, Or.inl rfl, trivial⟩ ?_
    exact vX5_hasBit_b13 hx hq h
theorem ctX5_hasBit (l : Launch) (D : DD) (w : Wd) (G : GT) (sz : Nat) (hR : Rp D w G sz) (x0 : Int32) (x1 : Int32) {r0 : Int32} (h : fX5_hasBit x0 x1 w = some r0) : MetI l yX5_hasBit (WS yX5_hasBit cX5_hasBit 2 (some .boolean)) rmX5_hasBit D [.int x0, .int x1] G sz r0 w := by
  refine MetI_ofV (own := RX5) (P := Rp D w) hR (by decide) rfl (by simp [Value.category]) (Nat.le_of_ble_eq_true rfl) (fun x hx hq hD hl => ?_)
  subst hD
  exact vX5_hasBit hx hq x0 x1  h
theorem vX2_holds {x : CT} (hx : CX x cX2_holds RX2 rmX2_holds (some .boolean)) {r0 : Int32} {w : Wd} (hq : RI x rmX2_holds r0 w) (a0 : Nat) (x1 : Int32) (hl0 : zL w 2 a0 = true) (h : fX2_holds a0 x1 w = some r0) : V x 0 [some (.ref a0), some (.int x1)] [] (Rp (xD x) w) 0 0 := by
  unfold fX2_holds at h
  refine v_aload_n (pc' := 1) hx dX2_holds_0 rfl rfl ?_
  refine v_getI (pc' := 4) hx hl0 fi_2_4.1 fi_2_4.2.1 fk_X2_25 dX2_holds_1 rfl ?_
  refine v_iload_n (pc' := 5) hx dX2_holds_4 rfl rfl ?_
  replace h := bd_inv h; obtain ⟨y_2, hcl_1, h⟩ := h
  refine v_callSi (pc' := 8) (w' := w) (r := y_2) (As := [.int (zI w 2 a0 4 0), .int x1]) (rest := []) hx (fun G sz hR => ctX5_hasBit (xl x) (xD x) w G sz hR (zI w 2 a0 4 0) x1  hcl_1) my_X5_hasBit ml_X2_28 ⟨by decide, by decide⟩ ⟨by decide, by decide⟩ rfl rfl (Nat.le_of_ble_eq_true rfl) dX2_holds_5 rfl ?_
  replace h := ckp_inv h; obtain ⟨hk_4, h⟩ := h
  exact v_zret hx hq (by decide) (by decide) dX2_holds_8 hk_4 (by cases h; rfl)
theorem ctX2_holds (l : Launch) (D : DD) (w : Wd) (G : GT) (sz : Nat) (hR : Rp D w G sz) (a0 : Nat) (x1 : Int32) (hl0 : zL w 2 a0 = true) {r0 : Int32} (h : fX2_holds a0 x1 w = some r0) : MetI l yX2_holds (WS yX2_holds cX2_holds 2 (some .boolean)) rmX2_holds D [.ref a0, .int x1] G sz r0 w := by
  refine MetI_ofV (own := RX2) (P := Rp D w) hR (by decide) rfl (by simp [Value.category]) (Nat.le_of_ble_eq_true rfl) (fun x hx hq hD hl => ?_)
  subst hD
  exact vX2_holds hx hq a0 x1 hl0 h
theorem vX5_isLock_b15 {x : CT} (hx : CX x cX5_isLock RX5 rmX5_isLock (some .boolean)) {r0 : Int32} {w : Wd} (hq : RI x rmX5_isLock r0 w) {xs0 : Int32} (h : fX5_isLock_b15 w xs0 = some r0) : V x 15 [none] [.int xs0] (Rp (xD x) w) 0 0 := by
  unfold fX5_isLock_b15 at h
  replace h := ckp_inv h; obtain ⟨hk_1, h⟩ := h
  exact v_zret hx hq (by decide) (by decide) dX5_isLock_15 hk_1 (by cases h; rfl)
theorem vX5_isLock_b14 {x : CT} (hx : CX x cX5_isLock RX5 rmX5_isLock (some .boolean)) {r0 : Int32} {w : Wd} (hq : RI x rmX5_isLock r0 w) (h : fX5_isLock_b14 w = some r0) : V x 14 [none] [] (Rp (xD x) w) 0 0 := by
  unfold fX5_isLock_b14 at h
  refine v_iconst (pc' := 15) (v := 0) hx dX5_isLock_14 (by decide) rfl ?_
  exact vX5_isLock_b15 hx hq h
theorem vX5_isLock {x : CT} (hx : CX x cX5_isLock RX5 rmX5_isLock (some .boolean)) {r0 : Int32} {w : Wd} (hq : RI x rmX5_isLock r0 w) (x0 : Int32) (h : fX5_isLock x0 w = some r0) : V x 0 [some (.int x0)] [] (Rp (xD x) w) 0 0 := by
  unfold fX5_isLock at h
  refine v_iload_n (pc' := 1) hx dX5_isLock_0 rfl rfl ?_
  refine v_if_lt (tgt := 14) (pc' := 4) hx dX5_isLock_1 (by decide) rfl (fun hc_1 => ?_) (fun hc_1 => ?_)
  · rw [if_pos hc_1] at h
    refine V.sb (L' := [none]) ⟨Or.inl rfl, trivial⟩ ?_
    exact vX5_isLock_b14 hx hq h
  · rw [if_neg hc_1] at h
    refine v_iload_n (pc' := 5) hx dX5_isLock_4 rfl rfl ?_
    refine v_bipush (pc' := 7) (v := 16) hx dX5_isLock_5 (by decide) rfl ?_
    refine v_icmp_ge (tgt := 14) (pc' := 10) hx dX5_isLock_7 (by decide) rfl (fun hc_2 => ?_) (fun hc_2 => ?_)
    · rw [if_pos hc_2] at h
      refine V.sb (L' := [none]) ⟨Or.inl rfl, trivial⟩ ?_
      exact vX5_isLock_b14 hx hq h
    · rw [if_neg hc_2] at h
      refine v_iconst (pc' := 11) (v := 1) hx dX5_isLock_10 (by decide) rfl ?_
      refine v_goto (tgt := 15) hx dX5_isLock_11 (by decide) ?_
      refine V.sb (L' := [none]) ⟨Or.inl rfl, trivial⟩ ?_
      exact vX5_isLock_b15 hx hq h
theorem ctX5_isLock (l : Launch) (D : DD) (w : Wd) (G : GT) (sz : Nat) (hR : Rp D w G sz) (x0 : Int32) {r0 : Int32} (h : fX5_isLock x0 w = some r0) : MetI l yX5_isLock (WS yX5_isLock cX5_isLock 1 (some .boolean)) rmX5_isLock D [.int x0] G sz r0 w := by
  refine MetI_ofV (own := RX5) (P := Rp D w) hR (by decide) rfl (by simp [Value.category]) (Nat.le_of_ble_eq_true rfl) (fun x hx hq hD hl => ?_)
  subst hD
  exact vX5_isLock hx hq x0  h
theorem vX1_holderOf_b17 {x : CT} (hx : CX x cX1_holderOf RX1 rmX1_holderOf (some .int)) {r0 : Int32} {w : Wd} (hq : RI x rmX1_holderOf r0 w) {xs0 : Int32} (h : fX1_holderOf_b17 w xs0 = some r0) : V x 17 [none, none] [.int xs0] (Rp (xD x) w) 0 0 := by
  unfold fX1_holderOf_b17 at h
  exact v_iret hx hq (by decide) (by decide) dX1_holderOf_17 (by cases h; rfl)
theorem vX1_holderOf {x : CT} (hx : CX x cX1_holderOf RX1 rmX1_holderOf (some .int)) {r0 : Int32} {w : Wd} (hq : RI x rmX1_holderOf r0 w) (a0 : Nat) (x1 : Int32) (hl0 : zL w 1 a0 = true) (h : fX1_holderOf a0 x1 w = some r0) : V x 0 [some (.ref a0), some (.int x1)] [] (Rp (xD x) w) 0 0 := by
  unfold fX1_holderOf at h
  refine v_iload_n (pc' := 1) hx dX1_holderOf_0 rfl rfl ?_
  replace h := bd_inv h; obtain ⟨y_2, hcl_1, h⟩ := h
  refine v_callSi (pc' := 4) (w' := w) (r := y_2) (As := [.int x1]) (rest := []) hx (fun G sz hR => ctX5_isLock (xl x) (xD x) w G sz hR x1  hcl_1) my_X5_isLock ml_X1_72 ⟨by decide, by decide⟩ ⟨by decide, by decide⟩ rfl rfl (Nat.le_of_ble_eq_true rfl) dX1_holderOf_1 rfl ?_
  refine v_if_eq (tgt := 16) (pc' := 7) hx dX1_holderOf_4 (by decide) rfl (fun hc_4 => ?_) (fun hc_4 => ?_)
  · rw [if_pos hc_4] at h
    refine v_iconst (pc' := 17) (v := (-1)) hx dX1_holderOf_16 (by decide) rfl ?_
    refine V.sb (L' := [none, none]) ⟨Or.inl rfl, Or.inl rfl, trivial⟩ ?_
    exact vX1_holderOf_b17 hx hq h
  · rw [if_neg hc_4] at h
    refine v_aload_n (pc' := 8) hx dX1_holderOf_7 rfl rfl ?_
    obtain ⟨g_5, hq_6⟩ : ∃ q, zA w 1 a0 2 = q := ⟨_, rfl⟩
    refine v_getAq (pc' := 11) hx hl0 fi_1_2.1 (by decide) hq_6 fk_X1_21 dX1_holderOf_8 rfl ?_
    refine v_iload_n (pc' := 12) hx dX1_holderOf_11 rfl rfl ?_
    replace h := ckp_inv h; obtain ⟨hk_7, h⟩ := h
    refine v_ialdq (pc' := 13) hx hl0 fi_1_2.1 fi_1_2.2.1 rfl hk_7 hq_6 dX1_holderOf_12 rfl ?_
    refine v_goto (tgt := 17) hx dX1_holderOf_13 (by decide) ?_
    refine V.sb (L' := [none, none]) ⟨Or.inl rfl, Or.inl rfl, trivial⟩ ?_
    exact vX1_holderOf_b17 hx hq h
theorem ctX1_holderOf (l : Launch) (D : DD) (w : Wd) (G : GT) (sz : Nat) (hR : Rp D w G sz) (a0 : Nat) (x1 : Int32) (hl0 : zL w 1 a0 = true) {r0 : Int32} (h : fX1_holderOf a0 x1 w = some r0) : MetI l yX1_holderOf (WS yX1_holderOf cX1_holderOf 2 (some .int)) rmX1_holderOf D [.ref a0, .int x1] G sz r0 w := by
  refine MetI_ofV (own := RX1) (P := Rp D w) hR (by decide) rfl (by simp [Value.category]) (Nat.le_of_ble_eq_true rfl) (fun x hx hq hD hl => ?_)
  subst hD
  exact vX1_holderOf hx hq a0 x1 hl0 h
theorem kX3_readHeldLock_b53 {r0 : Int32} {w0 : Wd} {a1 : Nat} {x3 : Int32} {w wb : Wd} (hm : mo wb w) (h : fX3_readHeldLock_b53 a1 x3 w = some (r0, w0)) : mo wb w0 := by
  unfold fX3_readHeldLock_b53 at h
  by_cases hc_1 : x3 = (-1)
  · rw [if_pos hc_1] at h
    replace h := ckp_inv h; obtain ⟨hk_6, h⟩ := h
    cases h; exact hm
  · rw [if_neg hc_1] at h
    replace h := lt_inv h; obtain ⟨w_2, ew_3, h⟩ := h
    have hm := mo_eI hm ew_3
    replace h := ckp_inv h; obtain ⟨hk_5, h⟩ := h
    cases h; exact hm
theorem kX3_readHeldLock_b44 {r0 : Int32} {w0 : Wd} {a0 : Nat} {a1 : Nat} {x2 : Int32} {w wb : Wd} (hm : mo wb w) (h : fX3_readHeldLock_b44 a0 a1 x2 w = some (r0, w0)) : mo wb w0 := by
  unfold fX3_readHeldLock_b44 at h
  replace h := lt_inv h; obtain ⟨u_1, er_2, h⟩ := h
  replace h := nn_inv h; obtain ⟨b_5, rfl, h⟩ := h
  replace h := bd2_inv h; obtain ⟨y_8, w_9, hcl_7, h⟩ := h
  have hm := hm.tr (kX4_tearAt hcl_7)
  exact kX3_readHeldLock_b53 hm h
theorem kX3_readHeldLock {r0 : Int32} {w0 : Wd} {a0 : Nat} {a1 : Nat} {w : Wd} (h : fX3_readHeldLock a0 a1 w = some (r0, w0)) : mo w w0 := by
  have hm := mo_rf w
  unfold fX3_readHeldLock at h
  replace h := lt_inv h; obtain ⟨u_1, er_2, h⟩ := h
  replace h := nn_inv h; obtain ⟨b_5, rfl, h⟩ := h
  replace h := lt_inv h; obtain ⟨u_7, er_8, h⟩ := h
  replace h := nn_inv h; obtain ⟨b_11, rfl, h⟩ := h
  replace h := bd2_inv h; obtain ⟨y_14, w_15, hcl_13, h⟩ := h
  have hm := hm.tr (kX4_takeNumber hcl_13)
  by_cases hc_21 : y_14 = (-1)
  · rw [if_pos hc_21] at h
    exact kX3_readHeldLock_b53 hm h
  · rw [if_neg hc_21] at h
    replace h := bd_inv h; obtain ⟨y_23, hcl_22, h⟩ := h
    by_cases hc_25 : y_23 = 0
    · rw [if_pos hc_25] at h
      replace h := lt_inv h; obtain ⟨u_26, er_27, h⟩ := h
      replace h := nn_inv h; obtain ⟨b_30, rfl, h⟩ := h
      replace h := bd_inv h; obtain ⟨y_33, hcl_32, h⟩ := h
      by_cases hc_35 : y_33 = (-1)
      · rw [if_pos hc_35] at h
        exact kX3_readHeldLock_b53 hm h
      · rw [if_neg hc_35] at h
        exact kX3_readHeldLock_b44 hm h
    · rw [if_neg hc_25] at h
      exact kX3_readHeldLock_b44 hm h
theorem vX3_readHeldLock_b53 {x : CT} (hx : CX x cX3_readHeldLock RX3 rmX3_readHeldLock (some .boolean)) {r0 : Int32} {w0 : Wd} (hq : RI x rmX3_readHeldLock r0 w0) {a1 : Nat} {x3 : Int32} {w : Wd} (hl1 : zL w 2 a1 = true) (h : fX3_readHeldLock_b53 a1 x3 w = some (r0, w0)) : V x 53 [none, some (.ref a1), none, some (.int x3)] [] (Rp (xD x) w) 0 0 := by
  unfold fX3_readHeldLock_b53 at h
  refine v_iload_n (pc' := 54) hx dX3_readHeldLock_53 rfl rfl ?_
  refine v_iconst (pc' := 55) (v := (-1)) hx dX3_readHeldLock_54 (by decide) rfl ?_
  refine v_icmp_ne (tgt := 60) (pc' := 58) hx dX3_readHeldLock_55 (by decide) rfl (fun hc_1 => ?_) (fun hc_1 => ?_)
  · rw [if_neg hc_1] at h
    refine v_aload_n (pc' := 61) hx dX3_readHeldLock_60 rfl rfl ?_
    refine v_dup (pc' := 62) hx dX3_readHeldLock_61 rfl rfl ?_
    refine v_getI (pc' := 65) hx hl1 fi_2_4.1 fi_2_4.2.1 fk_X3_98 dX3_readHeldLock_62 rfl ?_
    refine v_iconst (pc' := 66) (v := 1) hx dX3_readHeldLock_65 (by decide) rfl ?_
    refine v_iload_n (pc' := 67) hx dX3_readHeldLock_66 rfl rfl ?_
    refine v_ishl (pc' := 68) hx dX3_readHeldLock_67 rfl ?_
    refine v_ior (pc' := 69) hx dX3_readHeldLock_68 rfl ?_
    refine v_putI (pc' := 72) hx hl1 fi_2_4.1 fi_2_4.2.1 fi_2_4.2.2 fk_X3_98 dX3_readHeldLock_69 rfl ?_
    replace h := lt_inv h; obtain ⟨w_2, ew_3, h⟩ := h
    rw [← ew_3]
    have hl_4 : zL w_2 2 a1 = true := by rw [ew_3]; exact hl1
    refine v_iconst (pc' := 73) (v := 1) hx dX3_readHeldLock_72 (by decide) rfl ?_
    replace h := ckp_inv h; obtain ⟨hk_5, h⟩ := h
    exact v_zret hx hq (by decide) (by decide) dX3_readHeldLock_73 hk_5 (by cases h; rfl)
  · rw [if_pos hc_1] at h
    refine v_iconst (pc' := 59) (v := 0) hx dX3_readHeldLock_58 (by decide) rfl ?_
    replace h := ckp_inv h; obtain ⟨hk_6, h⟩ := h
    exact v_zret hx hq (by decide) (by decide) dX3_readHeldLock_59 hk_6 (by cases h; rfl)
theorem vX3_readHeldLock_b44 {x : CT} (hx : CX x cX3_readHeldLock RX3 rmX3_readHeldLock (some .boolean)) {r0 : Int32} {w0 : Wd} (hq : RI x rmX3_readHeldLock r0 w0) {a0 : Nat} {a1 : Nat} {x2 : Int32} {w : Wd} (hl0 : zL w 3 a0 = true) (hl1 : zL w 2 a1 = true) (h : fX3_readHeldLock_b44 a0 a1 x2 w = some (r0, w0)) : V x 44 [some (.ref a0), some (.ref a1), some (.int x2), none] [] (Rp (xD x) w) 0 0 := by
  unfold fX3_readHeldLock_b44 at h
  refine v_aload_n (pc' := 45) hx dX3_readHeldLock_44 rfl rfl ?_
  refine v_getR (pc' := 48) hx hl0 fi_3_0.1 fi_3_0.2.1 fk_X3_9 dX3_readHeldLock_45 rfl ?_
  replace h := lt_inv h; obtain ⟨u_1, er_2, h⟩ := h
  rw [← er_2]
  refine v_liv hl0 (fun ht_3 => ?_)
  have hl_4 : ∀ b, u_1 = some b → zL w 4 b = true := fun b hb => ht_3 0 _ b (er_2.symm.trans hb)
  refine v_iload_n (pc' := 49) hx dX3_readHeldLock_48 rfl rfl ?_
  replace h := nn_inv h; obtain ⟨b_5, rfl, h⟩ := h
  have hl_6 : zL w 4 b_5 = true := hl_4 _ rfl
  replace h := bd2_inv h; obtain ⟨y_8, w_9, hcl_7, h⟩ := h
  refine v_wf (fun hwf_10 => ?_)
  refine v_callVi (pc' := 52) (w' := w_9) (r := y_8) (ci := 4) (b := b_5) (As := [.int x2]) (rest := []) hx hl_6 (fun G sz hR => ctX4_tearAt (xl x) (xD x) w G sz hR b_5 x2 hl_6 hcl_7) rfl my_X4_tearAt ml_X3_78 ⟨by decide, by decide⟩ ⟨by decide, by decide⟩ rfl rfl (Nat.le_of_ble_eq_true rfl) dX3_readHeldLock_49 rfl ?_
  have hm_12 := kX4_tearAt hcl_7 hwf_10
  have hl_13 : zL w_9 3 a0 = true := (hm_12.2 _ _ hl0).1
  have hl_14 : zL w_9 2 a1 = true := (hm_12.2 _ _ hl1).1
  refine v_istore_n (pc' := 53) (L' := [some (.ref a0), some (.ref a1), some (.int x2), some (.int y_8)]) hx dX3_readHeldLock_52 rfl rfl (Nat.le_of_ble_eq_true rfl) ?_
  refine V.sb (L' := [none, some (.ref a1), none, some (.int y_8)]) ⟨Or.inl rfl, Or.inr rfl, Or.inl rfl, Or.inr rfl, trivial⟩ ?_
  exact vX3_readHeldLock_b53 hx hq hl_14 h
theorem vX3_readHeldLock {x : CT} (hx : CX x cX3_readHeldLock RX3 rmX3_readHeldLock (some .boolean)) {r0 : Int32} {w0 : Wd} {w : Wd} (hq : RI x rmX3_readHeldLock r0 w0) (a0 : Nat) (a1 : Nat) (hl0 : zL w 3 a0 = true) (hl1 : zL w 2 a1 = true) (h : fX3_readHeldLock a0 a1 w = some (r0, w0)) : V x 0 [some (.ref a0), some (.ref a1), none, none] [] (Rp (xD x) w) 0 0 := by
  unfold fX3_readHeldLock at h
  refine v_aload_n (pc' := 1) hx dX3_readHeldLock_0 rfl rfl ?_
  refine v_getR (pc' := 4) hx hl0 fi_3_0.1 fi_3_0.2.1 fk_X3_9 dX3_readHeldLock_1 rfl ?_
  replace h := lt_inv h; obtain ⟨u_1, er_2, h⟩ := h
  rw [← er_2]
  refine v_liv hl0 (fun ht_3 => ?_)
  have hl_4 : ∀ b, u_1 = some b → zL w 4 b = true := fun b hb => ht_3 0 _ b (er_2.symm.trans hb)
  replace h := nn_inv h; obtain ⟨b_5, rfl, h⟩ := h
  have hl_6 : zL w 4 b_5 = true := hl_4 _ rfl
  refine v_getI (pc' := 7) hx hl_6 fi_4_3.1 fi_4_3.2.1 fk_X3_32 dX3_readHeldLock_4 rfl ?_
  refine v_istore_n (pc' := 8) (L' := [some (.ref a0), some (.ref a1), some (.int (zI w 4 b_5 3 0)), none]) hx dX3_readHeldLock_7 rfl rfl (Nat.le_of_ble_eq_true rfl) ?_
  refine v_aload_n (pc' := 9) hx dX3_readHeldLock_8 rfl rfl ?_
  refine v_getR (pc' := 12) hx hl0 fi_3_0.1 fi_3_0.2.1 fk_X3_9 dX3_readHeldLock_9 rfl ?_
  replace h := lt_inv h; obtain ⟨u_7, er_8, h⟩ := h
  rw [← er_8]
  refine v_liv hl0 (fun ht_9 => ?_)
  have hl_10 : ∀ b, u_7 = some b → zL w 4 b = true := fun b hb => ht_9 0 _ b (er_8.symm.trans hb)
  refine v_iconst (pc' := 13) (v := 2) hx dX3_readHeldLock_12 (by decide) rfl ?_
  refine v_bipush (pc' := 15) (v := 15) hx dX3_readHeldLock_13 (by decide) rfl ?_
  replace h := nn_inv h; obtain ⟨b_11, rfl, h⟩ := h
  have hl_12 : zL w 4 b_11 = true := hl_10 _ rfl
  replace h := bd2_inv h; obtain ⟨y_14, w_15, hcl_13, h⟩ := h
  refine v_wf (fun hwf_16 => ?_)
  refine v_callVi (pc' := 18) (w' := w_15) (r := y_14) (ci := 4) (b := b_11) (As := [.int 2, .int 15]) (rest := []) hx hl_12 (fun G sz hR => ctX4_takeNumber (xl x) (xD x) w G sz hR b_11 2 15 hl_12 hcl_13) rfl my_X4_takeNumber ml_X3_67 ⟨by decide, by decide⟩ ⟨by decide, by decide⟩ rfl rfl (Nat.le_of_ble_eq_true rfl) dX3_readHeldLock_15 rfl ?_
  have hm_18 := kX4_takeNumber hcl_13 hwf_16
  have hl_19 : zL w_15 3 a0 = true := (hm_18.2 _ _ hl0).1
  have hl_20 : zL w_15 2 a1 = true := (hm_18.2 _ _ hl1).1
  refine v_istore_n (pc' := 19) (L' := [some (.ref a0), some (.ref a1), some (.int (zI w 4 b_5 3 0)), some (.int y_14)]) hx dX3_readHeldLock_18 rfl rfl (Nat.le_of_ble_eq_true rfl) ?_
  refine v_iload_n (pc' := 20) hx dX3_readHeldLock_19 rfl rfl ?_
  refine v_iconst (pc' := 21) (v := (-1)) hx dX3_readHeldLock_20 (by decide) rfl ?_
  refine v_icmp_eq (tgt := 53) (pc' := 24) hx dX3_readHeldLock_21 (by decide) rfl (fun hc_21 => ?_) (fun hc_21 => ?_)
  · rw [if_pos hc_21] at h
    refine V.sb (L' := [none, some (.ref a1), none, some (.int y_14)]) ⟨Or.inl rfl, Or.inr rfl, Or.inl rfl, Or.inr rfl, trivial⟩ ?_
    exact vX3_readHeldLock_b53 hx hq hl_20 h
  · rw [if_neg hc_21] at h
    refine v_aload_n (pc' := 25) hx dX3_readHeldLock_24 rfl rfl ?_
    refine v_iload_n (pc' := 26) hx dX3_readHeldLock_25 rfl rfl ?_
    replace h := bd_inv h; obtain ⟨y_23, hcl_22, h⟩ := h
    refine v_callVi (pc' := 29) (w' := w_15) (r := y_23) (ci := 2) (b := a1) (As := [.int y_14]) (rest := []) hx hl_20 (fun G sz hR => ctX2_holds (xl x) (xD x) w_15 G sz hR a1 y_14 hl_20 hcl_22) rfl my_X2_holds ml_X3_91 ⟨by decide, by decide⟩ ⟨by decide, by decide⟩ rfl rfl (Nat.le_of_ble_eq_true rfl) dX3_readHeldLock_26 rfl ?_
    refine v_if_ne (tgt := 44) (pc' := 32) hx dX3_readHeldLock_29 (by decide) rfl (fun hc_25 => ?_) (fun hc_25 => ?_)
    · rw [if_neg hc_25] at h
      refine V.sb (L' := [some (.ref a0), some (.ref a1), some (.int (zI w 4 b_5 3 0)), none]) ⟨Or.inr rfl, Or.inr rfl, Or.inr rfl, Or.inl rfl, trivial⟩ ?_
      exact vX3_readHeldLock_b44 hx hq hl_19 hl_20 h
    · rw [if_pos hc_25] at h
      refine v_aload_n (pc' := 33) hx dX3_readHeldLock_32 rfl rfl ?_
      refine v_getR (pc' := 36) hx hl_19 fi_3_1.1 fi_3_1.2.1 fk_X3_15 dX3_readHeldLock_33 rfl ?_
      replace h := lt_inv h; obtain ⟨u_26, er_27, h⟩ := h
      rw [← er_27]
      refine v_liv hl_19 (fun ht_28 => ?_)
      have hl_29 : ∀ b, u_26 = some b → zL w_15 1 b = true := fun b hb => ht_28 1 _ b (er_27.symm.trans hb)
      refine v_iload_n (pc' := 37) hx dX3_readHeldLock_36 rfl rfl ?_
      replace h := nn_inv h; obtain ⟨b_30, rfl, h⟩ := h
      have hl_31 : zL w_15 1 b_30 = true := hl_29 _ rfl
      replace h := bd_inv h; obtain ⟨y_33, hcl_32, h⟩ := h
      refine v_callVi (pc' := 40) (w' := w_15) (r := y_33) (ci := 1) (b := b_30) (As := [.int y_14]) (rest := []) hx hl_31 (fun G sz hR => ctX1_holderOf (xl x) (xD x) w_15 G sz hR b_30 y_14 hl_31 hcl_32) rfl my_X1_holderOf ml_X3_95 ⟨by decide, by decide⟩ ⟨by decide, by decide⟩ rfl rfl (Nat.le_of_ble_eq_true rfl) dX3_readHeldLock_37 rfl ?_
      refine v_iconst (pc' := 41) (v := (-1)) hx dX3_readHeldLock_40 (by decide) rfl ?_
      refine v_icmp_eq (tgt := 53) (pc' := 44) hx dX3_readHeldLock_41 (by decide) rfl (fun hc_35 => ?_) (fun hc_35 => ?_)
      · rw [if_pos hc_35] at h
        refine V.sb (L' := [none, some (.ref a1), none, some (.int y_14)]) ⟨Or.inl rfl, Or.inr rfl, Or.inl rfl, Or.inr rfl, trivial⟩ ?_
        exact vX3_readHeldLock_b53 hx hq hl_20 h
      · rw [if_neg hc_35] at h
        refine V.sb (L' := [some (.ref a0), some (.ref a1), some (.int (zI w 4 b_5 3 0)), none]) ⟨Or.inr rfl, Or.inr rfl, Or.inr rfl, Or.inl rfl, trivial⟩ ?_
        exact vX3_readHeldLock_b44 hx hq hl_19 hl_20 h
theorem ctX3_readHeldLock (l : Launch) (D : DD) (w : Wd) (G : GT) (sz : Nat) (hR : Rp D w G sz) (a0 : Nat) (a1 : Nat) (hl0 : zL w 3 a0 = true) (hl1 : zL w 2 a1 = true) {r0 : Int32} {w0 : Wd} (h : fX3_readHeldLock a0 a1 w = some (r0, w0)) : MetI l yX3_readHeldLock (WS yX3_readHeldLock cX3_readHeldLock 4 (some .boolean)) rmX3_readHeldLock D [.ref a0, .ref a1] G sz r0 w0 := by
  refine MetI_ofV (own := RX3) (P := Rp D w) hR (by decide) rfl (by simp [Value.category]) (Nat.le_of_ble_eq_true rfl) (fun x hx hq hD hl => ?_)
  subst hD
  exact vX3_readHeldLock hx hq a0 a1 hl0 hl1 h
theorem kX3_readHeld_b55 {r0 : Int32} {w0 : Wd} {x2 : Int32} {w wb : Wd} (hm : mo wb w) (h : fX3_readHeld_b55 x2 w = some (r0, w0)) : mo wb w0 := by
  unfold fX3_readHeld_b55 at h
  replace h := ckp_inv h; obtain ⟨hk_1, h⟩ := h
  cases h; exact hm
theorem kX3_readHeld_b22 {r0 : Int32} {w0 : Wd} {rec22 : Nat → Nat → Int32 → Int32 → Wd → Option (Int32 × Wd)} {a0 : Nat} {a1 : Nat} {x2 : Int32} {x3 : Int32} {w wb : Wd} (hkr22 : ∀ (a0 : Nat) (a1 : Nat) (x2 : Int32) (x3 : Int32) (w : Wd), rec22 a0 a1 x2 x3 w = some (r0, w0) → mo wb w → mo wb w0) (hm : mo wb w) (h : fX3_readHeld_b22 rec22 a0 a1 x2 x3 w = some (r0, w0)) : mo wb w0 := by
  unfold fX3_readHeld_b22 at h
  by_cases hc_1 : 4 ≤ x3
  · rw [if_pos hc_1] at h
    exact kX3_readHeld_b55 hm h
  · rw [if_neg hc_1] at h
    by_cases hc_2 : x2 = 0
    · rw [if_pos hc_2] at h
      exact kX3_readHeld_b55 hm h
    · rw [if_neg hc_2] at h
      replace h := lt_inv h; obtain ⟨u_3, er_4, h⟩ := h
      replace h := nn_inv h; obtain ⟨b_7, rfl, h⟩ := h
      replace h := bd2_inv h; obtain ⟨y_10, w_11, hcl_9, h⟩ := h
      have hm := hm.tr (kX4_take hcl_9)
      by_cases hc_17 : y_10 = 0
      · rw [if_pos hc_17] at h
        exact kX3_readHeld_b55 hm h
      · rw [if_neg hc_17] at h
        replace h := bd2_inv h; obtain ⟨y_19, w_20, hcl_18, h⟩ := h
        have hm := hm.tr (kX3_readHeldLock hcl_18)
        exact hkr22 a0 a1 y_19 (x3 + 1) w_20 h hm
theorem kX3_readHeld_l22 {r0 : Int32} {w0 : Wd} {wb : Wd} : ∀ (n : Nat) (a0 : Nat) (a1 : Nat) (x2 : Int32) (x3 : Int32) (w : Wd), mo wb w → fX3_readHeld_l22  n a0 a1 x2 x3 w = some (r0, w0) → mo wb w0 := by
  intro n
  induction n with
  | zero => intro a0 a1 x2 x3 w hm h; cases h
  | succ n ih =>
    intro a0 a1 x2 x3 w hm h
    exact kX3_readHeld_b22  (fun a0 a1 x2 x3 w h hm => ih a0 a1 x2 x3 w hm h) hm h
theorem kX3_readHeld {r0 : Int32} {w0 : Wd} {a0 : Nat} {a1 : Nat} {w : Wd} (h : fX3_readHeld a0 a1 w = some (r0, w0)) : mo w w0 := by
  have hm := mo_rf w
  unfold fX3_readHeld at h
  replace h := lt_inv h; obtain ⟨u_1, er_2, h⟩ := h
  replace h := nn_inv h; obtain ⟨b_5, rfl, h⟩ := h
  replace h := bd2_inv h; obtain ⟨y_8, w_9, hcl_7, h⟩ := h
  have hm := hm.tr (kX4_take hcl_7)
  by_cases hc_15 : y_8 = 0
  · rw [if_pos hc_15] at h
    replace h := ckp_inv h; obtain ⟨hk_23, h⟩ := h
    cases h; exact hm
  · rw [if_neg hc_15] at h
    replace h := bd2_inv h; obtain ⟨y_17, w_18, hcl_16, h⟩ := h
    have hm := hm.tr (kX3_readHeldLock hcl_16)
    exact kX3_readHeld_l22 1000 a0 a1 y_17 1 w_18 hm h
theorem vX3_readHeld_b55 {x : CT} (hx : CX x cX3_readHeld RX3 rmX3_readHeld (some .boolean)) {r0 : Int32} {w0 : Wd} (hq : RI x rmX3_readHeld r0 w0) {x2 : Int32} {w : Wd} (h : fX3_readHeld_b55 x2 w = some (r0, w0)) : V x 55 [none, none, some (.int x2), none] [] (Rp (xD x) w) 0 0 := by
  unfold fX3_readHeld_b55 at h
  refine v_iload_n (pc' := 56) hx dX3_readHeld_55 rfl rfl ?_
  replace h := ckp_inv h; obtain ⟨hk_1, h⟩ := h
  exact v_zret hx hq (by decide) (by decide) dX3_readHeld_56 hk_1 (by cases h; rfl)
theorem vX3_readHeld_b22 {x : CT} (hx : CX x cX3_readHeld RX3 rmX3_readHeld (some .boolean)) {r0 : Int32} {w0 : Wd} (hq : RI x rmX3_readHeld r0 w0) {rec22 : Nat → Nat → Int32 → Int32 → Wd → Option (Int32 × Wd)} {a0 : Nat} {a1 : Nat} {x2 : Int32} {x3 : Int32} {w : Wd} (hrec22 : ∀ (a0 : Nat) (a1 : Nat) (x2 : Int32) (x3 : Int32) (w : Wd), rec22 a0 a1 x2 x3 w = some (r0, w0) → (zL w 3 a0 = true) → (zL w 2 a1 = true) → V x 22 [some (.ref a0), some (.ref a1), some (.int x2), some (.int x3)] [] (Rp (xD x) w) 0 0) (hl0 : zL w 3 a0 = true) (hl1 : zL w 2 a1 = true) (h : fX3_readHeld_b22 rec22 a0 a1 x2 x3 w = some (r0, w0)) : V x 22 [some (.ref a0), some (.ref a1), some (.int x2), some (.int x3)] [] (Rp (xD x) w) 0 0 := by
  unfold fX3_readHeld_b22 at h
  refine v_iload_n (pc' := 23) hx dX3_readHeld_22 rfl rfl ?_
  refine v_iconst (pc' := 24) (v := 4) hx dX3_readHeld_23 (by decide) rfl ?_
  refine v_icmp_ge (tgt := 55) (pc' := 27) hx dX3_readHeld_24 (by decide) rfl (fun hc_1 => ?_) (fun hc_1 => ?_)
  · rw [if_pos hc_1] at h
    refine V.sb (L' := [none, none, some (.int x2), none]) ⟨Or.inl rfl, Or.inl rfl, Or.inr rfl, Or.inl rfl, trivial⟩ ?_
    exact vX3_readHeld_b55 hx hq h
  · rw [if_neg hc_1] at h
    refine v_iload_n (pc' := 28) hx dX3_readHeld_27 rfl rfl ?_
    refine v_if_eq (tgt := 55) (pc' := 31) hx dX3_readHeld_28 (by decide) rfl (fun hc_2 => ?_) (fun hc_2 => ?_)
    · rw [if_pos hc_2] at h
      refine V.sb (L' := [none, none, some (.int x2), none]) ⟨Or.inl rfl, Or.inl rfl, Or.inr rfl, Or.inl rfl, trivial⟩ ?_
      exact vX3_readHeld_b55 hx hq h
    · rw [if_neg hc_2] at h
      refine v_aload_n (pc' := 32) hx dX3_readHeld_31 rfl rfl ?_
      refine v_getR (pc' := 35) hx hl0 fi_3_0.1 fi_3_0.2.1 fk_X3_9 dX3_readHeld_32 rfl ?_
      replace h := lt_inv h; obtain ⟨u_3, er_4, h⟩ := h
      rw [← er_4]
      refine v_liv hl0 (fun ht_5 => ?_)
      have hl_6 : ∀ b, u_3 = some b → zL w 4 b = true := fun b hb => ht_5 0 _ b (er_4.symm.trans hb)
      refine v_bipush (pc' := 37) (v := 44) hx dX3_readHeld_35 (by decide) rfl ?_
      replace h := nn_inv h; obtain ⟨b_7, rfl, h⟩ := h
      have hl_8 : zL w 4 b_7 = true := hl_6 _ rfl
      replace h := bd2_inv h; obtain ⟨y_10, w_11, hcl_9, h⟩ := h
      refine v_wf (fun hwf_12 => ?_)
      refine v_callVi (pc' := 40) (w' := w_11) (r := y_10) (ci := 4) (b := b_7) (As := [.int 44]) (rest := []) hx hl_8 (fun G sz hR => ctX4_take (xl x) (xD x) w G sz hR b_7 44 hl_8 hcl_9) rfl my_X4_take ml_X3_19 ⟨by decide, by decide⟩ ⟨by decide, by decide⟩ rfl rfl (Nat.le_of_ble_eq_true rfl) dX3_readHeld_37 rfl ?_
      have hm_14 := kX4_take hcl_9 hwf_12
      have hl_15 : zL w_11 3 a0 = true := (hm_14.2 _ _ hl0).1
      have hl_16 : zL w_11 2 a1 = true := (hm_14.2 _ _ hl1).1
      refine v_if_eq (tgt := 55) (pc' := 43) hx dX3_readHeld_40 (by decide) rfl (fun hc_17 => ?_) (fun hc_17 => ?_)
      · rw [if_pos hc_17] at h
        refine V.sb (L' := [none, none, some (.int x2), none]) ⟨Or.inl rfl, Or.inl rfl, Or.inr rfl, Or.inl rfl, trivial⟩ ?_
        exact vX3_readHeld_b55 hx hq h
      · rw [if_neg hc_17] at h
        refine v_aload_n (pc' := 44) hx dX3_readHeld_43 rfl rfl ?_
        refine v_aload_n (pc' := 45) hx dX3_readHeld_44 rfl rfl ?_
        replace h := bd2_inv h; obtain ⟨y_19, w_20, hcl_18, h⟩ := h
        refine v_callVi (pc' := 48) (w' := w_20) (r := y_19) (ci := 3) (b := a0) (As := [.ref a1]) (rest := []) hx hl_15 (fun G sz hR => ctX3_readHeldLock (xl x) (xD x) w_11 G sz hR a0 a1 hl_15 hl_16 hcl_18) rfl my_X3_readHeldLock ml_X3_88 ⟨by decide, by decide⟩ ⟨by decide, by decide⟩ rfl rfl (Nat.le_of_ble_eq_true rfl) dX3_readHeld_45 rfl ?_
        have hm_22 := kX3_readHeldLock hcl_18 hm_14.1
        have hl_23 : zL w_20 3 a0 = true := (hm_22.2 _ _ hl_15).1
        have hl_24 : zL w_20 2 a1 = true := (hm_22.2 _ _ hl_16).1
        refine v_istore_n (pc' := 49) (L' := [some (.ref a0), some (.ref a1), some (.int y_19), some (.int x3)]) hx dX3_readHeld_48 rfl rfl (Nat.le_of_ble_eq_true rfl) ?_
        refine v_iinc (pc' := 52) (w0 := (x3 + 1)) (L' := [some (.ref a0), some (.ref a1), some (.int y_19), some (.int (x3 + 1))]) hx dX3_readHeld_49 rfl rfl rfl rfl ?_
        refine v_goto (tgt := 22) hx dX3_readHeld_52 (by decide) ?_
        exact hrec22 a0 a1 y_19 (x3 + 1) w_20 h hl_23 hl_24
theorem vX3_readHeld_l22 {x : CT} (hx : CX x cX3_readHeld RX3 rmX3_readHeld (some .boolean)) {r0 : Int32} {w0 : Wd} (hq : RI x rmX3_readHeld r0 w0) : ∀ (n : Nat) (a0 : Nat) (a1 : Nat) (x2 : Int32) (x3 : Int32) (w : Wd), (zL w 3 a0 = true) → (zL w 2 a1 = true) → fX3_readHeld_l22  n a0 a1 x2 x3 w = some (r0, w0) → V x 22 [some (.ref a0), some (.ref a1), some (.int x2), some (.int x3)] [] (Rp (xD x) w) 0 0 := by
  intro n
  induction n with
  | zero => intro a0 a1 x2 x3 w hl0 hl1 h; cases h
  | succ n ih =>
    intro a0 a1 x2 x3 w hl0 hl1 h
    exact vX3_readHeld_b22 hx hq  (fun a0 a1 x2 x3 w h hl0 hl1 => ih a0 a1 x2 x3 w hl0 hl1 h) hl0 hl1 h
theorem vX3_readHeld {x : CT} (hx : CX x cX3_readHeld RX3 rmX3_readHeld (some .boolean)) {r0 : Int32} {w0 : Wd} {w : Wd} (hq : RI x rmX3_readHeld r0 w0) (a0 : Nat) (a1 : Nat) (hl0 : zL w 3 a0 = true) (hl1 : zL w 2 a1 = true) (h : fX3_readHeld a0 a1 w = some (r0, w0)) : V x 0 [some (.ref a0), some (.ref a1), none, none] [] (Rp (xD x) w) 0 0 := by
  unfold fX3_readHeld at h
  refine v_aload_n (pc' := 1) hx dX3_readHeld_0 rfl rfl ?_
  refine v_getR (pc' := 4) hx hl0 fi_3_0.1 fi_3_0.2.1 fk_X3_9 dX3_readHeld_1 rfl ?_
  replace h := lt_inv h; obtain ⟨u_1, er_2, h⟩ := h
  rw [← er_2]
  refine v_liv hl0 (fun ht_3 => ?_)
  have hl_4 : ∀ b, u_1 = some b → zL w 4 b = true := fun b hb => ht_3 0 _ b (er_2.symm.trans hb)
  refine v_bipush (pc' := 6) (v := 104) hx dX3_readHeld_4 (by decide) rfl ?_
  replace h := nn_inv h; obtain ⟨b_5, rfl, h⟩ := h
  have hl_6 : zL w 4 b_5 = true := hl_4 _ rfl
  replace h := bd2_inv h; obtain ⟨y_8, w_9, hcl_7, h⟩ := h
  refine v_wf (fun hwf_10 => ?_)
  refine v_callVi (pc' := 9) (w' := w_9) (r := y_8) (ci := 4) (b := b_5) (As := [.int 104]) (rest := []) hx hl_6 (fun G sz hR => ctX4_take (xl x) (xD x) w G sz hR b_5 104 hl_6 hcl_7) rfl my_X4_take ml_X3_19 ⟨by decide, by decide⟩ ⟨by decide, by decide⟩ rfl rfl (Nat.le_of_ble_eq_true rfl) dX3_readHeld_6 rfl ?_
  have hm_12 := kX4_take hcl_7 hwf_10
  have hl_13 : zL w_9 3 a0 = true := (hm_12.2 _ _ hl0).1
  have hl_14 : zL w_9 2 a1 = true := (hm_12.2 _ _ hl1).1
  refine v_if_ne (tgt := 14) (pc' := 12) hx dX3_readHeld_9 (by decide) rfl (fun hc_15 => ?_) (fun hc_15 => ?_)
  · rw [if_neg hc_15] at h
    refine v_aload_n (pc' := 15) hx dX3_readHeld_14 rfl rfl ?_
    refine v_aload_n (pc' := 16) hx dX3_readHeld_15 rfl rfl ?_
    replace h := bd2_inv h; obtain ⟨y_17, w_18, hcl_16, h⟩ := h
    refine v_callVi (pc' := 19) (w' := w_18) (r := y_17) (ci := 3) (b := a0) (As := [.ref a1]) (rest := []) hx hl_13 (fun G sz hR => ctX3_readHeldLock (xl x) (xD x) w_9 G sz hR a0 a1 hl_13 hl_14 hcl_16) rfl my_X3_readHeldLock ml_X3_88 ⟨by decide, by decide⟩ ⟨by decide, by decide⟩ rfl rfl (Nat.le_of_ble_eq_true rfl) dX3_readHeld_16 rfl ?_
    have hm_20 := kX3_readHeldLock hcl_16 hm_12.1
    have hl_21 : zL w_18 3 a0 = true := (hm_20.2 _ _ hl_13).1
    have hl_22 : zL w_18 2 a1 = true := (hm_20.2 _ _ hl_14).1
    refine v_istore_n (pc' := 20) (L' := [some (.ref a0), some (.ref a1), some (.int y_17), none]) hx dX3_readHeld_19 rfl rfl (Nat.le_of_ble_eq_true rfl) ?_
    refine v_iconst (pc' := 21) (v := 1) hx dX3_readHeld_20 (by decide) rfl ?_
    refine v_istore_n (pc' := 22) (L' := [some (.ref a0), some (.ref a1), some (.int y_17), some (.int 1)]) hx dX3_readHeld_21 rfl rfl (Nat.le_of_ble_eq_true rfl) ?_
    exact vX3_readHeld_l22 hx hq 1000 a0 a1 y_17 1 w_18 hl_21 hl_22 h
  · rw [if_pos hc_15] at h
    refine v_iconst (pc' := 13) (v := 1) hx dX3_readHeld_12 (by decide) rfl ?_
    replace h := ckp_inv h; obtain ⟨hk_23, h⟩ := h
    exact v_zret hx hq (by decide) (by decide) dX3_readHeld_13 hk_23 (by cases h; rfl)
theorem ctX3_readHeld (l : Launch) (D : DD) (w : Wd) (G : GT) (sz : Nat) (hR : Rp D w G sz) (a0 : Nat) (a1 : Nat) (hl0 : zL w 3 a0 = true) (hl1 : zL w 2 a1 = true) {r0 : Int32} {w0 : Wd} (h : fX3_readHeld a0 a1 w = some (r0, w0)) : MetI l yX3_readHeld (WS yX3_readHeld cX3_readHeld 4 (some .boolean)) rmX3_readHeld D [.ref a0, .ref a1] G sz r0 w0 := by
  refine MetI_ofV (own := RX3) (P := Rp D w) hR (by decide) rfl (by simp [Value.category]) (Nat.le_of_ble_eq_true rfl) (fun x hx hq hD hl => ?_)
  subst hD
  exact vX3_readHeld hx hq a0 a1 hl0 hl1 h
theorem kX3_readWait_b59 {r0 : Int32} {w0 : Wd} {xs0 : Int32} {w wb : Wd} (hm : mo wb w) (h : fX3_readWait_b59 xs0 w = some (r0, w0)) : mo wb w0 := by
  unfold fX3_readWait_b59 at h
  replace h := ckp_inv h; obtain ⟨hk_1, h⟩ := h
  cases h; exact hm
theorem kX3_readWait_b18 {r0 : Int32} {w0 : Wd} {a0 : Nat} {a1 : Nat} {w wb : Wd} (hm : mo wb w) (h : fX3_readWait_b18 a0 a1 w = some (r0, w0)) : mo wb w0 := by
  unfold fX3_readWait_b18 at h
  replace h := lt_inv h; obtain ⟨u_1, er_2, h⟩ := h
  replace h := nn_inv h; obtain ⟨b_5, rfl, h⟩ := h
  replace h := bd2_inv h; obtain ⟨y_8, w_9, hcl_7, h⟩ := h
  have hm := hm.tr (kX4_take hcl_7)
  by_cases hc_15 : y_8 = 0
  · rw [if_pos hc_15] at h
    replace h := ckp_inv h; obtain ⟨hk_35, h⟩ := h
    cases h; exact hm
  · rw [if_neg hc_15] at h
    replace h := lt_inv h; obtain ⟨u_16, er_17, h⟩ := h
    replace h := nn_inv h; obtain ⟨b_20, rfl, h⟩ := h
    replace h := bd2_inv h; obtain ⟨y_23, w_24, hcl_22, h⟩ := h
    have hm := hm.tr (kX4_takeNumber hcl_22)
    replace h := lt_inv h; obtain ⟨w_29, ew_30, h⟩ := h
    have hm := mo_eI hm ew_30
    by_cases hc_34 : (zI w_29 2 a1 5 0) = (-1)
    · rw [if_pos hc_34] at h
      exact kX3_readWait_b59 hm h
    · rw [if_neg hc_34] at h
      exact kX3_readWait_b59 hm h
theorem kX3_readWait {r0 : Int32} {w0 : Wd} {a0 : Nat} {a1 : Nat} {w : Wd} (h : fX3_readWait a0 a1 w = some (r0, w0)) : mo w w0 := by
  have hm := mo_rf w
  unfold fX3_readWait at h
  by_cases hc_1 : (zI w 2 a1 2 0) = 1
  · rw [if_pos hc_1] at h
    exact kX3_readWait_b18 hm h
  · rw [if_neg hc_1] at h
    by_cases hc_2 : (zI w 2 a1 2 0) = 2
    · rw [if_pos hc_2] at h
      exact kX3_readWait_b18 hm h
    · rw [if_neg hc_2] at h
      replace h := ckp_inv h; obtain ⟨hk_3, h⟩ := h
      cases h; exact hm
theorem vX3_readWait_b59 {x : CT} (hx : CX x cX3_readWait RX3 rmX3_readWait (some .boolean)) {r0 : Int32} {w0 : Wd} (hq : RI x rmX3_readWait r0 w0) {xs0 : Int32} {w : Wd} (h : fX3_readWait_b59 xs0 w = some (r0, w0)) : V x 59 [none, none] [.int xs0] (Rp (xD x) w) 0 0 := by
  unfold fX3_readWait_b59 at h
  replace h := ckp_inv h; obtain ⟨hk_1, h⟩ := h
  exact v_zret hx hq (by decide) (by decide) dX3_readWait_59 hk_1 (by cases h; rfl)
theorem vX3_readWait_b18 {x : CT} (hx : CX x cX3_readWait RX3 rmX3_readWait (some .boolean)) {r0 : Int32} {w0 : Wd} (hq : RI x rmX3_readWait r0 w0) {a0 : Nat} {a1 : Nat} {w : Wd} (hl0 : zL w 3 a0 = true) (hl1 : zL w 2 a1 = true) (h : fX3_readWait_b18 a0 a1 w = some (r0, w0)) : V x 18 [some (.ref a0), some (.ref a1)] [] (Rp (xD x) w) 0 0 := by
  unfold fX3_readWait_b18 at h
  refine v_aload_n (pc' := 19) hx dX3_readWait_18 rfl rfl ?_
  refine v_getR (pc' := 22) hx hl0 fi_3_0.1 fi_3_0.2.1 fk_X3_9 dX3_readWait_19 rfl ?_
  replace h := lt_inv h; obtain ⟨u_1, er_2, h⟩ := h
  rw [← er_2]
  refine v_liv hl0 (fun ht_3 => ?_)
  have hl_4 : ∀ b, u_1 = some b → zL w 4 b = true := fun b hb => ht_3 0 _ b (er_2.symm.trans hb)
  refine v_bipush (pc' := 24) (v := 119) hx dX3_readWait_22 (by decide) rfl ?_
  replace h := nn_inv h; obtain ⟨b_5, rfl, h⟩ := h
  have hl_6 : zL w 4 b_5 = true := hl_4 _ rfl
  replace h := bd2_inv h; obtain ⟨y_8, w_9, hcl_7, h⟩ := h
  refine v_wf (fun hwf_10 => ?_)
  refine v_callVi (pc' := 27) (w' := w_9) (r := y_8) (ci := 4) (b := b_5) (As := [.int 119]) (rest := []) hx hl_6 (fun G sz hR => ctX4_take (xl x) (xD x) w G sz hR b_5 119 hl_6 hcl_7) rfl my_X4_take ml_X3_19 ⟨by decide, by decide⟩ ⟨by decide, by decide⟩ rfl rfl (Nat.le_of_ble_eq_true rfl) dX3_readWait_24 rfl ?_
  have hm_12 := kX4_take hcl_7 hwf_10
  have hl_13 : zL w_9 3 a0 = true := (hm_12.2 _ _ hl0).1
  have hl_14 : zL w_9 2 a1 = true := (hm_12.2 _ _ hl1).1
  refine v_if_ne (tgt := 32) (pc' := 30) hx dX3_readWait_27 (by decide) rfl (fun hc_15 => ?_) (fun hc_15 => ?_)
  · rw [if_neg hc_15] at h
    refine v_aload_n (pc' := 33) hx dX3_readWait_32 rfl rfl ?_
    refine v_aload_n (pc' := 34) hx dX3_readWait_33 rfl rfl ?_
    refine v_getR (pc' := 37) hx hl_13 fi_3_0.1 fi_3_0.2.1 fk_X3_9 dX3_readWait_34 rfl ?_
    replace h := lt_inv h; obtain ⟨u_16, er_17, h⟩ := h
    rw [← er_17]
    refine v_liv hl_13 (fun ht_18 => ?_)
    have hl_19 : ∀ b, u_16 = some b → zL w_9 4 b = true := fun b hb => ht_18 0 _ b (er_17.symm.trans hb)
    refine v_iconst (pc' := 38) (v := 2) hx dX3_readWait_37 (by decide) rfl ?_
    refine v_bipush (pc' := 40) (v := 15) hx dX3_readWait_38 (by decide) rfl ?_
    replace h := nn_inv h; obtain ⟨b_20, rfl, h⟩ := h
    have hl_21 : zL w_9 4 b_20 = true := hl_19 _ rfl
    replace h := bd2_inv h; obtain ⟨y_23, w_24, hcl_22, h⟩ := h
    refine v_callVi (pc' := 43) (w' := w_24) (r := y_23) (ci := 4) (b := b_20) (As := [.int 2, .int 15]) (rest := [.ref a1]) hx hl_21 (fun G sz hR => ctX4_takeNumber (xl x) (xD x) w_9 G sz hR b_20 2 15 hl_21 hcl_22) rfl my_X4_takeNumber ml_X3_67 ⟨by decide, by decide⟩ ⟨by decide, by decide⟩ rfl rfl (Nat.le_of_ble_eq_true rfl) dX3_readWait_40 rfl ?_
    have hm_26 := kX4_takeNumber hcl_22 hm_12.1
    have hl_27 : zL w_24 3 a0 = true := (hm_26.2 _ _ hl_13).1
    have hl_28 : zL w_24 2 a1 = true := (hm_26.2 _ _ hl_14).1
    refine v_putI (pc' := 46) hx hl_28 fi_2_5.1 fi_2_5.2.1 fi_2_5.2.2 fk_X3_101 dX3_readWait_43 rfl ?_
    replace h := lt_inv h; obtain ⟨w_29, ew_30, h⟩ := h
    rw [← ew_30]
    have hl_31 : zL w_29 3 a0 = true := by rw [ew_30]; exact hl_27
    have hl_32 : zL w_29 2 a1 = true := by rw [ew_30]; exact hl_28
    have hwf_33 : WF w_29 := by rw [ew_30]; exact hm_26.1
    refine v_aload_n (pc' := 47) hx dX3_readWait_46 rfl rfl ?_
    refine v_getI (pc' := 50) hx hl_32 fi_2_5.1 fi_2_5.2.1 fk_X3_101 dX3_readWait_47 rfl ?_
    refine v_iconst (pc' := 51) (v := (-1)) hx dX3_readWait_50 (by decide) rfl ?_
    refine v_icmp_eq (tgt := 58) (pc' := 54) hx dX3_readWait_51 (by decide) rfl (fun hc_34 => ?_) (fun hc_34 => ?_)
    · rw [if_pos hc_34] at h
      refine v_iconst (pc' := 59) (v := 0) hx dX3_readWait_58 (by decide) rfl ?_
      refine V.sb (L' := [none, none]) ⟨Or.inl rfl, Or.inl rfl, trivial⟩ ?_
      exact vX3_readWait_b59 hx hq h
    · rw [if_neg hc_34] at h
      refine v_iconst (pc' := 55) (v := 1) hx dX3_readWait_54 (by decide) rfl ?_
      refine v_goto (tgt := 59) hx dX3_readWait_55 (by decide) ?_
      refine V.sb (L' := [none, none]) ⟨Or.inl rfl, Or.inl rfl, trivial⟩ ?_
      exact vX3_readWait_b59 hx hq h
  · rw [if_pos hc_15] at h
    refine v_iconst (pc' := 31) (v := 0) hx dX3_readWait_30 (by decide) rfl ?_
    replace h := ckp_inv h; obtain ⟨hk_35, h⟩ := h
    exact v_zret hx hq (by decide) (by decide) dX3_readWait_31 hk_35 (by cases h; rfl)
theorem vX3_readWait {x : CT} (hx : CX x cX3_readWait RX3 rmX3_readWait (some .boolean)) {r0 : Int32} {w0 : Wd} {w : Wd} (hq : RI x rmX3_readWait r0 w0) (a0 : Nat) (a1 : Nat) (hl0 : zL w 3 a0 = true) (hl1 : zL w 2 a1 = true) (h : fX3_readWait a0 a1 w = some (r0, w0)) : V x 0 [some (.ref a0), some (.ref a1)] [] (Rp (xD x) w) 0 0 := by
  unfold fX3_readWait at h
  refine v_aload_n (pc' := 1) hx dX3_readWait_0 rfl rfl ?_
  refine v_getI (pc' := 4) hx hl1 fi_2_2.1 fi_2_2.2.1 fk_X3_82 dX3_readWait_1 rfl ?_
  refine v_iconst (pc' := 5) (v := 1) hx dX3_readWait_4 (by decide) rfl ?_
  refine v_icmp_eq (tgt := 18) (pc' := 8) hx dX3_readWait_5 (by decide) rfl (fun hc_1 => ?_) (fun hc_1 => ?_)
  · rw [if_pos hc_1] at h
    exact vX3_readWait_b18 hx hq hl0 hl1 h
  · rw [if_neg hc_1] at h
    refine v_aload_n (pc' := 9) hx dX3_readWait_8 rfl rfl ?_
    refine v_getI (pc' := 12) hx hl1 fi_2_2.1 fi_2_2.2.1 fk_X3_82 dX3_readWait_9 rfl ?_
    refine v_iconst (pc' := 13) (v := 2) hx dX3_readWait_12 (by decide) rfl ?_
    refine v_icmp_eq (tgt := 18) (pc' := 16) hx dX3_readWait_13 (by decide) rfl (fun hc_2 => ?_) (fun hc_2 => ?_)
    · rw [if_pos hc_2] at h
      exact vX3_readWait_b18 hx hq hl0 hl1 h
    · rw [if_neg hc_2] at h
      refine v_iconst (pc' := 17) (v := 1) hx dX3_readWait_16 (by decide) rfl ?_
      replace h := ckp_inv h; obtain ⟨hk_3, h⟩ := h
      exact v_zret hx hq (by decide) (by decide) dX3_readWait_17 hk_3 (by cases h; rfl)
theorem ctX3_readWait (l : Launch) (D : DD) (w : Wd) (G : GT) (sz : Nat) (hR : Rp D w G sz) (a0 : Nat) (a1 : Nat) (hl0 : zL w 3 a0 = true) (hl1 : zL w 2 a1 = true) {r0 : Int32} {w0 : Wd} (h : fX3_readWait a0 a1 w = some (r0, w0)) : MetI l yX3_readWait (WS yX3_readWait cX3_readWait 2 (some .boolean)) rmX3_readWait D [.ref a0, .ref a1] G sz r0 w0 := by
  refine MetI_ofV (own := RX3) (P := Rp D w) hR (by decide) rfl (by simp [Value.category]) (Nat.le_of_ble_eq_true rfl) (fun x hx hq hD hl => ?_)
  subst hD
  exact vX3_readWait hx hq a0 a1 hl0 hl1 h
theorem vX5_isLetter_b17 {x : CT} (hx : CX x cX5_isLetter RX5 rmX5_isLetter (some .boolean)) {r0 : Int32} {w : Wd} (hq : RI x rmX5_isLetter r0 w) {xs0 : Int32} (h : fX5_isLetter_b17 w xs0 = some r0) : V x 17 [none] [.int xs0] (Rp (xD x) w) 0 0 := by
  unfold fX5_isLetter_b17 at h
  replace h := ckp_inv h; obtain ⟨hk_1, h⟩ := h
  exact v_zret hx hq (by decide) (by decide) dX5_isLetter_17 hk_1 (by cases h; rfl)
theorem vX5_isLetter_b16 {x : CT} (hx : CX x cX5_isLetter RX5 rmX5_isLetter (some .boolean)) {r0 : Int32} {w : Wd} (hq : RI x rmX5_isLetter r0 w) (h : fX5_isLetter_b16 w = some r0) : V x 16 [none] [] (Rp (xD x) w) 0 0 := by
  unfold fX5_isLetter_b16 at h
  refine v_iconst (pc' := 17) (v := 0) hx dX5_isLetter_16 (by decide) rfl ?_
  exact vX5_isLetter_b17 hx hq h
theorem vX5_isLetter {x : CT} (hx : CX x cX5_isLetter RX5 rmX5_isLetter (some .boolean)) {r0 : Int32} {w : Wd} (hq : RI x rmX5_isLetter r0 w) (x0 : Int32) (h : fX5_isLetter x0 w = some r0) : V x 0 [some (.int x0)] [] (Rp (xD x) w) 0 0 := by
  unfold fX5_isLetter at h
  refine v_iload_n (pc' := 1) hx dX5_isLetter_0 rfl rfl ?_
  refine v_bipush (pc' := 3) (v := 97) hx dX5_isLetter_1 (by decide) rfl ?_
  refine v_icmp_lt (tgt := 16) (pc' := 6) hx dX5_isLetter_3 (by decide) rfl (fun hc_1 => ?_) (fun hc_1 => ?_)
  · rw [if_pos hc_1] at h
    refine V.sb (L' := [none]) ⟨Or.inl rfl, trivial⟩ ?_
    exact vX5_isLetter_b16 hx hq h
  · rw [if_neg hc_1] at h
    refine v_iload_n (pc' := 7) hx dX5_isLetter_6 rfl rfl ?_
    refine v_bipush (pc' := 9) (v := 122) hx dX5_isLetter_7 (by decide) rfl ?_
    refine v_icmp_gt (tgt := 16) (pc' := 12) hx dX5_isLetter_9 (by decide) rfl (fun hc_2 => ?_) (fun hc_2 => ?_)
    · rw [if_pos hc_2] at h
      refine V.sb (L' := [none]) ⟨Or.inl rfl, trivial⟩ ?_
      exact vX5_isLetter_b16 hx hq h
    · rw [if_neg hc_2] at h
      refine v_iconst (pc' := 13) (v := 1) hx dX5_isLetter_12 (by decide) rfl ?_
      refine v_goto (tgt := 17) hx dX5_isLetter_13 (by decide) ?_
      refine V.sb (L' := [none]) ⟨Or.inl rfl, trivial⟩ ?_
      exact vX5_isLetter_b17 hx hq h
theorem ctX5_isLetter (l : Launch) (D : DD) (w : Wd) (G : GT) (sz : Nat) (hR : Rp D w G sz) (x0 : Int32) {r0 : Int32} (h : fX5_isLetter x0 w = some r0) : MetI l yX5_isLetter (WS yX5_isLetter cX5_isLetter 1 (some .boolean)) rmX5_isLetter D [.int x0] G sz r0 w := by
  refine MetI_ofV (own := RX5) (P := Rp D w) hR (by decide) rfl (by simp [Value.category]) (Nat.le_of_ble_eq_true rfl) (fun x hx hq hD hl => ?_)
  subst hD
  exact vX5_isLetter hx hq x0  h
theorem kX2_addCall_b30 {w0 : Wd} {w wb : Wd} (hm : mo wb w) (h : fX2_addCall_b30 w = some w0) : mo wb w0 := by
  unfold fX2_addCall_b30 at h
  cases h; exact hm
theorem kX2_addCall {w0 : Wd} {a0 : Nat} {x1 : Int32} {w : Wd} (h : fX2_addCall a0 x1 w = some w0) : mo w w0 := by
  have hm := mo_rf w
  unfold fX2_addCall at h
  by_cases hc_1 : 12 ≤ (zI w 2 a0 6 0)
  · rw [if_pos hc_1] at h
    exact kX2_addCall_b30 hm h
  · rw [if_neg hc_1] at h
    replace h := ckp_inv h; obtain ⟨hk_4, h⟩ := h
    replace h := lt_inv h; obtain ⟨w_5, ew_6, h⟩ := h
    have hm := mo_eI hm ew_6
    replace h := lt_inv h; obtain ⟨w_8, ew_9, h⟩ := h
    have hm := mo_eI hm ew_9
    exact kX2_addCall_b30 hm h
theorem vX2_addCall_b30 {x : CT} (hx : CX x cX2_addCall RX2 rmX2_addCall none) {w0 : Wd} (hq : RV x rmX2_addCall w0) {w : Wd} (h : fX2_addCall_b30 w = some w0) : V x 30 [none, none] [] (Rp (xD x) w) 0 0 := by
  unfold fX2_addCall_b30 at h
  exact v_vret hx hq (by decide) (by decide) dX2_addCall_30 (by cases h; rfl)
theorem vX2_addCall {x : CT} (hx : CX x cX2_addCall RX2 rmX2_addCall none) {w0 : Wd} {w : Wd} (hq : RV x rmX2_addCall w0) (a0 : Nat) (x1 : Int32) (hl0 : zL w 2 a0 = true) (h : fX2_addCall a0 x1 w = some w0) : V x 0 [some (.ref a0), some (.int x1)] [] (Rp (xD x) w) 0 0 := by
  unfold fX2_addCall at h
  refine v_aload_n (pc' := 1) hx dX2_addCall_0 rfl rfl ?_
  refine v_getI (pc' := 4) hx hl0 fi_2_6.1 fi_2_6.2.1 fk_X2_22 dX2_addCall_1 rfl ?_
  refine v_bipush (pc' := 6) (v := 12) hx dX2_addCall_4 (by decide) rfl ?_
  refine v_icmp_ge (tgt := 30) (pc' := 9) hx dX2_addCall_6 (by decide) rfl (fun hc_1 => ?_) (fun hc_1 => ?_)
  · rw [if_pos hc_1] at h
    refine V.sb (L' := [none, none]) ⟨Or.inl rfl, Or.inl rfl, trivial⟩ ?_
    exact vX2_addCall_b30 hx hq h
  · rw [if_neg hc_1] at h
    refine v_aload_n (pc' := 10) hx dX2_addCall_9 rfl rfl ?_
    obtain ⟨g_2, hq_3⟩ : ∃ q, zA w 2 a0 0 = q := ⟨_, rfl⟩
    refine v_getAq (pc' := 13) hx hl0 fi_2_0.1 (by decide) hq_3 fk_X2_9 dX2_addCall_10 rfl ?_
    refine v_aload_n (pc' := 14) hx dX2_addCall_13 rfl rfl ?_
    refine v_getI (pc' := 17) hx hl0 fi_2_6.1 fi_2_6.2.1 fk_X2_22 dX2_addCall_14 rfl ?_
    refine v_iload_n (pc' := 18) hx dX2_addCall_17 rfl rfl ?_
    refine v_i2b (pc' := 19) hx dX2_addCall_18 rfl ?_
    replace h := ckp_inv h; obtain ⟨hk_4, h⟩ := h
    refine v_bastq (pc' := 20) hx hl0 fi_2_0.1 fi_2_0.2.1 rfl hk_4 hq_3 dX2_addCall_19 rfl ?_
    replace h := lt_inv h; obtain ⟨w_5, ew_6, h⟩ := h
    rw [← ew_6]
    have hl_7 : zL w_5 2 a0 = true := by rw [ew_6]; exact hl0
    refine v_aload_n (pc' := 21) hx dX2_addCall_20 rfl rfl ?_
    refine v_dup (pc' := 22) hx dX2_addCall_21 rfl rfl ?_
    refine v_getI (pc' := 25) hx hl_7 fi_2_6.1 fi_2_6.2.1 fk_X2_22 dX2_addCall_22 rfl ?_
    refine v_iconst (pc' := 26) (v := 1) hx dX2_addCall_25 (by decide) rfl ?_
    refine v_iadd (pc' := 27) hx dX2_addCall_26 rfl ?_
    refine v_putI (pc' := 30) hx hl_7 fi_2_6.1 fi_2_6.2.1 fi_2_6.2.2 fk_X2_22 dX2_addCall_27 rfl ?_
    replace h := lt_inv h; obtain ⟨w_8, ew_9, h⟩ := h
    rw [← ew_9]
    have hl_10 : zL w_8 2 a0 = true := by rw [ew_9]; exact hl_7
    refine V.sb (L' := [none, none]) ⟨Or.inl rfl, Or.inl rfl, trivial⟩ ?_
    exact vX2_addCall_b30 hx hq h
theorem ctX2_addCall (l : Launch) (D : DD) (w : Wd) (G : GT) (sz : Nat) (hR : Rp D w G sz) (a0 : Nat) (x1 : Int32) (hl0 : zL w 2 a0 = true) {w0 : Wd} (h : fX2_addCall a0 x1 w = some w0) : MetV l yX2_addCall (WS yX2_addCall cX2_addCall 2 none) rmX2_addCall D [.ref a0, .int x1] G sz w0 := by
  refine MetV_ofV (own := RX2) (P := Rp D w) hR (by decide) rfl (by simp [Value.category]) (Nat.le_of_ble_eq_true rfl) (fun x hx hq hD hl => ?_)
  subst hD
  exact vX2_addCall hx hq a0 x1 hl0 h
theorem kX3_readCalls_b77 {r0 : Int32} {w0 : Wd} {xs0 : Int32} {w wb : Wd} (hm : mo wb w) (h : fX3_readCalls_b77 xs0 w = some (r0, w0)) : mo wb w0 := by
  unfold fX3_readCalls_b77 at h
  replace h := ckp_inv h; obtain ⟨hk_1, h⟩ := h
  cases h; exact hm
theorem kX3_readCalls_b65 {r0 : Int32} {w0 : Wd} {a1 : Nat} {w wb : Wd} (hm : mo wb w) (h : fX3_readCalls_b65 a1 w = some (r0, w0)) : mo wb w0 := by
  unfold fX3_readCalls_b65 at h
  by_cases hc_1 : (zI w 2 a1 6 0) ≤ 0
  · rw [if_pos hc_1] at h
    exact kX3_readCalls_b77 hm h
  · rw [if_neg hc_1] at h
    exact kX3_readCalls_b77 hm h
theorem kX3_readCalls_b16 {r0 : Int32} {w0 : Wd} {rec16 : Nat → Nat → Int32 → Wd → Option (Int32 × Wd)} {a0 : Nat} {a1 : Nat} {x2 : Int32} {w wb : Wd} (hkr16 : ∀ (a0 : Nat) (a1 : Nat) (x2 : Int32) (w : Wd), rec16 a0 a1 x2 w = some (r0, w0) → mo wb w → mo wb w0) (hm : mo wb w) (h : fX3_readCalls_b16 rec16 a0 a1 x2 w = some (r0, w0)) : mo wb w0 := by
  unfold fX3_readCalls_b16 at h
  by_cases hc_1 : 12 ≤ x2
  · rw [if_pos hc_1] at h
    exact kX3_readCalls_b65 hm h
  · rw [if_neg hc_1] at h
    replace h := lt_inv h; obtain ⟨u_2, er_3, h⟩ := h
    replace h := nn_inv h; obtain ⟨b_6, rfl, h⟩ := h
    replace h := bd_inv h; obtain ⟨y_9, hcl_8, h⟩ := h
    replace h := bd_inv h; obtain ⟨y_12, hcl_11, h⟩ := h
    by_cases hc_14 : y_12 = 0
    · rw [if_pos hc_14] at h
      exact kX3_readCalls_b65 hm h
    · rw [if_neg hc_14] at h
      replace h := lt_inv h; obtain ⟨u_15, er_16, h⟩ := h
      replace h := nn_inv h; obtain ⟨b_19, rfl, h⟩ := h
      replace h := bd_inv h; obtain ⟨y_22, hcl_21, h⟩ := h
      replace h := bd_inv h; obtain ⟨w_25, hcl_24, h⟩ := h
      have hm := hm.tr (kX2_addCall hcl_24)
      replace h := lt_inv h; obtain ⟨u_31, er_32, h⟩ := h
      replace h := nn_inv h; obtain ⟨b_35, rfl, h⟩ := h
      replace h := lt_inv h; obtain ⟨w_37, ew_38, h⟩ := h
      have hm := mo_eI hm ew_38
      exact hkr16 a0 a1 (x2 + 1) w_37 h hm
theorem kX3_readCalls_l16 {r0 : Int32} {w0 : Wd} {wb : Wd} : ∀ (n : Nat) (a0 : Nat) (a1 : Nat) (x2 : Int32) (w : Wd), mo wb w → fX3_readCalls_l16  n a0 a1 x2 w = some (r0, w0) → mo wb w0 := by
  intro n
  induction n with
  | zero => intro a0 a1 x2 w hm h; cases h
  | succ n ih =>
    intro a0 a1 x2 w hm h
    exact kX3_readCalls_b16  (fun a0 a1 x2 w h hm => ih a0 a1 x2 w hm h) hm h
theorem kX3_readCalls {r0 : Int32} {w0 : Wd} {a0 : Nat} {a1 : Nat} {w : Wd} (h : fX3_readCalls a0 a1 w = some (r0, w0)) : mo w w0 := by
  have hm := mo_rf w
  unfold fX3_readCalls at h
  replace h := lt_inv h; obtain ⟨u_1, er_2, h⟩ := h
  replace h := nn_inv h; obtain ⟨b_5, rfl, h⟩ := h
  replace h := bd2_inv h; obtain ⟨y_8, w_9, hcl_7, h⟩ := h
  have hm := hm.tr (kX4_take hcl_7)
  by_cases hc_15 : y_8 = 0
  · rw [if_pos hc_15] at h
    replace h := ckp_inv h; obtain ⟨hk_16, h⟩ := h
    cases h; exact hm
  · rw [if_neg hc_15] at h
    exact kX3_readCalls_l16 1000 a0 a1 0 w_9 hm h
theorem vX3_readCalls_b77 {x : CT} (hx : CX x cX3_readCalls RX3 rmX3_readCalls (some .boolean)) {r0 : Int32} {w0 : Wd} (hq : RI x rmX3_readCalls r0 w0) {xs0 : Int32} {w : Wd} (h : fX3_readCalls_b77 xs0 w = some (r0, w0)) : V x 77 [none, none, none] [.int xs0] (Rp (xD x) w) 0 0 := by
  unfold fX3_readCalls_b77 at h
  replace h := ckp_inv h; obtain ⟨hk_1, h⟩ := h
  exact v_zret hx hq (by decide) (by decide) dX3_readCalls_77 hk_1 (by cases h; rfl)
theorem vX3_readCalls_b65 {x : CT} (hx : CX x cX3_readCalls RX3 rmX3_readCalls (some .boolean)) {r0 : Int32} {w0 : Wd} (hq : RI x rmX3_readCalls r0 w0) {a1 : Nat} {w : Wd} (hl1 : zL w 2 a1 = true) (h : fX3_readCalls_b65 a1 w = some (r0, w0)) : V x 65 [none, some (.ref a1), none] [] (Rp (xD x) w) 0 0 := by
  unfold fX3_readCalls_b65 at h
  refine v_aload_n (pc' := 66) hx dX3_readCalls_65 rfl rfl ?_
  refine v_getI (pc' := 69) hx hl1 fi_2_6.1 fi_2_6.2.1 fk_X3_115 dX3_readCalls_66 rfl ?_
  refine v_if_le (tgt := 76) (pc' := 72) hx dX3_readCalls_69 (by decide) rfl (fun hc_1 => ?_) (fun hc_1 => ?_)
  · rw [if_pos hc_1] at h
    refine v_iconst (pc' := 77) (v := 0) hx dX3_readCalls_76 (by decide) rfl ?_
    refine V.sb (L' := [none, none, none]) ⟨Or.inl rfl, Or.inl rfl, Or.inl rfl, trivial⟩ ?_
    exact vX3_readCalls_b77 hx hq h
  · rw [if_neg hc_1] at h
    refine v_iconst (pc' := 73) (v := 1) hx dX3_readCalls_72 (by decide) rfl ?_
    refine v_goto (tgt := 77) hx dX3_readCalls_73 (by decide) ?_
    refine V.sb (L' := [none, none, none]) ⟨Or.inl rfl, Or.inl rfl, Or.inl rfl, trivial⟩ ?_
    exact vX3_readCalls_b77 hx hq h
theorem vX3_readCalls_b16 {x : CT} (hx : CX x cX3_readCalls RX3 rmX3_readCalls (some .boolean)) {r0 : Int32} {w0 : Wd} (hq : RI x rmX3_readCalls r0 w0) {rec16 : Nat → Nat → Int32 → Wd → Option (Int32 × Wd)} {a0 : Nat} {a1 : Nat} {x2 : Int32} {w : Wd} (hrec16 : ∀ (a0 : Nat) (a1 : Nat) (x2 : Int32) (w : Wd), rec16 a0 a1 x2 w = some (r0, w0) → (zL w 3 a0 = true) → (zL w 2 a1 = true) → V x 16 [some (.ref a0), some (.ref a1), some (.int x2)] [] (Rp (xD x) w) 0 0) (hl0 : zL w 3 a0 = true) (hl1 : zL w 2 a1 = true) (h : fX3_readCalls_b16 rec16 a0 a1 x2 w = some (r0, w0)) : V x 16 [some (.ref a0), some (.ref a1), some (.int x2)] [] (Rp (xD x) w) 0 0 := by
  unfold fX3_readCalls_b16 at h
  refine v_iload_n (pc' := 17) hx dX3_readCalls_16 rfl rfl ?_
  refine v_bipush (pc' := 19) (v := 12) hx dX3_readCalls_17 (by decide) rfl ?_
  refine v_icmp_ge (tgt := 65) (pc' := 22) hx dX3_readCalls_19 (by decide) rfl (fun hc_1 => ?_) (fun hc_1 => ?_)
  · rw [if_pos hc_1] at h
    refine V.sb (L' := [none, some (.ref a1), none]) ⟨Or.inl rfl, Or.inr rfl, Or.inl rfl, trivial⟩ ?_
    exact vX3_readCalls_b65 hx hq hl1 h
  · rw [if_neg hc_1] at h
    refine v_aload_n (pc' := 23) hx dX3_readCalls_22 rfl rfl ?_
    refine v_getR (pc' := 26) hx hl0 fi_3_0.1 fi_3_0.2.1 fk_X3_9 dX3_readCalls_23 rfl ?_
    replace h := lt_inv h; obtain ⟨u_2, er_3, h⟩ := h
    rw [← er_3]
    refine v_liv hl0 (fun ht_4 => ?_)
    have hl_5 : ∀ b, u_2 = some b → zL w 4 b = true := fun b hb => ht_4 0 _ b (er_3.symm.trans hb)
    replace h := nn_inv h; obtain ⟨b_6, rfl, h⟩ := h
    have hl_7 : zL w 4 b_6 = true := hl_5 _ rfl
    replace h := bd_inv h; obtain ⟨y_9, hcl_8, h⟩ := h
    refine v_callVi (pc' := 29) (w' := w) (r := y_9) (ci := 4) (b := b_6) (As := []) (rest := []) hx hl_7 (fun G sz hR => ctX4_next (xl x) (xD x) w G sz hR b_6 hl_7 hcl_8) rfl my_X4_next ml_X3_104 ⟨by decide, by decide⟩ ⟨by decide, by decide⟩ rfl rfl (Nat.le_of_ble_eq_true rfl) dX3_readCalls_26 rfl ?_
    replace h := bd_inv h; obtain ⟨y_12, hcl_11, h⟩ := h
    refine v_callSi (pc' := 32) (w' := w) (r := y_12) (As := [.int y_9]) (rest := []) hx (fun G sz hR => ctX5_isLetter (xl x) (xD x) w G sz hR y_9  hcl_11) my_X5_isLetter ml_X3_108 ⟨by decide, by decide⟩ ⟨by decide, by decide⟩ rfl rfl (Nat.le_of_ble_eq_true rfl) dX3_readCalls_29 rfl ?_
    refine v_if_eq (tgt := 65) (pc' := 35) hx dX3_readCalls_32 (by decide) rfl (fun hc_14 => ?_) (fun hc_14 => ?_)
    · rw [if_pos hc_14] at h
      refine V.sb (L' := [none, some (.ref a1), none]) ⟨Or.inl rfl, Or.inr rfl, Or.inl rfl, trivial⟩ ?_
      exact vX3_readCalls_b65 hx hq hl1 h
    · rw [if_neg hc_14] at h
      refine v_aload_n (pc' := 36) hx dX3_readCalls_35 rfl rfl ?_
      refine v_aload_n (pc' := 37) hx dX3_readCalls_36 rfl rfl ?_
      refine v_getR (pc' := 40) hx hl0 fi_3_0.1 fi_3_0.2.1 fk_X3_9 dX3_readCalls_37 rfl ?_
      replace h := lt_inv h; obtain ⟨u_15, er_16, h⟩ := h
      rw [← er_16]
      refine v_liv hl0 (fun ht_17 => ?_)
      have hl_18 : ∀ b, u_15 = some b → zL w 4 b = true := fun b hb => ht_17 0 _ b (er_16.symm.trans hb)
      replace h := nn_inv h; obtain ⟨b_19, rfl, h⟩ := h
      have hl_20 : zL w 4 b_19 = true := hl_18 _ rfl
      replace h := bd_inv h; obtain ⟨y_22, hcl_21, h⟩ := h
      refine v_callVi (pc' := 43) (w' := w) (r := y_22) (ci := 4) (b := b_19) (As := []) (rest := [.ref a1]) hx hl_20 (fun G sz hR => ctX4_next (xl x) (xD x) w G sz hR b_19 hl_20 hcl_21) rfl my_X4_next ml_X3_104 ⟨by decide, by decide⟩ ⟨by decide, by decide⟩ rfl rfl (Nat.le_of_ble_eq_true rfl) dX3_readCalls_40 rfl ?_
      replace h := bd_inv h; obtain ⟨w_25, hcl_24, h⟩ := h
      refine v_wf (fun hwf_26 => ?_)
      refine v_callVv (pc' := 46) (w' := w_25) (ci := 2) (b := a1) (As := [.int y_22]) (rest := []) hx hl1 (fun G sz hR => ctX2_addCall (xl x) (xD x) w G sz hR a1 y_22 hl1 hcl_24) rfl my_X2_addCall ml_X3_111 ⟨by decide, by decide⟩ ⟨by decide, by decide⟩ rfl rfl (Nat.le_of_ble_eq_true rfl) dX3_readCalls_43 rfl ?_
      have hm_28 := kX2_addCall hcl_24 hwf_26
      have hl_29 : zL w_25 3 a0 = true := (hm_28.2 _ _ hl0).1
      have hl_30 : zL w_25 2 a1 = true := (hm_28.2 _ _ hl1).1
      refine v_aload_n (pc' := 47) hx dX3_readCalls_46 rfl rfl ?_
      refine v_getR (pc' := 50) hx hl_29 fi_3_0.1 fi_3_0.2.1 fk_X3_9 dX3_readCalls_47 rfl ?_
      replace h := lt_inv h; obtain ⟨u_31, er_32, h⟩ := h
      rw [← er_32]
      refine v_liv hl_29 (fun ht_33 => ?_)
      have hl_34 : ∀ b, u_31 = some b → zL w_25 4 b = true := fun b hb => ht_33 0 _ b (er_32.symm.trans hb)
      refine v_dup (pc' := 51) hx dX3_readCalls_50 (cat_rf _) rfl ?_
      replace h := nn_inv h; obtain ⟨b_35, rfl, h⟩ := h
      have hl_36 : zL w_25 4 b_35 = true := hl_34 _ rfl
      refine v_getI (pc' := 54) hx hl_36 fi_4_3.1 fi_4_3.2.1 fk_X3_32 dX3_readCalls_51 rfl ?_
      refine v_iconst (pc' := 55) (v := 1) hx dX3_readCalls_54 (by decide) rfl ?_
      refine v_iadd (pc' := 56) hx dX3_readCalls_55 rfl ?_
      refine v_putI (pc' := 59) hx hl_36 fi_4_3.1 fi_4_3.2.1 fi_4_3.2.2 fk_X3_32 dX3_readCalls_56 rfl ?_
      replace h := lt_inv h; obtain ⟨w_37, ew_38, h⟩ := h
      rw [← ew_38]
      have hl_39 : zL w_37 3 a0 = true := by rw [ew_38]; exact hl_29
      have hl_40 : zL w_37 2 a1 = true := by rw [ew_38]; exact hl_30
      have hwf_41 : WF w_37 := by rw [ew_38]; exact hm_28.1
      refine v_iinc (pc' := 62) (w0 := (x2 + 1)) (L' := [some (.ref a0), some (.ref a1), some (.int (x2 + 1))]) hx dX3_readCalls_59 rfl rfl rfl rfl ?_
      refine v_goto (tgt := 16) hx dX3_readCalls_62 (by decide) ?_
      exact hrec16 a0 a1 (x2 + 1) w_37 h hl_39 hl_40
theorem vX3_readCalls_l16 {x : CT} (hx : CX x cX3_readCalls RX3 rmX3_readCalls (some .boolean)) {r0 : Int32} {w0 : Wd} (hq : RI x rmX3_readCalls r0 w0) : ∀ (n : Nat) (a0 : Nat) (a1 : Nat) (x2 : Int32) (w : Wd), (zL w 3 a0 = true) → (zL w 2 a1 = true) → fX3_readCalls_l16  n a0 a1 x2 w = some (r0, w0) → V x 16 [some (.ref a0), some (.ref a1), some (.int x2)] [] (Rp (xD x) w) 0 0 := by
  intro n
  induction n with
  | zero => intro a0 a1 x2 w hl0 hl1 h; cases h
  | succ n ih =>
    intro a0 a1 x2 w hl0 hl1 h
    exact vX3_readCalls_b16 hx hq  (fun a0 a1 x2 w h hl0 hl1 => ih a0 a1 x2 w hl0 hl1 h) hl0 hl1 h
theorem vX3_readCalls {x : CT} (hx : CX x cX3_readCalls RX3 rmX3_readCalls (some .boolean)) {r0 : Int32} {w0 : Wd} {w : Wd} (hq : RI x rmX3_readCalls r0 w0) (a0 : Nat) (a1 : Nat) (hl0 : zL w 3 a0 = true) (hl1 : zL w 2 a1 = true) (h : fX3_readCalls a0 a1 w = some (r0, w0)) : V x 0 [some (.ref a0), some (.ref a1), none] [] (Rp (xD x) w) 0 0 := by
  unfold fX3_readCalls at h
  refine v_aload_n (pc' := 1) hx dX3_readCalls_0 rfl rfl ?_
  refine v_getR (pc' := 4) hx hl0 fi_3_0.1 fi_3_0.2.1 fk_X3_9 dX3_readCalls_1 rfl ?_
  replace h := lt_inv h; obtain ⟨u_1, er_2, h⟩ := h
  rw [← er_2]
  refine v_liv hl0 (fun ht_3 => ?_)
  have hl_4 : ∀ b, u_1 = some b → zL w 4 b = true := fun b hb => ht_3 0 _ b (er_2.symm.trans hb)
  refine v_bipush (pc' := 6) (v := 99) hx dX3_readCalls_4 (by decide) rfl ?_
  replace h := nn_inv h; obtain ⟨b_5, rfl, h⟩ := h
  have hl_6 : zL w 4 b_5 = true := hl_4 _ rfl
  replace h := bd2_inv h; obtain ⟨y_8, w_9, hcl_7, h⟩ := h
  refine v_wf (fun hwf_10 => ?_)
  refine v_callVi (pc' := 9) (w' := w_9) (r := y_8) (ci := 4) (b := b_5) (As := [.int 99]) (rest := []) hx hl_6 (fun G sz hR => ctX4_take (xl x) (xD x) w G sz hR b_5 99 hl_6 hcl_7) rfl my_X4_take ml_X3_19 ⟨by decide, by decide⟩ ⟨by decide, by decide⟩ rfl rfl (Nat.le_of_ble_eq_true rfl) dX3_readCalls_6 rfl ?_
  have hm_12 := kX4_take hcl_7 hwf_10
  have hl_13 : zL w_9 3 a0 = true := (hm_12.2 _ _ hl0).1
  have hl_14 : zL w_9 2 a1 = true := (hm_12.2 _ _ hl1).1
  refine v_if_ne (tgt := 14) (pc' := 12) hx dX3_readCalls_9 (by decide) rfl (fun hc_15 => ?_) (fun hc_15 => ?_)
  · rw [if_neg hc_15] at h
    refine v_iconst (pc' := 15) (v := 0) hx dX3_readCalls_14 (by decide) rfl ?_
    refine v_istore_n (pc' := 16) (L' := [some (.ref a0), some (.ref a1), some (.int 0)]) hx dX3_readCalls_15 rfl rfl (Nat.le_of_ble_eq_true rfl) ?_
    exact vX3_readCalls_l16 hx hq 1000 a0 a1 0 w_9 hl_13 hl_14 h
  · rw [if_pos hc_15] at h
    refine v_iconst (pc' := 13) (v := 1) hx dX3_readCalls_12 (by decide) rfl ?_
    replace h := ckp_inv h; obtain ⟨hk_16, h⟩ := h
    exact v_zret hx hq (by decide) (by decide) dX3_readCalls_13 hk_16 (by cases h; rfl)
theorem ctX3_readCalls (l : Launch) (D : DD) (w : Wd) (G : GT) (sz : Nat) (hR : Rp D w G sz) (a0 : Nat) (a1 : Nat) (hl0 : zL w 3 a0 = true) (hl1 : zL w 2 a1 = true) {r0 : Int32} {w0 : Wd} (h : fX3_readCalls a0 a1 w = some (r0, w0)) : MetI l yX3_readCalls (WS yX3_readCalls cX3_readCalls 3 (some .boolean)) rmX3_readCalls D [.ref a0, .ref a1] G sz r0 w0 := by
  refine MetI_ofV (own := RX3) (P := Rp D w) hR (by decide) rfl (by simp [Value.category]) (Nat.le_of_ble_eq_true rfl) (fun x hx hq hD hl => ?_)
  subst hD
  exact vX3_readCalls hx hq a0 a1 hl0 hl1 h
