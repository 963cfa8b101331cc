def fX3_readRows_b65 (w : Wd) : Option (Wd) := (some w)
def fX3_readRows_b2 (rec2 : Nat → Int32 → Wd → Option (Wd)) (a0 : Nat) (x1 : Int32) (w : Wd) : Option (Wd) := (if 24 < x1 then (fX3_readRows_b65 w) else (lt' (zR w 3 a0 0 0) (fun u_2 => (nn u_2 (fun b_6 => (bd2 (fX4_take b_6 59 w) (fun y_9 w_10 => (if y_9 = 0 then (fX3_readRows_b65 w_10) else (lt' (zS w_10) (fun g_16 => (lt' (nwX2 w_10 ) (fun w_18 => (bd2 (fX3_readRow a0 (zS w_10) w_18) (fun y_24 w_25 => (if y_24 = 0 then (lt' (zR w_25 3 a0 1 0) (fun u_43 => (lt' (zR w_25 3 a0 0 0) (fun u_47 => (nn u_47 (fun b_51 => (nn u_43 (fun b_53 => (lt' (sI w_25 1 b_53 7 0 (zI w_25 4 b_51 3 0)) (fun w_55 => (some w_55))))))))))) else (lt' (zR w_25 3 a0 1 0) (fun u_31 => (nn u_31 (fun b_35 => (bd (fX1_keep b_35 (zS w_10) w_25) (fun w_38 => (rec2 a0 (x1 + 1) w_38))))))))))))))))))))))
def fX3_readRows_l2 : Nat → Nat → Int32 → Wd → Option (Wd)
  | 0, _, _, _ => none
  | n + 1, a0, x1, w => fX3_readRows_b2  (fX3_readRows_l2  n) a0 x1 w
def fX3_readRows (a0 : Nat) (w : Wd) : Option (Wd) := (fX3_readRows_l2 26 a0 0 w)
theorem kX3_readRows_b65 {w0 : Wd} {w wb : Wd} (hm : mo wb w) (h : fX3_readRows_b65 w = some w0) : mo wb w0 := by
  unfold fX3_readRows_b65 at h
  cases h; exact hm
theorem kX3_readRows_b2 {w0 : Wd} {rec2 : Nat → Int32 → Wd → Option (Wd)} {a0 : Nat} {x1 : Int32} {w wb : Wd} (hkr2 : ∀ (a0 : Nat) (x1 : Int32) (w : Wd), rec2 a0 x1 w = some w0 → mo wb w → mo wb w0) (hm : mo wb w) (h : fX3_readRows_b2 rec2 a0 x1 w = some w0) : mo wb w0 := by
  unfold fX3_readRows_b2 at h
  by_cases hc_1 : 24 < x1
  · rw [if_pos hc_1] at h
    exact kX3_readRows_b65 hm h
  · rw [if_neg hc_1] at h
    replace h := lt_inv h; obtain ⟨u_2, er_3, h⟩ := h
    replace h := nn_inv h; obtain ⟨b_6, rfl, h⟩ := h
    replace h := bd2_inv h; obtain ⟨y_9, w_10, hcl_8, h⟩ := h
    have hm := hm.tr (kX4_take hcl_8)
    by_cases hc_15 : y_9 = 0
    · rw [if_pos hc_15] at h
      exact kX3_readRows_b65 hm h
    · rw [if_neg hc_15] at h
      replace h := lt_inv h; obtain ⟨g_16, eq_17, h⟩ := h
      replace h := lt_inv h; obtain ⟨w_18, ew_19, h⟩ := h
      have hm := hm.tr (by rw [ew_19]; exact mo_nwX2 w_10  : mo w_10 w_18)
      subst eq_17
      replace h := bd2_inv h; obtain ⟨y_24, w_25, hcl_23, h⟩ := h
      have hm := hm.tr (kX3_readRow hcl_23)
      by_cases hc_30 : y_24 = 0
      · rw [if_pos hc_30] at h
        replace h := lt_inv h; obtain ⟨u_43, er_44, h⟩ := h
        replace h := lt_inv h; obtain ⟨u_47, er_48, h⟩ := h
        replace h := nn_inv h; obtain ⟨b_51, rfl, h⟩ := h
        replace h := nn_inv h; obtain ⟨b_53, rfl, h⟩ := h
        replace h := lt_inv h; obtain ⟨w_55, ew_56, h⟩ := h
        have hm := mo_eI hm ew_56
        cases h; exact hm
      · rw [if_neg hc_30] at h
        replace h := lt_inv h; obtain ⟨u_31, er_32, h⟩ := h
        replace h := nn_inv h; obtain ⟨b_35, rfl, h⟩ := h
        replace h := bd_inv h; obtain ⟨w_38, hcl_37, h⟩ := h
        have hm := hm.tr (kX1_keep hcl_37)
        exact hkr2 a0 (x1 + 1) w_38 h hm
theorem kX3_readRows_l2 {w0 : Wd} {wb : Wd} : ∀ (n : Nat) (a0 : Nat) (x1 : Int32) (w : Wd), mo wb w → fX3_readRows_l2  n a0 x1 w = some w0 → mo wb w0 := by
  intro n
  induction n with
  | zero => intro a0 x1 w hm h; cases h
  | succ n ih =>
    intro a0 x1 w hm h
    exact kX3_readRows_b2  (fun a0 x1 w h hm => ih a0 x1 w hm h) hm h
theorem kX3_readRows {w0 : Wd} {a0 : Nat} {w : Wd} (h : fX3_readRows a0 w = some w0) : mo w w0 := by
  have hm := mo_rf w
  unfold fX3_readRows at h
  exact kX3_readRows_l2 26 a0 0 w hm h
theorem vX3_readRows_b65 {x : CT} (hx : CX x cX3_readRows RX3 rmX3_readRows none) {w0 : Wd} (hq : RV x rmX3_readRows w0) {w : Wd} (h : fX3_readRows_b65 w = some w0) : V x 65 [none, none, none] [] (Rp (xD x) w) 52 494 := by
  unfold fX3_readRows_b65 at h
  exact v_vret hx hq (by decide) (by decide) dX3_readRows_65 (by cases h; rfl)
theorem vX3_readRows_b2 {x : CT} (hx : CX x cX3_readRows RX3 rmX3_readRows none) {w0 : Wd} (hq : RV x rmX3_readRows w0) {rec2 : Nat → Int32 → Wd → Option (Wd)} {a0 : Nat} {x1 : Int32} {w : Wd} {cs ss N : Nat} (hcs : cs + 2 * (N + 1) ≤ 52) (hss : ss + 19 * (N + 1) ≤ 494) (hrec2 : ∀ (a0 : Nat) (x1 : Int32) (w : Wd), rec2 a0 x1 w = some w0 → (zL w 3 a0 = true) → V x 2 [some (.ref a0), some (.int x1), none] [] (Rp (xD x) w) (cs + 2) (ss + 19)) (hl0 : zL w 3 a0 = true) (h : fX3_readRows_b2 rec2 a0 x1 w = some w0) : V x 2 [some (.ref a0), some (.int x1), none] [] (Rp (xD x) w) cs ss := by
  unfold fX3_readRows_b2 at h
  refine v_iload_n (pc' := 3) hx dX3_readRows_2 rfl rfl ?_
  refine v_bipush (pc' := 5) (v := 24) hx dX3_readRows_3 (by decide) rfl ?_
  refine v_icmp_gt (tgt := 65) (pc' := 8) hx dX3_readRows_5 (by decide) rfl (fun hc_1 => ?_) (fun hc_1 => ?_)
  · rw [if_pos hc_1] at h
    refine V.sb (L' := [none, none, none]) ⟨Or.inl rfl, Or.inl rfl, Or.inl rfl, trivial⟩ ?_
    refine V.wide (cs' := 52) (ss' := 494) (by omega) (by omega) ?_
    exact vX3_readRows_b65 hx hq h
  · rw [if_neg hc_1] at h
    refine v_aload_n (pc' := 9) hx dX3_readRows_8 rfl rfl ?_
    refine v_getR (pc' := 12) hx hl0 fi_3_0.1 fi_3_0.2.1 fk_X3_9 dX3_readRows_9 rfl ?_
    replace h := lt_inv h; obtain ⟨u_2, er_3, h⟩ := h
    rw [← er_3]
    refine v_liv hl0 (fun ht_4 => ?_)
    have hl_5 : ∀ b, u_2 = some b → zL w 4 b = true := fun b hb => ht_4 0 _ b (er_3.symm.trans hb)
    refine v_bipush (pc' := 14) (v := 59) hx dX3_readRows_12 (by decide) rfl ?_
    replace h := nn_inv h; obtain ⟨b_6, rfl, h⟩ := h
    have hl_7 : zL w 4 b_6 = true := hl_5 _ rfl
    replace h := bd2_inv h; obtain ⟨y_9, w_10, hcl_8, h⟩ := h
    refine v_wf (fun hwf_11 => ?_)
    refine v_callVi (pc' := 17) (w' := w_10) (r := y_9) (ci := 4) (b := b_6) (As := [.int 59]) (rest := []) hx hl_7 (fun G sz hR => ctX4_take (xl x) (xD x) w G sz hR b_6 59 hl_7 hcl_8) rfl my_X4_take ml_X3_19 ⟨by decide, by decide⟩ ⟨by simp only [rmX3_readRows, rmX4_take]; omega, by simp only [rmX3_readRows, rmX4_take]; omega⟩ rfl rfl (Nat.le_of_ble_eq_true rfl) dX3_readRows_14 rfl ?_
    refine V.wide (cs' := cs) (ss' := ss) (Nat.le_of_eq rfl) (Nat.le_of_eq rfl) ?_
    have hm_13 := kX4_take hcl_8 hwf_11
    have hl_14 : zL w_10 3 a0 = true := (hm_13.2 _ _ hl0).1
    refine v_if_eq (tgt := 65) (pc' := 20) hx dX3_readRows_17 (by decide) rfl (fun hc_15 => ?_) (fun hc_15 => ?_)
    · rw [if_pos hc_15] at h
      refine V.sb (L' := [none, none, none]) ⟨Or.inl rfl, Or.inl rfl, Or.inl rfl, trivial⟩ ?_
      refine V.wide (cs' := 52) (ss' := 494) (by omega) (by omega) ?_
      exact vX3_readRows_b65 hx hq h
    · rw [if_neg hc_15] at h
      refine v_new (pc' := 23) (c := 2) hx (by decide) nw_X3_25 ⟨by simp only [rmX3_readRows]; omega, by show _ + 7 ≤ _; simp only [rmX3_readRows]; omega⟩ dX3_readRows_20 rfl ?_
      replace h := lt_inv h; obtain ⟨g_16, eq_17, h⟩ := h
      rw [← eq_17]
      refine V.wide (cs' := (cs + 1)) (ss' := (ss + 7)) (Nat.le_of_eq rfl) (Nat.le_of_eq rfl) ?_
      refine v_dup (pc' := 24) hx dX3_readRows_23 rfl rfl ?_
      subst eq_17
      refine v_callIv (pc' := 27) (w' := nwX2 w_10 ) (b := zS w_10) (As := []) (rest := [.ref (zS w_10)]) hx (fun G sz hR => ctX2_init (xl x) (xD x) w_10 G sz hR  ) my_X2_init ml_X3_27 ⟨by decide, by decide⟩ ⟨by simp only [rmX3_readRows, rmX2_init]; omega, by simp only [rmX3_readRows, rmX2_init]; omega⟩ rfl rfl (Nat.le_of_ble_eq_true rfl) dX3_readRows_24 rfl ?_
      refine V.wide (cs' := (cs + 2)) (ss' := (ss + 19)) (Nat.le_of_eq rfl) (Nat.le_of_eq rfl) ?_
      replace h := lt_inv h; obtain ⟨w_18, ew_19, h⟩ := h
      rw [← ew_19]
      have hm_20 : WF w_18 ∧ ∀ c a, zL w_10 c a = true → zL w_18 c a = true ∧ ∀ k, zA w_18 c a k = zA w_10 c a k := by rw [ew_19]; exact mo_nwX2 w_10  hm_13.1
      have hl_21 : zL w_18 2 (zS w_10) = true := by rw [ew_19]; exact lv_nwX2 w_10 
      have hl_22 : zL w_18 3 a0 = true := (hm_20.2 _ _ hl_14).1
      refine v_astore_n (pc' := 28) (L' := [some (.ref a0), some (.int x1), some (.ref (zS w_10))]) hx dX3_readRows_27 rfl rfl (Nat.le_of_ble_eq_true rfl) ?_
      refine v_aload_n (pc' := 29) hx dX3_readRows_28 rfl rfl ?_
      refine v_aload_n (pc' := 30) hx dX3_readRows_29 rfl rfl ?_
      replace h := bd2_inv h; obtain ⟨y_24, w_25, hcl_23, h⟩ := h
      refine v_callVi (pc' := 33) (w' := w_25) (r := y_24) (ci := 3) (b := a0) (As := [.ref (zS w_10)]) (rest := []) hx hl_22 (fun G sz hR => ctX3_readRow (xl x) (xD x) w_18 G sz hR a0 (zS w_10) hl_22 hl_21 hcl_23) rfl my_X3_readRow ml_X3_28 ⟨by decide, by decide⟩ ⟨by simp only [rmX3_readRows, rmX3_readRow]; omega, by simp only [rmX3_readRows, rmX3_readRow]; omega⟩ rfl rfl (Nat.le_of_ble_eq_true rfl) dX3_readRows_30 rfl ?_
      refine V.wide (cs' := (cs + 2)) (ss' := (ss + 19)) (Nat.le_of_eq rfl) (Nat.le_of_eq rfl) ?_
      have hm_27 := kX3_readRow hcl_23 hm_20.1
      have hl_28 : zL w_25 3 a0 = true := (hm_27.2 _ _ hl_22).1
      have hl_29 : zL w_25 2 (zS w_10) = true := (hm_27.2 _ _ hl_21).1
      refine v_if_ne (tgt := 51) (pc' := 36) hx dX3_readRows_33 (by decide) rfl (fun hc_30 => ?_) (fun hc_30 => ?_)
      · rw [if_neg hc_30] at h
        refine v_aload_n (pc' := 52) hx dX3_readRows_51 rfl rfl ?_
        refine v_getR (pc' := 55) hx hl_28 fi_3_1.1 fi_3_1.2.1 fk_X3_15 dX3_readRows_52 rfl ?_
        replace h := lt_inv h; obtain ⟨u_31, er_32, h⟩ := h
        rw [← er_32]
        refine v_liv hl_28 (fun ht_33 => ?_)
        have hl_34 : ∀ b, u_31 = some b → zL w_25 1 b = true := fun b hb => ht_33 1 _ b (er_32.symm.trans hb)
        refine v_aload_n (pc' := 56) hx dX3_readRows_55 rfl rfl ?_
        replace h := nn_inv h; obtain ⟨b_35, rfl, h⟩ := h
        have hl_36 : zL w_25 1 b_35 = true := hl_34 _ rfl
        replace h := bd_inv h; obtain ⟨w_38, hcl_37, h⟩ := h
        refine v_callVv (pc' := 59) (w' := w_38) (ci := 1) (b := b_35) (As := [.ref (zS w_10)]) (rest := []) hx hl_36 (fun G sz hR => ctX1_keep (xl x) (xD x) w_25 G sz hR b_35 (zS w_10) hl_36 hl_29 hcl_37) rfl my_X1_keep ml_X3_41 ⟨by decide, by decide⟩ ⟨by simp only [rmX3_readRows, rmX1_keep]; omega, by simp only [rmX3_readRows, rmX1_keep]; omega⟩ rfl rfl (Nat.le_of_ble_eq_true rfl) dX3_readRows_56 rfl ?_
        refine V.wide (cs' := (cs + 2)) (ss' := (ss + 19)) (Nat.le_of_eq rfl) (Nat.le_of_eq rfl) ?_
        have hm_40 := kX1_keep hcl_37 hm_27.1
        have hl_41 : zL w_38 3 a0 = true := (hm_40.2 _ _ hl_28).1
        have hl_42 : zL w_38 2 (zS w_10) = true := (hm_40.2 _ _ hl_29).1
        refine v_iinc (pc' := 62) (w0 := (x1 + 1)) (L' := [some (.ref a0), some (.int (x1 + 1)), some (.ref (zS w_10))]) hx dX3_readRows_59 rfl rfl rfl rfl ?_
        refine v_goto (tgt := 2) hx dX3_readRows_62 (by decide) ?_
        refine V.sb (L' := [some (.ref a0), some (.int (x1 + 1)), none]) ⟨Or.inr rfl, Or.inr rfl, Or.inl rfl, trivial⟩ ?_
        exact hrec2 a0 (x1 + 1) w_38 h hl_41
      · rw [if_pos hc_30] at h
        refine v_aload_n (pc' := 37) hx dX3_readRows_36 rfl rfl ?_
        refine v_getR (pc' := 40) hx hl_28 fi_3_1.1 fi_3_1.2.1 fk_X3_15 dX3_readRows_37 rfl ?_
        replace h := lt_inv h; obtain ⟨u_43, er_44, h⟩ := h
        rw [← er_44]
        refine v_liv hl_28 (fun ht_45 => ?_)
        have hl_46 : ∀ b, u_43 = some b → zL w_25 1 b = true := fun b hb => ht_45 1 _ b (er_44.symm.trans hb)
        refine v_aload_n (pc' := 41) hx dX3_readRows_40 rfl rfl ?_
        refine v_getR (pc' := 44) hx hl_28 fi_3_0.1 fi_3_0.2.1 fk_X3_9 dX3_readRows_41 rfl ?_
        replace h := lt_inv h; obtain ⟨u_47, er_48, h⟩ := h
        rw [← er_48]
        refine v_liv hl_28 (fun ht_49 => ?_)
        have hl_50 : ∀ b, u_47 = some b → zL w_25 4 b = true := fun b hb => ht_49 0 _ b (er_48.symm.trans hb)
        replace h := nn_inv h; obtain ⟨b_51, rfl, h⟩ := h
        have hl_52 : zL w_25 4 b_51 = true := hl_50 _ rfl
        refine v_getI (pc' := 47) hx hl_52 fi_4_3.1 fi_4_3.2.1 fk_X3_32 dX3_readRows_44 rfl ?_
        replace h := nn_inv h; obtain ⟨b_53, rfl, h⟩ := h
        have hl_54 : zL w_25 1 b_53 = true := hl_46 _ rfl
        refine v_putI (pc' := 50) hx hl_54 fi_1_7.1 fi_1_7.2.1 fi_1_7.2.2 fk_X3_36 dX3_readRows_47 rfl ?_
        replace h := lt_inv h; obtain ⟨w_55, ew_56, h⟩ := h
        rw [← ew_56]
        have hl_57 : zL w_55 3 a0 = true := by rw [ew_56]; exact hl_28
        have hl_58 : zL w_55 2 (zS w_10) = true := by rw [ew_56]; exact hl_29
        have hwf_59 : WF w_55 := by rw [ew_56]; exact hm_27.1
        exact v_vret hx hq (by simp only [rmX3_readRows]; omega) (by simp only [rmX3_readRows]; omega) dX3_readRows_50 (by cases h; rfl)
theorem vX3_readRows_l2 {x : CT} (hx : CX x cX3_readRows RX3 rmX3_readRows none) {w0 : Wd} (hq : RV x rmX3_readRows w0) : ∀ (fu cs ss : Nat) (_ : cs + 2 * fu ≤ 52) (_ : ss + 19 * fu ≤ 494) (a0 : Nat) (x1 : Int32) (w : Wd), (zL w 3 a0 = true) → fX3_readRows_l2  fu a0 x1 w = some w0 → V x 2 [some (.ref a0), some (.int x1), none] [] (Rp (xD x) w) cs ss := by
  intro fu
  induction fu with
  | zero => intro cs ss hcs hss a0 x1 w hl0 h; cases h
  | succ fu ih =>
    intro cs ss hcs hss a0 x1 w hl0 h
    exact vX3_readRows_b2 hx hq hcs hss  (fun a0 x1 w h hl0 => ih (cs + 2) (ss + 19) (by omega) (by omega) a0 x1 w hl0 h) hl0 h
theorem vX3_readRows {x : CT} (hx : CX x cX3_readRows RX3 rmX3_readRows none) {w0 : Wd} {w : Wd} (hq : RV x rmX3_readRows w0) (a0 : Nat) (hl0 : zL w 3 a0 = true) (h : fX3_readRows a0 w = some w0) : V x 0 [some (.ref a0), none, none] [] (Rp (xD x) w) 0 0 := by
  unfold fX3_readRows at h
  refine v_iconst (pc' := 1) (v := 0) hx dX3_readRows_0 (by decide) rfl ?_
  refine v_istore_n (pc' := 2) (L' := [some (.ref a0), some (.int 0), none]) hx dX3_readRows_1 rfl rfl (Nat.le_of_ble_eq_true rfl) ?_
  exact vX3_readRows_l2 hx hq 26 0 0 (by decide) (by decide) a0 0 w hl0 h
theorem ctX3_readRows (l : Launch) (D : DD) (w : Wd) (G : GT) (sz : Nat) (hR : Rp D w G sz) (a0 : Nat) (hl0 : zL w 3 a0 = true) {w0 : Wd} (h : fX3_readRows a0 w = some w0) : MetV l yX3_readRows (WS yX3_readRows cX3_readRows 3 none) rmX3_readRows D [.ref a0] G sz w0 := by
  refine MetV_ofV (own := RX3) (P := Rp D w) hR (by decide) rfl (by simp [Value.category]) (Nat.le_of_ble_eq_true rfl) (fun x hx hq hD hl => ?_)
  subst hD
  exact vX3_readRows hx hq a0 hl0 h
def fX5_picture_b55 (w : Wd) : Option (Int32 × Wd) := (some ((-2), w))
def fX5_picture_b24 (w : Wd) : Option (Int32 × Wd) := (some ((-1), w))
def fX5_picture (a0 : Nat) (x1 : Int32) (w : Wd) : Option (Int32 × Wd) := (if x1 < 0 then (fX5_picture_b24 w) else (lt' (zR w 5 a0 0 0) (fun u_2 => (nn u_2 (fun b_6 => (if (zI w 4 b_6 1 0) < x1 then (fX5_picture_b24 w) else (if (zI w 5 a0 3 0) < 8 then (lt' (zR w 5 a0 0 0) (fun u_10 => (nn u_10 (fun b_14 => (bd (fX4_openText b_14 x1 w) (fun w_17 => (lt' (zR w_17 5 a0 0 0) (fun u_22 => (nn u_22 (fun b_26 => (bd2 (fX4_readHead b_26 w_17) (fun y_29 w_30 => (if y_29 = (-1) then (fX5_picture_b55 w_30) else (bd (fX5_isTickTaken a0 y_29 w_30) (fun y_36 => (if y_36 = 0 then (lt' (zS w_30) (fun g_39 => (lt' (nwX1 w_30 y_29) (fun w_41 => (lt' (zS w_41) (fun g_46 => (lt' (zR w_41 5 a0 0 0) (fun u_48 => (nn u_48 (fun b_52 => (lt' (nwX3 w_41 b_52 (zS w_30)) (fun w_54 => (bd (fX3_readRows (zS w_41) w_54) (fun w_61 => (bd (fX1_followChains (zS w_30) w_61) (fun w_67 => (lt' (zR w_67 5 a0 2 0) (fun u_72 => (nn u_72 (fun b_76 => (bd (fX0_learn b_76 (zS w_30) w_67) (fun w_79 => (ckp (ix (zI w_79 5 a0 3 0) 8 = true) (lt' (sR w_79 5 a0 1 ((zI w_79 5 a0 3 0) : Int32).toNatClampNeg (some (zS w_30))) (fun w_87 => (lt' (sI w_87 5 a0 3 0 ((zI w_87 5 a0 3 0) + 1)) (fun w_92 => (some (((zI w_92 5 a0 3 0) - 1), w_92))))))))))))))))))))))))))))) else (fX5_picture_b55 w_30))))))))))))))))) else (fX5_picture_b24 w))))))))
theorem kX5_picture_b55 {r0 : Int32} {w0 : Wd} {w wb : Wd} (hm : mo wb w) (h : fX5_picture_b55 w = some (r0, w0)) : mo wb w0 := by
  unfold fX5_picture_b55 at h
  cases h; exact hm
theorem kX5_picture_b24 {r0 : Int32} {w0 : Wd} {w wb : Wd} (hm : mo wb w) (h : fX5_picture_b24 w = some (r0, w0)) : mo wb w0 := by
  unfold fX5_picture_b24 at h
  cases h; exact hm
theorem kX5_picture {r0 : Int32} {w0 : Wd} {a0 : Nat} {x1 : Int32} {w : Wd} (h : fX5_picture a0 x1 w = some (r0, w0)) : mo w w0 := by
  have hm := mo_rf w
  unfold fX5_picture at h
  by_cases hc_1 : x1 < 0
  · rw [if_pos hc_1] at h
    exact kX5_picture_b24 hm h
  · rw [if_neg hc_1] at h
    replace h := lt_inv h; obtain ⟨u_2, er_3, h⟩ := h
    replace h := nn_inv h; obtain ⟨b_6, rfl, h⟩ := h
    by_cases hc_8 : (zI w 4 b_6 1 0) < x1
    · rw [if_pos hc_8] at h
      exact kX5_picture_b24 hm h
    · rw [if_neg hc_8] at h
      by_cases hc_9 : (zI w 5 a0 3 0) < 8
      · rw [if_pos hc_9] at h
        replace h := lt_inv h; obtain ⟨u_10, er_11, h⟩ := h
        replace h := nn_inv h; obtain ⟨b_14, rfl, h⟩ := h
        replace h := bd_inv h; obtain ⟨w_17, hcl_16, h⟩ := h
        have hm := hm.tr (kX4_openText hcl_16)
        replace h := lt_inv h; obtain ⟨u_22, er_23, h⟩ := h
        replace h := nn_inv h; obtain ⟨b_26, rfl, h⟩ := h
        replace h := bd2_inv h; obtain ⟨y_29, w_30, hcl_28, h⟩ := h
        have hm := hm.tr (kX4_readHead hcl_28)
        by_cases hc_34 : y_29 = (-1)
        · rw [if_pos hc_34] at h
          exact kX5_picture_b55 hm h
        · rw [if_neg hc_34] at h
          replace h := bd_inv h; obtain ⟨y_36, hcl_35, h⟩ := h
          by_cases hc_38 : y_36 = 0
          · rw [if_pos hc_38] at h
            replace h := lt_inv h; obtain ⟨g_39, eq_40, h⟩ := h
            replace h := lt_inv h; obtain ⟨w_41, ew_42, h⟩ := h
            have hm := hm.tr (by rw [ew_42]; exact mo_nwX1 w_30 y_29 : mo w_30 w_41)
            subst eq_40
            replace h := lt_inv h; obtain ⟨g_46, eq_47, h⟩ := h
            replace h := lt_inv h; obtain ⟨u_48, er_49, h⟩ := h
            replace h := nn_inv h; obtain ⟨b_52, rfl, h⟩ := h
            replace h := lt_inv h; obtain ⟨w_54, ew_55, h⟩ := h
            have hm := hm.tr (by rw [ew_55]; exact mo_nwX3 w_41 b_52 (zS w_30) : mo w_41 w_54)
            subst eq_47
            replace h := bd_inv h; obtain ⟨w_61, hcl_60, h⟩ := h
            have hm := hm.tr (kX3_readRows hcl_60)
            replace h := bd_inv h; obtain ⟨w_67, hcl_66, h⟩ := h
            have hm := hm.tr (kX1_followChains hcl_66)
            replace h := lt_inv h; obtain ⟨u_72, er_73, h⟩ := h
            replace h := nn_inv h; obtain ⟨b_76, rfl, h⟩ := h
            replace h := bd_inv h; obtain ⟨w_79, hcl_78, h⟩ := h
            have hm := hm.tr (kX0_learn hcl_78)
            replace h := ckp_inv h; obtain ⟨hk_86, h⟩ := h
            replace h := lt_inv h; obtain ⟨w_87, ew_88, h⟩ := h
            have hm := mo_eR hm ew_88
            replace h := lt_inv h; obtain ⟨w_92, ew_93, h⟩ := h
            have hm := mo_eI hm ew_93
            cases h; exact hm
          · rw [if_neg hc_38] at h
            exact kX5_picture_b55 hm h
      · rw [if_neg hc_9] at h
        exact kX5_picture_b24 hm h
theorem vX5_picture_b55 {x : CT} (hx : CX x cX5_picture RX5 rmX5_picture (some .int)) {r0 : Int32} {w0 : Wd} (hq : RI x rmX5_picture r0 w0) {w : Wd} (h : fX5_picture_b55 w = some (r0, w0)) : V x 55 [none, none, none, none] [] (Rp (xD x) w) 0 0 := by
  unfold fX5_picture_b55 at h
  refine v_bipush (pc' := 57) (v := (-2)) hx dX5_picture_55 (by decide) rfl ?_
  exact v_iret hx hq (by decide) (by decide) dX5_picture_57 (by cases h; rfl)
theorem vX5_picture_b24 {x : CT} (hx : CX x cX5_picture RX5 rmX5_picture (some .int)) {r0 : Int32} {w0 : Wd} (hq : RI x rmX5_picture r0 w0) {w : Wd} (h : fX5_picture_b24 w = some (r0, w0)) : V x 24 [none, none, none, none] [] (Rp (xD x) w) 0 0 := by
  unfold fX5_picture_b24 at h
  refine v_iconst (pc' := 25) (v := (-1)) hx dX5_picture_24 (by decide) rfl ?_
  exact v_iret hx hq (by decide) (by decide) dX5_picture_25 (by cases h; rfl)
theorem vX5_picture {x : CT} (hx : CX x cX5_picture RX5 rmX5_picture (some .int)) {r0 : Int32} {w0 : Wd} {w : Wd} (hq : RI x rmX5_picture r0 w0) (a0 : Nat) (x1 : Int32) (hl0 : zL w 5 a0 = true) (h : fX5_picture a0 x1 w = some (r0, w0)) : V x 0 [some (.ref a0), some (.int x1), none, none] [] (Rp (xD x) w) 0 0 := by
  unfold fX5_picture at h
  refine v_iload_n (pc' := 1) hx dX5_picture_0 rfl rfl ?_
  refine v_if_lt (tgt := 24) (pc' := 4) hx dX5_picture_1 (by decide) rfl (fun hc_1 => ?_) (fun hc_1 => ?_)
  · rw [if_pos hc_1] at h
    refine V.sb (L' := [none, none, none, none]) ⟨Or.inl rfl, Or.inl rfl, Or.inl rfl, Or.inl rfl, trivial⟩ ?_
    exact vX5_picture_b24 hx hq h
  · rw [if_neg hc_1] at h
    refine v_iload_n (pc' := 5) hx dX5_picture_4 rfl rfl ?_
    refine v_aload_n (pc' := 6) hx dX5_picture_5 rfl rfl ?_
    refine v_getR (pc' := 9) hx hl0 fi_5_0.1 fi_5_0.2.1 fk_X5_10 dX5_picture_6 rfl ?_
    replace h := lt_inv h; obtain ⟨u_2, er_3, h⟩ := h
    rw [← er_3]
    refine v_liv hl0 (fun ht_4 => ?_)
    have hl_5 : ∀ b, u_2 = some b → zL w 4 b = true := fun b hb => ht_4 0 _ b (er_3.symm.trans hb)
    replace h := nn_inv h; obtain ⟨b_6, rfl, h⟩ := h
    have hl_7 : zL w 4 b_6 = true := hl_5 _ rfl
    refine v_getI (pc' := 12) hx hl_7 fi_4_1.1 fi_4_1.2.1 fk_X5_39 dX5_picture_9 rfl ?_
    refine v_icmp_gt (tgt := 24) (pc' := 15) hx dX5_picture_12 (by decide) rfl (fun hc_8 => ?_) (fun hc_8 => ?_)
    · rw [if_pos hc_8] at h
      refine V.sb (L' := [none, none, none, none]) ⟨Or.inl rfl, Or.inl rfl, Or.inl rfl, Or.inl rfl, trivial⟩ ?_
      exact vX5_picture_b24 hx hq h
    · rw [if_neg hc_8] at h
      refine v_aload_n (pc' := 16) hx dX5_picture_15 rfl rfl ?_
      refine v_getI (pc' := 19) hx hl0 fi_5_3.1 fi_5_3.2.1 fk_X5_29 dX5_picture_16 rfl ?_
      refine v_bipush (pc' := 21) (v := 8) hx dX5_picture_19 (by decide) rfl ?_
      refine v_icmp_lt (tgt := 26) (pc' := 24) hx dX5_picture_21 (by decide) rfl (fun hc_9 => ?_) (fun hc_9 => ?_)
      · rw [if_pos hc_9] at h
        refine v_aload_n (pc' := 27) hx dX5_picture_26 rfl rfl ?_
        refine v_getR (pc' := 30) hx hl0 fi_5_0.1 fi_5_0.2.1 fk_X5_10 dX5_picture_27 rfl ?_
        replace h := lt_inv h; obtain ⟨u_10, er_11, h⟩ := h
        rw [← er_11]
        refine v_liv hl0 (fun ht_12 => ?_)
        have hl_13 : ∀ b, u_10 = some b → zL w 4 b = true := fun b hb => ht_12 0 _ b (er_11.symm.trans hb)
        refine v_iload_n (pc' := 31) hx dX5_picture_30 rfl rfl ?_
        replace h := nn_inv h; obtain ⟨b_14, rfl, h⟩ := h
        have hl_15 : zL w 4 b_14 = true := hl_13 _ rfl
        replace h := bd_inv h; obtain ⟨w_17, hcl_16, h⟩ := h
        refine v_wf (fun hwf_18 => ?_)
        refine v_callVv (pc' := 34) (w' := w_17) (ci := 4) (b := b_14) (As := [.int x1]) (rest := []) hx hl_15 (fun G sz hR => ctX4_openText (xl x) (xD x) w G sz hR b_14 x1 hl_15 hcl_16) rfl my_X4_openText ml_X5_46 ⟨by decide, by decide⟩ ⟨by decide, by decide⟩ rfl rfl (Nat.le_of_ble_eq_true rfl) dX5_picture_31 rfl ?_
        refine V.wide (cs' := 0) (ss' := 0) (Nat.le_of_eq rfl) (Nat.le_of_eq rfl) ?_
        have hm_20 := kX4_openText hcl_16 hwf_18
        have hl_21 : zL w_17 5 a0 = true := (hm_20.2 _ _ hl0).1
        refine v_aload_n (pc' := 35) hx dX5_picture_34 rfl rfl ?_
        refine v_getR (pc' := 38) hx hl_21 fi_5_0.1 fi_5_0.2.1 fk_X5_10 dX5_picture_35 rfl ?_
        replace h := lt_inv h; obtain ⟨u_22, er_23, h⟩ := h
        rw [← er_23]
        refine v_liv hl_21 (fun ht_24 => ?_)
        have hl_25 : ∀ b, u_22 = some b → zL w_17 4 b = true := fun b hb => ht_24 0 _ b (er_23.symm.trans hb)
        replace h := nn_inv h; obtain ⟨b_26, rfl, h⟩ := h
        have hl_27 : zL w_17 4 b_26 = true := hl_25 _ rfl
        replace h := bd2_inv h; obtain ⟨y_29, w_30, hcl_28, h⟩ := h
        refine v_callVi (pc' := 41) (w' := w_30) (r := y_29) (ci := 4) (b := b_26) (As := []) (rest := []) hx hl_27 (fun G sz hR => ctX4_readHead (xl x) (xD x) w_17 G sz hR b_26 hl_27 hcl_28) rfl my_X4_readHead ml_X5_49 ⟨by decide, by decide⟩ ⟨by decide, by decide⟩ rfl rfl (Nat.le_of_ble_eq_true rfl) dX5_picture_38 rfl ?_
        refine V.wide (cs' := 0) (ss' := 0) (Nat.le_of_eq rfl) (Nat.le_of_eq rfl) ?_
        have hm_32 := kX4_readHead hcl_28 hm_20.1
        have hl_33 : zL w_30 5 a0 = true := (hm_32.2 _ _ hl_21).1
        refine v_istore_n (pc' := 42) (L' := [some (.ref a0), some (.int x1), some (.int y_29), none]) hx dX5_picture_41 rfl rfl (Nat.le_of_ble_eq_true rfl) ?_
        refine v_iload_n (pc' := 43) hx dX5_picture_42 rfl rfl ?_
        refine v_iconst (pc' := 44) (v := (-1)) hx dX5_picture_43 (by decide) rfl ?_
        refine v_icmp_eq (tgt := 55) (pc' := 47) hx dX5_picture_44 (by decide) rfl (fun hc_34 => ?_) (fun hc_34 => ?_)
        · rw [if_pos hc_34] at h
          refine V.sb (L' := [none, none, none, none]) ⟨Or.inl rfl, Or.inl rfl, Or.inl rfl, Or.inl rfl, trivial⟩ ?_
          exact vX5_picture_b55 hx hq h
        · rw [if_neg hc_34] at h
          refine v_aload_n (pc' := 48) hx dX5_picture_47 rfl rfl ?_
          refine v_iload_n (pc' := 49) hx dX5_picture_48 rfl rfl ?_
          replace h := bd_inv h; obtain ⟨y_36, hcl_35, h⟩ := h
          refine v_callVi (pc' := 52) (w' := w_30) (r := y_36) (ci := 5) (b := a0) (As := [.int y_29]) (rest := []) hx hl_33 (fun G sz hR => ctX5_isTickTaken (xl x) (xD x) w_30 G sz hR a0 y_29 hl_33 hcl_35) rfl my_X5_isTickTaken ml_X5_53 ⟨by decide, by decide⟩ ⟨by decide, by decide⟩ rfl rfl (Nat.le_of_ble_eq_true rfl) dX5_picture_49 rfl ?_
          refine V.wide (cs' := 0) (ss' := 0) (Nat.le_of_eq rfl) (Nat.le_of_eq rfl) ?_
          refine v_if_eq (tgt := 58) (pc' := 55) hx dX5_picture_52 (by decide) rfl (fun hc_38 => ?_) (fun hc_38 => ?_)
          · rw [if_pos hc_38] at h
            refine v_new (pc' := 61) (c := 1) hx (by decide) nw_X5_16 ⟨by decide, by decide⟩ dX5_picture_58 rfl ?_
            replace h := lt_inv h; obtain ⟨g_39, eq_40, h⟩ := h
            rw [← eq_40]
            refine V.wide (cs' := 1) (ss' := 11) (Nat.le_of_eq rfl) (Nat.le_of_eq rfl) ?_
            refine v_dup (pc' := 62) hx dX5_picture_61 rfl rfl ?_
            refine v_iload_n (pc' := 63) hx dX5_picture_62 rfl rfl ?_
            subst eq_40
            refine v_callIv (pc' := 66) (w' := nwX1 w_30 y_29) (b := zS w_30) (As := [.int y_29]) (rest := [.ref (zS w_30)]) hx (fun G sz hR => ctX1_init (xl x) (xD x) w_30 G sz hR y_29 ) my_X1_init ml_X5_57 ⟨by decide, by decide⟩ ⟨by decide, by decide⟩ rfl rfl (Nat.le_of_ble_eq_true rfl) dX5_picture_63 rfl ?_
            refine V.wide (cs' := 7) (ss' := 688) (Nat.le_of_eq rfl) (Nat.le_of_eq rfl) ?_
            replace h := lt_inv h; obtain ⟨w_41, ew_42, h⟩ := h
            rw [← ew_42]
            have hm_43 : WF w_41 ∧ ∀ c a, zL w_30 c a = true → zL w_41 c a = true ∧ ∀ k, zA w_41 c a k = zA w_30 c a k := by rw [ew_42]; exact mo_nwX1 w_30 y_29 hm_32.1
            have hl_44 : zL w_41 1 (zS w_30) = true := by rw [ew_42]; exact lv_nwX1 w_30 y_29
            have hl_45 : zL w_41 5 a0 = true := (hm_43.2 _ _ hl_33).1
            refine v_astore_n (pc' := 67) (L' := [some (.ref a0), some (.int x1), some (.int y_29), some (.ref (zS w_30))]) hx dX5_picture_66 rfl rfl (Nat.le_of_ble_eq_true rfl) ?_
            refine v_new (pc' := 70) (c := 3) hx (by decide) nw_X5_59 ⟨by decide, by decide⟩ dX5_picture_67 rfl ?_
            replace h := lt_inv h; obtain ⟨g_46, eq_47, h⟩ := h
            rw [← eq_47]
            refine V.wide (cs' := 8) (ss' := 690) (Nat.le_of_eq rfl) (Nat.le_of_eq rfl) ?_
            refine v_dup (pc' := 71) hx dX5_picture_70 rfl rfl ?_
            refine v_aload_n (pc' := 72) hx dX5_picture_71 rfl rfl ?_
            refine v_getRX (pc' := 75) hx hl_45 fi_5_0.1 fi_5_0.2.1 fk_X5_10 dX5_picture_72 rfl ?_
            replace h := lt_inv h; obtain ⟨u_48, er_49, h⟩ := h
            rw [← er_49]
            refine v_livX hl_45 (fun ht_50 => ?_)
            have hl_51 : ∀ b, u_48 = some b → zL w_41 4 b = true := fun b hb => ht_50 0 _ b (er_49.symm.trans hb)
            refine v_aload_n (pc' := 76) hx dX5_picture_75 rfl rfl ?_
            replace h := nn_inv h; obtain ⟨b_52, rfl, h⟩ := h
            have hl_53 : zL w_41 4 b_52 = true := hl_51 _ rfl
            subst eq_47
            refine v_callIv (pc' := 79) (w' := nwX3 w_41 b_52 (zS w_30)) (b := zS w_41) (As := [.ref b_52, .ref (zS w_30)]) (rest := [.ref (zS w_41)]) hx (fun G sz hR => ctX3_init (xl x) (xD x) w_41 G sz hR b_52 (zS w_30) hl_53 hl_44) my_X3_init ml_X5_61 ⟨by decide, by decide⟩ ⟨by decide, by decide⟩ rfl rfl (Nat.le_of_ble_eq_true rfl) dX5_picture_76 rfl ?_
            refine V.wide (cs' := 8) (ss' := 690) (Nat.le_of_eq rfl) (Nat.le_of_eq rfl) ?_
            replace h := lt_inv h; obtain ⟨w_54, ew_55, h⟩ := h
            rw [← ew_55]
            have hm_56 : WF w_54 ∧ ∀ c a, zL w_41 c a = true → zL w_54 c a = true ∧ ∀ k, zA w_54 c a k = zA w_41 c a k := by rw [ew_55]; exact mo_nwX3 w_41 b_52 (zS w_30) hm_43.1
            have hl_57 : zL w_54 3 (zS w_41) = true := by rw [ew_55]; exact lv_nwX3 w_41 b_52 (zS w_30)
            have hl_58 : zL w_54 5 a0 = true := (hm_56.2 _ _ hl_45).1
            have hl_59 : zL w_54 1 (zS w_30) = true := (hm_56.2 _ _ hl_44).1
            replace h := bd_inv h; obtain ⟨w_61, hcl_60, h⟩ := h
            refine v_callVv (pc' := 82) (w' := w_61) (ci := 3) (b := (zS w_41)) (As := []) (rest := []) hx hl_57 (fun G sz hR => ctX3_readRows (xl x) (xD x) w_54 G sz hR (zS w_41) hl_57 hcl_60) rfl my_X3_readRows ml_X5_64 ⟨by decide, by decide⟩ ⟨by decide, by decide⟩ rfl rfl (Nat.le_of_ble_eq_true rfl) dX5_picture_79 rfl ?_
            refine V.wide (cs' := 60) (ss' := 1184) (Nat.le_of_eq rfl) (Nat.le_of_eq rfl) ?_
            have hm_63 := kX3_readRows hcl_60 hm_56.1
            have hl_64 : zL w_61 5 a0 = true := (hm_63.2 _ _ hl_58).1
            have hl_65 : zL w_61 1 (zS w_30) = true := (hm_63.2 _ _ hl_59).1
            refine v_aload_n (pc' := 83) hx dX5_picture_82 rfl rfl ?_
            replace h := bd_inv h; obtain ⟨w_67, hcl_66, h⟩ := h
            refine v_callVv (pc' := 86) (w' := w_67) (ci := 1) (b := (zS w_30)) (As := []) (rest := []) hx hl_65 (fun G sz hR => ctX1_followChains (xl x) (xD x) w_61 G sz hR (zS w_30) hl_65 hcl_66) rfl my_X1_followChains ml_X5_67 ⟨by decide, by decide⟩ ⟨by decide, by decide⟩ rfl rfl (Nat.le_of_ble_eq_true rfl) dX5_picture_83 rfl ?_
            refine V.wide (cs' := 60) (ss' := 1184) (Nat.le_of_eq rfl) (Nat.le_of_eq rfl) ?_
            have hm_69 := kX1_followChains hcl_66 hm_63.1
            have hl_70 : zL w_67 5 a0 = true := (hm_69.2 _ _ hl_64).1
            have hl_71 : zL w_67 1 (zS w_30) = true := (hm_69.2 _ _ hl_65).1
            refine v_aload_n (pc' := 87) hx dX5_picture_86 rfl rfl ?_
            refine v_getR (pc' := 90) hx hl_70 fi_5_2.1 fi_5_2.2.1 fk_X5_25 dX5_picture_87 rfl ?_
            replace h := lt_inv h; obtain ⟨u_72, er_73, h⟩ := h
            rw [← er_73]
            refine v_liv hl_70 (fun ht_74 => ?_)
            have hl_75 : ∀ b, u_72 = some b → zL w_67 0 b = true := fun b hb => ht_74 2 _ b (er_73.symm.trans hb)
            refine v_aload_n (pc' := 91) hx dX5_picture_90 rfl rfl ?_
            replace h := nn_inv h; obtain ⟨b_76, rfl, h⟩ := h
            have hl_77 : zL w_67 0 b_76 = true := hl_75 _ rfl
            replace h := bd_inv h; obtain ⟨w_79, hcl_78, h⟩ := h
            refine v_callVv (pc' := 94) (w' := w_79) (ci := 0) (b := b_76) (As := [.ref (zS w_30)]) (rest := []) hx hl_77 (fun G sz hR => ctX0_learn (xl x) (xD x) w_67 G sz hR b_76 (zS w_30) hl_77 hl_71 hcl_78) rfl my_X0_learn ml_X5_70 ⟨by decide, by decide⟩ ⟨by decide, by decide⟩ rfl rfl (Nat.le_of_ble_eq_true rfl) dX5_picture_91 rfl ?_
            refine V.wide (cs' := 60) (ss' := 1184) (Nat.le_of_eq rfl) (Nat.le_of_eq rfl) ?_
            have hm_81 := kX0_learn hcl_78 hm_69.1
            have hl_82 : zL w_79 5 a0 = true := (hm_81.2 _ _ hl_70).1
            have hl_83 : zL w_79 1 (zS w_30) = true := (hm_81.2 _ _ hl_71).1
            refine v_aload_n (pc' := 95) hx dX5_picture_94 rfl rfl ?_
            obtain ⟨g_84, hq_85⟩ : ∃ q, zA w_79 5 a0 1 = q := ⟨_, rfl⟩
            refine v_getAq (pc' := 98) hx hl_82 fi_5_1.1 (by decide) hq_85 fk_X5_18 dX5_picture_95 rfl ?_
            refine v_aload_n (pc' := 99) hx dX5_picture_98 rfl rfl ?_
            refine v_getI (pc' := 102) hx hl_82 fi_5_3.1 fi_5_3.2.1 fk_X5_29 dX5_picture_99 rfl ?_
            refine v_aload_n (pc' := 103) hx dX5_picture_102 rfl rfl ?_
            replace h := ckp_inv h; obtain ⟨hk_86, h⟩ := h
            refine v_aastq (pc' := 104) (t0 := 4) hx hl_82 fi_5_1.1 fi_5_1.2.1 rfl rfl (by decide) hl_83 rfl hk_86 hq_85 dX5_picture_103 rfl ?_
            replace h := lt_inv h; obtain ⟨w_87, ew_88, h⟩ := h
            rw [← ew_88]
            have hl_89 : zL w_87 5 a0 = true := by rw [ew_88]; exact hl_82
            have hl_90 : zL w_87 1 (zS w_30) = true := by rw [ew_88]; exact hl_83
            have hwf_91 : WF w_87 := by rw [ew_88]; exact hm_81.1
            refine v_aload_n (pc' := 105) hx dX5_picture_104 rfl rfl ?_
            refine v_dup (pc' := 106) hx dX5_picture_105 rfl rfl ?_
            refine v_getI (pc' := 109) hx hl_89 fi_5_3.1 fi_5_3.2.1 fk_X5_29 dX5_picture_106 rfl ?_
            refine v_iconst (pc' := 110) (v := 1) hx dX5_picture_109 (by decide) rfl ?_
            refine v_iadd (pc' := 111) hx dX5_picture_110 rfl ?_
            refine v_putI (pc' := 114) hx hl_89 fi_5_3.1 fi_5_3.2.1 fi_5_3.2.2 fk_X5_29 dX5_picture_111 rfl ?_
            replace h := lt_inv h; obtain ⟨w_92, ew_93, h⟩ := h
            rw [← ew_93]
            have hl_94 : zL w_92 5 a0 = true := by rw [ew_93]; exact hl_89
            have hl_95 : zL w_92 1 (zS w_30) = true := by rw [ew_93]; exact hl_90
            have hwf_96 : WF w_92 := by rw [ew_93]; exact hwf_91
            refine v_aload_n (pc' := 115) hx dX5_picture_114 rfl rfl ?_
            refine v_getI (pc' := 118) hx hl_94 fi_5_3.1 fi_5_3.2.1 fk_X5_29 dX5_picture_115 rfl ?_
            refine v_iconst (pc' := 119) (v := 1) hx dX5_picture_118 (by decide) rfl ?_
            refine v_isub (pc' := 120) hx dX5_picture_119 rfl ?_
            exact v_iret hx hq (by decide) (by decide) dX5_picture_120 (by cases h; rfl)
          · rw [if_neg hc_38] at h
            refine V.sb (L' := [none, none, none, none]) ⟨Or.inl rfl, Or.inl rfl, Or.inl rfl, Or.inl rfl, trivial⟩ ?_
            exact vX5_picture_b55 hx hq h
      · rw [if_neg hc_9] at h
        refine V.sb (L' := [none, none, none, none]) ⟨Or.inl rfl, Or.inl rfl, Or.inl rfl, Or.inl rfl, trivial⟩ ?_
        exact vX5_picture_b24 hx hq h
theorem ctX5_picture (l : Launch) (D : DD) (w : Wd) (G : GT) (sz : Nat) (hR : Rp D w G sz) (a0 : Nat) (x1 : Int32) (hl0 : zL w 5 a0 = true) {r0 : Int32} {w0 : Wd} (h : fX5_picture a0 x1 w = some (r0, w0)) : MetI l yX5_picture (WS yX5_picture cX5_picture 4 (some .int)) rmX5_picture D [.ref a0, .int x1] G sz r0 w0 := by
  refine MetI_ofV (own := RX5) (P := Rp D w) hR (by decide) rfl (by simp [Value.category]) (Nat.le_of_ble_eq_true rfl) (fun x hx hq hD hl => ?_)
  subst hD
  exact vX5_picture hx hq a0 x1 hl0 h
