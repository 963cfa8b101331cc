theorem kX6_stands_b69 {w0 : Wd} {rec69 : Nat → Int32 → Int32 → Wd → Option (Wd)} {a0 : Nat} {x2 : Int32} {x3 : Int32} {w wb : Wd} (hkr69 : ∀ (a0 : Nat) (x2 : Int32) (x3 : Int32) (w : Wd), rec69 a0 x2 x3 w = some w0 → mo wb w → mo wb w0) (hm : mo wb w) (h : fX6_stands_b69 rec69 a0 x2 x3 w = some w0) : mo wb w0 := by
  unfold fX6_stands_b69 at h
  by_cases hc_1 : (zI w 6 a0 23 0) ≤ x3
  · rw [if_pos hc_1] at h
    cases h; exact hm
  · rw [if_neg hc_1] at h
    replace h := ckp_inv h; obtain ⟨hk_6, h⟩ := h
    replace h := ckp_inv h; obtain ⟨hk_7, h⟩ := h
    replace h := lt_inv h; obtain ⟨w_8, ew_9, h⟩ := h
    have hm := mo_eI hm ew_9
    exact hkr69 a0 x2 (x3 + 1) w_8 h hm
theorem kX6_stands_l69 {w0 : Wd} {wb : Wd} : ∀ (n : Nat) (a0 : Nat) (x2 : Int32) (x3 : Int32) (w : Wd), mo wb w → fX6_stands_l69  n a0 x2 x3 w = some w0 → mo wb w0 := by
  intro n
  induction n with
  | zero => intro a0 x2 x3 w hm h; cases h
  | succ n ih =>
    intro a0 x2 x3 w hm h
    exact kX6_stands_b69  (fun a0 x2 x3 w h hm => ih a0 x2 x3 w hm h) hm h
theorem kX6_stands {w0 : Wd} {a0 : Nat} {x1 : Int32} {w : Wd} (h : fX6_stands a0 x1 w = some w0) : mo w w0 := by
  have hm := mo_rf w
  unfold fX6_stands at h
  replace h := ckp_inv h; obtain ⟨hk_3, h⟩ := h
  replace h := lt_inv h; obtain ⟨w_4, ew_5, h⟩ := h
  have hm := mo_eI hm ew_5
  replace h := ckp_inv h; obtain ⟨hk_9, h⟩ := h
  replace h := lt_inv h; obtain ⟨w_10, ew_11, h⟩ := h
  have hm := mo_eI hm ew_11
  replace h := ckp_inv h; obtain ⟨hk_15, h⟩ := h
  replace h := lt_inv h; obtain ⟨w_16, ew_17, h⟩ := h
  have hm := mo_eI hm ew_17
  replace h := ckp_inv h; obtain ⟨hk_21, h⟩ := h
  replace h := lt_inv h; obtain ⟨w_22, ew_23, h⟩ := h
  have hm := mo_eI hm ew_23
  replace h := ckp_inv h; obtain ⟨hk_27, h⟩ := h
  replace h := lt_inv h; obtain ⟨w_28, ew_29, h⟩ := h
  have hm := mo_eI hm ew_29
  replace h := ckp_inv h; obtain ⟨hk_33, h⟩ := h
  replace h := lt_inv h; obtain ⟨w_34, ew_35, h⟩ := h
  have hm := mo_eI hm ew_35
  exact kX6_stands_l69 1000 a0 ((24 * x1) + (zI w 6 a0 18 0)) 0 w_34 hm h
theorem vX6_stands_b69 {x : CT} (hx : CX x cX6_stands RX6 rmX6_stands none) {w0 : Wd} (hq : RV x rmX6_stands w0) {rec69 : Nat → Int32 → Int32 → Wd → Option (Wd)} {a0 : Nat} {x2 : Int32} {x3 : Int32} {w : Wd} (hrec69 : ∀ (a0 : Nat) (x2 : Int32) (x3 : Int32) (w : Wd), rec69 a0 x2 x3 w = some w0 → (zL w 6 a0 = true) → V x 69 [some (.ref a0), none, some (.int x2), some (.int x3)] [] (Rp (xD x) w) 0 0) (hl0 : zL w 6 a0 = true) (h : fX6_stands_b69 rec69 a0 x2 x3 w = some w0) : V x 69 [some (.ref a0), none, some (.int x2), some (.int x3)] [] (Rp (xD x) w) 0 0 := by
  unfold fX6_stands_b69 at h
  refine v_iload_n (pc' := 70) hx dX6_stands_69 rfl rfl ?_
  refine v_aload_n (pc' := 71) hx dX6_stands_70 rfl rfl ?_
  refine v_getI (pc' := 74) hx hl0 fi_6_23.1 fi_6_23.2.1 fk_X6_112 dX6_stands_71 rfl ?_
  refine v_icmp_ge (tgt := 100) (pc' := 77) hx dX6_stands_74 (by decide) rfl (fun hc_1 => ?_) (fun hc_1 => ?_)
  · rw [if_pos hc_1] at h
    exact v_vret hx hq (by decide) (by decide) dX6_stands_100 (by cases h; rfl)
  · rw [if_neg hc_1] at h
    refine v_aload_n (pc' := 78) hx dX6_stands_77 rfl rfl ?_
    obtain ⟨g_2, hq_3⟩ : ∃ q, zA w 6 a0 13 = q := ⟨_, rfl⟩
    refine v_getAq (pc' := 81) hx hl0 fi_6_13.1 (by decide) hq_3 fk_X6_46 dX6_stands_78 rfl ?_
    refine v_bipush (pc' := 83) (v := 12) hx dX6_stands_81 (by decide) rfl ?_
    refine v_iload_n (pc' := 84) hx dX6_stands_83 rfl rfl ?_
    refine v_imul (pc' := 85) hx dX6_stands_84 rfl ?_
    refine v_iload_n (pc' := 86) hx dX6_stands_85 rfl rfl ?_
    refine v_iadd (pc' := 87) hx dX6_stands_86 rfl ?_
    refine v_aload_n (pc' := 88) hx dX6_stands_87 rfl rfl ?_
    obtain ⟨g_4, hq_5⟩ : ∃ q, zA w 6 a0 24 = q := ⟨_, rfl⟩
    refine v_getAq (pc' := 91) hx hl0 fi_6_24.1 (by decide) hq_5 fk_X6_49 dX6_stands_88 rfl ?_
    refine v_iload_n (pc' := 92) hx dX6_stands_91 rfl rfl ?_
    replace h := ckp_inv h; obtain ⟨hk_6, h⟩ := h
    refine v_baldq (pc' := 93) hx hl0 fi_6_24.1 fi_6_24.2.1 rfl hk_6 hq_5 dX6_stands_92 rfl ?_
    replace h := ckp_inv h; obtain ⟨hk_7, h⟩ := h
    refine v_bastq (pc' := 94) hx hl0 fi_6_13.1 fi_6_13.2.1 rfl hk_7 hq_3 dX6_stands_93 rfl ?_
    replace h := lt_inv h; obtain ⟨w_8, ew_9, h⟩ := h
    rw [← ew_9]
    have hl_10 : zL w_8 6 a0 = true := by rw [ew_9]; exact hl0
    refine v_iinc (pc' := 97) (w0 := (x3 + 1)) (L' := [some (.ref a0), none, some (.int x2), some (.int (x3 + 1))]) hx dX6_stands_94 rfl rfl rfl rfl ?_
    refine v_goto (tgt := 69) hx dX6_stands_97 (by decide) ?_
    exact hrec69 a0 x2 (x3 + 1) w_8 h hl_10
theorem vX6_stands_l69 {x : CT} (hx : CX x cX6_stands RX6 rmX6_stands none) {w0 : Wd} (hq : RV x rmX6_stands w0) : ∀ (n : Nat) (a0 : Nat) (x2 : Int32) (x3 : Int32) (w : Wd), (zL w 6 a0 = true) → fX6_stands_l69  n a0 x2 x3 w = some w0 → V x 69 [some (.ref a0), none, some (.int x2), some (.int x3)] [] (Rp (xD x) w) 0 0 := by
  intro n
  induction n with
  | zero => intro a0 x2 x3 w hl0 h; cases h
  | succ n ih =>
    intro a0 x2 x3 w hl0 h
    exact vX6_stands_b69 hx hq  (fun a0 x2 x3 w h hl0 => ih a0 x2 x3 w hl0 h) hl0 h
theorem vX6_stands {x : CT} (hx : CX x cX6_stands RX6 rmX6_stands none) {w0 : Wd} {w : Wd} (hq : RV x rmX6_stands w0) (a0 : Nat) (x1 : Int32) (hl0 : zL w 6 a0 = true) (h : fX6_stands a0 x1 w = some w0) : V x 0 [some (.ref a0), some (.int x1), none, none] [] (Rp (xD x) w) 0 0 := by
  unfold fX6_stands at h
  refine v_bipush (pc' := 2) (v := 24) hx dX6_stands_0 (by decide) rfl ?_
  refine v_iload_n (pc' := 3) hx dX6_stands_2 rfl rfl ?_
  refine v_imul (pc' := 4) hx dX6_stands_3 rfl ?_
  refine v_aload_n (pc' := 5) hx dX6_stands_4 rfl rfl ?_
  refine v_getI (pc' := 8) hx hl0 fi_6_18.1 fi_6_18.2.1 fk_X6_118 dX6_stands_5 rfl ?_
  refine v_iadd (pc' := 9) hx dX6_stands_8 rfl ?_
  refine v_istore_n (pc' := 10) (L' := [some (.ref a0), some (.int x1), some (.int ((24 * x1) + (zI w 6 a0 18 0))), none]) hx dX6_stands_9 rfl rfl (Nat.le_of_ble_eq_true rfl) ?_
  refine v_aload_n (pc' := 11) hx dX6_stands_10 rfl rfl ?_
  obtain ⟨g_1, hq_2⟩ : ∃ q, zA w 6 a0 7 = q := ⟨_, rfl⟩
  refine v_getAq (pc' := 14) hx hl0 fi_6_7.1 (by decide) hq_2 fk_X6_27 dX6_stands_11 rfl ?_
  refine v_iload_n (pc' := 15) hx dX6_stands_14 rfl rfl ?_
  refine v_iconst (pc' := 16) (v := 1) hx dX6_stands_15 (by decide) rfl ?_
  replace h := ckp_inv h; obtain ⟨hk_3, h⟩ := h
  refine v_zastq (pc' := 17) hx hl0 fi_6_7.1 fi_6_7.2.1 rfl hk_3 hq_2 dX6_stands_16 rfl ?_
  replace h := lt_inv h; obtain ⟨w_4, ew_5, h⟩ := h
  rw [← ew_5]
  have hl_6 : zL w_4 6 a0 = true := by rw [ew_5]; exact hl0
  refine v_aload_n (pc' := 18) hx dX6_stands_17 rfl rfl ?_
  obtain ⟨g_7, hq_8⟩ : ∃ q, zA w_4 6 a0 8 = q := ⟨_, rfl⟩
  refine v_getAq (pc' := 21) hx hl_6 fi_6_8.1 (by decide) hq_8 fk_X6_31 dX6_stands_18 rfl ?_
  refine v_iload_n (pc' := 22) hx dX6_stands_21 rfl rfl ?_
  refine v_aload_n (pc' := 23) hx dX6_stands_22 rfl rfl ?_
  refine v_getI (pc' := 26) hx hl_6 fi_6_19.1 fi_6_19.2.1 fk_X6_124 dX6_stands_23 rfl ?_
  replace h := ckp_inv h; obtain ⟨hk_9, h⟩ := h
  refine v_iastq (pc' := 27) hx hl_6 fi_6_8.1 fi_6_8.2.1 rfl hk_9 hq_8 dX6_stands_26 rfl ?_
  replace h := lt_inv h; obtain ⟨w_10, ew_11, h⟩ := h
  rw [← ew_11]
  have hl_12 : zL w_10 6 a0 = true := by rw [ew_11]; exact hl_6
  refine v_aload_n (pc' := 28) hx dX6_stands_27 rfl rfl ?_
  obtain ⟨g_13, hq_14⟩ : ∃ q, zA w_10 6 a0 9 = q := ⟨_, rfl⟩
  refine v_getAq (pc' := 31) hx hl_12 fi_6_9.1 (by decide) hq_14 fk_X6_34 dX6_stands_28 rfl ?_
  refine v_iload_n (pc' := 32) hx dX6_stands_31 rfl rfl ?_
  refine v_aload_n (pc' := 33) hx dX6_stands_32 rfl rfl ?_
  refine v_getI (pc' := 36) hx hl_12 fi_6_20.1 fi_6_20.2.1 fk_X6_127 dX6_stands_33 rfl ?_
  replace h := ckp_inv h; obtain ⟨hk_15, h⟩ := h
  refine v_iastq (pc' := 37) hx hl_12 fi_6_9.1 fi_6_9.2.1 rfl hk_15 hq_14 dX6_stands_36 rfl ?_
  replace h := lt_inv h; obtain ⟨w_16, ew_17, h⟩ := h
  rw [← ew_17]
  have hl_18 : zL w_16 6 a0 = true := by rw [ew_17]; exact hl_12
  refine v_aload_n (pc' := 38) hx dX6_stands_37 rfl rfl ?_
  obtain ⟨g_19, hq_20⟩ : ∃ q, zA w_16 6 a0 10 = q := ⟨_, rfl⟩
  refine v_getAq (pc' := 41) hx hl_18 fi_6_10.1 (by decide) hq_20 fk_X6_37 dX6_stands_38 rfl ?_
  refine v_iload_n (pc' := 42) hx dX6_stands_41 rfl rfl ?_
  refine v_aload_n (pc' := 43) hx dX6_stands_42 rfl rfl ?_
  refine v_getI (pc' := 46) hx hl_18 fi_6_21.1 fi_6_21.2.1 fk_X6_109 dX6_stands_43 rfl ?_
  replace h := ckp_inv h; obtain ⟨hk_21, h⟩ := h
  refine v_iastq (pc' := 47) hx hl_18 fi_6_10.1 fi_6_10.2.1 rfl hk_21 hq_20 dX6_stands_46 rfl ?_
  replace h := lt_inv h; obtain ⟨w_22, ew_23, h⟩ := h
  rw [← ew_23]
  have hl_24 : zL w_22 6 a0 = true := by rw [ew_23]; exact hl_18
  refine v_aload_n (pc' := 48) hx dX6_stands_47 rfl rfl ?_
  obtain ⟨g_25, hq_26⟩ : ∃ q, zA w_22 6 a0 11 = q := ⟨_, rfl⟩
  refine v_getAq (pc' := 51) hx hl_24 fi_6_11.1 (by decide) hq_26 fk_X6_40 dX6_stands_48 rfl ?_
  refine v_iload_n (pc' := 52) hx dX6_stands_51 rfl rfl ?_
  refine v_aload_n (pc' := 53) hx dX6_stands_52 rfl rfl ?_
  refine v_getI (pc' := 56) hx hl_24 fi_6_22.1 fi_6_22.2.1 fk_X6_115 dX6_stands_53 rfl ?_
  replace h := ckp_inv h; obtain ⟨hk_27, h⟩ := h
  refine v_iastq (pc' := 57) hx hl_24 fi_6_11.1 fi_6_11.2.1 rfl hk_27 hq_26 dX6_stands_56 rfl ?_
  replace h := lt_inv h; obtain ⟨w_28, ew_29, h⟩ := h
  rw [← ew_29]
  have hl_30 : zL w_28 6 a0 = true := by rw [ew_29]; exact hl_24
  refine v_aload_n (pc' := 58) hx dX6_stands_57 rfl rfl ?_
  obtain ⟨g_31, hq_32⟩ : ∃ q, zA w_28 6 a0 12 = q := ⟨_, rfl⟩
  refine v_getAq (pc' := 61) hx hl_30 fi_6_12.1 (by decide) hq_32 fk_X6_43 dX6_stands_58 rfl ?_
  refine v_iload_n (pc' := 62) hx dX6_stands_61 rfl rfl ?_
  refine v_aload_n (pc' := 63) hx dX6_stands_62 rfl rfl ?_
  refine v_getI (pc' := 66) hx hl_30 fi_6_23.1 fi_6_23.2.1 fk_X6_112 dX6_stands_63 rfl ?_
  replace h := ckp_inv h; obtain ⟨hk_33, h⟩ := h
  refine v_iastq (pc' := 67) hx hl_30 fi_6_12.1 fi_6_12.2.1 rfl hk_33 hq_32 dX6_stands_66 rfl ?_
  replace h := lt_inv h; obtain ⟨w_34, ew_35, h⟩ := h
  rw [← ew_35]
  have hl_36 : zL w_34 6 a0 = true := by rw [ew_35]; exact hl_30
  refine v_iconst (pc' := 68) (v := 0) hx dX6_stands_67 (by decide) rfl ?_
  refine v_istore_n (pc' := 69) (L' := [some (.ref a0), some (.int x1), some (.int ((24 * x1) + (zI w 6 a0 18 0))), some (.int 0)]) hx dX6_stands_68 rfl rfl (Nat.le_of_ble_eq_true rfl) ?_
  refine V.sb (L' := [some (.ref a0), none, some (.int ((24 * x1) + (zI w 6 a0 18 0))), some (.int 0)]) ⟨Or.inr rfl, Or.inl rfl, Or.inr rfl, Or.inr rfl, trivial⟩ ?_
  exact vX6_stands_l69 hx hq 1000 a0 ((24 * x1) + (zI w 6 a0 18 0)) 0 w_34 hl_36 h
theorem ctX6_stands (l : Launch) (D : DD) (w : Wd) (G : GT) (sz : Nat) (hR : Rp D w G sz) (a0 : Nat) (x1 : Int32) (hl0 : zL w 6 a0 = true) {w0 : Wd} (h : fX6_stands a0 x1 w = some w0) : MetV l yX6_stands (WS yX6_stands cX6_stands 4 none) rmX6_stands D [.ref a0, .int x1] G sz w0 := by
  refine MetV_ofV (own := RX6) (P := Rp D w) hR (by decide) rfl (by simp [Value.category]) (Nat.le_of_ble_eq_true rfl) (fun x hx hq hD hl => ?_)
  subst hD
  exact vX6_stands hx hq a0 x1 hl0 h
theorem kX6_picture_b212 {r0 : Int32} {w0 : Wd} {a0 : Nat} {x2 : Int32} {w wb : Wd} (hm : mo wb w) (h : fX6_picture_b212 a0 x2 w = some (r0, w0)) : mo wb w0 := by
  unfold fX6_picture_b212 at h
  replace h := ckp_inv h; obtain ⟨hk_3, h⟩ := h
  replace h := lt_inv h; obtain ⟨w_4, ew_5, h⟩ := h
  have hm := mo_eI hm ew_5
  replace h := lt_inv h; obtain ⟨w_7, ew_8, h⟩ := h
  have hm := mo_eI hm ew_8
  cases h; exact hm
theorem kX6_picture_b172 {r0 : Int32} {w0 : Wd} {rec172 : Nat → Int32 → Wd → Option (Int32 × Wd)} {a0 : Nat} {x2 : Int32} {w wb : Wd} (hkr172 : ∀ (a0 : Nat) (x2 : Int32) (w : Wd), rec172 a0 x2 w = some (r0, w0) → mo wb w → mo wb w0) (hm : mo wb w) (h : fX6_picture_b172 rec172 a0 x2 w = some (r0, w0)) : mo wb w0 := by
  unfold fX6_picture_b172 at h
  by_cases hc_1 : (zI w 6 a0 16 0) = (-1)
  · rw [if_pos hc_1] at h
    by_cases hc_2 : (zI w 6 a0 15 0) ≤ (zI w 6 a0 14 0)
    · rw [if_pos hc_2] at h
      exact kX6_picture_b212 hm h
    · rw [if_neg hc_2] at h
      replace h := bd_inv h; obtain ⟨w_4, hcl_3, h⟩ := h
      have hm := hm.tr (kX6_readRow hcl_3)
      by_cases hc_9 : (zI w_4 6 a0 16 0) = (-1)
      · rw [if_pos hc_9] at h
        replace h := bd_inv h; obtain ⟨w_11, hcl_10, h⟩ := h
        have hm := hm.tr (kX6_stands hcl_10)
        exact hkr172 a0 x2 w_11 h hm
      · rw [if_neg hc_9] at h
        exact hkr172 a0 x2 w_4 h hm
  · rw [if_neg hc_1] at h
    exact kX6_picture_b212 hm h
theorem kX6_picture_l172 {r0 : Int32} {w0 : Wd} {wb : Wd} : ∀ (n : Nat) (a0 : Nat) (x2 : Int32) (w : Wd), mo wb w → fX6_picture_l172  n a0 x2 w = some (r0, w0) → mo wb w0 := by
  intro n
  induction n with
  | zero => intro a0 x2 w hm h; cases h
  | succ n ih =>
    intro a0 x2 w hm h
    exact kX6_picture_b172  (fun a0 x2 w h hm => ih a0 x2 w hm h) hm h
theorem kX6_picture_b148 {r0 : Int32} {w0 : Wd} {rec148 : Nat → Int32 → Int32 → Wd → Option (Int32 × Wd)} {a0 : Nat} {x2 : Int32} {x3 : Int32} {w wb : Wd} (hkr148 : ∀ (a0 : Nat) (x2 : Int32) (x3 : Int32) (w : Wd), rec148 a0 x2 x3 w = some (r0, w0) → mo wb w → mo wb w0) (hm : mo wb w) (h : fX6_picture_b148 rec148 a0 x2 x3 w = some (r0, w0)) : mo wb w0 := by
  unfold fX6_picture_b148 at h
  by_cases hc_1 : 24 ≤ x3
  · rw [if_pos hc_1] at h
    exact kX6_picture_l172 1000 a0 x2 w hm h
  · rw [if_neg hc_1] at h
    replace h := ckp_inv h; obtain ⟨hk_4, h⟩ := h
    replace h := lt_inv h; obtain ⟨w_5, ew_6, h⟩ := h
    have hm := mo_eI hm ew_6
    exact hkr148 a0 x2 (x3 + 1) w_5 h hm
theorem kX6_picture_l148 {r0 : Int32} {w0 : Wd} {wb : Wd} : ∀ (n : Nat) (a0 : Nat) (x2 : Int32) (x3 : Int32) (w : Wd), mo wb w → fX6_picture_l148  n a0 x2 x3 w = some (r0, w0) → mo wb w0 := by
  intro n
  induction n with
  | zero => intro a0 x2 x3 w hm h; cases h
  | succ n ih =>
    intro a0 x2 x3 w hm h
    exact kX6_picture_b148  (fun a0 x2 x3 w h hm => ih a0 x2 x3 w hm h) hm h
theorem kX6_picture_b117 {r0 : Int32} {w0 : Wd} {rec117 : Nat → Int32 → Int32 → Wd → Option (Int32 × Wd)} {a0 : Nat} {x2 : Int32} {x3 : Int32} {w wb : Wd} (hkr117 : ∀ (a0 : Nat) (x2 : Int32) (x3 : Int32) (w : Wd), rec117 a0 x2 x3 w = some (r0, w0) → mo wb w → mo wb w0) (hm : mo wb w) (h : fX6_picture_b117 rec117 a0 x2 x3 w = some (r0, w0)) : mo wb w0 := by
  unfold fX6_picture_b117 at h
  by_cases hc_1 : x2 ≤ x3
  · rw [if_pos hc_1] at h
    exact kX6_picture_l148 1000 a0 x2 0 w hm h
  · rw [if_neg hc_1] at h
    replace h := ckp_inv h; obtain ⟨hk_4, h⟩ := h
    replace h := ckp_inv h; obtain ⟨hk_7, h⟩ := h
    by_cases hc_8 : (zI w 6 a0 5 (x3 : Int32).toNatClampNeg) = (zI w 6 a0 5 (x2 : Int32).toNatClampNeg)
    · rw [if_pos hc_8] at h
      cases h; exact hm
    · rw [if_neg hc_8] at h
      exact hkr117 a0 x2 (x3 + 1) w h hm
theorem kX6_picture_l117 {r0 : Int32} {w0 : Wd} {wb : Wd} : ∀ (n : Nat) (a0 : Nat) (x2 : Int32) (x3 : Int32) (w : Wd), mo wb w → fX6_picture_l117  n a0 x2 x3 w = some (r0, w0) → mo wb w0 := by
  intro n
  induction n with
  | zero => intro a0 x2 x3 w hm h; cases h
  | succ n ih =>
    intro a0 x2 x3 w hm h
    exact kX6_picture_b117  (fun a0 x2 x3 w h hm => ih a0 x2 x3 w hm h) hm h
theorem kX6_picture_b115 {r0 : Int32} {w0 : Wd} {a0 : Nat} {x2 : Int32} {w wb : Wd} (hm : mo wb w) (h : fX6_picture_b115 a0 x2 w = some (r0, w0)) : mo wb w0 := by
  unfold fX6_picture_b115 at h
  exact kX6_picture_l117 1000 a0 x2 0 w hm h
theorem kX6_picture_b112 {r0 : Int32} {w0 : Wd} {w wb : Wd} (hm : mo wb w) (h : fX6_picture_b112 w = some (r0, w0)) : mo wb w0 := by
  unfold fX6_picture_b112 at h
  cases h; exact hm
theorem kX6_picture_b21 {r0 : Int32} {w0 : Wd} {w wb : Wd} (hm : mo wb w) (h : fX6_picture_b21 w = some (r0, w0)) : mo wb w0 := by
  unfold fX6_picture_b21 at h
  cases h; exact hm
theorem kX6_picture {r0 : Int32} {w0 : Wd} {a0 : Nat} {x1 : Int32} {w : Wd} (h : fX6_picture a0 x1 w = some (r0, w0)) : mo w w0 := by
  have hm := mo_rf w
  unfold fX6_picture at h
  by_cases hc_1 : (zI w 6 a0 2 0) = 8
  · rw [if_pos hc_1] at h
    exact kX6_picture_b21 hm h
  · rw [if_neg hc_1] at h
    by_cases hc_2 : x1 < 0
    · rw [if_pos hc_2] at h
      exact kX6_picture_b21 hm h
    · rw [if_neg hc_2] at h
      by_cases hc_3 : x1 ≤ (zI w 6 a0 1 0)
      · rw [if_pos hc_3] at h
        replace h := lt_inv h; obtain ⟨w_4, ew_5, h⟩ := h
        have hm := mo_eI hm ew_5
        replace h := lt_inv h; obtain ⟨w_7, ew_8, h⟩ := h
        have hm := mo_eI hm ew_8
        replace h := lt_inv h; obtain ⟨w_10, ew_11, h⟩ := h
        have hm := mo_eI hm ew_11
        replace h := lt_inv h; obtain ⟨w_13, ew_14, h⟩ := h
        have hm := mo_eI hm ew_14
        replace h := bd_inv h; obtain ⟨y_17, hcl_16, h⟩ := h
        by_cases hc_19 : y_17 = 116
        · rw [if_pos hc_19] at h
          replace h := lt_inv h; obtain ⟨w_20, ew_21, h⟩ := h
          have hm := mo_eI hm ew_21
          replace h := bd2_inv h; obtain ⟨y_26, w_27, hcl_25, h⟩ := h
          have hm := hm.tr (kX6_number hcl_25)
          replace h := ckp_inv h; obtain ⟨hk_34, h⟩ := h
          replace h := lt_inv h; obtain ⟨w_35, ew_36, h⟩ := h
          have hm := mo_eI hm ew_36
          by_cases hc_39 : (zI w_35 6 a0 16 0) = (-1)
          · rw [if_pos hc_39] at h
            by_cases hc_40 : (zI w_35 6 a0 15 0) ≤ (zI w_35 6 a0 14 0)
            · rw [if_pos hc_40] at h
              exact kX6_picture_b115 hm h
            · rw [if_neg hc_40] at h
              replace h := bd_inv h; obtain ⟨y_42, hcl_41, h⟩ := h
              by_cases hc_44 : y_42 = 59
              · rw [if_pos hc_44] at h
                exact kX6_picture_b115 hm h
              · rw [if_neg hc_44] at h
                exact kX6_picture_b112 hm h
          · rw [if_neg hc_39] at h
            exact kX6_picture_b112 hm h
        · rw [if_neg hc_19] at h
          cases h; exact hm
      · rw [if_neg hc_3] at h
        exact kX6_picture_b21 hm h
theorem vX6_picture_b212 {x : CT} (hx : CX x cX6_picture RX6 rmX6_picture (some .int)) {r0 : Int32} {w0 : Wd} (hq : RI x rmX6_picture r0 w0) {a0 : Nat} {x2 : Int32} {w : Wd} (hl0 : zL w 6 a0 = true) (h : fX6_picture_b212 a0 x2 w = some (r0, w0)) : V x 212 [some (.ref a0), none, some (.int x2), none] [] (Rp (xD x) w) 0 0 := by
  unfold fX6_picture_b212 at h
  refine v_aload_n (pc' := 213) hx dX6_picture_212 rfl rfl ?_
  obtain ⟨g_1, hq_2⟩ : ∃ q, zA w 6 a0 6 = q := ⟨_, rfl⟩
  refine v_getAq (pc' := 216) hx hl0 fi_6_6.1 (by decide) hq_2 fk_X6_24 dX6_picture_213 rfl ?_
  refine v_iload_n (pc' := 217) hx dX6_picture_216 rfl rfl ?_
  refine v_aload_n (pc' := 218) hx dX6_picture_217 rfl rfl ?_
  refine v_getI (pc' := 221) hx hl0 fi_6_16.1 fi_6_16.2.1 fk_X6_88 dX6_picture_218 rfl ?_
  replace h := ckp_inv h; obtain ⟨hk_3, h⟩ := h
  refine v_iastq (pc' := 222) hx hl0 fi_6_6.1 fi_6_6.2.1 rfl hk_3 hq_2 dX6_picture_221 rfl ?_
  replace h := lt_inv h; obtain ⟨w_4, ew_5, h⟩ := h
  rw [← ew_5]
  have hl_6 : zL w_4 6 a0 = true := by rw [ew_5]; exact hl0
  refine v_aload_n (pc' := 223) hx dX6_picture_222 rfl rfl ?_
  refine v_dup (pc' := 224) hx dX6_picture_223 rfl rfl ?_
  refine v_getI (pc' := 227) hx hl_6 fi_6_2.1 fi_6_2.2.1 fk_X6_136 dX6_picture_224 rfl ?_
  refine v_iconst (pc' := 228) (v := 1) hx dX6_picture_227 (by decide) rfl ?_
  refine v_iadd (pc' := 229) hx dX6_picture_228 rfl ?_
  refine v_putI (pc' := 232) hx hl_6 fi_6_2.1 fi_6_2.2.1 fi_6_2.2.2 fk_X6_136 dX6_picture_229 rfl ?_
  replace h := lt_inv h; obtain ⟨w_7, ew_8, h⟩ := h
  rw [← ew_8]
  have hl_9 : zL w_7 6 a0 = true := by rw [ew_8]; exact hl_6
  refine v_iload_n (pc' := 233) hx dX6_picture_232 rfl rfl ?_
  exact v_iret hx hq (by decide) (by decide) dX6_picture_233 (by cases h; rfl)
theorem vX6_picture_b172 {x : CT} (hx : CX x cX6_picture RX6 rmX6_picture (some .int)) {r0 : Int32} {w0 : Wd} (hq : RI x rmX6_picture r0 w0) {rec172 : Nat → Int32 → Wd → Option (Int32 × Wd)} {a0 : Nat} {x2 : Int32} {w : Wd} (hrec172 : ∀ (a0 : Nat) (x2 : Int32) (w : Wd), rec172 a0 x2 w = some (r0, w0) → (zL w 6 a0 = true) → V x 172 [some (.ref a0), none, some (.int x2), none] [] (Rp (xD x) w) 0 0) (hl0 : zL w 6 a0 = true) (h : fX6_picture_b172 rec172 a0 x2 w = some (r0, w0)) : V x 172 [some (.ref a0), none, some (.int x2), none] [] (Rp (xD x) w) 0 0 := by
  unfold fX6_picture_b172 at h
  refine v_aload_n (pc' := 173) hx dX6_picture_172 rfl rfl ?_
  refine v_getI (pc' := 176) hx hl0 fi_6_16.1 fi_6_16.2.1 fk_X6_88 dX6_picture_173 rfl ?_
  refine v_iconst (pc' := 177) (v := (-1)) hx dX6_picture_176 (by decide) rfl ?_
  refine v_icmp_ne (tgt := 212) (pc' := 180) hx dX6_picture_177 (by decide) rfl (fun hc_1 => ?_) (fun hc_1 => ?_)
  · rw [if_neg hc_1] at h
    exact vX6_picture_b212 hx hq hl0 h
  · rw [if_pos hc_1] at h
    refine v_aload_n (pc' := 181) hx dX6_picture_180 rfl rfl ?_
    refine v_getI (pc' := 184) hx hl0 fi_6_14.1 fi_6_14.2.1 fk_X6_74 dX6_picture_181 rfl ?_
    refine v_aload_n (pc' := 185) hx dX6_picture_184 rfl rfl ?_
    refine v_getI (pc' := 188) hx hl0 fi_6_15.1 fi_6_15.2.1 fk_X6_77 dX6_picture_185 rfl ?_
    refine v_icmp_ge (tgt := 212) (pc' := 191) hx dX6_picture_188 (by decide) rfl (fun hc_2 => ?_) (fun hc_2 => ?_)
    · rw [if_pos hc_2] at h
      exact vX6_picture_b212 hx hq hl0 h
    · rw [if_neg hc_2] at h
      refine v_aload_n (pc' := 192) hx dX6_picture_191 rfl rfl ?_
      refine v_iload_n (pc' := 193) hx dX6_picture_192 rfl rfl ?_
      replace h := bd_inv h; obtain ⟨w_4, hcl_3, h⟩ := h
      refine v_wf (fun hwf_5 => ?_)
      refine v_callVv (pc' := 196) (w' := w_4) (ci := 6) (b := a0) (As := [.int x2]) (rest := []) hx hl0 (fun G sz hR => ctX6_readRow (xl x) (xD x) w G sz hR a0 x2 hl0 hcl_3) rfl my_X6_readRow ml_X6_139 ⟨by decide, by decide⟩ ⟨by decide, by decide⟩ rfl rfl (Nat.le_of_ble_eq_true rfl) dX6_picture_193 rfl ?_
      have hm_7 := kX6_readRow hcl_3 hwf_5
      have hl_8 : zL w_4 6 a0 = true := (hm_7.2 _ _ hl0).1
      refine v_aload_n (pc' := 197) hx dX6_picture_196 rfl rfl ?_
      refine v_getI (pc' := 200) hx hl_8 fi_6_16.1 fi_6_16.2.1 fk_X6_88 dX6_picture_197 rfl ?_
      refine v_iconst (pc' := 201) (v := (-1)) hx dX6_picture_200 (by decide) rfl ?_
      refine v_icmp_ne (tgt := 172) (pc' := 204) hx dX6_picture_201 (by decide) rfl (fun hc_9 => ?_) (fun hc_9 => ?_)
      · rw [if_neg hc_9] at h
        exact hrec172 a0 x2 w_4 h hl_8
      · rw [if_pos hc_9] at h
        refine v_aload_n (pc' := 205) hx dX6_picture_204 rfl rfl ?_
        refine v_iload_n (pc' := 206) hx dX6_picture_205 rfl rfl ?_
        replace h := bd_inv h; obtain ⟨w_11, hcl_10, h⟩ := h
        refine v_callVv (pc' := 209) (w' := w_11) (ci := 6) (b := a0) (As := [.int x2]) (rest := []) hx hl_8 (fun G sz hR => ctX6_stands (xl x) (xD x) w_4 G sz hR a0 x2 hl_8 hcl_10) rfl my_X6_stands ml_X6_142 ⟨by decide, by decide⟩ ⟨by decide, by decide⟩ rfl rfl (Nat.le_of_ble_eq_true rfl) dX6_picture_206 rfl ?_
        have hm_13 := kX6_stands hcl_10 hm_7.1
        have hl_14 : zL w_11 6 a0 = true := (hm_13.2 _ _ hl_8).1
        refine v_goto (tgt := 172) hx dX6_picture_209 (by decide) ?_
        exact hrec172 a0 x2 w_11 h hl_14
theorem vX6_picture_l172 {x : CT} (hx : CX x cX6_picture RX6 rmX6_picture (some .int)) {r0 : Int32} {w0 : Wd} (hq : RI x rmX6_picture r0 w0) : ∀ (n : Nat) (a0 : Nat) (x2 : Int32) (w : Wd), (zL w 6 a0 = true) → fX6_picture_l172  n a0 x2 w = some (r0, w0) → V x 172 [some (.ref a0), none, some (.int x2), none] [] (Rp (xD x) w) 0 0 := by
  intro n
  induction n with
  | zero => intro a0 x2 w hl0 h; cases h
  | succ n ih =>
    intro a0 x2 w hl0 h
    exact vX6_picture_b172 hx hq  (fun a0 x2 w h hl0 => ih a0 x2 w hl0 h) hl0 h
theorem vX6_picture_b148 {x : CT} (hx : CX x cX6_picture RX6 rmX6_picture (some .int)) {r0 : Int32} {w0 : Wd} (hq : RI x rmX6_picture r0 w0) {rec148 : Nat → Int32 → Int32 → Wd → Option (Int32 × Wd)} {a0 : Nat} {x2 : Int32} {x3 : Int32} {w : Wd} (hrec148 : ∀ (a0 : Nat) (x2 : Int32) (x3 : Int32) (w : Wd), rec148 a0 x2 x3 w = some (r0, w0) → (zL w 6 a0 = true) → V x 148 [some (.ref a0), none, some (.int x2), some (.int x3)] [] (Rp (xD x) w) 0 0) (hl0 : zL w 6 a0 = true) (h : fX6_picture_b148 rec148 a0 x2 x3 w = some (r0, w0)) : V x 148 [some (.ref a0), none, some (.int x2), some (.int x3)] [] (Rp (xD x) w) 0 0 := by
  unfold fX6_picture_b148 at h
  refine v_iload_n (pc' := 149) hx dX6_picture_148 rfl rfl ?_
  refine v_bipush (pc' := 151) (v := 24) hx dX6_picture_149 (by decide) rfl ?_
  refine v_icmp_ge (tgt := 172) (pc' := 154) hx dX6_picture_151 (by decide) rfl (fun hc_1 => ?_) (fun hc_1 => ?_)
  · rw [if_pos hc_1] at h
    refine V.sb (L' := [some (.ref a0), none, some (.int x2), none]) ⟨Or.inr rfl, Or.inl rfl, Or.inr rfl, Or.inl rfl, trivial⟩ ?_
    exact vX6_picture_l172 hx hq 1000 a0 x2 w hl0 h
  · rw [if_neg hc_1] at h
    refine v_aload_n (pc' := 155) hx dX6_picture_154 rfl rfl ?_
    obtain ⟨g_2, hq_3⟩ : ∃ q, zA w 6 a0 7 = q := ⟨_, rfl⟩
    refine v_getAq (pc' := 158) hx hl0 fi_6_7.1 (by decide) hq_3 fk_X6_27 dX6_picture_155 rfl ?_
    refine v_bipush (pc' := 160) (v := 24) hx dX6_picture_158 (by decide) rfl ?_
    refine v_iload_n (pc' := 161) hx dX6_picture_160 rfl rfl ?_
    refine v_imul (pc' := 162) hx dX6_picture_161 rfl ?_
    refine v_iload_n (pc' := 163) hx dX6_picture_162 rfl rfl ?_
    refine v_iadd (pc' := 164) hx dX6_picture_163 rfl ?_
    refine v_iconst (pc' := 165) (v := 0) hx dX6_picture_164 (by decide) rfl ?_
    replace h := ckp_inv h; obtain ⟨hk_4, h⟩ := h
    refine v_zastq (pc' := 166) hx hl0 fi_6_7.1 fi_6_7.2.1 rfl hk_4 hq_3 dX6_picture_165 rfl ?_
    replace h := lt_inv h; obtain ⟨w_5, ew_6, h⟩ := h
    rw [← ew_6]
    have hl_7 : zL w_5 6 a0 = true := by rw [ew_6]; exact hl0
    refine v_iinc (pc' := 169) (w0 := (x3 + 1)) (L' := [some (.ref a0), none, some (.int x2), some (.int (x3 + 1))]) hx dX6_picture_166 rfl rfl rfl rfl ?_
    refine v_goto (tgt := 148) hx dX6_picture_169 (by decide) ?_
    exact hrec148 a0 x2 (x3 + 1) w_5 h hl_7
theorem vX6_picture_l148 {x : CT} (hx : CX x cX6_picture RX6 rmX6_picture (some .int)) {r0 : Int32} {w0 : Wd} (hq : RI x rmX6_picture r0 w0) : ∀ (n : Nat) (a0 : Nat) (x2 : Int32) (x3 : Int32) (w : Wd), (zL w 6 a0 = true) → fX6_picture_l148  n a0 x2 x3 w = some (r0, w0) → V x 148 [some (.ref a0), none, some (.int x2), some (.int x3)] [] (Rp (xD x) w) 0 0 := by
  intro n
  induction n with
  | zero => intro a0 x2 x3 w hl0 h; cases h
  | succ n ih =>
    intro a0 x2 x3 w hl0 h
    exact vX6_picture_b148 hx hq  (fun a0 x2 x3 w h hl0 => ih a0 x2 x3 w hl0 h) hl0 h
theorem vX6_picture_b117 {x : CT} (hx : CX x cX6_picture RX6 rmX6_picture (some .int)) {r0 : Int32} {w0 : Wd} (hq : RI x rmX6_picture r0 w0) {rec117 : Nat → Int32 → Int32 → Wd → Option (Int32 × Wd)} {a0 : Nat} {x2 : Int32} {x3 : Int32} {w : Wd} (hrec117 : ∀ (a0 : Nat) (x2 : Int32) (x3 : Int32) (w : Wd), rec117 a0 x2 x3 w = some (r0, w0) → (zL w 6 a0 = true) → V x 117 [some (.ref a0), none, some (.int x2), some (.int x3)] [] (Rp (xD x) w) 0 0) (hl0 : zL w 6 a0 = true) (h : fX6_picture_b117 rec117 a0 x2 x3 w = some (r0, w0)) : V x 117 [some (.ref a0), none, some (.int x2), some (.int x3)] [] (Rp (xD x) w) 0 0 := by
  unfold fX6_picture_b117 at h
  refine v_iload_n (pc' := 118) hx dX6_picture_117 rfl rfl ?_
  refine v_iload_n (pc' := 119) hx dX6_picture_118 rfl rfl ?_
  refine v_icmp_ge (tgt := 146) (pc' := 122) hx dX6_picture_119 (by decide) rfl (fun hc_1 => ?_) (fun hc_1 => ?_)
  · rw [if_pos hc_1] at h
    refine v_iconst (pc' := 147) (v := 0) hx dX6_picture_146 (by decide) rfl ?_
    refine v_istore_n (pc' := 148) (L' := [some (.ref a0), none, some (.int x2), some (.int 0)]) hx dX6_picture_147 rfl rfl (Nat.le_of_ble_eq_true rfl) ?_
    exact vX6_picture_l148 hx hq 1000 a0 x2 0 w hl0 h
  · rw [if_neg hc_1] at h
    refine v_aload_n (pc' := 123) hx dX6_picture_122 rfl rfl ?_
    obtain ⟨g_2, hq_3⟩ : ∃ q, zA w 6 a0 5 = q := ⟨_, rfl⟩
    refine v_getAq (pc' := 126) hx hl0 fi_6_5.1 (by decide) hq_3 fk_X6_20 dX6_picture_123 rfl ?_
    refine v_iload_n (pc' := 127) hx dX6_picture_126 rfl rfl ?_
    replace h := ckp_inv h; obtain ⟨hk_4, h⟩ := h
    refine v_ialdq (pc' := 128) hx hl0 fi_6_5.1 fi_6_5.2.1 rfl hk_4 hq_3 dX6_picture_127 rfl ?_
    refine v_aload_n (pc' := 129) hx dX6_picture_128 rfl rfl ?_
    obtain ⟨g_5, hq_6⟩ : ∃ q, zA w 6 a0 5 = q := ⟨_, rfl⟩
    refine v_getAq (pc' := 132) hx hl0 fi_6_5.1 (by decide) hq_6 fk_X6_20 dX6_picture_129 rfl ?_
    refine v_iload_n (pc' := 133) hx dX6_picture_132 rfl rfl ?_
    replace h := ckp_inv h; obtain ⟨hk_7, h⟩ := h
    refine v_ialdq (pc' := 134) hx hl0 fi_6_5.1 fi_6_5.2.1 rfl hk_7 hq_6 dX6_picture_133 rfl ?_
    refine v_icmp_ne (tgt := 140) (pc' := 137) hx dX6_picture_134 (by decide) rfl (fun hc_8 => ?_) (fun hc_8 => ?_)
    · rw [if_neg hc_8] at h
      refine v_iinc (pc' := 143) (w0 := (x3 + 1)) (L' := [some (.ref a0), none, some (.int x2), some (.int (x3 + 1))]) hx dX6_picture_140 rfl rfl rfl rfl ?_
      refine v_goto (tgt := 117) hx dX6_picture_143 (by decide) ?_
      exact hrec117 a0 x2 (x3 + 1) w h hl0
    · rw [if_pos hc_8] at h
      refine v_bipush (pc' := 139) (v := (-2)) hx dX6_picture_137 (by decide) rfl ?_
      exact v_iret hx hq (by decide) (by decide) dX6_picture_139 (by cases h; rfl)
theorem vX6_picture_l117 {x : CT} (hx : CX x cX6_picture RX6 rmX6_picture (some .int)) {r0 : Int32} {w0 : Wd} (hq : RI x rmX6_picture r0 w0) : ∀ (n : Nat) (a0 : Nat) (x2 : Int32) (x3 : Int32) (w : Wd), (zL w 6 a0 = true) → fX6_picture_l117  n a0 x2 x3 w = some (r0, w0) → V x 117 [some (.ref a0), none, some (.int x2), some (.int x3)] [] (Rp (xD x) w) 0 0 := by
  intro n
  induction n with
  | zero => intro a0 x2 x3 w hl0 h; cases h
  | succ n ih =>
    intro a0 x2 x3 w hl0 h
    exact vX6_picture_b117 hx hq  (fun a0 x2 x3 w h hl0 => ih a0 x2 x3 w hl0 h) hl0 h
theorem vX6_picture_b115 {x : CT} (hx : CX x cX6_picture RX6 rmX6_picture (some .int)) {r0 : Int32} {w0 : Wd} (hq : RI x rmX6_picture r0 w0) {a0 : Nat} {x2 : Int32} {w : Wd} (hl0 : zL w 6 a0 = true) (h : fX6_picture_b115 a0 x2 w = some (r0, w0)) : V x 115 [some (.ref a0), none, some (.int x2), none] [] (Rp (xD x) w) 0 0 := by
  unfold fX6_picture_b115 at h
  refine v_iconst (pc' := 116) (v := 0) hx dX6_picture_115 (by decide) rfl ?_
  refine v_istore_n (pc' := 117) (L' := [some (.ref a0), none, some (.int x2), some (.int 0)]) hx dX6_picture_116 rfl rfl (Nat.le_of_ble_eq_true rfl) ?_
  exact vX6_picture_l117 hx hq 1000 a0 x2 0 w hl0 h
theorem vX6_picture_b112 {x : CT} (hx : CX x cX6_picture RX6 rmX6_picture (some .int)) {r0 : Int32} {w0 : Wd} (hq : RI x rmX6_picture r0 w0) {w : Wd} (h : fX6_picture_b112 w = some (r0, w0)) : V x 112 [none, none, none, none] [] (Rp (xD x) w) 0 0 := by
  unfold fX6_picture_b112 at h
  refine v_bipush (pc' := 114) (v := (-2)) hx dX6_picture_112 (by decide) rfl ?_
  exact v_iret hx hq (by decide) (by decide) dX6_picture_114 (by cases h; rfl)
theorem vX6_picture_b21 {x : CT} (hx : CX x cX6_picture RX6 rmX6_picture (some .int)) {r0 : Int32} {w0 : Wd} (hq : RI x rmX6_picture r0 w0) {w : Wd} (h : fX6_picture_b21 w = some (r0, w0)) : V x 21 [none, none, none, none] [] (Rp (xD x) w) 0 0 := by
  unfold fX6_picture_b21 at h
  refine v_iconst (pc' := 22) (v := (-1)) hx dX6_picture_21 (by decide) rfl ?_
  exact v_iret hx hq (by decide) (by decide) dX6_picture_22 (by cases h; rfl)
theorem vX6_picture {x : CT} (hx : CX x cX6_picture RX6 rmX6_picture (some .int)) {r0 : Int32} {w0 : Wd} {w : Wd} (hq : RI x rmX6_picture r0 w0) (a0 : Nat) (x1 : Int32) (hl0 : zL w 6 a0 = true) (h : fX6_picture a0 x1 w = some (r0, w0)) : V x 0 [some (.ref a0), some (.int x1), none, none] [] (Rp (xD x) w) 0 0 := by
  unfold fX6_picture at h
  refine v_aload_n (pc' := 1) hx dX6_picture_0 rfl rfl ?_
  refine v_getI (pc' := 4) hx hl0 fi_6_2.1 fi_6_2.2.1 fk_X6_136 dX6_picture_1 rfl ?_
  refine v_bipush (pc' := 6) (v := 8) hx dX6_picture_4 (by decide) rfl ?_
  refine v_icmp_eq (tgt := 21) (pc' := 9) hx dX6_picture_6 (by decide) rfl (fun hc_1 => ?_) (fun hc_1 => ?_)
  · rw [if_pos hc_1] at h
    refine V.sb (L' := [none, none, none, none]) ⟨Or.inl rfl, Or.inl rfl, Or.inl rfl, Or.inl rfl, trivial⟩ ?_
    exact vX6_picture_b21 hx hq h
  · rw [if_neg hc_1] at h
    refine v_iload_n (pc' := 10) hx dX6_picture_9 rfl rfl ?_
    refine v_if_lt (tgt := 21) (pc' := 13) hx dX6_picture_10 (by decide) rfl (fun hc_2 => ?_) (fun hc_2 => ?_)
    · rw [if_pos hc_2] at h
      refine V.sb (L' := [none, none, none, none]) ⟨Or.inl rfl, Or.inl rfl, Or.inl rfl, Or.inl rfl, trivial⟩ ?_
      exact vX6_picture_b21 hx hq h
    · rw [if_neg hc_2] at h
      refine v_iload_n (pc' := 14) hx dX6_picture_13 rfl rfl ?_
      refine v_aload_n (pc' := 15) hx dX6_picture_14 rfl rfl ?_
      refine v_getI (pc' := 18) hx hl0 fi_6_1.1 fi_6_1.2.1 fk_X6_67 dX6_picture_15 rfl ?_
      refine v_icmp_le (tgt := 23) (pc' := 21) hx dX6_picture_18 (by decide) rfl (fun hc_3 => ?_) (fun hc_3 => ?_)
      · rw [if_pos hc_3] at h
        refine v_aload_n (pc' := 24) hx dX6_picture_23 rfl rfl ?_
        refine v_iconst (pc' := 25) (v := 0) hx dX6_picture_24 (by decide) rfl ?_
        refine v_putI (pc' := 28) hx hl0 fi_6_1.1 fi_6_1.2.1 fi_6_1.2.2 fk_X6_67 dX6_picture_25 rfl ?_
        replace h := lt_inv h; obtain ⟨w_4, ew_5, h⟩ := h
        rw [← ew_5]
        have hl_6 : zL w_4 6 a0 = true := by rw [ew_5]; exact hl0
        refine v_aload_n (pc' := 29) hx dX6_picture_28 rfl rfl ?_
        refine v_iload_n (pc' := 30) hx dX6_picture_29 rfl rfl ?_
        refine v_putI (pc' := 33) hx hl_6 fi_6_15.1 fi_6_15.2.1 fi_6_15.2.2 fk_X6_77 dX6_picture_30 rfl ?_
        replace h := lt_inv h; obtain ⟨w_7, ew_8, h⟩ := h
        rw [← ew_8]
        have hl_9 : zL w_7 6 a0 = true := by rw [ew_8]; exact hl_6
        refine v_aload_n (pc' := 34) hx dX6_picture_33 rfl rfl ?_
        refine v_iconst (pc' := 35) (v := 0) hx dX6_picture_34 (by decide) rfl ?_
        refine v_putI (pc' := 38) hx hl_9 fi_6_14.1 fi_6_14.2.1 fi_6_14.2.2 fk_X6_74 dX6_picture_35 rfl ?_
        replace h := lt_inv h; obtain ⟨w_10, ew_11, h⟩ := h
        rw [← ew_11]
        have hl_12 : zL w_10 6 a0 = true := by rw [ew_11]; exact hl_9
        refine v_aload_n (pc' := 39) hx dX6_picture_38 rfl rfl ?_
        refine v_iconst (pc' := 40) (v := (-1)) hx dX6_picture_39 (by decide) rfl ?_
        refine v_putI (pc' := 43) hx hl_12 fi_6_16.1 fi_6_16.2.1 fi_6_16.2.2 fk_X6_88 dX6_picture_40 rfl ?_
        replace h := lt_inv h; obtain ⟨w_13, ew_14, h⟩ := h
        rw [← ew_14]
        have hl_15 : zL w_13 6 a0 = true := by rw [ew_14]; exact hl_12
        refine v_aload_n (pc' := 44) hx dX6_picture_43 rfl rfl ?_
        refine v_getI (pc' := 47) hx hl_15 fi_6_2.1 fi_6_2.2.1 fk_X6_136 dX6_picture_44 rfl ?_
        refine v_istore_n (pc' := 48) (L' := [some (.ref a0), some (.int x1), some (.int (zI w_13 6 a0 2 0)), none]) hx dX6_picture_47 rfl rfl (Nat.le_of_ble_eq_true rfl) ?_
        refine v_aload_n (pc' := 49) hx dX6_picture_48 rfl rfl ?_
        replace h := bd_inv h; obtain ⟨y_17, hcl_16, h⟩ := h
        refine v_callVi (pc' := 52) (w' := w_13) (r := y_17) (ci := 6) (b := a0) (As := []) (rest := []) hx hl_15 (fun G sz hR => ctX6_here (xl x) (xD x) w_13 G sz hR a0 hl_15 hcl_16) rfl my_X6_here ml_X6_80 ⟨by decide, by decide⟩ ⟨by decide, by decide⟩ rfl rfl (Nat.le_of_ble_eq_true rfl) dX6_picture_49 rfl ?_
        refine v_bipush (pc' := 54) (v := 116) hx dX6_picture_52 (by decide) rfl ?_
        refine v_icmp_eq (tgt := 60) (pc' := 57) hx dX6_picture_54 (by decide) rfl (fun hc_19 => ?_) (fun hc_19 => ?_)
        · rw [if_pos hc_19] at h
          refine v_aload_n (pc' := 61) hx dX6_picture_60 rfl rfl ?_
          refine v_dup (pc' := 62) hx dX6_picture_61 rfl rfl ?_
          refine v_getI (pc' := 65) hx hl_15 fi_6_14.1 fi_6_14.2.1 fk_X6_74 dX6_picture_62 rfl ?_
          refine v_iconst (pc' := 66) (v := 1) hx dX6_picture_65 (by decide) rfl ?_
          refine v_iadd (pc' := 67) hx dX6_picture_66 rfl ?_
          refine v_putI (pc' := 70) hx hl_15 fi_6_14.1 fi_6_14.2.1 fi_6_14.2.2 fk_X6_74 dX6_picture_67 rfl ?_
          replace h := lt_inv h; obtain ⟨w_20, ew_21, h⟩ := h
          rw [← ew_21]
          have hl_22 : zL w_20 6 a0 = true := by rw [ew_21]; exact hl_15
          refine v_aload_n (pc' := 71) hx dX6_picture_70 rfl rfl ?_
          obtain ⟨g_23, hq_24⟩ : ∃ q, zA w_20 6 a0 5 = q := ⟨_, rfl⟩
          refine v_getAq (pc' := 74) hx hl_22 fi_6_5.1 (by decide) hq_24 fk_X6_20 dX6_picture_71 rfl ?_
          refine v_iload_n (pc' := 75) hx dX6_picture_74 rfl rfl ?_
          refine v_aload_n (pc' := 76) hx dX6_picture_75 rfl rfl ?_
          refine v_iconst (pc' := 77) (v := 4) hx dX6_picture_76 (by decide) rfl ?_
          refine v_sipush (pc' := 80) (v := 9999) hx dX6_picture_77 (by decide) rfl ?_
          replace h := bd2_inv h; obtain ⟨y_26, w_27, hcl_25, h⟩ := h
          refine v_wf (fun hwf_28 => ?_)
          refine v_callVi (pc' := 83) (w' := w_27) (r := y_26) (ci := 6) (b := a0) (As := [.int 4, .int 9999]) (rest := [.int (zI w_13 6 a0 2 0), .ref g_23]) hx hl_22 (fun G sz hR => ctX6_number (xl x) (xD x) w_20 G sz hR a0 4 9999 hl_22 hcl_25) rfl my_X6_number ml_X6_101 ⟨by decide, by decide⟩ ⟨by decide, by decide⟩ rfl rfl (Nat.le_of_ble_eq_true rfl) dX6_picture_80 rfl ?_
          have hm_30 := kX6_number hcl_25 hwf_28
          have hl_31 : zL w_27 6 a0 = true := (hm_30.2 _ _ hl_22).1
          have hl_32 : zL w_27 6 a0 = true := (hm_30.2 _ _ hl_22).1
          have hq_33 : zA w_27 6 a0 5 = g_23 := ((hm_30.2 _ _ hl_22).2 5).trans hq_24
          replace h := ckp_inv h; obtain ⟨hk_34, h⟩ := h
          refine v_iastq (pc' := 84) hx hl_32 fi_6_5.1 fi_6_5.2.1 rfl hk_34 hq_33 dX6_picture_83 rfl ?_
          replace h := lt_inv h; obtain ⟨w_35, ew_36, h⟩ := h
          rw [← ew_36]
          have hl_37 : zL w_35 6 a0 = true := by rw [ew_36]; exact hl_31
          have hwf_38 : WF w_35 := by rw [ew_36]; exact hm_30.1
          refine v_aload_n (pc' := 85) hx dX6_picture_84 rfl rfl ?_
          refine v_getI (pc' := 88) hx hl_37 fi_6_16.1 fi_6_16.2.1 fk_X6_88 dX6_picture_85 rfl ?_
          refine v_iconst (pc' := 89) (v := (-1)) hx dX6_picture_88 (by decide) rfl ?_
          refine v_icmp_ne (tgt := 112) (pc' := 92) hx dX6_picture_89 (by decide) rfl (fun hc_39 => ?_) (fun hc_39 => ?_)
          · rw [if_neg hc_39] at h
            refine V.sb (L' := [none, none, none, none]) ⟨Or.inl rfl, Or.inl rfl, Or.inl rfl, Or.inl rfl, trivial⟩ ?_
            exact vX6_picture_b112 hx hq h
          · rw [if_pos hc_39] at h
            refine v_aload_n (pc' := 93) hx dX6_picture_92 rfl rfl ?_
            refine v_getI (pc' := 96) hx hl_37 fi_6_14.1 fi_6_14.2.1 fk_X6_74 dX6_picture_93 rfl ?_
            refine v_aload_n (pc' := 97) hx dX6_picture_96 rfl rfl ?_
            refine v_getI (pc' := 100) hx hl_37 fi_6_15.1 fi_6_15.2.1 fk_X6_77 dX6_picture_97 rfl ?_
            refine v_icmp_ge (tgt := 115) (pc' := 103) hx dX6_picture_100 (by decide) rfl (fun hc_40 => ?_) (fun hc_40 => ?_)
            · rw [if_pos hc_40] at h
              refine V.sb (L' := [some (.ref a0), none, some (.int (zI w_13 6 a0 2 0)), none]) ⟨Or.inr rfl, Or.inl rfl, Or.inr rfl, Or.inl rfl, trivial⟩ ?_
              exact vX6_picture_b115 hx hq hl_37 h
            · rw [if_neg hc_40] at h
              refine v_aload_n (pc' := 104) hx dX6_picture_103 rfl rfl ?_
              replace h := bd_inv h; obtain ⟨y_42, hcl_41, h⟩ := h
              refine v_callVi (pc' := 107) (w' := w_35) (r := y_42) (ci := 6) (b := a0) (As := []) (rest := []) hx hl_37 (fun G sz hR => ctX6_here (xl x) (xD x) w_35 G sz hR a0 hl_37 hcl_41) rfl my_X6_here ml_X6_80 ⟨by decide, by decide⟩ ⟨by decide, by decide⟩ rfl rfl (Nat.le_of_ble_eq_true rfl) dX6_picture_104 rfl ?_
              refine v_bipush (pc' := 109) (v := 59) hx dX6_picture_107 (by decide) rfl ?_
              refine v_icmp_eq (tgt := 115) (pc' := 112) hx dX6_picture_109 (by decide) rfl (fun hc_44 => ?_) (fun hc_44 => ?_)
              · rw [if_pos hc_44] at h
                refine V.sb (L' := [some (.ref a0), none, some (.int (zI w_13 6 a0 2 0)), none]) ⟨Or.inr rfl, Or.inl rfl, Or.inr rfl, Or.inl rfl, trivial⟩ ?_
                exact vX6_picture_b115 hx hq hl_37 h
              · rw [if_neg hc_44] at h
                refine V.sb (L' := [none, none, none, none]) ⟨Or.inl rfl, Or.inl rfl, Or.inl rfl, Or.inl rfl, trivial⟩ ?_
                exact vX6_picture_b112 hx hq h
        · rw [if_neg hc_19] at h
          refine v_bipush (pc' := 59) (v := (-2)) hx dX6_picture_57 (by decide) rfl ?_
          exact v_iret hx hq (by decide) (by decide) dX6_picture_59 (by cases h; rfl)
      · rw [if_neg hc_3] at h
        refine V.sb (L' := [none, none, none, none]) ⟨Or.inl rfl, Or.inl rfl, Or.inl rfl, Or.inl rfl, trivial⟩ ?_
        exact vX6_picture_b21 hx hq h
theorem ctX6_picture (l : Launch) (D : DD) (w : Wd) (G : GT) (sz : Nat) (hR : Rp D w G sz) (a0 : Nat) (x1 : Int32) (hl0 : zL w 6 a0 = true) {r0 : Int32} {w0 : Wd} (h : fX6_picture a0 x1 w = some (r0, w0)) : MetI l yX6_picture (WS yX6_picture cX6_picture 4 (some .int)) rmX6_picture D [.ref a0, .int x1] G sz r0 w0 := by
  refine MetI_ofV (own := RX6) (P := Rp D w) hR (by decide) rfl (by simp [Value.category]) (Nat.le_of_ble_eq_true rfl) (fun x hx hq hD hl => ?_)
  subst hD
  exact vX6_picture hx hq a0 x1 hl0 h
theorem vX5_pictureAt_b22 {x : CT} (hx : CX x cX5_pictureAt RX5 rmX5_pictureAt (some (.object "StuckHands$Picture"))) {r0 : Option Nat} {w : Wd} (hq : RQ x rmX5_pictureAt 1 r0 w) {rs0 : Option Nat} (hls0 : ∀ b, rs0 = some b → zL w 1 b = true) (h : fX5_pictureAt_b22 w rs0 = some r0) : V x 22 [none, none] [va_rf rs0] (Rp (xD x) w) 0 0 := by
  unfold fX5_pictureAt_b22 at h
  exact v_aret hx hq (by decide) (by decide) dX5_pictureAt_22 (by cases h; rfl) hls0
theorem vX5_pictureAt_b12 {x : CT} (hx : CX x cX5_pictureAt RX5 rmX5_pictureAt (some (.object "StuckHands$Picture"))) {r0 : Option Nat} {w : Wd} (hq : RQ x rmX5_pictureAt 1 r0 w) (h : fX5_pictureAt_b12 w = some r0) : V x 12 [none, none] [] (Rp (xD x) w) 0 0 := by
  unfold fX5_pictureAt_b12 at h
  refine v_null (pc' := 13) hx dX5_pictureAt_12 rfl ?_
  refine v_goto (tgt := 22) hx dX5_pictureAt_13 (by decide) ?_
  exact vX5_pictureAt_b22 hx hq (fun b hb => by cases hb) h
theorem vX5_pictureAt {x : CT} (hx : CX x cX5_pictureAt RX5 rmX5_pictureAt (some (.object "StuckHands$Picture"))) {r0 : Option Nat} {w : Wd} (hq : RQ x rmX5_pictureAt 1 r0 w) (a0 : Nat) (x1 : Int32) (hl0 : zL w 5 a0 = true) (h : fX5_pictureAt a0 x1 w = some r0) : V x 0 [some (.ref a0), some (.int x1)] [] (Rp (xD x) w) 0 0 := by
  unfold fX5_pictureAt at h
  refine v_iload_n (pc' := 1) hx dX5_pictureAt_0 rfl rfl ?_
  refine v_if_lt (tgt := 12) (pc' := 4) hx dX5_pictureAt_1 (by decide) rfl (fun hc_1 => ?_) (fun hc_1 => ?_)
  · rw [if_pos hc_1] at h
    refine V.sb (L' := [none, none]) ⟨Or.inl rfl, Or.inl rfl, trivial⟩ ?_
    exact vX5_pictureAt_b12 hx hq h
  · rw [if_neg hc_1] at h
    refine v_iload_n (pc' := 5) hx dX5_pictureAt_4 rfl rfl ?_
    refine v_aload_n (pc' := 6) hx dX5_pictureAt_5 rfl rfl ?_
    refine v_getI (pc' := 9) hx hl0 fi_5_3.1 fi_5_3.2.1 fk_X5_29 dX5_pictureAt_6 rfl ?_
    refine v_icmp_lt (tgt := 16) (pc' := 12) hx dX5_pictureAt_9 (by decide) rfl (fun hc_2 => ?_) (fun hc_2 => ?_)
    · rw [if_pos hc_2] at h
      refine v_aload_n (pc' := 17) hx dX5_pictureAt_16 rfl rfl ?_
      obtain ⟨g_3, hq_4⟩ : ∃ q, zA w 5 a0 1 = q := ⟨_, rfl⟩
      refine v_getAq (pc' := 20) hx hl0 fi_5_1.1 (by decide) hq_4 fk_X5_18 dX5_pictureAt_17 rfl ?_
      refine v_iload_n (pc' := 21) hx dX5_pictureAt_20 rfl rfl ?_
      replace h := ckp_inv h; obtain ⟨hk_5, h⟩ := h
      refine v_aaldq (pc' := 22) hx hl0 fi_5_1.1 fi_5_1.2.2 rfl hk_5 hq_4 dX5_pictureAt_21 rfl ?_
      replace h := lt_inv h; obtain ⟨u_6, er_7, h⟩ := h
      rw [← er_7]
      refine v_liv hl0 (fun ht_8 => ?_)
      have hl_9 : ∀ b, u_6 = some b → zL w 1 b = true := fun b hb => ht_8 1 _ b (er_7.symm.trans hb)
      refine V.sb (L' := [none, none]) ⟨Or.inl rfl, Or.inl rfl, trivial⟩ ?_
      exact vX5_pictureAt_b22 hx hq hl_9 h
    · rw [if_neg hc_2] at h
      refine V.sb (L' := [none, none]) ⟨Or.inl rfl, Or.inl rfl, trivial⟩ ?_
      exact vX5_pictureAt_b12 hx hq h
theorem ctX5_pictureAt (l : Launch) (D : DD) (w : Wd) (G : GT) (sz : Nat) (hR : Rp D w G sz) (a0 : Nat) (x1 : Int32) (hl0 : zL w 5 a0 = true) {r0 : Option Nat} (h : fX5_pictureAt a0 x1 w = some r0) : MetQ l yX5_pictureAt (WS yX5_pictureAt cX5_pictureAt 2 (some (.object "StuckHands$Picture"))) rmX5_pictureAt D [.ref a0, .int x1] G sz 1 r0 w := by
  refine MetQ_ofV (own := RX5) (P := Rp D w) hR (by decide) rfl (by simp [Value.category]) (Nat.le_of_ble_eq_true rfl) (fun x hx hq hD hl => ?_)
  subst hD
  exact vX5_pictureAt hx hq a0 x1 hl0 h
theorem vX5_torn_b18 {x : CT} (hx : CX x cX5_torn RX5 rmX5_torn (some .int)) {r0 : Int32} {w : Wd} (hq : RI x rmX5_torn r0 w) {xs0 : Int32} (h : fX5_torn_b18 w xs0 = some r0) : V x 18 [none, none, none] [.int xs0] (Rp (xD x) w) 0 0 := by
  unfold fX5_torn_b18 at h
  exact v_iret hx hq (by decide) (by decide) dX5_torn_18 (by cases h; rfl)
theorem vX5_torn {x : CT} (hx : CX x cX5_torn RX5 rmX5_torn (some .int)) {r0 : Int32} {w : Wd} (hq : RI x rmX5_torn r0 w) (a0 : Nat) (x1 : Int32) (hl0 : zL w 5 a0 = true) (h : fX5_torn a0 x1 w = some r0) : V x 0 [some (.ref a0), some (.int x1), none] [] (Rp (xD x) w) 0 0 := by
  unfold fX5_torn at h
  refine v_aload_n (pc' := 1) hx dX5_torn_0 rfl rfl ?_
  refine v_iload_n (pc' := 2) hx dX5_torn_1 rfl rfl ?_
  replace h := bd_inv h; obtain ⟨u_2, hcl_1, h⟩ := h
  refine v_callVq (pc' := 5) (w' := w) (q := u_2) (ci := 5) (b := a0) (As := [.int x1]) (rest := []) hx hl0 (fun G sz hR => ctX5_pictureAt (xl x) (xD x) w G sz hR a0 x1 hl0 hcl_1) rfl my_X5_pictureAt ml_X5_74 ⟨by decide, by decide⟩ ⟨by decide, by decide⟩ rfl rfl (Nat.le_of_ble_eq_true rfl) dX5_torn_2 rfl (fun hl_3 => ?_)
  refine v_astoreq_n (pc' := 6) (L' := [some (.ref a0), some (.int x1), some (va_rf u_2)]) hx dX5_torn_5 rfl rfl (Nat.le_of_ble_eq_true rfl) ?_
  refine v_aloadq_n (pc' := 7) hx dX5_torn_6 rfl rfl ?_
  refine v_ifnonnull (tgt := 14) (pc' := 10) hx dX5_torn_7 (by decide) rfl (fun b_4 hn_5 => ?_) (fun hn_5 => ?_)
  · subst hn_5
    rw [oc_s] at h
    have hl_6 : zL w 1 b_4 = true := hl_3 _ rfl
    refine v_aload_n (pc' := 15) hx dX5_torn_14 rfl rfl ?_
    refine v_getI (pc' := 18) hx hl_6 fi_1_7.1 fi_1_7.2.1 fk_X5_78 dX5_torn_15 rfl ?_
    refine V.sb (L' := [none, none, none]) ⟨Or.inl rfl, Or.inl rfl, Or.inl rfl, trivial⟩ ?_
    exact vX5_torn_b18 hx hq h
  · subst hn_5
    rw [oc_n] at h
    refine v_iconst (pc' := 11) (v := (-1)) hx dX5_torn_10 (by decide) rfl ?_
    refine v_goto (tgt := 18) hx dX5_torn_11 (by decide) ?_
    refine V.sb (L' := [none, none, none]) ⟨Or.inl rfl, Or.inl rfl, Or.inl rfl, trivial⟩ ?_
    exact vX5_torn_b18 hx hq h
theorem ctX5_torn (l : Launch) (D : DD) (w : Wd) (G : GT) (sz : Nat) (hR : Rp D w G sz) (a0 : Nat) (x1 : Int32) (hl0 : zL w 5 a0 = true) {r0 : Int32} (h : fX5_torn a0 x1 w = some r0) : MetI l yX5_torn (WS yX5_torn cX5_torn 3 (some .int)) rmX5_torn D [.ref a0, .int x1] G sz r0 w := by
  refine MetI_ofV (own := RX5) (P := Rp D w) hR (by decide) rfl (by simp [Value.category]) (Nat.le_of_ble_eq_true rfl) (fun x hx hq hD hl => ?_)
  subst hD
  exact vX5_torn hx hq a0 x1 hl0 h
theorem vX6_isPicture {x : CT} (hx : CX x cX6_isPicture RX6 rmX6_isPicture (some .boolean)) {r0 : Int32} {w : Wd} (hq : RI x rmX6_isPicture r0 w) (a0 : Nat) (x1 : Int32) (hl0 : zL w 6 a0 = true) (h : fX6_isPicture a0 x1 w = some r0) : V x 0 [some (.ref a0), some (.int x1)] [] (Rp (xD x) w) 0 0 := by
  unfold fX6_isPicture at h
  refine v_iload_n (pc' := 1) hx dX6_isPicture_0 rfl rfl ?_
  refine v_iconst (pc' := 2) (v := 0) hx dX6_isPicture_1 (by decide) rfl ?_
  refine v_aload_n (pc' := 3) hx dX6_isPicture_2 rfl rfl ?_
  refine v_getI (pc' := 6) hx hl0 fi_6_2.1 fi_6_2.2.1 fk_X6_136 dX6_isPicture_3 rfl ?_
  refine v_iconst (pc' := 7) (v := 1) hx dX6_isPicture_6 (by decide) rfl ?_
  refine v_isub (pc' := 8) hx dX6_isPicture_7 rfl ?_
  replace h := bd_inv h; obtain ⟨y_2, hcl_1, h⟩ := h
  refine v_callSi (pc' := 11) (w' := w) (r := y_2) (As := [.int x1, .int 0, .int ((zI w 6 a0 2 0) - 1)]) (rest := []) hx (fun G sz hR => ctX6_lies (xl x) (xD x) w G sz hR x1 0 ((zI w 6 a0 2 0) - 1)  hcl_1) my_X6_lies ml_X6_84 ⟨by decide, by decide⟩ ⟨by decide, by decide⟩ rfl rfl (Nat.le_of_ble_eq_true rfl) dX6_isPicture_8 rfl ?_
  replace h := ckp_inv h; obtain ⟨hk_4, h⟩ := h
  exact v_zret hx hq (by decide) (by decide) dX6_isPicture_11 hk_4 (by cases h; rfl)
theorem ctX6_isPicture (l : Launch) (D : DD) (w : Wd) (G : GT) (sz : Nat) (hR : Rp D w G sz) (a0 : Nat) (x1 : Int32) (hl0 : zL w 6 a0 = true) {r0 : Int32} (h : fX6_isPicture a0 x1 w = some r0) : MetI l yX6_isPicture (WS yX6_isPicture cX6_isPicture 2 (some .boolean)) rmX6_isPicture D [.ref a0, .int x1] G sz r0 w := by
  refine MetI_ofV (own := RX6) (P := Rp D w) hR (by decide) rfl (by simp [Value.category]) (Nat.le_of_ble_eq_true rfl) (fun x hx hq hD hl => ?_)
  subst hD
  exact vX6_isPicture hx hq a0 x1 hl0 h
theorem vX6_torn_b18 {x : CT} (hx : CX x cX6_torn RX6 rmX6_torn (some .int)) {r0 : Int32} {w : Wd} (hq : RI x rmX6_torn r0 w) {xs0 : Int32} (h : fX6_torn_b18 w xs0 = some r0) : V x 18 [none, none] [.int xs0] (Rp (xD x) w) 0 0 := by
  unfold fX6_torn_b18 at h
  exact v_iret hx hq (by decide) (by decide) dX6_torn_18 (by cases h; rfl)
theorem vX6_torn {x : CT} (hx : CX x cX6_torn RX6 rmX6_torn (some .int)) {r0 : Int32} {w : Wd} (hq : RI x rmX6_torn r0 w) (a0 : Nat) (x1 : Int32) (hl0 : zL w 6 a0 = true) (h : fX6_torn a0 x1 w = some r0) : V x 0 [some (.ref a0), some (.int x1)] [] (Rp (xD x) w) 0 0 := by
  unfold fX6_torn at h
  refine v_aload_n (pc' := 1) hx dX6_torn_0 rfl rfl ?_
  refine v_iload_n (pc' := 2) hx dX6_torn_1 rfl rfl ?_
  replace h := bd_inv h; obtain ⟨y_2, hcl_1, h⟩ := h
  refine v_callVi (pc' := 5) (w' := w) (r := y_2) (ci := 6) (b := a0) (As := [.int x1]) (rest := []) hx hl0 (fun G sz hR => ctX6_isPicture (xl x) (xD x) w G sz hR a0 x1 hl0 hcl_1) rfl my_X6_isPicture ml_X6_145 ⟨by decide, by decide⟩ ⟨by decide, by decide⟩ rfl rfl (Nat.le_of_ble_eq_true rfl) dX6_torn_2 rfl ?_
  refine v_if_eq (tgt := 17) (pc' := 8) hx dX6_torn_5 (by decide) rfl (fun hc_4 => ?_) (fun hc_4 => ?_)
  · rw [if_pos hc_4] at h
    refine v_iconst (pc' := 18) (v := (-1)) hx dX6_torn_17 (by decide) rfl ?_
    refine V.sb (L' := [none, none]) ⟨Or.inl rfl, Or.inl rfl, trivial⟩ ?_
    exact vX6_torn_b18 hx hq h
  · rw [if_neg hc_4] at h
    refine v_aload_n (pc' := 9) hx dX6_torn_8 rfl rfl ?_
    obtain ⟨g_5, hq_6⟩ : ∃ q, zA w 6 a0 6 = q := ⟨_, rfl⟩
    refine v_getAq (pc' := 12) hx hl0 fi_6_6.1 (by decide) hq_6 fk_X6_24 dX6_torn_9 rfl ?_
    refine v_iload_n (pc' := 13) hx dX6_torn_12 rfl rfl ?_
    replace h := ckp_inv h; obtain ⟨hk_7, h⟩ := h
    refine v_ialdq (pc' := 14) hx hl0 fi_6_6.1 fi_6_6.2.1 rfl hk_7 hq_6 dX6_torn_13 rfl ?_
    refine v_goto (tgt := 18) hx dX6_torn_14 (by decide) ?_
    refine V.sb (L' := [none, none]) ⟨Or.inl rfl, Or.inl rfl, trivial⟩ ?_
    exact vX6_torn_b18 hx hq h
theorem ctX6_torn (l : Launch) (D : DD) (w : Wd) (G : GT) (sz : Nat) (hR : Rp D w G sz) (a0 : Nat) (x1 : Int32) (hl0 : zL w 6 a0 = true) {r0 : Int32} (h : fX6_torn a0 x1 w = some r0) : MetI l yX6_torn (WS yX6_torn cX6_torn 2 (some .int)) rmX6_torn D [.ref a0, .int x1] G sz r0 w := by
  refine MetI_ofV (own := RX6) (P := Rp D w) hR (by decide) rfl (by simp [Value.category]) (Nat.le_of_ble_eq_true rfl) (fun x hx hq hD hl => ?_)
  subst hD
  exact vX6_torn hx hq a0 x1 hl0 h
theorem vX5_rowAt_b19 {x : CT} (hx : CX x cX5_rowAt RX5 rmX5_rowAt (some (.object "StuckHands$Row"))) {r0 : Option Nat} {w : Wd} (hq : RQ x rmX5_rowAt 2 r0 w) {rs0 : Option Nat} (hls0 : ∀ b, rs0 = some b → zL w 2 b = true) (h : fX5_rowAt_b19 w rs0 = some r0) : V x 19 [none, none, none, none] [va_rf rs0] (Rp (xD x) w) 0 0 := by
  unfold fX5_rowAt_b19 at h
  exact v_aret hx hq (by decide) (by decide) dX5_rowAt_19 (by cases h; rfl) hls0
theorem vX5_rowAt {x : CT} (hx : CX x cX5_rowAt RX5 rmX5_rowAt (some (.object "StuckHands$Row"))) {r0 : Option Nat} {w : Wd} (hq : RQ x rmX5_rowAt 2 r0 w) (a0 : Nat) (x1 : Int32) (x2 : Int32) (hl0 : zL w 5 a0 = true) (h : fX5_rowAt a0 x1 x2 w = some r0) : V x 0 [some (.ref a0), some (.int x1), some (.int x2), none] [] (Rp (xD x) w) 0 0 := by
  unfold fX5_rowAt at h
  refine v_aload_n (pc' := 1) hx dX5_rowAt_0 rfl rfl ?_
  refine v_iload_n (pc' := 2) hx dX5_rowAt_1 rfl rfl ?_
  replace h := bd_inv h; obtain ⟨u_2, hcl_1, h⟩ := h
  refine v_callVq (pc' := 5) (w' := w) (q := u_2) (ci := 5) (b := a0) (As := [.int x1]) (rest := []) hx hl0 (fun G sz hR => ctX5_pictureAt (xl x) (xD x) w G sz hR a0 x1 hl0 hcl_1) rfl my_X5_pictureAt ml_X5_74 ⟨by decide, by decide⟩ ⟨by decide, by decide⟩ rfl rfl (Nat.le_of_ble_eq_true rfl) dX5_rowAt_2 rfl (fun hl_3 => ?_)
  refine v_astoreq_n (pc' := 6) (L' := [some (.ref a0), some (.int x1), some (.int x2), some (va_rf u_2)]) hx dX5_rowAt_5 rfl rfl (Nat.le_of_ble_eq_true rfl) ?_
  refine v_aloadq_n (pc' := 7) hx dX5_rowAt_6 rfl rfl ?_
  refine v_ifnonnull (tgt := 14) (pc' := 10) hx dX5_rowAt_7 (by decide) rfl (fun b_4 hn_5 => ?_) (fun hn_5 => ?_)
  · subst hn_5
    rw [oc_s] at h
    have hl_6 : zL w 1 b_4 = true := hl_3 _ rfl
    refine v_aload_n (pc' := 15) hx dX5_rowAt_14 rfl rfl ?_
    refine v_iload_n (pc' := 16) hx dX5_rowAt_15 rfl rfl ?_
    replace h := bd_inv h; obtain ⟨u_8, hcl_7, h⟩ := h
    refine v_callVq (pc' := 19) (w' := w) (q := u_8) (ci := 1) (b := b_4) (As := [.int x2]) (rest := []) hx hl_6 (fun G sz hR => ctX1_rowOf (xl x) (xD x) w G sz hR b_4 x2 hl_6 hcl_7) rfl my_X1_rowOf ml_X5_119 ⟨by decide, by decide⟩ ⟨by decide, by decide⟩ rfl rfl (Nat.le_of_ble_eq_true rfl) dX5_rowAt_16 rfl (fun hl_9 => ?_)
    refine V.sb (L' := [none, none, none, none]) ⟨Or.inl rfl, Or.inl rfl, Or.inl rfl, Or.inl rfl, trivial⟩ ?_
    exact vX5_rowAt_b19 hx hq hl_9 h
  · subst hn_5
    rw [oc_n] at h
    refine v_null (pc' := 11) hx dX5_rowAt_10 rfl ?_
    refine v_goto (tgt := 19) hx dX5_rowAt_11 (by decide) ?_
    refine V.sb (L' := [none, none, none, none]) ⟨Or.inl rfl, Or.inl rfl, Or.inl rfl, Or.inl rfl, trivial⟩ ?_
    exact vX5_rowAt_b19 hx hq (fun b hb => by cases hb) h
theorem ctX5_rowAt (l : Launch) (D : DD) (w : Wd) (G : GT) (sz : Nat) (hR : Rp D w G sz) (a0 : Nat) (x1 : Int32) (x2 : Int32) (hl0 : zL w 5 a0 = true) {r0 : Option Nat} (h : fX5_rowAt a0 x1 x2 w = some r0) : MetQ l yX5_rowAt (WS yX5_rowAt cX5_rowAt 4 (some (.object "StuckHands$Row"))) rmX5_rowAt D [.ref a0, .int x1, .int x2] G sz 2 r0 w := by
  refine MetQ_ofV (own := RX5) (P := Rp D w) hR (by decide) rfl (by simp [Value.category]) (Nat.le_of_ble_eq_true rfl) (fun x hx hq hD hl => ?_)
  subst hD
  exact vX5_rowAt hx hq a0 x1 x2 hl0 h
theorem vX2_callAt_b22 {x : CT} (hx : CX x cX2_callAt RX2 rmX2_callAt (some .int)) {r0 : Int32} {w : Wd} (hq : RI x rmX2_callAt r0 w) {xs0 : Int32} (h : fX2_callAt_b22 w xs0 = some r0) : V x 22 [none, none] [.int xs0] (Rp (xD x) w) 0 0 := by
  unfold fX2_callAt_b22 at h
  exact v_iret hx hq (by decide) (by decide) dX2_callAt_22 (by cases h; rfl)
theorem vX2_callAt_b12 {x : CT} (hx : CX x cX2_callAt RX2 rmX2_callAt (some .int)) {r0 : Int32} {w : Wd} (hq : RI x rmX2_callAt r0 w) (h : fX2_callAt_b12 w = some r0) : V x 12 [none, none] [] (Rp (xD x) w) 0 0 := by
  unfold fX2_callAt_b12 at h
  refine v_iconst (pc' := 13) (v := (-1)) hx dX2_callAt_12 (by decide) rfl ?_
  refine v_goto (tgt := 22) hx dX2_callAt_13 (by decide) ?_
  exact vX2_callAt_b22 hx hq h
theorem vX2_callAt {x : CT} (hx : CX x cX2_callAt RX2 rmX2_callAt (some .int)) {r0 : Int32} {w : Wd} (hq : RI x rmX2_callAt r0 w) (a0 : Nat) (x1 : Int32) (hl0 : zL w 2 a0 = true) (h : fX2_callAt a0 x1 w = some r0) : V x 0 [some (.ref a0), some (.int x1)] [] (Rp (xD x) w) 0 0 := by
  unfold fX2_callAt at h
  refine v_iload_n (pc' := 1) hx dX2_callAt_0 rfl rfl ?_
  refine v_if_lt (tgt := 12) (pc' := 4) hx dX2_callAt_1 (by decide) rfl (fun hc_1 => ?_) (fun hc_1 => ?_)
  · rw [if_pos hc_1] at h
    refine V.sb (L' := [none, none]) ⟨Or.inl rfl, Or.inl rfl, trivial⟩ ?_
    exact vX2_callAt_b12 hx hq h
  · rw [if_neg hc_1] at h
    refine v_iload_n (pc' := 5) hx dX2_callAt_4 rfl rfl ?_
    refine v_aload_n (pc' := 6) hx dX2_callAt_5 rfl rfl ?_
    refine v_getI (pc' := 9) hx hl0 fi_2_6.1 fi_2_6.2.1 fk_X2_22 dX2_callAt_6 rfl ?_
    refine v_icmp_lt (tgt := 16) (pc' := 12) hx dX2_callAt_9 (by decide) rfl (fun hc_2 => ?_) (fun hc_2 => ?_)
    · rw [if_pos hc_2] at h
      refine v_aload_n (pc' := 17) hx dX2_callAt_16 rfl rfl ?_
      obtain ⟨g_3, hq_4⟩ : ∃ q, zA w 2 a0 0 = q := ⟨_, rfl⟩
      refine v_getAq (pc' := 20) hx hl0 fi_2_0.1 (by decide) hq_4 fk_X2_9 dX2_callAt_17 rfl ?_
      refine v_iload_n (pc' := 21) hx dX2_callAt_20 rfl rfl ?_
      replace h := ckp_inv h; obtain ⟨hk_5, h⟩ := h
      refine v_baldq (pc' := 22) hx hl0 fi_2_0.1 fi_2_0.2.1 rfl hk_5 hq_4 dX2_callAt_21 rfl ?_
      refine V.sb (L' := [none, none]) ⟨Or.inl rfl, Or.inl rfl, trivial⟩ ?_
      exact vX2_callAt_b22 hx hq h
    · rw [if_neg hc_2] at h
      refine V.sb (L' := [none, none]) ⟨Or.inl rfl, Or.inl rfl, trivial⟩ ?_
      exact vX2_callAt_b12 hx hq h
theorem ctX2_callAt (l : Launch) (D : DD) (w : Wd) (G : GT) (sz : Nat) (hR : Rp D w G sz) (a0 : Nat) (x1 : Int32) (hl0 : zL w 2 a0 = true) {r0 : Int32} (h : fX2_callAt a0 x1 w = some r0) : MetI l yX2_callAt (WS yX2_callAt cX2_callAt 2 (some .int)) rmX2_callAt D [.ref a0, .int x1] G sz r0 w := by
  refine MetI_ofV (own := RX2) (P := Rp D w) hR (by decide) rfl (by simp [Value.category]) (Nat.le_of_ble_eq_true rfl) (fun x hx hq hD hl => ?_)
  subst hD
  exact vX2_callAt hx hq a0 x1 hl0 h
theorem vX5_look_b101 {x : CT} (hx : CX x cX5_look RX5 rmX5_look (some .int)) {r0 : Int32} {w : Wd} (hq : RI x rmX5_look r0 w) {xs0 : Int32} (h : fX5_look_b101 w xs0 = some r0) : V x 101 [none, none, none, none, none] [.int xs0] (Rp (xD x) w) 0 0 := by
  unfold fX5_look_b101 at h
  exact v_iret hx hq (by decide) (by decide) dX5_look_101 (by cases h; rfl)
theorem vX5_look {x : CT} (hx : CX x cX5_look RX5 rmX5_look (some .int)) {r0 : Int32} {w : Wd} (hq : RI x rmX5_look r0 w) (a0 : Nat) (x1 : Int32) (x2 : Int32) (x3 : Int32) (hl0 : zL w 5 a0 = true) (h : fX5_look a0 x1 x2 x3 w = some r0) : V x 0 [some (.ref a0), some (.int x1), some (.int x2), some (.int x3), none] [] (Rp (xD x) w) 0 0 := by
  unfold fX5_look at h
  refine v_aload_n (pc' := 1) hx dX5_look_0 rfl rfl ?_
  refine v_iload_n (pc' := 2) hx dX5_look_1 rfl rfl ?_
  refine v_iload_n (pc' := 3) hx dX5_look_2 rfl rfl ?_
  replace h := bd_inv h; obtain ⟨u_2, hcl_1, h⟩ := h
  refine v_callVq (pc' := 6) (w' := w) (q := u_2) (ci := 5) (b := a0) (As := [.int x1, .int x2]) (rest := []) hx hl0 (fun G sz hR => ctX5_rowAt (xl x) (xD x) w G sz hR a0 x1 x2 hl0 hcl_1) rfl my_X5_rowAt ml_X5_81 ⟨by decide, by decide⟩ ⟨by decide, by decide⟩ rfl rfl (Nat.le_of_ble_eq_true rfl) dX5_look_3 rfl (fun hl_3 => ?_)
  refine v_astoreq (pc' := 8) (L' := [some (.ref a0), some (.int x1), some (.int x2), some (.int x3), some (va_rf u_2)]) hx dX5_look_6 rfl rfl (Nat.le_of_ble_eq_true rfl) ?_
  refine v_aloadq (pc' := 10) hx dX5_look_8 rfl rfl ?_
  refine v_ifnonnull (tgt := 15) (pc' := 13) hx dX5_look_10 (by decide) rfl (fun b_4 hn_5 => ?_) (fun hn_5 => ?_)
  · subst hn_5
    rw [oc_s] at h
    have hl_6 : zL w 2 b_4 = true := hl_3 _ rfl
    refine v_iload_n (pc' := 16) hx dX5_look_15 rfl rfl ?_
    by_cases hc_7 : x3 = 0
    · rw [if_pos hc_7] at h
      refine v_tblIn (tgt := 52) (off := 36) hx dX5_look_16 (by rw [hc_7]; decide) (by rw [hc_7]; decide) (by rw [hc_7]; decide) (by decide) ?_
      refine v_aload (pc' := 54) hx dX5_look_52 rfl rfl ?_
      refine v_getI (pc' := 57) hx hl_6 fi_2_2.1 fi_2_2.2.1 fk_X5_85 dX5_look_54 rfl ?_
      exact v_iret hx hq (by decide) (by decide) dX5_look_57 (by cases h; rfl)
    rw [if_neg hc_7] at h
    by_cases hc_8 : x3 = 1
    · rw [if_pos hc_8] at h
      refine v_tblIn (tgt := 58) (off := 42) hx dX5_look_16 (by rw [hc_8]; decide) (by rw [hc_8]; decide) (by rw [hc_8]; decide) (by decide) ?_
      refine v_aload (pc' := 60) hx dX5_look_58 rfl rfl ?_
      refine v_getI (pc' := 63) hx hl_6 fi_2_3.1 fi_2_3.2.1 fk_X5_90 dX5_look_60 rfl ?_
      exact v_iret hx hq (by decide) (by decide) dX5_look_63 (by cases h; rfl)
    rw [if_neg hc_8] at h
    by_cases hc_9 : x3 = 2
    · rw [if_pos hc_9] at h
      refine v_tblIn (tgt := 64) (off := 48) hx dX5_look_16 (by rw [hc_9]; decide) (by rw [hc_9]; decide) (by rw [hc_9]; decide) (by decide) ?_
      refine v_aload (pc' := 66) hx dX5_look_64 rfl rfl ?_
      refine v_getI (pc' := 69) hx hl_6 fi_2_4.1 fi_2_4.2.1 fk_X5_93 dX5_look_66 rfl ?_
      exact v_iret hx hq (by decide) (by decide) dX5_look_69 (by cases h; rfl)
    rw [if_neg hc_9] at h
    by_cases hc_10 : x3 = 3
    · rw [if_pos hc_10] at h
      refine v_tblIn (tgt := 70) (off := 54) hx dX5_look_16 (by rw [hc_10]; decide) (by rw [hc_10]; decide) (by rw [hc_10]; decide) (by decide) ?_
      refine v_aload (pc' := 72) hx dX5_look_70 rfl rfl ?_
      refine v_getI (pc' := 75) hx hl_6 fi_2_5.1 fi_2_5.2.1 fk_X5_96 dX5_look_72 rfl ?_
      exact v_iret hx hq (by decide) (by decide) dX5_look_75 (by cases h; rfl)
    rw [if_neg hc_10] at h
    by_cases hc_11 : x3 = 4
    · rw [if_pos hc_11] at h
      refine v_tblIn (tgt := 76) (off := 60) hx dX5_look_16 (by rw [hc_11]; decide) (by rw [hc_11]; decide) (by rw [hc_11]; decide) (by decide) ?_
      refine v_aload (pc' := 78) hx dX5_look_76 rfl rfl ?_
      refine v_getI (pc' := 81) hx hl_6 fi_2_6.1 fi_2_6.2.1 fk_X5_99 dX5_look_78 rfl ?_
      exact v_iret hx hq (by decide) (by decide) dX5_look_81 (by cases h; rfl)
    rw [if_neg hc_11] at h
    refine v_tblOut (tgt := 82) hx dX5_look_16 (sw_out (fun i h1 h2 => by rcases (show i = 0 ∨ i = 1 ∨ i = 2 ∨ i = 3 ∨ i = 4 by omega) with rfl | rfl | rfl | rfl | rfl <;> assumption)) (by decide) ?_
    refine v_iload_n (pc' := 83) hx dX5_look_82 rfl rfl ?_
    refine v_bipush (pc' := 85) (v := 10) hx dX5_look_83 (by decide) rfl ?_
    refine v_icmp_ge (tgt := 92) (pc' := 88) hx dX5_look_85 (by decide) rfl (fun hc_12 => ?_) (fun hc_12 => ?_)
    · rw [if_pos hc_12] at h
      refine v_aload (pc' := 94) hx dX5_look_92 rfl rfl ?_
      refine v_iload_n (pc' := 95) hx dX5_look_94 rfl rfl ?_
      refine v_bipush (pc' := 97) (v := 10) hx dX5_look_95 (by decide) rfl ?_
      refine v_isub (pc' := 98) hx dX5_look_97 rfl ?_
      replace h := bd_inv h; obtain ⟨y_14, hcl_13, h⟩ := h
      refine v_callVi (pc' := 101) (w' := w) (r := y_14) (ci := 2) (b := b_4) (As := [.int (x3 - 10)]) (rest := []) hx hl_6 (fun G sz hR => ctX2_callAt (xl x) (xD x) w G sz hR b_4 (x3 - 10) hl_6 hcl_13) rfl my_X2_callAt ml_X5_102 ⟨by decide, by decide⟩ ⟨by decide, by decide⟩ rfl rfl (Nat.le_of_ble_eq_true rfl) dX5_look_98 rfl ?_
      refine V.sb (L' := [none, none, none, none, none]) ⟨Or.inl rfl, Or.inl rfl, Or.inl rfl, Or.inl rfl, Or.inl rfl, trivial⟩ ?_
      exact vX5_look_b101 hx hq h
    · rw [if_neg hc_12] at h
      refine v_iconst (pc' := 89) (v := (-1)) hx dX5_look_88 (by decide) rfl ?_
      refine v_goto (tgt := 101) hx dX5_look_89 (by decide) ?_
      refine V.sb (L' := [none, none, none, none, none]) ⟨Or.inl rfl, Or.inl rfl, Or.inl rfl, Or.inl rfl, Or.inl rfl, trivial⟩ ?_
      exact vX5_look_b101 hx hq h
  · subst hn_5
    rw [oc_n] at h
    refine v_iconst (pc' := 14) (v := (-1)) hx dX5_look_13 (by decide) rfl ?_
    exact v_iret hx hq (by decide) (by decide) dX5_look_14 (by cases h; rfl)
theorem ctX5_look (l : Launch) (D : DD) (w : Wd) (G : GT) (sz : Nat) (hR : Rp D w G sz) (a0 : Nat) (x1 : Int32) (x2 : Int32) (x3 : Int32) (hl0 : zL w 5 a0 = true) {r0 : Int32} (h : fX5_look a0 x1 x2 x3 w = some r0) : MetI l yX5_look (WS yX5_look cX5_look 5 (some .int)) rmX5_look D [.ref a0, .int x1, .int x2, .int x3] G sz r0 w := by
  refine MetI_ofV (own := RX5) (P := Rp D w) hR (by decide) rfl (by simp [Value.category]) (Nat.le_of_ble_eq_true rfl) (fun x hx hq hD hl => ?_)
  subst hD
  exact vX5_look hx hq a0 x1 x2 x3 hl0 h
theorem vX6_isThere_b37 {x : CT} (hx : CX x cX6_isThere RX6 rmX6_isThere (some .boolean)) {r0 : Int32} {w : Wd} (hq : RI x rmX6_isThere r0 w) {xs0 : Int32} (h : fX6_isThere_b37 w xs0 = some r0) : V x 37 [none, none, none] [.int xs0] (Rp (xD x) w) 0 0 := by
  unfold fX6_isThere_b37 at h
  replace h := ckp_inv h; obtain ⟨hk_1, h⟩ := h
  exact v_zret hx hq (by decide) (by decide) dX6_isThere_37 hk_1 (by cases h; rfl)
theorem vX6_isThere_b36 {x : CT} (hx : CX x cX6_isThere RX6 rmX6_isThere (some .boolean)) {r0 : Int32} {w : Wd} (hq : RI x rmX6_isThere r0 w) (h : fX6_isThere_b36 w = some r0) : V x 36 [none, none, none] [] (Rp (xD x) w) 0 0 := by
  unfold fX6_isThere_b36 at h
  refine v_iconst (pc' := 37) (v := 0) hx dX6_isThere_36 (by decide) rfl ?_
  exact vX6_isThere_b37 hx hq h
theorem vX6_isThere {x : CT} (hx : CX x cX6_isThere RX6 rmX6_isThere (some .boolean)) {r0 : Int32} {w : Wd} (hq : RI x rmX6_isThere r0 w) (a0 : Nat) (x1 : Int32) (x2 : Int32) (hl0 : zL w 6 a0 = true) (h : fX6_isThere a0 x1 x2 w = some r0) : V x 0 [some (.ref a0), some (.int x1), some (.int x2)] [] (Rp (xD x) w) 0 0 := by
  unfold fX6_isThere at h
  refine v_aload_n (pc' := 1) hx dX6_isThere_0 rfl rfl ?_
  refine v_iload_n (pc' := 2) hx dX6_isThere_1 rfl rfl ?_
  replace h := bd_inv h; obtain ⟨y_2, hcl_1, h⟩ := h
  refine v_callVi (pc' := 5) (w' := w) (r := y_2) (ci := 6) (b := a0) (As := [.int x1]) (rest := []) hx hl0 (fun G sz hR => ctX6_isPicture (xl x) (xD x) w G sz hR a0 x1 hl0 hcl_1) rfl my_X6_isPicture ml_X6_145 ⟨by decide, by decide⟩ ⟨by decide, by decide⟩ rfl rfl (Nat.le_of_ble_eq_true rfl) dX6_isThere_2 rfl ?_
  refine v_if_eq (tgt := 36) (pc' := 8) hx dX6_isThere_5 (by decide) rfl (fun hc_4 => ?_) (fun hc_4 => ?_)
  · rw [if_pos hc_4] at h
    refine V.sb (L' := [none, none, none]) ⟨Or.inl rfl, Or.inl rfl, Or.inl rfl, trivial⟩ ?_
    exact vX6_isThere_b36 hx hq h
  · rw [if_neg hc_4] at h
    refine v_iload_n (pc' := 9) hx dX6_isThere_8 rfl rfl ?_
    refine v_iconst (pc' := 10) (v := 0) hx dX6_isThere_9 (by decide) rfl ?_
    refine v_bipush (pc' := 12) (v := 23) hx dX6_isThere_10 (by decide) rfl ?_
    replace h := bd_inv h; obtain ⟨y_6, hcl_5, h⟩ := h
    refine v_callSi (pc' := 15) (w' := w) (r := y_6) (As := [.int x2, .int 0, .int 23]) (rest := []) hx (fun G sz hR => ctX6_lies (xl x) (xD x) w G sz hR x2 0 23  hcl_5) my_X6_lies ml_X6_84 ⟨by decide, by decide⟩ ⟨by decide, by decide⟩ rfl rfl (Nat.le_of_ble_eq_true rfl) dX6_isThere_12 rfl ?_
    refine v_if_eq (tgt := 36) (pc' := 18) hx dX6_isThere_15 (by decide) rfl (fun hc_8 => ?_) (fun hc_8 => ?_)
    · rw [if_pos hc_8] at h
      refine V.sb (L' := [none, none, none]) ⟨Or.inl rfl, Or.inl rfl, Or.inl rfl, trivial⟩ ?_
      exact vX6_isThere_b36 hx hq h
    · rw [if_neg hc_8] at h
      refine v_aload_n (pc' := 19) hx dX6_isThere_18 rfl rfl ?_
      obtain ⟨g_9, hq_10⟩ : ∃ q, zA w 6 a0 7 = q := ⟨_, rfl⟩
      refine v_getAq (pc' := 22) hx hl0 fi_6_7.1 (by decide) hq_10 fk_X6_27 dX6_isThere_19 rfl ?_
      refine v_bipush (pc' := 24) (v := 24) hx dX6_isThere_22 (by decide) rfl ?_
      refine v_iload_n (pc' := 25) hx dX6_isThere_24 rfl rfl ?_
      refine v_imul (pc' := 26) hx dX6_isThere_25 rfl ?_
      refine v_iload_n (pc' := 27) hx dX6_isThere_26 rfl rfl ?_
      refine v_iadd (pc' := 28) hx dX6_isThere_27 rfl ?_
      replace h := ckp_inv h; obtain ⟨hk_11, h⟩ := h
      refine v_zaldq (pc' := 29) hx hl0 fi_6_7.1 fi_6_7.2.1 rfl hk_11 hq_10 dX6_isThere_28 rfl ?_
      refine v_if_eq (tgt := 36) (pc' := 32) hx dX6_isThere_29 (by decide) rfl (fun hc_12 => ?_) (fun hc_12 => ?_)
      · rw [if_pos hc_12] at h
        refine V.sb (L' := [none, none, none]) ⟨Or.inl rfl, Or.inl rfl, Or.inl rfl, trivial⟩ ?_
        exact vX6_isThere_b36 hx hq h
      · rw [if_neg hc_12] at h
        refine v_iconst (pc' := 33) (v := 1) hx dX6_isThere_32 (by decide) rfl ?_
        refine v_goto (tgt := 37) hx dX6_isThere_33 (by decide) ?_
        refine V.sb (L' := [none, none, none]) ⟨Or.inl rfl, Or.inl rfl, Or.inl rfl, trivial⟩ ?_
        exact vX6_isThere_b37 hx hq h
theorem ctX6_isThere (l : Launch) (D : DD) (w : Wd) (G : GT) (sz : Nat) (hR : Rp D w G sz) (a0 : Nat) (x1 : Int32) (x2 : Int32) (hl0 : zL w 6 a0 = true) {r0 : Int32} (h : fX6_isThere a0 x1 x2 w = some r0) : MetI l yX6_isThere (WS yX6_isThere cX6_isThere 3 (some .boolean)) rmX6_isThere D [.ref a0, .int x1, .int x2] G sz r0 w := by
  refine MetI_ofV (own := RX6) (P := Rp D w) hR (by decide) rfl (by simp [Value.category]) (Nat.le_of_ble_eq_true rfl) (fun x hx hq hD hl => ?_)
  subst hD
  exact vX6_isThere hx hq a0 x1 x2 hl0 h
theorem vX6_look {x : CT} (hx : CX x cX6_look RX6 rmX6_look (some .int)) {r0 : Int32} {w : Wd} (hq : RI x rmX6_look r0 w) (a0 : Nat) (x1 : Int32) (x2 : Int32) (x3 : Int32) (hl0 : zL w 6 a0 = true) (h : fX6_look a0 x1 x2 x3 w = some r0) : V x 0 [some (.ref a0), some (.int x1), some (.int x2), some (.int x3), none] [] (Rp (xD x) w) 0 0 := by
  unfold fX6_look at h
  refine v_aload_n (pc' := 1) hx dX6_look_0 rfl rfl ?_
  refine v_iload_n (pc' := 2) hx dX6_look_1 rfl rfl ?_
  refine v_iload_n (pc' := 3) hx dX6_look_2 rfl rfl ?_
  replace h := bd_inv h; obtain ⟨y_2, hcl_1, h⟩ := h
  refine v_callVi (pc' := 6) (w' := w) (r := y_2) (ci := 6) (b := a0) (As := [.int x1, .int x2]) (rest := []) hx hl0 (fun G sz hR => ctX6_isThere (xl x) (xD x) w G sz hR a0 x1 x2 hl0 hcl_1) rfl my_X6_isThere ml_X6_149 ⟨by decide, by decide⟩ ⟨by decide, by decide⟩ rfl rfl (Nat.le_of_ble_eq_true rfl) dX6_look_3 rfl ?_
  refine v_if_ne (tgt := 11) (pc' := 9) hx dX6_look_6 (by decide) rfl (fun hc_4 => ?_) (fun hc_4 => ?_)
  · rw [if_neg hc_4] at h
    refine v_bipush (pc' := 13) (v := 24) hx dX6_look_11 (by decide) rfl ?_
    refine v_iload_n (pc' := 14) hx dX6_look_13 rfl rfl ?_
    refine v_imul (pc' := 15) hx dX6_look_14 rfl ?_
    refine v_iload_n (pc' := 16) hx dX6_look_15 rfl rfl ?_
    refine v_iadd (pc' := 17) hx dX6_look_16 rfl ?_
    refine v_istore (pc' := 19) (L' := [some (.ref a0), some (.int x1), some (.int x2), some (.int x3), some (.int ((24 * x1) + x2))]) hx dX6_look_17 rfl rfl (Nat.le_of_ble_eq_true rfl) ?_
    refine v_iload_n (pc' := 20) hx dX6_look_19 rfl rfl ?_
    refine v_bipush (pc' := 22) (v := 10) hx dX6_look_20 (by decide) rfl ?_
    refine v_isub (pc' := 23) hx dX6_look_22 rfl ?_
    refine v_iconst (pc' := 24) (v := 0) hx dX6_look_23 (by decide) rfl ?_
    refine v_aload_n (pc' := 25) hx dX6_look_24 rfl rfl ?_
    obtain ⟨g_5, hq_6⟩ : ∃ q, zA w 6 a0 12 = q := ⟨_, rfl⟩
    refine v_getAq (pc' := 28) hx hl0 fi_6_12.1 (by decide) hq_6 fk_X6_43 dX6_look_25 rfl ?_
    refine v_iload (pc' := 30) hx dX6_look_28 rfl rfl ?_
    replace h := ckp_inv h; obtain ⟨hk_7, h⟩ := h
    refine v_ialdq (pc' := 31) hx hl0 fi_6_12.1 fi_6_12.2.1 rfl hk_7 hq_6 dX6_look_30 rfl ?_
    refine v_iconst (pc' := 32) (v := 1) hx dX6_look_31 (by decide) rfl ?_
    refine v_isub (pc' := 33) hx dX6_look_32 rfl ?_
    replace h := bd_inv h; obtain ⟨y_9, hcl_8, h⟩ := h
    refine v_callSi (pc' := 36) (w' := w) (r := y_9) (As := [.int (x3 - 10), .int 0, .int ((zI w 6 a0 12 (((24 * x1) + x2) : Int32).toNatClampNeg) - 1)]) (rest := []) hx (fun G sz hR => ctX6_lies (xl x) (xD x) w G sz hR (x3 - 10) 0 ((zI w 6 a0 12 (((24 * x1) + x2) : Int32).toNatClampNeg) - 1)  hcl_8) my_X6_lies ml_X6_84 ⟨by decide, by decide⟩ ⟨by decide, by decide⟩ rfl rfl (Nat.le_of_ble_eq_true rfl) dX6_look_33 rfl ?_
    refine v_if_eq (tgt := 55) (pc' := 39) hx dX6_look_36 (by decide) rfl (fun hc_11 => ?_) (fun hc_11 => ?_)
    · rw [if_pos hc_11] at h
      refine v_iload_n (pc' := 56) hx dX6_look_55 rfl rfl ?_
      by_cases hc_12 : x3 = 0
      · rw [if_pos hc_12] at h
        refine v_tblIn (tgt := 92) (off := 36) hx dX6_look_56 (by rw [hc_12]; decide) (by rw [hc_12]; decide) (by rw [hc_12]; decide) (by decide) ?_
        refine v_aload_n (pc' := 93) hx dX6_look_92 rfl rfl ?_
        obtain ⟨g_13, hq_14⟩ : ∃ q, zA w 6 a0 8 = q := ⟨_, rfl⟩
        refine v_getAq (pc' := 96) hx hl0 fi_6_8.1 (by decide) hq_14 fk_X6_31 dX6_look_93 rfl ?_
        refine v_iload (pc' := 98) hx dX6_look_96 rfl rfl ?_
        replace h := ckp_inv h; obtain ⟨hk_15, h⟩ := h
        refine v_ialdq (pc' := 99) hx hl0 fi_6_8.1 fi_6_8.2.1 rfl hk_15 hq_14 dX6_look_98 rfl ?_
        exact v_iret hx hq (by decide) (by decide) dX6_look_99 (by cases h; rfl)
      rw [if_neg hc_12] at h
      by_cases hc_16 : x3 = 1
      · rw [if_pos hc_16] at h
        refine v_tblIn (tgt := 100) (off := 44) hx dX6_look_56 (by rw [hc_16]; decide) (by rw [hc_16]; decide) (by rw [hc_16]; decide) (by decide) ?_
        refine v_aload_n (pc' := 101) hx dX6_look_100 rfl rfl ?_
        obtain ⟨g_17, hq_18⟩ : ∃ q, zA w 6 a0 9 = q := ⟨_, rfl⟩
        refine v_getAq (pc' := 104) hx hl0 fi_6_9.1 (by decide) hq_18 fk_X6_34 dX6_look_101 rfl ?_
        refine v_iload (pc' := 106) hx dX6_look_104 rfl rfl ?_
        replace h := ckp_inv h; obtain ⟨hk_19, h⟩ := h
        refine v_ialdq (pc' := 107) hx hl0 fi_6_9.1 fi_6_9.2.1 rfl hk_19 hq_18 dX6_look_106 rfl ?_
        exact v_iret hx hq (by decide) (by decide) dX6_look_107 (by cases h; rfl)
      rw [if_neg hc_16] at h
      by_cases hc_20 : x3 = 2
      · rw [if_pos hc_20] at h
        refine v_tblIn (tgt := 108) (off := 52) hx dX6_look_56 (by rw [hc_20]; decide) (by rw [hc_20]; decide) (by rw [hc_20]; decide) (by decide) ?_
        refine v_aload_n (pc' := 109) hx dX6_look_108 rfl rfl ?_
        obtain ⟨g_21, hq_22⟩ : ∃ q, zA w 6 a0 10 = q := ⟨_, rfl⟩
        refine v_getAq (pc' := 112) hx hl0 fi_6_10.1 (by decide) hq_22 fk_X6_37 dX6_look_109 rfl ?_
        refine v_iload (pc' := 114) hx dX6_look_112 rfl rfl ?_
        replace h := ckp_inv h; obtain ⟨hk_23, h⟩ := h
        refine v_ialdq (pc' := 115) hx hl0 fi_6_10.1 fi_6_10.2.1 rfl hk_23 hq_22 dX6_look_114 rfl ?_
        exact v_iret hx hq (by decide) (by decide) dX6_look_115 (by cases h; rfl)
      rw [if_neg hc_20] at h
      by_cases hc_24 : x3 = 3
      · rw [if_pos hc_24] at h
        refine v_tblIn (tgt := 116) (off := 60) hx dX6_look_56 (by rw [hc_24]; decide) (by rw [hc_24]; decide) (by rw [hc_24]; decide) (by decide) ?_
        refine v_aload_n (pc' := 117) hx dX6_look_116 rfl rfl ?_
        obtain ⟨g_25, hq_26⟩ : ∃ q, zA w 6 a0 11 = q := ⟨_, rfl⟩
        refine v_getAq (pc' := 120) hx hl0 fi_6_11.1 (by decide) hq_26 fk_X6_40 dX6_look_117 rfl ?_
        refine v_iload (pc' := 122) hx dX6_look_120 rfl rfl ?_
        replace h := ckp_inv h; obtain ⟨hk_27, h⟩ := h
        refine v_ialdq (pc' := 123) hx hl0 fi_6_11.1 fi_6_11.2.1 rfl hk_27 hq_26 dX6_look_122 rfl ?_
        exact v_iret hx hq (by decide) (by decide) dX6_look_123 (by cases h; rfl)
      rw [if_neg hc_24] at h
      by_cases hc_28 : x3 = 4
      · rw [if_pos hc_28] at h
        refine v_tblIn (tgt := 124) (off := 68) hx dX6_look_56 (by rw [hc_28]; decide) (by rw [hc_28]; decide) (by rw [hc_28]; decide) (by decide) ?_
        refine v_aload_n (pc' := 125) hx dX6_look_124 rfl rfl ?_
        obtain ⟨g_29, hq_30⟩ : ∃ q, zA w 6 a0 12 = q := ⟨_, rfl⟩
        refine v_getAq (pc' := 128) hx hl0 fi_6_12.1 (by decide) hq_30 fk_X6_43 dX6_look_125 rfl ?_
        refine v_iload (pc' := 130) hx dX6_look_128 rfl rfl ?_
        replace h := ckp_inv h; obtain ⟨hk_31, h⟩ := h
        refine v_ialdq (pc' := 131) hx hl0 fi_6_12.1 fi_6_12.2.1 rfl hk_31 hq_30 dX6_look_130 rfl ?_
        exact v_iret hx hq (by decide) (by decide) dX6_look_131 (by cases h; rfl)
      rw [if_neg hc_28] at h
      refine v_tblOut (tgt := 132) hx dX6_look_56 (sw_out (fun i h1 h2 => by rcases (show i = 0 ∨ i = 1 ∨ i = 2 ∨ i = 3 ∨ i = 4 by omega) with rfl | rfl | rfl | rfl | rfl <;> assumption)) (by decide) ?_
      refine v_iconst (pc' := 133) (v := (-1)) hx dX6_look_132 (by decide) rfl ?_
      exact v_iret hx hq (by decide) (by decide) dX6_look_133 (by cases h; rfl)
    · rw [if_neg hc_11] at h
      refine v_aload_n (pc' := 40) hx dX6_look_39 rfl rfl ?_
      obtain ⟨g_32, hq_33⟩ : ∃ q, zA w 6 a0 13 = q := ⟨_, rfl⟩
      refine v_getAq (pc' := 43) hx hl0 fi_6_13.1 (by decide) hq_33 fk_X6_46 dX6_look_40 rfl ?_
      refine v_bipush (pc' := 45) (v := 12) hx dX6_look_43 (by decide) rfl ?_
      refine v_iload (pc' := 47) hx dX6_look_45 rfl rfl ?_
      refine v_imul (pc' := 48) hx dX6_look_47 rfl ?_
      refine v_iload_n (pc' := 49) hx dX6_look_48 rfl rfl ?_
      refine v_iadd (pc' := 50) hx dX6_look_49 rfl ?_
      refine v_bipush (pc' := 52) (v := 10) hx dX6_look_50 (by decide) rfl ?_
      refine v_isub (pc' := 53) hx dX6_look_52 rfl ?_
      replace h := ckp_inv h; obtain ⟨hk_34, h⟩ := h
      refine v_baldq (pc' := 54) hx hl0 fi_6_13.1 fi_6_13.2.1 rfl hk_34 hq_33 dX6_look_53 rfl ?_
      exact v_iret hx hq (by decide) (by decide) dX6_look_54 (by cases h; rfl)
  · rw [if_pos hc_4] at h
    refine v_iconst (pc' := 10) (v := (-1)) hx dX6_look_9 (by decide) rfl ?_
    exact v_iret hx hq (by decide) (by decide) dX6_look_10 (by cases h; rfl)
theorem ctX6_look (l : Launch) (D : DD) (w : Wd) (G : GT) (sz : Nat) (hR : Rp D w G sz) (a0 : Nat) (x1 : Int32) (x2 : Int32) (x3 : Int32) (hl0 : zL w 6 a0 = true) {r0 : Int32} (h : fX6_look a0 x1 x2 x3 w = some r0) : MetI l yX6_look (WS yX6_look cX6_look 5 (some .int)) rmX6_look D [.ref a0, .int x1, .int x2, .int x3] G sz r0 w := by
  refine MetI_ofV (own := RX6) (P := Rp D w) hR (by decide) rfl (by simp [Value.category]) (Nat.le_of_ble_eq_true rfl) (fun x hx hq hD hl => ?_)
  subst hD
  exact vX6_look hx hq a0 x1 x2 x3 hl0 h
theorem vX5_holder_b19 {x : CT} (hx : CX x cX5_holder RX5 rmX5_holder (some .int)) {r0 : Int32} {w : Wd} (hq : RI x rmX5_holder r0 w) {xs0 : Int32} (h : fX5_holder_b19 w xs0 = some r0) : V x 19 [none, none, none, none] [.int xs0] (Rp (xD x) w) 0 0 := by
  unfold fX5_holder_b19 at h
  exact v_iret hx hq (by decide) (by decide) dX5_holder_19 (by cases h; rfl)
theorem vX5_holder {x : CT} (hx : CX x cX5_holder RX5 rmX5_holder (some .int)) {r0 : Int32} {w : Wd} (hq : RI x rmX5_holder r0 w) (a0 : Nat) (x1 : Int32) (x2 : Int32) (hl0 : zL w 5 a0 = true) (h : fX5_holder a0 x1 x2 w = some r0) : V x 0 [some (.ref a0), some (.int x1), some (.int x2), none] [] (Rp (xD x) w) 0 0 := by
  unfold fX5_holder at h
  refine v_aload_n (pc' := 1) hx dX5_holder_0 rfl rfl ?_
  refine v_iload_n (pc' := 2) hx dX5_holder_1 rfl rfl ?_
  replace h := bd_inv h; obtain ⟨u_2, hcl_1, h⟩ := h
  refine v_callVq (pc' := 5) (w' := w) (q := u_2) (ci := 5) (b := a0) (As := [.int x1]) (rest := []) hx hl0 (fun G sz hR => ctX5_pictureAt (xl x) (xD x) w G sz hR a0 x1 hl0 hcl_1) rfl my_X5_pictureAt ml_X5_74 ⟨by decide, by decide⟩ ⟨by decide, by decide⟩ rfl rfl (Nat.le_of_ble_eq_true rfl) dX5_holder_2 rfl (fun hl_3 => ?_)
  refine v_astoreq_n (pc' := 6) (L' := [some (.ref a0), some (.int x1), some (.int x2), some (va_rf u_2)]) hx dX5_holder_5 rfl rfl (Nat.le_of_ble_eq_true rfl) ?_
  refine v_aloadq_n (pc' := 7) hx dX5_holder_6 rfl rfl ?_
  refine v_ifnonnull (tgt := 14) (pc' := 10) hx dX5_holder_7 (by decide) rfl (fun b_4 hn_5 => ?_) (fun hn_5 => ?_)
  · subst hn_5
    rw [oc_s] at h
    have hl_6 : zL w 1 b_4 = true := hl_3 _ rfl
    refine v_aload_n (pc' := 15) hx dX5_holder_14 rfl rfl ?_
    refine v_iload_n (pc' := 16) hx dX5_holder_15 rfl rfl ?_
    replace h := bd_inv h; obtain ⟨y_8, hcl_7, h⟩ := h
    refine v_callVi (pc' := 19) (w' := w) (r := y_8) (ci := 1) (b := b_4) (As := [.int x2]) (rest := []) hx hl_6 (fun G sz hR => ctX1_holderOf (xl x) (xD x) w G sz hR b_4 x2 hl_6 hcl_7) rfl my_X1_holderOf ml_X5_106 ⟨by decide, by decide⟩ ⟨by decide, by decide⟩ rfl rfl (Nat.le_of_ble_eq_true rfl) dX5_holder_16 rfl ?_
    refine V.sb (L' := [none, none, none, none]) ⟨Or.inl rfl, Or.inl rfl, Or.inl rfl, Or.inl rfl, trivial⟩ ?_
    exact vX5_holder_b19 hx hq h
  · subst hn_5
    rw [oc_n] at h
    refine v_iconst (pc' := 11) (v := (-1)) hx dX5_holder_10 (by decide) rfl ?_
    refine v_goto (tgt := 19) hx dX5_holder_11 (by decide) ?_
    refine V.sb (L' := [none, none, none, none]) ⟨Or.inl rfl, Or.inl rfl, Or.inl rfl, Or.inl rfl, trivial⟩ ?_
    exact vX5_holder_b19 hx hq h
theorem ctX5_holder (l : Launch) (D : DD) (w : Wd) (G : GT) (sz : Nat) (hR : Rp D w G sz) (a0 : Nat) (x1 : Int32) (x2 : Int32) (hl0 : zL w 5 a0 = true) {r0 : Int32} (h : fX5_holder a0 x1 x2 w = some r0) : MetI l yX5_holder (WS yX5_holder cX5_holder 4 (some .int)) rmX5_holder D [.ref a0, .int x1, .int x2] G sz r0 w := by
  refine MetI_ofV (own := RX5) (P := Rp D w) hR (by decide) rfl (by simp [Value.category]) (Nat.le_of_ble_eq_true rfl) (fun x hx hq hD hl => ?_)
  subst hD
  exact vX5_holder hx hq a0 x1 x2 hl0 h
theorem vX6_holderOf_b43 {x : CT} (hx : CX x cX6_holderOf RX6 rmX6_holderOf (some .int)) {r0 : Int32} {w : Wd} (hq : RI x rmX6_holderOf r0 w) {rec2 : Nat → Int32 → Int32 → Int32 → Option (Int32)} {a0 : Nat} {x1 : Int32} {x2 : Int32} {x3 : Int32} (hrec2 : ∀ (a0 : Nat) (x1 : Int32) (x2 : Int32) (x3 : Int32), rec2 a0 x1 x2 x3 = some r0 → (zL w 6 a0 = true) → V x 2 [some (.ref a0), some (.int x1), some (.int x2), some (.int x3)] [] (Rp (xD x) w) 0 0) (hl0 : zL w 6 a0 = true) (h : fX6_holderOf_b43 w rec2 a0 x1 x2 x3 = some r0) : V x 43 [some (.ref a0), some (.int x1), some (.int x2), some (.int x3)] [] (Rp (xD x) w) 0 0 := by
  unfold fX6_holderOf_b43 at h
  refine v_iinc (pc' := 46) (w0 := (x3 + 1)) (L' := [some (.ref a0), some (.int x1), some (.int x2), some (.int (x3 + 1))]) hx dX6_holderOf_43 rfl rfl rfl rfl ?_
  refine v_goto (tgt := 2) hx dX6_holderOf_46 (by decide) ?_
  exact hrec2 a0 x1 x2 (x3 + 1) h hl0
theorem vX6_holderOf_b2 {x : CT} (hx : CX x cX6_holderOf RX6 rmX6_holderOf (some .int)) {r0 : Int32} {w : Wd} (hq : RI x rmX6_holderOf r0 w) {rec2 : Nat → Int32 → Int32 → Int32 → Option (Int32)} {a0 : Nat} {x1 : Int32} {x2 : Int32} {x3 : Int32} (hrec2 : ∀ (a0 : Nat) (x1 : Int32) (x2 : Int32) (x3 : Int32), rec2 a0 x1 x2 x3 = some r0 → (zL w 6 a0 = true) → V x 2 [some (.ref a0), some (.int x1), some (.int x2), some (.int x3)] [] (Rp (xD x) w) 0 0) (hl0 : zL w 6 a0 = true) (h : fX6_holderOf_b2 w rec2 a0 x1 x2 x3 = some r0) : V x 2 [some (.ref a0), some (.int x1), some (.int x2), some (.int x3)] [] (Rp (xD x) w) 0 0 := by
  unfold fX6_holderOf_b2 at h
  refine v_iload_n (pc' := 3) hx dX6_holderOf_2 rfl rfl ?_
  refine v_bipush (pc' := 5) (v := 24) hx dX6_holderOf_3 (by decide) rfl ?_
  refine v_icmp_ge (tgt := 49) (pc' := 8) hx dX6_holderOf_5 (by decide) rfl (fun hc_1 => ?_) (fun hc_1 => ?_)
  · rw [if_pos hc_1] at h
    refine v_iconst (pc' := 50) (v := (-1)) hx dX6_holderOf_49 (by decide) rfl ?_
    exact v_iret hx hq (by decide) (by decide) dX6_holderOf_50 (by cases h; rfl)
  · rw [if_neg hc_1] at h
    refine v_aload_n (pc' := 9) hx dX6_holderOf_8 rfl rfl ?_
    obtain ⟨g_2, hq_3⟩ : ∃ q, zA w 6 a0 7 = q := ⟨_, rfl⟩
    refine v_getAq (pc' := 12) hx hl0 fi_6_7.1 (by decide) hq_3 fk_X6_27 dX6_holderOf_9 rfl ?_
    refine v_bipush (pc' := 14) (v := 24) hx dX6_holderOf_12 (by decide) rfl ?_
    refine v_iload_n (pc' := 15) hx dX6_holderOf_14 rfl rfl ?_
    refine v_imul (pc' := 16) hx dX6_holderOf_15 rfl ?_
    refine v_iload_n (pc' := 17) hx dX6_holderOf_16 rfl rfl ?_
    refine v_iadd (pc' := 18) hx dX6_holderOf_17 rfl ?_
    replace h := ckp_inv h; obtain ⟨hk_4, h⟩ := h
    refine v_zaldq (pc' := 19) hx hl0 fi_6_7.1 fi_6_7.2.1 rfl hk_4 hq_3 dX6_holderOf_18 rfl ?_
    refine v_if_eq (tgt := 43) (pc' := 22) hx dX6_holderOf_19 (by decide) rfl (fun hc_5 => ?_) (fun hc_5 => ?_)
    · rw [if_pos hc_5] at h
      exact vX6_holderOf_b43 hx hq hrec2 hl0 h
    · rw [if_neg hc_5] at h
      refine v_aload_n (pc' := 23) hx dX6_holderOf_22 rfl rfl ?_
      obtain ⟨g_6, hq_7⟩ : ∃ q, zA w 6 a0 10 = q := ⟨_, rfl⟩
      refine v_getAq (pc' := 26) hx hl0 fi_6_10.1 (by decide) hq_7 fk_X6_37 dX6_holderOf_23 rfl ?_
      refine v_bipush (pc' := 28) (v := 24) hx dX6_holderOf_26 (by decide) rfl ?_
      refine v_iload_n (pc' := 29) hx dX6_holderOf_28 rfl rfl ?_
      refine v_imul (pc' := 30) hx dX6_holderOf_29 rfl ?_
      refine v_iload_n (pc' := 31) hx dX6_holderOf_30 rfl rfl ?_
      refine v_iadd (pc' := 32) hx dX6_holderOf_31 rfl ?_
      replace h := ckp_inv h; obtain ⟨hk_8, h⟩ := h
      refine v_ialdq (pc' := 33) hx hl0 fi_6_10.1 fi_6_10.2.1 rfl hk_8 hq_7 dX6_holderOf_32 rfl ?_
      refine v_iload_n (pc' := 34) hx dX6_holderOf_33 rfl rfl ?_
      refine v_ishr (pc' := 35) hx dX6_holderOf_34 rfl ?_
      refine v_iconst (pc' := 36) (v := 1) hx dX6_holderOf_35 (by decide) rfl ?_
      refine v_iand (pc' := 37) hx dX6_holderOf_36 rfl ?_
      refine v_iconst (pc' := 38) (v := 1) hx dX6_holderOf_37 (by decide) rfl ?_
      refine v_icmp_ne (tgt := 43) (pc' := 41) hx dX6_holderOf_38 (by decide) rfl (fun hc_9 => ?_) (fun hc_9 => ?_)
      · rw [if_neg hc_9] at h
        exact vX6_holderOf_b43 hx hq hrec2 hl0 h
      · rw [if_pos hc_9] at h
        refine v_iload_n (pc' := 42) hx dX6_holderOf_41 rfl rfl ?_
        exact v_iret hx hq (by decide) (by decide) dX6_holderOf_42 (by cases h; rfl)
theorem vX6_holderOf_l2 {x : CT} (hx : CX x cX6_holderOf RX6 rmX6_holderOf (some .int)) {r0 : Int32} {w : Wd} (hq : RI x rmX6_holderOf r0 w) : ∀ (n : Nat) (a0 : Nat) (x1 : Int32) (x2 : Int32) (x3 : Int32), (zL w 6 a0 = true) → fX6_holderOf_l2 w n a0 x1 x2 x3 = some r0 → V x 2 [some (.ref a0), some (.int x1), some (.int x2), some (.int x3)] [] (Rp (xD x) w) 0 0 := by
  intro n
  induction n with
  | zero => intro a0 x1 x2 x3 hl0 h; cases h
  | succ n ih =>
    intro a0 x1 x2 x3 hl0 h
    exact vX6_holderOf_b2 hx hq  (fun a0 x1 x2 x3 h hl0 => ih a0 x1 x2 x3 hl0 h) hl0 h
theorem vX6_holderOf {x : CT} (hx : CX x cX6_holderOf RX6 rmX6_holderOf (some .int)) {r0 : Int32} {w : Wd} (hq : RI x rmX6_holderOf r0 w) (a0 : Nat) (x1 : Int32) (x2 : Int32) (hl0 : zL w 6 a0 = true) (h : fX6_holderOf a0 x1 x2 w = some r0) : V x 0 [some (.ref a0), some (.int x1), some (.int x2), none] [] (Rp (xD x) w) 0 0 := by
  unfold fX6_holderOf at h
  refine v_iconst (pc' := 1) (v := 0) hx dX6_holderOf_0 (by decide) rfl ?_
  refine v_istore_n (pc' := 2) (L' := [some (.ref a0), some (.int x1), some (.int x2), some (.int 0)]) hx dX6_holderOf_1 rfl rfl (Nat.le_of_ble_eq_true rfl) ?_
  exact vX6_holderOf_l2 hx hq 1000 a0 x1 x2 0 hl0 h
theorem ctX6_holderOf (l : Launch) (D : DD) (w : Wd) (G : GT) (sz : Nat) (hR : Rp D w G sz) (a0 : Nat) (x1 : Int32) (x2 : Int32) (hl0 : zL w 6 a0 = true) {r0 : Int32} (h : fX6_holderOf a0 x1 x2 w = some r0) : MetI l yX6_holderOf (WS yX6_holderOf cX6_holderOf 4 (some .int)) rmX6_holderOf D [.ref a0, .int x1, .int x2] G sz r0 w := by
  refine MetI_ofV (own := RX6) (P := Rp D w) hR (by decide) rfl (by simp [Value.category]) (Nat.le_of_ble_eq_true rfl) (fun x hx hq hD hl => ?_)
  subst hD
  exact vX6_holderOf hx hq a0 x1 x2 hl0 h
