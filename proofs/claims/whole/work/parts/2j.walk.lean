theorem kX5_meter_b22 {r0 : Int32} {w0 : Wd} {w wb : Wd} (hm : mo wb w) (h : fX5_meter_b22 w = some (r0, w0)) : mo wb w0 := by
  unfold fX5_meter_b22 at h
  replace h := ckp_inv h; obtain ⟨hk_1, h⟩ := h
  cases h; exact hm
theorem kX5_meter {r0 : Int32} {w0 : Wd} {a0 : Nat} {x1 : Int32} {x2 : Int32} {w : Wd} (h : fX5_meter a0 x1 x2 w = some (r0, w0)) : mo w w0 := by
  have hm := mo_rf w
  unfold fX5_meter at h
  by_cases hc_1 : x1 < 2
  · rw [if_pos hc_1] at h
    exact kX5_meter_b22 hm h
  · rw [if_neg hc_1] at h
    by_cases hc_2 : 10000 < x1
    · rw [if_pos hc_2] at h
      exact kX5_meter_b22 hm h
    · rw [if_neg hc_2] at h
      by_cases hc_3 : x2 < 0
      · rw [if_pos hc_3] at h
        exact kX5_meter_b22 hm h
      · rw [if_neg hc_3] at h
        by_cases hc_4 : x2 ≤ 100
        · rw [if_pos hc_4] at h
          replace h := lt_inv h; obtain ⟨w_5, ew_6, h⟩ := h
          have hm := mo_eI hm ew_6
          replace h := lt_inv h; obtain ⟨w_8, ew_9, h⟩ := h
          have hm := mo_eI hm ew_9
          replace h := ckp_inv h; obtain ⟨hk_11, h⟩ := h
          cases h; exact hm
        · rw [if_neg hc_4] at h
          exact kX5_meter_b22 hm h
theorem vX5_meter_b22 {x : CT} (hx : CX x cX5_meter RX5 rmX5_meter (some .boolean)) {r0 : Int32} {w0 : Wd} (hq : RI x rmX5_meter r0 w0) {w : Wd} (h : fX5_meter_b22 w = some (r0, w0)) : V x 22 [none, none, none] [] (Rp (xD x) w) 0 0 := by
  unfold fX5_meter_b22 at h
  refine v_iconst (pc' := 23) (v := 0) hx dX5_meter_22 (by decide) rfl ?_
  replace h := ckp_inv h; obtain ⟨hk_1, h⟩ := h
  exact v_zret hx hq (by decide) (by decide) dX5_meter_23 hk_1 (by cases h; rfl)
theorem vX5_meter {x : CT} (hx : CX x cX5_meter RX5 rmX5_meter (some .boolean)) {r0 : Int32} {w0 : Wd} {w : Wd} (hq : RI x rmX5_meter r0 w0) (a0 : Nat) (x1 : Int32) (x2 : Int32) (hl0 : zL w 5 a0 = true) (h : fX5_meter a0 x1 x2 w = some (r0, w0)) : V x 0 [some (.ref a0), some (.int x1), some (.int x2)] [] (Rp (xD x) w) 0 0 := by
  unfold fX5_meter at h
  refine v_iload_n (pc' := 1) hx dX5_meter_0 rfl rfl ?_
  refine v_iconst (pc' := 2) (v := 2) hx dX5_meter_1 (by decide) rfl ?_
  refine v_icmp_lt (tgt := 22) (pc' := 5) hx dX5_meter_2 (by decide) rfl (fun hc_1 => ?_) (fun hc_1 => ?_)
  · rw [if_pos hc_1] at h
    refine V.sb (L' := [none, none, none]) ⟨Or.inl rfl, Or.inl rfl, Or.inl rfl, trivial⟩ ?_
    exact vX5_meter_b22 hx hq h
  · rw [if_neg hc_1] at h
    refine v_iload_n (pc' := 6) hx dX5_meter_5 rfl rfl ?_
    refine v_sipush (pc' := 9) (v := 10000) hx dX5_meter_6 (by decide) rfl ?_
    refine v_icmp_gt (tgt := 22) (pc' := 12) hx dX5_meter_9 (by decide) rfl (fun hc_2 => ?_) (fun hc_2 => ?_)
    · rw [if_pos hc_2] at h
      refine V.sb (L' := [none, none, none]) ⟨Or.inl rfl, Or.inl rfl, Or.inl rfl, trivial⟩ ?_
      exact vX5_meter_b22 hx hq h
    · rw [if_neg hc_2] at h
      refine v_iload_n (pc' := 13) hx dX5_meter_12 rfl rfl ?_
      refine v_if_lt (tgt := 22) (pc' := 16) hx dX5_meter_13 (by decide) rfl (fun hc_3 => ?_) (fun hc_3 => ?_)
      · rw [if_pos hc_3] at h
        refine V.sb (L' := [none, none, none]) ⟨Or.inl rfl, Or.inl rfl, Or.inl rfl, trivial⟩ ?_
        exact vX5_meter_b22 hx hq h
      · rw [if_neg hc_3] at h
        refine v_iload_n (pc' := 17) hx dX5_meter_16 rfl rfl ?_
        refine v_bipush (pc' := 19) (v := 100) hx dX5_meter_17 (by decide) rfl ?_
        refine v_icmp_le (tgt := 24) (pc' := 22) hx dX5_meter_19 (by decide) rfl (fun hc_4 => ?_) (fun hc_4 => ?_)
        · rw [if_pos hc_4] at h
          refine v_aload_n (pc' := 25) hx dX5_meter_24 rfl rfl ?_
          refine v_iload_n (pc' := 26) hx dX5_meter_25 rfl rfl ?_
          refine v_putI (pc' := 29) hx hl0 fi_5_4.1 fi_5_4.2.1 fi_5_4.2.2 fk_X5_33 dX5_meter_26 rfl ?_
          replace h := lt_inv h; obtain ⟨w_5, ew_6, h⟩ := h
          rw [← ew_6]
          have hl_7 : zL w_5 5 a0 = true := by rw [ew_6]; exact hl0
          refine v_aload_n (pc' := 30) hx dX5_meter_29 rfl rfl ?_
          refine v_iload_n (pc' := 31) hx dX5_meter_30 rfl rfl ?_
          refine v_putI (pc' := 34) hx hl_7 fi_5_5.1 fi_5_5.2.1 fi_5_5.2.2 fk_X5_36 dX5_meter_31 rfl ?_
          replace h := lt_inv h; obtain ⟨w_8, ew_9, h⟩ := h
          rw [← ew_9]
          have hl_10 : zL w_8 5 a0 = true := by rw [ew_9]; exact hl_7
          refine v_iconst (pc' := 35) (v := 1) hx dX5_meter_34 (by decide) rfl ?_
          replace h := ckp_inv h; obtain ⟨hk_11, h⟩ := h
          exact v_zret hx hq (by decide) (by decide) dX5_meter_35 hk_11 (by cases h; rfl)
        · rw [if_neg hc_4] at h
          refine V.sb (L' := [none, none, none]) ⟨Or.inl rfl, Or.inl rfl, Or.inl rfl, trivial⟩ ?_
          exact vX5_meter_b22 hx hq h
theorem ctX5_meter (l : Launch) (D : DD) (w : Wd) (G : GT) (sz : Nat) (hR : Rp D w G sz) (a0 : Nat) (x1 : Int32) (x2 : Int32) (hl0 : zL w 5 a0 = true) {r0 : Int32} {w0 : Wd} (h : fX5_meter a0 x1 x2 w = some (r0, w0)) : MetI l yX5_meter (WS yX5_meter cX5_meter 3 (some .boolean)) rmX5_meter D [.ref a0, .int x1, .int x2] G sz r0 w0 := by
  refine MetI_ofV (own := RX5) (P := Rp D w) hR (by decide) rfl (by simp [Value.category]) (Nat.le_of_ble_eq_true rfl) (fun x hx hq hD hl => ?_)
  subst hD
  exact vX5_meter hx hq a0 x1 x2 hl0 h
theorem kX6_meter_b21 {r0 : Int32} {w0 : Wd} {w wb : Wd} (hm : mo wb w) (h : fX6_meter_b21 w = some (r0, w0)) : mo wb w0 := by
  unfold fX6_meter_b21 at h
  replace h := ckp_inv h; obtain ⟨hk_1, h⟩ := h
  cases h; exact hm
theorem kX6_meter {r0 : Int32} {w0 : Wd} {a0 : Nat} {x1 : Int32} {x2 : Int32} {w : Wd} (h : fX6_meter a0 x1 x2 w = some (r0, w0)) : mo w w0 := by
  have hm := mo_rf w
  unfold fX6_meter at h
  replace h := bd_inv h; obtain ⟨y_2, hcl_1, h⟩ := h
  by_cases hc_4 : y_2 = 0
  · rw [if_pos hc_4] at h
    exact kX6_meter_b21 hm h
  · rw [if_neg hc_4] at h
    replace h := bd_inv h; obtain ⟨y_6, hcl_5, h⟩ := h
    by_cases hc_8 : y_6 = 0
    · rw [if_pos hc_8] at h
      exact kX6_meter_b21 hm h
    · rw [if_neg hc_8] at h
      replace h := lt_inv h; obtain ⟨w_9, ew_10, h⟩ := h
      have hm := mo_eI hm ew_10
      replace h := lt_inv h; obtain ⟨w_12, ew_13, h⟩ := h
      have hm := mo_eI hm ew_13
      replace h := ckp_inv h; obtain ⟨hk_15, h⟩ := h
      cases h; exact hm
theorem vX6_meter_b21 {x : CT} (hx : CX x cX6_meter RX6 rmX6_meter (some .boolean)) {r0 : Int32} {w0 : Wd} (hq : RI x rmX6_meter r0 w0) {w : Wd} (h : fX6_meter_b21 w = some (r0, w0)) : V x 21 [none, none, none] [] (Rp (xD x) w) 0 0 := by
  unfold fX6_meter_b21 at h
  refine v_iconst (pc' := 22) (v := 0) hx dX6_meter_21 (by decide) rfl ?_
  replace h := ckp_inv h; obtain ⟨hk_1, h⟩ := h
  exact v_zret hx hq (by decide) (by decide) dX6_meter_22 hk_1 (by cases h; rfl)
theorem vX6_meter {x : CT} (hx : CX x cX6_meter RX6 rmX6_meter (some .boolean)) {r0 : Int32} {w0 : Wd} {w : Wd} (hq : RI x rmX6_meter r0 w0) (a0 : Nat) (x1 : Int32) (x2 : Int32) (hl0 : zL w 6 a0 = true) (h : fX6_meter a0 x1 x2 w = some (r0, w0)) : V x 0 [some (.ref a0), some (.int x1), some (.int x2)] [] (Rp (xD x) w) 0 0 := by
  unfold fX6_meter at h
  refine v_iload_n (pc' := 1) hx dX6_meter_0 rfl rfl ?_
  refine v_iconst (pc' := 2) (v := 2) hx dX6_meter_1 (by decide) rfl ?_
  refine v_sipush (pc' := 5) (v := 10000) hx dX6_meter_2 (by decide) rfl ?_
  replace h := bd_inv h; obtain ⟨y_2, hcl_1, h⟩ := h
  refine v_callSi (pc' := 8) (w' := w) (r := y_2) (As := [.int x1, .int 2, .int 10000]) (rest := []) hx (fun G sz hR => ctX6_lies (xl x) (xD x) w G sz hR x1 2 10000  hcl_1) my_X6_lies ml_X6_84 ⟨by decide, by decide⟩ ⟨by decide, by decide⟩ rfl rfl (Nat.le_of_ble_eq_true rfl) dX6_meter_5 rfl ?_
  refine v_if_eq (tgt := 21) (pc' := 11) hx dX6_meter_8 (by decide) rfl (fun hc_4 => ?_) (fun hc_4 => ?_)
  · rw [if_pos hc_4] at h
    refine V.sb (L' := [none, none, none]) ⟨Or.inl rfl, Or.inl rfl, Or.inl rfl, trivial⟩ ?_
    exact vX6_meter_b21 hx hq h
  · rw [if_neg hc_4] at h
    refine v_iload_n (pc' := 12) hx dX6_meter_11 rfl rfl ?_
    refine v_iconst (pc' := 13) (v := 0) hx dX6_meter_12 (by decide) rfl ?_
    refine v_bipush (pc' := 15) (v := 100) hx dX6_meter_13 (by decide) rfl ?_
    replace h := bd_inv h; obtain ⟨y_6, hcl_5, h⟩ := h
    refine v_callSi (pc' := 18) (w' := w) (r := y_6) (As := [.int x2, .int 0, .int 100]) (rest := []) hx (fun G sz hR => ctX6_lies (xl x) (xD x) w G sz hR x2 0 100  hcl_5) my_X6_lies ml_X6_84 ⟨by decide, by decide⟩ ⟨by decide, by decide⟩ rfl rfl (Nat.le_of_ble_eq_true rfl) dX6_meter_15 rfl ?_
    refine v_if_ne (tgt := 23) (pc' := 21) hx dX6_meter_18 (by decide) rfl (fun hc_8 => ?_) (fun hc_8 => ?_)
    · rw [if_neg hc_8] at h
      refine v_aload_n (pc' := 24) hx dX6_meter_23 rfl rfl ?_
      refine v_iload_n (pc' := 25) hx dX6_meter_24 rfl rfl ?_
      refine v_putI (pc' := 28) hx hl0 fi_6_3.1 fi_6_3.2.1 fi_6_3.2.2 fk_X6_13 dX6_meter_25 rfl ?_
      replace h := lt_inv h; obtain ⟨w_9, ew_10, h⟩ := h
      rw [← ew_10]
      have hl_11 : zL w_9 6 a0 = true := by rw [ew_10]; exact hl0
      refine v_aload_n (pc' := 29) hx dX6_meter_28 rfl rfl ?_
      refine v_iload_n (pc' := 30) hx dX6_meter_29 rfl rfl ?_
      refine v_putI (pc' := 33) hx hl_11 fi_6_4.1 fi_6_4.2.1 fi_6_4.2.2 fk_X6_17 dX6_meter_30 rfl ?_
      replace h := lt_inv h; obtain ⟨w_12, ew_13, h⟩ := h
      rw [← ew_13]
      have hl_14 : zL w_12 6 a0 = true := by rw [ew_13]; exact hl_11
      refine v_iconst (pc' := 34) (v := 1) hx dX6_meter_33 (by decide) rfl ?_
      replace h := ckp_inv h; obtain ⟨hk_15, h⟩ := h
      exact v_zret hx hq (by decide) (by decide) dX6_meter_34 hk_15 (by cases h; rfl)
    · rw [if_pos hc_8] at h
      refine V.sb (L' := [none, none, none]) ⟨Or.inl rfl, Or.inl rfl, Or.inl rfl, trivial⟩ ?_
      exact vX6_meter_b21 hx hq h
theorem ctX6_meter (l : Launch) (D : DD) (w : Wd) (G : GT) (sz : Nat) (hR : Rp D w G sz) (a0 : Nat) (x1 : Int32) (x2 : Int32) (hl0 : zL w 6 a0 = true) {r0 : Int32} {w0 : Wd} (h : fX6_meter a0 x1 x2 w = some (r0, w0)) : MetI l yX6_meter (WS yX6_meter cX6_meter 3 (some .boolean)) rmX6_meter D [.ref a0, .int x1, .int x2] G sz r0 w0 := by
  refine MetI_ofV (own := RX6) (P := Rp D w) hR (by decide) rfl (by simp [Value.category]) (Nat.le_of_ble_eq_true rfl) (fun x hx hq hD hl => ?_)
  subst hD
  exact vX6_meter hx hq a0 x1 x2 hl0 h
theorem vJ9_floorMod_7cf53_b18 {x : CT} (hx : CX x cJ9_floorMod_7cf53 RJ9 rmJ9_floorMod_7cf53 (some .int)) {r0 : Int32} {w : Wd} (hq : RI x rmJ9_floorMod_7cf53 r0 w) {x2 : Int32} (h : fJ9_floorMod_7cf53_b18 w x2 = some r0) : V x 18 [none, none, some (.int x2)] [] (Rp (xD x) w) 0 0 := by
  unfold fJ9_floorMod_7cf53_b18 at h
  refine v_iload_n (pc' := 19) hx dJ9_floorMod_7cf53_18 rfl rfl ?_
  exact v_iret hx hq (by decide) (by decide) dJ9_floorMod_7cf53_19 (by cases h; rfl)
theorem vJ9_floorMod_7cf53 {x : CT} (hx : CX x cJ9_floorMod_7cf53 RJ9 rmJ9_floorMod_7cf53 (some .int)) {r0 : Int32} {w : Wd} (hq : RI x rmJ9_floorMod_7cf53 r0 w) (x0 : Int32) (x1 : Int32) (h : fJ9_floorMod_7cf53 x0 x1 w = some r0) : V x 0 [some (.int x0), some (.int x1), none] [] (Rp (xD x) w) 0 0 := by
  unfold fJ9_floorMod_7cf53 at h
  refine v_iload_n (pc' := 1) hx dJ9_floorMod_7cf53_0 rfl rfl ?_
  refine v_iload_n (pc' := 2) hx dJ9_floorMod_7cf53_1 rfl rfl ?_
  replace h := ckp_inv h; obtain ⟨hk_1, h⟩ := h
  refine v_irem (pc' := 3) hx dJ9_floorMod_7cf53_2 hk_1 rfl ?_
  refine v_istore_n (pc' := 4) (L' := [some (.int x0), some (.int x1), some (.int (x0 - x0 / x1 * x1))]) hx dJ9_floorMod_7cf53_3 rfl rfl (Nat.le_of_ble_eq_true rfl) ?_
  refine v_iload_n (pc' := 5) hx dJ9_floorMod_7cf53_4 rfl rfl ?_
  refine v_iload_n (pc' := 6) hx dJ9_floorMod_7cf53_5 rfl rfl ?_
  refine v_ixor (pc' := 7) hx dJ9_floorMod_7cf53_6 rfl ?_
  refine v_if_ge (tgt := 18) (pc' := 10) hx dJ9_floorMod_7cf53_7 (by decide) rfl (fun hc_2 => ?_) (fun hc_2 => ?_)
  · rw [if_pos hc_2] at h
    refine V.sb (L' := [none, none, some (.int (x0 - x0 / x1 * x1))]) ⟨Or.inl rfl, Or.inl rfl, Or.inr rfl, trivial⟩ ?_
    exact vJ9_floorMod_7cf53_b18 hx hq h
  · rw [if_neg hc_2] at h
    refine v_iload_n (pc' := 11) hx dJ9_floorMod_7cf53_10 rfl rfl ?_
    refine v_if_eq (tgt := 18) (pc' := 14) hx dJ9_floorMod_7cf53_11 (by decide) rfl (fun hc_3 => ?_) (fun hc_3 => ?_)
    · rw [if_pos hc_3] at h
      refine V.sb (L' := [none, none, some (.int (x0 - x0 / x1 * x1))]) ⟨Or.inl rfl, Or.inl rfl, Or.inr rfl, trivial⟩ ?_
      exact vJ9_floorMod_7cf53_b18 hx hq h
    · rw [if_neg hc_3] at h
      refine v_iload_n (pc' := 15) hx dJ9_floorMod_7cf53_14 rfl rfl ?_
      refine v_iload_n (pc' := 16) hx dJ9_floorMod_7cf53_15 rfl rfl ?_
      refine v_iadd (pc' := 17) hx dJ9_floorMod_7cf53_16 rfl ?_
      exact v_iret hx hq (by decide) (by decide) dJ9_floorMod_7cf53_17 (by cases h; rfl)
theorem ctJ9_floorMod_7cf53 (l : Launch) (D : DD) (w : Wd) (G : GT) (sz : Nat) (hR : Rp D w G sz) (x0 : Int32) (x1 : Int32) {r0 : Int32} (h : fJ9_floorMod_7cf53 x0 x1 w = some r0) : MetI l yJ9_floorMod_7cf53 (WS yJ9_floorMod_7cf53 cJ9_floorMod_7cf53 3 (some .int)) rmJ9_floorMod_7cf53 D [.int x0, .int x1] G sz r0 w := by
  refine MetI_ofVF (own := RJ9) (P := Rp D w) hR (by decide +kernel) rfl (by simp [Value.category]) (Nat.le_of_ble_eq_true rfl) (fun x hx hq hD hl => ?_)
  subst hD
  exact vJ9_floorMod_7cf53 hx hq x0 x1  h
theorem vX5_workBetween_b136 {x : CT} (hx : CX x cX5_workBetween RX5 rmX5_workBetween (some .int)) {r0 : Int32} {w : Wd} (hq : RI x rmX5_workBetween r0 w) {xs0 : Int32} (h : fX5_workBetween_b136 w xs0 = some r0) : V x 136 [none, none, none, none, none, none, none, none, none, none] [.int xs0] (Rp (xD x) w) 0 0 := by
  unfold fX5_workBetween_b136 at h
  exact v_iret hx hq (by decide) (by decide) dX5_workBetween_136 (by cases h; rfl)
theorem vX5_workBetween_b112 {x : CT} (hx : CX x cX5_workBetween RX5 rmX5_workBetween (some .int)) {r0 : Int32} {w : Wd} (hq : RI x rmX5_workBetween r0 w) (h : fX5_workBetween_b112 w = some r0) : V x 112 [none, none, none, none, none, none, none, none, none, none] [] (Rp (xD x) w) 0 0 := by
  unfold fX5_workBetween_b112 at h
  refine v_iconst (pc' := 113) (v := (-1)) hx dX5_workBetween_112 (by decide) rfl ?_
  exact v_iret hx hq (by decide) (by decide) dX5_workBetween_113 (by cases h; rfl)
theorem vX5_workBetween_b85 {x : CT} (hx : CX x cX5_workBetween RX5 rmX5_workBetween (some .int)) {r0 : Int32} {w : Wd} (hq : RI x rmX5_workBetween r0 w) {a0 : Nat} {x4 : Int32} {x7 : Int32} {xs0 : Int32} (hl0 : zL w 5 a0 = true) (h : fX5_workBetween_b85 w a0 x4 x7 xs0 = some r0) : V x 85 [some (.ref a0), none, none, none, some (.int x4), none, none, some (.int x7), none, none] [.int xs0] (Rp (xD x) w) 0 0 := by
  unfold fX5_workBetween_b85 at h
  refine v_istore (pc' := 87) (L' := [some (.ref a0), none, none, none, some (.int x4), none, none, some (.int x7), none, some (.int xs0)]) hx dX5_workBetween_85 rfl rfl (Nat.le_of_ble_eq_true rfl) ?_
  refine v_iload (pc' := 89) hx dX5_workBetween_87 rfl rfl ?_
  refine v_iconst (pc' := 90) (v := 2) hx dX5_workBetween_89 (by decide) rfl ?_
  refine v_icmp_ne (tgt := 96) (pc' := 93) hx dX5_workBetween_90 (by decide) rfl (fun hc_1 => ?_) (fun hc_1 => ?_)
  · rw [if_neg hc_1] at h
    refine v_iload (pc' := 98) hx dX5_workBetween_96 rfl rfl ?_
    refine v_if_eq (tgt := 112) (pc' := 101) hx dX5_workBetween_98 (by decide) rfl (fun hc_2 => ?_) (fun hc_2 => ?_)
    · rw [if_pos hc_2] at h
      refine V.sb (L' := [none, none, none, none, none, none, none, none, none, none]) ⟨Or.inl rfl, Or.inl rfl, Or.inl rfl, Or.inl rfl, Or.inl rfl, Or.inl rfl, Or.inl rfl, Or.inl rfl, Or.inl rfl, Or.inl rfl, trivial⟩ ?_
      exact vX5_workBetween_b112 hx hq h
    · rw [if_neg hc_2] at h
      refine v_iload (pc' := 103) hx dX5_workBetween_101 rfl rfl ?_
      refine v_if_lt (tgt := 112) (pc' := 106) hx dX5_workBetween_103 (by decide) rfl (fun hc_3 => ?_) (fun hc_3 => ?_)
      · rw [if_pos hc_3] at h
        refine V.sb (L' := [none, none, none, none, none, none, none, none, none, none]) ⟨Or.inl rfl, Or.inl rfl, Or.inl rfl, Or.inl rfl, Or.inl rfl, Or.inl rfl, Or.inl rfl, Or.inl rfl, Or.inl rfl, Or.inl rfl, trivial⟩ ?_
        exact vX5_workBetween_b112 hx hq h
      · rw [if_neg hc_3] at h
        refine v_iload (pc' := 108) hx dX5_workBetween_106 rfl rfl ?_
        refine v_iconst (pc' := 109) (v := 2) hx dX5_workBetween_108 (by decide) rfl ?_
        refine v_icmp_le (tgt := 114) (pc' := 112) hx dX5_workBetween_109 (by decide) rfl (fun hc_4 => ?_) (fun hc_4 => ?_)
        · rw [if_pos hc_4] at h
          refine v_iload (pc' := 116) hx dX5_workBetween_114 rfl rfl ?_
          refine v_if_ne (tgt := 124) (pc' := 119) hx dX5_workBetween_116 (by decide) rfl (fun hc_5 => ?_) (fun hc_5 => ?_)
          · rw [if_neg hc_5] at h
            refine v_iload (pc' := 126) hx dX5_workBetween_124 rfl rfl ?_
            refine v_iload (pc' := 128) hx dX5_workBetween_126 rfl rfl ?_
            refine v_iconst (pc' := 129) (v := 1) hx dX5_workBetween_128 (by decide) rfl ?_
            refine v_isub (pc' := 130) hx dX5_workBetween_129 rfl ?_
            refine v_aload_n (pc' := 131) hx dX5_workBetween_130 rfl rfl ?_
            refine v_getI (pc' := 134) hx hl0 fi_5_4.1 fi_5_4.2.1 fk_X5_33 dX5_workBetween_131 rfl ?_
            refine v_imul (pc' := 135) hx dX5_workBetween_134 rfl ?_
            refine v_iadd (pc' := 136) hx dX5_workBetween_135 rfl ?_
            refine V.sb (L' := [none, none, none, none, none, none, none, none, none, none]) ⟨Or.inl rfl, Or.inl rfl, Or.inl rfl, Or.inl rfl, Or.inl rfl, Or.inl rfl, Or.inl rfl, Or.inl rfl, Or.inl rfl, Or.inl rfl, trivial⟩ ?_
            exact vX5_workBetween_b136 hx hq h
          · rw [if_pos hc_5] at h
            refine v_iload (pc' := 121) hx dX5_workBetween_119 rfl rfl ?_
            refine v_goto (tgt := 136) hx dX5_workBetween_121 (by decide) ?_
            refine V.sb (L' := [none, none, none, none, none, none, none, none, none, none]) ⟨Or.inl rfl, Or.inl rfl, Or.inl rfl, Or.inl rfl, Or.inl rfl, Or.inl rfl, Or.inl rfl, Or.inl rfl, Or.inl rfl, Or.inl rfl, trivial⟩ ?_
            exact vX5_workBetween_b136 hx hq h
        · rw [if_neg hc_4] at h
          refine V.sb (L' := [none, none, none, none, none, none, none, none, none, none]) ⟨Or.inl rfl, Or.inl rfl, Or.inl rfl, Or.inl rfl, Or.inl rfl, Or.inl rfl, Or.inl rfl, Or.inl rfl, Or.inl rfl, Or.inl rfl, trivial⟩ ?_
          exact vX5_workBetween_b112 hx hq h
  · rw [if_pos hc_1] at h
    refine v_iload (pc' := 95) hx dX5_workBetween_93 rfl rfl ?_
    exact v_iret hx hq (by decide) (by decide) dX5_workBetween_95 (by cases h; rfl)
theorem vX5_workBetween_b24 {x : CT} (hx : CX x cX5_workBetween RX5 rmX5_workBetween (some .int)) {r0 : Int32} {w : Wd} (hq : RI x rmX5_workBetween r0 w) (h : fX5_workBetween_b24 w = some r0) : V x 24 [none, none, none, none, none, none, none, none, none, none] [] (Rp (xD x) w) 0 0 := by
  unfold fX5_workBetween_b24 at h
  refine v_iconst (pc' := 25) (v := (-1)) hx dX5_workBetween_24 (by decide) rfl ?_
  exact v_iret hx hq (by decide) (by decide) dX5_workBetween_25 (by cases h; rfl)
theorem vX5_workBetween {x : CT} (hx : CX x cX5_workBetween RX5 rmX5_workBetween (some .int)) {r0 : Int32} {w : Wd} (hq : RI x rmX5_workBetween r0 w) (a0 : Nat) (a1 : Nat) (a2 : Nat) (x3 : Int32) (x4 : Int32) (hl0 : zL w 5 a0 = true) (hl1 : zL w 1 a1 = true) (hl2 : zL w 1 a2 = true) (h : fX5_workBetween a0 a1 a2 x3 x4 w = some r0) : V x 0 [some (.ref a0), some (.ref a1), some (.ref a2), some (.int x3), some (.int x4), none, none, none, none, none] [] (Rp (xD x) w) 0 0 := by
  unfold fX5_workBetween at h
  refine v_aload_n (pc' := 1) hx dX5_workBetween_0 rfl rfl ?_
  refine v_iload_n (pc' := 2) hx dX5_workBetween_1 rfl rfl ?_
  replace h := bd_inv h; obtain ⟨u_2, hcl_1, h⟩ := h
  refine v_callVq (pc' := 5) (w' := w) (q := u_2) (ci := 1) (b := a1) (As := [.int x3]) (rest := []) hx hl1 (fun G sz hR => ctX1_rowOf (xl x) (xD x) w G sz hR a1 x3 hl1 hcl_1) rfl my_X1_rowOf ml_X5_119 ⟨by decide, by decide⟩ ⟨by decide, by decide⟩ rfl rfl (Nat.le_of_ble_eq_true rfl) dX5_workBetween_2 rfl (fun hl_3 => ?_)
  refine v_astoreq (pc' := 7) (L' := [some (.ref a0), some (.ref a1), some (.ref a2), some (.int x3), some (.int x4), some (va_rf u_2), none, none, none, none]) hx dX5_workBetween_5 rfl rfl (Nat.le_of_ble_eq_true rfl) ?_
  refine v_aload_n (pc' := 8) hx dX5_workBetween_7 rfl rfl ?_
  refine v_iload_n (pc' := 9) hx dX5_workBetween_8 rfl rfl ?_
  replace h := bd_inv h; obtain ⟨u_5, hcl_4, h⟩ := h
  refine v_callVq (pc' := 12) (w' := w) (q := u_5) (ci := 1) (b := a2) (As := [.int x3]) (rest := []) hx hl2 (fun G sz hR => ctX1_rowOf (xl x) (xD x) w G sz hR a2 x3 hl2 hcl_4) rfl my_X1_rowOf ml_X5_119 ⟨by decide, by decide⟩ ⟨by decide, by decide⟩ rfl rfl (Nat.le_of_ble_eq_true rfl) dX5_workBetween_9 rfl (fun hl_6 => ?_)
  refine v_astoreq (pc' := 14) (L' := [some (.ref a0), some (.ref a1), some (.ref a2), some (.int x3), some (.int x4), some (va_rf u_2), some (va_rf u_5), none, none, none]) hx dX5_workBetween_12 rfl rfl (Nat.le_of_ble_eq_true rfl) ?_
  refine v_aloadq (pc' := 16) hx dX5_workBetween_14 rfl rfl ?_
  refine v_ifnull (tgt := 24) (pc' := 19) hx dX5_workBetween_16 (by decide) rfl (fun hn_8 => ?_) (fun b_7 hn_8 => ?_)
  · subst hn_8
    rw [oc_n] at h
    refine V.sb (L' := [none, none, none, none, none, none, none, none, none, none]) ⟨Or.inl rfl, Or.inl rfl, Or.inl rfl, Or.inl rfl, Or.inl rfl, Or.inl rfl, Or.inl rfl, Or.inl rfl, Or.inl rfl, Or.inl rfl, trivial⟩ ?_
    exact vX5_workBetween_b24 hx hq h
  · subst hn_8
    rw [oc_s] at h
    have hl_9 : zL w 2 b_7 = true := hl_3 _ rfl
    refine v_aloadq (pc' := 21) hx dX5_workBetween_19 rfl rfl ?_
    refine v_ifnonnull (tgt := 26) (pc' := 24) hx dX5_workBetween_21 (by decide) rfl (fun b_10 hn_11 => ?_) (fun hn_11 => ?_)
    · subst hn_11
      rw [oc_s] at h
      have hl_12 : zL w 2 b_10 = true := hl_6 _ rfl
      refine v_aload (pc' := 28) hx dX5_workBetween_26 rfl rfl ?_
      refine v_getI (pc' := 31) hx hl_12 fi_2_3.1 fi_2_3.2.1 fk_X5_90 dX5_workBetween_28 rfl ?_
      refine v_aload (pc' := 33) hx dX5_workBetween_31 rfl rfl ?_
      refine v_getI (pc' := 36) hx hl_9 fi_2_3.1 fi_2_3.2.1 fk_X5_90 dX5_workBetween_33 rfl ?_
      refine v_isub (pc' := 37) hx dX5_workBetween_36 rfl ?_
      refine v_aload_n (pc' := 38) hx dX5_workBetween_37 rfl rfl ?_
      refine v_getI (pc' := 41) hx hl0 fi_5_4.1 fi_5_4.2.1 fk_X5_33 dX5_workBetween_38 rfl ?_
      replace h := bd_inv h; obtain ⟨y_14, hcl_13, h⟩ := h
      refine v_callSi (pc' := 44) (w' := w) (r := y_14) (As := [.int ((zI w 2 b_10 3 0) - (zI w 2 b_7 3 0)), .int (zI w 5 a0 4 0)]) (rest := []) hx (fun G sz hR => ctJ9_floorMod_7cf53 (xl x) (xD x) w G sz hR ((zI w 2 b_10 3 0) - (zI w 2 b_7 3 0)) (zI w 5 a0 4 0)  hcl_13) my_J9_floorMod_7cf53 ml_X5_178 ⟨by decide, by decide⟩ ⟨by decide, by decide⟩ rfl rfl (Nat.le_of_ble_eq_true rfl) dX5_workBetween_41 rfl ?_
      refine v_istore (pc' := 46) (L' := [some (.ref a0), some (.ref a1), some (.ref a2), some (.int x3), some (.int x4), some (.ref b_7), some (.ref b_10), some (.int y_14), none, none]) hx dX5_workBetween_44 rfl rfl (Nat.le_of_ble_eq_true rfl) ?_
      refine v_aload_n (pc' := 47) hx dX5_workBetween_46 rfl rfl ?_
      refine v_getI (pc' := 50) hx hl0 fi_5_5.1 fi_5_5.2.1 fk_X5_36 dX5_workBetween_47 rfl ?_
      refine v_aload_n (pc' := 51) hx dX5_workBetween_50 rfl rfl ?_
      refine v_getI (pc' := 54) hx hl2 fi_1_0.1 fi_1_0.2.1 fk_X5_141 dX5_workBetween_51 rfl ?_
      refine v_aload_n (pc' := 55) hx dX5_workBetween_54 rfl rfl ?_
      refine v_getI (pc' := 58) hx hl1 fi_1_0.1 fi_1_0.2.1 fk_X5_141 dX5_workBetween_55 rfl ?_
      refine v_isub (pc' := 59) hx dX5_workBetween_58 rfl ?_
      refine v_imul (pc' := 60) hx dX5_workBetween_59 rfl ?_
      refine v_istore (pc' := 62) (L' := [some (.ref a0), some (.ref a1), some (.ref a2), some (.int x3), some (.int x4), some (.ref b_7), some (.ref b_10), some (.int y_14), some (.int ((zI w 5 a0 5 0) * ((zI w 1 a2 0 0) - (zI w 1 a1 0 0)))), none]) hx dX5_workBetween_60 rfl rfl (Nat.le_of_ble_eq_true rfl) ?_
      refine v_iload (pc' := 64) hx dX5_workBetween_62 rfl rfl ?_
      refine v_iload (pc' := 66) hx dX5_workBetween_64 rfl rfl ?_
      refine v_icmp_le (tgt := 73) (pc' := 69) hx dX5_workBetween_66 (by decide) rfl (fun hc_16 => ?_) (fun hc_16 => ?_)
      · rw [if_pos hc_16] at h
        refine v_iload (pc' := 75) hx dX5_workBetween_73 rfl rfl ?_
        refine v_iload (pc' := 77) hx dX5_workBetween_75 rfl rfl ?_
        refine v_isub (pc' := 78) hx dX5_workBetween_77 rfl ?_
        refine v_aload_n (pc' := 79) hx dX5_workBetween_78 rfl rfl ?_
        refine v_getI (pc' := 82) hx hl0 fi_5_4.1 fi_5_4.2.1 fk_X5_33 dX5_workBetween_79 rfl ?_
        replace h := ckp_inv h; obtain ⟨hk_17, h⟩ := h
        refine v_idiv (pc' := 83) hx dX5_workBetween_82 hk_17 rfl ?_
        refine v_iconst (pc' := 84) (v := 1) hx dX5_workBetween_83 (by decide) rfl ?_
        refine v_iadd (pc' := 85) hx dX5_workBetween_84 rfl ?_
        refine V.sb (L' := [some (.ref a0), none, none, none, some (.int x4), none, none, some (.int y_14), none, none]) ⟨Or.inr rfl, Or.inl rfl, Or.inl rfl, Or.inl rfl, Or.inr rfl, Or.inl rfl, Or.inl rfl, Or.inr rfl, Or.inl rfl, Or.inl rfl, trivial⟩ ?_
        exact vX5_workBetween_b85 hx hq hl0 h
      · rw [if_neg hc_16] at h
        refine v_iconst (pc' := 70) (v := 0) hx dX5_workBetween_69 (by decide) rfl ?_
        refine v_goto (tgt := 85) hx dX5_workBetween_70 (by decide) ?_
        refine V.sb (L' := [some (.ref a0), none, none, none, some (.int x4), none, none, some (.int y_14), none, none]) ⟨Or.inr rfl, Or.inl rfl, Or.inl rfl, Or.inl rfl, Or.inr rfl, Or.inl rfl, Or.inl rfl, Or.inr rfl, Or.inl rfl, Or.inl rfl, trivial⟩ ?_
        exact vX5_workBetween_b85 hx hq hl0 h
    · subst hn_11
      rw [oc_n] at h
      refine V.sb (L' := [none, none, none, none, none, none, none, none, none, none]) ⟨Or.inl rfl, Or.inl rfl, Or.inl rfl, Or.inl rfl, Or.inl rfl, Or.inl rfl, Or.inl rfl, Or.inl rfl, Or.inl rfl, Or.inl rfl, trivial⟩ ?_
      exact vX5_workBetween_b24 hx hq h
theorem ctX5_workBetween (l : Launch) (D : DD) (w : Wd) (G : GT) (sz : Nat) (hR : Rp D w G sz) (a0 : Nat) (a1 : Nat) (a2 : Nat) (x3 : Int32) (x4 : Int32) (hl0 : zL w 5 a0 = true) (hl1 : zL w 1 a1 = true) (hl2 : zL w 1 a2 = true) {r0 : Int32} (h : fX5_workBetween a0 a1 a2 x3 x4 w = some r0) : MetI l yX5_workBetween (WS yX5_workBetween cX5_workBetween 10 (some .int)) rmX5_workBetween D [.ref a0, .ref a1, .ref a2, .int x3, .int x4] G sz r0 w := by
  refine MetI_ofV (own := RX5) (P := Rp D w) hR (by decide) rfl (by simp [Value.category]) (Nat.le_of_ble_eq_true rfl) (fun x hx hq hD hl => ?_)
  subst hD
  exact vX5_workBetween hx hq a0 a1 a2 x3 x4 hl0 hl1 hl2 h
theorem vX5_work_b69 {x : CT} (hx : CX x cX5_work RX5 rmX5_work (some .int)) {r0 : Int32} {w : Wd} (hq : RI x rmX5_work r0 w) {xs0 : Int32} (h : fX5_work_b69 w xs0 = some r0) : V x 69 [none, none, none, none, none, none, none] [.int xs0] (Rp (xD x) w) 0 0 := by
  unfold fX5_work_b69 at h
  exact v_iret hx hq (by decide) (by decide) dX5_work_69 (by cases h; rfl)
theorem vX5_work_b29 {x : CT} (hx : CX x cX5_work RX5 rmX5_work (some .int)) {r0 : Int32} {w : Wd} (hq : RI x rmX5_work r0 w) (h : fX5_work_b29 w = some r0) : V x 29 [none, none, none, none, none, none, none] [] (Rp (xD x) w) 0 0 := by
  unfold fX5_work_b29 at h
  refine v_iconst (pc' := 30) (v := (-1)) hx dX5_work_29 (by decide) rfl ?_
  exact v_iret hx hq (by decide) (by decide) dX5_work_30 (by cases h; rfl)
theorem vX5_work {x : CT} (hx : CX x cX5_work RX5 rmX5_work (some .int)) {r0 : Int32} {w : Wd} (hq : RI x rmX5_work r0 w) (a0 : Nat) (x1 : Int32) (x2 : Int32) (x3 : Int32) (x4 : Int32) (hl0 : zL w 5 a0 = true) (h : fX5_work a0 x1 x2 x3 x4 w = some r0) : V x 0 [some (.ref a0), some (.int x1), some (.int x2), some (.int x3), some (.int x4), none, none] [] (Rp (xD x) w) 0 0 := by
  unfold fX5_work at h
  refine v_aload_n (pc' := 1) hx dX5_work_0 rfl rfl ?_
  refine v_iload_n (pc' := 2) hx dX5_work_1 rfl rfl ?_
  replace h := bd_inv h; obtain ⟨u_2, hcl_1, h⟩ := h
  refine v_callVq (pc' := 5) (w' := w) (q := u_2) (ci := 5) (b := a0) (As := [.int x2]) (rest := []) hx hl0 (fun G sz hR => ctX5_pictureAt (xl x) (xD x) w G sz hR a0 x2 hl0 hcl_1) rfl my_X5_pictureAt ml_X5_74 ⟨by decide, by decide⟩ ⟨by decide, by decide⟩ rfl rfl (Nat.le_of_ble_eq_true rfl) dX5_work_2 rfl (fun hl_3 => ?_)
  refine v_astoreq (pc' := 7) (L' := [some (.ref a0), some (.int x1), some (.int x2), some (.int x3), some (.int x4), some (va_rf u_2), none]) hx dX5_work_5 rfl rfl (Nat.le_of_ble_eq_true rfl) ?_
  refine v_aload_n (pc' := 8) hx dX5_work_7 rfl rfl ?_
  refine v_iload_n (pc' := 9) hx dX5_work_8 rfl rfl ?_
  replace h := bd_inv h; obtain ⟨u_5, hcl_4, h⟩ := h
  refine v_callVq (pc' := 12) (w' := w) (q := u_5) (ci := 5) (b := a0) (As := [.int x3]) (rest := []) hx hl0 (fun G sz hR => ctX5_pictureAt (xl x) (xD x) w G sz hR a0 x3 hl0 hcl_4) rfl my_X5_pictureAt ml_X5_74 ⟨by decide, by decide⟩ ⟨by decide, by decide⟩ rfl rfl (Nat.le_of_ble_eq_true rfl) dX5_work_9 rfl (fun hl_6 => ?_)
  refine v_astoreq (pc' := 14) (L' := [some (.ref a0), some (.int x1), some (.int x2), some (.int x3), some (.int x4), some (va_rf u_2), some (va_rf u_5)]) hx dX5_work_12 rfl rfl (Nat.le_of_ble_eq_true rfl) ?_
  refine v_aloadq (pc' := 16) hx dX5_work_14 rfl rfl ?_
  refine v_ifnull (tgt := 29) (pc' := 19) hx dX5_work_16 (by decide) rfl (fun hn_8 => ?_) (fun b_7 hn_8 => ?_)
  · subst hn_8
    rw [oc_n] at h
    refine V.sb (L' := [none, none, none, none, none, none, none]) ⟨Or.inl rfl, Or.inl rfl, Or.inl rfl, Or.inl rfl, Or.inl rfl, Or.inl rfl, Or.inl rfl, trivial⟩ ?_
    exact vX5_work_b29 hx hq h
  · subst hn_8
    rw [oc_s] at h
    have hl_9 : zL w 1 b_7 = true := hl_3 _ rfl
    refine v_aloadq (pc' := 21) hx dX5_work_19 rfl rfl ?_
    refine v_ifnull (tgt := 29) (pc' := 24) hx dX5_work_21 (by decide) rfl (fun hn_11 => ?_) (fun b_10 hn_11 => ?_)
    · subst hn_11
      rw [oc_n] at h
      refine V.sb (L' := [none, none, none, none, none, none, none]) ⟨Or.inl rfl, Or.inl rfl, Or.inl rfl, Or.inl rfl, Or.inl rfl, Or.inl rfl, Or.inl rfl, trivial⟩ ?_
      exact vX5_work_b29 hx hq h
    · subst hn_11
      rw [oc_s] at h
      have hl_12 : zL w 1 b_10 = true := hl_6 _ rfl
      refine v_iload_n (pc' := 25) hx dX5_work_24 rfl rfl ?_
      refine v_iload_n (pc' := 26) hx dX5_work_25 rfl rfl ?_
      refine v_icmp_ne (tgt := 31) (pc' := 29) hx dX5_work_26 (by decide) rfl (fun hc_13 => ?_) (fun hc_13 => ?_)
      · rw [if_neg hc_13] at h
        refine v_aload (pc' := 33) hx dX5_work_31 rfl rfl ?_
        refine v_getI (pc' := 36) hx hl_9 fi_1_0.1 fi_1_0.2.1 fk_X5_141 dX5_work_33 rfl ?_
        refine v_aload (pc' := 38) hx dX5_work_36 rfl rfl ?_
        refine v_getI (pc' := 41) hx hl_12 fi_1_0.1 fi_1_0.2.1 fk_X5_141 dX5_work_38 rfl ?_
        refine v_icmp_ge (tgt := 58) (pc' := 44) hx dX5_work_41 (by decide) rfl (fun hc_14 => ?_) (fun hc_14 => ?_)
        · rw [if_pos hc_14] at h
          refine v_aload_n (pc' := 59) hx dX5_work_58 rfl rfl ?_
          refine v_aload (pc' := 61) hx dX5_work_59 rfl rfl ?_
          refine v_aload (pc' := 63) hx dX5_work_61 rfl rfl ?_
          refine v_iload_n (pc' := 64) hx dX5_work_63 rfl rfl ?_
          refine v_iload (pc' := 66) hx dX5_work_64 rfl rfl ?_
          replace h := bd_inv h; obtain ⟨y_16, hcl_15, h⟩ := h
          refine v_callVi (pc' := 69) (w' := w) (r := y_16) (ci := 5) (b := a0) (As := [.ref b_10, .ref b_7, .int x1, .int x4]) (rest := []) hx hl0 (fun G sz hR => ctX5_workBetween (xl x) (xD x) w G sz hR a0 b_10 b_7 x1 x4 hl0 hl_12 hl_9 hcl_15) rfl my_X5_workBetween ml_X5_144 ⟨by decide, by decide⟩ ⟨by decide, by decide⟩ rfl rfl (Nat.le_of_ble_eq_true rfl) dX5_work_66 rfl ?_
          refine V.sb (L' := [none, none, none, none, none, none, none]) ⟨Or.inl rfl, Or.inl rfl, Or.inl rfl, Or.inl rfl, Or.inl rfl, Or.inl rfl, Or.inl rfl, trivial⟩ ?_
          exact vX5_work_b69 hx hq h
        · rw [if_neg hc_14] at h
          refine v_aload_n (pc' := 45) hx dX5_work_44 rfl rfl ?_
          refine v_aload (pc' := 47) hx dX5_work_45 rfl rfl ?_
          refine v_aload (pc' := 49) hx dX5_work_47 rfl rfl ?_
          refine v_iload_n (pc' := 50) hx dX5_work_49 rfl rfl ?_
          refine v_iload (pc' := 52) hx dX5_work_50 rfl rfl ?_
          replace h := bd_inv h; obtain ⟨y_19, hcl_18, h⟩ := h
          refine v_callVi (pc' := 55) (w' := w) (r := y_19) (ci := 5) (b := a0) (As := [.ref b_7, .ref b_10, .int x1, .int x4]) (rest := []) hx hl0 (fun G sz hR => ctX5_workBetween (xl x) (xD x) w G sz hR a0 b_7 b_10 x1 x4 hl0 hl_9 hl_12 hcl_18) rfl my_X5_workBetween ml_X5_144 ⟨by decide, by decide⟩ ⟨by decide, by decide⟩ rfl rfl (Nat.le_of_ble_eq_true rfl) dX5_work_52 rfl ?_
          refine v_goto (tgt := 69) hx dX5_work_55 (by decide) ?_
          refine V.sb (L' := [none, none, none, none, none, none, none]) ⟨Or.inl rfl, Or.inl rfl, Or.inl rfl, Or.inl rfl, Or.inl rfl, Or.inl rfl, Or.inl rfl, trivial⟩ ?_
          exact vX5_work_b69 hx hq h
      · rw [if_pos hc_13] at h
        refine V.sb (L' := [none, none, none, none, none, none, none]) ⟨Or.inl rfl, Or.inl rfl, Or.inl rfl, Or.inl rfl, Or.inl rfl, Or.inl rfl, Or.inl rfl, trivial⟩ ?_
        exact vX5_work_b29 hx hq h
theorem ctX5_work (l : Launch) (D : DD) (w : Wd) (G : GT) (sz : Nat) (hR : Rp D w G sz) (a0 : Nat) (x1 : Int32) (x2 : Int32) (x3 : Int32) (x4 : Int32) (hl0 : zL w 5 a0 = true) {r0 : Int32} (h : fX5_work a0 x1 x2 x3 x4 w = some r0) : MetI l yX5_work (WS yX5_work cX5_work 7 (some .int)) rmX5_work D [.ref a0, .int x1, .int x2, .int x3, .int x4] G sz r0 w := by
  refine MetI_ofV (own := RX5) (P := Rp D w) hR (by decide) rfl (by simp [Value.category]) (Nat.le_of_ble_eq_true rfl) (fun x hx hq hD hl => ?_)
  subst hD
  exact vX5_work hx hq a0 x1 x2 x3 x4 hl0 h
theorem vX6_work_b209 {x : CT} (hx : CX x cX6_work RX6 rmX6_work (some .int)) {r0 : Int32} {w : Wd} (hq : RI x rmX6_work r0 w) {xs0 : Int32} (h : fX6_work_b209 w xs0 = some r0) : V x 209 [none, none, none, none, none, none, none, none, none, none] [.int xs0] (Rp (xD x) w) 0 0 := by
  unfold fX6_work_b209 at h
  exact v_iret hx hq (by decide) (by decide) dX6_work_209 (by cases h; rfl)
theorem vX6_work_b187 {x : CT} (hx : CX x cX6_work RX6 rmX6_work (some .int)) {r0 : Int32} {w : Wd} (hq : RI x rmX6_work r0 w) {xs0 : Int32} (h : fX6_work_b187 w xs0 = some r0) : V x 187 [none, none, none, none, none, none, none, none, none, none] [.int xs0] (Rp (xD x) w) 0 0 := by
  unfold fX6_work_b187 at h
  exact v_iret hx hq (by decide) (by decide) dX6_work_187 (by cases h; rfl)
theorem vX6_work_b147 {x : CT} (hx : CX x cX6_work RX6 rmX6_work (some .int)) {r0 : Int32} {w : Wd} (hq : RI x rmX6_work r0 w) {a0 : Nat} {x4 : Int32} {x7 : Int32} {xs0 : Int32} (hl0 : zL w 6 a0 = true) (h : fX6_work_b147 w a0 x4 x7 xs0 = some r0) : V x 147 [some (.ref a0), none, none, none, some (.int x4), none, none, some (.int x7), none, none] [.int xs0] (Rp (xD x) w) 0 0 := by
  unfold fX6_work_b147 at h
  refine v_istore (pc' := 149) (L' := [some (.ref a0), none, none, none, some (.int x4), none, none, some (.int x7), none, some (.int xs0)]) hx dX6_work_147 rfl rfl (Nat.le_of_ble_eq_true rfl) ?_
  refine v_iload (pc' := 151) hx dX6_work_149 rfl rfl ?_
  by_cases hc_1 : x4 = 0
  · rw [if_pos hc_1] at h
    refine v_tblIn (tgt := 176) (off := 25) hx dX6_work_151 (by rw [hc_1]; decide) (by rw [hc_1]; decide) (by rw [hc_1]; decide) (by decide) ?_
    refine v_iload (pc' := 178) hx dX6_work_176 rfl rfl ?_
    refine v_if_ne (tgt := 185) (pc' := 181) hx dX6_work_178 (by decide) rfl (fun hc_2 => ?_) (fun hc_2 => ?_)
    · rw [if_neg hc_2] at h
      refine v_iload (pc' := 187) hx dX6_work_185 rfl rfl ?_
      refine V.sb (L' := [none, none, none, none, none, none, none, none, none, none]) ⟨Or.inl rfl, Or.inl rfl, Or.inl rfl, Or.inl rfl, Or.inl rfl, Or.inl rfl, Or.inl rfl, Or.inl rfl, Or.inl rfl, Or.inl rfl, trivial⟩ ?_
      exact vX6_work_b187 hx hq h
    · rw [if_pos hc_2] at h
      refine v_iconst (pc' := 182) (v := (-1)) hx dX6_work_181 (by decide) rfl ?_
      refine v_goto (tgt := 187) hx dX6_work_182 (by decide) ?_
      refine V.sb (L' := [none, none, none, none, none, none, none, none, none, none]) ⟨Or.inl rfl, Or.inl rfl, Or.inl rfl, Or.inl rfl, Or.inl rfl, Or.inl rfl, Or.inl rfl, Or.inl rfl, Or.inl rfl, Or.inl rfl, trivial⟩ ?_
      exact vX6_work_b187 hx hq h
  rw [if_neg hc_1] at h
  by_cases hc_3 : x4 = 1
  · rw [if_pos hc_3] at h
    refine v_tblIn (tgt := 188) (off := 37) hx dX6_work_151 (by rw [hc_3]; decide) (by rw [hc_3]; decide) (by rw [hc_3]; decide) (by decide) ?_
    refine v_iload (pc' := 190) hx dX6_work_188 rfl rfl ?_
    refine v_if_ne (tgt := 197) (pc' := 193) hx dX6_work_190 (by decide) rfl (fun hc_4 => ?_) (fun hc_4 => ?_)
    · rw [if_neg hc_4] at h
      refine v_iload (pc' := 199) hx dX6_work_197 rfl rfl ?_
      refine v_iload (pc' := 201) hx dX6_work_199 rfl rfl ?_
      refine v_iconst (pc' := 202) (v := 1) hx dX6_work_201 (by decide) rfl ?_
      refine v_isub (pc' := 203) hx dX6_work_202 rfl ?_
      refine v_aload_n (pc' := 204) hx dX6_work_203 rfl rfl ?_
      refine v_getI (pc' := 207) hx hl0 fi_6_3.1 fi_6_3.2.1 fk_X6_13 dX6_work_204 rfl ?_
      refine v_imul (pc' := 208) hx dX6_work_207 rfl ?_
      refine v_iadd (pc' := 209) hx dX6_work_208 rfl ?_
      refine V.sb (L' := [none, none, none, none, none, none, none, none, none, none]) ⟨Or.inl rfl, Or.inl rfl, Or.inl rfl, Or.inl rfl, Or.inl rfl, Or.inl rfl, Or.inl rfl, Or.inl rfl, Or.inl rfl, Or.inl rfl, trivial⟩ ?_
      exact vX6_work_b209 hx hq h
    · rw [if_pos hc_4] at h
      refine v_iconst (pc' := 194) (v := (-1)) hx dX6_work_193 (by decide) rfl ?_
      refine v_goto (tgt := 209) hx dX6_work_194 (by decide) ?_
      refine V.sb (L' := [none, none, none, none, none, none, none, none, none, none]) ⟨Or.inl rfl, Or.inl rfl, Or.inl rfl, Or.inl rfl, Or.inl rfl, Or.inl rfl, Or.inl rfl, Or.inl rfl, Or.inl rfl, Or.inl rfl, trivial⟩ ?_
      exact vX6_work_b209 hx hq h
  rw [if_neg hc_3] at h
  by_cases hc_5 : x4 = 2
  · rw [if_pos hc_5] at h
    refine v_tblIn (tgt := 210) (off := 59) hx dX6_work_151 (by rw [hc_5]; decide) (by rw [hc_5]; decide) (by rw [hc_5]; decide) (by decide) ?_
    refine v_iload (pc' := 212) hx dX6_work_210 rfl rfl ?_
    exact v_iret hx hq (by decide) (by decide) dX6_work_212 (by cases h; rfl)
  rw [if_neg hc_5] at h
  refine v_tblOut (tgt := 213) hx dX6_work_151 (sw_out (fun i h1 h2 => by rcases (show i = 0 ∨ i = 1 ∨ i = 2 by omega) with rfl | rfl | rfl <;> assumption)) (by decide) ?_
  refine v_iconst (pc' := 214) (v := (-1)) hx dX6_work_213 (by decide) rfl ?_
  exact v_iret hx hq (by decide) (by decide) dX6_work_214 (by cases h; rfl)
theorem vX6_work_b45 {x : CT} (hx : CX x cX6_work RX6 rmX6_work (some .int)) {r0 : Int32} {w : Wd} (hq : RI x rmX6_work r0 w) {a0 : Nat} {x1 : Int32} {x2 : Int32} {x3 : Int32} {x4 : Int32} {xs0 : Int32} (hl0 : zL w 6 a0 = true) (h : fX6_work_b45 w a0 x1 x2 x3 x4 xs0 = some r0) : V x 45 [some (.ref a0), some (.int x1), some (.int x2), some (.int x3), some (.int x4), none, none, none, none, none] [.int xs0] (Rp (xD x) w) 0 0 := by
  unfold fX6_work_b45 at h
  refine v_istore (pc' := 47) (L' := [some (.ref a0), some (.int x1), some (.int x2), some (.int x3), some (.int x4), some (.int xs0), none, none, none, none]) hx dX6_work_45 rfl rfl (Nat.le_of_ble_eq_true rfl) ?_
  refine v_iload_n (pc' := 48) hx dX6_work_47 rfl rfl ?_
  refine v_iload_n (pc' := 49) hx dX6_work_48 rfl rfl ?_
  refine v_iadd (pc' := 50) hx dX6_work_49 rfl ?_
  refine v_iload (pc' := 52) hx dX6_work_50 rfl rfl ?_
  refine v_isub (pc' := 53) hx dX6_work_52 rfl ?_
  refine v_istore (pc' := 55) (L' := [some (.ref a0), some (.int x1), some (.int x2), some (.int x3), some (.int x4), some (.int xs0), some (.int ((x2 + x3) - xs0)), none, none, none]) hx dX6_work_53 rfl rfl (Nat.le_of_ble_eq_true rfl) ?_
  refine v_aload_n (pc' := 56) hx dX6_work_55 rfl rfl ?_
  obtain ⟨g_1, hq_2⟩ : ∃ q, zA w 6 a0 9 = q := ⟨_, rfl⟩
  refine v_getAq (pc' := 59) hx hl0 fi_6_9.1 (by decide) hq_2 fk_X6_34 dX6_work_56 rfl ?_
  refine v_bipush (pc' := 61) (v := 24) hx dX6_work_59 (by decide) rfl ?_
  refine v_iload (pc' := 63) hx dX6_work_61 rfl rfl ?_
  refine v_imul (pc' := 64) hx dX6_work_63 rfl ?_
  refine v_iload_n (pc' := 65) hx dX6_work_64 rfl rfl ?_
  refine v_iadd (pc' := 66) hx dX6_work_65 rfl ?_
  replace h := ckp_inv h; obtain ⟨hk_3, h⟩ := h
  refine v_ialdq (pc' := 67) hx hl0 fi_6_9.1 fi_6_9.2.1 rfl hk_3 hq_2 dX6_work_66 rfl ?_
  refine v_aload_n (pc' := 68) hx dX6_work_67 rfl rfl ?_
  refine v_getI (pc' := 71) hx hl0 fi_6_3.1 fi_6_3.2.1 fk_X6_13 dX6_work_68 rfl ?_
  replace h := ckp_inv h; obtain ⟨hk_4, h⟩ := h
  refine v_irem (pc' := 72) hx dX6_work_71 hk_4 rfl ?_
  refine v_aload_n (pc' := 73) hx dX6_work_72 rfl rfl ?_
  obtain ⟨g_5, hq_6⟩ : ∃ q, zA w 6 a0 9 = q := ⟨_, rfl⟩
  refine v_getAq (pc' := 76) hx hl0 fi_6_9.1 (by decide) hq_6 fk_X6_34 dX6_work_73 rfl ?_
  refine v_bipush (pc' := 78) (v := 24) hx dX6_work_76 (by decide) rfl ?_
  refine v_iload (pc' := 80) hx dX6_work_78 rfl rfl ?_
  refine v_imul (pc' := 81) hx dX6_work_80 rfl ?_
  refine v_iload_n (pc' := 82) hx dX6_work_81 rfl rfl ?_
  refine v_iadd (pc' := 83) hx dX6_work_82 rfl ?_
  replace h := ckp_inv h; obtain ⟨hk_7, h⟩ := h
  refine v_ialdq (pc' := 84) hx hl0 fi_6_9.1 fi_6_9.2.1 rfl hk_7 hq_6 dX6_work_83 rfl ?_
  refine v_aload_n (pc' := 85) hx dX6_work_84 rfl rfl ?_
  refine v_getI (pc' := 88) hx hl0 fi_6_3.1 fi_6_3.2.1 fk_X6_13 dX6_work_85 rfl ?_
  replace h := ckp_inv h; obtain ⟨hk_8, h⟩ := h
  refine v_irem (pc' := 89) hx dX6_work_88 hk_8 rfl ?_
  refine v_isub (pc' := 90) hx dX6_work_89 rfl ?_
  refine v_aload_n (pc' := 91) hx dX6_work_90 rfl rfl ?_
  refine v_getI (pc' := 94) hx hl0 fi_6_3.1 fi_6_3.2.1 fk_X6_13 dX6_work_91 rfl ?_
  refine v_iadd (pc' := 95) hx dX6_work_94 rfl ?_
  refine v_aload_n (pc' := 96) hx dX6_work_95 rfl rfl ?_
  refine v_getI (pc' := 99) hx hl0 fi_6_3.1 fi_6_3.2.1 fk_X6_13 dX6_work_96 rfl ?_
  replace h := ckp_inv h; obtain ⟨hk_9, h⟩ := h
  refine v_irem (pc' := 100) hx dX6_work_99 hk_9 rfl ?_
  refine v_istore (pc' := 102) (L' := [some (.ref a0), some (.int x1), some (.int x2), some (.int x3), some (.int x4), some (.int xs0), some (.int ((x2 + x3) - xs0)), some (.int (((((zI w 6 a0 9 (((24 * ((x2 + x3) - xs0)) + x1) : Int32).toNatClampNeg) - (zI w 6 a0 9 (((24 * ((x2 + x3) - xs0)) + x1) : Int32).toNatClampNeg) / (zI w 6 a0 3 0) * (zI w 6 a0 3 0)) - ((zI w 6 a0 9 (((24 * xs0) + x1) : Int32).toNatClampNeg) - (zI w 6 a0 9 (((24 * xs0) + x1) : Int32).toNatClampNeg) / (zI w 6 a0 3 0) * (zI w 6 a0 3 0))) + (zI w 6 a0 3 0)) - ((((zI w 6 a0 9 (((24 * ((x2 + x3) - xs0)) + x1) : Int32).toNatClampNeg) - (zI w 6 a0 9 (((24 * ((x2 + x3) - xs0)) + x1) : Int32).toNatClampNeg) / (zI w 6 a0 3 0) * (zI w 6 a0 3 0)) - ((zI w 6 a0 9 (((24 * xs0) + x1) : Int32).toNatClampNeg) - (zI w 6 a0 9 (((24 * xs0) + x1) : Int32).toNatClampNeg) / (zI w 6 a0 3 0) * (zI w 6 a0 3 0))) + (zI w 6 a0 3 0)) / (zI w 6 a0 3 0) * (zI w 6 a0 3 0))), none, none]) hx dX6_work_100 rfl rfl (Nat.le_of_ble_eq_true rfl) ?_
  refine v_aload_n (pc' := 103) hx dX6_work_102 rfl rfl ?_
  refine v_getI (pc' := 106) hx hl0 fi_6_4.1 fi_6_4.2.1 fk_X6_17 dX6_work_103 rfl ?_
  refine v_aload_n (pc' := 107) hx dX6_work_106 rfl rfl ?_
  obtain ⟨g_10, hq_11⟩ : ∃ q, zA w 6 a0 5 = q := ⟨_, rfl⟩
  refine v_getAq (pc' := 110) hx hl0 fi_6_5.1 (by decide) hq_11 fk_X6_20 dX6_work_107 rfl ?_
  refine v_iload (pc' := 112) hx dX6_work_110 rfl rfl ?_
  replace h := ckp_inv h; obtain ⟨hk_12, h⟩ := h
  refine v_ialdq (pc' := 113) hx hl0 fi_6_5.1 fi_6_5.2.1 rfl hk_12 hq_11 dX6_work_112 rfl ?_
  refine v_aload_n (pc' := 114) hx dX6_work_113 rfl rfl ?_
  obtain ⟨g_13, hq_14⟩ : ∃ q, zA w 6 a0 5 = q := ⟨_, rfl⟩
  refine v_getAq (pc' := 117) hx hl0 fi_6_5.1 (by decide) hq_14 fk_X6_20 dX6_work_114 rfl ?_
  refine v_iload (pc' := 119) hx dX6_work_117 rfl rfl ?_
  replace h := ckp_inv h; obtain ⟨hk_15, h⟩ := h
  refine v_ialdq (pc' := 120) hx hl0 fi_6_5.1 fi_6_5.2.1 rfl hk_15 hq_14 dX6_work_119 rfl ?_
  refine v_isub (pc' := 121) hx dX6_work_120 rfl ?_
  refine v_imul (pc' := 122) hx dX6_work_121 rfl ?_
  refine v_istore (pc' := 124) (L' := [some (.ref a0), some (.int x1), some (.int x2), some (.int x3), some (.int x4), some (.int xs0), some (.int ((x2 + x3) - xs0)), some (.int (((((zI w 6 a0 9 (((24 * ((x2 + x3) - xs0)) + x1) : Int32).toNatClampNeg) - (zI w 6 a0 9 (((24 * ((x2 + x3) - xs0)) + x1) : Int32).toNatClampNeg) / (zI w 6 a0 3 0) * (zI w 6 a0 3 0)) - ((zI w 6 a0 9 (((24 * xs0) + x1) : Int32).toNatClampNeg) - (zI w 6 a0 9 (((24 * xs0) + x1) : Int32).toNatClampNeg) / (zI w 6 a0 3 0) * (zI w 6 a0 3 0))) + (zI w 6 a0 3 0)) - ((((zI w 6 a0 9 (((24 * ((x2 + x3) - xs0)) + x1) : Int32).toNatClampNeg) - (zI w 6 a0 9 (((24 * ((x2 + x3) - xs0)) + x1) : Int32).toNatClampNeg) / (zI w 6 a0 3 0) * (zI w 6 a0 3 0)) - ((zI w 6 a0 9 (((24 * xs0) + x1) : Int32).toNatClampNeg) - (zI w 6 a0 9 (((24 * xs0) + x1) : Int32).toNatClampNeg) / (zI w 6 a0 3 0) * (zI w 6 a0 3 0))) + (zI w 6 a0 3 0)) / (zI w 6 a0 3 0) * (zI w 6 a0 3 0))), some (.int ((zI w 6 a0 4 0) * ((zI w 6 a0 5 (((x2 + x3) - xs0) : Int32).toNatClampNeg) - (zI w 6 a0 5 (xs0 : Int32).toNatClampNeg)))), none]) hx dX6_work_122 rfl rfl (Nat.le_of_ble_eq_true rfl) ?_
  refine v_iload (pc' := 126) hx dX6_work_124 rfl rfl ?_
  refine v_iload (pc' := 128) hx dX6_work_126 rfl rfl ?_
  refine v_icmp_le (tgt := 135) (pc' := 131) hx dX6_work_128 (by decide) rfl (fun hc_16 => ?_) (fun hc_16 => ?_)
  · rw [if_pos hc_16] at h
    refine v_iload (pc' := 137) hx dX6_work_135 rfl rfl ?_
    refine v_iload (pc' := 139) hx dX6_work_137 rfl rfl ?_
    refine v_isub (pc' := 140) hx dX6_work_139 rfl ?_
    refine v_aload_n (pc' := 141) hx dX6_work_140 rfl rfl ?_
    refine v_getI (pc' := 144) hx hl0 fi_6_3.1 fi_6_3.2.1 fk_X6_13 dX6_work_141 rfl ?_
    replace h := ckp_inv h; obtain ⟨hk_17, h⟩ := h
    refine v_idiv (pc' := 145) hx dX6_work_144 hk_17 rfl ?_
    refine v_iconst (pc' := 146) (v := 1) hx dX6_work_145 (by decide) rfl ?_
    refine v_iadd (pc' := 147) hx dX6_work_146 rfl ?_
    refine V.sb (L' := [some (.ref a0), none, none, none, some (.int x4), none, none, some (.int (((((zI w 6 a0 9 (((24 * ((x2 + x3) - xs0)) + x1) : Int32).toNatClampNeg) - (zI w 6 a0 9 (((24 * ((x2 + x3) - xs0)) + x1) : Int32).toNatClampNeg) / (zI w 6 a0 3 0) * (zI w 6 a0 3 0)) - ((zI w 6 a0 9 (((24 * xs0) + x1) : Int32).toNatClampNeg) - (zI w 6 a0 9 (((24 * xs0) + x1) : Int32).toNatClampNeg) / (zI w 6 a0 3 0) * (zI w 6 a0 3 0))) + (zI w 6 a0 3 0)) - ((((zI w 6 a0 9 (((24 * ((x2 + x3) - xs0)) + x1) : Int32).toNatClampNeg) - (zI w 6 a0 9 (((24 * ((x2 + x3) - xs0)) + x1) : Int32).toNatClampNeg) / (zI w 6 a0 3 0) * (zI w 6 a0 3 0)) - ((zI w 6 a0 9 (((24 * xs0) + x1) : Int32).toNatClampNeg) - (zI w 6 a0 9 (((24 * xs0) + x1) : Int32).toNatClampNeg) / (zI w 6 a0 3 0) * (zI w 6 a0 3 0))) + (zI w 6 a0 3 0)) / (zI w 6 a0 3 0) * (zI w 6 a0 3 0))), none, none]) ⟨Or.inr rfl, Or.inl rfl, Or.inl rfl, Or.inl rfl, Or.inr rfl, Or.inl rfl, Or.inl rfl, Or.inr rfl, Or.inl rfl, Or.inl rfl, trivial⟩ ?_
    exact vX6_work_b147 hx hq hl0 h
  · rw [if_neg hc_16] at h
    refine v_iconst (pc' := 132) (v := 0) hx dX6_work_131 (by decide) rfl ?_
    refine v_goto (tgt := 147) hx dX6_work_132 (by decide) ?_
    refine V.sb (L' := [some (.ref a0), none, none, none, some (.int x4), none, none, some (.int (((((zI w 6 a0 9 (((24 * ((x2 + x3) - xs0)) + x1) : Int32).toNatClampNeg) - (zI w 6 a0 9 (((24 * ((x2 + x3) - xs0)) + x1) : Int32).toNatClampNeg) / (zI w 6 a0 3 0) * (zI w 6 a0 3 0)) - ((zI w 6 a0 9 (((24 * xs0) + x1) : Int32).toNatClampNeg) - (zI w 6 a0 9 (((24 * xs0) + x1) : Int32).toNatClampNeg) / (zI w 6 a0 3 0) * (zI w 6 a0 3 0))) + (zI w 6 a0 3 0)) - ((((zI w 6 a0 9 (((24 * ((x2 + x3) - xs0)) + x1) : Int32).toNatClampNeg) - (zI w 6 a0 9 (((24 * ((x2 + x3) - xs0)) + x1) : Int32).toNatClampNeg) / (zI w 6 a0 3 0) * (zI w 6 a0 3 0)) - ((zI w 6 a0 9 (((24 * xs0) + x1) : Int32).toNatClampNeg) - (zI w 6 a0 9 (((24 * xs0) + x1) : Int32).toNatClampNeg) / (zI w 6 a0 3 0) * (zI w 6 a0 3 0))) + (zI w 6 a0 3 0)) / (zI w 6 a0 3 0) * (zI w 6 a0 3 0))), none, none]) ⟨Or.inr rfl, Or.inl rfl, Or.inl rfl, Or.inl rfl, Or.inr rfl, Or.inl rfl, Or.inl rfl, Or.inr rfl, Or.inl rfl, Or.inl rfl, trivial⟩ ?_
    exact vX6_work_b147 hx hq hl0 h
theorem vX6_work_b23 {x : CT} (hx : CX x cX6_work RX6 rmX6_work (some .int)) {r0 : Int32} {w : Wd} (hq : RI x rmX6_work r0 w) (h : fX6_work_b23 w = some r0) : V x 23 [none, none, none, none, none, none, none, none, none, none] [] (Rp (xD x) w) 0 0 := by
  unfold fX6_work_b23 at h
  refine v_iconst (pc' := 24) (v := (-1)) hx dX6_work_23 (by decide) rfl ?_
  exact v_iret hx hq (by decide) (by decide) dX6_work_24 (by cases h; rfl)
theorem vX6_work {x : CT} (hx : CX x cX6_work RX6 rmX6_work (some .int)) {r0 : Int32} {w : Wd} (hq : RI x rmX6_work r0 w) (a0 : Nat) (x1 : Int32) (x2 : Int32) (x3 : Int32) (x4 : Int32) (hl0 : zL w 6 a0 = true) (h : fX6_work a0 x1 x2 x3 x4 w = some r0) : V x 0 [some (.ref a0), some (.int x1), some (.int x2), some (.int x3), some (.int x4), none, none, none, none, none] [] (Rp (xD x) w) 0 0 := by
  unfold fX6_work at h
  refine v_aload_n (pc' := 1) hx dX6_work_0 rfl rfl ?_
  refine v_iload_n (pc' := 2) hx dX6_work_1 rfl rfl ?_
  refine v_iload_n (pc' := 3) hx dX6_work_2 rfl rfl ?_
  replace h := bd_inv h; obtain ⟨y_2, hcl_1, h⟩ := h
  refine v_callVi (pc' := 6) (w' := w) (r := y_2) (ci := 6) (b := a0) (As := [.int x2, .int x1]) (rest := []) hx hl0 (fun G sz hR => ctX6_isThere (xl x) (xD x) w G sz hR a0 x2 x1 hl0 hcl_1) rfl my_X6_isThere ml_X6_149 ⟨by decide, by decide⟩ ⟨by decide, by decide⟩ rfl rfl (Nat.le_of_ble_eq_true rfl) dX6_work_3 rfl ?_
  refine v_if_eq (tgt := 23) (pc' := 9) hx dX6_work_6 (by decide) rfl (fun hc_4 => ?_) (fun hc_4 => ?_)
  · rw [if_pos hc_4] at h
    refine V.sb (L' := [none, none, none, none, none, none, none, none, none, none]) ⟨Or.inl rfl, Or.inl rfl, Or.inl rfl, Or.inl rfl, Or.inl rfl, Or.inl rfl, Or.inl rfl, Or.inl rfl, Or.inl rfl, Or.inl rfl, trivial⟩ ?_
    exact vX6_work_b23 hx hq h
  · rw [if_neg hc_4] at h
    refine v_aload_n (pc' := 10) hx dX6_work_9 rfl rfl ?_
    refine v_iload_n (pc' := 11) hx dX6_work_10 rfl rfl ?_
    refine v_iload_n (pc' := 12) hx dX6_work_11 rfl rfl ?_
    replace h := bd_inv h; obtain ⟨y_6, hcl_5, h⟩ := h
    refine v_callVi (pc' := 15) (w' := w) (r := y_6) (ci := 6) (b := a0) (As := [.int x3, .int x1]) (rest := []) hx hl0 (fun G sz hR => ctX6_isThere (xl x) (xD x) w G sz hR a0 x3 x1 hl0 hcl_5) rfl my_X6_isThere ml_X6_149 ⟨by decide, by decide⟩ ⟨by decide, by decide⟩ rfl rfl (Nat.le_of_ble_eq_true rfl) dX6_work_12 rfl ?_
    refine v_if_eq (tgt := 23) (pc' := 18) hx dX6_work_15 (by decide) rfl (fun hc_8 => ?_) (fun hc_8 => ?_)
    · rw [if_pos hc_8] at h
      refine V.sb (L' := [none, none, none, none, none, none, none, none, none, none]) ⟨Or.inl rfl, Or.inl rfl, Or.inl rfl, Or.inl rfl, Or.inl rfl, Or.inl rfl, Or.inl rfl, Or.inl rfl, Or.inl rfl, Or.inl rfl, trivial⟩ ?_
      exact vX6_work_b23 hx hq h
    · rw [if_neg hc_8] at h
      refine v_iload_n (pc' := 19) hx dX6_work_18 rfl rfl ?_
      refine v_iload_n (pc' := 20) hx dX6_work_19 rfl rfl ?_
      refine v_icmp_ne (tgt := 25) (pc' := 23) hx dX6_work_20 (by decide) rfl (fun hc_9 => ?_) (fun hc_9 => ?_)
      · rw [if_neg hc_9] at h
        refine v_aload_n (pc' := 26) hx dX6_work_25 rfl rfl ?_
        obtain ⟨g_10, hq_11⟩ : ∃ q, zA w 6 a0 5 = q := ⟨_, rfl⟩
        refine v_getAq (pc' := 29) hx hl0 fi_6_5.1 (by decide) hq_11 fk_X6_20 dX6_work_26 rfl ?_
        refine v_iload_n (pc' := 30) hx dX6_work_29 rfl rfl ?_
        replace h := ckp_inv h; obtain ⟨hk_12, h⟩ := h
        refine v_ialdq (pc' := 31) hx hl0 fi_6_5.1 fi_6_5.2.1 rfl hk_12 hq_11 dX6_work_30 rfl ?_
        refine v_aload_n (pc' := 32) hx dX6_work_31 rfl rfl ?_
        obtain ⟨g_13, hq_14⟩ : ∃ q, zA w 6 a0 5 = q := ⟨_, rfl⟩
        refine v_getAq (pc' := 35) hx hl0 fi_6_5.1 (by decide) hq_14 fk_X6_20 dX6_work_32 rfl ?_
        refine v_iload_n (pc' := 36) hx dX6_work_35 rfl rfl ?_
        replace h := ckp_inv h; obtain ⟨hk_15, h⟩ := h
        refine v_ialdq (pc' := 37) hx hl0 fi_6_5.1 fi_6_5.2.1 rfl hk_15 hq_14 dX6_work_36 rfl ?_
        refine v_icmp_ge (tgt := 44) (pc' := 40) hx dX6_work_37 (by decide) rfl (fun hc_16 => ?_) (fun hc_16 => ?_)
        · rw [if_pos hc_16] at h
          refine v_iload_n (pc' := 45) hx dX6_work_44 rfl rfl ?_
          exact vX6_work_b45 hx hq hl0 h
        · rw [if_neg hc_16] at h
          refine v_iload_n (pc' := 41) hx dX6_work_40 rfl rfl ?_
          refine v_goto (tgt := 45) hx dX6_work_41 (by decide) ?_
          exact vX6_work_b45 hx hq hl0 h
      · rw [if_pos hc_9] at h
        refine V.sb (L' := [none, none, none, none, none, none, none, none, none, none]) ⟨Or.inl rfl, Or.inl rfl, Or.inl rfl, Or.inl rfl, Or.inl rfl, Or.inl rfl, Or.inl rfl, Or.inl rfl, Or.inl rfl, Or.inl rfl, trivial⟩ ?_
        exact vX6_work_b23 hx hq h
theorem ctX6_work (l : Launch) (D : DD) (w : Wd) (G : GT) (sz : Nat) (hR : Rp D w G sz) (a0 : Nat) (x1 : Int32) (x2 : Int32) (x3 : Int32) (x4 : Int32) (hl0 : zL w 6 a0 = true) {r0 : Int32} (h : fX6_work a0 x1 x2 x3 x4 w = some r0) : MetI l yX6_work (WS yX6_work cX6_work 10 (some .int)) rmX6_work D [.ref a0, .int x1, .int x2, .int x3, .int x4] G sz r0 w := by
  refine MetI_ofV (own := RX6) (P := Rp D w) hR (by decide) rfl (by simp [Value.category]) (Nat.le_of_ble_eq_true rfl) (fun x hx hq hD hl => ?_)
  subst hD
  exact vX6_work hx hq a0 x1 x2 x3 x4 hl0 h
theorem vX1_distanceOf_b29 {x : CT} (hx : CX x cX1_distanceOf RX1 rmX1_distanceOf (some .int)) {r0 : Int32} {w : Wd} (hq : RI x rmX1_distanceOf r0 w) {xs0 : Int32} (h : fX1_distanceOf_b29 w xs0 = some r0) : V x 29 [none, none, none] [.int xs0] (Rp (xD x) w) 0 0 := by
  unfold fX1_distanceOf_b29 at h
  exact v_iret hx hq (by decide) (by decide) dX1_distanceOf_29 (by cases h; rfl)
theorem vX1_distanceOf_b28 {x : CT} (hx : CX x cX1_distanceOf RX1 rmX1_distanceOf (some .int)) {r0 : Int32} {w : Wd} (hq : RI x rmX1_distanceOf r0 w) (h : fX1_distanceOf_b28 w = some r0) : V x 28 [none, none, none] [] (Rp (xD x) w) 0 0 := by
  unfold fX1_distanceOf_b28 at h
  refine v_iconst (pc' := 29) (v := (-1)) hx dX1_distanceOf_28 (by decide) rfl ?_
  exact vX1_distanceOf_b29 hx hq h
theorem vX1_distanceOf {x : CT} (hx : CX x cX1_distanceOf RX1 rmX1_distanceOf (some .int)) {r0 : Int32} {w : Wd} (hq : RI x rmX1_distanceOf r0 w) (a0 : Nat) (x1 : Int32) (x2 : Int32) (hl0 : zL w 1 a0 = true) (h : fX1_distanceOf a0 x1 x2 w = some r0) : V x 0 [some (.ref a0), some (.int x1), some (.int x2)] [] (Rp (xD x) w) 0 0 := by
  unfold fX1_distanceOf at h
  refine v_iload_n (pc' := 1) hx dX1_distanceOf_0 rfl rfl ?_
  replace h := bd_inv h; obtain ⟨y_2, hcl_1, h⟩ := h
  refine v_callSi (pc' := 4) (w' := w) (r := y_2) (As := [.int x1]) (rest := []) hx (fun G sz hR => ctX5_isThread (xl x) (xD x) w G sz hR x1  hcl_1) my_X5_isThread ml_X1_44 ⟨by decide, by decide⟩ ⟨by decide, by decide⟩ rfl rfl (Nat.le_of_ble_eq_true rfl) dX1_distanceOf_1 rfl ?_
  refine v_if_eq (tgt := 28) (pc' := 7) hx dX1_distanceOf_4 (by decide) rfl (fun hc_4 => ?_) (fun hc_4 => ?_)
  · rw [if_pos hc_4] at h
    refine V.sb (L' := [none, none, none]) ⟨Or.inl rfl, Or.inl rfl, Or.inl rfl, trivial⟩ ?_
    exact vX1_distanceOf_b28 hx hq h
  · rw [if_neg hc_4] at h
    refine v_iload_n (pc' := 8) hx dX1_distanceOf_7 rfl rfl ?_
    replace h := bd_inv h; obtain ⟨y_6, hcl_5, h⟩ := h
    refine v_callSi (pc' := 11) (w' := w) (r := y_6) (As := [.int x2]) (rest := []) hx (fun G sz hR => ctX5_isThread (xl x) (xD x) w G sz hR x2  hcl_5) my_X5_isThread ml_X1_44 ⟨by decide, by decide⟩ ⟨by decide, by decide⟩ rfl rfl (Nat.le_of_ble_eq_true rfl) dX1_distanceOf_8 rfl ?_
    refine v_if_eq (tgt := 28) (pc' := 14) hx dX1_distanceOf_11 (by decide) rfl (fun hc_8 => ?_) (fun hc_8 => ?_)
    · rw [if_pos hc_8] at h
      refine V.sb (L' := [none, none, none]) ⟨Or.inl rfl, Or.inl rfl, Or.inl rfl, trivial⟩ ?_
      exact vX1_distanceOf_b28 hx hq h
    · rw [if_neg hc_8] at h
      refine v_aload_n (pc' := 15) hx dX1_distanceOf_14 rfl rfl ?_
      obtain ⟨g_9, hq_10⟩ : ∃ q, zA w 1 a0 5 = q := ⟨_, rfl⟩
      refine v_getAq (pc' := 18) hx hl0 fi_1_5.1 (by decide) hq_10 fk_X1_31 dX1_distanceOf_15 rfl ?_
      refine v_iload_n (pc' := 19) hx dX1_distanceOf_18 rfl rfl ?_
      refine v_bipush (pc' := 21) (v := 24) hx dX1_distanceOf_19 (by decide) rfl ?_
      refine v_imul (pc' := 22) hx dX1_distanceOf_21 rfl ?_
      refine v_iload_n (pc' := 23) hx dX1_distanceOf_22 rfl rfl ?_
      refine v_iadd (pc' := 24) hx dX1_distanceOf_23 rfl ?_
      replace h := ckp_inv h; obtain ⟨hk_11, h⟩ := h
      refine v_baldq (pc' := 25) hx hl0 fi_1_5.1 fi_1_5.2.1 rfl hk_11 hq_10 dX1_distanceOf_24 rfl ?_
      refine v_goto (tgt := 29) hx dX1_distanceOf_25 (by decide) ?_
      refine V.sb (L' := [none, none, none]) ⟨Or.inl rfl, Or.inl rfl, Or.inl rfl, trivial⟩ ?_
      exact vX1_distanceOf_b29 hx hq h
theorem ctX1_distanceOf (l : Launch) (D : DD) (w : Wd) (G : GT) (sz : Nat) (hR : Rp D w G sz) (a0 : Nat) (x1 : Int32) (x2 : Int32) (hl0 : zL w 1 a0 = true) {r0 : Int32} (h : fX1_distanceOf a0 x1 x2 w = some r0) : MetI l yX1_distanceOf (WS yX1_distanceOf cX1_distanceOf 3 (some .int)) rmX1_distanceOf D [.ref a0, .int x1, .int x2] G sz r0 w := by
  refine MetI_ofV (own := RX1) (P := Rp D w) hR (by decide) rfl (by simp [Value.category]) (Nat.le_of_ble_eq_true rfl) (fun x hx hq hD hl => ?_)
  subst hD
  exact vX1_distanceOf hx hq a0 x1 x2 hl0 h
theorem vX5_distance_b30 {x : CT} (hx : CX x cX5_distance RX5 rmX5_distance (some .int)) {r0 : Int32} {w : Wd} (hq : RI x rmX5_distance r0 w) (h : fX5_distance_b30 w = some r0) : V x 30 [none, none, none, none, none] [] (Rp (xD x) w) 0 0 := by
  unfold fX5_distance_b30 at h
  refine v_iconst (pc' := 31) (v := (-1)) hx dX5_distance_30 (by decide) rfl ?_
  exact v_iret hx hq (by decide) (by decide) dX5_distance_31 (by cases h; rfl)
theorem vX5_distance {x : CT} (hx : CX x cX5_distance RX5 rmX5_distance (some .int)) {r0 : Int32} {w : Wd} (hq : RI x rmX5_distance r0 w) (a0 : Nat) (x1 : Int32) (x2 : Int32) (x3 : Int32) (hl0 : zL w 5 a0 = true) (h : fX5_distance a0 x1 x2 x3 w = some r0) : V x 0 [some (.ref a0), some (.int x1), some (.int x2), some (.int x3), none] [] (Rp (xD x) w) 0 0 := by
  unfold fX5_distance at h
  refine v_aload_n (pc' := 1) hx dX5_distance_0 rfl rfl ?_
  refine v_iload_n (pc' := 2) hx dX5_distance_1 rfl rfl ?_
  replace h := bd_inv h; obtain ⟨u_2, hcl_1, h⟩ := h
  refine v_callVq (pc' := 5) (w' := w) (q := u_2) (ci := 5) (b := a0) (As := [.int x1]) (rest := []) hx hl0 (fun G sz hR => ctX5_pictureAt (xl x) (xD x) w G sz hR a0 x1 hl0 hcl_1) rfl my_X5_pictureAt ml_X5_74 ⟨by decide, by decide⟩ ⟨by decide, by decide⟩ rfl rfl (Nat.le_of_ble_eq_true rfl) dX5_distance_2 rfl (fun hl_3 => ?_)
  refine v_astoreq (pc' := 7) (L' := [some (.ref a0), some (.int x1), some (.int x2), some (.int x3), some (va_rf u_2)]) hx dX5_distance_5 rfl rfl (Nat.le_of_ble_eq_true rfl) ?_
  refine v_aloadq (pc' := 9) hx dX5_distance_7 rfl rfl ?_
  refine v_ifnull (tgt := 30) (pc' := 12) hx dX5_distance_9 (by decide) rfl (fun hn_5 => ?_) (fun b_4 hn_5 => ?_)
  · subst hn_5
    rw [oc_n] at h
    refine V.sb (L' := [none, none, none, none, none]) ⟨Or.inl rfl, Or.inl rfl, Or.inl rfl, Or.inl rfl, Or.inl rfl, trivial⟩ ?_
    exact vX5_distance_b30 hx hq h
  · subst hn_5
    rw [oc_s] at h
    have hl_6 : zL w 1 b_4 = true := hl_3 _ rfl
    refine v_aload (pc' := 14) hx dX5_distance_12 rfl rfl ?_
    refine v_iload_n (pc' := 15) hx dX5_distance_14 rfl rfl ?_
    replace h := bd_inv h; obtain ⟨u_8, hcl_7, h⟩ := h
    refine v_callVq (pc' := 18) (w' := w) (q := u_8) (ci := 1) (b := b_4) (As := [.int x2]) (rest := []) hx hl_6 (fun G sz hR => ctX1_rowOf (xl x) (xD x) w G sz hR b_4 x2 hl_6 hcl_7) rfl my_X1_rowOf ml_X5_119 ⟨by decide, by decide⟩ ⟨by decide, by decide⟩ rfl rfl (Nat.le_of_ble_eq_true rfl) dX5_distance_15 rfl (fun hl_9 => ?_)
    refine v_ifnull (tgt := 30) (pc' := 21) hx dX5_distance_18 (by decide) rfl (fun hn_11 => ?_) (fun b_10 hn_11 => ?_)
    · subst hn_11
      rw [oc_n] at h
      refine V.sb (L' := [none, none, none, none, none]) ⟨Or.inl rfl, Or.inl rfl, Or.inl rfl, Or.inl rfl, Or.inl rfl, trivial⟩ ?_
      exact vX5_distance_b30 hx hq h
    · subst hn_11
      rw [oc_s] at h
      have hl_12 : zL w 2 b_10 = true := hl_9 _ rfl
      refine v_aload (pc' := 23) hx dX5_distance_21 rfl rfl ?_
      refine v_iload_n (pc' := 24) hx dX5_distance_23 rfl rfl ?_
      replace h := bd_inv h; obtain ⟨u_14, hcl_13, h⟩ := h
      refine v_callVq (pc' := 27) (w' := w) (q := u_14) (ci := 1) (b := b_4) (As := [.int x3]) (rest := []) hx hl_6 (fun G sz hR => ctX1_rowOf (xl x) (xD x) w G sz hR b_4 x3 hl_6 hcl_13) rfl my_X1_rowOf ml_X5_119 ⟨by decide, by decide⟩ ⟨by decide, by decide⟩ rfl rfl (Nat.le_of_ble_eq_true rfl) dX5_distance_24 rfl (fun hl_15 => ?_)
      refine v_ifnonnull (tgt := 32) (pc' := 30) hx dX5_distance_27 (by decide) rfl (fun b_16 hn_17 => ?_) (fun hn_17 => ?_)
      · subst hn_17
        rw [oc_s] at h
        have hl_18 : zL w 2 b_16 = true := hl_15 _ rfl
        refine v_aload (pc' := 34) hx dX5_distance_32 rfl rfl ?_
        refine v_iload_n (pc' := 35) hx dX5_distance_34 rfl rfl ?_
        refine v_iload_n (pc' := 36) hx dX5_distance_35 rfl rfl ?_
        replace h := bd_inv h; obtain ⟨y_20, hcl_19, h⟩ := h
        refine v_callVi (pc' := 39) (w' := w) (r := y_20) (ci := 1) (b := b_4) (As := [.int x2, .int x3]) (rest := []) hx hl_6 (fun G sz hR => ctX1_distanceOf (xl x) (xD x) w G sz hR b_4 x2 x3 hl_6 hcl_19) rfl my_X1_distanceOf ml_X5_148 ⟨by decide, by decide⟩ ⟨by decide, by decide⟩ rfl rfl (Nat.le_of_ble_eq_true rfl) dX5_distance_36 rfl ?_
        exact v_iret hx hq (by decide) (by decide) dX5_distance_39 (by cases h; rfl)
      · subst hn_17
        rw [oc_n] at h
        refine V.sb (L' := [none, none, none, none, none]) ⟨Or.inl rfl, Or.inl rfl, Or.inl rfl, Or.inl rfl, Or.inl rfl, trivial⟩ ?_
        exact vX5_distance_b30 hx hq h
theorem ctX5_distance (l : Launch) (D : DD) (w : Wd) (G : GT) (sz : Nat) (hR : Rp D w G sz) (a0 : Nat) (x1 : Int32) (x2 : Int32) (x3 : Int32) (hl0 : zL w 5 a0 = true) {r0 : Int32} (h : fX5_distance a0 x1 x2 x3 w = some r0) : MetI l yX5_distance (WS yX5_distance cX5_distance 5 (some .int)) rmX5_distance D [.ref a0, .int x1, .int x2, .int x3] G sz r0 w := by
  refine MetI_ofV (own := RX5) (P := Rp D w) hR (by decide) rfl (by simp [Value.category]) (Nat.le_of_ble_eq_true rfl) (fun x hx hq hD hl => ?_)
  subst hD
  exact vX5_distance hx hq a0 x1 x2 x3 hl0 h
theorem vX6_least_b10 {x : CT} (hx : CX x cX6_least RX6 rmX6_least (some .int)) {r0 : Int32} {w : Wd} (hq : RI x rmX6_least r0 w) {xs0 : Int32} (h : fX6_least_b10 w xs0 = some r0) : V x 10 [none, none] [.int xs0] (Rp (xD x) w) 0 0 := by
  unfold fX6_least_b10 at h
  exact v_iret hx hq (by decide) (by decide) dX6_least_10 (by cases h; rfl)
theorem vX6_least {x : CT} (hx : CX x cX6_least RX6 rmX6_least (some .int)) {r0 : Int32} {w : Wd} (hq : RI x rmX6_least r0 w) (x0 : Int32) (x1 : Int32) (h : fX6_least x0 x1 w = some r0) : V x 0 [some (.int x0), some (.int x1)] [] (Rp (xD x) w) 0 0 := by
  unfold fX6_least at h
  refine v_iload_n (pc' := 1) hx dX6_least_0 rfl rfl ?_
  refine v_iload_n (pc' := 2) hx dX6_least_1 rfl rfl ?_
  refine v_icmp_ge (tgt := 9) (pc' := 5) hx dX6_least_2 (by decide) rfl (fun hc_1 => ?_) (fun hc_1 => ?_)
  · rw [if_pos hc_1] at h
    refine v_iload_n (pc' := 10) hx dX6_least_9 rfl rfl ?_
    refine V.sb (L' := [none, none]) ⟨Or.inl rfl, Or.inl rfl, trivial⟩ ?_
    exact vX6_least_b10 hx hq h
  · rw [if_neg hc_1] at h
    refine v_iload_n (pc' := 6) hx dX6_least_5 rfl rfl ?_
    refine v_goto (tgt := 10) hx dX6_least_6 (by decide) ?_
    refine V.sb (L' := [none, none]) ⟨Or.inl rfl, Or.inl rfl, trivial⟩ ?_
    exact vX6_least_b10 hx hq h
theorem ctX6_least (l : Launch) (D : DD) (w : Wd) (G : GT) (sz : Nat) (hR : Rp D w G sz) (x0 : Int32) (x1 : Int32) {r0 : Int32} (h : fX6_least x0 x1 w = some r0) : MetI l yX6_least (WS yX6_least cX6_least 2 (some .int)) rmX6_least D [.int x0, .int x1] G sz r0 w := by
  refine MetI_ofV (own := RX6) (P := Rp D w) hR (by decide) rfl (by simp [Value.category]) (Nat.le_of_ble_eq_true rfl) (fun x hx hq hD hl => ?_)
  subst hD
  exact vX6_least hx hq x0 x1  h
theorem kX6_distanceOf_b141 {r0 : Int32} {w0 : Wd} {rec2 : Nat → Int32 → Int32 → Int32 → Wd → Option (Int32 × Wd)} {rec15 : Nat → Int32 → Int32 → Int32 → Int32 → Wd → Option (Int32 × Wd)} {a0 : Nat} {x1 : Int32} {x2 : Int32} {x3 : Int32} {x4 : Int32} {x5 : Int32} {w wb : Wd} (hkr2 : ∀ (a0 : Nat) (x1 : Int32) (x2 : Int32) (x3 : Int32) (w : Wd), rec2 a0 x1 x2 x3 w = some (r0, w0) → mo wb w → mo wb w0) (hkr15 : ∀ (a0 : Nat) (x1 : Int32) (x2 : Int32) (x3 : Int32) (x4 : Int32) (w : Wd), rec15 a0 x1 x2 x3 x4 w = some (r0, w0) → mo wb w → mo wb w0) (hm : mo wb w) (h : fX6_distanceOf_b141 rec2 rec15 a0 x1 x2 x3 x4 x5 w = some (r0, w0)) : mo wb w0 := by
  unfold fX6_distanceOf_b141 at h
  replace h := ckp_inv h; obtain ⟨hk_3, h⟩ := h
  replace h := lt_inv h; obtain ⟨w_4, ew_5, h⟩ := h
  have hm := mo_eI hm ew_5
  exact hkr15 a0 x1 x2 x3 (x4 + 1) w_4 h hm
theorem kX6_distanceOf_b82 {r0 : Int32} {w0 : Wd} {rec2 : Nat → Int32 → Int32 → Int32 → Wd → Option (Int32 × Wd)} {rec15 : Nat → Int32 → Int32 → Int32 → Int32 → Wd → Option (Int32 × Wd)} {a0 : Nat} {x1 : Int32} {x2 : Int32} {x3 : Int32} {x4 : Int32} {xs0 : Int32} {w wb : Wd} (hkr2 : ∀ (a0 : Nat) (x1 : Int32) (x2 : Int32) (x3 : Int32) (w : Wd), rec2 a0 x1 x2 x3 w = some (r0, w0) → mo wb w → mo wb w0) (hkr15 : ∀ (a0 : Nat) (x1 : Int32) (x2 : Int32) (x3 : Int32) (x4 : Int32) (w : Wd), rec15 a0 x1 x2 x3 x4 w = some (r0, w0) → mo wb w → mo wb w0) (hm : mo wb w) (h : fX6_distanceOf_b82 rec2 rec15 a0 x1 x2 x3 x4 xs0 w = some (r0, w0)) : mo wb w0 := by
  unfold fX6_distanceOf_b82 at h
  replace h := ckp_inv h; obtain ⟨hk_3, h⟩ := h
  replace h := ckp_inv h; obtain ⟨hk_6, h⟩ := h
  replace h := ckp_inv h; obtain ⟨hk_9, h⟩ := h
  replace h := bd_inv h; obtain ⟨y_11, hcl_10, h⟩ := h
  replace h := bd_inv h; obtain ⟨y_14, hcl_13, h⟩ := h
  exact kX6_distanceOf_b141 hkr2 hkr15 hm h
theorem kX6_distanceOf_b36 {r0 : Int32} {w0 : Wd} {rec2 : Nat → Int32 → Int32 → Int32 → Wd → Option (Int32 × Wd)} {rec15 : Nat → Int32 → Int32 → Int32 → Int32 → Wd → Option (Int32 × Wd)} {a0 : Nat} {x1 : Int32} {x2 : Int32} {x3 : Int32} {x4 : Int32} {xs0 : Int32} {w wb : Wd} (hkr2 : ∀ (a0 : Nat) (x1 : Int32) (x2 : Int32) (x3 : Int32) (w : Wd), rec2 a0 x1 x2 x3 w = some (r0, w0) → mo wb w → mo wb w0) (hkr15 : ∀ (a0 : Nat) (x1 : Int32) (x2 : Int32) (x3 : Int32) (x4 : Int32) (w : Wd), rec15 a0 x1 x2 x3 x4 w = some (r0, w0) → mo wb w → mo wb w0) (hm : mo wb w) (h : fX6_distanceOf_b36 rec2 rec15 a0 x1 x2 x3 x4 xs0 w = some (r0, w0)) : mo wb w0 := by
  unfold fX6_distanceOf_b36 at h
  by_cases hc_1 : x3 ≤ 0
  · rw [if_pos hc_1] at h
    exact kX6_distanceOf_b141 hkr2 hkr15 hm h
  · rw [if_neg hc_1] at h
    by_cases hc_2 : x4 ≤ 0
    · rw [if_pos hc_2] at h
      exact kX6_distanceOf_b141 hkr2 hkr15 hm h
    · rw [if_neg hc_2] at h
      replace h := ckp_inv h; obtain ⟨hk_5, h⟩ := h
      replace h := ckp_inv h; obtain ⟨hk_8, h⟩ := h
      by_cases hc_9 : (zI w 6 a0 13 ((((12 * x1) + x3) - 1) : Int32).toNatClampNeg) = (zI w 6 a0 13 ((((12 * x2) + x4) - 1) : Int32).toNatClampNeg)
      · rw [if_pos hc_9] at h
        exact kX6_distanceOf_b82 hkr2 hkr15 hm h
      · rw [if_neg hc_9] at h
        exact kX6_distanceOf_b82 hkr2 hkr15 hm h
theorem kX6_distanceOf_b15 {r0 : Int32} {w0 : Wd} {rec2 : Nat → Int32 → Int32 → Int32 → Wd → Option (Int32 × Wd)} {rec15 : Nat → Int32 → Int32 → Int32 → Int32 → Wd → Option (Int32 × Wd)} {a0 : Nat} {x1 : Int32} {x2 : Int32} {x3 : Int32} {x4 : Int32} {w wb : Wd} (hkr2 : ∀ (a0 : Nat) (x1 : Int32) (x2 : Int32) (x3 : Int32) (w : Wd), rec2 a0 x1 x2 x3 w = some (r0, w0) → mo wb w → mo wb w0) (hkr15 : ∀ (a0 : Nat) (x1 : Int32) (x2 : Int32) (x3 : Int32) (x4 : Int32) (w : Wd), rec15 a0 x1 x2 x3 x4 w = some (r0, w0) → mo wb w → mo wb w0) (hm : mo wb w) (h : fX6_distanceOf_b15 rec2 rec15 a0 x1 x2 x3 x4 w = some (r0, w0)) : mo wb w0 := by
  unfold fX6_distanceOf_b15 at h
  replace h := ckp_inv h; obtain ⟨hk_3, h⟩ := h
  by_cases hc_4 : (zI w 6 a0 12 (x2 : Int32).toNatClampNeg) < x4
  · rw [if_pos hc_4] at h
    exact hkr2 a0 x1 x2 (x3 + 1) w h hm
  · rw [if_neg hc_4] at h
    by_cases hc_5 : x3 = 0
    · rw [if_pos hc_5] at h
      exact kX6_distanceOf_b36 hkr2 hkr15 hm h
    · rw [if_neg hc_5] at h
      exact kX6_distanceOf_b36 hkr2 hkr15 hm h
theorem kX6_distanceOf_l15 {r0 : Int32} {w0 : Wd} {rec2 : Nat → Int32 → Int32 → Int32 → Wd → Option (Int32 × Wd)} {wb : Wd} (hkr2 : ∀ (a0 : Nat) (x1 : Int32) (x2 : Int32) (x3 : Int32) (w : Wd), rec2 a0 x1 x2 x3 w = some (r0, w0) → mo wb w → mo wb w0) : ∀ (n : Nat) (a0 : Nat) (x1 : Int32) (x2 : Int32) (x3 : Int32) (x4 : Int32) (w : Wd), mo wb w → fX6_distanceOf_l15 rec2 n a0 x1 x2 x3 x4 w = some (r0, w0) → mo wb w0 := by
  intro n
  induction n with
  | zero => intro a0 x1 x2 x3 x4 w hm h; cases h
  | succ n ih =>
    intro a0 x1 x2 x3 x4 w hm h
    exact kX6_distanceOf_b15 hkr2 (fun a0 x1 x2 x3 x4 w h hm => ih a0 x1 x2 x3 x4 w hm h) hm h
theorem kX6_distanceOf_b2 {r0 : Int32} {w0 : Wd} {rec2 : Nat → Int32 → Int32 → Int32 → Wd → Option (Int32 × Wd)} {a0 : Nat} {x1 : Int32} {x2 : Int32} {x3 : Int32} {w wb : Wd} (hkr2 : ∀ (a0 : Nat) (x1 : Int32) (x2 : Int32) (x3 : Int32) (w : Wd), rec2 a0 x1 x2 x3 w = some (r0, w0) → mo wb w → mo wb w0) (hm : mo wb w) (h : fX6_distanceOf_b2 rec2 a0 x1 x2 x3 w = some (r0, w0)) : mo wb w0 := by
  unfold fX6_distanceOf_b2 at h
  replace h := ckp_inv h; obtain ⟨hk_3, h⟩ := h
  by_cases hc_4 : (zI w 6 a0 12 (x1 : Int32).toNatClampNeg) < x3
  · rw [if_pos hc_4] at h
    replace h := ckp_inv h; obtain ⟨hk_9, h⟩ := h
    replace h := ckp_inv h; obtain ⟨hk_12, h⟩ := h
    replace h := ckp_inv h; obtain ⟨hk_13, h⟩ := h
    cases h; exact hm
  · rw [if_neg hc_4] at h
    exact kX6_distanceOf_l15 hkr2 1000 a0 x1 x2 x3 0 w hm h
theorem kX6_distanceOf_l2 {r0 : Int32} {w0 : Wd} {wb : Wd} : ∀ (n : Nat) (a0 : Nat) (x1 : Int32) (x2 : Int32) (x3 : Int32) (w : Wd), mo wb w → fX6_distanceOf_l2  n a0 x1 x2 x3 w = some (r0, w0) → mo wb w0 := by
  intro n
  induction n with
  | zero => intro a0 x1 x2 x3 w hm h; cases h
  | succ n ih =>
    intro a0 x1 x2 x3 w hm h
    exact kX6_distanceOf_b2  (fun a0 x1 x2 x3 w h hm => ih a0 x1 x2 x3 w hm h) hm h
theorem kX6_distanceOf {r0 : Int32} {w0 : Wd} {a0 : Nat} {x1 : Int32} {x2 : Int32} {w : Wd} (h : fX6_distanceOf a0 x1 x2 w = some (r0, w0)) : mo w w0 := by
  have hm := mo_rf w
  unfold fX6_distanceOf at h
  exact kX6_distanceOf_l2 1000 a0 x1 x2 0 w hm h
theorem vX6_distanceOf_b141 {x : CT} (hx : CX x cX6_distanceOf RX6 rmX6_distanceOf (some .int)) {r0 : Int32} {w0 : Wd} (hq : RI x rmX6_distanceOf r0 w0) {rec2 : Nat → Int32 → Int32 → Int32 → Wd → Option (Int32 × Wd)} {rec15 : Nat → Int32 → Int32 → Int32 → Int32 → Wd → Option (Int32 × Wd)} {a0 : Nat} {x1 : Int32} {x2 : Int32} {x3 : Int32} {x4 : Int32} {x5 : Int32} {w : Wd} (hrec2 : ∀ (a0 : Nat) (x1 : Int32) (x2 : Int32) (x3 : Int32) (w : Wd), rec2 a0 x1 x2 x3 w = some (r0, w0) → (zL w 6 a0 = true) → V x 2 [some (.ref a0), some (.int x1), some (.int x2), some (.int x3), none, none, none] [] (Rp (xD x) w) 0 0) (hrec15 : ∀ (a0 : Nat) (x1 : Int32) (x2 : Int32) (x3 : Int32) (x4 : Int32) (w : Wd), rec15 a0 x1 x2 x3 x4 w = some (r0, w0) → (zL w 6 a0 = true) → V x 15 [some (.ref a0), some (.int x1), some (.int x2), some (.int x3), some (.int x4), none, none] [] (Rp (xD x) w) 0 0) (hl0 : zL w 6 a0 = true) (h : fX6_distanceOf_b141 rec2 rec15 a0 x1 x2 x3 x4 x5 w = some (r0, w0)) : V x 141 [some (.ref a0), some (.int x1), some (.int x2), some (.int x3), some (.int x4), some (.int x5), none] [] (Rp (xD x) w) 0 0 := by
  unfold fX6_distanceOf_b141 at h
  refine v_aload_n (pc' := 142) hx dX6_distanceOf_141 rfl rfl ?_
  obtain ⟨g_1, hq_2⟩ : ∃ q, zA w 6 a0 29 = q := ⟨_, rfl⟩
  refine v_getAq (pc' := 145) hx hl0 fi_6_29.1 (by decide) hq_2 fk_X6_61 dX6_distanceOf_142 rfl ?_
  refine v_bipush (pc' := 147) (v := 13) hx dX6_distanceOf_145 (by decide) rfl ?_
  refine v_iload_n (pc' := 148) hx dX6_distanceOf_147 rfl rfl ?_
  refine v_imul (pc' := 149) hx dX6_distanceOf_148 rfl ?_
  refine v_iload (pc' := 151) hx dX6_distanceOf_149 rfl rfl ?_
  refine v_iadd (pc' := 152) hx dX6_distanceOf_151 rfl ?_
  refine v_iload (pc' := 154) hx dX6_distanceOf_152 rfl rfl ?_
  replace h := ckp_inv h; obtain ⟨hk_3, h⟩ := h
  refine v_iastq (pc' := 155) hx hl0 fi_6_29.1 fi_6_29.2.1 rfl hk_3 hq_2 dX6_distanceOf_154 rfl ?_
  replace h := lt_inv h; obtain ⟨w_4, ew_5, h⟩ := h
  rw [← ew_5]
  have hl_6 : zL w_4 6 a0 = true := by rw [ew_5]; exact hl0
  refine v_iinc (pc' := 158) (w0 := (x4 + 1)) (L' := [some (.ref a0), some (.int x1), some (.int x2), some (.int x3), some (.int (x4 + 1)), some (.int x5), none]) hx dX6_distanceOf_155 rfl rfl rfl rfl ?_
  refine v_goto (tgt := 15) hx dX6_distanceOf_158 (by decide) ?_
  refine V.sb (L' := [some (.ref a0), some (.int x1), some (.int x2), some (.int x3), some (.int (x4 + 1)), none, none]) ⟨Or.inr rfl, Or.inr rfl, Or.inr rfl, Or.inr rfl, Or.inr rfl, Or.inl rfl, Or.inl rfl, trivial⟩ ?_
  exact hrec15 a0 x1 x2 x3 (x4 + 1) w_4 h hl_6
theorem vX6_distanceOf_b82 {x : CT} (hx : CX x cX6_distanceOf RX6 rmX6_distanceOf (some .int)) {r0 : Int32} {w0 : Wd} (hq : RI x rmX6_distanceOf r0 w0) {rec2 : Nat → Int32 → Int32 → Int32 → Wd → Option (Int32 × Wd)} {rec15 : Nat → Int32 → Int32 → Int32 → Int32 → Wd → Option (Int32 × Wd)} {a0 : Nat} {x1 : Int32} {x2 : Int32} {x3 : Int32} {x4 : Int32} {xs0 : Int32} {w : Wd} (hrec2 : ∀ (a0 : Nat) (x1 : Int32) (x2 : Int32) (x3 : Int32) (w : Wd), rec2 a0 x1 x2 x3 w = some (r0, w0) → (zL w 6 a0 = true) → V x 2 [some (.ref a0), some (.int x1), some (.int x2), some (.int x3), none, none, none] [] (Rp (xD x) w) 0 0) (hrec15 : ∀ (a0 : Nat) (x1 : Int32) (x2 : Int32) (x3 : Int32) (x4 : Int32) (w : Wd), rec15 a0 x1 x2 x3 x4 w = some (r0, w0) → (zL w 6 a0 = true) → V x 15 [some (.ref a0), some (.int x1), some (.int x2), some (.int x3), some (.int x4), none, none] [] (Rp (xD x) w) 0 0) (hl0 : zL w 6 a0 = true) (h : fX6_distanceOf_b82 rec2 rec15 a0 x1 x2 x3 x4 xs0 w = some (r0, w0)) : V x 82 [some (.ref a0), some (.int x1), some (.int x2), some (.int x3), some (.int x4), none, none] [.int xs0] (Rp (xD x) w) 0 0 := by
  unfold fX6_distanceOf_b82 at h
  refine v_istore (pc' := 84) (L' := [some (.ref a0), some (.int x1), some (.int x2), some (.int x3), some (.int x4), none, some (.int xs0)]) hx dX6_distanceOf_82 rfl rfl (Nat.le_of_ble_eq_true rfl) ?_
  refine v_aload_n (pc' := 85) hx dX6_distanceOf_84 rfl rfl ?_
  obtain ⟨g_1, hq_2⟩ : ∃ q, zA w 6 a0 29 = q := ⟨_, rfl⟩
  refine v_getAq (pc' := 88) hx hl0 fi_6_29.1 (by decide) hq_2 fk_X6_61 dX6_distanceOf_85 rfl ?_
  refine v_bipush (pc' := 90) (v := 13) hx dX6_distanceOf_88 (by decide) rfl ?_
  refine v_iload_n (pc' := 91) hx dX6_distanceOf_90 rfl rfl ?_
  refine v_iconst (pc' := 92) (v := 1) hx dX6_distanceOf_91 (by decide) rfl ?_
  refine v_isub (pc' := 93) hx dX6_distanceOf_92 rfl ?_
  refine v_imul (pc' := 94) hx dX6_distanceOf_93 rfl ?_
  refine v_iload (pc' := 96) hx dX6_distanceOf_94 rfl rfl ?_
  refine v_iadd (pc' := 97) hx dX6_distanceOf_96 rfl ?_
  refine v_iconst (pc' := 98) (v := 1) hx dX6_distanceOf_97 (by decide) rfl ?_
  refine v_isub (pc' := 99) hx dX6_distanceOf_98 rfl ?_
  replace h := ckp_inv h; obtain ⟨hk_3, h⟩ := h
  refine v_ialdq (pc' := 100) hx hl0 fi_6_29.1 fi_6_29.2.1 rfl hk_3 hq_2 dX6_distanceOf_99 rfl ?_
  refine v_iload (pc' := 102) hx dX6_distanceOf_100 rfl rfl ?_
  refine v_iadd (pc' := 103) hx dX6_distanceOf_102 rfl ?_
  refine v_iconst (pc' := 104) (v := 1) hx dX6_distanceOf_103 (by decide) rfl ?_
  refine v_aload_n (pc' := 105) hx dX6_distanceOf_104 rfl rfl ?_
  obtain ⟨g_4, hq_5⟩ : ∃ q, zA w 6 a0 29 = q := ⟨_, rfl⟩
  refine v_getAq (pc' := 108) hx hl0 fi_6_29.1 (by decide) hq_5 fk_X6_61 dX6_distanceOf_105 rfl ?_
  refine v_bipush (pc' := 110) (v := 13) hx dX6_distanceOf_108 (by decide) rfl ?_
  refine v_iload_n (pc' := 111) hx dX6_distanceOf_110 rfl rfl ?_
  refine v_iconst (pc' := 112) (v := 1) hx dX6_distanceOf_111 (by decide) rfl ?_
  refine v_isub (pc' := 113) hx dX6_distanceOf_112 rfl ?_
  refine v_imul (pc' := 114) hx dX6_distanceOf_113 rfl ?_
  refine v_iload (pc' := 116) hx dX6_distanceOf_114 rfl rfl ?_
  refine v_iadd (pc' := 117) hx dX6_distanceOf_116 rfl ?_
  replace h := ckp_inv h; obtain ⟨hk_6, h⟩ := h
  refine v_ialdq (pc' := 118) hx hl0 fi_6_29.1 fi_6_29.2.1 rfl hk_6 hq_5 dX6_distanceOf_117 rfl ?_
  refine v_aload_n (pc' := 119) hx dX6_distanceOf_118 rfl rfl ?_
  obtain ⟨g_7, hq_8⟩ : ∃ q, zA w 6 a0 29 = q := ⟨_, rfl⟩
  refine v_getAq (pc' := 122) hx hl0 fi_6_29.1 (by decide) hq_8 fk_X6_61 dX6_distanceOf_119 rfl ?_
  refine v_bipush (pc' := 124) (v := 13) hx dX6_distanceOf_122 (by decide) rfl ?_
  refine v_iload_n (pc' := 125) hx dX6_distanceOf_124 rfl rfl ?_
  refine v_imul (pc' := 126) hx dX6_distanceOf_125 rfl ?_
  refine v_iload (pc' := 128) hx dX6_distanceOf_126 rfl rfl ?_
  refine v_iadd (pc' := 129) hx dX6_distanceOf_128 rfl ?_
  refine v_iconst (pc' := 130) (v := 1) hx dX6_distanceOf_129 (by decide) rfl ?_
  refine v_isub (pc' := 131) hx dX6_distanceOf_130 rfl ?_
  replace h := ckp_inv h; obtain ⟨hk_9, h⟩ := h
  refine v_ialdq (pc' := 132) hx hl0 fi_6_29.1 fi_6_29.2.1 rfl hk_9 hq_8 dX6_distanceOf_131 rfl ?_
  replace h := bd_inv h; obtain ⟨y_11, hcl_10, h⟩ := h
  refine v_callSi (pc' := 135) (w' := w) (r := y_11) (As := [.int (zI w 6 a0 29 (((13 * (x3 - 1)) + x4) : Int32).toNatClampNeg), .int (zI w 6 a0 29 ((((13 * x3) + x4) - 1) : Int32).toNatClampNeg)]) (rest := [.int 1, .int ((zI w 6 a0 29 ((((13 * (x3 - 1)) + x4) - 1) : Int32).toNatClampNeg) + xs0)]) hx (fun G sz hR => ctX6_least (xl x) (xD x) w G sz hR (zI w 6 a0 29 (((13 * (x3 - 1)) + x4) : Int32).toNatClampNeg) (zI w 6 a0 29 ((((13 * x3) + x4) - 1) : Int32).toNatClampNeg)  hcl_10) my_X6_least ml_X6_193 ⟨by decide, by decide⟩ ⟨by decide, by decide⟩ rfl rfl (Nat.le_of_ble_eq_true rfl) dX6_distanceOf_132 rfl ?_
  refine v_iadd (pc' := 136) hx dX6_distanceOf_135 rfl ?_
  replace h := bd_inv h; obtain ⟨y_14, hcl_13, h⟩ := h
  refine v_callSi (pc' := 139) (w' := w) (r := y_14) (As := [.int ((zI w 6 a0 29 ((((13 * (x3 - 1)) + x4) - 1) : Int32).toNatClampNeg) + xs0), .int (1 + y_11)]) (rest := []) hx (fun G sz hR => ctX6_least (xl x) (xD x) w G sz hR ((zI w 6 a0 29 ((((13 * (x3 - 1)) + x4) - 1) : Int32).toNatClampNeg) + xs0) (1 + y_11)  hcl_13) my_X6_least ml_X6_193 ⟨by decide, by decide⟩ ⟨by decide, by decide⟩ rfl rfl (Nat.le_of_ble_eq_true rfl) dX6_distanceOf_136 rfl ?_
  refine v_istore (pc' := 141) (L' := [some (.ref a0), some (.int x1), some (.int x2), some (.int x3), some (.int x4), some (.int y_14), some (.int xs0)]) hx dX6_distanceOf_139 rfl rfl (Nat.le_of_ble_eq_true rfl) ?_
  refine V.sb (L' := [some (.ref a0), some (.int x1), some (.int x2), some (.int x3), some (.int x4), some (.int y_14), none]) ⟨Or.inr rfl, Or.inr rfl, Or.inr rfl, Or.inr rfl, Or.inr rfl, Or.inr rfl, Or.inl rfl, trivial⟩ ?_
  exact vX6_distanceOf_b141 hx hq hrec2 hrec15 hl0 h
theorem vX6_distanceOf_b36 {x : CT} (hx : CX x cX6_distanceOf RX6 rmX6_distanceOf (some .int)) {r0 : Int32} {w0 : Wd} (hq : RI x rmX6_distanceOf r0 w0) {rec2 : Nat → Int32 → Int32 → Int32 → Wd → Option (Int32 × Wd)} {rec15 : Nat → Int32 → Int32 → Int32 → Int32 → Wd → Option (Int32 × Wd)} {a0 : Nat} {x1 : Int32} {x2 : Int32} {x3 : Int32} {x4 : Int32} {xs0 : Int32} {w : Wd} (hrec2 : ∀ (a0 : Nat) (x1 : Int32) (x2 : Int32) (x3 : Int32) (w : Wd), rec2 a0 x1 x2 x3 w = some (r0, w0) → (zL w 6 a0 = true) → V x 2 [some (.ref a0), some (.int x1), some (.int x2), some (.int x3), none, none, none] [] (Rp (xD x) w) 0 0) (hrec15 : ∀ (a0 : Nat) (x1 : Int32) (x2 : Int32) (x3 : Int32) (x4 : Int32) (w : Wd), rec15 a0 x1 x2 x3 x4 w = some (r0, w0) → (zL w 6 a0 = true) → V x 15 [some (.ref a0), some (.int x1), some (.int x2), some (.int x3), some (.int x4), none, none] [] (Rp (xD x) w) 0 0) (hl0 : zL w 6 a0 = true) (h : fX6_distanceOf_b36 rec2 rec15 a0 x1 x2 x3 x4 xs0 w = some (r0, w0)) : V x 36 [some (.ref a0), some (.int x1), some (.int x2), some (.int x3), some (.int x4), none, none] [.int xs0] (Rp (xD x) w) 0 0 := by
  unfold fX6_distanceOf_b36 at h
  refine v_istore (pc' := 38) (L' := [some (.ref a0), some (.int x1), some (.int x2), some (.int x3), some (.int x4), some (.int xs0), none]) hx dX6_distanceOf_36 rfl rfl (Nat.le_of_ble_eq_true rfl) ?_
  refine v_iload_n (pc' := 39) hx dX6_distanceOf_38 rfl rfl ?_
  refine v_if_le (tgt := 141) (pc' := 42) hx dX6_distanceOf_39 (by decide) rfl (fun hc_1 => ?_) (fun hc_1 => ?_)
  · rw [if_pos hc_1] at h
    exact vX6_distanceOf_b141 hx hq hrec2 hrec15 hl0 h
  · rw [if_neg hc_1] at h
    refine v_iload (pc' := 44) hx dX6_distanceOf_42 rfl rfl ?_
    refine v_if_le (tgt := 141) (pc' := 47) hx dX6_distanceOf_44 (by decide) rfl (fun hc_2 => ?_) (fun hc_2 => ?_)
    · rw [if_pos hc_2] at h
      exact vX6_distanceOf_b141 hx hq hrec2 hrec15 hl0 h
    · rw [if_neg hc_2] at h
      refine v_aload_n (pc' := 48) hx dX6_distanceOf_47 rfl rfl ?_
      obtain ⟨g_3, hq_4⟩ : ∃ q, zA w 6 a0 13 = q := ⟨_, rfl⟩
      refine v_getAq (pc' := 51) hx hl0 fi_6_13.1 (by decide) hq_4 fk_X6_46 dX6_distanceOf_48 rfl ?_
      refine v_bipush (pc' := 53) (v := 12) hx dX6_distanceOf_51 (by decide) rfl ?_
      refine v_iload_n (pc' := 54) hx dX6_distanceOf_53 rfl rfl ?_
      refine v_imul (pc' := 55) hx dX6_distanceOf_54 rfl ?_
      refine v_iload_n (pc' := 56) hx dX6_distanceOf_55 rfl rfl ?_
      refine v_iadd (pc' := 57) hx dX6_distanceOf_56 rfl ?_
      refine v_iconst (pc' := 58) (v := 1) hx dX6_distanceOf_57 (by decide) rfl ?_
      refine v_isub (pc' := 59) hx dX6_distanceOf_58 rfl ?_
      replace h := ckp_inv h; obtain ⟨hk_5, h⟩ := h
      refine v_baldq (pc' := 60) hx hl0 fi_6_13.1 fi_6_13.2.1 rfl hk_5 hq_4 dX6_distanceOf_59 rfl ?_
      refine v_aload_n (pc' := 61) hx dX6_distanceOf_60 rfl rfl ?_
      obtain ⟨g_6, hq_7⟩ : ∃ q, zA w 6 a0 13 = q := ⟨_, rfl⟩
      refine v_getAq (pc' := 64) hx hl0 fi_6_13.1 (by decide) hq_7 fk_X6_46 dX6_distanceOf_61 rfl ?_
      refine v_bipush (pc' := 66) (v := 12) hx dX6_distanceOf_64 (by decide) rfl ?_
      refine v_iload_n (pc' := 67) hx dX6_distanceOf_66 rfl rfl ?_
      refine v_imul (pc' := 68) hx dX6_distanceOf_67 rfl ?_
      refine v_iload (pc' := 70) hx dX6_distanceOf_68 rfl rfl ?_
      refine v_iadd (pc' := 71) hx dX6_distanceOf_70 rfl ?_
      refine v_iconst (pc' := 72) (v := 1) hx dX6_distanceOf_71 (by decide) rfl ?_
      refine v_isub (pc' := 73) hx dX6_distanceOf_72 rfl ?_
      replace h := ckp_inv h; obtain ⟨hk_8, h⟩ := h
      refine v_baldq (pc' := 74) hx hl0 fi_6_13.1 fi_6_13.2.1 rfl hk_8 hq_7 dX6_distanceOf_73 rfl ?_
      refine v_icmp_ne (tgt := 81) (pc' := 77) hx dX6_distanceOf_74 (by decide) rfl (fun hc_9 => ?_) (fun hc_9 => ?_)
      · rw [if_neg hc_9] at h
        refine v_iconst (pc' := 82) (v := 1) hx dX6_distanceOf_81 (by decide) rfl ?_
        refine V.sb (L' := [some (.ref a0), some (.int x1), some (.int x2), some (.int x3), some (.int x4), none, none]) ⟨Or.inr rfl, Or.inr rfl, Or.inr rfl, Or.inr rfl, Or.inr rfl, Or.inl rfl, Or.inl rfl, trivial⟩ ?_
        exact vX6_distanceOf_b82 hx hq hrec2 hrec15 hl0 h
      · rw [if_pos hc_9] at h
        refine v_iconst (pc' := 78) (v := 0) hx dX6_distanceOf_77 (by decide) rfl ?_
        refine v_goto (tgt := 82) hx dX6_distanceOf_78 (by decide) ?_
        refine V.sb (L' := [some (.ref a0), some (.int x1), some (.int x2), some (.int x3), some (.int x4), none, none]) ⟨Or.inr rfl, Or.inr rfl, Or.inr rfl, Or.inr rfl, Or.inr rfl, Or.inl rfl, Or.inl rfl, trivial⟩ ?_
        exact vX6_distanceOf_b82 hx hq hrec2 hrec15 hl0 h
theorem vX6_distanceOf_b15 {x : CT} (hx : CX x cX6_distanceOf RX6 rmX6_distanceOf (some .int)) {r0 : Int32} {w0 : Wd} (hq : RI x rmX6_distanceOf r0 w0) {rec2 : Nat → Int32 → Int32 → Int32 → Wd → Option (Int32 × Wd)} {rec15 : Nat → Int32 → Int32 → Int32 → Int32 → Wd → Option (Int32 × Wd)} {a0 : Nat} {x1 : Int32} {x2 : Int32} {x3 : Int32} {x4 : Int32} {w : Wd} (hrec2 : ∀ (a0 : Nat) (x1 : Int32) (x2 : Int32) (x3 : Int32) (w : Wd), rec2 a0 x1 x2 x3 w = some (r0, w0) → (zL w 6 a0 = true) → V x 2 [some (.ref a0), some (.int x1), some (.int x2), some (.int x3), none, none, none] [] (Rp (xD x) w) 0 0) (hrec15 : ∀ (a0 : Nat) (x1 : Int32) (x2 : Int32) (x3 : Int32) (x4 : Int32) (w : Wd), rec15 a0 x1 x2 x3 x4 w = some (r0, w0) → (zL w 6 a0 = true) → V x 15 [some (.ref a0), some (.int x1), some (.int x2), some (.int x3), some (.int x4), none, none] [] (Rp (xD x) w) 0 0) (hl0 : zL w 6 a0 = true) (h : fX6_distanceOf_b15 rec2 rec15 a0 x1 x2 x3 x4 w = some (r0, w0)) : V x 15 [some (.ref a0), some (.int x1), some (.int x2), some (.int x3), some (.int x4), none, none] [] (Rp (xD x) w) 0 0 := by
  unfold fX6_distanceOf_b15 at h
  refine v_iload (pc' := 17) hx dX6_distanceOf_15 rfl rfl ?_
  refine v_aload_n (pc' := 18) hx dX6_distanceOf_17 rfl rfl ?_
  obtain ⟨g_1, hq_2⟩ : ∃ q, zA w 6 a0 12 = q := ⟨_, rfl⟩
  refine v_getAq (pc' := 21) hx hl0 fi_6_12.1 (by decide) hq_2 fk_X6_43 dX6_distanceOf_18 rfl ?_
  refine v_iload_n (pc' := 22) hx dX6_distanceOf_21 rfl rfl ?_
  replace h := ckp_inv h; obtain ⟨hk_3, h⟩ := h
  refine v_ialdq (pc' := 23) hx hl0 fi_6_12.1 fi_6_12.2.1 rfl hk_3 hq_2 dX6_distanceOf_22 rfl ?_
  refine v_icmp_gt (tgt := 161) (pc' := 26) hx dX6_distanceOf_23 (by decide) rfl (fun hc_4 => ?_) (fun hc_4 => ?_)
  · rw [if_pos hc_4] at h
    refine v_iinc (pc' := 164) (w0 := (x3 + 1)) (L' := [some (.ref a0), some (.int x1), some (.int x2), some (.int (x3 + 1)), some (.int x4), none, none]) hx dX6_distanceOf_161 rfl rfl rfl rfl ?_
    refine v_goto (tgt := 2) hx dX6_distanceOf_164 (by decide) ?_
    refine V.sb (L' := [some (.ref a0), some (.int x1), some (.int x2), some (.int (x3 + 1)), none, none, none]) ⟨Or.inr rfl, Or.inr rfl, Or.inr rfl, Or.inr rfl, Or.inl rfl, Or.inl rfl, Or.inl rfl, trivial⟩ ?_
    exact hrec2 a0 x1 x2 (x3 + 1) w h hl0
  · rw [if_neg hc_4] at h
    refine v_iload_n (pc' := 27) hx dX6_distanceOf_26 rfl rfl ?_
    refine v_if_ne (tgt := 35) (pc' := 30) hx dX6_distanceOf_27 (by decide) rfl (fun hc_5 => ?_) (fun hc_5 => ?_)
    · rw [if_neg hc_5] at h
      refine v_iload_n (pc' := 36) hx dX6_distanceOf_35 rfl rfl ?_
      exact vX6_distanceOf_b36 hx hq hrec2 hrec15 hl0 h
    · rw [if_pos hc_5] at h
      refine v_iload (pc' := 32) hx dX6_distanceOf_30 rfl rfl ?_
      refine v_goto (tgt := 36) hx dX6_distanceOf_32 (by decide) ?_
      exact vX6_distanceOf_b36 hx hq hrec2 hrec15 hl0 h
theorem vX6_distanceOf_l15 {x : CT} (hx : CX x cX6_distanceOf RX6 rmX6_distanceOf (some .int)) {r0 : Int32} {w0 : Wd} (hq : RI x rmX6_distanceOf r0 w0) {rec2 : Nat → Int32 → Int32 → Int32 → Wd → Option (Int32 × Wd)} (hrec2 : ∀ (a0 : Nat) (x1 : Int32) (x2 : Int32) (x3 : Int32) (w : Wd), rec2 a0 x1 x2 x3 w = some (r0, w0) → (zL w 6 a0 = true) → V x 2 [some (.ref a0), some (.int x1), some (.int x2), some (.int x3), none, none, none] [] (Rp (xD x) w) 0 0) : ∀ (n : Nat) (a0 : Nat) (x1 : Int32) (x2 : Int32) (x3 : Int32) (x4 : Int32) (w : Wd), (zL w 6 a0 = true) → fX6_distanceOf_l15 rec2 n a0 x1 x2 x3 x4 w = some (r0, w0) → V x 15 [some (.ref a0), some (.int x1), some (.int x2), some (.int x3), some (.int x4), none, none] [] (Rp (xD x) w) 0 0 := by
  intro n
  induction n with
  | zero => intro a0 x1 x2 x3 x4 w hl0 h; cases h
  | succ n ih =>
    intro a0 x1 x2 x3 x4 w hl0 h
    exact vX6_distanceOf_b15 hx hq hrec2 (fun a0 x1 x2 x3 x4 w h hl0 => ih a0 x1 x2 x3 x4 w hl0 h) hl0 h
theorem vX6_distanceOf_b2 {x : CT} (hx : CX x cX6_distanceOf RX6 rmX6_distanceOf (some .int)) {r0 : Int32} {w0 : Wd} (hq : RI x rmX6_distanceOf r0 w0) {rec2 : Nat → Int32 → Int32 → Int32 → Wd → Option (Int32 × Wd)} {a0 : Nat} {x1 : Int32} {x2 : Int32} {x3 : Int32} {w : Wd} (hrec2 : ∀ (a0 : Nat) (x1 : Int32) (x2 : Int32) (x3 : Int32) (w : Wd), rec2 a0 x1 x2 x3 w = some (r0, w0) → (zL w 6 a0 = true) → V x 2 [some (.ref a0), some (.int x1), some (.int x2), some (.int x3), none, none, none] [] (Rp (xD x) w) 0 0) (hl0 : zL w 6 a0 = true) (h : fX6_distanceOf_b2 rec2 a0 x1 x2 x3 w = some (r0, w0)) : V x 2 [some (.ref a0), some (.int x1), some (.int x2), some (.int x3), none, none, none] [] (Rp (xD x) w) 0 0 := by
  unfold fX6_distanceOf_b2 at h
  refine v_iload_n (pc' := 3) hx dX6_distanceOf_2 rfl rfl ?_
  refine v_aload_n (pc' := 4) hx dX6_distanceOf_3 rfl rfl ?_
  obtain ⟨g_1, hq_2⟩ : ∃ q, zA w 6 a0 12 = q := ⟨_, rfl⟩
  refine v_getAq (pc' := 7) hx hl0 fi_6_12.1 (by decide) hq_2 fk_X6_43 dX6_distanceOf_4 rfl ?_
  refine v_iload_n (pc' := 8) hx dX6_distanceOf_7 rfl rfl ?_
  replace h := ckp_inv h; obtain ⟨hk_3, h⟩ := h
  refine v_ialdq (pc' := 9) hx hl0 fi_6_12.1 fi_6_12.2.1 rfl hk_3 hq_2 dX6_distanceOf_8 rfl ?_
  refine v_icmp_gt (tgt := 167) (pc' := 12) hx dX6_distanceOf_9 (by decide) rfl (fun hc_4 => ?_) (fun hc_4 => ?_)
  · rw [if_pos hc_4] at h
    refine v_aload_n (pc' := 168) hx dX6_distanceOf_167 rfl rfl ?_
    obtain ⟨g_5, hq_6⟩ : ∃ q, zA w 6 a0 29 = q := ⟨_, rfl⟩
    refine v_getAq (pc' := 171) hx hl0 fi_6_29.1 (by decide) hq_6 fk_X6_61 dX6_distanceOf_168 rfl ?_
    refine v_bipush (pc' := 173) (v := 13) hx dX6_distanceOf_171 (by decide) rfl ?_
    refine v_aload_n (pc' := 174) hx dX6_distanceOf_173 rfl rfl ?_
    obtain ⟨g_7, hq_8⟩ : ∃ q, zA w 6 a0 12 = q := ⟨_, rfl⟩
    refine v_getAq (pc' := 177) hx hl0 fi_6_12.1 (by decide) hq_8 fk_X6_43 dX6_distanceOf_174 rfl ?_
    refine v_iload_n (pc' := 178) hx dX6_distanceOf_177 rfl rfl ?_
    replace h := ckp_inv h; obtain ⟨hk_9, h⟩ := h
    refine v_ialdq (pc' := 179) hx hl0 fi_6_12.1 fi_6_12.2.1 rfl hk_9 hq_8 dX6_distanceOf_178 rfl ?_
    refine v_imul (pc' := 180) hx dX6_distanceOf_179 rfl ?_
    refine v_aload_n (pc' := 181) hx dX6_distanceOf_180 rfl rfl ?_
    obtain ⟨g_10, hq_11⟩ : ∃ q, zA w 6 a0 12 = q := ⟨_, rfl⟩
    refine v_getAq (pc' := 184) hx hl0 fi_6_12.1 (by decide) hq_11 fk_X6_43 dX6_distanceOf_181 rfl ?_
    refine v_iload_n (pc' := 185) hx dX6_distanceOf_184 rfl rfl ?_
    replace h := ckp_inv h; obtain ⟨hk_12, h⟩ := h
    refine v_ialdq (pc' := 186) hx hl0 fi_6_12.1 fi_6_12.2.1 rfl hk_12 hq_11 dX6_distanceOf_185 rfl ?_
    refine v_iadd (pc' := 187) hx dX6_distanceOf_186 rfl ?_
    replace h := ckp_inv h; obtain ⟨hk_13, h⟩ := h
    refine v_ialdq (pc' := 188) hx hl0 fi_6_29.1 fi_6_29.2.1 rfl hk_13 hq_6 dX6_distanceOf_187 rfl ?_
    exact v_iret hx hq (by decide) (by decide) dX6_distanceOf_188 (by cases h; rfl)
  · rw [if_neg hc_4] at h
    refine v_iconst (pc' := 13) (v := 0) hx dX6_distanceOf_12 (by decide) rfl ?_
    refine v_istore (pc' := 15) (L' := [some (.ref a0), some (.int x1), some (.int x2), some (.int x3), some (.int 0), none, none]) hx dX6_distanceOf_13 rfl rfl (Nat.le_of_ble_eq_true rfl) ?_
    exact vX6_distanceOf_l15 hx hq hrec2 1000 a0 x1 x2 x3 0 w hl0 h
theorem vX6_distanceOf_l2 {x : CT} (hx : CX x cX6_distanceOf RX6 rmX6_distanceOf (some .int)) {r0 : Int32} {w0 : Wd} (hq : RI x rmX6_distanceOf r0 w0) : ∀ (n : Nat) (a0 : Nat) (x1 : Int32) (x2 : Int32) (x3 : Int32) (w : Wd), (zL w 6 a0 = true) → fX6_distanceOf_l2  n a0 x1 x2 x3 w = some (r0, w0) → V x 2 [some (.ref a0), some (.int x1), some (.int x2), some (.int x3), none, none, none] [] (Rp (xD x) w) 0 0 := by
  intro n
  induction n with
  | zero => intro a0 x1 x2 x3 w hl0 h; cases h
  | succ n ih =>
    intro a0 x1 x2 x3 w hl0 h
    exact vX6_distanceOf_b2 hx hq  (fun a0 x1 x2 x3 w h hl0 => ih a0 x1 x2 x3 w hl0 h) hl0 h
theorem vX6_distanceOf {x : CT} (hx : CX x cX6_distanceOf RX6 rmX6_distanceOf (some .int)) {r0 : Int32} {w0 : Wd} {w : Wd} (hq : RI x rmX6_distanceOf r0 w0) (a0 : Nat) (x1 : Int32) (x2 : Int32) (hl0 : zL w 6 a0 = true) (h : fX6_distanceOf a0 x1 x2 w = some (r0, w0)) : V x 0 [some (.ref a0), some (.int x1), some (.int x2), none, none, none, none] [] (Rp (xD x) w) 0 0 := by
  unfold fX6_distanceOf at h
  refine v_iconst (pc' := 1) (v := 0) hx dX6_distanceOf_0 (by decide) rfl ?_
  refine v_istore_n (pc' := 2) (L' := [some (.ref a0), some (.int x1), some (.int x2), some (.int 0), none, none, none]) hx dX6_distanceOf_1 rfl rfl (Nat.le_of_ble_eq_true rfl) ?_
  exact vX6_distanceOf_l2 hx hq 1000 a0 x1 x2 0 w hl0 h
theorem ctX6_distanceOf (l : Launch) (D : DD) (w : Wd) (G : GT) (sz : Nat) (hR : Rp D w G sz) (a0 : Nat) (x1 : Int32) (x2 : Int32) (hl0 : zL w 6 a0 = true) {r0 : Int32} {w0 : Wd} (h : fX6_distanceOf a0 x1 x2 w = some (r0, w0)) : MetI l yX6_distanceOf (WS yX6_distanceOf cX6_distanceOf 7 (some .int)) rmX6_distanceOf D [.ref a0, .int x1, .int x2] G sz r0 w0 := by
  refine MetI_ofV (own := RX6) (P := Rp D w) hR (by decide) rfl (by simp [Value.category]) (Nat.le_of_ble_eq_true rfl) (fun x hx hq hD hl => ?_)
  subst hD
  exact vX6_distanceOf hx hq a0 x1 x2 hl0 h
theorem kX6_distance_b38 {r0 : Int32} {w0 : Wd} {xs0 : Int32} {w wb : Wd} (hm : mo wb w) (h : fX6_distance_b38 xs0 w = some (r0, w0)) : mo wb w0 := by
  unfold fX6_distance_b38 at h
  cases h; exact hm
theorem kX6_distance_b37 {r0 : Int32} {w0 : Wd} {w wb : Wd} (hm : mo wb w) (h : fX6_distance_b37 w = some (r0, w0)) : mo wb w0 := by
  unfold fX6_distance_b37 at h
  exact kX6_distance_b38 hm h
theorem kX6_distance {r0 : Int32} {w0 : Wd} {a0 : Nat} {x1 : Int32} {x2 : Int32} {x3 : Int32} {w : Wd} (h : fX6_distance a0 x1 x2 x3 w = some (r0, w0)) : mo w w0 := by
  have hm := mo_rf w
  unfold fX6_distance at h
  replace h := bd_inv h; obtain ⟨y_2, hcl_1, h⟩ := h
  by_cases hc_4 : y_2 = 0
  · rw [if_pos hc_4] at h
    exact kX6_distance_b37 hm h
  · rw [if_neg hc_4] at h
    replace h := bd_inv h; obtain ⟨y_6, hcl_5, h⟩ := h
    by_cases hc_8 : y_6 = 0
    · rw [if_pos hc_8] at h
      exact kX6_distance_b37 hm h
    · rw [if_neg hc_8] at h
      replace h := bd2_inv h; obtain ⟨y_10, w_11, hcl_9, h⟩ := h
      have hm := hm.tr (kX6_distanceOf hcl_9)
      exact kX6_distance_b38 hm h
theorem vX6_distance_b38 {x : CT} (hx : CX x cX6_distance RX6 rmX6_distance (some .int)) {r0 : Int32} {w0 : Wd} (hq : RI x rmX6_distance r0 w0) {xs0 : Int32} {w : Wd} (h : fX6_distance_b38 xs0 w = some (r0, w0)) : V x 38 [none, none, none, none] [.int xs0] (Rp (xD x) w) 0 0 := by
  unfold fX6_distance_b38 at h
  exact v_iret hx hq (by decide) (by decide) dX6_distance_38 (by cases h; rfl)
theorem vX6_distance_b37 {x : CT} (hx : CX x cX6_distance RX6 rmX6_distance (some .int)) {r0 : Int32} {w0 : Wd} (hq : RI x rmX6_distance r0 w0) {w : Wd} (h : fX6_distance_b37 w = some (r0, w0)) : V x 37 [none, none, none, none] [] (Rp (xD x) w) 0 0 := by
  unfold fX6_distance_b37 at h
  refine v_iconst (pc' := 38) (v := (-1)) hx dX6_distance_37 (by decide) rfl ?_
  exact vX6_distance_b38 hx hq h
theorem vX6_distance {x : CT} (hx : CX x cX6_distance RX6 rmX6_distance (some .int)) {r0 : Int32} {w0 : Wd} {w : Wd} (hq : RI x rmX6_distance r0 w0) (a0 : Nat) (x1 : Int32) (x2 : Int32) (x3 : Int32) (hl0 : zL w 6 a0 = true) (h : fX6_distance a0 x1 x2 x3 w = some (r0, w0)) : V x 0 [some (.ref a0), some (.int x1), some (.int x2), some (.int x3)] [] (Rp (xD x) w) 0 0 := by
  unfold fX6_distance at h
  refine v_aload_n (pc' := 1) hx dX6_distance_0 rfl rfl ?_
  refine v_iload_n (pc' := 2) hx dX6_distance_1 rfl rfl ?_
  refine v_iload_n (pc' := 3) hx dX6_distance_2 rfl rfl ?_
  replace h := bd_inv h; obtain ⟨y_2, hcl_1, h⟩ := h
  refine v_callVi (pc' := 6) (w' := w) (r := y_2) (ci := 6) (b := a0) (As := [.int x1, .int x2]) (rest := []) hx hl0 (fun G sz hR => ctX6_isThere (xl x) (xD x) w G sz hR a0 x1 x2 hl0 hcl_1) rfl my_X6_isThere ml_X6_149 ⟨by decide, by decide⟩ ⟨by decide, by decide⟩ rfl rfl (Nat.le_of_ble_eq_true rfl) dX6_distance_3 rfl ?_
  refine v_if_eq (tgt := 37) (pc' := 9) hx dX6_distance_6 (by decide) rfl (fun hc_4 => ?_) (fun hc_4 => ?_)
  · rw [if_pos hc_4] at h
    refine V.sb (L' := [none, none, none, none]) ⟨Or.inl rfl, Or.inl rfl, Or.inl rfl, Or.inl rfl, trivial⟩ ?_
    exact vX6_distance_b37 hx hq h
  · rw [if_neg hc_4] at h
    refine v_aload_n (pc' := 10) hx dX6_distance_9 rfl rfl ?_
    refine v_iload_n (pc' := 11) hx dX6_distance_10 rfl rfl ?_
    refine v_iload_n (pc' := 12) hx dX6_distance_11 rfl rfl ?_
    replace h := bd_inv h; obtain ⟨y_6, hcl_5, h⟩ := h
    refine v_callVi (pc' := 15) (w' := w) (r := y_6) (ci := 6) (b := a0) (As := [.int x1, .int x3]) (rest := []) hx hl0 (fun G sz hR => ctX6_isThere (xl x) (xD x) w G sz hR a0 x1 x3 hl0 hcl_5) rfl my_X6_isThere ml_X6_149 ⟨by decide, by decide⟩ ⟨by decide, by decide⟩ rfl rfl (Nat.le_of_ble_eq_true rfl) dX6_distance_12 rfl ?_
    refine v_if_eq (tgt := 37) (pc' := 18) hx dX6_distance_15 (by decide) rfl (fun hc_8 => ?_) (fun hc_8 => ?_)
    · rw [if_pos hc_8] at h
      refine V.sb (L' := [none, none, none, none]) ⟨Or.inl rfl, Or.inl rfl, Or.inl rfl, Or.inl rfl, trivial⟩ ?_
      exact vX6_distance_b37 hx hq h
    · rw [if_neg hc_8] at h
      refine v_aload_n (pc' := 19) hx dX6_distance_18 rfl rfl ?_
      refine v_bipush (pc' := 21) (v := 24) hx dX6_distance_19 (by decide) rfl ?_
      refine v_iload_n (pc' := 22) hx dX6_distance_21 rfl rfl ?_
      refine v_imul (pc' := 23) hx dX6_distance_22 rfl ?_
      refine v_iload_n (pc' := 24) hx dX6_distance_23 rfl rfl ?_
      refine v_iadd (pc' := 25) hx dX6_distance_24 rfl ?_
      refine v_bipush (pc' := 27) (v := 24) hx dX6_distance_25 (by decide) rfl ?_
      refine v_iload_n (pc' := 28) hx dX6_distance_27 rfl rfl ?_
      refine v_imul (pc' := 29) hx dX6_distance_28 rfl ?_
      refine v_iload_n (pc' := 30) hx dX6_distance_29 rfl rfl ?_
      refine v_iadd (pc' := 31) hx dX6_distance_30 rfl ?_
      replace h := bd2_inv h; obtain ⟨y_10, w_11, hcl_9, h⟩ := h
      refine v_wf (fun hwf_12 => ?_)
      refine v_callVi (pc' := 34) (w' := w_11) (r := y_10) (ci := 6) (b := a0) (As := [.int ((24 * x1) + x2), .int ((24 * x1) + x3)]) (rest := []) hx hl0 (fun G sz hR => ctX6_distanceOf (xl x) (xD x) w G sz hR a0 ((24 * x1) + x2) ((24 * x1) + x3) hl0 hcl_9) rfl my_X6_distanceOf ml_X6_196 ⟨by decide, by decide⟩ ⟨by decide, by decide⟩ rfl rfl (Nat.le_of_ble_eq_true rfl) dX6_distance_31 rfl ?_
      have hm_14 := kX6_distanceOf hcl_9 hwf_12
      have hl_15 : zL w_11 6 a0 = true := (hm_14.2 _ _ hl0).1
      refine v_goto (tgt := 38) hx dX6_distance_34 (by decide) ?_
      refine V.sb (L' := [none, none, none, none]) ⟨Or.inl rfl, Or.inl rfl, Or.inl rfl, Or.inl rfl, trivial⟩ ?_
      exact vX6_distance_b38 hx hq h
theorem ctX6_distance (l : Launch) (D : DD) (w : Wd) (G : GT) (sz : Nat) (hR : Rp D w G sz) (a0 : Nat) (x1 : Int32) (x2 : Int32) (x3 : Int32) (hl0 : zL w 6 a0 = true) {r0 : Int32} {w0 : Wd} (h : fX6_distance a0 x1 x2 x3 w = some (r0, w0)) : MetI l yX6_distance (WS yX6_distance cX6_distance 4 (some .int)) rmX6_distance D [.ref a0, .int x1, .int x2, .int x3] G sz r0 w0 := by
  refine MetI_ofV (own := RX6) (P := Rp D w) hR (by decide) rfl (by simp [Value.category]) (Nat.le_of_ble_eq_true rfl) (fun x hx hq hD hl => ?_)
  subst hD
  exact vX6_distance hx hq a0 x1 x2 x3 hl0 h
theorem vX5_isHeapWidth_b15 {x : CT} (hx : CX x cX5_isHeapWidth RX5 rmX5_isHeapWidth (some .boolean)) {r0 : Int32} {w : Wd} (hq : RI x rmX5_isHeapWidth r0 w) {xs0 : Int32} (h : fX5_isHeapWidth_b15 w xs0 = some r0) : V x 15 [none] [.int xs0] (Rp (xD x) w) 0 0 := by
  unfold fX5_isHeapWidth_b15 at h
  replace h := ckp_inv h; obtain ⟨hk_1, h⟩ := h
  exact v_zret hx hq (by decide) (by decide) dX5_isHeapWidth_15 hk_1 (by cases h; rfl)
theorem vX5_isHeapWidth_b14 {x : CT} (hx : CX x cX5_isHeapWidth RX5 rmX5_isHeapWidth (some .boolean)) {r0 : Int32} {w : Wd} (hq : RI x rmX5_isHeapWidth r0 w) (h : fX5_isHeapWidth_b14 w = some r0) : V x 14 [none] [] (Rp (xD x) w) 0 0 := by
  unfold fX5_isHeapWidth_b14 at h
  refine v_iconst (pc' := 15) (v := 0) hx dX5_isHeapWidth_14 (by decide) rfl ?_
  exact vX5_isHeapWidth_b15 hx hq h
theorem vX5_isHeapWidth {x : CT} (hx : CX x cX5_isHeapWidth RX5 rmX5_isHeapWidth (some .boolean)) {r0 : Int32} {w : Wd} (hq : RI x rmX5_isHeapWidth r0 w) (x0 : Int32) (h : fX5_isHeapWidth x0 w = some r0) : V x 0 [some (.int x0)] [] (Rp (xD x) w) 0 0 := by
  unfold fX5_isHeapWidth at h
  refine v_iload_n (pc' := 1) hx dX5_isHeapWidth_0 rfl rfl ?_
  refine v_if_lt (tgt := 14) (pc' := 4) hx dX5_isHeapWidth_1 (by decide) rfl (fun hc_1 => ?_) (fun hc_1 => ?_)
  · rw [if_pos hc_1] at h
    refine V.sb (L' := [none]) ⟨Or.inl rfl, trivial⟩ ?_
    exact vX5_isHeapWidth_b14 hx hq h
  · rw [if_neg hc_1] at h
    refine v_iload_n (pc' := 5) hx dX5_isHeapWidth_4 rfl rfl ?_
    refine v_bipush (pc' := 7) (v := 24) hx dX5_isHeapWidth_5 (by decide) rfl ?_
    refine v_icmp_gt (tgt := 14) (pc' := 10) hx dX5_isHeapWidth_7 (by decide) rfl (fun hc_2 => ?_) (fun hc_2 => ?_)
    · rw [if_pos hc_2] at h
      refine V.sb (L' := [none]) ⟨Or.inl rfl, trivial⟩ ?_
      exact vX5_isHeapWidth_b14 hx hq h
    · rw [if_neg hc_2] at h
      refine v_iconst (pc' := 11) (v := 1) hx dX5_isHeapWidth_10 (by decide) rfl ?_
      refine v_goto (tgt := 15) hx dX5_isHeapWidth_11 (by decide) ?_
      refine V.sb (L' := [none]) ⟨Or.inl rfl, trivial⟩ ?_
      exact vX5_isHeapWidth_b15 hx hq h
theorem ctX5_isHeapWidth (l : Launch) (D : DD) (w : Wd) (G : GT) (sz : Nat) (hR : Rp D w G sz) (x0 : Int32) {r0 : Int32} (h : fX5_isHeapWidth x0 w = some r0) : MetI l yX5_isHeapWidth (WS yX5_isHeapWidth cX5_isHeapWidth 1 (some .boolean)) rmX5_isHeapWidth D [.int x0] G sz r0 w := by
  refine MetI_ofV (own := RX5) (P := Rp D w) hR (by decide) rfl (by simp [Value.category]) (Nat.le_of_ble_eq_true rfl) (fun x hx hq hD hl => ?_)
  subst hD
  exact vX5_isHeapWidth hx hq x0  h
