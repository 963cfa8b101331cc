theorem vX5_lowestOf_b2 {x : CT} (hx : CX x cX5_lowestOf RX5 rmX5_lowestOf (some .int)) {r0 : Int32} {w : Wd} (hq : RI x rmX5_lowestOf r0 w) {rec2 : Int32 → Int32 → Option (Int32)} {x0 : Int32} {x1 : Int32} (hrec2 : ∀ (x0 : Int32) (x1 : Int32), rec2 x0 x1 = some r0 → V x 2 [some (.int x0), some (.int x1)] [] (Rp (xD x) w) 0 0) (h : fX5_lowestOf_b2 w rec2 x0 x1 = some r0) : V x 2 [some (.int x0), some (.int x1)] [] (Rp (xD x) w) 0 0 := by
  unfold fX5_lowestOf_b2 at h
  refine v_iload_n (pc' := 3) hx dX5_lowestOf_2 rfl rfl ?_
  refine v_bipush (pc' := 5) (v := 24) hx dX5_lowestOf_3 (by decide) rfl ?_
  refine v_icmp_ge (tgt := 24) (pc' := 8) hx dX5_lowestOf_5 (by decide) rfl (fun hc_1 => ?_) (fun hc_1 => ?_)
  · rw [if_pos hc_1] at h
    refine v_iconst (pc' := 25) (v := (-1)) hx dX5_lowestOf_24 (by decide) rfl ?_
    exact v_iret hx hq (by decide) (by decide) dX5_lowestOf_25 (by cases h; rfl)
  · rw [if_neg hc_1] at h
    refine v_iload_n (pc' := 9) hx dX5_lowestOf_8 rfl rfl ?_
    refine v_iload_n (pc' := 10) hx dX5_lowestOf_9 rfl rfl ?_
    replace h := bd_inv h; obtain ⟨y_3, hcl_2, h⟩ := h
    refine v_callSi (pc' := 13) (w' := w) (r := y_3) (As := [.int x0, .int x1]) (rest := []) hx (fun G sz hR => ctX5_hasBit (xl x) (xD x) w G sz hR x0 x1  hcl_2) my_X5_hasBit ml_X5_187 ⟨by decide, by decide⟩ ⟨by decide, by decide⟩ rfl rfl (Nat.le_of_ble_eq_true rfl) dX5_lowestOf_10 rfl ?_
    refine v_if_eq (tgt := 18) (pc' := 16) hx dX5_lowestOf_13 (by decide) rfl (fun hc_5 => ?_) (fun hc_5 => ?_)
    · rw [if_pos hc_5] at h
      refine v_iinc (pc' := 21) (w0 := (x1 + 1)) (L' := [some (.int x0), some (.int (x1 + 1))]) hx dX5_lowestOf_18 rfl rfl rfl rfl ?_
      refine v_goto (tgt := 2) hx dX5_lowestOf_21 (by decide) ?_
      exact hrec2 x0 (x1 + 1) h
    · rw [if_neg hc_5] at h
      refine v_iload_n (pc' := 17) hx dX5_lowestOf_16 rfl rfl ?_
      exact v_iret hx hq (by decide) (by decide) dX5_lowestOf_17 (by cases h; rfl)
theorem vX5_lowestOf_l2 {x : CT} (hx : CX x cX5_lowestOf RX5 rmX5_lowestOf (some .int)) {r0 : Int32} {w : Wd} (hq : RI x rmX5_lowestOf r0 w) : ∀ (n : Nat) (x0 : Int32) (x1 : Int32), fX5_lowestOf_l2 w n x0 x1 = some r0 → V x 2 [some (.int x0), some (.int x1)] [] (Rp (xD x) w) 0 0 := by
  intro n
  induction n with
  | zero => intro x0 x1  h; cases h
  | succ n ih =>
    intro x0 x1  h
    exact vX5_lowestOf_b2 hx hq  (fun x0 x1 h  => ih x0 x1  h)  h
theorem vX5_lowestOf {x : CT} (hx : CX x cX5_lowestOf RX5 rmX5_lowestOf (some .int)) {r0 : Int32} {w : Wd} (hq : RI x rmX5_lowestOf r0 w) (x0 : Int32) (h : fX5_lowestOf x0 w = some r0) : V x 0 [some (.int x0), none] [] (Rp (xD x) w) 0 0 := by
  unfold fX5_lowestOf at h
  refine v_iconst (pc' := 1) (v := 0) hx dX5_lowestOf_0 (by decide) rfl ?_
  refine v_istore_n (pc' := 2) (L' := [some (.int x0), some (.int 0)]) hx dX5_lowestOf_1 rfl rfl (Nat.le_of_ble_eq_true rfl) ?_
  exact vX5_lowestOf_l2 hx hq 1000 x0 0 h
theorem ctX5_lowestOf (l : Launch) (D : DD) (w : Wd) (G : GT) (sz : Nat) (hR : Rp D w G sz) (x0 : Int32) {r0 : Int32} (h : fX5_lowestOf x0 w = some r0) : MetI l yX5_lowestOf (WS yX5_lowestOf cX5_lowestOf 2 (some .int)) rmX5_lowestOf D [.int x0] G sz r0 w := by
  refine MetI_ofV (own := RX5) (P := Rp D w) hR (by decide) rfl (by simp [Value.category]) (Nat.le_of_ble_eq_true rfl) (fun x hx hq hD hl => ?_)
  subst hD
  exact vX5_lowestOf hx hq x0  h
theorem vX1_neighboursOf_b40 {x : CT} (hx : CX x cX1_neighboursOf RX1 rmX1_neighboursOf (some .int)) {r0 : Int32} {w : Wd} (hq : RI x rmX1_neighboursOf r0 w) {rec5 : Nat → Int32 → Int32 → Int32 → Int32 → Option (Int32)} {a0 : Nat} {x1 : Int32} {x2 : Int32} {x3 : Int32} {x4 : Int32} (hrec5 : ∀ (a0 : Nat) (x1 : Int32) (x2 : Int32) (x3 : Int32) (x4 : Int32), rec5 a0 x1 x2 x3 x4 = some r0 → (zL w 1 a0 = true) → V x 5 [some (.ref a0), some (.int x1), some (.int x2), some (.int x3), some (.int x4)] [] (Rp (xD x) w) 0 0) (hl0 : zL w 1 a0 = true) (h : fX1_neighboursOf_b40 w rec5 a0 x1 x2 x3 x4 = some r0) : V x 40 [some (.ref a0), some (.int x1), some (.int x2), some (.int x3), some (.int x4)] [] (Rp (xD x) w) 0 0 := by
  unfold fX1_neighboursOf_b40 at h
  refine v_iinc (pc' := 43) (w0 := (x4 + 1)) (L' := [some (.ref a0), some (.int x1), some (.int x2), some (.int x3), some (.int (x4 + 1))]) hx dX1_neighboursOf_40 rfl rfl rfl rfl ?_
  refine v_goto (tgt := 5) hx dX1_neighboursOf_43 (by decide) ?_
  exact hrec5 a0 x1 x2 x3 (x4 + 1) h hl0
theorem vX1_neighboursOf_b5 {x : CT} (hx : CX x cX1_neighboursOf RX1 rmX1_neighboursOf (some .int)) {r0 : Int32} {w : Wd} (hq : RI x rmX1_neighboursOf r0 w) {rec5 : Nat → Int32 → Int32 → Int32 → Int32 → Option (Int32)} {a0 : Nat} {x1 : Int32} {x2 : Int32} {x3 : Int32} {x4 : Int32} (hrec5 : ∀ (a0 : Nat) (x1 : Int32) (x2 : Int32) (x3 : Int32) (x4 : Int32), rec5 a0 x1 x2 x3 x4 = some r0 → (zL w 1 a0 = true) → V x 5 [some (.ref a0), some (.int x1), some (.int x2), some (.int x3), some (.int x4)] [] (Rp (xD x) w) 0 0) (hl0 : zL w 1 a0 = true) (h : fX1_neighboursOf_b5 w rec5 a0 x1 x2 x3 x4 = some r0) : V x 5 [some (.ref a0), some (.int x1), some (.int x2), some (.int x3), some (.int x4)] [] (Rp (xD x) w) 0 0 := by
  unfold fX1_neighboursOf_b5 at h
  refine v_iload (pc' := 7) hx dX1_neighboursOf_5 rfl rfl ?_
  refine v_bipush (pc' := 9) (v := 24) hx dX1_neighboursOf_7 (by decide) rfl ?_
  refine v_icmp_ge (tgt := 46) (pc' := 12) hx dX1_neighboursOf_9 (by decide) rfl (fun hc_1 => ?_) (fun hc_1 => ?_)
  · rw [if_pos hc_1] at h
    refine v_iload_n (pc' := 47) hx dX1_neighboursOf_46 rfl rfl ?_
    exact v_iret hx hq (by decide) (by decide) dX1_neighboursOf_47 (by cases h; rfl)
  · rw [if_neg hc_1] at h
    refine v_aload_n (pc' := 13) hx dX1_neighboursOf_12 rfl rfl ?_
    obtain ⟨g_2, hq_3⟩ : ∃ q, zA w 1 a0 1 = q := ⟨_, rfl⟩
    refine v_getAq (pc' := 16) hx hl0 fi_1_1.1 (by decide) hq_3 fk_X1_17 dX1_neighboursOf_13 rfl ?_
    refine v_iload (pc' := 18) hx dX1_neighboursOf_16 rfl rfl ?_
    replace h := ckp_inv h; obtain ⟨hk_4, h⟩ := h
    refine v_aaldq (pc' := 19) hx hl0 fi_1_1.1 fi_1_1.2.2 rfl hk_4 hq_3 dX1_neighboursOf_18 rfl ?_
    replace h := lt_inv h; obtain ⟨u_5, er_6, h⟩ := h
    rw [← er_6]
    refine v_liv hl0 (fun ht_7 => ?_)
    have hl_8 : ∀ b, u_5 = some b → zL w 2 b = true := fun b hb => ht_7 1 _ b (er_6.symm.trans hb)
    refine v_ifnull (tgt := 40) (pc' := 22) hx dX1_neighboursOf_19 (by decide) rfl (fun hn_10 => ?_) (fun b_9 hn_10 => ?_)
    · subst hn_10
      rw [oc_n] at h
      exact vX1_neighboursOf_b40 hx hq hrec5 hl0 h
    · subst hn_10
      rw [oc_s] at h
      have hl_11 : zL w 2 b_9 = true := hl_8 _ rfl
      refine v_aload_n (pc' := 23) hx dX1_neighboursOf_22 rfl rfl ?_
      refine v_iload_n (pc' := 24) hx dX1_neighboursOf_23 rfl rfl ?_
      refine v_iload (pc' := 26) hx dX1_neighboursOf_24 rfl rfl ?_
      replace h := bd_inv h; obtain ⟨y_13, hcl_12, h⟩ := h
      refine v_callVi (pc' := 29) (w' := w) (r := y_13) (ci := 1) (b := a0) (As := [.int x1, .int x4]) (rest := []) hx hl0 (fun G sz hR => ctX1_distanceOf (xl x) (xD x) w G sz hR a0 x1 x4 hl0 hcl_12) rfl my_X1_distanceOf ml_X1_120 ⟨by decide, by decide⟩ ⟨by decide, by decide⟩ rfl rfl (Nat.le_of_ble_eq_true rfl) dX1_neighboursOf_26 rfl ?_
      refine v_iload_n (pc' := 30) hx dX1_neighboursOf_29 rfl rfl ?_
      refine v_icmp_gt (tgt := 40) (pc' := 33) hx dX1_neighboursOf_30 (by decide) rfl (fun hc_15 => ?_) (fun hc_15 => ?_)
      · rw [if_pos hc_15] at h
        exact vX1_neighboursOf_b40 hx hq hrec5 hl0 h
      · rw [if_neg hc_15] at h
        refine v_iload_n (pc' := 34) hx dX1_neighboursOf_33 rfl rfl ?_
        refine v_iconst (pc' := 35) (v := 1) hx dX1_neighboursOf_34 (by decide) rfl ?_
        refine v_iload (pc' := 37) hx dX1_neighboursOf_35 rfl rfl ?_
        refine v_ishl (pc' := 38) hx dX1_neighboursOf_37 rfl ?_
        refine v_ior (pc' := 39) hx dX1_neighboursOf_38 rfl ?_
        refine v_istore_n (pc' := 40) (L' := [some (.ref a0), some (.int x1), some (.int x2), some (.int (x3 ||| (1 <<< (x4 &&& 31)))), some (.int x4)]) hx dX1_neighboursOf_39 rfl rfl (Nat.le_of_ble_eq_true rfl) ?_
        exact vX1_neighboursOf_b40 hx hq hrec5 hl0 h
theorem vX1_neighboursOf_l5 {x : CT} (hx : CX x cX1_neighboursOf RX1 rmX1_neighboursOf (some .int)) {r0 : Int32} {w : Wd} (hq : RI x rmX1_neighboursOf r0 w) : ∀ (n : Nat) (a0 : Nat) (x1 : Int32) (x2 : Int32) (x3 : Int32) (x4 : Int32), (zL w 1 a0 = true) → fX1_neighboursOf_l5 w n a0 x1 x2 x3 x4 = some r0 → V x 5 [some (.ref a0), some (.int x1), some (.int x2), some (.int x3), some (.int x4)] [] (Rp (xD x) w) 0 0 := by
  intro n
  induction n with
  | zero => intro a0 x1 x2 x3 x4 hl0 h; cases h
  | succ n ih =>
    intro a0 x1 x2 x3 x4 hl0 h
    exact vX1_neighboursOf_b5 hx hq  (fun a0 x1 x2 x3 x4 h hl0 => ih a0 x1 x2 x3 x4 hl0 h) hl0 h
theorem vX1_neighboursOf {x : CT} (hx : CX x cX1_neighboursOf RX1 rmX1_neighboursOf (some .int)) {r0 : Int32} {w : Wd} (hq : RI x rmX1_neighboursOf r0 w) (a0 : Nat) (x1 : Int32) (x2 : Int32) (hl0 : zL w 1 a0 = true) (h : fX1_neighboursOf a0 x1 x2 w = some r0) : V x 0 [some (.ref a0), some (.int x1), some (.int x2), none, none] [] (Rp (xD x) w) 0 0 := by
  unfold fX1_neighboursOf at h
  refine v_iconst (pc' := 1) (v := 0) hx dX1_neighboursOf_0 (by decide) rfl ?_
  refine v_istore_n (pc' := 2) (L' := [some (.ref a0), some (.int x1), some (.int x2), some (.int 0), none]) hx dX1_neighboursOf_1 rfl rfl (Nat.le_of_ble_eq_true rfl) ?_
  refine v_iconst (pc' := 3) (v := 0) hx dX1_neighboursOf_2 (by decide) rfl ?_
  refine v_istore (pc' := 5) (L' := [some (.ref a0), some (.int x1), some (.int x2), some (.int 0), some (.int 0)]) hx dX1_neighboursOf_3 rfl rfl (Nat.le_of_ble_eq_true rfl) ?_
  exact vX1_neighboursOf_l5 hx hq 1000 a0 x1 x2 0 0 hl0 h
theorem ctX1_neighboursOf (l : Launch) (D : DD) (w : Wd) (G : GT) (sz : Nat) (hR : Rp D w G sz) (a0 : Nat) (x1 : Int32) (x2 : Int32) (hl0 : zL w 1 a0 = true) {r0 : Int32} (h : fX1_neighboursOf a0 x1 x2 w = some r0) : MetI l yX1_neighboursOf (WS yX1_neighboursOf cX1_neighboursOf 5 (some .int)) rmX1_neighboursOf D [.ref a0, .int x1, .int x2] G sz r0 w := by
  refine MetI_ofV (own := RX1) (P := Rp D w) hR (by decide) rfl (by simp [Value.category]) (Nat.le_of_ble_eq_true rfl) (fun x hx hq hD hl => ?_)
  subst hD
  exact vX1_neighboursOf hx hq a0 x1 x2 hl0 h
theorem vX1_heapOf_b59 {x : CT} (hx : CX x cX1_heapOf RX1 rmX1_heapOf (some .int)) {r0 : Int32} {w : Wd} (hq : RI x rmX1_heapOf r0 w) {x3 : Int32} (h : fX1_heapOf_b59 w x3 = some r0) : V x 59 [none, none, none, some (.int x3), none, none, none] [] (Rp (xD x) w) 0 0 := by
  unfold fX1_heapOf_b59 at h
  refine v_iload_n (pc' := 60) hx dX1_heapOf_59 rfl rfl ?_
  exact v_iret hx hq (by decide) (by decide) dX1_heapOf_60 (by cases h; rfl)
theorem vX1_heapOf_b10 {x : CT} (hx : CX x cX1_heapOf RX1 rmX1_heapOf (some .int)) {r0 : Int32} {w : Wd} (hq : RI x rmX1_heapOf r0 w) {rec10 : Nat → Int32 → Int32 → Int32 → Int32 → Option (Int32)} {a0 : Nat} {x2 : Int32} {x3 : Int32} {x4 : Int32} {x5 : Int32} (hrec10 : ∀ (a0 : Nat) (x2 : Int32) (x3 : Int32) (x4 : Int32) (x5 : Int32), rec10 a0 x2 x3 x4 x5 = some r0 → (zL w 1 a0 = true) → V x 10 [some (.ref a0), none, some (.int x2), some (.int x3), some (.int x4), some (.int x5), none] [] (Rp (xD x) w) 0 0) (hl0 : zL w 1 a0 = true) (h : fX1_heapOf_b10 w rec10 a0 x2 x3 x4 x5 = some r0) : V x 10 [some (.ref a0), none, some (.int x2), some (.int x3), some (.int x4), some (.int x5), none] [] (Rp (xD x) w) 0 0 := by
  unfold fX1_heapOf_b10 at h
  refine v_iload (pc' := 12) hx dX1_heapOf_10 rfl rfl ?_
  refine v_bipush (pc' := 14) (v := 24) hx dX1_heapOf_12 (by decide) rfl ?_
  refine v_icmp_ge (tgt := 59) (pc' := 17) hx dX1_heapOf_14 (by decide) rfl (fun hc_1 => ?_) (fun hc_1 => ?_)
  · rw [if_pos hc_1] at h
    refine V.sb (L' := [none, none, none, some (.int x3), none, none, none]) ⟨Or.inl rfl, Or.inl rfl, Or.inl rfl, Or.inr rfl, Or.inl rfl, Or.inl rfl, Or.inl rfl, trivial⟩ ?_
    exact vX1_heapOf_b59 hx hq h
  · rw [if_neg hc_1] at h
    refine v_iload_n (pc' := 18) hx dX1_heapOf_17 rfl rfl ?_
    refine v_iload (pc' := 20) hx dX1_heapOf_18 rfl rfl ?_
    refine v_icmp_eq (tgt := 59) (pc' := 23) hx dX1_heapOf_20 (by decide) rfl (fun hc_2 => ?_) (fun hc_2 => ?_)
    · rw [if_pos hc_2] at h
      refine V.sb (L' := [none, none, none, some (.int x3), none, none, none]) ⟨Or.inl rfl, Or.inl rfl, Or.inl rfl, Or.inr rfl, Or.inl rfl, Or.inl rfl, Or.inl rfl, trivial⟩ ?_
      exact vX1_heapOf_b59 hx hq h
    · rw [if_neg hc_2] at h
      refine v_iload_n (pc' := 24) hx dX1_heapOf_23 rfl rfl ?_
      refine v_iload (pc' := 26) hx dX1_heapOf_24 rfl rfl ?_
      refine v_iconst (pc' := 27) (v := (-1)) hx dX1_heapOf_26 (by decide) rfl ?_
      refine v_ixor (pc' := 28) hx dX1_heapOf_27 rfl ?_
      refine v_iand (pc' := 29) hx dX1_heapOf_28 rfl ?_
      replace h := bd_inv h; obtain ⟨y_4, hcl_3, h⟩ := h
      refine v_callSi (pc' := 32) (w' := w) (r := y_4) (As := [.int (x3 &&& (x4 ^^^ (-1)))]) (rest := []) hx (fun G sz hR => ctX5_lowestOf (xl x) (xD x) w G sz hR (x3 &&& (x4 ^^^ (-1)))  hcl_3) my_X5_lowestOf ml_X1_114 ⟨by decide, by decide⟩ ⟨by decide, by decide⟩ rfl rfl (Nat.le_of_ble_eq_true rfl) dX1_heapOf_29 rfl ?_
      refine v_istore (pc' := 34) (L' := [some (.ref a0), none, some (.int x2), some (.int x3), some (.int x4), some (.int x5), some (.int y_4)]) hx dX1_heapOf_32 rfl rfl (Nat.le_of_ble_eq_true rfl) ?_
      refine v_iload (pc' := 36) hx dX1_heapOf_34 rfl rfl ?_
      refine v_iconst (pc' := 37) (v := 1) hx dX1_heapOf_36 (by decide) rfl ?_
      refine v_iload (pc' := 39) hx dX1_heapOf_37 rfl rfl ?_
      refine v_ishl (pc' := 40) hx dX1_heapOf_39 rfl ?_
      refine v_ior (pc' := 41) hx dX1_heapOf_40 rfl ?_
      refine v_istore (pc' := 43) (L' := [some (.ref a0), none, some (.int x2), some (.int x3), some (.int (x4 ||| (1 <<< (y_4 &&& 31)))), some (.int x5), some (.int y_4)]) hx dX1_heapOf_41 rfl rfl (Nat.le_of_ble_eq_true rfl) ?_
      refine v_iload_n (pc' := 44) hx dX1_heapOf_43 rfl rfl ?_
      refine v_aload_n (pc' := 45) hx dX1_heapOf_44 rfl rfl ?_
      refine v_iload (pc' := 47) hx dX1_heapOf_45 rfl rfl ?_
      refine v_iload_n (pc' := 48) hx dX1_heapOf_47 rfl rfl ?_
      replace h := bd_inv h; obtain ⟨y_7, hcl_6, h⟩ := h
      refine v_callVi (pc' := 51) (w' := w) (r := y_7) (ci := 1) (b := a0) (As := [.int y_4, .int x2]) (rest := [.int x3]) hx hl0 (fun G sz hR => ctX1_neighboursOf (xl x) (xD x) w G sz hR a0 y_4 x2 hl0 hcl_6) rfl my_X1_neighboursOf ml_X1_117 ⟨by decide, by decide⟩ ⟨by decide, by decide⟩ rfl rfl (Nat.le_of_ble_eq_true rfl) dX1_heapOf_48 rfl ?_
      refine v_ior (pc' := 52) hx dX1_heapOf_51 rfl ?_
      refine v_istore_n (pc' := 53) (L' := [some (.ref a0), none, some (.int x2), some (.int (x3 ||| y_7)), some (.int (x4 ||| (1 <<< (y_4 &&& 31)))), some (.int x5), some (.int y_4)]) hx dX1_heapOf_52 rfl rfl (Nat.le_of_ble_eq_true rfl) ?_
      refine v_iinc (pc' := 56) (w0 := (x5 + 1)) (L' := [some (.ref a0), none, some (.int x2), some (.int (x3 ||| y_7)), some (.int (x4 ||| (1 <<< (y_4 &&& 31)))), some (.int (x5 + 1)), some (.int y_4)]) hx dX1_heapOf_53 rfl rfl rfl rfl ?_
      refine v_goto (tgt := 10) hx dX1_heapOf_56 (by decide) ?_
      refine V.sb (L' := [some (.ref a0), none, some (.int x2), some (.int (x3 ||| y_7)), some (.int (x4 ||| (1 <<< (y_4 &&& 31)))), some (.int (x5 + 1)), none]) ⟨Or.inr rfl, Or.inl rfl, Or.inr rfl, Or.inr rfl, Or.inr rfl, Or.inr rfl, Or.inl rfl, trivial⟩ ?_
      exact hrec10 a0 x2 (x3 ||| y_7) (x4 ||| (1 <<< (y_4 &&& 31))) (x5 + 1) h hl0
theorem vX1_heapOf_l10 {x : CT} (hx : CX x cX1_heapOf RX1 rmX1_heapOf (some .int)) {r0 : Int32} {w : Wd} (hq : RI x rmX1_heapOf r0 w) : ∀ (n : Nat) (a0 : Nat) (x2 : Int32) (x3 : Int32) (x4 : Int32) (x5 : Int32), (zL w 1 a0 = true) → fX1_heapOf_l10 w n a0 x2 x3 x4 x5 = some r0 → V x 10 [some (.ref a0), none, some (.int x2), some (.int x3), some (.int x4), some (.int x5), none] [] (Rp (xD x) w) 0 0 := by
  intro n
  induction n with
  | zero => intro a0 x2 x3 x4 x5 hl0 h; cases h
  | succ n ih =>
    intro a0 x2 x3 x4 x5 hl0 h
    exact vX1_heapOf_b10 hx hq  (fun a0 x2 x3 x4 x5 h hl0 => ih a0 x2 x3 x4 x5 hl0 h) hl0 h
theorem vX1_heapOf {x : CT} (hx : CX x cX1_heapOf RX1 rmX1_heapOf (some .int)) {r0 : Int32} {w : Wd} (hq : RI x rmX1_heapOf r0 w) (a0 : Nat) (x1 : Int32) (x2 : Int32) (hl0 : zL w 1 a0 = true) (h : fX1_heapOf a0 x1 x2 w = some r0) : V x 0 [some (.ref a0), some (.int x1), some (.int x2), none, none, none, none] [] (Rp (xD x) w) 0 0 := by
  unfold fX1_heapOf at h
  refine v_iconst (pc' := 1) (v := 1) hx dX1_heapOf_0 (by decide) rfl ?_
  refine v_iload_n (pc' := 2) hx dX1_heapOf_1 rfl rfl ?_
  refine v_ishl (pc' := 3) hx dX1_heapOf_2 rfl ?_
  refine v_istore_n (pc' := 4) (L' := [some (.ref a0), some (.int x1), some (.int x2), some (.int (1 <<< (x1 &&& 31))), none, none, none]) hx dX1_heapOf_3 rfl rfl (Nat.le_of_ble_eq_true rfl) ?_
  refine v_iconst (pc' := 5) (v := 0) hx dX1_heapOf_4 (by decide) rfl ?_
  refine v_istore (pc' := 7) (L' := [some (.ref a0), some (.int x1), some (.int x2), some (.int (1 <<< (x1 &&& 31))), some (.int 0), none, none]) hx dX1_heapOf_5 rfl rfl (Nat.le_of_ble_eq_true rfl) ?_
  refine v_iconst (pc' := 8) (v := 0) hx dX1_heapOf_7 (by decide) rfl ?_
  refine v_istore (pc' := 10) (L' := [some (.ref a0), some (.int x1), some (.int x2), some (.int (1 <<< (x1 &&& 31))), some (.int 0), some (.int 0), none]) hx dX1_heapOf_8 rfl rfl (Nat.le_of_ble_eq_true rfl) ?_
  refine V.sb (L' := [some (.ref a0), none, some (.int x2), some (.int (1 <<< (x1 &&& 31))), some (.int 0), some (.int 0), none]) ⟨Or.inr rfl, Or.inl rfl, Or.inr rfl, Or.inr rfl, Or.inr rfl, Or.inr rfl, Or.inl rfl, trivial⟩ ?_
  exact vX1_heapOf_l10 hx hq 1000 a0 x2 (1 <<< (x1 &&& 31)) 0 0 hl0 h
theorem ctX1_heapOf (l : Launch) (D : DD) (w : Wd) (G : GT) (sz : Nat) (hR : Rp D w G sz) (a0 : Nat) (x1 : Int32) (x2 : Int32) (hl0 : zL w 1 a0 = true) {r0 : Int32} (h : fX1_heapOf a0 x1 x2 w = some r0) : MetI l yX1_heapOf (WS yX1_heapOf cX1_heapOf 7 (some .int)) rmX1_heapOf D [.ref a0, .int x1, .int x2] G sz r0 w := by
  refine MetI_ofV (own := RX1) (P := Rp D w) hR (by decide) rfl (by simp [Value.category]) (Nat.le_of_ble_eq_true rfl) (fun x hx hq hD hl => ?_)
  subst hD
  exact vX1_heapOf hx hq a0 x1 x2 hl0 h
theorem vX1_countHeaps_b46 {x : CT} (hx : CX x cX1_countHeaps RX1 rmX1_countHeaps (some .int)) {r0 : Int32} {w : Wd} (hq : RI x rmX1_countHeaps r0 w) {rec7 : Nat → Int32 → Int32 → Int32 → Int32 → Option (Int32)} {a0 : Nat} {x1 : Int32} {x2 : Int32} {x3 : Int32} {x4 : Int32} (hrec7 : ∀ (a0 : Nat) (x1 : Int32) (x2 : Int32) (x3 : Int32) (x4 : Int32), rec7 a0 x1 x2 x3 x4 = some r0 → (zL w 1 a0 = true) → V x 7 [some (.ref a0), some (.int x1), some (.int x2), some (.int x3), some (.int x4)] [] (Rp (xD x) w) 0 0) (hl0 : zL w 1 a0 = true) (h : fX1_countHeaps_b46 w rec7 a0 x1 x2 x3 x4 = some r0) : V x 46 [some (.ref a0), some (.int x1), some (.int x2), some (.int x3), some (.int x4)] [] (Rp (xD x) w) 0 0 := by
  unfold fX1_countHeaps_b46 at h
  refine v_iinc (pc' := 49) (w0 := (x4 + 1)) (L' := [some (.ref a0), some (.int x1), some (.int x2), some (.int x3), some (.int (x4 + 1))]) hx dX1_countHeaps_46 rfl rfl rfl rfl ?_
  refine v_goto (tgt := 7) hx dX1_countHeaps_49 (by decide) ?_
  exact hrec7 a0 x1 x2 x3 (x4 + 1) h hl0
theorem vX1_countHeaps_b7 {x : CT} (hx : CX x cX1_countHeaps RX1 rmX1_countHeaps (some .int)) {r0 : Int32} {w : Wd} (hq : RI x rmX1_countHeaps r0 w) {rec7 : Nat → Int32 → Int32 → Int32 → Int32 → Option (Int32)} {a0 : Nat} {x1 : Int32} {x2 : Int32} {x3 : Int32} {x4 : Int32} (hrec7 : ∀ (a0 : Nat) (x1 : Int32) (x2 : Int32) (x3 : Int32) (x4 : Int32), rec7 a0 x1 x2 x3 x4 = some r0 → (zL w 1 a0 = true) → V x 7 [some (.ref a0), some (.int x1), some (.int x2), some (.int x3), some (.int x4)] [] (Rp (xD x) w) 0 0) (hl0 : zL w 1 a0 = true) (h : fX1_countHeaps_b7 w rec7 a0 x1 x2 x3 x4 = some r0) : V x 7 [some (.ref a0), some (.int x1), some (.int x2), some (.int x3), some (.int x4)] [] (Rp (xD x) w) 0 0 := by
  unfold fX1_countHeaps_b7 at h
  refine v_iload (pc' := 9) hx dX1_countHeaps_7 rfl rfl ?_
  refine v_bipush (pc' := 11) (v := 24) hx dX1_countHeaps_9 (by decide) rfl ?_
  refine v_icmp_ge (tgt := 52) (pc' := 14) hx dX1_countHeaps_11 (by decide) rfl (fun hc_1 => ?_) (fun hc_1 => ?_)
  · rw [if_pos hc_1] at h
    refine v_iload_n (pc' := 53) hx dX1_countHeaps_52 rfl rfl ?_
    exact v_iret hx hq (by decide) (by decide) dX1_countHeaps_53 (by cases h; rfl)
  · rw [if_neg hc_1] at h
    refine v_aload_n (pc' := 15) hx dX1_countHeaps_14 rfl rfl ?_
    obtain ⟨g_2, hq_3⟩ : ∃ q, zA w 1 a0 1 = q := ⟨_, rfl⟩
    refine v_getAq (pc' := 18) hx hl0 fi_1_1.1 (by decide) hq_3 fk_X1_17 dX1_countHeaps_15 rfl ?_
    refine v_iload (pc' := 20) hx dX1_countHeaps_18 rfl rfl ?_
    replace h := ckp_inv h; obtain ⟨hk_4, h⟩ := h
    refine v_aaldq (pc' := 21) hx hl0 fi_1_1.1 fi_1_1.2.2 rfl hk_4 hq_3 dX1_countHeaps_20 rfl ?_
    replace h := lt_inv h; obtain ⟨u_5, er_6, h⟩ := h
    rw [← er_6]
    refine v_liv hl0 (fun ht_7 => ?_)
    have hl_8 : ∀ b, u_5 = some b → zL w 2 b = true := fun b hb => ht_7 1 _ b (er_6.symm.trans hb)
    refine v_ifnull (tgt := 46) (pc' := 24) hx dX1_countHeaps_21 (by decide) rfl (fun hn_10 => ?_) (fun b_9 hn_10 => ?_)
    · subst hn_10
      rw [oc_n] at h
      exact vX1_countHeaps_b46 hx hq hrec7 hl0 h
    · subst hn_10
      rw [oc_s] at h
      have hl_11 : zL w 2 b_9 = true := hl_8 _ rfl
      refine v_iload_n (pc' := 25) hx dX1_countHeaps_24 rfl rfl ?_
      refine v_iload (pc' := 27) hx dX1_countHeaps_25 rfl rfl ?_
      replace h := bd_inv h; obtain ⟨y_13, hcl_12, h⟩ := h
      refine v_callSi (pc' := 30) (w' := w) (r := y_13) (As := [.int x3, .int x4]) (rest := []) hx (fun G sz hR => ctX5_hasBit (xl x) (xD x) w G sz hR x3 x4  hcl_12) my_X5_hasBit ml_X1_100 ⟨by decide, by decide⟩ ⟨by decide, by decide⟩ rfl rfl (Nat.le_of_ble_eq_true rfl) dX1_countHeaps_27 rfl ?_
      refine v_if_ne (tgt := 46) (pc' := 33) hx dX1_countHeaps_30 (by decide) rfl (fun hc_15 => ?_) (fun hc_15 => ?_)
      · rw [if_neg hc_15] at h
        exact vX1_countHeaps_b46 hx hq hrec7 hl0 h
      · rw [if_pos hc_15] at h
        refine v_iload_n (pc' := 34) hx dX1_countHeaps_33 rfl rfl ?_
        refine v_aload_n (pc' := 35) hx dX1_countHeaps_34 rfl rfl ?_
        refine v_iload (pc' := 37) hx dX1_countHeaps_35 rfl rfl ?_
        refine v_iload_n (pc' := 38) hx dX1_countHeaps_37 rfl rfl ?_
        replace h := bd_inv h; obtain ⟨y_17, hcl_16, h⟩ := h
        refine v_callVi (pc' := 41) (w' := w) (r := y_17) (ci := 1) (b := a0) (As := [.int x4, .int x1]) (rest := [.int x3]) hx hl0 (fun G sz hR => ctX1_heapOf (xl x) (xD x) w G sz hR a0 x4 x1 hl0 hcl_16) rfl my_X1_heapOf ml_X1_111 ⟨by decide, by decide⟩ ⟨by decide, by decide⟩ rfl rfl (Nat.le_of_ble_eq_true rfl) dX1_countHeaps_38 rfl ?_
        refine v_ior (pc' := 42) hx dX1_countHeaps_41 rfl ?_
        refine v_istore_n (pc' := 43) (L' := [some (.ref a0), some (.int x1), some (.int x2), some (.int (x3 ||| y_17)), some (.int x4)]) hx dX1_countHeaps_42 rfl rfl (Nat.le_of_ble_eq_true rfl) ?_
        refine v_iinc (pc' := 46) (w0 := (x2 + 1)) (L' := [some (.ref a0), some (.int x1), some (.int (x2 + 1)), some (.int (x3 ||| y_17)), some (.int x4)]) hx dX1_countHeaps_43 rfl rfl rfl rfl ?_
        exact vX1_countHeaps_b46 hx hq hrec7 hl0 h
theorem vX1_countHeaps_l7 {x : CT} (hx : CX x cX1_countHeaps RX1 rmX1_countHeaps (some .int)) {r0 : Int32} {w : Wd} (hq : RI x rmX1_countHeaps r0 w) : ∀ (n : Nat) (a0 : Nat) (x1 : Int32) (x2 : Int32) (x3 : Int32) (x4 : Int32), (zL w 1 a0 = true) → fX1_countHeaps_l7 w n a0 x1 x2 x3 x4 = some r0 → V x 7 [some (.ref a0), some (.int x1), some (.int x2), some (.int x3), some (.int x4)] [] (Rp (xD x) w) 0 0 := by
  intro n
  induction n with
  | zero => intro a0 x1 x2 x3 x4 hl0 h; cases h
  | succ n ih =>
    intro a0 x1 x2 x3 x4 hl0 h
    exact vX1_countHeaps_b7 hx hq  (fun a0 x1 x2 x3 x4 h hl0 => ih a0 x1 x2 x3 x4 hl0 h) hl0 h
theorem vX1_countHeaps {x : CT} (hx : CX x cX1_countHeaps RX1 rmX1_countHeaps (some .int)) {r0 : Int32} {w : Wd} (hq : RI x rmX1_countHeaps r0 w) (a0 : Nat) (x1 : Int32) (hl0 : zL w 1 a0 = true) (h : fX1_countHeaps a0 x1 w = some r0) : V x 0 [some (.ref a0), some (.int x1), none, none, none] [] (Rp (xD x) w) 0 0 := by
  unfold fX1_countHeaps at h
  refine v_iconst (pc' := 1) (v := 0) hx dX1_countHeaps_0 (by decide) rfl ?_
  refine v_istore_n (pc' := 2) (L' := [some (.ref a0), some (.int x1), some (.int 0), none, none]) hx dX1_countHeaps_1 rfl rfl (Nat.le_of_ble_eq_true rfl) ?_
  refine v_iconst (pc' := 3) (v := 0) hx dX1_countHeaps_2 (by decide) rfl ?_
  refine v_istore_n (pc' := 4) (L' := [some (.ref a0), some (.int x1), some (.int 0), some (.int 0), none]) hx dX1_countHeaps_3 rfl rfl (Nat.le_of_ble_eq_true rfl) ?_
  refine v_iconst (pc' := 5) (v := 0) hx dX1_countHeaps_4 (by decide) rfl ?_
  refine v_istore (pc' := 7) (L' := [some (.ref a0), some (.int x1), some (.int 0), some (.int 0), some (.int 0)]) hx dX1_countHeaps_5 rfl rfl (Nat.le_of_ble_eq_true rfl) ?_
  exact vX1_countHeaps_l7 hx hq 1000 a0 x1 0 0 0 hl0 h
theorem ctX1_countHeaps (l : Launch) (D : DD) (w : Wd) (G : GT) (sz : Nat) (hR : Rp D w G sz) (a0 : Nat) (x1 : Int32) (hl0 : zL w 1 a0 = true) {r0 : Int32} (h : fX1_countHeaps a0 x1 w = some r0) : MetI l yX1_countHeaps (WS yX1_countHeaps cX1_countHeaps 5 (some .int)) rmX1_countHeaps D [.ref a0, .int x1] G sz r0 w := by
  refine MetI_ofV (own := RX1) (P := Rp D w) hR (by decide) rfl (by simp [Value.category]) (Nat.le_of_ble_eq_true rfl) (fun x hx hq hD hl => ?_)
  subst hD
  exact vX1_countHeaps hx hq a0 x1 hl0 h
theorem vX5_heaps_b26 {x : CT} (hx : CX x cX5_heaps RX5 rmX5_heaps (some .int)) {r0 : Int32} {w : Wd} (hq : RI x rmX5_heaps r0 w) {xs0 : Int32} (h : fX5_heaps_b26 w xs0 = some r0) : V x 26 [none, none, none, none] [.int xs0] (Rp (xD x) w) 0 0 := by
  unfold fX5_heaps_b26 at h
  exact v_iret hx hq (by decide) (by decide) dX5_heaps_26 (by cases h; rfl)
theorem vX5_heaps_b17 {x : CT} (hx : CX x cX5_heaps RX5 rmX5_heaps (some .int)) {r0 : Int32} {w : Wd} (hq : RI x rmX5_heaps r0 w) (h : fX5_heaps_b17 w = some r0) : V x 17 [none, none, none, none] [] (Rp (xD x) w) 0 0 := by
  unfold fX5_heaps_b17 at h
  refine v_iconst (pc' := 18) (v := (-1)) hx dX5_heaps_17 (by decide) rfl ?_
  refine v_goto (tgt := 26) hx dX5_heaps_18 (by decide) ?_
  exact vX5_heaps_b26 hx hq h
theorem vX5_heaps {x : CT} (hx : CX x cX5_heaps RX5 rmX5_heaps (some .int)) {r0 : Int32} {w : Wd} (hq : RI x rmX5_heaps r0 w) (a0 : Nat) (x1 : Int32) (x2 : Int32) (hl0 : zL w 5 a0 = true) (h : fX5_heaps a0 x1 x2 w = some r0) : V x 0 [some (.ref a0), some (.int x1), some (.int x2), none] [] (Rp (xD x) w) 0 0 := by
  unfold fX5_heaps at h
  refine v_aload_n (pc' := 1) hx dX5_heaps_0 rfl rfl ?_
  refine v_iload_n (pc' := 2) hx dX5_heaps_1 rfl rfl ?_
  replace h := bd_inv h; obtain ⟨u_2, hcl_1, h⟩ := h
  refine v_callVq (pc' := 5) (w' := w) (q := u_2) (ci := 5) (b := a0) (As := [.int x1]) (rest := []) hx hl0 (fun G sz hR => ctX5_pictureAt (xl x) (xD x) w G sz hR a0 x1 hl0 hcl_1) rfl my_X5_pictureAt ml_X5_74 ⟨by decide, by decide⟩ ⟨by decide, by decide⟩ rfl rfl (Nat.le_of_ble_eq_true rfl) dX5_heaps_2 rfl (fun hl_3 => ?_)
  refine v_astoreq_n (pc' := 6) (L' := [some (.ref a0), some (.int x1), some (.int x2), some (va_rf u_2)]) hx dX5_heaps_5 rfl rfl (Nat.le_of_ble_eq_true rfl) ?_
  refine v_aloadq_n (pc' := 7) hx dX5_heaps_6 rfl rfl ?_
  refine v_ifnull (tgt := 17) (pc' := 10) hx dX5_heaps_7 (by decide) rfl (fun hn_5 => ?_) (fun b_4 hn_5 => ?_)
  · subst hn_5
    rw [oc_n] at h
    refine V.sb (L' := [none, none, none, none]) ⟨Or.inl rfl, Or.inl rfl, Or.inl rfl, Or.inl rfl, trivial⟩ ?_
    exact vX5_heaps_b17 hx hq h
  · subst hn_5
    rw [oc_s] at h
    have hl_6 : zL w 1 b_4 = true := hl_3 _ rfl
    refine v_iload_n (pc' := 11) hx dX5_heaps_10 rfl rfl ?_
    replace h := bd_inv h; obtain ⟨y_8, hcl_7, h⟩ := h
    refine v_callSi (pc' := 14) (w' := w) (r := y_8) (As := [.int x2]) (rest := []) hx (fun G sz hR => ctX5_isHeapWidth (xl x) (xD x) w G sz hR x2  hcl_7) my_X5_isHeapWidth ml_X5_151 ⟨by decide, by decide⟩ ⟨by decide, by decide⟩ rfl rfl (Nat.le_of_ble_eq_true rfl) dX5_heaps_11 rfl ?_
    refine v_if_ne (tgt := 21) (pc' := 17) hx dX5_heaps_14 (by decide) rfl (fun hc_10 => ?_) (fun hc_10 => ?_)
    · rw [if_neg hc_10] at h
      refine v_aload_n (pc' := 22) hx dX5_heaps_21 rfl rfl ?_
      refine v_iload_n (pc' := 23) hx dX5_heaps_22 rfl rfl ?_
      replace h := bd_inv h; obtain ⟨y_12, hcl_11, h⟩ := h
      refine v_callVi (pc' := 26) (w' := w) (r := y_12) (ci := 1) (b := b_4) (As := [.int x2]) (rest := []) hx hl_6 (fun G sz hR => ctX1_countHeaps (xl x) (xD x) w G sz hR b_4 x2 hl_6 hcl_11) rfl my_X1_countHeaps ml_X5_154 ⟨by decide, by decide⟩ ⟨by decide, by decide⟩ rfl rfl (Nat.le_of_ble_eq_true rfl) dX5_heaps_23 rfl ?_
      refine V.sb (L' := [none, none, none, none]) ⟨Or.inl rfl, Or.inl rfl, Or.inl rfl, Or.inl rfl, trivial⟩ ?_
      exact vX5_heaps_b26 hx hq h
    · rw [if_pos hc_10] at h
      refine V.sb (L' := [none, none, none, none]) ⟨Or.inl rfl, Or.inl rfl, Or.inl rfl, Or.inl rfl, trivial⟩ ?_
      exact vX5_heaps_b17 hx hq h
theorem ctX5_heaps (l : Launch) (D : DD) (w : Wd) (G : GT) (sz : Nat) (hR : Rp D w G sz) (a0 : Nat) (x1 : Int32) (x2 : Int32) (hl0 : zL w 5 a0 = true) {r0 : Int32} (h : fX5_heaps a0 x1 x2 w = some r0) : MetI l yX5_heaps (WS yX5_heaps cX5_heaps 4 (some .int)) rmX5_heaps D [.ref a0, .int x1, .int x2] G sz r0 w := by
  refine MetI_ofV (own := RX5) (P := Rp D w) hR (by decide) rfl (by simp [Value.category]) (Nat.le_of_ble_eq_true rfl) (fun x hx hq hD hl => ?_)
  subst hD
  exact vX5_heaps hx hq a0 x1 x2 hl0 h
theorem kX6_hangs_b137 {w0 : Wd} {rec23 : Nat → Int32 → Int32 → Int32 → Wd → Option (Wd)} {rec32 : Nat → Int32 → Int32 → Int32 → Int32 → Wd → Option (Wd)} {rec42 : Nat → Int32 → Int32 → Int32 → Int32 → Int32 → Wd → Option (Wd)} {a0 : Nat} {x1 : Int32} {x2 : Int32} {x3 : Int32} {x4 : Int32} {x5 : Int32} {w wb : Wd} (hkr23 : ∀ (a0 : Nat) (x1 : Int32) (x2 : Int32) (x3 : Int32) (w : Wd), rec23 a0 x1 x2 x3 w = some w0 → mo wb w → mo wb w0) (hkr32 : ∀ (a0 : Nat) (x1 : Int32) (x2 : Int32) (x3 : Int32) (x4 : Int32) (w : Wd), rec32 a0 x1 x2 x3 x4 w = some w0 → mo wb w → mo wb w0) (hkr42 : ∀ (a0 : Nat) (x1 : Int32) (x2 : Int32) (x3 : Int32) (x4 : Int32) (x5 : Int32) (w : Wd), rec42 a0 x1 x2 x3 x4 x5 w = some w0 → mo wb w → mo wb w0) (hm : mo wb w) (h : fX6_hangs_b137 rec23 rec32 rec42 a0 x1 x2 x3 x4 x5 w = some w0) : mo wb w0 := by
  unfold fX6_hangs_b137 at h
  exact hkr42 a0 x1 x2 x3 x4 (x5 + 1) w h hm
theorem kX6_hangs_b42 {w0 : Wd} {rec23 : Nat → Int32 → Int32 → Int32 → Wd → Option (Wd)} {rec32 : Nat → Int32 → Int32 → Int32 → Int32 → Wd → Option (Wd)} {rec42 : Nat → Int32 → Int32 → Int32 → Int32 → Int32 → Wd → Option (Wd)} {a0 : Nat} {x1 : Int32} {x2 : Int32} {x3 : Int32} {x4 : Int32} {x5 : Int32} {w wb : Wd} (hkr23 : ∀ (a0 : Nat) (x1 : Int32) (x2 : Int32) (x3 : Int32) (w : Wd), rec23 a0 x1 x2 x3 w = some w0 → mo wb w → mo wb w0) (hkr32 : ∀ (a0 : Nat) (x1 : Int32) (x2 : Int32) (x3 : Int32) (x4 : Int32) (w : Wd), rec32 a0 x1 x2 x3 x4 w = some w0 → mo wb w → mo wb w0) (hkr42 : ∀ (a0 : Nat) (x1 : Int32) (x2 : Int32) (x3 : Int32) (x4 : Int32) (x5 : Int32) (w : Wd), rec42 a0 x1 x2 x3 x4 x5 w = some w0 → mo wb w → mo wb w0) (hm : mo wb w) (h : fX6_hangs_b42 rec23 rec32 rec42 a0 x1 x2 x3 x4 x5 w = some w0) : mo wb w0 := by
  unfold fX6_hangs_b42 at h
  by_cases hc_1 : 24 ≤ x5
  · rw [if_pos hc_1] at h
    exact hkr32 a0 x1 x2 x3 (x4 + 1) w h hm
  · rw [if_neg hc_1] at h
    replace h := ckp_inv h; obtain ⟨hk_4, h⟩ := h
    replace h := ckp_inv h; obtain ⟨hk_7, h⟩ := h
    by_cases hc_8 : (zI w 6 a0 30 (x4 : Int32).toNatClampNeg) ≤ (zI w 6 a0 30 (x5 : Int32).toNatClampNeg)
    · rw [if_pos hc_8] at h
      exact kX6_hangs_b137 hkr23 hkr32 hkr42 hm h
    · rw [if_neg hc_8] at h
      replace h := ckp_inv h; obtain ⟨hk_11, h⟩ := h
      by_cases hc_12 : (zI w 6 a0 7 (((24 * x1) + x4) : Int32).toNatClampNeg) = 0
      · rw [if_pos hc_12] at h
        exact kX6_hangs_b137 hkr23 hkr32 hkr42 hm h
      · rw [if_neg hc_12] at h
        replace h := ckp_inv h; obtain ⟨hk_15, h⟩ := h
        by_cases hc_16 : (zI w 6 a0 7 (((24 * x1) + x5) : Int32).toNatClampNeg) = 0
        · rw [if_pos hc_16] at h
          exact kX6_hangs_b137 hkr23 hkr32 hkr42 hm h
        · rw [if_neg hc_16] at h
          replace h := bd2_inv h; obtain ⟨y_18, w_19, hcl_17, h⟩ := h
          have hm := hm.tr (kX6_distanceOf hcl_17)
          by_cases hc_24 : y_18 ≤ x2
          · rw [if_pos hc_24] at h
            replace h := ckp_inv h; obtain ⟨hk_29, h⟩ := h
            replace h := ckp_inv h; obtain ⟨hk_30, h⟩ := h
            replace h := lt_inv h; obtain ⟨w_31, ew_32, h⟩ := h
            have hm := mo_eI hm ew_32
            exact kX6_hangs_b137 hkr23 hkr32 hkr42 hm h
          · rw [if_neg hc_24] at h
            exact kX6_hangs_b137 hkr23 hkr32 hkr42 hm h
theorem kX6_hangs_l42 {w0 : Wd} {rec23 : Nat → Int32 → Int32 → Int32 → Wd → Option (Wd)} {rec32 : Nat → Int32 → Int32 → Int32 → Int32 → Wd → Option (Wd)} {wb : Wd} (hkr23 : ∀ (a0 : Nat) (x1 : Int32) (x2 : Int32) (x3 : Int32) (w : Wd), rec23 a0 x1 x2 x3 w = some w0 → mo wb w → mo wb w0) (hkr32 : ∀ (a0 : Nat) (x1 : Int32) (x2 : Int32) (x3 : Int32) (x4 : Int32) (w : Wd), rec32 a0 x1 x2 x3 x4 w = some w0 → mo wb w → mo wb w0) : ∀ (n : Nat) (a0 : Nat) (x1 : Int32) (x2 : Int32) (x3 : Int32) (x4 : Int32) (x5 : Int32) (w : Wd), mo wb w → fX6_hangs_l42 rec23 rec32 n a0 x1 x2 x3 x4 x5 w = some w0 → mo wb w0 := by
  intro n
  induction n with
  | zero => intro a0 x1 x2 x3 x4 x5 w hm h; cases h
  | succ n ih =>
    intro a0 x1 x2 x3 x4 x5 w hm h
    exact kX6_hangs_b42 hkr23 hkr32 (fun a0 x1 x2 x3 x4 x5 w h hm => ih a0 x1 x2 x3 x4 x5 w hm h) hm h
theorem kX6_hangs_b32 {w0 : Wd} {rec23 : Nat → Int32 → Int32 → Int32 → Wd → Option (Wd)} {rec32 : Nat → Int32 → Int32 → Int32 → Int32 → Wd → Option (Wd)} {a0 : Nat} {x1 : Int32} {x2 : Int32} {x3 : Int32} {x4 : Int32} {w wb : Wd} (hkr23 : ∀ (a0 : Nat) (x1 : Int32) (x2 : Int32) (x3 : Int32) (w : Wd), rec23 a0 x1 x2 x3 w = some w0 → mo wb w → mo wb w0) (hkr32 : ∀ (a0 : Nat) (x1 : Int32) (x2 : Int32) (x3 : Int32) (x4 : Int32) (w : Wd), rec32 a0 x1 x2 x3 x4 w = some w0 → mo wb w → mo wb w0) (hm : mo wb w) (h : fX6_hangs_b32 rec23 rec32 a0 x1 x2 x3 x4 w = some w0) : mo wb w0 := by
  unfold fX6_hangs_b32 at h
  by_cases hc_1 : 24 ≤ x4
  · rw [if_pos hc_1] at h
    exact hkr23 a0 x1 x2 x3 w h hm
  · rw [if_neg hc_1] at h
    exact kX6_hangs_l42 hkr23 hkr32 1000 a0 x1 x2 x3 x4 0 w hm h
theorem kX6_hangs_l32 {w0 : Wd} {rec23 : Nat → Int32 → Int32 → Int32 → Wd → Option (Wd)} {wb : Wd} (hkr23 : ∀ (a0 : Nat) (x1 : Int32) (x2 : Int32) (x3 : Int32) (w : Wd), rec23 a0 x1 x2 x3 w = some w0 → mo wb w → mo wb w0) : ∀ (n : Nat) (a0 : Nat) (x1 : Int32) (x2 : Int32) (x3 : Int32) (x4 : Int32) (w : Wd), mo wb w → fX6_hangs_l32 rec23 n a0 x1 x2 x3 x4 w = some w0 → mo wb w0 := by
  intro n
  induction n with
  | zero => intro a0 x1 x2 x3 x4 w hm h; cases h
  | succ n ih =>
    intro a0 x1 x2 x3 x4 w hm h
    exact kX6_hangs_b32 hkr23 (fun a0 x1 x2 x3 x4 w h hm => ih a0 x1 x2 x3 x4 w hm h) hm h
theorem kX6_hangs_b23 {w0 : Wd} {rec23 : Nat → Int32 → Int32 → Int32 → Wd → Option (Wd)} {a0 : Nat} {x1 : Int32} {x2 : Int32} {x3 : Int32} {w wb : Wd} (hkr23 : ∀ (a0 : Nat) (x1 : Int32) (x2 : Int32) (x3 : Int32) (w : Wd), rec23 a0 x1 x2 x3 w = some w0 → mo wb w → mo wb w0) (hm : mo wb w) (h : fX6_hangs_b23 rec23 a0 x1 x2 x3 w = some w0) : mo wb w0 := by
  unfold fX6_hangs_b23 at h
  by_cases hc_1 : x3 = 0
  · rw [if_pos hc_1] at h
    cases h; exact hm
  · rw [if_neg hc_1] at h
    exact kX6_hangs_l32 hkr23 1000 a0 x1 x2 0 0 w hm h
theorem kX6_hangs_l23 {w0 : Wd} {wb : Wd} : ∀ (n : Nat) (a0 : Nat) (x1 : Int32) (x2 : Int32) (x3 : Int32) (w : Wd), mo wb w → fX6_hangs_l23  n a0 x1 x2 x3 w = some w0 → mo wb w0 := by
  intro n
  induction n with
  | zero => intro a0 x1 x2 x3 w hm h; cases h
  | succ n ih =>
    intro a0 x1 x2 x3 w hm h
    exact kX6_hangs_b23  (fun a0 x1 x2 x3 w h hm => ih a0 x1 x2 x3 w hm h) hm h
theorem kX6_hangs_b2 {w0 : Wd} {rec2 : Nat → Int32 → Int32 → Int32 → Wd → Option (Wd)} {a0 : Nat} {x1 : Int32} {x2 : Int32} {x3 : Int32} {w wb : Wd} (hkr2 : ∀ (a0 : Nat) (x1 : Int32) (x2 : Int32) (x3 : Int32) (w : Wd), rec2 a0 x1 x2 x3 w = some w0 → mo wb w → mo wb w0) (hm : mo wb w) (h : fX6_hangs_b2 rec2 a0 x1 x2 x3 w = some w0) : mo wb w0 := by
  unfold fX6_hangs_b2 at h
  by_cases hc_1 : 24 ≤ x3
  · rw [if_pos hc_1] at h
    exact kX6_hangs_l23 1000 a0 x1 x2 1 w hm h
  · rw [if_neg hc_1] at h
    replace h := ckp_inv h; obtain ⟨hk_4, h⟩ := h
    replace h := lt_inv h; obtain ⟨w_5, ew_6, h⟩ := h
    have hm := mo_eI hm ew_6
    exact hkr2 a0 x1 x2 (x3 + 1) w_5 h hm
theorem kX6_hangs_l2 {w0 : Wd} {wb : Wd} : ∀ (n : Nat) (a0 : Nat) (x1 : Int32) (x2 : Int32) (x3 : Int32) (w : Wd), mo wb w → fX6_hangs_l2  n a0 x1 x2 x3 w = some w0 → mo wb w0 := by
  intro n
  induction n with
  | zero => intro a0 x1 x2 x3 w hm h; cases h
  | succ n ih =>
    intro a0 x1 x2 x3 w hm h
    exact kX6_hangs_b2  (fun a0 x1 x2 x3 w h hm => ih a0 x1 x2 x3 w hm h) hm h
theorem kX6_hangs {w0 : Wd} {a0 : Nat} {x1 : Int32} {x2 : Int32} {w : Wd} (h : fX6_hangs a0 x1 x2 w = some w0) : mo w w0 := by
  have hm := mo_rf w
  unfold fX6_hangs at h
  exact kX6_hangs_l2 1000 a0 x1 x2 0 w hm h
theorem vX6_hangs_b137 {x : CT} (hx : CX x cX6_hangs RX6 rmX6_hangs none) {w0 : Wd} (hq : RV x rmX6_hangs w0) {rec23 : Nat → Int32 → Int32 → Int32 → Wd → Option (Wd)} {rec32 : Nat → Int32 → Int32 → Int32 → Int32 → Wd → Option (Wd)} {rec42 : Nat → Int32 → Int32 → Int32 → Int32 → Int32 → Wd → Option (Wd)} {a0 : Nat} {x1 : Int32} {x2 : Int32} {x3 : Int32} {x4 : Int32} {x5 : Int32} {w : Wd} (hrec23 : ∀ (a0 : Nat) (x1 : Int32) (x2 : Int32) (x3 : Int32) (w : Wd), rec23 a0 x1 x2 x3 w = some w0 → (zL w 6 a0 = true) → V x 23 [some (.ref a0), some (.int x1), some (.int x2), some (.int x3), none, none] [] (Rp (xD x) w) 0 0) (hrec32 : ∀ (a0 : Nat) (x1 : Int32) (x2 : Int32) (x3 : Int32) (x4 : Int32) (w : Wd), rec32 a0 x1 x2 x3 x4 w = some w0 → (zL w 6 a0 = true) → V x 32 [some (.ref a0), some (.int x1), some (.int x2), some (.int x3), some (.int x4), none] [] (Rp (xD x) w) 0 0) (hrec42 : ∀ (a0 : Nat) (x1 : Int32) (x2 : Int32) (x3 : Int32) (x4 : Int32) (x5 : Int32) (w : Wd), rec42 a0 x1 x2 x3 x4 x5 w = some w0 → (zL w 6 a0 = true) → V x 42 [some (.ref a0), some (.int x1), some (.int x2), some (.int x3), some (.int x4), some (.int x5)] [] (Rp (xD x) w) 0 0) (hl0 : zL w 6 a0 = true) (h : fX6_hangs_b137 rec23 rec32 rec42 a0 x1 x2 x3 x4 x5 w = some w0) : V x 137 [some (.ref a0), some (.int x1), some (.int x2), some (.int x3), some (.int x4), some (.int x5)] [] (Rp (xD x) w) 0 0 := by
  unfold fX6_hangs_b137 at h
  refine v_iinc (pc' := 140) (w0 := (x5 + 1)) (L' := [some (.ref a0), some (.int x1), some (.int x2), some (.int x3), some (.int x4), some (.int (x5 + 1))]) hx dX6_hangs_137 rfl rfl rfl rfl ?_
  refine v_goto (tgt := 42) hx dX6_hangs_140 (by decide) ?_
  exact hrec42 a0 x1 x2 x3 x4 (x5 + 1) w h hl0
theorem vX6_hangs_b42 {x : CT} (hx : CX x cX6_hangs RX6 rmX6_hangs none) {w0 : Wd} (hq : RV x rmX6_hangs w0) {rec23 : Nat → Int32 → Int32 → Int32 → Wd → Option (Wd)} {rec32 : Nat → Int32 → Int32 → Int32 → Int32 → Wd → Option (Wd)} {rec42 : Nat → Int32 → Int32 → Int32 → Int32 → Int32 → Wd → Option (Wd)} {a0 : Nat} {x1 : Int32} {x2 : Int32} {x3 : Int32} {x4 : Int32} {x5 : Int32} {w : Wd} (hrec23 : ∀ (a0 : Nat) (x1 : Int32) (x2 : Int32) (x3 : Int32) (w : Wd), rec23 a0 x1 x2 x3 w = some w0 → (zL w 6 a0 = true) → V x 23 [some (.ref a0), some (.int x1), some (.int x2), some (.int x3), none, none] [] (Rp (xD x) w) 0 0) (hrec32 : ∀ (a0 : Nat) (x1 : Int32) (x2 : Int32) (x3 : Int32) (x4 : Int32) (w : Wd), rec32 a0 x1 x2 x3 x4 w = some w0 → (zL w 6 a0 = true) → V x 32 [some (.ref a0), some (.int x1), some (.int x2), some (.int x3), some (.int x4), none] [] (Rp (xD x) w) 0 0) (hrec42 : ∀ (a0 : Nat) (x1 : Int32) (x2 : Int32) (x3 : Int32) (x4 : Int32) (x5 : Int32) (w : Wd), rec42 a0 x1 x2 x3 x4 x5 w = some w0 → (zL w 6 a0 = true) → V x 42 [some (.ref a0), some (.int x1), some (.int x2), some (.int x3), some (.int x4), some (.int x5)] [] (Rp (xD x) w) 0 0) (hl0 : zL w 6 a0 = true) (h : fX6_hangs_b42 rec23 rec32 rec42 a0 x1 x2 x3 x4 x5 w = some w0) : V x 42 [some (.ref a0), some (.int x1), some (.int x2), some (.int x3), some (.int x4), some (.int x5)] [] (Rp (xD x) w) 0 0 := by
  unfold fX6_hangs_b42 at h
  refine v_iload (pc' := 44) hx dX6_hangs_42 rfl rfl ?_
  refine v_bipush (pc' := 46) (v := 24) hx dX6_hangs_44 (by decide) rfl ?_
  refine v_icmp_ge (tgt := 143) (pc' := 49) hx dX6_hangs_46 (by decide) rfl (fun hc_1 => ?_) (fun hc_1 => ?_)
  · rw [if_pos hc_1] at h
    refine v_iinc (pc' := 146) (w0 := (x4 + 1)) (L' := [some (.ref a0), some (.int x1), some (.int x2), some (.int x3), some (.int (x4 + 1)), some (.int x5)]) hx dX6_hangs_143 rfl rfl rfl rfl ?_
    refine v_goto (tgt := 32) hx dX6_hangs_146 (by decide) ?_
    refine V.sb (L' := [some (.ref a0), some (.int x1), some (.int x2), some (.int x3), some (.int (x4 + 1)), none]) ⟨Or.inr rfl, Or.inr rfl, Or.inr rfl, Or.inr rfl, Or.inr rfl, Or.inl rfl, trivial⟩ ?_
    exact hrec32 a0 x1 x2 x3 (x4 + 1) w h hl0
  · rw [if_neg hc_1] at h
    refine v_aload_n (pc' := 50) hx dX6_hangs_49 rfl rfl ?_
    obtain ⟨g_2, hq_3⟩ : ∃ q, zA w 6 a0 30 = q := ⟨_, rfl⟩
    refine v_getAq (pc' := 53) hx hl0 fi_6_30.1 (by decide) hq_3 fk_X6_64 dX6_hangs_50 rfl ?_
    refine v_iload (pc' := 55) hx dX6_hangs_53 rfl rfl ?_
    replace h := ckp_inv h; obtain ⟨hk_4, h⟩ := h
    refine v_ialdq (pc' := 56) hx hl0 fi_6_30.1 fi_6_30.2.1 rfl hk_4 hq_3 dX6_hangs_55 rfl ?_
    refine v_aload_n (pc' := 57) hx dX6_hangs_56 rfl rfl ?_
    obtain ⟨g_5, hq_6⟩ : ∃ q, zA w 6 a0 30 = q := ⟨_, rfl⟩
    refine v_getAq (pc' := 60) hx hl0 fi_6_30.1 (by decide) hq_6 fk_X6_64 dX6_hangs_57 rfl ?_
    refine v_iload (pc' := 62) hx dX6_hangs_60 rfl rfl ?_
    replace h := ckp_inv h; obtain ⟨hk_7, h⟩ := h
    refine v_ialdq (pc' := 63) hx hl0 fi_6_30.1 fi_6_30.2.1 rfl hk_7 hq_6 dX6_hangs_62 rfl ?_
    refine v_icmp_ge (tgt := 137) (pc' := 66) hx dX6_hangs_63 (by decide) rfl (fun hc_8 => ?_) (fun hc_8 => ?_)
    · rw [if_pos hc_8] at h
      exact vX6_hangs_b137 hx hq hrec23 hrec32 hrec42 hl0 h
    · rw [if_neg hc_8] at h
      refine v_aload_n (pc' := 67) hx dX6_hangs_66 rfl rfl ?_
      obtain ⟨g_9, hq_10⟩ : ∃ q, zA w 6 a0 7 = q := ⟨_, rfl⟩
      refine v_getAq (pc' := 70) hx hl0 fi_6_7.1 (by decide) hq_10 fk_X6_27 dX6_hangs_67 rfl ?_
      refine v_bipush (pc' := 72) (v := 24) hx dX6_hangs_70 (by decide) rfl ?_
      refine v_iload_n (pc' := 73) hx dX6_hangs_72 rfl rfl ?_
      refine v_imul (pc' := 74) hx dX6_hangs_73 rfl ?_
      refine v_iload (pc' := 76) hx dX6_hangs_74 rfl rfl ?_
      refine v_iadd (pc' := 77) hx dX6_hangs_76 rfl ?_
      replace h := ckp_inv h; obtain ⟨hk_11, h⟩ := h
      refine v_zaldq (pc' := 78) hx hl0 fi_6_7.1 fi_6_7.2.1 rfl hk_11 hq_10 dX6_hangs_77 rfl ?_
      refine v_if_eq (tgt := 137) (pc' := 81) hx dX6_hangs_78 (by decide) rfl (fun hc_12 => ?_) (fun hc_12 => ?_)
      · rw [if_pos hc_12] at h
        exact vX6_hangs_b137 hx hq hrec23 hrec32 hrec42 hl0 h
      · rw [if_neg hc_12] at h
        refine v_aload_n (pc' := 82) hx dX6_hangs_81 rfl rfl ?_
        obtain ⟨g_13, hq_14⟩ : ∃ q, zA w 6 a0 7 = q := ⟨_, rfl⟩
        refine v_getAq (pc' := 85) hx hl0 fi_6_7.1 (by decide) hq_14 fk_X6_27 dX6_hangs_82 rfl ?_
        refine v_bipush (pc' := 87) (v := 24) hx dX6_hangs_85 (by decide) rfl ?_
        refine v_iload_n (pc' := 88) hx dX6_hangs_87 rfl rfl ?_
        refine v_imul (pc' := 89) hx dX6_hangs_88 rfl ?_
        refine v_iload (pc' := 91) hx dX6_hangs_89 rfl rfl ?_
        refine v_iadd (pc' := 92) hx dX6_hangs_91 rfl ?_
        replace h := ckp_inv h; obtain ⟨hk_15, h⟩ := h
        refine v_zaldq (pc' := 93) hx hl0 fi_6_7.1 fi_6_7.2.1 rfl hk_15 hq_14 dX6_hangs_92 rfl ?_
        refine v_if_eq (tgt := 137) (pc' := 96) hx dX6_hangs_93 (by decide) rfl (fun hc_16 => ?_) (fun hc_16 => ?_)
        · rw [if_pos hc_16] at h
          exact vX6_hangs_b137 hx hq hrec23 hrec32 hrec42 hl0 h
        · rw [if_neg hc_16] at h
          refine v_aload_n (pc' := 97) hx dX6_hangs_96 rfl rfl ?_
          refine v_bipush (pc' := 99) (v := 24) hx dX6_hangs_97 (by decide) rfl ?_
          refine v_iload_n (pc' := 100) hx dX6_hangs_99 rfl rfl ?_
          refine v_imul (pc' := 101) hx dX6_hangs_100 rfl ?_
          refine v_iload (pc' := 103) hx dX6_hangs_101 rfl rfl ?_
          refine v_iadd (pc' := 104) hx dX6_hangs_103 rfl ?_
          refine v_bipush (pc' := 106) (v := 24) hx dX6_hangs_104 (by decide) rfl ?_
          refine v_iload_n (pc' := 107) hx dX6_hangs_106 rfl rfl ?_
          refine v_imul (pc' := 108) hx dX6_hangs_107 rfl ?_
          refine v_iload (pc' := 110) hx dX6_hangs_108 rfl rfl ?_
          refine v_iadd (pc' := 111) hx dX6_hangs_110 rfl ?_
          replace h := bd2_inv h; obtain ⟨y_18, w_19, hcl_17, h⟩ := h
          refine v_wf (fun hwf_20 => ?_)
          refine v_callVi (pc' := 114) (w' := w_19) (r := y_18) (ci := 6) (b := a0) (As := [.int ((24 * x1) + x4), .int ((24 * x1) + x5)]) (rest := []) hx hl0 (fun G sz hR => ctX6_distanceOf (xl x) (xD x) w G sz hR a0 ((24 * x1) + x4) ((24 * x1) + x5) hl0 hcl_17) rfl my_X6_distanceOf ml_X6_196 ⟨by decide, by decide⟩ ⟨by decide, by decide⟩ rfl rfl (Nat.le_of_ble_eq_true rfl) dX6_hangs_111 rfl ?_
          have hm_22 := kX6_distanceOf hcl_17 hwf_20
          have hl_23 : zL w_19 6 a0 = true := (hm_22.2 _ _ hl0).1
          refine v_iload_n (pc' := 115) hx dX6_hangs_114 rfl rfl ?_
          refine v_icmp_le (tgt := 121) (pc' := 118) hx dX6_hangs_115 (by decide) rfl (fun hc_24 => ?_) (fun hc_24 => ?_)
          · rw [if_pos hc_24] at h
            refine v_aload_n (pc' := 122) hx dX6_hangs_121 rfl rfl ?_
            obtain ⟨g_25, hq_26⟩ : ∃ q, zA w_19 6 a0 30 = q := ⟨_, rfl⟩
            refine v_getAq (pc' := 125) hx hl_23 fi_6_30.1 (by decide) hq_26 fk_X6_64 dX6_hangs_122 rfl ?_
            refine v_iload (pc' := 127) hx dX6_hangs_125 rfl rfl ?_
            refine v_aload_n (pc' := 128) hx dX6_hangs_127 rfl rfl ?_
            obtain ⟨g_27, hq_28⟩ : ∃ q, zA w_19 6 a0 30 = q := ⟨_, rfl⟩
            refine v_getAq (pc' := 131) hx hl_23 fi_6_30.1 (by decide) hq_28 fk_X6_64 dX6_hangs_128 rfl ?_
            refine v_iload (pc' := 133) hx dX6_hangs_131 rfl rfl ?_
            replace h := ckp_inv h; obtain ⟨hk_29, h⟩ := h
            refine v_ialdq (pc' := 134) hx hl_23 fi_6_30.1 fi_6_30.2.1 rfl hk_29 hq_28 dX6_hangs_133 rfl ?_
            replace h := ckp_inv h; obtain ⟨hk_30, h⟩ := h
            refine v_iastq (pc' := 135) hx hl_23 fi_6_30.1 fi_6_30.2.1 rfl hk_30 hq_26 dX6_hangs_134 rfl ?_
            replace h := lt_inv h; obtain ⟨w_31, ew_32, h⟩ := h
            rw [← ew_32]
            have hl_33 : zL w_31 6 a0 = true := by rw [ew_32]; exact hl_23
            have hwf_34 : WF w_31 := by rw [ew_32]; exact hm_22.1
            refine v_iconst (pc' := 136) (v := 1) hx dX6_hangs_135 (by decide) rfl ?_
            refine v_istore_n (pc' := 137) (L' := [some (.ref a0), some (.int x1), some (.int x2), some (.int 1), some (.int x4), some (.int x5)]) hx dX6_hangs_136 rfl rfl (Nat.le_of_ble_eq_true rfl) ?_
            exact vX6_hangs_b137 hx hq hrec23 hrec32 hrec42 hl_33 h
          · rw [if_neg hc_24] at h
            refine v_goto (tgt := 137) hx dX6_hangs_118 (by decide) ?_
            exact vX6_hangs_b137 hx hq hrec23 hrec32 hrec42 hl_23 h
theorem vX6_hangs_l42 {x : CT} (hx : CX x cX6_hangs RX6 rmX6_hangs none) {w0 : Wd} (hq : RV x rmX6_hangs w0) {rec23 : Nat → Int32 → Int32 → Int32 → Wd → Option (Wd)} {rec32 : Nat → Int32 → Int32 → Int32 → Int32 → Wd → Option (Wd)} (hrec23 : ∀ (a0 : Nat) (x1 : Int32) (x2 : Int32) (x3 : Int32) (w : Wd), rec23 a0 x1 x2 x3 w = some w0 → (zL w 6 a0 = true) → V x 23 [some (.ref a0), some (.int x1), some (.int x2), some (.int x3), none, none] [] (Rp (xD x) w) 0 0) (hrec32 : ∀ (a0 : Nat) (x1 : Int32) (x2 : Int32) (x3 : Int32) (x4 : Int32) (w : Wd), rec32 a0 x1 x2 x3 x4 w = some w0 → (zL w 6 a0 = true) → V x 32 [some (.ref a0), some (.int x1), some (.int x2), some (.int x3), some (.int x4), none] [] (Rp (xD x) w) 0 0) : ∀ (n : Nat) (a0 : Nat) (x1 : Int32) (x2 : Int32) (x3 : Int32) (x4 : Int32) (x5 : Int32) (w : Wd), (zL w 6 a0 = true) → fX6_hangs_l42 rec23 rec32 n a0 x1 x2 x3 x4 x5 w = some w0 → V x 42 [some (.ref a0), some (.int x1), some (.int x2), some (.int x3), some (.int x4), some (.int x5)] [] (Rp (xD x) w) 0 0 := by
  intro n
  induction n with
  | zero => intro a0 x1 x2 x3 x4 x5 w hl0 h; cases h
  | succ n ih =>
    intro a0 x1 x2 x3 x4 x5 w hl0 h
    exact vX6_hangs_b42 hx hq hrec23 hrec32 (fun a0 x1 x2 x3 x4 x5 w h hl0 => ih a0 x1 x2 x3 x4 x5 w hl0 h) hl0 h
theorem vX6_hangs_b32 {x : CT} (hx : CX x cX6_hangs RX6 rmX6_hangs none) {w0 : Wd} (hq : RV x rmX6_hangs w0) {rec23 : Nat → Int32 → Int32 → Int32 → Wd → Option (Wd)} {rec32 : Nat → Int32 → Int32 → Int32 → Int32 → Wd → Option (Wd)} {a0 : Nat} {x1 : Int32} {x2 : Int32} {x3 : Int32} {x4 : Int32} {w : Wd} (hrec23 : ∀ (a0 : Nat) (x1 : Int32) (x2 : Int32) (x3 : Int32) (w : Wd), rec23 a0 x1 x2 x3 w = some w0 → (zL w 6 a0 = true) → V x 23 [some (.ref a0), some (.int x1), some (.int x2), some (.int x3), none, none] [] (Rp (xD x) w) 0 0) (hrec32 : ∀ (a0 : Nat) (x1 : Int32) (x2 : Int32) (x3 : Int32) (x4 : Int32) (w : Wd), rec32 a0 x1 x2 x3 x4 w = some w0 → (zL w 6 a0 = true) → V x 32 [some (.ref a0), some (.int x1), some (.int x2), some (.int x3), some (.int x4), none] [] (Rp (xD x) w) 0 0) (hl0 : zL w 6 a0 = true) (h : fX6_hangs_b32 rec23 rec32 a0 x1 x2 x3 x4 w = some w0) : V x 32 [some (.ref a0), some (.int x1), some (.int x2), some (.int x3), some (.int x4), none] [] (Rp (xD x) w) 0 0 := by
  unfold fX6_hangs_b32 at h
  refine v_iload (pc' := 34) hx dX6_hangs_32 rfl rfl ?_
  refine v_bipush (pc' := 36) (v := 24) hx dX6_hangs_34 (by decide) rfl ?_
  refine v_icmp_ge (tgt := 149) (pc' := 39) hx dX6_hangs_36 (by decide) rfl (fun hc_1 => ?_) (fun hc_1 => ?_)
  · rw [if_pos hc_1] at h
    refine v_goto (tgt := 23) hx dX6_hangs_149 (by decide) ?_
    refine V.sb (L' := [some (.ref a0), some (.int x1), some (.int x2), some (.int x3), none, none]) ⟨Or.inr rfl, Or.inr rfl, Or.inr rfl, Or.inr rfl, Or.inl rfl, Or.inl rfl, trivial⟩ ?_
    exact hrec23 a0 x1 x2 x3 w h hl0
  · rw [if_neg hc_1] at h
    refine v_iconst (pc' := 40) (v := 0) hx dX6_hangs_39 (by decide) rfl ?_
    refine v_istore (pc' := 42) (L' := [some (.ref a0), some (.int x1), some (.int x2), some (.int x3), some (.int x4), some (.int 0)]) hx dX6_hangs_40 rfl rfl (Nat.le_of_ble_eq_true rfl) ?_
    exact vX6_hangs_l42 hx hq hrec23 hrec32 1000 a0 x1 x2 x3 x4 0 w hl0 h
theorem vX6_hangs_l32 {x : CT} (hx : CX x cX6_hangs RX6 rmX6_hangs none) {w0 : Wd} (hq : RV x rmX6_hangs w0) {rec23 : Nat → Int32 → Int32 → Int32 → Wd → Option (Wd)} (hrec23 : ∀ (a0 : Nat) (x1 : Int32) (x2 : Int32) (x3 : Int32) (w : Wd), rec23 a0 x1 x2 x3 w = some w0 → (zL w 6 a0 = true) → V x 23 [some (.ref a0), some (.int x1), some (.int x2), some (.int x3), none, none] [] (Rp (xD x) w) 0 0) : ∀ (n : Nat) (a0 : Nat) (x1 : Int32) (x2 : Int32) (x3 : Int32) (x4 : Int32) (w : Wd), (zL w 6 a0 = true) → fX6_hangs_l32 rec23 n a0 x1 x2 x3 x4 w = some w0 → V x 32 [some (.ref a0), some (.int x1), some (.int x2), some (.int x3), some (.int x4), none] [] (Rp (xD x) w) 0 0 := by
  intro n
  induction n with
  | zero => intro a0 x1 x2 x3 x4 w hl0 h; cases h
  | succ n ih =>
    intro a0 x1 x2 x3 x4 w hl0 h
    exact vX6_hangs_b32 hx hq hrec23 (fun a0 x1 x2 x3 x4 w h hl0 => ih a0 x1 x2 x3 x4 w hl0 h) hl0 h
theorem vX6_hangs_b23 {x : CT} (hx : CX x cX6_hangs RX6 rmX6_hangs none) {w0 : Wd} (hq : RV x rmX6_hangs w0) {rec23 : Nat → Int32 → Int32 → Int32 → Wd → Option (Wd)} {a0 : Nat} {x1 : Int32} {x2 : Int32} {x3 : Int32} {w : Wd} (hrec23 : ∀ (a0 : Nat) (x1 : Int32) (x2 : Int32) (x3 : Int32) (w : Wd), rec23 a0 x1 x2 x3 w = some w0 → (zL w 6 a0 = true) → V x 23 [some (.ref a0), some (.int x1), some (.int x2), some (.int x3), none, none] [] (Rp (xD x) w) 0 0) (hl0 : zL w 6 a0 = true) (h : fX6_hangs_b23 rec23 a0 x1 x2 x3 w = some w0) : V x 23 [some (.ref a0), some (.int x1), some (.int x2), some (.int x3), none, none] [] (Rp (xD x) w) 0 0 := by
  unfold fX6_hangs_b23 at h
  refine v_iload_n (pc' := 24) hx dX6_hangs_23 rfl rfl ?_
  refine v_if_eq (tgt := 152) (pc' := 27) hx dX6_hangs_24 (by decide) rfl (fun hc_1 => ?_) (fun hc_1 => ?_)
  · rw [if_pos hc_1] at h
    exact v_vret hx hq (by decide) (by decide) dX6_hangs_152 (by cases h; rfl)
  · rw [if_neg hc_1] at h
    refine v_iconst (pc' := 28) (v := 0) hx dX6_hangs_27 (by decide) rfl ?_
    refine v_istore_n (pc' := 29) (L' := [some (.ref a0), some (.int x1), some (.int x2), some (.int 0), none, none]) hx dX6_hangs_28 rfl rfl (Nat.le_of_ble_eq_true rfl) ?_
    refine v_iconst (pc' := 30) (v := 0) hx dX6_hangs_29 (by decide) rfl ?_
    refine v_istore (pc' := 32) (L' := [some (.ref a0), some (.int x1), some (.int x2), some (.int 0), some (.int 0), none]) hx dX6_hangs_30 rfl rfl (Nat.le_of_ble_eq_true rfl) ?_
    exact vX6_hangs_l32 hx hq hrec23 1000 a0 x1 x2 0 0 w hl0 h
theorem vX6_hangs_l23 {x : CT} (hx : CX x cX6_hangs RX6 rmX6_hangs none) {w0 : Wd} (hq : RV x rmX6_hangs w0) : ∀ (n : Nat) (a0 : Nat) (x1 : Int32) (x2 : Int32) (x3 : Int32) (w : Wd), (zL w 6 a0 = true) → fX6_hangs_l23  n a0 x1 x2 x3 w = some w0 → V x 23 [some (.ref a0), some (.int x1), some (.int x2), some (.int x3), none, none] [] (Rp (xD x) w) 0 0 := by
  intro n
  induction n with
  | zero => intro a0 x1 x2 x3 w hl0 h; cases h
  | succ n ih =>
    intro a0 x1 x2 x3 w hl0 h
    exact vX6_hangs_b23 hx hq  (fun a0 x1 x2 x3 w h hl0 => ih a0 x1 x2 x3 w hl0 h) hl0 h
theorem vX6_hangs_b2 {x : CT} (hx : CX x cX6_hangs RX6 rmX6_hangs none) {w0 : Wd} (hq : RV x rmX6_hangs w0) {rec2 : Nat → Int32 → Int32 → Int32 → Wd → Option (Wd)} {a0 : Nat} {x1 : Int32} {x2 : Int32} {x3 : Int32} {w : Wd} (hrec2 : ∀ (a0 : Nat) (x1 : Int32) (x2 : Int32) (x3 : Int32) (w : Wd), rec2 a0 x1 x2 x3 w = some w0 → (zL w 6 a0 = true) → V x 2 [some (.ref a0), some (.int x1), some (.int x2), some (.int x3), none, none] [] (Rp (xD x) w) 0 0) (hl0 : zL w 6 a0 = true) (h : fX6_hangs_b2 rec2 a0 x1 x2 x3 w = some w0) : V x 2 [some (.ref a0), some (.int x1), some (.int x2), some (.int x3), none, none] [] (Rp (xD x) w) 0 0 := by
  unfold fX6_hangs_b2 at h
  refine v_iload_n (pc' := 3) hx dX6_hangs_2 rfl rfl ?_
  refine v_bipush (pc' := 5) (v := 24) hx dX6_hangs_3 (by decide) rfl ?_
  refine v_icmp_ge (tgt := 21) (pc' := 8) hx dX6_hangs_5 (by decide) rfl (fun hc_1 => ?_) (fun hc_1 => ?_)
  · rw [if_pos hc_1] at h
    refine v_iconst (pc' := 22) (v := 1) hx dX6_hangs_21 (by decide) rfl ?_
    refine v_istore_n (pc' := 23) (L' := [some (.ref a0), some (.int x1), some (.int x2), some (.int 1), none, none]) hx dX6_hangs_22 rfl rfl (Nat.le_of_ble_eq_true rfl) ?_
    exact vX6_hangs_l23 hx hq 1000 a0 x1 x2 1 w hl0 h
  · rw [if_neg hc_1] at h
    refine v_aload_n (pc' := 9) hx dX6_hangs_8 rfl rfl ?_
    obtain ⟨g_2, hq_3⟩ : ∃ q, zA w 6 a0 30 = q := ⟨_, rfl⟩
    refine v_getAq (pc' := 12) hx hl0 fi_6_30.1 (by decide) hq_3 fk_X6_64 dX6_hangs_9 rfl ?_
    refine v_iload_n (pc' := 13) hx dX6_hangs_12 rfl rfl ?_
    refine v_iload_n (pc' := 14) hx dX6_hangs_13 rfl rfl ?_
    replace h := ckp_inv h; obtain ⟨hk_4, h⟩ := h
    refine v_iastq (pc' := 15) hx hl0 fi_6_30.1 fi_6_30.2.1 rfl hk_4 hq_3 dX6_hangs_14 rfl ?_
    replace h := lt_inv h; obtain ⟨w_5, ew_6, h⟩ := h
    rw [← ew_6]
    have hl_7 : zL w_5 6 a0 = true := by rw [ew_6]; exact hl0
    refine v_iinc (pc' := 18) (w0 := (x3 + 1)) (L' := [some (.ref a0), some (.int x1), some (.int x2), some (.int (x3 + 1)), none, none]) hx dX6_hangs_15 rfl rfl rfl rfl ?_
    refine v_goto (tgt := 2) hx dX6_hangs_18 (by decide) ?_
    exact hrec2 a0 x1 x2 (x3 + 1) w_5 h hl_7
theorem vX6_hangs_l2 {x : CT} (hx : CX x cX6_hangs RX6 rmX6_hangs none) {w0 : Wd} (hq : RV x rmX6_hangs w0) : ∀ (n : Nat) (a0 : Nat) (x1 : Int32) (x2 : Int32) (x3 : Int32) (w : Wd), (zL w 6 a0 = true) → fX6_hangs_l2  n a0 x1 x2 x3 w = some w0 → V x 2 [some (.ref a0), some (.int x1), some (.int x2), some (.int x3), none, none] [] (Rp (xD x) w) 0 0 := by
  intro n
  induction n with
  | zero => intro a0 x1 x2 x3 w hl0 h; cases h
  | succ n ih =>
    intro a0 x1 x2 x3 w hl0 h
    exact vX6_hangs_b2 hx hq  (fun a0 x1 x2 x3 w h hl0 => ih a0 x1 x2 x3 w hl0 h) hl0 h
theorem vX6_hangs {x : CT} (hx : CX x cX6_hangs RX6 rmX6_hangs none) {w0 : Wd} {w : Wd} (hq : RV x rmX6_hangs w0) (a0 : Nat) (x1 : Int32) (x2 : Int32) (hl0 : zL w 6 a0 = true) (h : fX6_hangs a0 x1 x2 w = some w0) : V x 0 [some (.ref a0), some (.int x1), some (.int x2), none, none, none] [] (Rp (xD x) w) 0 0 := by
  unfold fX6_hangs at h
  refine v_iconst (pc' := 1) (v := 0) hx dX6_hangs_0 (by decide) rfl ?_
  refine v_istore_n (pc' := 2) (L' := [some (.ref a0), some (.int x1), some (.int x2), some (.int 0), none, none]) hx dX6_hangs_1 rfl rfl (Nat.le_of_ble_eq_true rfl) ?_
  exact vX6_hangs_l2 hx hq 1000 a0 x1 x2 0 w hl0 h
theorem ctX6_hangs (l : Launch) (D : DD) (w : Wd) (G : GT) (sz : Nat) (hR : Rp D w G sz) (a0 : Nat) (x1 : Int32) (x2 : Int32) (hl0 : zL w 6 a0 = true) {w0 : Wd} (h : fX6_hangs a0 x1 x2 w = some w0) : MetV l yX6_hangs (WS yX6_hangs cX6_hangs 6 none) rmX6_hangs D [.ref a0, .int x1, .int x2] G sz w0 := by
  refine MetV_ofV (own := RX6) (P := Rp D w) hR (by decide) rfl (by simp [Value.category]) (Nat.le_of_ble_eq_true rfl) (fun x hx hq hD hl => ?_)
  subst hD
  exact vX6_hangs hx hq a0 x1 x2 hl0 h
theorem kX6_heaps_b71 {r0 : Int32} {w0 : Wd} {rec31 : Nat → Int32 → Int32 → Int32 → Wd → Option (Int32 × Wd)} {a0 : Nat} {x1 : Int32} {x4 : Int32} {xs0 : Int32} {xs1 : Int32} {w wb : Wd} (hkr31 : ∀ (a0 : Nat) (x1 : Int32) (x3 : Int32) (x4 : Int32) (w : Wd), rec31 a0 x1 x3 x4 w = some (r0, w0) → mo wb w → mo wb w0) (hm : mo wb w) (h : fX6_heaps_b71 rec31 a0 x1 x4 xs0 xs1 w = some (r0, w0)) : mo wb w0 := by
  unfold fX6_heaps_b71 at h
  exact hkr31 a0 x1 (xs1 + xs0) (x4 + 1) w h hm
theorem kX6_heaps_b70 {r0 : Int32} {w0 : Wd} {rec31 : Nat → Int32 → Int32 → Int32 → Wd → Option (Int32 × Wd)} {a0 : Nat} {x1 : Int32} {x4 : Int32} {xs0 : Int32} {w wb : Wd} (hkr31 : ∀ (a0 : Nat) (x1 : Int32) (x3 : Int32) (x4 : Int32) (w : Wd), rec31 a0 x1 x3 x4 w = some (r0, w0) → mo wb w → mo wb w0) (hm : mo wb w) (h : fX6_heaps_b70 rec31 a0 x1 x4 xs0 w = some (r0, w0)) : mo wb w0 := by
  unfold fX6_heaps_b70 at h
  exact kX6_heaps_b71 hkr31 hm h
theorem kX6_heaps_b31 {r0 : Int32} {w0 : Wd} {rec31 : Nat → Int32 → Int32 → Int32 → Wd → Option (Int32 × Wd)} {a0 : Nat} {x1 : Int32} {x3 : Int32} {x4 : Int32} {w wb : Wd} (hkr31 : ∀ (a0 : Nat) (x1 : Int32) (x3 : Int32) (x4 : Int32) (w : Wd), rec31 a0 x1 x3 x4 w = some (r0, w0) → mo wb w → mo wb w0) (hm : mo wb w) (h : fX6_heaps_b31 rec31 a0 x1 x3 x4 w = some (r0, w0)) : mo wb w0 := by
  unfold fX6_heaps_b31 at h
  by_cases hc_1 : 24 ≤ x4
  · rw [if_pos hc_1] at h
    cases h; exact hm
  · rw [if_neg hc_1] at h
    replace h := ckp_inv h; obtain ⟨hk_4, h⟩ := h
    by_cases hc_5 : (zI w 6 a0 7 (((24 * x1) + x4) : Int32).toNatClampNeg) = 0
    · rw [if_pos hc_5] at h
      exact kX6_heaps_b70 hkr31 hm h
    · rw [if_neg hc_5] at h
      replace h := ckp_inv h; obtain ⟨hk_8, h⟩ := h
      by_cases hc_9 : (zI w 6 a0 30 (x4 : Int32).toNatClampNeg) = x4
      · rw [if_pos hc_9] at h
        exact kX6_heaps_b71 hkr31 hm h
      · rw [if_neg hc_9] at h
        exact kX6_heaps_b70 hkr31 hm h
theorem kX6_heaps_l31 {r0 : Int32} {w0 : Wd} {wb : Wd} : ∀ (n : Nat) (a0 : Nat) (x1 : Int32) (x3 : Int32) (x4 : Int32) (w : Wd), mo wb w → fX6_heaps_l31  n a0 x1 x3 x4 w = some (r0, w0) → mo wb w0 := by
  intro n
  induction n with
  | zero => intro a0 x1 x3 x4 w hm h; cases h
  | succ n ih =>
    intro a0 x1 x3 x4 w hm h
    exact kX6_heaps_b31  (fun a0 x1 x3 x4 w h hm => ih a0 x1 x3 x4 w hm h) hm h
theorem kX6_heaps_b18 {r0 : Int32} {w0 : Wd} {w wb : Wd} (hm : mo wb w) (h : fX6_heaps_b18 w = some (r0, w0)) : mo wb w0 := by
  unfold fX6_heaps_b18 at h
  cases h; exact hm
theorem kX6_heaps {r0 : Int32} {w0 : Wd} {a0 : Nat} {x1 : Int32} {x2 : Int32} {w : Wd} (h : fX6_heaps a0 x1 x2 w = some (r0, w0)) : mo w w0 := by
  have hm := mo_rf w
  unfold fX6_heaps at h
  replace h := bd_inv h; obtain ⟨y_2, hcl_1, h⟩ := h
  by_cases hc_4 : y_2 = 0
  · rw [if_pos hc_4] at h
    exact kX6_heaps_b18 hm h
  · rw [if_neg hc_4] at h
    replace h := bd_inv h; obtain ⟨y_6, hcl_5, h⟩ := h
    by_cases hc_8 : y_6 = 0
    · rw [if_pos hc_8] at h
      exact kX6_heaps_b18 hm h
    · rw [if_neg hc_8] at h
      replace h := bd_inv h; obtain ⟨w_10, hcl_9, h⟩ := h
      have hm := hm.tr (kX6_hangs hcl_9)
      exact kX6_heaps_l31 1000 a0 x1 0 0 w_10 hm h
theorem vX6_heaps_b71 {x : CT} (hx : CX x cX6_heaps RX6 rmX6_heaps (some .int)) {r0 : Int32} {w0 : Wd} (hq : RI x rmX6_heaps r0 w0) {rec31 : Nat → Int32 → Int32 → Int32 → Wd → Option (Int32 × Wd)} {a0 : Nat} {x1 : Int32} {x4 : Int32} {xs0 : Int32} {xs1 : Int32} {w : Wd} (hrec31 : ∀ (a0 : Nat) (x1 : Int32) (x3 : Int32) (x4 : Int32) (w : Wd), rec31 a0 x1 x3 x4 w = some (r0, w0) → (zL w 6 a0 = true) → V x 31 [some (.ref a0), some (.int x1), none, some (.int x3), some (.int x4)] [] (Rp (xD x) w) 0 0) (hl0 : zL w 6 a0 = true) (h : fX6_heaps_b71 rec31 a0 x1 x4 xs0 xs1 w = some (r0, w0)) : V x 71 [some (.ref a0), some (.int x1), none, none, some (.int x4)] [.int xs0, .int xs1] (Rp (xD x) w) 0 0 := by
  unfold fX6_heaps_b71 at h
  refine v_iadd (pc' := 72) hx dX6_heaps_71 rfl ?_
  refine v_istore_n (pc' := 73) (L' := [some (.ref a0), some (.int x1), none, some (.int (xs1 + xs0)), some (.int x4)]) hx dX6_heaps_72 rfl rfl (Nat.le_of_ble_eq_true rfl) ?_
  refine v_iinc (pc' := 76) (w0 := (x4 + 1)) (L' := [some (.ref a0), some (.int x1), none, some (.int (xs1 + xs0)), some (.int (x4 + 1))]) hx dX6_heaps_73 rfl rfl rfl rfl ?_
  refine v_goto (tgt := 31) hx dX6_heaps_76 (by decide) ?_
  exact hrec31 a0 x1 (xs1 + xs0) (x4 + 1) w h hl0
theorem vX6_heaps_b70 {x : CT} (hx : CX x cX6_heaps RX6 rmX6_heaps (some .int)) {r0 : Int32} {w0 : Wd} (hq : RI x rmX6_heaps r0 w0) {rec31 : Nat → Int32 → Int32 → Int32 → Wd → Option (Int32 × Wd)} {a0 : Nat} {x1 : Int32} {x4 : Int32} {xs0 : Int32} {w : Wd} (hrec31 : ∀ (a0 : Nat) (x1 : Int32) (x3 : Int32) (x4 : Int32) (w : Wd), rec31 a0 x1 x3 x4 w = some (r0, w0) → (zL w 6 a0 = true) → V x 31 [some (.ref a0), some (.int x1), none, some (.int x3), some (.int x4)] [] (Rp (xD x) w) 0 0) (hl0 : zL w 6 a0 = true) (h : fX6_heaps_b70 rec31 a0 x1 x4 xs0 w = some (r0, w0)) : V x 70 [some (.ref a0), some (.int x1), none, none, some (.int x4)] [.int xs0] (Rp (xD x) w) 0 0 := by
  unfold fX6_heaps_b70 at h
  refine v_iconst (pc' := 71) (v := 0) hx dX6_heaps_70 (by decide) rfl ?_
  exact vX6_heaps_b71 hx hq hrec31 hl0 h
theorem vX6_heaps_b31 {x : CT} (hx : CX x cX6_heaps RX6 rmX6_heaps (some .int)) {r0 : Int32} {w0 : Wd} (hq : RI x rmX6_heaps r0 w0) {rec31 : Nat → Int32 → Int32 → Int32 → Wd → Option (Int32 × Wd)} {a0 : Nat} {x1 : Int32} {x3 : Int32} {x4 : Int32} {w : Wd} (hrec31 : ∀ (a0 : Nat) (x1 : Int32) (x3 : Int32) (x4 : Int32) (w : Wd), rec31 a0 x1 x3 x4 w = some (r0, w0) → (zL w 6 a0 = true) → V x 31 [some (.ref a0), some (.int x1), none, some (.int x3), some (.int x4)] [] (Rp (xD x) w) 0 0) (hl0 : zL w 6 a0 = true) (h : fX6_heaps_b31 rec31 a0 x1 x3 x4 w = some (r0, w0)) : V x 31 [some (.ref a0), some (.int x1), none, some (.int x3), some (.int x4)] [] (Rp (xD x) w) 0 0 := by
  unfold fX6_heaps_b31 at h
  refine v_iload (pc' := 33) hx dX6_heaps_31 rfl rfl ?_
  refine v_bipush (pc' := 35) (v := 24) hx dX6_heaps_33 (by decide) rfl ?_
  refine v_icmp_ge (tgt := 79) (pc' := 38) hx dX6_heaps_35 (by decide) rfl (fun hc_1 => ?_) (fun hc_1 => ?_)
  · rw [if_pos hc_1] at h
    refine v_iload_n (pc' := 80) hx dX6_heaps_79 rfl rfl ?_
    exact v_iret hx hq (by decide) (by decide) dX6_heaps_80 (by cases h; rfl)
  · rw [if_neg hc_1] at h
    refine v_iload_n (pc' := 39) hx dX6_heaps_38 rfl rfl ?_
    refine v_aload_n (pc' := 40) hx dX6_heaps_39 rfl rfl ?_
    obtain ⟨g_2, hq_3⟩ : ∃ q, zA w 6 a0 7 = q := ⟨_, rfl⟩
    refine v_getAq (pc' := 43) hx hl0 fi_6_7.1 (by decide) hq_3 fk_X6_27 dX6_heaps_40 rfl ?_
    refine v_bipush (pc' := 45) (v := 24) hx dX6_heaps_43 (by decide) rfl ?_
    refine v_iload_n (pc' := 46) hx dX6_heaps_45 rfl rfl ?_
    refine v_imul (pc' := 47) hx dX6_heaps_46 rfl ?_
    refine v_iload (pc' := 49) hx dX6_heaps_47 rfl rfl ?_
    refine v_iadd (pc' := 50) hx dX6_heaps_49 rfl ?_
    replace h := ckp_inv h; obtain ⟨hk_4, h⟩ := h
    refine v_zaldq (pc' := 51) hx hl0 fi_6_7.1 fi_6_7.2.1 rfl hk_4 hq_3 dX6_heaps_50 rfl ?_
    refine v_if_eq (tgt := 70) (pc' := 54) hx dX6_heaps_51 (by decide) rfl (fun hc_5 => ?_) (fun hc_5 => ?_)
    · rw [if_pos hc_5] at h
      refine V.sb (L' := [some (.ref a0), some (.int x1), none, none, some (.int x4)]) ⟨Or.inr rfl, Or.inr rfl, Or.inl rfl, Or.inl rfl, Or.inr rfl, trivial⟩ ?_
      exact vX6_heaps_b70 hx hq hrec31 hl0 h
    · rw [if_neg hc_5] at h
      refine v_aload_n (pc' := 55) hx dX6_heaps_54 rfl rfl ?_
      obtain ⟨g_6, hq_7⟩ : ∃ q, zA w 6 a0 30 = q := ⟨_, rfl⟩
      refine v_getAq (pc' := 58) hx hl0 fi_6_30.1 (by decide) hq_7 fk_X6_64 dX6_heaps_55 rfl ?_
      refine v_iload (pc' := 60) hx dX6_heaps_58 rfl rfl ?_
      replace h := ckp_inv h; obtain ⟨hk_8, h⟩ := h
      refine v_ialdq (pc' := 61) hx hl0 fi_6_30.1 fi_6_30.2.1 rfl hk_8 hq_7 dX6_heaps_60 rfl ?_
      refine v_iload (pc' := 63) hx dX6_heaps_61 rfl rfl ?_
      refine v_icmp_ne (tgt := 70) (pc' := 66) hx dX6_heaps_63 (by decide) rfl (fun hc_9 => ?_) (fun hc_9 => ?_)
      · rw [if_neg hc_9] at h
        refine V.sb (L' := [some (.ref a0), some (.int x1), none, none, some (.int x4)]) ⟨Or.inr rfl, Or.inr rfl, Or.inl rfl, Or.inl rfl, Or.inr rfl, trivial⟩ ?_
        exact vX6_heaps_b70 hx hq hrec31 hl0 h
      · rw [if_pos hc_9] at h
        refine v_iconst (pc' := 67) (v := 1) hx dX6_heaps_66 (by decide) rfl ?_
        refine v_goto (tgt := 71) hx dX6_heaps_67 (by decide) ?_
        refine V.sb (L' := [some (.ref a0), some (.int x1), none, none, some (.int x4)]) ⟨Or.inr rfl, Or.inr rfl, Or.inl rfl, Or.inl rfl, Or.inr rfl, trivial⟩ ?_
        exact vX6_heaps_b71 hx hq hrec31 hl0 h
theorem vX6_heaps_l31 {x : CT} (hx : CX x cX6_heaps RX6 rmX6_heaps (some .int)) {r0 : Int32} {w0 : Wd} (hq : RI x rmX6_heaps r0 w0) : ∀ (n : Nat) (a0 : Nat) (x1 : Int32) (x3 : Int32) (x4 : Int32) (w : Wd), (zL w 6 a0 = true) → fX6_heaps_l31  n a0 x1 x3 x4 w = some (r0, w0) → V x 31 [some (.ref a0), some (.int x1), none, some (.int x3), some (.int x4)] [] (Rp (xD x) w) 0 0 := by
  intro n
  induction n with
  | zero => intro a0 x1 x3 x4 w hl0 h; cases h
  | succ n ih =>
    intro a0 x1 x3 x4 w hl0 h
    exact vX6_heaps_b31 hx hq  (fun a0 x1 x3 x4 w h hl0 => ih a0 x1 x3 x4 w hl0 h) hl0 h
theorem vX6_heaps_b18 {x : CT} (hx : CX x cX6_heaps RX6 rmX6_heaps (some .int)) {r0 : Int32} {w0 : Wd} (hq : RI x rmX6_heaps r0 w0) {w : Wd} (h : fX6_heaps_b18 w = some (r0, w0)) : V x 18 [none, none, none, none, none] [] (Rp (xD x) w) 0 0 := by
  unfold fX6_heaps_b18 at h
  refine v_iconst (pc' := 19) (v := (-1)) hx dX6_heaps_18 (by decide) rfl ?_
  exact v_iret hx hq (by decide) (by decide) dX6_heaps_19 (by cases h; rfl)
theorem vX6_heaps {x : CT} (hx : CX x cX6_heaps RX6 rmX6_heaps (some .int)) {r0 : Int32} {w0 : Wd} {w : Wd} (hq : RI x rmX6_heaps r0 w0) (a0 : Nat) (x1 : Int32) (x2 : Int32) (hl0 : zL w 6 a0 = true) (h : fX6_heaps a0 x1 x2 w = some (r0, w0)) : V x 0 [some (.ref a0), some (.int x1), some (.int x2), none, none] [] (Rp (xD x) w) 0 0 := by
  unfold fX6_heaps at h
  refine v_aload_n (pc' := 1) hx dX6_heaps_0 rfl rfl ?_
  refine v_iload_n (pc' := 2) hx dX6_heaps_1 rfl rfl ?_
  replace h := bd_inv h; obtain ⟨y_2, hcl_1, h⟩ := h
  refine v_callVi (pc' := 5) (w' := w) (r := y_2) (ci := 6) (b := a0) (As := [.int x1]) (rest := []) hx hl0 (fun G sz hR => ctX6_isPicture (xl x) (xD x) w G sz hR a0 x1 hl0 hcl_1) rfl my_X6_isPicture ml_X6_145 ⟨by decide, by decide⟩ ⟨by decide, by decide⟩ rfl rfl (Nat.le_of_ble_eq_true rfl) dX6_heaps_2 rfl ?_
  refine v_if_eq (tgt := 18) (pc' := 8) hx dX6_heaps_5 (by decide) rfl (fun hc_4 => ?_) (fun hc_4 => ?_)
  · rw [if_pos hc_4] at h
    refine V.sb (L' := [none, none, none, none, none]) ⟨Or.inl rfl, Or.inl rfl, Or.inl rfl, Or.inl rfl, Or.inl rfl, trivial⟩ ?_
    exact vX6_heaps_b18 hx hq h
  · rw [if_neg hc_4] at h
    refine v_iload_n (pc' := 9) hx dX6_heaps_8 rfl rfl ?_
    refine v_iconst (pc' := 10) (v := 0) hx dX6_heaps_9 (by decide) rfl ?_
    refine v_bipush (pc' := 12) (v := 24) hx dX6_heaps_10 (by decide) rfl ?_
    replace h := bd_inv h; obtain ⟨y_6, hcl_5, h⟩ := h
    refine v_callSi (pc' := 15) (w' := w) (r := y_6) (As := [.int x2, .int 0, .int 24]) (rest := []) hx (fun G sz hR => ctX6_lies (xl x) (xD x) w G sz hR x2 0 24  hcl_5) my_X6_lies ml_X6_84 ⟨by decide, by decide⟩ ⟨by decide, by decide⟩ rfl rfl (Nat.le_of_ble_eq_true rfl) dX6_heaps_12 rfl ?_
    refine v_if_ne (tgt := 20) (pc' := 18) hx dX6_heaps_15 (by decide) rfl (fun hc_8 => ?_) (fun hc_8 => ?_)
    · rw [if_neg hc_8] at h
      refine v_aload_n (pc' := 21) hx dX6_heaps_20 rfl rfl ?_
      refine v_iload_n (pc' := 22) hx dX6_heaps_21 rfl rfl ?_
      refine v_iload_n (pc' := 23) hx dX6_heaps_22 rfl rfl ?_
      replace h := bd_inv h; obtain ⟨w_10, hcl_9, h⟩ := h
      refine v_wf (fun hwf_11 => ?_)
      refine v_callVv (pc' := 26) (w' := w_10) (ci := 6) (b := a0) (As := [.int x1, .int x2]) (rest := []) hx hl0 (fun G sz hR => ctX6_hangs (xl x) (xD x) w G sz hR a0 x1 x2 hl0 hcl_9) rfl my_X6_hangs ml_X6_199 ⟨by decide, by decide⟩ ⟨by decide, by decide⟩ rfl rfl (Nat.le_of_ble_eq_true rfl) dX6_heaps_23 rfl ?_
      have hm_13 := kX6_hangs hcl_9 hwf_11
      have hl_14 : zL w_10 6 a0 = true := (hm_13.2 _ _ hl0).1
      refine v_iconst (pc' := 27) (v := 0) hx dX6_heaps_26 (by decide) rfl ?_
      refine v_istore_n (pc' := 28) (L' := [some (.ref a0), some (.int x1), some (.int x2), some (.int 0), none]) hx dX6_heaps_27 rfl rfl (Nat.le_of_ble_eq_true rfl) ?_
      refine v_iconst (pc' := 29) (v := 0) hx dX6_heaps_28 (by decide) rfl ?_
      refine v_istore (pc' := 31) (L' := [some (.ref a0), some (.int x1), some (.int x2), some (.int 0), some (.int 0)]) hx dX6_heaps_29 rfl rfl (Nat.le_of_ble_eq_true rfl) ?_
      refine V.sb (L' := [some (.ref a0), some (.int x1), none, some (.int 0), some (.int 0)]) ⟨Or.inr rfl, Or.inr rfl, Or.inl rfl, Or.inr rfl, Or.inr rfl, trivial⟩ ?_
      exact vX6_heaps_l31 hx hq 1000 a0 x1 0 0 w_10 hl_14 h
    · rw [if_pos hc_8] at h
      refine V.sb (L' := [none, none, none, none, none]) ⟨Or.inl rfl, Or.inl rfl, Or.inl rfl, Or.inl rfl, Or.inl rfl, trivial⟩ ?_
      exact vX6_heaps_b18 hx hq h
theorem ctX6_heaps (l : Launch) (D : DD) (w : Wd) (G : GT) (sz : Nat) (hR : Rp D w G sz) (a0 : Nat) (x1 : Int32) (x2 : Int32) (hl0 : zL w 6 a0 = true) {r0 : Int32} {w0 : Wd} (h : fX6_heaps a0 x1 x2 w = some (r0, w0)) : MetI l yX6_heaps (WS yX6_heaps cX6_heaps 5 (some .int)) rmX6_heaps D [.ref a0, .int x1, .int x2] G sz r0 w0 := by
  refine MetI_ofV (own := RX6) (P := Rp D w) hR (by decide) rfl (by simp [Value.category]) (Nat.le_of_ble_eq_true rfl) (fun x hx hq hD hl => ?_)
  subst hD
  exact vX6_heaps hx hq a0 x1 x2 hl0 h
theorem vX5_heap_b28 {x : CT} (hx : CX x cX5_heap RX5 rmX5_heap (some .int)) {r0 : Int32} {w : Wd} (hq : RI x rmX5_heap r0 w) (h : fX5_heap_b28 w = some r0) : V x 28 [none, none, none, none, none] [] (Rp (xD x) w) 0 0 := by
  unfold fX5_heap_b28 at h
  refine v_iconst (pc' := 29) (v := (-1)) hx dX5_heap_28 (by decide) rfl ?_
  exact v_iret hx hq (by decide) (by decide) dX5_heap_29 (by cases h; rfl)
theorem vX5_heap {x : CT} (hx : CX x cX5_heap RX5 rmX5_heap (some .int)) {r0 : Int32} {w : Wd} (hq : RI x rmX5_heap r0 w) (a0 : Nat) (x1 : Int32) (x2 : Int32) (x3 : Int32) (hl0 : zL w 5 a0 = true) (h : fX5_heap a0 x1 x2 x3 w = some r0) : V x 0 [some (.ref a0), some (.int x1), some (.int x2), some (.int x3), none] [] (Rp (xD x) w) 0 0 := by
  unfold fX5_heap at h
  refine v_aload_n (pc' := 1) hx dX5_heap_0 rfl rfl ?_
  refine v_iload_n (pc' := 2) hx dX5_heap_1 rfl rfl ?_
  replace h := bd_inv h; obtain ⟨u_2, hcl_1, h⟩ := h
  refine v_callVq (pc' := 5) (w' := w) (q := u_2) (ci := 5) (b := a0) (As := [.int x1]) (rest := []) hx hl0 (fun G sz hR => ctX5_pictureAt (xl x) (xD x) w G sz hR a0 x1 hl0 hcl_1) rfl my_X5_pictureAt ml_X5_74 ⟨by decide, by decide⟩ ⟨by decide, by decide⟩ rfl rfl (Nat.le_of_ble_eq_true rfl) dX5_heap_2 rfl (fun hl_3 => ?_)
  refine v_astoreq (pc' := 7) (L' := [some (.ref a0), some (.int x1), some (.int x2), some (.int x3), some (va_rf u_2)]) hx dX5_heap_5 rfl rfl (Nat.le_of_ble_eq_true rfl) ?_
  refine v_aloadq (pc' := 9) hx dX5_heap_7 rfl rfl ?_
  refine v_ifnull (tgt := 28) (pc' := 12) hx dX5_heap_9 (by decide) rfl (fun hn_5 => ?_) (fun b_4 hn_5 => ?_)
  · subst hn_5
    rw [oc_n] at h
    refine V.sb (L' := [none, none, none, none, none]) ⟨Or.inl rfl, Or.inl rfl, Or.inl rfl, Or.inl rfl, Or.inl rfl, trivial⟩ ?_
    exact vX5_heap_b28 hx hq h
  · subst hn_5
    rw [oc_s] at h
    have hl_6 : zL w 1 b_4 = true := hl_3 _ rfl
    refine v_aload (pc' := 14) hx dX5_heap_12 rfl rfl ?_
    refine v_iload_n (pc' := 15) hx dX5_heap_14 rfl rfl ?_
    replace h := bd_inv h; obtain ⟨u_8, hcl_7, h⟩ := h
    refine v_callVq (pc' := 18) (w' := w) (q := u_8) (ci := 1) (b := b_4) (As := [.int x3]) (rest := []) hx hl_6 (fun G sz hR => ctX1_rowOf (xl x) (xD x) w G sz hR b_4 x3 hl_6 hcl_7) rfl my_X1_rowOf ml_X5_119 ⟨by decide, by decide⟩ ⟨by decide, by decide⟩ rfl rfl (Nat.le_of_ble_eq_true rfl) dX5_heap_15 rfl (fun hl_9 => ?_)
    refine v_ifnull (tgt := 28) (pc' := 21) hx dX5_heap_18 (by decide) rfl (fun hn_11 => ?_) (fun b_10 hn_11 => ?_)
    · subst hn_11
      rw [oc_n] at h
      refine V.sb (L' := [none, none, none, none, none]) ⟨Or.inl rfl, Or.inl rfl, Or.inl rfl, Or.inl rfl, Or.inl rfl, trivial⟩ ?_
      exact vX5_heap_b28 hx hq h
    · subst hn_11
      rw [oc_s] at h
      have hl_12 : zL w 2 b_10 = true := hl_9 _ rfl
      refine v_iload_n (pc' := 22) hx dX5_heap_21 rfl rfl ?_
      replace h := bd_inv h; obtain ⟨y_14, hcl_13, h⟩ := h
      refine v_callSi (pc' := 25) (w' := w) (r := y_14) (As := [.int x2]) (rest := []) hx (fun G sz hR => ctX5_isHeapWidth (xl x) (xD x) w G sz hR x2  hcl_13) my_X5_isHeapWidth ml_X5_151 ⟨by decide, by decide⟩ ⟨by decide, by decide⟩ rfl rfl (Nat.le_of_ble_eq_true rfl) dX5_heap_22 rfl ?_
      refine v_if_ne (tgt := 30) (pc' := 28) hx dX5_heap_25 (by decide) rfl (fun hc_16 => ?_) (fun hc_16 => ?_)
      · rw [if_neg hc_16] at h
        refine v_aload (pc' := 32) hx dX5_heap_30 rfl rfl ?_
        refine v_iload_n (pc' := 33) hx dX5_heap_32 rfl rfl ?_
        refine v_iload_n (pc' := 34) hx dX5_heap_33 rfl rfl ?_
        replace h := bd_inv h; obtain ⟨y_18, hcl_17, h⟩ := h
        refine v_callVi (pc' := 37) (w' := w) (r := y_18) (ci := 1) (b := b_4) (As := [.int x3, .int x2]) (rest := []) hx hl_6 (fun G sz hR => ctX1_heapOf (xl x) (xD x) w G sz hR b_4 x3 x2 hl_6 hcl_17) rfl my_X1_heapOf ml_X5_157 ⟨by decide, by decide⟩ ⟨by decide, by decide⟩ rfl rfl (Nat.le_of_ble_eq_true rfl) dX5_heap_34 rfl ?_
        replace h := bd_inv h; obtain ⟨y_21, hcl_20, h⟩ := h
        refine v_callSi (pc' := 40) (w' := w) (r := y_21) (As := [.int y_18]) (rest := []) hx (fun G sz hR => ctX5_lowestOf (xl x) (xD x) w G sz hR y_18  hcl_20) my_X5_lowestOf ml_X5_160 ⟨by decide, by decide⟩ ⟨by decide, by decide⟩ rfl rfl (Nat.le_of_ble_eq_true rfl) dX5_heap_37 rfl ?_
        exact v_iret hx hq (by decide) (by decide) dX5_heap_40 (by cases h; rfl)
      · rw [if_pos hc_16] at h
        refine V.sb (L' := [none, none, none, none, none]) ⟨Or.inl rfl, Or.inl rfl, Or.inl rfl, Or.inl rfl, Or.inl rfl, trivial⟩ ?_
        exact vX5_heap_b28 hx hq h
theorem ctX5_heap (l : Launch) (D : DD) (w : Wd) (G : GT) (sz : Nat) (hR : Rp D w G sz) (a0 : Nat) (x1 : Int32) (x2 : Int32) (x3 : Int32) (hl0 : zL w 5 a0 = true) {r0 : Int32} (h : fX5_heap a0 x1 x2 x3 w = some r0) : MetI l yX5_heap (WS yX5_heap cX5_heap 5 (some .int)) rmX5_heap D [.ref a0, .int x1, .int x2, .int x3] G sz r0 w := by
  refine MetI_ofV (own := RX5) (P := Rp D w) hR (by decide) rfl (by simp [Value.category]) (Nat.le_of_ble_eq_true rfl) (fun x hx hq hD hl => ?_)
  subst hD
  exact vX5_heap hx hq a0 x1 x2 x3 hl0 h
theorem kX6_heap_b19 {r0 : Int32} {w0 : Wd} {w wb : Wd} (hm : mo wb w) (h : fX6_heap_b19 w = some (r0, w0)) : mo wb w0 := by
  unfold fX6_heap_b19 at h
  cases h; exact hm
theorem kX6_heap {r0 : Int32} {w0 : Wd} {a0 : Nat} {x1 : Int32} {x2 : Int32} {x3 : Int32} {w : Wd} (h : fX6_heap a0 x1 x2 x3 w = some (r0, w0)) : mo w w0 := by
  have hm := mo_rf w
  unfold fX6_heap at h
  replace h := bd_inv h; obtain ⟨y_2, hcl_1, h⟩ := h
  by_cases hc_4 : y_2 = 0
  · rw [if_pos hc_4] at h
    exact kX6_heap_b19 hm h
  · rw [if_neg hc_4] at h
    replace h := bd_inv h; obtain ⟨y_6, hcl_5, h⟩ := h
    by_cases hc_8 : y_6 = 0
    · rw [if_pos hc_8] at h
      exact kX6_heap_b19 hm h
    · rw [if_neg hc_8] at h
      replace h := bd_inv h; obtain ⟨w_10, hcl_9, h⟩ := h
      have hm := hm.tr (kX6_hangs hcl_9)
      replace h := ckp_inv h; obtain ⟨hk_17, h⟩ := h
      cases h; exact hm
theorem vX6_heap_b19 {x : CT} (hx : CX x cX6_heap RX6 rmX6_heap (some .int)) {r0 : Int32} {w0 : Wd} (hq : RI x rmX6_heap r0 w0) {w : Wd} (h : fX6_heap_b19 w = some (r0, w0)) : V x 19 [none, none, none, none] [] (Rp (xD x) w) 0 0 := by
  unfold fX6_heap_b19 at h
  refine v_iconst (pc' := 20) (v := (-1)) hx dX6_heap_19 (by decide) rfl ?_
  exact v_iret hx hq (by decide) (by decide) dX6_heap_20 (by cases h; rfl)
theorem vX6_heap {x : CT} (hx : CX x cX6_heap RX6 rmX6_heap (some .int)) {r0 : Int32} {w0 : Wd} {w : Wd} (hq : RI x rmX6_heap r0 w0) (a0 : Nat) (x1 : Int32) (x2 : Int32) (x3 : Int32) (hl0 : zL w 6 a0 = true) (h : fX6_heap a0 x1 x2 x3 w = some (r0, w0)) : V x 0 [some (.ref a0), some (.int x1), some (.int x2), some (.int x3)] [] (Rp (xD x) w) 0 0 := by
  unfold fX6_heap at h
  refine v_aload_n (pc' := 1) hx dX6_heap_0 rfl rfl ?_
  refine v_iload_n (pc' := 2) hx dX6_heap_1 rfl rfl ?_
  refine v_iload_n (pc' := 3) hx dX6_heap_2 rfl rfl ?_
  replace h := bd_inv h; obtain ⟨y_2, hcl_1, h⟩ := h
  refine v_callVi (pc' := 6) (w' := w) (r := y_2) (ci := 6) (b := a0) (As := [.int x1, .int x3]) (rest := []) hx hl0 (fun G sz hR => ctX6_isThere (xl x) (xD x) w G sz hR a0 x1 x3 hl0 hcl_1) rfl my_X6_isThere ml_X6_149 ⟨by decide, by decide⟩ ⟨by decide, by decide⟩ rfl rfl (Nat.le_of_ble_eq_true rfl) dX6_heap_3 rfl ?_
  refine v_if_eq (tgt := 19) (pc' := 9) hx dX6_heap_6 (by decide) rfl (fun hc_4 => ?_) (fun hc_4 => ?_)
  · rw [if_pos hc_4] at h
    refine V.sb (L' := [none, none, none, none]) ⟨Or.inl rfl, Or.inl rfl, Or.inl rfl, Or.inl rfl, trivial⟩ ?_
    exact vX6_heap_b19 hx hq h
  · rw [if_neg hc_4] at h
    refine v_iload_n (pc' := 10) hx dX6_heap_9 rfl rfl ?_
    refine v_iconst (pc' := 11) (v := 0) hx dX6_heap_10 (by decide) rfl ?_
    refine v_bipush (pc' := 13) (v := 24) hx dX6_heap_11 (by decide) rfl ?_
    replace h := bd_inv h; obtain ⟨y_6, hcl_5, h⟩ := h
    refine v_callSi (pc' := 16) (w' := w) (r := y_6) (As := [.int x2, .int 0, .int 24]) (rest := []) hx (fun G sz hR => ctX6_lies (xl x) (xD x) w G sz hR x2 0 24  hcl_5) my_X6_lies ml_X6_84 ⟨by decide, by decide⟩ ⟨by decide, by decide⟩ rfl rfl (Nat.le_of_ble_eq_true rfl) dX6_heap_13 rfl ?_
    refine v_if_ne (tgt := 21) (pc' := 19) hx dX6_heap_16 (by decide) rfl (fun hc_8 => ?_) (fun hc_8 => ?_)
    · rw [if_neg hc_8] at h
      refine v_aload_n (pc' := 22) hx dX6_heap_21 rfl rfl ?_
      refine v_iload_n (pc' := 23) hx dX6_heap_22 rfl rfl ?_
      refine v_iload_n (pc' := 24) hx dX6_heap_23 rfl rfl ?_
      replace h := bd_inv h; obtain ⟨w_10, hcl_9, h⟩ := h
      refine v_wf (fun hwf_11 => ?_)
      refine v_callVv (pc' := 27) (w' := w_10) (ci := 6) (b := a0) (As := [.int x1, .int x2]) (rest := []) hx hl0 (fun G sz hR => ctX6_hangs (xl x) (xD x) w G sz hR a0 x1 x2 hl0 hcl_9) rfl my_X6_hangs ml_X6_199 ⟨by decide, by decide⟩ ⟨by decide, by decide⟩ rfl rfl (Nat.le_of_ble_eq_true rfl) dX6_heap_24 rfl ?_
      have hm_13 := kX6_hangs hcl_9 hwf_11
      have hl_14 : zL w_10 6 a0 = true := (hm_13.2 _ _ hl0).1
      refine v_aload_n (pc' := 28) hx dX6_heap_27 rfl rfl ?_
      obtain ⟨g_15, hq_16⟩ : ∃ q, zA w_10 6 a0 30 = q := ⟨_, rfl⟩
      refine v_getAq (pc' := 31) hx hl_14 fi_6_30.1 (by decide) hq_16 fk_X6_64 dX6_heap_28 rfl ?_
      refine v_iload_n (pc' := 32) hx dX6_heap_31 rfl rfl ?_
      replace h := ckp_inv h; obtain ⟨hk_17, h⟩ := h
      refine v_ialdq (pc' := 33) hx hl_14 fi_6_30.1 fi_6_30.2.1 rfl hk_17 hq_16 dX6_heap_32 rfl ?_
      exact v_iret hx hq (by decide) (by decide) dX6_heap_33 (by cases h; rfl)
    · rw [if_pos hc_8] at h
      refine V.sb (L' := [none, none, none, none]) ⟨Or.inl rfl, Or.inl rfl, Or.inl rfl, Or.inl rfl, trivial⟩ ?_
      exact vX6_heap_b19 hx hq h
theorem ctX6_heap (l : Launch) (D : DD) (w : Wd) (G : GT) (sz : Nat) (hR : Rp D w G sz) (a0 : Nat) (x1 : Int32) (x2 : Int32) (x3 : Int32) (hl0 : zL w 6 a0 = true) {r0 : Int32} {w0 : Wd} (h : fX6_heap a0 x1 x2 x3 w = some (r0, w0)) : MetI l yX6_heap (WS yX6_heap cX6_heap 4 (some .int)) rmX6_heap D [.ref a0, .int x1, .int x2, .int x3] G sz r0 w0 := by
  refine MetI_ofV (own := RX6) (P := Rp D w) hR (by decide) rfl (by simp [Value.category]) (Nat.le_of_ble_eq_true rfl) (fun x hx hq hD hl => ?_)
  subst hD
  exact vX6_heap hx hq a0 x1 x2 x3 hl0 h
theorem vX5_countAhead_b44 {x : CT} (hx : CX x cX5_countAhead RX5 rmX5_countAhead (some .int)) {r0 : Int32} {w : Wd} (hq : RI x rmX5_countAhead r0 w) {rec14 : Int32 → Int32 → Nat → Int32 → Int32 → Option (Int32)} {x1 : Int32} {x2 : Int32} {o3 : Nat} {x4 : Int32} {x5 : Int32} { q3 : Nat} (hrec14 : ∀ (x1 : Int32) (x2 : Int32) (o3 : Nat) (x4 : Int32) (x5 : Int32) (q3 : Nat), rec14 x1 x2 o3 x4 x5 = some r0 → (zL w 5 o3 = true) → (zA w 5 o3 1 = q3) → V x 14 [none, some (.int x1), some (.int x2), some (.ref q3), some (.int x4), some (.int x5), none] [] (Rp (xD x) w) 0 0) (hl3 : zL w 5 o3 = true) (hq3 : zA w 5 o3 1 = q3) (h : fX5_countAhead_b44 w rec14 x1 x2 o3 x4 x5 = some r0) : V x 44 [none, some (.int x1), some (.int x2), some (.ref q3), some (.int x4), some (.int x5), none] [] (Rp (xD x) w) 0 0 := by
  unfold fX5_countAhead_b44 at h
  refine v_iinc (pc' := 47) (w0 := (x5 + 1)) (L' := [none, some (.int x1), some (.int x2), some (.ref q3), some (.int x4), some (.int (x5 + 1)), none]) hx dX5_countAhead_44 rfl rfl rfl rfl ?_
  refine v_goto (tgt := 14) hx dX5_countAhead_47 (by decide) ?_
  exact hrec14 x1 x2 o3 x4 (x5 + 1) q3 h hl3 hq3
theorem vX5_countAhead_b14 {x : CT} (hx : CX x cX5_countAhead RX5 rmX5_countAhead (some .int)) {r0 : Int32} {w : Wd} (hq : RI x rmX5_countAhead r0 w) {rec14 : Int32 → Int32 → Nat → Int32 → Int32 → Option (Int32)} {x1 : Int32} {x2 : Int32} {o3 : Nat} {x4 : Int32} {x5 : Int32} { q3 : Nat} (hrec14 : ∀ (x1 : Int32) (x2 : Int32) (o3 : Nat) (x4 : Int32) (x5 : Int32) (q3 : Nat), rec14 x1 x2 o3 x4 x5 = some r0 → (zL w 5 o3 = true) → (zA w 5 o3 1 = q3) → V x 14 [none, some (.int x1), some (.int x2), some (.ref q3), some (.int x4), some (.int x5), none] [] (Rp (xD x) w) 0 0) (hl3 : zL w 5 o3 = true) (hq3 : zA w 5 o3 1 = q3) (h : fX5_countAhead_b14 w rec14 x1 x2 o3 x4 x5 = some r0) : V x 14 [none, some (.int x1), some (.int x2), some (.ref q3), some (.int x4), some (.int x5), none] [] (Rp (xD x) w) 0 0 := by
  unfold fX5_countAhead_b14 at h
  refine v_iload (pc' := 16) hx dX5_countAhead_14 rfl rfl ?_
  refine v_iload (pc' := 18) hx dX5_countAhead_16 rfl rfl ?_
  refine v_icmp_ge (tgt := 50) (pc' := 21) hx dX5_countAhead_18 (by decide) rfl (fun hc_1 => ?_) (fun hc_1 => ?_)
  · rw [if_pos hc_1] at h
    refine v_iload_n (pc' := 51) hx dX5_countAhead_50 rfl rfl ?_
    exact v_iret hx hq (by decide) (by decide) dX5_countAhead_51 (by cases h; rfl)
  · rw [if_neg hc_1] at h
    refine v_aload_n (pc' := 22) hx dX5_countAhead_21 rfl rfl ?_
    refine v_iload (pc' := 24) hx dX5_countAhead_22 rfl rfl ?_
    replace h := ckp_inv h; obtain ⟨hk_2, h⟩ := h
    refine v_aaldq (pc' := 25) hx hl3 fi_5_1.1 fi_5_1.2.2 rfl hk_2 hq3 dX5_countAhead_24 rfl ?_
    replace h := lt_inv h; obtain ⟨u_3, er_4, h⟩ := h
    rw [← er_4]
    refine v_liv hl3 (fun ht_5 => ?_)
    have hl_6 : ∀ b, u_3 = some b → zL w 1 b = true := fun b hb => ht_5 1 _ b (er_4.symm.trans hb)
    refine v_astoreq (pc' := 27) (L' := [none, some (.int x1), some (.int x2), some (.ref q3), some (.int x4), some (.int x5), some (va_rf u_3)]) hx dX5_countAhead_25 rfl rfl (Nat.le_of_ble_eq_true rfl) ?_
    refine v_aloadq (pc' := 29) hx dX5_countAhead_27 rfl rfl ?_
    refine v_ifnull (tgt := 44) (pc' := 32) hx dX5_countAhead_29 (by decide) rfl (fun hn_8 => ?_) (fun b_7 hn_8 => ?_)
    · subst hn_8
      rw [oc_n] at h
      refine V.sb (L' := [none, some (.int x1), some (.int x2), some (.ref q3), some (.int x4), some (.int x5), none]) ⟨Or.inl rfl, Or.inr rfl, Or.inr rfl, Or.inr rfl, Or.inr rfl, Or.inr rfl, Or.inl rfl, trivial⟩ ?_
      exact vX5_countAhead_b44 hx hq hrec14 hl3 hq3 h
    · subst hn_8
      rw [oc_s] at h
      have hl_9 : zL w 1 b_7 = true := hl_6 _ rfl
      refine v_aload (pc' := 34) hx dX5_countAhead_32 rfl rfl ?_
      refine v_getI (pc' := 37) hx hl_9 fi_1_0.1 fi_1_0.2.1 fk_X5_141 dX5_countAhead_34 rfl ?_
      refine v_iload_n (pc' := 38) hx dX5_countAhead_37 rfl rfl ?_
      refine v_icmp_ge (tgt := 44) (pc' := 41) hx dX5_countAhead_38 (by decide) rfl (fun hc_10 => ?_) (fun hc_10 => ?_)
      · rw [if_pos hc_10] at h
        refine V.sb (L' := [none, some (.int x1), some (.int x2), some (.ref q3), some (.int x4), some (.int x5), none]) ⟨Or.inl rfl, Or.inr rfl, Or.inr rfl, Or.inr rfl, Or.inr rfl, Or.inr rfl, Or.inl rfl, trivial⟩ ?_
        exact vX5_countAhead_b44 hx hq hrec14 hl3 hq3 h
      · rw [if_neg hc_10] at h
        refine v_iinc (pc' := 44) (w0 := (x2 + 1)) (L' := [none, some (.int x1), some (.int (x2 + 1)), some (.ref q3), some (.int x4), some (.int x5), some (.ref b_7)]) hx dX5_countAhead_41 rfl rfl rfl rfl ?_
        refine V.sb (L' := [none, some (.int x1), some (.int (x2 + 1)), some (.ref q3), some (.int x4), some (.int x5), none]) ⟨Or.inl rfl, Or.inr rfl, Or.inr rfl, Or.inr rfl, Or.inr rfl, Or.inr rfl, Or.inl rfl, trivial⟩ ?_
        exact vX5_countAhead_b44 hx hq hrec14 hl3 hq3 h
theorem vX5_countAhead_l14 {x : CT} (hx : CX x cX5_countAhead RX5 rmX5_countAhead (some .int)) {r0 : Int32} {w : Wd} (hq : RI x rmX5_countAhead r0 w) : ∀ (n : Nat) (x1 : Int32) (x2 : Int32) (o3 : Nat) (x4 : Int32) (x5 : Int32) (q3 : Nat), (zL w 5 o3 = true) → (zA w 5 o3 1 = q3) → fX5_countAhead_l14 w n x1 x2 o3 x4 x5 = some r0 → V x 14 [none, some (.int x1), some (.int x2), some (.ref q3), some (.int x4), some (.int x5), none] [] (Rp (xD x) w) 0 0 := by
  intro n
  induction n with
  | zero => intro x1 x2 o3 x4 x5 q3 hl3 hq3 h; cases h
  | succ n ih =>
    intro x1 x2 o3 x4 x5 q3 hl3 hq3 h
    exact vX5_countAhead_b14 hx hq  (fun x1 x2 o3 x4 x5 q3 h hl3 hq3 => ih x1 x2 o3 x4 x5 q3 hl3 hq3 h) hl3 hq3 h
theorem vX5_countAhead {x : CT} (hx : CX x cX5_countAhead RX5 rmX5_countAhead (some .int)) {r0 : Int32} {w : Wd} (hq : RI x rmX5_countAhead r0 w) (a0 : Nat) (x1 : Int32) (hl0 : zL w 5 a0 = true) (h : fX5_countAhead a0 x1 w = some r0) : V x 0 [some (.ref a0), some (.int x1), none, none, none, none, none] [] (Rp (xD x) w) 0 0 := by
  unfold fX5_countAhead at h
  refine v_iconst (pc' := 1) (v := 0) hx dX5_countAhead_0 (by decide) rfl ?_
  refine v_istore_n (pc' := 2) (L' := [some (.ref a0), some (.int x1), some (.int 0), none, none, none, none]) hx dX5_countAhead_1 rfl rfl (Nat.le_of_ble_eq_true rfl) ?_
  refine v_aload_n (pc' := 3) hx dX5_countAhead_2 rfl rfl ?_
  obtain ⟨g_1, hq_2⟩ : ∃ q, zA w 5 a0 1 = q := ⟨_, rfl⟩
  refine v_getAq (pc' := 6) hx hl0 fi_5_1.1 (by decide) hq_2 fk_X5_18 dX5_countAhead_3 rfl ?_
  refine v_astore_n (pc' := 7) (L' := [some (.ref a0), some (.int x1), some (.int 0), some (.ref g_1), none, none, none]) hx dX5_countAhead_6 rfl rfl (Nat.le_of_ble_eq_true rfl) ?_
  refine v_aload_n (pc' := 8) hx dX5_countAhead_7 rfl rfl ?_
  refine v_alenq (pc' := 9) (v := 8) hx hl0 fi_5_1.1 (by decide) (by decide) hq_2 dX5_countAhead_8 rfl ?_
  refine v_istore (pc' := 11) (L' := [some (.ref a0), some (.int x1), some (.int 0), some (.ref g_1), some (.int 8), none, none]) hx dX5_countAhead_9 rfl rfl (Nat.le_of_ble_eq_true rfl) ?_
  refine v_iconst (pc' := 12) (v := 0) hx dX5_countAhead_11 (by decide) rfl ?_
  refine v_istore (pc' := 14) (L' := [some (.ref a0), some (.int x1), some (.int 0), some (.ref g_1), some (.int 8), some (.int 0), none]) hx dX5_countAhead_12 rfl rfl (Nat.le_of_ble_eq_true rfl) ?_
  refine V.sb (L' := [none, some (.int x1), some (.int 0), some (.ref g_1), some (.int 8), some (.int 0), none]) ⟨Or.inl rfl, Or.inr rfl, Or.inr rfl, Or.inr rfl, Or.inr rfl, Or.inr rfl, Or.inl rfl, trivial⟩ ?_
  exact vX5_countAhead_l14 hx hq 1000 x1 0 a0 8 0 g_1 hl0 hq_2 h
theorem ctX5_countAhead (l : Launch) (D : DD) (w : Wd) (G : GT) (sz : Nat) (hR : Rp D w G sz) (a0 : Nat) (x1 : Int32) (hl0 : zL w 5 a0 = true) {r0 : Int32} (h : fX5_countAhead a0 x1 w = some r0) : MetI l yX5_countAhead (WS yX5_countAhead cX5_countAhead 7 (some .int)) rmX5_countAhead D [.ref a0, .int x1] G sz r0 w := by
  refine MetI_ofV (own := RX5) (P := Rp D w) hR (by decide) rfl (by simp [Value.category]) (Nat.le_of_ble_eq_true rfl) (fun x hx hq hD hl => ?_)
  subst hD
  exact vX5_countAhead hx hq a0 x1 hl0 h
theorem vX5_order_b34 {x : CT} (hx : CX x cX5_order RX5 rmX5_order (some .int)) {r0 : Int32} {w : Wd} (hq : RI x rmX5_order r0 w) {rec2 : Nat → Int32 → Int32 → Option (Int32)} {a0 : Nat} {x1 : Int32} {x2 : Int32} (hrec2 : ∀ (a0 : Nat) (x1 : Int32) (x2 : Int32), rec2 a0 x1 x2 = some r0 → (zL w 5 a0 = true) → V x 2 [some (.ref a0), some (.int x1), some (.int x2), none] [] (Rp (xD x) w) 0 0) (hl0 : zL w 5 a0 = true) (h : fX5_order_b34 w rec2 a0 x1 x2 = some r0) : V x 34 [some (.ref a0), some (.int x1), some (.int x2), none] [] (Rp (xD x) w) 0 0 := by
  unfold fX5_order_b34 at h
  refine v_iinc (pc' := 37) (w0 := (x2 + 1)) (L' := [some (.ref a0), some (.int x1), some (.int (x2 + 1)), none]) hx dX5_order_34 rfl rfl rfl rfl ?_
  refine v_goto (tgt := 2) hx dX5_order_37 (by decide) ?_
  exact hrec2 a0 x1 (x2 + 1) h hl0
theorem vX5_order_b2 {x : CT} (hx : CX x cX5_order RX5 rmX5_order (some .int)) {r0 : Int32} {w : Wd} (hq : RI x rmX5_order r0 w) {rec2 : Nat → Int32 → Int32 → Option (Int32)} {a0 : Nat} {x1 : Int32} {x2 : Int32} (hrec2 : ∀ (a0 : Nat) (x1 : Int32) (x2 : Int32), rec2 a0 x1 x2 = some r0 → (zL w 5 a0 = true) → V x 2 [some (.ref a0), some (.int x1), some (.int x2), none] [] (Rp (xD x) w) 0 0) (hl0 : zL w 5 a0 = true) (h : fX5_order_b2 w rec2 a0 x1 x2 = some r0) : V x 2 [some (.ref a0), some (.int x1), some (.int x2), none] [] (Rp (xD x) w) 0 0 := by
  unfold fX5_order_b2 at h
  refine v_iload_n (pc' := 3) hx dX5_order_2 rfl rfl ?_
  refine v_aload_n (pc' := 4) hx dX5_order_3 rfl rfl ?_
  refine v_getI (pc' := 7) hx hl0 fi_5_3.1 fi_5_3.2.1 fk_X5_29 dX5_order_4 rfl ?_
  refine v_icmp_ge (tgt := 40) (pc' := 10) hx dX5_order_7 (by decide) rfl (fun hc_1 => ?_) (fun hc_1 => ?_)
  · rw [if_pos hc_1] at h
    refine v_iconst (pc' := 41) (v := (-1)) hx dX5_order_40 (by decide) rfl ?_
    exact v_iret hx hq (by decide) (by decide) dX5_order_41 (by cases h; rfl)
  · rw [if_neg hc_1] at h
    refine v_aload_n (pc' := 11) hx dX5_order_10 rfl rfl ?_
    refine v_iload_n (pc' := 12) hx dX5_order_11 rfl rfl ?_
    replace h := bd_inv h; obtain ⟨u_3, hcl_2, h⟩ := h
    refine v_callVq (pc' := 15) (w' := w) (q := u_3) (ci := 5) (b := a0) (As := [.int x2]) (rest := []) hx hl0 (fun G sz hR => ctX5_pictureAt (xl x) (xD x) w G sz hR a0 x2 hl0 hcl_2) rfl my_X5_pictureAt ml_X5_74 ⟨by decide, by decide⟩ ⟨by decide, by decide⟩ rfl rfl (Nat.le_of_ble_eq_true rfl) dX5_order_12 rfl (fun hl_4 => ?_)
    refine v_astoreq_n (pc' := 16) (L' := [some (.ref a0), some (.int x1), some (.int x2), some (va_rf u_3)]) hx dX5_order_15 rfl rfl (Nat.le_of_ble_eq_true rfl) ?_
    refine v_aloadq_n (pc' := 17) hx dX5_order_16 rfl rfl ?_
    refine v_ifnull (tgt := 34) (pc' := 20) hx dX5_order_17 (by decide) rfl (fun hn_6 => ?_) (fun b_5 hn_6 => ?_)
    · subst hn_6
      rw [oc_n] at h
      refine V.sb (L' := [some (.ref a0), some (.int x1), some (.int x2), none]) ⟨Or.inr rfl, Or.inr rfl, Or.inr rfl, Or.inl rfl, trivial⟩ ?_
      exact vX5_order_b34 hx hq hrec2 hl0 h
    · subst hn_6
      rw [oc_s] at h
      have hl_7 : zL w 1 b_5 = true := hl_4 _ rfl
      refine v_aload_n (pc' := 21) hx dX5_order_20 rfl rfl ?_
      refine v_aload_n (pc' := 22) hx dX5_order_21 rfl rfl ?_
      refine v_getI (pc' := 25) hx hl_7 fi_1_0.1 fi_1_0.2.1 fk_X5_141 dX5_order_22 rfl ?_
      replace h := bd_inv h; obtain ⟨y_9, hcl_8, h⟩ := h
      refine v_callVi (pc' := 28) (w' := w) (r := y_9) (ci := 5) (b := a0) (As := [.int (zI w 1 b_5 0 0)]) (rest := []) hx hl0 (fun G sz hR => ctX5_countAhead (xl x) (xD x) w G sz hR a0 (zI w 1 b_5 0 0) hl0 hcl_8) rfl my_X5_countAhead ml_X5_163 ⟨by decide, by decide⟩ ⟨by decide, by decide⟩ rfl rfl (Nat.le_of_ble_eq_true rfl) dX5_order_25 rfl ?_
      refine v_iload_n (pc' := 29) hx dX5_order_28 rfl rfl ?_
      refine v_icmp_ne (tgt := 34) (pc' := 32) hx dX5_order_29 (by decide) rfl (fun hc_11 => ?_) (fun hc_11 => ?_)
      · rw [if_neg hc_11] at h
        refine V.sb (L' := [some (.ref a0), some (.int x1), some (.int x2), none]) ⟨Or.inr rfl, Or.inr rfl, Or.inr rfl, Or.inl rfl, trivial⟩ ?_
        exact vX5_order_b34 hx hq hrec2 hl0 h
      · rw [if_pos hc_11] at h
        refine v_iload_n (pc' := 33) hx dX5_order_32 rfl rfl ?_
        exact v_iret hx hq (by decide) (by decide) dX5_order_33 (by cases h; rfl)
theorem vX5_order_l2 {x : CT} (hx : CX x cX5_order RX5 rmX5_order (some .int)) {r0 : Int32} {w : Wd} (hq : RI x rmX5_order r0 w) : ∀ (n : Nat) (a0 : Nat) (x1 : Int32) (x2 : Int32), (zL w 5 a0 = true) → fX5_order_l2 w n a0 x1 x2 = some r0 → V x 2 [some (.ref a0), some (.int x1), some (.int x2), none] [] (Rp (xD x) w) 0 0 := by
  intro n
  induction n with
  | zero => intro a0 x1 x2 hl0 h; cases h
  | succ n ih =>
    intro a0 x1 x2 hl0 h
    exact vX5_order_b2 hx hq  (fun a0 x1 x2 h hl0 => ih a0 x1 x2 hl0 h) hl0 h
theorem vX5_order {x : CT} (hx : CX x cX5_order RX5 rmX5_order (some .int)) {r0 : Int32} {w : Wd} (hq : RI x rmX5_order r0 w) (a0 : Nat) (x1 : Int32) (hl0 : zL w 5 a0 = true) (h : fX5_order a0 x1 w = some r0) : V x 0 [some (.ref a0), some (.int x1), none, none] [] (Rp (xD x) w) 0 0 := by
  unfold fX5_order at h
  refine v_iconst (pc' := 1) (v := 0) hx dX5_order_0 (by decide) rfl ?_
  refine v_istore_n (pc' := 2) (L' := [some (.ref a0), some (.int x1), some (.int 0), none]) hx dX5_order_1 rfl rfl (Nat.le_of_ble_eq_true rfl) ?_
  exact vX5_order_l2 hx hq 1000 a0 x1 0 hl0 h
theorem ctX5_order (l : Launch) (D : DD) (w : Wd) (G : GT) (sz : Nat) (hR : Rp D w G sz) (a0 : Nat) (x1 : Int32) (hl0 : zL w 5 a0 = true) {r0 : Int32} (h : fX5_order a0 x1 w = some r0) : MetI l yX5_order (WS yX5_order cX5_order 4 (some .int)) rmX5_order D [.ref a0, .int x1] G sz r0 w := by
  refine MetI_ofV (own := RX5) (P := Rp D w) hR (by decide) rfl (by simp [Value.category]) (Nat.le_of_ble_eq_true rfl) (fun x hx hq hD hl => ?_)
  subst hD
  exact vX5_order hx hq a0 x1 hl0 h
theorem vX6_order_b46 {x : CT} (hx : CX x cX6_order RX6 rmX6_order (some .int)) {r0 : Int32} {w : Wd} (hq : RI x rmX6_order r0 w) {rec2 : Nat → Int32 → Int32 → Option (Int32)} {rec15 : Nat → Int32 → Int32 → Int32 → Int32 → Option (Int32)} {a0 : Nat} {x1 : Int32} {x2 : Int32} {x4 : Int32} {xs0 : Int32} {xs1 : Int32} (hrec2 : ∀ (a0 : Nat) (x1 : Int32) (x2 : Int32), rec2 a0 x1 x2 = some r0 → (zL w 6 a0 = true) → V x 2 [some (.ref a0), some (.int x1), some (.int x2), none, none] [] (Rp (xD x) w) 0 0) (hrec15 : ∀ (a0 : Nat) (x1 : Int32) (x2 : Int32) (x3 : Int32) (x4 : Int32), rec15 a0 x1 x2 x3 x4 = some r0 → (zL w 6 a0 = true) → V x 15 [some (.ref a0), some (.int x1), some (.int x2), some (.int x3), some (.int x4)] [] (Rp (xD x) w) 0 0) (hl0 : zL w 6 a0 = true) (h : fX6_order_b46 w rec2 rec15 a0 x1 x2 x4 xs0 xs1 = some r0) : V x 46 [some (.ref a0), some (.int x1), some (.int x2), none, some (.int x4)] [.int xs0, .int xs1] (Rp (xD x) w) 0 0 := by
  unfold fX6_order_b46 at h
  refine v_iadd (pc' := 47) hx dX6_order_46 rfl ?_
  refine v_istore_n (pc' := 48) (L' := [some (.ref a0), some (.int x1), some (.int x2), some (.int (xs1 + xs0)), some (.int x4)]) hx dX6_order_47 rfl rfl (Nat.le_of_ble_eq_true rfl) ?_
  refine v_iinc (pc' := 51) (w0 := (x4 + 1)) (L' := [some (.ref a0), some (.int x1), some (.int x2), some (.int (xs1 + xs0)), some (.int (x4 + 1))]) hx dX6_order_48 rfl rfl rfl rfl ?_
  refine v_goto (tgt := 15) hx dX6_order_51 (by decide) ?_
  exact hrec15 a0 x1 x2 (xs1 + xs0) (x4 + 1) h hl0
theorem vX6_order_b15 {x : CT} (hx : CX x cX6_order RX6 rmX6_order (some .int)) {r0 : Int32} {w : Wd} (hq : RI x rmX6_order r0 w) {rec2 : Nat → Int32 → Int32 → Option (Int32)} {rec15 : Nat → Int32 → Int32 → Int32 → Int32 → Option (Int32)} {a0 : Nat} {x1 : Int32} {x2 : Int32} {x3 : Int32} {x4 : Int32} (hrec2 : ∀ (a0 : Nat) (x1 : Int32) (x2 : Int32), rec2 a0 x1 x2 = some r0 → (zL w 6 a0 = true) → V x 2 [some (.ref a0), some (.int x1), some (.int x2), none, none] [] (Rp (xD x) w) 0 0) (hrec15 : ∀ (a0 : Nat) (x1 : Int32) (x2 : Int32) (x3 : Int32) (x4 : Int32), rec15 a0 x1 x2 x3 x4 = some r0 → (zL w 6 a0 = true) → V x 15 [some (.ref a0), some (.int x1), some (.int x2), some (.int x3), some (.int x4)] [] (Rp (xD x) w) 0 0) (hl0 : zL w 6 a0 = true) (h : fX6_order_b15 w rec2 rec15 a0 x1 x2 x3 x4 = some r0) : V x 15 [some (.ref a0), some (.int x1), some (.int x2), some (.int x3), some (.int x4)] [] (Rp (xD x) w) 0 0 := by
  unfold fX6_order_b15 at h
  refine v_iload (pc' := 17) hx dX6_order_15 rfl rfl ?_
  refine v_aload_n (pc' := 18) hx dX6_order_17 rfl rfl ?_
  refine v_getI (pc' := 21) hx hl0 fi_6_2.1 fi_6_2.2.1 fk_X6_136 dX6_order_18 rfl ?_
  refine v_icmp_ge (tgt := 54) (pc' := 24) hx dX6_order_21 (by decide) rfl (fun hc_1 => ?_) (fun hc_1 => ?_)
  · rw [if_pos hc_1] at h
    refine v_iload_n (pc' := 55) hx dX6_order_54 rfl rfl ?_
    refine v_iload_n (pc' := 56) hx dX6_order_55 rfl rfl ?_
    refine v_icmp_ne (tgt := 61) (pc' := 59) hx dX6_order_56 (by decide) rfl (fun hc_2 => ?_) (fun hc_2 => ?_)
    · rw [if_neg hc_2] at h
      refine v_iinc (pc' := 64) (w0 := (x2 + 1)) (L' := [some (.ref a0), some (.int x1), some (.int (x2 + 1)), some (.int x3), some (.int x4)]) hx dX6_order_61 rfl rfl rfl rfl ?_
      refine v_goto (tgt := 2) hx dX6_order_64 (by decide) ?_
      refine V.sb (L' := [some (.ref a0), some (.int x1), some (.int (x2 + 1)), none, none]) ⟨Or.inr rfl, Or.inr rfl, Or.inr rfl, Or.inl rfl, Or.inl rfl, trivial⟩ ?_
      exact hrec2 a0 x1 (x2 + 1) h hl0
    · rw [if_pos hc_2] at h
      refine v_iload_n (pc' := 60) hx dX6_order_59 rfl rfl ?_
      exact v_iret hx hq (by decide) (by decide) dX6_order_60 (by cases h; rfl)
  · rw [if_neg hc_1] at h
    refine v_iload_n (pc' := 25) hx dX6_order_24 rfl rfl ?_
    refine v_aload_n (pc' := 26) hx dX6_order_25 rfl rfl ?_
    obtain ⟨g_3, hq_4⟩ : ∃ q, zA w 6 a0 5 = q := ⟨_, rfl⟩
    refine v_getAq (pc' := 29) hx hl0 fi_6_5.1 (by decide) hq_4 fk_X6_20 dX6_order_26 rfl ?_
    refine v_iload (pc' := 31) hx dX6_order_29 rfl rfl ?_
    replace h := ckp_inv h; obtain ⟨hk_5, h⟩ := h
    refine v_ialdq (pc' := 32) hx hl0 fi_6_5.1 fi_6_5.2.1 rfl hk_5 hq_4 dX6_order_31 rfl ?_
    refine v_aload_n (pc' := 33) hx dX6_order_32 rfl rfl ?_
    obtain ⟨g_6, hq_7⟩ : ∃ q, zA w 6 a0 5 = q := ⟨_, rfl⟩
    refine v_getAq (pc' := 36) hx hl0 fi_6_5.1 (by decide) hq_7 fk_X6_20 dX6_order_33 rfl ?_
    refine v_iload_n (pc' := 37) hx dX6_order_36 rfl rfl ?_
    replace h := ckp_inv h; obtain ⟨hk_8, h⟩ := h
    refine v_ialdq (pc' := 38) hx hl0 fi_6_5.1 fi_6_5.2.1 rfl hk_8 hq_7 dX6_order_37 rfl ?_
    refine v_icmp_ge (tgt := 45) (pc' := 41) hx dX6_order_38 (by decide) rfl (fun hc_9 => ?_) (fun hc_9 => ?_)
    · rw [if_pos hc_9] at h
      refine v_iconst (pc' := 46) (v := 0) hx dX6_order_45 (by decide) rfl ?_
      refine V.sb (L' := [some (.ref a0), some (.int x1), some (.int x2), none, some (.int x4)]) ⟨Or.inr rfl, Or.inr rfl, Or.inr rfl, Or.inl rfl, Or.inr rfl, trivial⟩ ?_
      exact vX6_order_b46 hx hq hrec2 hrec15 hl0 h
    · rw [if_neg hc_9] at h
      refine v_iconst (pc' := 42) (v := 1) hx dX6_order_41 (by decide) rfl ?_
      refine v_goto (tgt := 46) hx dX6_order_42 (by decide) ?_
      refine V.sb (L' := [some (.ref a0), some (.int x1), some (.int x2), none, some (.int x4)]) ⟨Or.inr rfl, Or.inr rfl, Or.inr rfl, Or.inl rfl, Or.inr rfl, trivial⟩ ?_
      exact vX6_order_b46 hx hq hrec2 hrec15 hl0 h
theorem vX6_order_l15 {x : CT} (hx : CX x cX6_order RX6 rmX6_order (some .int)) {r0 : Int32} {w : Wd} (hq : RI x rmX6_order r0 w) {rec2 : Nat → Int32 → Int32 → Option (Int32)} (hrec2 : ∀ (a0 : Nat) (x1 : Int32) (x2 : Int32), rec2 a0 x1 x2 = some r0 → (zL w 6 a0 = true) → V x 2 [some (.ref a0), some (.int x1), some (.int x2), none, none] [] (Rp (xD x) w) 0 0) : ∀ (n : Nat) (a0 : Nat) (x1 : Int32) (x2 : Int32) (x3 : Int32) (x4 : Int32), (zL w 6 a0 = true) → fX6_order_l15 w rec2 n a0 x1 x2 x3 x4 = some r0 → V x 15 [some (.ref a0), some (.int x1), some (.int x2), some (.int x3), some (.int x4)] [] (Rp (xD x) w) 0 0 := by
  intro n
  induction n with
  | zero => intro a0 x1 x2 x3 x4 hl0 h; cases h
  | succ n ih =>
    intro a0 x1 x2 x3 x4 hl0 h
    exact vX6_order_b15 hx hq hrec2 (fun a0 x1 x2 x3 x4 h hl0 => ih a0 x1 x2 x3 x4 hl0 h) hl0 h
theorem vX6_order_b2 {x : CT} (hx : CX x cX6_order RX6 rmX6_order (some .int)) {r0 : Int32} {w : Wd} (hq : RI x rmX6_order r0 w) {rec2 : Nat → Int32 → Int32 → Option (Int32)} {a0 : Nat} {x1 : Int32} {x2 : Int32} (hrec2 : ∀ (a0 : Nat) (x1 : Int32) (x2 : Int32), rec2 a0 x1 x2 = some r0 → (zL w 6 a0 = true) → V x 2 [some (.ref a0), some (.int x1), some (.int x2), none, none] [] (Rp (xD x) w) 0 0) (hl0 : zL w 6 a0 = true) (h : fX6_order_b2 w rec2 a0 x1 x2 = some r0) : V x 2 [some (.ref a0), some (.int x1), some (.int x2), none, none] [] (Rp (xD x) w) 0 0 := by
  unfold fX6_order_b2 at h
  refine v_iload_n (pc' := 3) hx dX6_order_2 rfl rfl ?_
  refine v_aload_n (pc' := 4) hx dX6_order_3 rfl rfl ?_
  refine v_getI (pc' := 7) hx hl0 fi_6_2.1 fi_6_2.2.1 fk_X6_136 dX6_order_4 rfl ?_
  refine v_icmp_ge (tgt := 67) (pc' := 10) hx dX6_order_7 (by decide) rfl (fun hc_1 => ?_) (fun hc_1 => ?_)
  · rw [if_pos hc_1] at h
    refine v_iconst (pc' := 68) (v := (-1)) hx dX6_order_67 (by decide) rfl ?_
    exact v_iret hx hq (by decide) (by decide) dX6_order_68 (by cases h; rfl)
  · rw [if_neg hc_1] at h
    refine v_iconst (pc' := 11) (v := 0) hx dX6_order_10 (by decide) rfl ?_
    refine v_istore_n (pc' := 12) (L' := [some (.ref a0), some (.int x1), some (.int x2), some (.int 0), none]) hx dX6_order_11 rfl rfl (Nat.le_of_ble_eq_true rfl) ?_
    refine v_iconst (pc' := 13) (v := 0) hx dX6_order_12 (by decide) rfl ?_
    refine v_istore (pc' := 15) (L' := [some (.ref a0), some (.int x1), some (.int x2), some (.int 0), some (.int 0)]) hx dX6_order_13 rfl rfl (Nat.le_of_ble_eq_true rfl) ?_
    exact vX6_order_l15 hx hq hrec2 1000 a0 x1 x2 0 0 hl0 h
theorem vX6_order_l2 {x : CT} (hx : CX x cX6_order RX6 rmX6_order (some .int)) {r0 : Int32} {w : Wd} (hq : RI x rmX6_order r0 w) : ∀ (n : Nat) (a0 : Nat) (x1 : Int32) (x2 : Int32), (zL w 6 a0 = true) → fX6_order_l2 w n a0 x1 x2 = some r0 → V x 2 [some (.ref a0), some (.int x1), some (.int x2), none, none] [] (Rp (xD x) w) 0 0 := by
  intro n
  induction n with
  | zero => intro a0 x1 x2 hl0 h; cases h
  | succ n ih =>
    intro a0 x1 x2 hl0 h
    exact vX6_order_b2 hx hq  (fun a0 x1 x2 h hl0 => ih a0 x1 x2 hl0 h) hl0 h
theorem vX6_order {x : CT} (hx : CX x cX6_order RX6 rmX6_order (some .int)) {r0 : Int32} {w : Wd} (hq : RI x rmX6_order r0 w) (a0 : Nat) (x1 : Int32) (hl0 : zL w 6 a0 = true) (h : fX6_order a0 x1 w = some r0) : V x 0 [some (.ref a0), some (.int x1), none, none, none] [] (Rp (xD x) w) 0 0 := by
  unfold fX6_order at h
  refine v_iconst (pc' := 1) (v := 0) hx dX6_order_0 (by decide) rfl ?_
  refine v_istore_n (pc' := 2) (L' := [some (.ref a0), some (.int x1), some (.int 0), none, none]) hx dX6_order_1 rfl rfl (Nat.le_of_ble_eq_true rfl) ?_
  exact vX6_order_l2 hx hq 1000 a0 x1 0 hl0 h
theorem ctX6_order (l : Launch) (D : DD) (w : Wd) (G : GT) (sz : Nat) (hR : Rp D w G sz) (a0 : Nat) (x1 : Int32) (hl0 : zL w 6 a0 = true) {r0 : Int32} (h : fX6_order a0 x1 w = some r0) : MetI l yX6_order (WS yX6_order cX6_order 5 (some .int)) rmX6_order D [.ref a0, .int x1] G sz r0 w := by
  refine MetI_ofV (own := RX6) (P := Rp D w) hR (by decide) rfl (by simp [Value.category]) (Nat.le_of_ble_eq_true rfl) (fun x hx hq hD hl => ?_)
  subst hD
  exact vX6_order hx hq a0 x1 hl0 h
theorem vX5_countOfReader {x : CT} (hx : CX x cX5_countOfReader RX5 rmX5_countOfReader (some .int)) {r0 : Int32} {w : Wd} (hq : RI x rmX5_countOfReader r0 w) (a0 : Nat) (x1 : Int32) (hl0 : zL w 5 a0 = true) (h : fX5_countOfReader a0 x1 w = some r0) : V x 0 [some (.ref a0), some (.int x1)] [] (Rp (xD x) w) 0 0 := by
  unfold fX5_countOfReader at h
  refine v_iload_n (pc' := 1) hx dX5_countOfReader_0 rfl rfl ?_
  by_cases hc_1 : x1 = 0
  · rw [if_pos hc_1] at h
    refine v_tblIn (tgt := 32) (off := 31) hx dX5_countOfReader_1 (by rw [hc_1]; decide) (by rw [hc_1]; decide) (by rw [hc_1]; decide) (by decide) ?_
    refine v_aload_n (pc' := 33) hx dX5_countOfReader_32 rfl rfl ?_
    refine v_getI (pc' := 36) hx hl0 fi_5_3.1 fi_5_3.2.1 fk_X5_29 dX5_countOfReader_33 rfl ?_
    exact v_iret hx hq (by decide) (by decide) dX5_countOfReader_36 (by cases h; rfl)
  rw [if_neg hc_1] at h
  by_cases hc_2 : x1 = 1
  · rw [if_pos hc_2] at h
    refine v_tblIn (tgt := 37) (off := 36) hx dX5_countOfReader_1 (by rw [hc_2]; decide) (by rw [hc_2]; decide) (by rw [hc_2]; decide) (by decide) ?_
    refine v_aload_n (pc' := 38) hx dX5_countOfReader_37 rfl rfl ?_
    refine v_getR (pc' := 41) hx hl0 fi_5_0.1 fi_5_0.2.1 fk_X5_10 dX5_countOfReader_38 rfl ?_
    replace h := lt_inv h; obtain ⟨u_3, er_4, h⟩ := h
    rw [← er_4]
    refine v_liv hl0 (fun ht_5 => ?_)
    have hl_6 : ∀ b, u_3 = some b → zL w 4 b = true := fun b hb => ht_5 0 _ b (er_4.symm.trans hb)
    replace h := nn_inv h; obtain ⟨b_7, rfl, h⟩ := h
    have hl_8 : zL w 4 b_7 = true := hl_6 _ rfl
    refine v_getI (pc' := 44) hx hl_8 fi_4_1.1 fi_4_1.2.1 fk_X5_39 dX5_countOfReader_41 rfl ?_
    exact v_iret hx hq (by decide) (by decide) dX5_countOfReader_44 (by cases h; rfl)
  rw [if_neg hc_2] at h
  by_cases hc_9 : x1 = 2
  · rw [if_pos hc_9] at h
    refine v_tblIn (tgt := 45) (off := 44) hx dX5_countOfReader_1 (by rw [hc_9]; decide) (by rw [hc_9]; decide) (by rw [hc_9]; decide) (by decide) ?_
    refine v_aload_n (pc' := 46) hx dX5_countOfReader_45 rfl rfl ?_
    refine v_getI (pc' := 49) hx hl0 fi_5_4.1 fi_5_4.2.1 fk_X5_33 dX5_countOfReader_46 rfl ?_
    exact v_iret hx hq (by decide) (by decide) dX5_countOfReader_49 (by cases h; rfl)
  rw [if_neg hc_9] at h
  by_cases hc_10 : x1 = 3
  · rw [if_pos hc_10] at h
    refine v_tblIn (tgt := 50) (off := 49) hx dX5_countOfReader_1 (by rw [hc_10]; decide) (by rw [hc_10]; decide) (by rw [hc_10]; decide) (by decide) ?_
    refine v_aload_n (pc' := 51) hx dX5_countOfReader_50 rfl rfl ?_
    refine v_getI (pc' := 54) hx hl0 fi_5_5.1 fi_5_5.2.1 fk_X5_36 dX5_countOfReader_51 rfl ?_
    exact v_iret hx hq (by decide) (by decide) dX5_countOfReader_54 (by cases h; rfl)
  rw [if_neg hc_10] at h
  refine v_tblOut (tgt := 55) hx dX5_countOfReader_1 (sw_out (fun i h1 h2 => by rcases (show i = 0 ∨ i = 1 ∨ i = 2 ∨ i = 3 by omega) with rfl | rfl | rfl | rfl <;> assumption)) (by decide) ?_
  refine v_iconst (pc' := 56) (v := (-1)) hx dX5_countOfReader_55 (by decide) rfl ?_
  exact v_iret hx hq (by decide) (by decide) dX5_countOfReader_56 (by cases h; rfl)
theorem ctX5_countOfReader (l : Launch) (D : DD) (w : Wd) (G : GT) (sz : Nat) (hR : Rp D w G sz) (a0 : Nat) (x1 : Int32) (hl0 : zL w 5 a0 = true) {r0 : Int32} (h : fX5_countOfReader a0 x1 w = some r0) : MetI l yX5_countOfReader (WS yX5_countOfReader cX5_countOfReader 2 (some .int)) rmX5_countOfReader D [.ref a0, .int x1] G sz r0 w := by
  refine MetI_ofV (own := RX5) (P := Rp D w) hR (by decide) rfl (by simp [Value.category]) (Nat.le_of_ble_eq_true rfl) (fun x hx hq hD hl => ?_)
  subst hD
  exact vX5_countOfReader hx hq a0 x1 hl0 h
