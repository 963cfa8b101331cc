theorem vX6_holder_b28 {x : CT} (hx : CX x cX6_holder RX6 rmX6_holder (some .int)) {r0 : Int32} {w : Wd} (hq : RI x rmX6_holder r0 w) {xs0 : Int32} (h : fX6_holder_b28 w xs0 = some r0) : V x 28 [none, none, none] [.int xs0] (Rp (xD x) w) 0 0 := by
  unfold fX6_holder_b28 at h
  exact v_iret hx hq (by decide) (by decide) dX6_holder_28 (by cases h; rfl)
theorem vX6_holder_b27 {x : CT} (hx : CX x cX6_holder RX6 rmX6_holder (some .int)) {r0 : Int32} {w : Wd} (hq : RI x rmX6_holder r0 w) (h : fX6_holder_b27 w = some r0) : V x 27 [none, none, none] [] (Rp (xD x) w) 0 0 := by
  unfold fX6_holder_b27 at h
  refine v_iconst (pc' := 28) (v := (-1)) hx dX6_holder_27 (by decide) rfl ?_
  exact vX6_holder_b28 hx hq h
theorem vX6_holder {x : CT} (hx : CX x cX6_holder RX6 rmX6_holder (some .int)) {r0 : Int32} {w : Wd} (hq : RI x rmX6_holder r0 w) (a0 : Nat) (x1 : Int32) (x2 : Int32) (hl0 : zL w 6 a0 = true) (h : fX6_holder a0 x1 x2 w = some r0) : V x 0 [some (.ref a0), some (.int x1), some (.int x2)] [] (Rp (xD x) w) 0 0 := by
  unfold fX6_holder at h
  refine v_aload_n (pc' := 1) hx dX6_holder_0 rfl rfl ?_
  refine v_iload_n (pc' := 2) hx dX6_holder_1 rfl rfl ?_
  replace h := bd_inv h; obtain ⟨y_2, hcl_1, h⟩ := h
  refine v_callVi (pc' := 5) (w' := w) (r := y_2) (ci := 6) (b := a0) (As := [.int x1]) (rest := []) hx hl0 (fun G sz hR => ctX6_isPicture (xl x) (xD x) w G sz hR a0 x1 hl0 hcl_1) rfl my_X6_isPicture ml_X6_145 ⟨by decide, by decide⟩ ⟨by decide, by decide⟩ rfl rfl (Nat.le_of_ble_eq_true rfl) dX6_holder_2 rfl ?_
  refine v_if_eq (tgt := 27) (pc' := 8) hx dX6_holder_5 (by decide) rfl (fun hc_4 => ?_) (fun hc_4 => ?_)
  · rw [if_pos hc_4] at h
    refine V.sb (L' := [none, none, none]) ⟨Or.inl rfl, Or.inl rfl, Or.inl rfl, trivial⟩ ?_
    exact vX6_holder_b27 hx hq h
  · rw [if_neg hc_4] at h
    refine v_iload_n (pc' := 9) hx dX6_holder_8 rfl rfl ?_
    refine v_iconst (pc' := 10) (v := 0) hx dX6_holder_9 (by decide) rfl ?_
    refine v_bipush (pc' := 12) (v := 15) hx dX6_holder_10 (by decide) rfl ?_
    replace h := bd_inv h; obtain ⟨y_6, hcl_5, h⟩ := h
    refine v_callSi (pc' := 15) (w' := w) (r := y_6) (As := [.int x2, .int 0, .int 15]) (rest := []) hx (fun G sz hR => ctX6_lies (xl x) (xD x) w G sz hR x2 0 15  hcl_5) my_X6_lies ml_X6_84 ⟨by decide, by decide⟩ ⟨by decide, by decide⟩ rfl rfl (Nat.le_of_ble_eq_true rfl) dX6_holder_12 rfl ?_
    refine v_if_eq (tgt := 27) (pc' := 18) hx dX6_holder_15 (by decide) rfl (fun hc_8 => ?_) (fun hc_8 => ?_)
    · rw [if_pos hc_8] at h
      refine V.sb (L' := [none, none, none]) ⟨Or.inl rfl, Or.inl rfl, Or.inl rfl, trivial⟩ ?_
      exact vX6_holder_b27 hx hq h
    · rw [if_neg hc_8] at h
      refine v_aload_n (pc' := 19) hx dX6_holder_18 rfl rfl ?_
      refine v_iload_n (pc' := 20) hx dX6_holder_19 rfl rfl ?_
      refine v_iload_n (pc' := 21) hx dX6_holder_20 rfl rfl ?_
      replace h := bd_inv h; obtain ⟨y_10, hcl_9, h⟩ := h
      refine v_callVi (pc' := 24) (w' := w) (r := y_10) (ci := 6) (b := a0) (As := [.int x1, .int x2]) (rest := []) hx hl0 (fun G sz hR => ctX6_holderOf (xl x) (xD x) w G sz hR a0 x1 x2 hl0 hcl_9) rfl my_X6_holderOf ml_X6_153 ⟨by decide, by decide⟩ ⟨by decide, by decide⟩ rfl rfl (Nat.le_of_ble_eq_true rfl) dX6_holder_21 rfl ?_
      refine v_goto (tgt := 28) hx dX6_holder_24 (by decide) ?_
      refine V.sb (L' := [none, none, none]) ⟨Or.inl rfl, Or.inl rfl, Or.inl rfl, trivial⟩ ?_
      exact vX6_holder_b28 hx hq h
theorem ctX6_holder (l : Launch) (D : DD) (w : Wd) (G : GT) (sz : Nat) (hR : Rp D w G sz) (a0 : Nat) (x1 : Int32) (x2 : Int32) (hl0 : zL w 6 a0 = true) {r0 : Int32} (h : fX6_holder a0 x1 x2 w = some r0) : MetI l yX6_holder (WS yX6_holder cX6_holder 3 (some .int)) rmX6_holder D [.ref a0, .int x1, .int x2] G sz r0 w := by
  refine MetI_ofV (own := RX6) (P := Rp D w) hR (by decide) rfl (by simp [Value.category]) (Nat.le_of_ble_eq_true rfl) (fun x hx hq hD hl => ?_)
  subst hD
  exact vX6_holder hx hq a0 x1 x2 hl0 h
theorem vX1_sizeOfRingFrom_b4 {x : CT} (hx : CX x cX1_sizeOfRingFrom RX1 rmX1_sizeOfRingFrom (some .int)) {r0 : Int32} {w : Wd} (hq : RI x rmX1_sizeOfRingFrom r0 w) {rec4 : Nat → Int32 → Int32 → Int32 → Option (Int32)} {a0 : Nat} {x1 : Int32} {x2 : Int32} {x3 : Int32} (hrec4 : ∀ (a0 : Nat) (x1 : Int32) (x2 : Int32) (x3 : Int32), rec4 a0 x1 x2 x3 = some r0 → (zL w 1 a0 = true) → V x 4 [some (.ref a0), some (.int x1), some (.int x2), some (.int x3)] [] (Rp (xD x) w) 0 0) (hl0 : zL w 1 a0 = true) (h : fX1_sizeOfRingFrom_b4 w rec4 a0 x1 x2 x3 = some r0) : V x 4 [some (.ref a0), some (.int x1), some (.int x2), some (.int x3)] [] (Rp (xD x) w) 0 0 := by
  unfold fX1_sizeOfRingFrom_b4 at h
  refine v_iload_n (pc' := 5) hx dX1_sizeOfRingFrom_4 rfl rfl ?_
  refine v_bipush (pc' := 7) (v := 24) hx dX1_sizeOfRingFrom_5 (by decide) rfl ?_
  refine v_icmp_gt (tgt := 36) (pc' := 10) hx dX1_sizeOfRingFrom_7 (by decide) rfl (fun hc_1 => ?_) (fun hc_1 => ?_)
  · rw [if_pos hc_1] at h
    refine v_iconst (pc' := 37) (v := 0) hx dX1_sizeOfRingFrom_36 (by decide) rfl ?_
    exact v_iret hx hq (by decide) (by decide) dX1_sizeOfRingFrom_37 (by cases h; rfl)
  · rw [if_neg hc_1] at h
    refine v_aload_n (pc' := 11) hx dX1_sizeOfRingFrom_10 rfl rfl ?_
    refine v_iload_n (pc' := 12) hx dX1_sizeOfRingFrom_11 rfl rfl ?_
    replace h := bd_inv h; obtain ⟨y_3, hcl_2, h⟩ := h
    refine v_callVi (pc' := 15) (w' := w) (r := y_3) (ci := 1) (b := a0) (As := [.int x2]) (rest := []) hx hl0 (fun G sz hR => ctX1_awaitedBy (xl x) (xD x) w G sz hR a0 x2 hl0 hcl_2) rfl my_X1_awaitedBy ml_X1_89 ⟨by decide, by decide⟩ ⟨by decide, by decide⟩ rfl rfl (Nat.le_of_ble_eq_true rfl) dX1_sizeOfRingFrom_12 rfl ?_
    refine v_istore_n (pc' := 16) (L' := [some (.ref a0), some (.int x1), some (.int y_3), some (.int x3)]) hx dX1_sizeOfRingFrom_15 rfl rfl (Nat.le_of_ble_eq_true rfl) ?_
    refine v_iload_n (pc' := 17) hx dX1_sizeOfRingFrom_16 rfl rfl ?_
    refine v_iload_n (pc' := 18) hx dX1_sizeOfRingFrom_17 rfl rfl ?_
    refine v_icmp_ne (tgt := 23) (pc' := 21) hx dX1_sizeOfRingFrom_18 (by decide) rfl (fun hc_5 => ?_) (fun hc_5 => ?_)
    · rw [if_neg hc_5] at h
      refine v_iload_n (pc' := 24) hx dX1_sizeOfRingFrom_23 rfl rfl ?_
      refine v_iload_n (pc' := 25) hx dX1_sizeOfRingFrom_24 rfl rfl ?_
      refine v_icmp_ge (tgt := 30) (pc' := 28) hx dX1_sizeOfRingFrom_25 (by decide) rfl (fun hc_6 => ?_) (fun hc_6 => ?_)
      · rw [if_pos hc_6] at h
        refine v_iinc (pc' := 33) (w0 := (x3 + 1)) (L' := [some (.ref a0), some (.int x1), some (.int y_3), some (.int (x3 + 1))]) hx dX1_sizeOfRingFrom_30 rfl rfl rfl rfl ?_
        refine v_goto (tgt := 4) hx dX1_sizeOfRingFrom_33 (by decide) ?_
        exact hrec4 a0 x1 y_3 (x3 + 1) h hl0
      · rw [if_neg hc_6] at h
        refine v_iconst (pc' := 29) (v := 0) hx dX1_sizeOfRingFrom_28 (by decide) rfl ?_
        exact v_iret hx hq (by decide) (by decide) dX1_sizeOfRingFrom_29 (by cases h; rfl)
    · rw [if_pos hc_5] at h
      refine v_iload_n (pc' := 22) hx dX1_sizeOfRingFrom_21 rfl rfl ?_
      exact v_iret hx hq (by decide) (by decide) dX1_sizeOfRingFrom_22 (by cases h; rfl)
theorem vX1_sizeOfRingFrom_l4 {x : CT} (hx : CX x cX1_sizeOfRingFrom RX1 rmX1_sizeOfRingFrom (some .int)) {r0 : Int32} {w : Wd} (hq : RI x rmX1_sizeOfRingFrom r0 w) : ∀ (n : Nat) (a0 : Nat) (x1 : Int32) (x2 : Int32) (x3 : Int32), (zL w 1 a0 = true) → fX1_sizeOfRingFrom_l4 w n a0 x1 x2 x3 = some r0 → V x 4 [some (.ref a0), some (.int x1), some (.int x2), some (.int x3)] [] (Rp (xD x) w) 0 0 := by
  intro n
  induction n with
  | zero => intro a0 x1 x2 x3 hl0 h; cases h
  | succ n ih =>
    intro a0 x1 x2 x3 hl0 h
    exact vX1_sizeOfRingFrom_b4 hx hq  (fun a0 x1 x2 x3 h hl0 => ih a0 x1 x2 x3 hl0 h) hl0 h
theorem vX1_sizeOfRingFrom {x : CT} (hx : CX x cX1_sizeOfRingFrom RX1 rmX1_sizeOfRingFrom (some .int)) {r0 : Int32} {w : Wd} (hq : RI x rmX1_sizeOfRingFrom r0 w) (a0 : Nat) (x1 : Int32) (hl0 : zL w 1 a0 = true) (h : fX1_sizeOfRingFrom a0 x1 w = some r0) : V x 0 [some (.ref a0), some (.int x1), none, none] [] (Rp (xD x) w) 0 0 := by
  unfold fX1_sizeOfRingFrom at h
  refine v_iload_n (pc' := 1) hx dX1_sizeOfRingFrom_0 rfl rfl ?_
  refine v_istore_n (pc' := 2) (L' := [some (.ref a0), some (.int x1), some (.int x1), none]) hx dX1_sizeOfRingFrom_1 rfl rfl (Nat.le_of_ble_eq_true rfl) ?_
  refine v_iconst (pc' := 3) (v := 1) hx dX1_sizeOfRingFrom_2 (by decide) rfl ?_
  refine v_istore_n (pc' := 4) (L' := [some (.ref a0), some (.int x1), some (.int x1), some (.int 1)]) hx dX1_sizeOfRingFrom_3 rfl rfl (Nat.le_of_ble_eq_true rfl) ?_
  exact vX1_sizeOfRingFrom_l4 hx hq 1000 a0 x1 x1 1 hl0 h
theorem ctX1_sizeOfRingFrom (l : Launch) (D : DD) (w : Wd) (G : GT) (sz : Nat) (hR : Rp D w G sz) (a0 : Nat) (x1 : Int32) (hl0 : zL w 1 a0 = true) {r0 : Int32} (h : fX1_sizeOfRingFrom a0 x1 w = some r0) : MetI l yX1_sizeOfRingFrom (WS yX1_sizeOfRingFrom cX1_sizeOfRingFrom 4 (some .int)) rmX1_sizeOfRingFrom D [.ref a0, .int x1] G sz r0 w := by
  refine MetI_ofV (own := RX1) (P := Rp D w) hR (by decide) rfl (by simp [Value.category]) (Nat.le_of_ble_eq_true rfl) (fun x hx hq hD hl => ?_)
  subst hD
  exact vX1_sizeOfRingFrom hx hq a0 x1 hl0 h
theorem vX1_countRings_b21 {x : CT} (hx : CX x cX1_countRings RX1 rmX1_countRings (some .int)) {r0 : Int32} {w : Wd} (hq : RI x rmX1_countRings r0 w) {rec4 : Nat → Int32 → Int32 → Option (Int32)} {a0 : Nat} {x1 : Int32} {x2 : Int32} (hrec4 : ∀ (a0 : Nat) (x1 : Int32) (x2 : Int32), rec4 a0 x1 x2 = some r0 → (zL w 1 a0 = true) → V x 4 [some (.ref a0), some (.int x1), some (.int x2)] [] (Rp (xD x) w) 0 0) (hl0 : zL w 1 a0 = true) (h : fX1_countRings_b21 w rec4 a0 x1 x2 = some r0) : V x 21 [some (.ref a0), some (.int x1), some (.int x2)] [] (Rp (xD x) w) 0 0 := by
  unfold fX1_countRings_b21 at h
  refine v_iinc (pc' := 24) (w0 := (x2 + 1)) (L' := [some (.ref a0), some (.int x1), some (.int (x2 + 1))]) hx dX1_countRings_21 rfl rfl rfl rfl ?_
  refine v_goto (tgt := 4) hx dX1_countRings_24 (by decide) ?_
  exact hrec4 a0 x1 (x2 + 1) h hl0
theorem vX1_countRings_b4 {x : CT} (hx : CX x cX1_countRings RX1 rmX1_countRings (some .int)) {r0 : Int32} {w : Wd} (hq : RI x rmX1_countRings r0 w) {rec4 : Nat → Int32 → Int32 → Option (Int32)} {a0 : Nat} {x1 : Int32} {x2 : Int32} (hrec4 : ∀ (a0 : Nat) (x1 : Int32) (x2 : Int32), rec4 a0 x1 x2 = some r0 → (zL w 1 a0 = true) → V x 4 [some (.ref a0), some (.int x1), some (.int x2)] [] (Rp (xD x) w) 0 0) (hl0 : zL w 1 a0 = true) (h : fX1_countRings_b4 w rec4 a0 x1 x2 = some r0) : V x 4 [some (.ref a0), some (.int x1), some (.int x2)] [] (Rp (xD x) w) 0 0 := by
  unfold fX1_countRings_b4 at h
  refine v_iload_n (pc' := 5) hx dX1_countRings_4 rfl rfl ?_
  refine v_bipush (pc' := 7) (v := 24) hx dX1_countRings_5 (by decide) rfl ?_
  refine v_icmp_ge (tgt := 27) (pc' := 10) hx dX1_countRings_7 (by decide) rfl (fun hc_1 => ?_) (fun hc_1 => ?_)
  · rw [if_pos hc_1] at h
    refine v_iload_n (pc' := 28) hx dX1_countRings_27 rfl rfl ?_
    exact v_iret hx hq (by decide) (by decide) dX1_countRings_28 (by cases h; rfl)
  · rw [if_neg hc_1] at h
    refine v_aload_n (pc' := 11) hx dX1_countRings_10 rfl rfl ?_
    refine v_iload_n (pc' := 12) hx dX1_countRings_11 rfl rfl ?_
    replace h := bd_inv h; obtain ⟨y_3, hcl_2, h⟩ := h
    refine v_callVi (pc' := 15) (w' := w) (r := y_3) (ci := 1) (b := a0) (As := [.int x2]) (rest := []) hx hl0 (fun G sz hR => ctX1_sizeOfRingFrom (xl x) (xD x) w G sz hR a0 x2 hl0 hcl_2) rfl my_X1_sizeOfRingFrom ml_X1_86 ⟨by decide, by decide⟩ ⟨by decide, by decide⟩ rfl rfl (Nat.le_of_ble_eq_true rfl) dX1_countRings_12 rfl ?_
    refine v_if_le (tgt := 21) (pc' := 18) hx dX1_countRings_15 (by decide) rfl (fun hc_5 => ?_) (fun hc_5 => ?_)
    · rw [if_pos hc_5] at h
      exact vX1_countRings_b21 hx hq hrec4 hl0 h
    · rw [if_neg hc_5] at h
      refine v_iinc (pc' := 21) (w0 := (x1 + 1)) (L' := [some (.ref a0), some (.int (x1 + 1)), some (.int x2)]) hx dX1_countRings_18 rfl rfl rfl rfl ?_
      exact vX1_countRings_b21 hx hq hrec4 hl0 h
theorem vX1_countRings_l4 {x : CT} (hx : CX x cX1_countRings RX1 rmX1_countRings (some .int)) {r0 : Int32} {w : Wd} (hq : RI x rmX1_countRings r0 w) : ∀ (n : Nat) (a0 : Nat) (x1 : Int32) (x2 : Int32), (zL w 1 a0 = true) → fX1_countRings_l4 w n a0 x1 x2 = some r0 → V x 4 [some (.ref a0), some (.int x1), some (.int x2)] [] (Rp (xD x) w) 0 0 := by
  intro n
  induction n with
  | zero => intro a0 x1 x2 hl0 h; cases h
  | succ n ih =>
    intro a0 x1 x2 hl0 h
    exact vX1_countRings_b4 hx hq  (fun a0 x1 x2 h hl0 => ih a0 x1 x2 hl0 h) hl0 h
theorem vX1_countRings {x : CT} (hx : CX x cX1_countRings RX1 rmX1_countRings (some .int)) {r0 : Int32} {w : Wd} (hq : RI x rmX1_countRings r0 w) (a0 : Nat) (hl0 : zL w 1 a0 = true) (h : fX1_countRings a0 w = some r0) : V x 0 [some (.ref a0), none, none] [] (Rp (xD x) w) 0 0 := by
  unfold fX1_countRings at h
  refine v_iconst (pc' := 1) (v := 0) hx dX1_countRings_0 (by decide) rfl ?_
  refine v_istore_n (pc' := 2) (L' := [some (.ref a0), some (.int 0), none]) hx dX1_countRings_1 rfl rfl (Nat.le_of_ble_eq_true rfl) ?_
  refine v_iconst (pc' := 3) (v := 0) hx dX1_countRings_2 (by decide) rfl ?_
  refine v_istore_n (pc' := 4) (L' := [some (.ref a0), some (.int 0), some (.int 0)]) hx dX1_countRings_3 rfl rfl (Nat.le_of_ble_eq_true rfl) ?_
  exact vX1_countRings_l4 hx hq 1000 a0 0 0 hl0 h
theorem ctX1_countRings (l : Launch) (D : DD) (w : Wd) (G : GT) (sz : Nat) (hR : Rp D w G sz) (a0 : Nat) (hl0 : zL w 1 a0 = true) {r0 : Int32} (h : fX1_countRings a0 w = some r0) : MetI l yX1_countRings (WS yX1_countRings cX1_countRings 3 (some .int)) rmX1_countRings D [.ref a0] G sz r0 w := by
  refine MetI_ofV (own := RX1) (P := Rp D w) hR (by decide) rfl (by simp [Value.category]) (Nat.le_of_ble_eq_true rfl) (fun x hx hq hD hl => ?_)
  subst hD
  exact vX1_countRings hx hq a0 hl0 h
theorem vX5_rings_b18 {x : CT} (hx : CX x cX5_rings RX5 rmX5_rings (some .int)) {r0 : Int32} {w : Wd} (hq : RI x rmX5_rings r0 w) {xs0 : Int32} (h : fX5_rings_b18 w xs0 = some r0) : V x 18 [none, none, none] [.int xs0] (Rp (xD x) w) 0 0 := by
  unfold fX5_rings_b18 at h
  exact v_iret hx hq (by decide) (by decide) dX5_rings_18 (by cases h; rfl)
theorem vX5_rings {x : CT} (hx : CX x cX5_rings RX5 rmX5_rings (some .int)) {r0 : Int32} {w : Wd} (hq : RI x rmX5_rings r0 w) (a0 : Nat) (x1 : Int32) (hl0 : zL w 5 a0 = true) (h : fX5_rings a0 x1 w = some r0) : V x 0 [some (.ref a0), some (.int x1), none] [] (Rp (xD x) w) 0 0 := by
  unfold fX5_rings at h
  refine v_aload_n (pc' := 1) hx dX5_rings_0 rfl rfl ?_
  refine v_iload_n (pc' := 2) hx dX5_rings_1 rfl rfl ?_
  replace h := bd_inv h; obtain ⟨u_2, hcl_1, h⟩ := h
  refine v_callVq (pc' := 5) (w' := w) (q := u_2) (ci := 5) (b := a0) (As := [.int x1]) (rest := []) hx hl0 (fun G sz hR => ctX5_pictureAt (xl x) (xD x) w G sz hR a0 x1 hl0 hcl_1) rfl my_X5_pictureAt ml_X5_74 ⟨by decide, by decide⟩ ⟨by decide, by decide⟩ rfl rfl (Nat.le_of_ble_eq_true rfl) dX5_rings_2 rfl (fun hl_3 => ?_)
  refine v_astoreq_n (pc' := 6) (L' := [some (.ref a0), some (.int x1), some (va_rf u_2)]) hx dX5_rings_5 rfl rfl (Nat.le_of_ble_eq_true rfl) ?_
  refine v_aloadq_n (pc' := 7) hx dX5_rings_6 rfl rfl ?_
  refine v_ifnonnull (tgt := 14) (pc' := 10) hx dX5_rings_7 (by decide) rfl (fun b_4 hn_5 => ?_) (fun hn_5 => ?_)
  · subst hn_5
    rw [oc_s] at h
    have hl_6 : zL w 1 b_4 = true := hl_3 _ rfl
    refine v_aload_n (pc' := 15) hx dX5_rings_14 rfl rfl ?_
    replace h := bd_inv h; obtain ⟨y_8, hcl_7, h⟩ := h
    refine v_callVi (pc' := 18) (w' := w) (r := y_8) (ci := 1) (b := b_4) (As := []) (rest := []) hx hl_6 (fun G sz hR => ctX1_countRings (xl x) (xD x) w G sz hR b_4 hl_6 hcl_7) rfl my_X1_countRings ml_X5_109 ⟨by decide, by decide⟩ ⟨by decide, by decide⟩ rfl rfl (Nat.le_of_ble_eq_true rfl) dX5_rings_15 rfl ?_
    refine V.sb (L' := [none, none, none]) ⟨Or.inl rfl, Or.inl rfl, Or.inl rfl, trivial⟩ ?_
    exact vX5_rings_b18 hx hq h
  · subst hn_5
    rw [oc_n] at h
    refine v_iconst (pc' := 11) (v := (-1)) hx dX5_rings_10 (by decide) rfl ?_
    refine v_goto (tgt := 18) hx dX5_rings_11 (by decide) ?_
    refine V.sb (L' := [none, none, none]) ⟨Or.inl rfl, Or.inl rfl, Or.inl rfl, trivial⟩ ?_
    exact vX5_rings_b18 hx hq h
theorem ctX5_rings (l : Launch) (D : DD) (w : Wd) (G : GT) (sz : Nat) (hR : Rp D w G sz) (a0 : Nat) (x1 : Int32) (hl0 : zL w 5 a0 = true) {r0 : Int32} (h : fX5_rings a0 x1 w = some r0) : MetI l yX5_rings (WS yX5_rings cX5_rings 3 (some .int)) rmX5_rings D [.ref a0, .int x1] G sz r0 w := by
  refine MetI_ofV (own := RX5) (P := Rp D w) hR (by decide) rfl (by simp [Value.category]) (Nat.le_of_ble_eq_true rfl) (fun x hx hq hD hl => ?_)
  subst hD
  exact vX5_rings hx hq a0 x1 hl0 h
theorem vX6_next_b35 {x : CT} (hx : CX x cX6_next RX6 rmX6_next (some .int)) {r0 : Int32} {w : Wd} (hq : RI x rmX6_next r0 w) {xs0 : Int32} (h : fX6_next_b35 w xs0 = some r0) : V x 35 [none, none, none] [.int xs0] (Rp (xD x) w) 0 0 := by
  unfold fX6_next_b35 at h
  exact v_iret hx hq (by decide) (by decide) dX6_next_35 (by cases h; rfl)
theorem vX6_next {x : CT} (hx : CX x cX6_next RX6 rmX6_next (some .int)) {r0 : Int32} {w : Wd} (hq : RI x rmX6_next r0 w) (a0 : Nat) (x1 : Int32) (x2 : Int32) (hl0 : zL w 6 a0 = true) (h : fX6_next a0 x1 x2 w = some r0) : V x 0 [some (.ref a0), some (.int x1), some (.int x2)] [] (Rp (xD x) w) 0 0 := by
  unfold fX6_next at h
  refine v_aload_n (pc' := 1) hx dX6_next_0 rfl rfl ?_
  obtain ⟨g_1, hq_2⟩ : ∃ q, zA w 6 a0 11 = q := ⟨_, rfl⟩
  refine v_getAq (pc' := 4) hx hl0 fi_6_11.1 (by decide) hq_2 fk_X6_40 dX6_next_1 rfl ?_
  refine v_bipush (pc' := 6) (v := 24) hx dX6_next_4 (by decide) rfl ?_
  refine v_iload_n (pc' := 7) hx dX6_next_6 rfl rfl ?_
  refine v_imul (pc' := 8) hx dX6_next_7 rfl ?_
  refine v_iload_n (pc' := 9) hx dX6_next_8 rfl rfl ?_
  refine v_iadd (pc' := 10) hx dX6_next_9 rfl ?_
  replace h := ckp_inv h; obtain ⟨hk_3, h⟩ := h
  refine v_ialdq (pc' := 11) hx hl0 fi_6_11.1 fi_6_11.2.1 rfl hk_3 hq_2 dX6_next_10 rfl ?_
  refine v_iconst (pc' := 12) (v := (-1)) hx dX6_next_11 (by decide) rfl ?_
  refine v_icmp_ne (tgt := 19) (pc' := 15) hx dX6_next_12 (by decide) rfl (fun hc_4 => ?_) (fun hc_4 => ?_)
  · rw [if_neg hc_4] at h
    refine v_aload_n (pc' := 20) hx dX6_next_19 rfl rfl ?_
    refine v_iload_n (pc' := 21) hx dX6_next_20 rfl rfl ?_
    refine v_aload_n (pc' := 22) hx dX6_next_21 rfl rfl ?_
    obtain ⟨g_5, hq_6⟩ : ∃ q, zA w 6 a0 11 = q := ⟨_, rfl⟩
    refine v_getAq (pc' := 25) hx hl0 fi_6_11.1 (by decide) hq_6 fk_X6_40 dX6_next_22 rfl ?_
    refine v_bipush (pc' := 27) (v := 24) hx dX6_next_25 (by decide) rfl ?_
    refine v_iload_n (pc' := 28) hx dX6_next_27 rfl rfl ?_
    refine v_imul (pc' := 29) hx dX6_next_28 rfl ?_
    refine v_iload_n (pc' := 30) hx dX6_next_29 rfl rfl ?_
    refine v_iadd (pc' := 31) hx dX6_next_30 rfl ?_
    replace h := ckp_inv h; obtain ⟨hk_7, h⟩ := h
    refine v_ialdq (pc' := 32) hx hl0 fi_6_11.1 fi_6_11.2.1 rfl hk_7 hq_6 dX6_next_31 rfl ?_
    replace h := bd_inv h; obtain ⟨y_9, hcl_8, h⟩ := h
    refine v_callVi (pc' := 35) (w' := w) (r := y_9) (ci := 6) (b := a0) (As := [.int x1, .int (zI w 6 a0 11 (((24 * x1) + x2) : Int32).toNatClampNeg)]) (rest := []) hx hl0 (fun G sz hR => ctX6_holderOf (xl x) (xD x) w G sz hR a0 x1 (zI w 6 a0 11 (((24 * x1) + x2) : Int32).toNatClampNeg) hl0 hcl_8) rfl my_X6_holderOf ml_X6_153 ⟨by decide, by decide⟩ ⟨by decide, by decide⟩ rfl rfl (Nat.le_of_ble_eq_true rfl) dX6_next_32 rfl ?_
    refine V.sb (L' := [none, none, none]) ⟨Or.inl rfl, Or.inl rfl, Or.inl rfl, trivial⟩ ?_
    exact vX6_next_b35 hx hq h
  · rw [if_pos hc_4] at h
    refine v_iconst (pc' := 16) (v := (-1)) hx dX6_next_15 (by decide) rfl ?_
    refine v_goto (tgt := 35) hx dX6_next_16 (by decide) ?_
    refine V.sb (L' := [none, none, none]) ⟨Or.inl rfl, Or.inl rfl, Or.inl rfl, trivial⟩ ?_
    exact vX6_next_b35 hx hq h
theorem ctX6_next (l : Launch) (D : DD) (w : Wd) (G : GT) (sz : Nat) (hR : Rp D w G sz) (a0 : Nat) (x1 : Int32) (x2 : Int32) (hl0 : zL w 6 a0 = true) {r0 : Int32} (h : fX6_next a0 x1 x2 w = some r0) : MetI l yX6_next (WS yX6_next cX6_next 3 (some .int)) rmX6_next D [.ref a0, .int x1, .int x2] G sz r0 w := by
  refine MetI_ofV (own := RX6) (P := Rp D w) hR (by decide) rfl (by simp [Value.category]) (Nat.le_of_ble_eq_true rfl) (fun x hx hq hD hl => ?_)
  subst hD
  exact vX6_next hx hq a0 x1 x2 hl0 h
theorem vX6_back_b5 {x : CT} (hx : CX x cX6_back RX6 rmX6_back (some .int)) {r0 : Int32} {w : Wd} (hq : RI x rmX6_back r0 w) {rec5 : Nat → Int32 → Int32 → Int32 → Int32 → Option (Int32)} {a0 : Nat} {x1 : Int32} {x2 : Int32} {x3 : Int32} {x4 : Int32} (hrec5 : ∀ (a0 : Nat) (x1 : Int32) (x2 : Int32) (x3 : Int32) (x4 : Int32), rec5 a0 x1 x2 x3 x4 = some r0 → (zL w 6 a0 = true) → V x 5 [some (.ref a0), some (.int x1), some (.int x2), some (.int x3), some (.int x4)] [] (Rp (xD x) w) 0 0) (hl0 : zL w 6 a0 = true) (h : fX6_back_b5 w rec5 a0 x1 x2 x3 x4 = some r0) : V x 5 [some (.ref a0), some (.int x1), some (.int x2), some (.int x3), some (.int x4)] [] (Rp (xD x) w) 0 0 := by
  unfold fX6_back_b5 at h
  refine v_iload (pc' := 7) hx dX6_back_5 rfl rfl ?_
  refine v_bipush (pc' := 9) (v := 24) hx dX6_back_7 (by decide) rfl ?_
  refine v_icmp_gt (tgt := 40) (pc' := 12) hx dX6_back_9 (by decide) rfl (fun hc_1 => ?_) (fun hc_1 => ?_)
  · rw [if_pos hc_1] at h
    refine v_iconst (pc' := 41) (v := 0) hx dX6_back_40 (by decide) rfl ?_
    exact v_iret hx hq (by decide) (by decide) dX6_back_41 (by cases h; rfl)
  · rw [if_neg hc_1] at h
    refine v_aload_n (pc' := 13) hx dX6_back_12 rfl rfl ?_
    refine v_iload_n (pc' := 14) hx dX6_back_13 rfl rfl ?_
    refine v_iload_n (pc' := 15) hx dX6_back_14 rfl rfl ?_
    replace h := bd_inv h; obtain ⟨y_3, hcl_2, h⟩ := h
    refine v_callVi (pc' := 18) (w' := w) (r := y_3) (ci := 6) (b := a0) (As := [.int x1, .int x3]) (rest := []) hx hl0 (fun G sz hR => ctX6_next (xl x) (xD x) w G sz hR a0 x1 x3 hl0 hcl_2) rfl my_X6_next ml_X6_156 ⟨by decide, by decide⟩ ⟨by decide, by decide⟩ rfl rfl (Nat.le_of_ble_eq_true rfl) dX6_back_15 rfl ?_
    refine v_istore_n (pc' := 19) (L' := [some (.ref a0), some (.int x1), some (.int x2), some (.int y_3), some (.int x4)]) hx dX6_back_18 rfl rfl (Nat.le_of_ble_eq_true rfl) ?_
    refine v_iload_n (pc' := 20) hx dX6_back_19 rfl rfl ?_
    refine v_iconst (pc' := 21) (v := (-1)) hx dX6_back_20 (by decide) rfl ?_
    refine v_icmp_ne (tgt := 26) (pc' := 24) hx dX6_back_21 (by decide) rfl (fun hc_5 => ?_) (fun hc_5 => ?_)
    · rw [if_neg hc_5] at h
      refine v_iload_n (pc' := 27) hx dX6_back_26 rfl rfl ?_
      refine v_iload_n (pc' := 28) hx dX6_back_27 rfl rfl ?_
      refine v_icmp_ne (tgt := 34) (pc' := 31) hx dX6_back_28 (by decide) rfl (fun hc_6 => ?_) (fun hc_6 => ?_)
      · rw [if_neg hc_6] at h
        refine v_iinc (pc' := 37) (w0 := (x4 + 1)) (L' := [some (.ref a0), some (.int x1), some (.int x2), some (.int y_3), some (.int (x4 + 1))]) hx dX6_back_34 rfl rfl rfl rfl ?_
        refine v_goto (tgt := 5) hx dX6_back_37 (by decide) ?_
        exact hrec5 a0 x1 x2 y_3 (x4 + 1) h hl0
      · rw [if_pos hc_6] at h
        refine v_iload (pc' := 33) hx dX6_back_31 rfl rfl ?_
        exact v_iret hx hq (by decide) (by decide) dX6_back_33 (by cases h; rfl)
    · rw [if_pos hc_5] at h
      refine v_iconst (pc' := 25) (v := 0) hx dX6_back_24 (by decide) rfl ?_
      exact v_iret hx hq (by decide) (by decide) dX6_back_25 (by cases h; rfl)
theorem vX6_back_l5 {x : CT} (hx : CX x cX6_back RX6 rmX6_back (some .int)) {r0 : Int32} {w : Wd} (hq : RI x rmX6_back r0 w) : ∀ (n : Nat) (a0 : Nat) (x1 : Int32) (x2 : Int32) (x3 : Int32) (x4 : Int32), (zL w 6 a0 = true) → fX6_back_l5 w n a0 x1 x2 x3 x4 = some r0 → V x 5 [some (.ref a0), some (.int x1), some (.int x2), some (.int x3), some (.int x4)] [] (Rp (xD x) w) 0 0 := by
  intro n
  induction n with
  | zero => intro a0 x1 x2 x3 x4 hl0 h; cases h
  | succ n ih =>
    intro a0 x1 x2 x3 x4 hl0 h
    exact vX6_back_b5 hx hq  (fun a0 x1 x2 x3 x4 h hl0 => ih a0 x1 x2 x3 x4 hl0 h) hl0 h
theorem vX6_back {x : CT} (hx : CX x cX6_back RX6 rmX6_back (some .int)) {r0 : Int32} {w : Wd} (hq : RI x rmX6_back r0 w) (a0 : Nat) (x1 : Int32) (x2 : Int32) (hl0 : zL w 6 a0 = true) (h : fX6_back a0 x1 x2 w = some r0) : V x 0 [some (.ref a0), some (.int x1), some (.int x2), none, none] [] (Rp (xD x) w) 0 0 := by
  unfold fX6_back at h
  refine v_iload_n (pc' := 1) hx dX6_back_0 rfl rfl ?_
  refine v_istore_n (pc' := 2) (L' := [some (.ref a0), some (.int x1), some (.int x2), some (.int x2), none]) hx dX6_back_1 rfl rfl (Nat.le_of_ble_eq_true rfl) ?_
  refine v_iconst (pc' := 3) (v := 1) hx dX6_back_2 (by decide) rfl ?_
  refine v_istore (pc' := 5) (L' := [some (.ref a0), some (.int x1), some (.int x2), some (.int x2), some (.int 1)]) hx dX6_back_3 rfl rfl (Nat.le_of_ble_eq_true rfl) ?_
  exact vX6_back_l5 hx hq 1000 a0 x1 x2 x2 1 hl0 h
theorem ctX6_back (l : Launch) (D : DD) (w : Wd) (G : GT) (sz : Nat) (hR : Rp D w G sz) (a0 : Nat) (x1 : Int32) (x2 : Int32) (hl0 : zL w 6 a0 = true) {r0 : Int32} (h : fX6_back a0 x1 x2 w = some r0) : MetI l yX6_back (WS yX6_back cX6_back 5 (some .int)) rmX6_back D [.ref a0, .int x1, .int x2] G sz r0 w := by
  refine MetI_ofV (own := RX6) (P := Rp D w) hR (by decide) rfl (by simp [Value.category]) (Nat.le_of_ble_eq_true rfl) (fun x hx hq hD hl => ?_)
  subst hD
  exact vX6_back hx hq a0 x1 x2 hl0 h
theorem vX6_isLowest_b51 {x : CT} (hx : CX x cX6_isLowest RX6 rmX6_isLowest (some .boolean)) {r0 : Int32} {w : Wd} (hq : RI x rmX6_isLowest r0 w) {xs0 : Int32} (h : fX6_isLowest_b51 w xs0 = some r0) : V x 51 [none, none, none, none, none, none] [.int xs0] (Rp (xD x) w) 0 0 := by
  unfold fX6_isLowest_b51 at h
  replace h := ckp_inv h; obtain ⟨hk_1, h⟩ := h
  exact v_zret hx hq (by decide) (by decide) dX6_isLowest_51 hk_1 (by cases h; rfl)
theorem vX6_isLowest_b13 {x : CT} (hx : CX x cX6_isLowest RX6 rmX6_isLowest (some .boolean)) {r0 : Int32} {w : Wd} (hq : RI x rmX6_isLowest r0 w) {rec13 : Nat → Int32 → Int32 → Int32 → Int32 → Int32 → Option (Int32)} {a0 : Nat} {x1 : Int32} {x2 : Int32} {x3 : Int32} {x4 : Int32} {x5 : Int32} (hrec13 : ∀ (a0 : Nat) (x1 : Int32) (x2 : Int32) (x3 : Int32) (x4 : Int32) (x5 : Int32), rec13 a0 x1 x2 x3 x4 x5 = some r0 → (zL w 6 a0 = true) → V x 13 [some (.ref a0), some (.int x1), some (.int x2), some (.int x3), some (.int x4), some (.int x5)] [] (Rp (xD x) w) 0 0) (hl0 : zL w 6 a0 = true) (h : fX6_isLowest_b13 w rec13 a0 x1 x2 x3 x4 x5 = some r0) : V x 13 [some (.ref a0), some (.int x1), some (.int x2), some (.int x3), some (.int x4), some (.int x5)] [] (Rp (xD x) w) 0 0 := by
  unfold fX6_isLowest_b13 at h
  refine v_iload (pc' := 15) hx dX6_isLowest_13 rfl rfl ?_
  refine v_iload_n (pc' := 16) hx dX6_isLowest_15 rfl rfl ?_
  refine v_icmp_ge (tgt := 42) (pc' := 19) hx dX6_isLowest_16 (by decide) rfl (fun hc_1 => ?_) (fun hc_1 => ?_)
  · rw [if_pos hc_1] at h
    refine v_iload_n (pc' := 43) hx dX6_isLowest_42 rfl rfl ?_
    refine v_if_le (tgt := 50) (pc' := 46) hx dX6_isLowest_43 (by decide) rfl (fun hc_2 => ?_) (fun hc_2 => ?_)
    · rw [if_pos hc_2] at h
      refine v_iconst (pc' := 51) (v := 0) hx dX6_isLowest_50 (by decide) rfl ?_
      refine V.sb (L' := [none, none, none, none, none, none]) ⟨Or.inl rfl, Or.inl rfl, Or.inl rfl, Or.inl rfl, Or.inl rfl, Or.inl rfl, trivial⟩ ?_
      exact vX6_isLowest_b51 hx hq h
    · rw [if_neg hc_2] at h
      refine v_iconst (pc' := 47) (v := 1) hx dX6_isLowest_46 (by decide) rfl ?_
      refine v_goto (tgt := 51) hx dX6_isLowest_47 (by decide) ?_
      refine V.sb (L' := [none, none, none, none, none, none]) ⟨Or.inl rfl, Or.inl rfl, Or.inl rfl, Or.inl rfl, Or.inl rfl, Or.inl rfl, trivial⟩ ?_
      exact vX6_isLowest_b51 hx hq h
  · rw [if_neg hc_1] at h
    refine v_aload_n (pc' := 20) hx dX6_isLowest_19 rfl rfl ?_
    refine v_iload_n (pc' := 21) hx dX6_isLowest_20 rfl rfl ?_
    refine v_iload (pc' := 23) hx dX6_isLowest_21 rfl rfl ?_
    replace h := bd_inv h; obtain ⟨y_4, hcl_3, h⟩ := h
    refine v_callVi (pc' := 26) (w' := w) (r := y_4) (ci := 6) (b := a0) (As := [.int x1, .int x4]) (rest := []) hx hl0 (fun G sz hR => ctX6_next (xl x) (xD x) w G sz hR a0 x1 x4 hl0 hcl_3) rfl my_X6_next ml_X6_156 ⟨by decide, by decide⟩ ⟨by decide, by decide⟩ rfl rfl (Nat.le_of_ble_eq_true rfl) dX6_isLowest_23 rfl ?_
    refine v_istore (pc' := 28) (L' := [some (.ref a0), some (.int x1), some (.int x2), some (.int x3), some (.int y_4), some (.int x5)]) hx dX6_isLowest_26 rfl rfl (Nat.le_of_ble_eq_true rfl) ?_
    refine v_iload (pc' := 30) hx dX6_isLowest_28 rfl rfl ?_
    refine v_iload_n (pc' := 31) hx dX6_isLowest_30 rfl rfl ?_
    refine v_icmp_ge (tgt := 36) (pc' := 34) hx dX6_isLowest_31 (by decide) rfl (fun hc_6 => ?_) (fun hc_6 => ?_)
    · rw [if_pos hc_6] at h
      refine v_iinc (pc' := 39) (w0 := (x5 + 1)) (L' := [some (.ref a0), some (.int x1), some (.int x2), some (.int x3), some (.int y_4), some (.int (x5 + 1))]) hx dX6_isLowest_36 rfl rfl rfl rfl ?_
      refine v_goto (tgt := 13) hx dX6_isLowest_39 (by decide) ?_
      exact hrec13 a0 x1 x2 x3 y_4 (x5 + 1) h hl0
    · rw [if_neg hc_6] at h
      refine v_iconst (pc' := 35) (v := 0) hx dX6_isLowest_34 (by decide) rfl ?_
      replace h := ckp_inv h; obtain ⟨hk_7, h⟩ := h
      exact v_zret hx hq (by decide) (by decide) dX6_isLowest_35 hk_7 (by cases h; rfl)
theorem vX6_isLowest_l13 {x : CT} (hx : CX x cX6_isLowest RX6 rmX6_isLowest (some .boolean)) {r0 : Int32} {w : Wd} (hq : RI x rmX6_isLowest r0 w) : ∀ (n : Nat) (a0 : Nat) (x1 : Int32) (x2 : Int32) (x3 : Int32) (x4 : Int32) (x5 : Int32), (zL w 6 a0 = true) → fX6_isLowest_l13 w n a0 x1 x2 x3 x4 x5 = some r0 → V x 13 [some (.ref a0), some (.int x1), some (.int x2), some (.int x3), some (.int x4), some (.int x5)] [] (Rp (xD x) w) 0 0 := by
  intro n
  induction n with
  | zero => intro a0 x1 x2 x3 x4 x5 hl0 h; cases h
  | succ n ih =>
    intro a0 x1 x2 x3 x4 x5 hl0 h
    exact vX6_isLowest_b13 hx hq  (fun a0 x1 x2 x3 x4 x5 h hl0 => ih a0 x1 x2 x3 x4 x5 hl0 h) hl0 h
theorem vX6_isLowest {x : CT} (hx : CX x cX6_isLowest RX6 rmX6_isLowest (some .boolean)) {r0 : Int32} {w : Wd} (hq : RI x rmX6_isLowest r0 w) (a0 : Nat) (x1 : Int32) (x2 : Int32) (hl0 : zL w 6 a0 = true) (h : fX6_isLowest a0 x1 x2 w = some r0) : V x 0 [some (.ref a0), some (.int x1), some (.int x2), none, none, none] [] (Rp (xD x) w) 0 0 := by
  unfold fX6_isLowest at h
  refine v_aload_n (pc' := 1) hx dX6_isLowest_0 rfl rfl ?_
  refine v_iload_n (pc' := 2) hx dX6_isLowest_1 rfl rfl ?_
  refine v_iload_n (pc' := 3) hx dX6_isLowest_2 rfl rfl ?_
  replace h := bd_inv h; obtain ⟨y_2, hcl_1, h⟩ := h
  refine v_callVi (pc' := 6) (w' := w) (r := y_2) (ci := 6) (b := a0) (As := [.int x1, .int x2]) (rest := []) hx hl0 (fun G sz hR => ctX6_back (xl x) (xD x) w G sz hR a0 x1 x2 hl0 hcl_1) rfl my_X6_back ml_X6_159 ⟨by decide, by decide⟩ ⟨by decide, by decide⟩ rfl rfl (Nat.le_of_ble_eq_true rfl) dX6_isLowest_3 rfl ?_
  refine v_istore_n (pc' := 7) (L' := [some (.ref a0), some (.int x1), some (.int x2), some (.int y_2), none, none]) hx dX6_isLowest_6 rfl rfl (Nat.le_of_ble_eq_true rfl) ?_
  refine v_iload_n (pc' := 8) hx dX6_isLowest_7 rfl rfl ?_
  refine v_istore (pc' := 10) (L' := [some (.ref a0), some (.int x1), some (.int x2), some (.int y_2), some (.int x2), none]) hx dX6_isLowest_8 rfl rfl (Nat.le_of_ble_eq_true rfl) ?_
  refine v_iconst (pc' := 11) (v := 1) hx dX6_isLowest_10 (by decide) rfl ?_
  refine v_istore (pc' := 13) (L' := [some (.ref a0), some (.int x1), some (.int x2), some (.int y_2), some (.int x2), some (.int 1)]) hx dX6_isLowest_11 rfl rfl (Nat.le_of_ble_eq_true rfl) ?_
  exact vX6_isLowest_l13 hx hq 1000 a0 x1 x2 y_2 x2 1 hl0 h
theorem ctX6_isLowest (l : Launch) (D : DD) (w : Wd) (G : GT) (sz : Nat) (hR : Rp D w G sz) (a0 : Nat) (x1 : Int32) (x2 : Int32) (hl0 : zL w 6 a0 = true) {r0 : Int32} (h : fX6_isLowest a0 x1 x2 w = some r0) : MetI l yX6_isLowest (WS yX6_isLowest cX6_isLowest 6 (some .boolean)) rmX6_isLowest D [.ref a0, .int x1, .int x2] G sz r0 w := by
  refine MetI_ofV (own := RX6) (P := Rp D w) hR (by decide) rfl (by simp [Value.category]) (Nat.le_of_ble_eq_true rfl) (fun x hx hq hD hl => ?_)
  subst hD
  exact vX6_isLowest hx hq a0 x1 x2 hl0 h
theorem vX6_rings_b49 {x : CT} (hx : CX x cX6_rings RX6 rmX6_rings (some .int)) {r0 : Int32} {w : Wd} (hq : RI x rmX6_rings r0 w) {rec14 : Nat → Int32 → Int32 → Int32 → Option (Int32)} {a0 : Nat} {x1 : Int32} {x3 : Int32} {xs0 : Int32} {xs1 : Int32} (hrec14 : ∀ (a0 : Nat) (x1 : Int32) (x2 : Int32) (x3 : Int32), rec14 a0 x1 x2 x3 = some r0 → (zL w 6 a0 = true) → V x 14 [some (.ref a0), some (.int x1), some (.int x2), some (.int x3)] [] (Rp (xD x) w) 0 0) (hl0 : zL w 6 a0 = true) (h : fX6_rings_b49 w rec14 a0 x1 x3 xs0 xs1 = some r0) : V x 49 [some (.ref a0), some (.int x1), none, some (.int x3)] [.int xs0, .int xs1] (Rp (xD x) w) 0 0 := by
  unfold fX6_rings_b49 at h
  refine v_iadd (pc' := 50) hx dX6_rings_49 rfl ?_
  refine v_istore_n (pc' := 51) (L' := [some (.ref a0), some (.int x1), some (.int (xs1 + xs0)), some (.int x3)]) hx dX6_rings_50 rfl rfl (Nat.le_of_ble_eq_true rfl) ?_
  refine v_iinc (pc' := 54) (w0 := (x3 + 1)) (L' := [some (.ref a0), some (.int x1), some (.int (xs1 + xs0)), some (.int (x3 + 1))]) hx dX6_rings_51 rfl rfl rfl rfl ?_
  refine v_goto (tgt := 14) hx dX6_rings_54 (by decide) ?_
  exact hrec14 a0 x1 (xs1 + xs0) (x3 + 1) h hl0
theorem vX6_rings_b48 {x : CT} (hx : CX x cX6_rings RX6 rmX6_rings (some .int)) {r0 : Int32} {w : Wd} (hq : RI x rmX6_rings r0 w) {rec14 : Nat → Int32 → Int32 → Int32 → Option (Int32)} {a0 : Nat} {x1 : Int32} {x3 : Int32} {xs0 : Int32} (hrec14 : ∀ (a0 : Nat) (x1 : Int32) (x2 : Int32) (x3 : Int32), rec14 a0 x1 x2 x3 = some r0 → (zL w 6 a0 = true) → V x 14 [some (.ref a0), some (.int x1), some (.int x2), some (.int x3)] [] (Rp (xD x) w) 0 0) (hl0 : zL w 6 a0 = true) (h : fX6_rings_b48 w rec14 a0 x1 x3 xs0 = some r0) : V x 48 [some (.ref a0), some (.int x1), none, some (.int x3)] [.int xs0] (Rp (xD x) w) 0 0 := by
  unfold fX6_rings_b48 at h
  refine v_iconst (pc' := 49) (v := 0) hx dX6_rings_48 (by decide) rfl ?_
  exact vX6_rings_b49 hx hq hrec14 hl0 h
theorem vX6_rings_b14 {x : CT} (hx : CX x cX6_rings RX6 rmX6_rings (some .int)) {r0 : Int32} {w : Wd} (hq : RI x rmX6_rings r0 w) {rec14 : Nat → Int32 → Int32 → Int32 → Option (Int32)} {a0 : Nat} {x1 : Int32} {x2 : Int32} {x3 : Int32} (hrec14 : ∀ (a0 : Nat) (x1 : Int32) (x2 : Int32) (x3 : Int32), rec14 a0 x1 x2 x3 = some r0 → (zL w 6 a0 = true) → V x 14 [some (.ref a0), some (.int x1), some (.int x2), some (.int x3)] [] (Rp (xD x) w) 0 0) (hl0 : zL w 6 a0 = true) (h : fX6_rings_b14 w rec14 a0 x1 x2 x3 = some r0) : V x 14 [some (.ref a0), some (.int x1), some (.int x2), some (.int x3)] [] (Rp (xD x) w) 0 0 := by
  unfold fX6_rings_b14 at h
  refine v_iload_n (pc' := 15) hx dX6_rings_14 rfl rfl ?_
  refine v_bipush (pc' := 17) (v := 24) hx dX6_rings_15 (by decide) rfl ?_
  refine v_icmp_ge (tgt := 57) (pc' := 20) hx dX6_rings_17 (by decide) rfl (fun hc_1 => ?_) (fun hc_1 => ?_)
  · rw [if_pos hc_1] at h
    refine v_iload_n (pc' := 58) hx dX6_rings_57 rfl rfl ?_
    exact v_iret hx hq (by decide) (by decide) dX6_rings_58 (by cases h; rfl)
  · rw [if_neg hc_1] at h
    refine v_iload_n (pc' := 21) hx dX6_rings_20 rfl rfl ?_
    refine v_aload_n (pc' := 22) hx dX6_rings_21 rfl rfl ?_
    obtain ⟨g_2, hq_3⟩ : ∃ q, zA w 6 a0 7 = q := ⟨_, rfl⟩
    refine v_getAq (pc' := 25) hx hl0 fi_6_7.1 (by decide) hq_3 fk_X6_27 dX6_rings_22 rfl ?_
    refine v_bipush (pc' := 27) (v := 24) hx dX6_rings_25 (by decide) rfl ?_
    refine v_iload_n (pc' := 28) hx dX6_rings_27 rfl rfl ?_
    refine v_imul (pc' := 29) hx dX6_rings_28 rfl ?_
    refine v_iload_n (pc' := 30) hx dX6_rings_29 rfl rfl ?_
    refine v_iadd (pc' := 31) hx dX6_rings_30 rfl ?_
    replace h := ckp_inv h; obtain ⟨hk_4, h⟩ := h
    refine v_zaldq (pc' := 32) hx hl0 fi_6_7.1 fi_6_7.2.1 rfl hk_4 hq_3 dX6_rings_31 rfl ?_
    refine v_if_eq (tgt := 48) (pc' := 35) hx dX6_rings_32 (by decide) rfl (fun hc_5 => ?_) (fun hc_5 => ?_)
    · rw [if_pos hc_5] at h
      refine V.sb (L' := [some (.ref a0), some (.int x1), none, some (.int x3)]) ⟨Or.inr rfl, Or.inr rfl, Or.inl rfl, Or.inr rfl, trivial⟩ ?_
      exact vX6_rings_b48 hx hq hrec14 hl0 h
    · rw [if_neg hc_5] at h
      refine v_aload_n (pc' := 36) hx dX6_rings_35 rfl rfl ?_
      refine v_iload_n (pc' := 37) hx dX6_rings_36 rfl rfl ?_
      refine v_iload_n (pc' := 38) hx dX6_rings_37 rfl rfl ?_
      replace h := bd_inv h; obtain ⟨y_7, hcl_6, h⟩ := h
      refine v_callVi (pc' := 41) (w' := w) (r := y_7) (ci := 6) (b := a0) (As := [.int x1, .int x3]) (rest := [.int x2]) hx hl0 (fun G sz hR => ctX6_isLowest (xl x) (xD x) w G sz hR a0 x1 x3 hl0 hcl_6) rfl my_X6_isLowest ml_X6_162 ⟨by decide, by decide⟩ ⟨by decide, by decide⟩ rfl rfl (Nat.le_of_ble_eq_true rfl) dX6_rings_38 rfl ?_
      refine v_if_eq (tgt := 48) (pc' := 44) hx dX6_rings_41 (by decide) rfl (fun hc_9 => ?_) (fun hc_9 => ?_)
      · rw [if_pos hc_9] at h
        refine V.sb (L' := [some (.ref a0), some (.int x1), none, some (.int x3)]) ⟨Or.inr rfl, Or.inr rfl, Or.inl rfl, Or.inr rfl, trivial⟩ ?_
        exact vX6_rings_b48 hx hq hrec14 hl0 h
      · rw [if_neg hc_9] at h
        refine v_iconst (pc' := 45) (v := 1) hx dX6_rings_44 (by decide) rfl ?_
        refine v_goto (tgt := 49) hx dX6_rings_45 (by decide) ?_
        refine V.sb (L' := [some (.ref a0), some (.int x1), none, some (.int x3)]) ⟨Or.inr rfl, Or.inr rfl, Or.inl rfl, Or.inr rfl, trivial⟩ ?_
        exact vX6_rings_b49 hx hq hrec14 hl0 h
theorem vX6_rings_l14 {x : CT} (hx : CX x cX6_rings RX6 rmX6_rings (some .int)) {r0 : Int32} {w : Wd} (hq : RI x rmX6_rings r0 w) : ∀ (n : Nat) (a0 : Nat) (x1 : Int32) (x2 : Int32) (x3 : Int32), (zL w 6 a0 = true) → fX6_rings_l14 w n a0 x1 x2 x3 = some r0 → V x 14 [some (.ref a0), some (.int x1), some (.int x2), some (.int x3)] [] (Rp (xD x) w) 0 0 := by
  intro n
  induction n with
  | zero => intro a0 x1 x2 x3 hl0 h; cases h
  | succ n ih =>
    intro a0 x1 x2 x3 hl0 h
    exact vX6_rings_b14 hx hq  (fun a0 x1 x2 x3 h hl0 => ih a0 x1 x2 x3 hl0 h) hl0 h
theorem vX6_rings {x : CT} (hx : CX x cX6_rings RX6 rmX6_rings (some .int)) {r0 : Int32} {w : Wd} (hq : RI x rmX6_rings r0 w) (a0 : Nat) (x1 : Int32) (hl0 : zL w 6 a0 = true) (h : fX6_rings a0 x1 w = some r0) : V x 0 [some (.ref a0), some (.int x1), none, none] [] (Rp (xD x) w) 0 0 := by
  unfold fX6_rings at h
  refine v_aload_n (pc' := 1) hx dX6_rings_0 rfl rfl ?_
  refine v_iload_n (pc' := 2) hx dX6_rings_1 rfl rfl ?_
  replace h := bd_inv h; obtain ⟨y_2, hcl_1, h⟩ := h
  refine v_callVi (pc' := 5) (w' := w) (r := y_2) (ci := 6) (b := a0) (As := [.int x1]) (rest := []) hx hl0 (fun G sz hR => ctX6_isPicture (xl x) (xD x) w G sz hR a0 x1 hl0 hcl_1) rfl my_X6_isPicture ml_X6_145 ⟨by decide, by decide⟩ ⟨by decide, by decide⟩ rfl rfl (Nat.le_of_ble_eq_true rfl) dX6_rings_2 rfl ?_
  refine v_if_ne (tgt := 10) (pc' := 8) hx dX6_rings_5 (by decide) rfl (fun hc_4 => ?_) (fun hc_4 => ?_)
  · rw [if_neg hc_4] at h
    refine v_iconst (pc' := 11) (v := 0) hx dX6_rings_10 (by decide) rfl ?_
    refine v_istore_n (pc' := 12) (L' := [some (.ref a0), some (.int x1), some (.int 0), none]) hx dX6_rings_11 rfl rfl (Nat.le_of_ble_eq_true rfl) ?_
    refine v_iconst (pc' := 13) (v := 0) hx dX6_rings_12 (by decide) rfl ?_
    refine v_istore_n (pc' := 14) (L' := [some (.ref a0), some (.int x1), some (.int 0), some (.int 0)]) hx dX6_rings_13 rfl rfl (Nat.le_of_ble_eq_true rfl) ?_
    exact vX6_rings_l14 hx hq 1000 a0 x1 0 0 hl0 h
  · rw [if_pos hc_4] at h
    refine v_iconst (pc' := 9) (v := (-1)) hx dX6_rings_8 (by decide) rfl ?_
    exact v_iret hx hq (by decide) (by decide) dX6_rings_9 (by cases h; rfl)
theorem ctX6_rings (l : Launch) (D : DD) (w : Wd) (G : GT) (sz : Nat) (hR : Rp D w G sz) (a0 : Nat) (x1 : Int32) (hl0 : zL w 6 a0 = true) {r0 : Int32} (h : fX6_rings a0 x1 w = some r0) : MetI l yX6_rings (WS yX6_rings cX6_rings 4 (some .int)) rmX6_rings D [.ref a0, .int x1] G sz r0 w := by
  refine MetI_ofV (own := RX6) (P := Rp D w) hR (by decide) rfl (by simp [Value.category]) (Nat.le_of_ble_eq_true rfl) (fun x hx hq hD hl => ?_)
  subst hD
  exact vX6_rings hx hq a0 x1 hl0 h
theorem vX1_walkFrom_b5 {x : CT} (hx : CX x cX1_walkFrom RX1 rmX1_walkFrom (some .int)) {r0 : Int32} {w : Wd} (hq : RI x rmX1_walkFrom r0 w) {rec5 : Nat → Int32 → Int32 → Int32 → Option (Int32)} {a0 : Nat} {x2 : Int32} {x3 : Int32} {x4 : Int32} (hrec5 : ∀ (a0 : Nat) (x2 : Int32) (x3 : Int32) (x4 : Int32), rec5 a0 x2 x3 x4 = some r0 → (zL w 1 a0 = true) → V x 5 [some (.ref a0), none, some (.int x2), some (.int x3), some (.int x4)] [] (Rp (xD x) w) 0 0) (hl0 : zL w 1 a0 = true) (h : fX1_walkFrom_b5 w rec5 a0 x2 x3 x4 = some r0) : V x 5 [some (.ref a0), none, some (.int x2), some (.int x3), some (.int x4)] [] (Rp (xD x) w) 0 0 := by
  unfold fX1_walkFrom_b5 at h
  refine v_iload (pc' := 7) hx dX1_walkFrom_5 rfl rfl ?_
  refine v_iload_n (pc' := 8) hx dX1_walkFrom_7 rfl rfl ?_
  refine v_icmp_ge (tgt := 23) (pc' := 11) hx dX1_walkFrom_8 (by decide) rfl (fun hc_1 => ?_) (fun hc_1 => ?_)
  · rw [if_pos hc_1] at h
    refine v_iload_n (pc' := 24) hx dX1_walkFrom_23 rfl rfl ?_
    exact v_iret hx hq (by decide) (by decide) dX1_walkFrom_24 (by cases h; rfl)
  · rw [if_neg hc_1] at h
    refine v_aload_n (pc' := 12) hx dX1_walkFrom_11 rfl rfl ?_
    refine v_iload_n (pc' := 13) hx dX1_walkFrom_12 rfl rfl ?_
    replace h := bd_inv h; obtain ⟨y_3, hcl_2, h⟩ := h
    refine v_callVi (pc' := 16) (w' := w) (r := y_3) (ci := 1) (b := a0) (As := [.int x3]) (rest := []) hx hl0 (fun G sz hR => ctX1_awaitedBy (xl x) (xD x) w G sz hR a0 x3 hl0 hcl_2) rfl my_X1_awaitedBy ml_X1_89 ⟨by decide, by decide⟩ ⟨by decide, by decide⟩ rfl rfl (Nat.le_of_ble_eq_true rfl) dX1_walkFrom_13 rfl ?_
    refine v_istore_n (pc' := 17) (L' := [some (.ref a0), none, some (.int x2), some (.int y_3), some (.int x4)]) hx dX1_walkFrom_16 rfl rfl (Nat.le_of_ble_eq_true rfl) ?_
    refine v_iinc (pc' := 20) (w0 := (x4 + 1)) (L' := [some (.ref a0), none, some (.int x2), some (.int y_3), some (.int (x4 + 1))]) hx dX1_walkFrom_17 rfl rfl rfl rfl ?_
    refine v_goto (tgt := 5) hx dX1_walkFrom_20 (by decide) ?_
    exact hrec5 a0 x2 y_3 (x4 + 1) h hl0
theorem vX1_walkFrom_l5 {x : CT} (hx : CX x cX1_walkFrom RX1 rmX1_walkFrom (some .int)) {r0 : Int32} {w : Wd} (hq : RI x rmX1_walkFrom r0 w) : ∀ (n : Nat) (a0 : Nat) (x2 : Int32) (x3 : Int32) (x4 : Int32), (zL w 1 a0 = true) → fX1_walkFrom_l5 w n a0 x2 x3 x4 = some r0 → V x 5 [some (.ref a0), none, some (.int x2), some (.int x3), some (.int x4)] [] (Rp (xD x) w) 0 0 := by
  intro n
  induction n with
  | zero => intro a0 x2 x3 x4 hl0 h; cases h
  | succ n ih =>
    intro a0 x2 x3 x4 hl0 h
    exact vX1_walkFrom_b5 hx hq  (fun a0 x2 x3 x4 h hl0 => ih a0 x2 x3 x4 hl0 h) hl0 h
theorem vX1_walkFrom {x : CT} (hx : CX x cX1_walkFrom RX1 rmX1_walkFrom (some .int)) {r0 : Int32} {w : Wd} (hq : RI x rmX1_walkFrom r0 w) (a0 : Nat) (x1 : Int32) (x2 : Int32) (hl0 : zL w 1 a0 = true) (h : fX1_walkFrom a0 x1 x2 w = some r0) : V x 0 [some (.ref a0), some (.int x1), some (.int x2), none, none] [] (Rp (xD x) w) 0 0 := by
  unfold fX1_walkFrom at h
  refine v_iload_n (pc' := 1) hx dX1_walkFrom_0 rfl rfl ?_
  refine v_istore_n (pc' := 2) (L' := [some (.ref a0), some (.int x1), some (.int x2), some (.int x1), none]) hx dX1_walkFrom_1 rfl rfl (Nat.le_of_ble_eq_true rfl) ?_
  refine v_iconst (pc' := 3) (v := 0) hx dX1_walkFrom_2 (by decide) rfl ?_
  refine v_istore (pc' := 5) (L' := [some (.ref a0), some (.int x1), some (.int x2), some (.int x1), some (.int 0)]) hx dX1_walkFrom_3 rfl rfl (Nat.le_of_ble_eq_true rfl) ?_
  refine V.sb (L' := [some (.ref a0), none, some (.int x2), some (.int x1), some (.int 0)]) ⟨Or.inr rfl, Or.inl rfl, Or.inr rfl, Or.inr rfl, Or.inr rfl, trivial⟩ ?_
  exact vX1_walkFrom_l5 hx hq 1000 a0 x2 x1 0 hl0 h
theorem ctX1_walkFrom (l : Launch) (D : DD) (w : Wd) (G : GT) (sz : Nat) (hR : Rp D w G sz) (a0 : Nat) (x1 : Int32) (x2 : Int32) (hl0 : zL w 1 a0 = true) {r0 : Int32} (h : fX1_walkFrom a0 x1 x2 w = some r0) : MetI l yX1_walkFrom (WS yX1_walkFrom cX1_walkFrom 5 (some .int)) rmX1_walkFrom D [.ref a0, .int x1, .int x2] G sz r0 w := by
  refine MetI_ofV (own := RX1) (P := Rp D w) hR (by decide) rfl (by simp [Value.category]) (Nat.le_of_ble_eq_true rfl) (fun x hx hq hD hl => ?_)
  subst hD
  exact vX1_walkFrom hx hq a0 x1 x2 hl0 h
theorem vX1_threadOfRing_b55 {x : CT} (hx : CX x cX1_threadOfRing RX1 rmX1_threadOfRing (some .int)) {r0 : Int32} {w : Wd} (hq : RI x rmX1_threadOfRing r0 w) {rec5 : Nat → Int32 → Int32 → Int32 → Int32 → Option (Int32)} {a0 : Nat} {x1 : Int32} {x2 : Int32} {x3 : Int32} {x4 : Int32} (hrec5 : ∀ (a0 : Nat) (x1 : Int32) (x2 : Int32) (x3 : Int32) (x4 : Int32), rec5 a0 x1 x2 x3 x4 = some r0 → (zL w 1 a0 = true) → V x 5 [some (.ref a0), some (.int x1), some (.int x2), some (.int x3), some (.int x4), none] [] (Rp (xD x) w) 0 0) (hl0 : zL w 1 a0 = true) (h : fX1_threadOfRing_b55 w rec5 a0 x1 x2 x3 x4 = some r0) : V x 55 [some (.ref a0), some (.int x1), some (.int x2), some (.int x3), some (.int x4), none] [] (Rp (xD x) w) 0 0 := by
  unfold fX1_threadOfRing_b55 at h
  refine v_iinc (pc' := 58) (w0 := (x4 + 1)) (L' := [some (.ref a0), some (.int x1), some (.int x2), some (.int x3), some (.int (x4 + 1)), none]) hx dX1_threadOfRing_55 rfl rfl rfl rfl ?_
  refine v_goto (tgt := 5) hx dX1_threadOfRing_58 (by decide) ?_
  exact hrec5 a0 x1 x2 x3 (x4 + 1) h hl0
theorem vX1_threadOfRing_b51 {x : CT} (hx : CX x cX1_threadOfRing RX1 rmX1_threadOfRing (some .int)) {r0 : Int32} {w : Wd} (hq : RI x rmX1_threadOfRing r0 w) {xs0 : Int32} (h : fX1_threadOfRing_b51 w xs0 = some r0) : V x 51 [none, none, none, none, none, none] [.int xs0] (Rp (xD x) w) 0 0 := by
  unfold fX1_threadOfRing_b51 at h
  exact v_iret hx hq (by decide) (by decide) dX1_threadOfRing_51 (by cases h; rfl)
theorem vX1_threadOfRing_b40 {x : CT} (hx : CX x cX1_threadOfRing RX1 rmX1_threadOfRing (some .int)) {r0 : Int32} {w : Wd} (hq : RI x rmX1_threadOfRing r0 w) (h : fX1_threadOfRing_b40 w = some r0) : V x 40 [none, none, none, none, none, none] [] (Rp (xD x) w) 0 0 := by
  unfold fX1_threadOfRing_b40 at h
  refine v_iconst (pc' := 41) (v := (-1)) hx dX1_threadOfRing_40 (by decide) rfl ?_
  refine v_goto (tgt := 51) hx dX1_threadOfRing_41 (by decide) ?_
  exact vX1_threadOfRing_b51 hx hq h
theorem vX1_threadOfRing_b5 {x : CT} (hx : CX x cX1_threadOfRing RX1 rmX1_threadOfRing (some .int)) {r0 : Int32} {w : Wd} (hq : RI x rmX1_threadOfRing r0 w) {rec5 : Nat → Int32 → Int32 → Int32 → Int32 → Option (Int32)} {a0 : Nat} {x1 : Int32} {x2 : Int32} {x3 : Int32} {x4 : Int32} (hrec5 : ∀ (a0 : Nat) (x1 : Int32) (x2 : Int32) (x3 : Int32) (x4 : Int32), rec5 a0 x1 x2 x3 x4 = some r0 → (zL w 1 a0 = true) → V x 5 [some (.ref a0), some (.int x1), some (.int x2), some (.int x3), some (.int x4), none] [] (Rp (xD x) w) 0 0) (hl0 : zL w 1 a0 = true) (h : fX1_threadOfRing_b5 w rec5 a0 x1 x2 x3 x4 = some r0) : V x 5 [some (.ref a0), some (.int x1), some (.int x2), some (.int x3), some (.int x4), none] [] (Rp (xD x) w) 0 0 := by
  unfold fX1_threadOfRing_b5 at h
  refine v_iload (pc' := 7) hx dX1_threadOfRing_5 rfl rfl ?_
  refine v_bipush (pc' := 9) (v := 24) hx dX1_threadOfRing_7 (by decide) rfl ?_
  refine v_icmp_ge (tgt := 61) (pc' := 12) hx dX1_threadOfRing_9 (by decide) rfl (fun hc_1 => ?_) (fun hc_1 => ?_)
  · rw [if_pos hc_1] at h
    refine v_iconst (pc' := 62) (v := (-1)) hx dX1_threadOfRing_61 (by decide) rfl ?_
    exact v_iret hx hq (by decide) (by decide) dX1_threadOfRing_62 (by cases h; rfl)
  · rw [if_neg hc_1] at h
    refine v_aload_n (pc' := 13) hx dX1_threadOfRing_12 rfl rfl ?_
    refine v_iload (pc' := 15) hx dX1_threadOfRing_13 rfl rfl ?_
    replace h := bd_inv h; obtain ⟨y_3, hcl_2, h⟩ := h
    refine v_callVi (pc' := 18) (w' := w) (r := y_3) (ci := 1) (b := a0) (As := [.int x4]) (rest := []) hx hl0 (fun G sz hR => ctX1_sizeOfRingFrom (xl x) (xD x) w G sz hR a0 x4 hl0 hcl_2) rfl my_X1_sizeOfRingFrom ml_X1_86 ⟨by decide, by decide⟩ ⟨by decide, by decide⟩ rfl rfl (Nat.le_of_ble_eq_true rfl) dX1_threadOfRing_15 rfl ?_
    refine v_istore (pc' := 20) (L' := [some (.ref a0), some (.int x1), some (.int x2), some (.int x3), some (.int x4), some (.int y_3)]) hx dX1_threadOfRing_18 rfl rfl (Nat.le_of_ble_eq_true rfl) ?_
    refine v_iload (pc' := 22) hx dX1_threadOfRing_20 rfl rfl ?_
    refine v_if_le (tgt := 55) (pc' := 25) hx dX1_threadOfRing_22 (by decide) rfl (fun hc_5 => ?_) (fun hc_5 => ?_)
    · rw [if_pos hc_5] at h
      refine V.sb (L' := [some (.ref a0), some (.int x1), some (.int x2), some (.int x3), some (.int x4), none]) ⟨Or.inr rfl, Or.inr rfl, Or.inr rfl, Or.inr rfl, Or.inr rfl, Or.inl rfl, trivial⟩ ?_
      exact vX1_threadOfRing_b55 hx hq hrec5 hl0 h
    · rw [if_neg hc_5] at h
      refine v_iload_n (pc' := 26) hx dX1_threadOfRing_25 rfl rfl ?_
      refine v_iload_n (pc' := 27) hx dX1_threadOfRing_26 rfl rfl ?_
      refine v_icmp_ne (tgt := 52) (pc' := 30) hx dX1_threadOfRing_27 (by decide) rfl (fun hc_6 => ?_) (fun hc_6 => ?_)
      · rw [if_neg hc_6] at h
        refine v_iinc (pc' := 55) (w0 := (x3 + 1)) (L' := [some (.ref a0), some (.int x1), some (.int x2), some (.int (x3 + 1)), some (.int x4), some (.int y_3)]) hx dX1_threadOfRing_52 rfl rfl rfl rfl ?_
        refine V.sb (L' := [some (.ref a0), some (.int x1), some (.int x2), some (.int (x3 + 1)), some (.int x4), none]) ⟨Or.inr rfl, Or.inr rfl, Or.inr rfl, Or.inr rfl, Or.inr rfl, Or.inl rfl, trivial⟩ ?_
        exact vX1_threadOfRing_b55 hx hq hrec5 hl0 h
      · rw [if_pos hc_6] at h
        refine v_iload_n (pc' := 31) hx dX1_threadOfRing_30 rfl rfl ?_
        refine v_if_lt (tgt := 40) (pc' := 34) hx dX1_threadOfRing_31 (by decide) rfl (fun hc_7 => ?_) (fun hc_7 => ?_)
        · rw [if_pos hc_7] at h
          refine V.sb (L' := [none, none, none, none, none, none]) ⟨Or.inl rfl, Or.inl rfl, Or.inl rfl, Or.inl rfl, Or.inl rfl, Or.inl rfl, trivial⟩ ?_
          exact vX1_threadOfRing_b40 hx hq h
        · rw [if_neg hc_7] at h
          refine v_iload_n (pc' := 35) hx dX1_threadOfRing_34 rfl rfl ?_
          refine v_iload (pc' := 37) hx dX1_threadOfRing_35 rfl rfl ?_
          refine v_icmp_lt (tgt := 44) (pc' := 40) hx dX1_threadOfRing_37 (by decide) rfl (fun hc_8 => ?_) (fun hc_8 => ?_)
          · rw [if_pos hc_8] at h
            refine v_aload_n (pc' := 45) hx dX1_threadOfRing_44 rfl rfl ?_
            refine v_iload (pc' := 47) hx dX1_threadOfRing_45 rfl rfl ?_
            refine v_iload_n (pc' := 48) hx dX1_threadOfRing_47 rfl rfl ?_
            replace h := bd_inv h; obtain ⟨y_10, hcl_9, h⟩ := h
            refine v_callVi (pc' := 51) (w' := w) (r := y_10) (ci := 1) (b := a0) (As := [.int x4, .int x2]) (rest := []) hx hl0 (fun G sz hR => ctX1_walkFrom (xl x) (xD x) w G sz hR a0 x4 x2 hl0 hcl_9) rfl my_X1_walkFrom ml_X1_92 ⟨by decide, by decide⟩ ⟨by decide, by decide⟩ rfl rfl (Nat.le_of_ble_eq_true rfl) dX1_threadOfRing_48 rfl ?_
            refine V.sb (L' := [none, none, none, none, none, none]) ⟨Or.inl rfl, Or.inl rfl, Or.inl rfl, Or.inl rfl, Or.inl rfl, Or.inl rfl, trivial⟩ ?_
            exact vX1_threadOfRing_b51 hx hq h
          · rw [if_neg hc_8] at h
            refine V.sb (L' := [none, none, none, none, none, none]) ⟨Or.inl rfl, Or.inl rfl, Or.inl rfl, Or.inl rfl, Or.inl rfl, Or.inl rfl, trivial⟩ ?_
            exact vX1_threadOfRing_b40 hx hq h
theorem vX1_threadOfRing_l5 {x : CT} (hx : CX x cX1_threadOfRing RX1 rmX1_threadOfRing (some .int)) {r0 : Int32} {w : Wd} (hq : RI x rmX1_threadOfRing r0 w) : ∀ (n : Nat) (a0 : Nat) (x1 : Int32) (x2 : Int32) (x3 : Int32) (x4 : Int32), (zL w 1 a0 = true) → fX1_threadOfRing_l5 w n a0 x1 x2 x3 x4 = some r0 → V x 5 [some (.ref a0), some (.int x1), some (.int x2), some (.int x3), some (.int x4), none] [] (Rp (xD x) w) 0 0 := by
  intro n
  induction n with
  | zero => intro a0 x1 x2 x3 x4 hl0 h; cases h
  | succ n ih =>
    intro a0 x1 x2 x3 x4 hl0 h
    exact vX1_threadOfRing_b5 hx hq  (fun a0 x1 x2 x3 x4 h hl0 => ih a0 x1 x2 x3 x4 hl0 h) hl0 h
theorem vX1_threadOfRing {x : CT} (hx : CX x cX1_threadOfRing RX1 rmX1_threadOfRing (some .int)) {r0 : Int32} {w : Wd} (hq : RI x rmX1_threadOfRing r0 w) (a0 : Nat) (x1 : Int32) (x2 : Int32) (hl0 : zL w 1 a0 = true) (h : fX1_threadOfRing a0 x1 x2 w = some r0) : V x 0 [some (.ref a0), some (.int x1), some (.int x2), none, none, none] [] (Rp (xD x) w) 0 0 := by
  unfold fX1_threadOfRing at h
  refine v_iconst (pc' := 1) (v := 0) hx dX1_threadOfRing_0 (by decide) rfl ?_
  refine v_istore_n (pc' := 2) (L' := [some (.ref a0), some (.int x1), some (.int x2), some (.int 0), none, none]) hx dX1_threadOfRing_1 rfl rfl (Nat.le_of_ble_eq_true rfl) ?_
  refine v_iconst (pc' := 3) (v := 0) hx dX1_threadOfRing_2 (by decide) rfl ?_
  refine v_istore (pc' := 5) (L' := [some (.ref a0), some (.int x1), some (.int x2), some (.int 0), some (.int 0), none]) hx dX1_threadOfRing_3 rfl rfl (Nat.le_of_ble_eq_true rfl) ?_
  exact vX1_threadOfRing_l5 hx hq 1000 a0 x1 x2 0 0 hl0 h
theorem ctX1_threadOfRing (l : Launch) (D : DD) (w : Wd) (G : GT) (sz : Nat) (hR : Rp D w G sz) (a0 : Nat) (x1 : Int32) (x2 : Int32) (hl0 : zL w 1 a0 = true) {r0 : Int32} (h : fX1_threadOfRing a0 x1 x2 w = some r0) : MetI l yX1_threadOfRing (WS yX1_threadOfRing cX1_threadOfRing 6 (some .int)) rmX1_threadOfRing D [.ref a0, .int x1, .int x2] G sz r0 w := by
  refine MetI_ofV (own := RX1) (P := Rp D w) hR (by decide) rfl (by simp [Value.category]) (Nat.le_of_ble_eq_true rfl) (fun x hx hq hD hl => ?_)
  subst hD
  exact vX1_threadOfRing hx hq a0 x1 x2 hl0 h
theorem vX5_ring_b23 {x : CT} (hx : CX x cX5_ring RX5 rmX5_ring (some .int)) {r0 : Int32} {w : Wd} (hq : RI x rmX5_ring r0 w) {xs0 : Int32} (h : fX5_ring_b23 w xs0 = some r0) : V x 23 [none, none, none, none, none] [.int xs0] (Rp (xD x) w) 0 0 := by
  unfold fX5_ring_b23 at h
  exact v_iret hx hq (by decide) (by decide) dX5_ring_23 (by cases h; rfl)
theorem vX5_ring {x : CT} (hx : CX x cX5_ring RX5 rmX5_ring (some .int)) {r0 : Int32} {w : Wd} (hq : RI x rmX5_ring r0 w) (a0 : Nat) (x1 : Int32) (x2 : Int32) (x3 : Int32) (hl0 : zL w 5 a0 = true) (h : fX5_ring a0 x1 x2 x3 w = some r0) : V x 0 [some (.ref a0), some (.int x1), some (.int x2), some (.int x3), none] [] (Rp (xD x) w) 0 0 := by
  unfold fX5_ring at h
  refine v_aload_n (pc' := 1) hx dX5_ring_0 rfl rfl ?_
  refine v_iload_n (pc' := 2) hx dX5_ring_1 rfl rfl ?_
  replace h := bd_inv h; obtain ⟨u_2, hcl_1, h⟩ := h
  refine v_callVq (pc' := 5) (w' := w) (q := u_2) (ci := 5) (b := a0) (As := [.int x1]) (rest := []) hx hl0 (fun G sz hR => ctX5_pictureAt (xl x) (xD x) w G sz hR a0 x1 hl0 hcl_1) rfl my_X5_pictureAt ml_X5_74 ⟨by decide, by decide⟩ ⟨by decide, by decide⟩ rfl rfl (Nat.le_of_ble_eq_true rfl) dX5_ring_2 rfl (fun hl_3 => ?_)
  refine v_astoreq (pc' := 7) (L' := [some (.ref a0), some (.int x1), some (.int x2), some (.int x3), some (va_rf u_2)]) hx dX5_ring_5 rfl rfl (Nat.le_of_ble_eq_true rfl) ?_
  refine v_aloadq (pc' := 9) hx dX5_ring_7 rfl rfl ?_
  refine v_ifnonnull (tgt := 16) (pc' := 12) hx dX5_ring_9 (by decide) rfl (fun b_4 hn_5 => ?_) (fun hn_5 => ?_)
  · subst hn_5
    rw [oc_s] at h
    have hl_6 : zL w 1 b_4 = true := hl_3 _ rfl
    refine v_aload (pc' := 18) hx dX5_ring_16 rfl rfl ?_
    refine v_iload_n (pc' := 19) hx dX5_ring_18 rfl rfl ?_
    refine v_iload_n (pc' := 20) hx dX5_ring_19 rfl rfl ?_
    replace h := bd_inv h; obtain ⟨y_8, hcl_7, h⟩ := h
    refine v_callVi (pc' := 23) (w' := w) (r := y_8) (ci := 1) (b := b_4) (As := [.int x2, .int x3]) (rest := []) hx hl_6 (fun G sz hR => ctX1_threadOfRing (xl x) (xD x) w G sz hR b_4 x2 x3 hl_6 hcl_7) rfl my_X1_threadOfRing ml_X5_112 ⟨by decide, by decide⟩ ⟨by decide, by decide⟩ rfl rfl (Nat.le_of_ble_eq_true rfl) dX5_ring_20 rfl ?_
    refine V.sb (L' := [none, none, none, none, none]) ⟨Or.inl rfl, Or.inl rfl, Or.inl rfl, Or.inl rfl, Or.inl rfl, trivial⟩ ?_
    exact vX5_ring_b23 hx hq h
  · subst hn_5
    rw [oc_n] at h
    refine v_iconst (pc' := 13) (v := (-1)) hx dX5_ring_12 (by decide) rfl ?_
    refine v_goto (tgt := 23) hx dX5_ring_13 (by decide) ?_
    refine V.sb (L' := [none, none, none, none, none]) ⟨Or.inl rfl, Or.inl rfl, Or.inl rfl, Or.inl rfl, Or.inl rfl, trivial⟩ ?_
    exact vX5_ring_b23 hx hq h
theorem ctX5_ring (l : Launch) (D : DD) (w : Wd) (G : GT) (sz : Nat) (hR : Rp D w G sz) (a0 : Nat) (x1 : Int32) (x2 : Int32) (x3 : Int32) (hl0 : zL w 5 a0 = true) {r0 : Int32} (h : fX5_ring a0 x1 x2 x3 w = some r0) : MetI l yX5_ring (WS yX5_ring cX5_ring 5 (some .int)) rmX5_ring D [.ref a0, .int x1, .int x2, .int x3] G sz r0 w := by
  refine MetI_ofV (own := RX5) (P := Rp D w) hR (by decide) rfl (by simp [Value.category]) (Nat.le_of_ble_eq_true rfl) (fun x hx hq hD hl => ?_)
  subst hD
  exact vX5_ring hx hq a0 x1 x2 x3 hl0 h
theorem vX6_after_b33 {x : CT} (hx : CX x cX6_after RX6 rmX6_after (some .int)) {r0 : Int32} {w : Wd} (hq : RI x rmX6_after r0 w) {x4 : Int32} (h : fX6_after_b33 w x4 = some r0) : V x 33 [none, none, none, none, some (.int x4), none] [] (Rp (xD x) w) 0 0 := by
  unfold fX6_after_b33 at h
  refine v_iload (pc' := 35) hx dX6_after_33 rfl rfl ?_
  exact v_iret hx hq (by decide) (by decide) dX6_after_35 (by cases h; rfl)
theorem vX6_after_b6 {x : CT} (hx : CX x cX6_after RX6 rmX6_after (some .int)) {r0 : Int32} {w : Wd} (hq : RI x rmX6_after r0 w) {rec6 : Nat → Int32 → Int32 → Int32 → Int32 → Option (Int32)} {a0 : Nat} {x1 : Int32} {x3 : Int32} {x4 : Int32} {x5 : Int32} (hrec6 : ∀ (a0 : Nat) (x1 : Int32) (x3 : Int32) (x4 : Int32) (x5 : Int32), rec6 a0 x1 x3 x4 x5 = some r0 → (zL w 6 a0 = true) → V x 6 [some (.ref a0), some (.int x1), none, some (.int x3), some (.int x4), some (.int x5)] [] (Rp (xD x) w) 0 0) (hl0 : zL w 6 a0 = true) (h : fX6_after_b6 w rec6 a0 x1 x3 x4 x5 = some r0) : V x 6 [some (.ref a0), some (.int x1), none, some (.int x3), some (.int x4), some (.int x5)] [] (Rp (xD x) w) 0 0 := by
  unfold fX6_after_b6 at h
  refine v_iload (pc' := 8) hx dX6_after_6 rfl rfl ?_
  refine v_iload_n (pc' := 9) hx dX6_after_8 rfl rfl ?_
  refine v_icmp_ge (tgt := 33) (pc' := 12) hx dX6_after_9 (by decide) rfl (fun hc_1 => ?_) (fun hc_1 => ?_)
  · rw [if_pos hc_1] at h
    refine V.sb (L' := [none, none, none, none, some (.int x4), none]) ⟨Or.inl rfl, Or.inl rfl, Or.inl rfl, Or.inl rfl, Or.inr rfl, Or.inl rfl, trivial⟩ ?_
    exact vX6_after_b33 hx hq h
  · rw [if_neg hc_1] at h
    refine v_iload (pc' := 14) hx dX6_after_12 rfl rfl ?_
    refine v_iconst (pc' := 15) (v := (-1)) hx dX6_after_14 (by decide) rfl ?_
    refine v_icmp_eq (tgt := 33) (pc' := 18) hx dX6_after_15 (by decide) rfl (fun hc_2 => ?_) (fun hc_2 => ?_)
    · rw [if_pos hc_2] at h
      refine V.sb (L' := [none, none, none, none, some (.int x4), none]) ⟨Or.inl rfl, Or.inl rfl, Or.inl rfl, Or.inl rfl, Or.inr rfl, Or.inl rfl, trivial⟩ ?_
      exact vX6_after_b33 hx hq h
    · rw [if_neg hc_2] at h
      refine v_aload_n (pc' := 19) hx dX6_after_18 rfl rfl ?_
      refine v_iload_n (pc' := 20) hx dX6_after_19 rfl rfl ?_
      refine v_iload (pc' := 22) hx dX6_after_20 rfl rfl ?_
      replace h := bd_inv h; obtain ⟨y_4, hcl_3, h⟩ := h
      refine v_callVi (pc' := 25) (w' := w) (r := y_4) (ci := 6) (b := a0) (As := [.int x1, .int x4]) (rest := []) hx hl0 (fun G sz hR => ctX6_next (xl x) (xD x) w G sz hR a0 x1 x4 hl0 hcl_3) rfl my_X6_next ml_X6_156 ⟨by decide, by decide⟩ ⟨by decide, by decide⟩ rfl rfl (Nat.le_of_ble_eq_true rfl) dX6_after_22 rfl ?_
      refine v_istore (pc' := 27) (L' := [some (.ref a0), some (.int x1), none, some (.int x3), some (.int y_4), some (.int x5)]) hx dX6_after_25 rfl rfl (Nat.le_of_ble_eq_true rfl) ?_
      refine v_iinc (pc' := 30) (w0 := (x5 + 1)) (L' := [some (.ref a0), some (.int x1), none, some (.int x3), some (.int y_4), some (.int (x5 + 1))]) hx dX6_after_27 rfl rfl rfl rfl ?_
      refine v_goto (tgt := 6) hx dX6_after_30 (by decide) ?_
      exact hrec6 a0 x1 x3 y_4 (x5 + 1) h hl0
theorem vX6_after_l6 {x : CT} (hx : CX x cX6_after RX6 rmX6_after (some .int)) {r0 : Int32} {w : Wd} (hq : RI x rmX6_after r0 w) : ∀ (n : Nat) (a0 : Nat) (x1 : Int32) (x3 : Int32) (x4 : Int32) (x5 : Int32), (zL w 6 a0 = true) → fX6_after_l6 w n a0 x1 x3 x4 x5 = some r0 → V x 6 [some (.ref a0), some (.int x1), none, some (.int x3), some (.int x4), some (.int x5)] [] (Rp (xD x) w) 0 0 := by
  intro n
  induction n with
  | zero => intro a0 x1 x3 x4 x5 hl0 h; cases h
  | succ n ih =>
    intro a0 x1 x3 x4 x5 hl0 h
    exact vX6_after_b6 hx hq  (fun a0 x1 x3 x4 x5 h hl0 => ih a0 x1 x3 x4 x5 hl0 h) hl0 h
theorem vX6_after {x : CT} (hx : CX x cX6_after RX6 rmX6_after (some .int)) {r0 : Int32} {w : Wd} (hq : RI x rmX6_after r0 w) (a0 : Nat) (x1 : Int32) (x2 : Int32) (x3 : Int32) (hl0 : zL w 6 a0 = true) (h : fX6_after a0 x1 x2 x3 w = some r0) : V x 0 [some (.ref a0), some (.int x1), some (.int x2), some (.int x3), none, none] [] (Rp (xD x) w) 0 0 := by
  unfold fX6_after at h
  refine v_iload_n (pc' := 1) hx dX6_after_0 rfl rfl ?_
  refine v_istore (pc' := 3) (L' := [some (.ref a0), some (.int x1), some (.int x2), some (.int x3), some (.int x2), none]) hx dX6_after_1 rfl rfl (Nat.le_of_ble_eq_true rfl) ?_
  refine v_iconst (pc' := 4) (v := 0) hx dX6_after_3 (by decide) rfl ?_
  refine v_istore (pc' := 6) (L' := [some (.ref a0), some (.int x1), some (.int x2), some (.int x3), some (.int x2), some (.int 0)]) hx dX6_after_4 rfl rfl (Nat.le_of_ble_eq_true rfl) ?_
  refine V.sb (L' := [some (.ref a0), some (.int x1), none, some (.int x3), some (.int x2), some (.int 0)]) ⟨Or.inr rfl, Or.inr rfl, Or.inl rfl, Or.inr rfl, Or.inr rfl, Or.inr rfl, trivial⟩ ?_
  exact vX6_after_l6 hx hq 1000 a0 x1 x3 x2 0 hl0 h
theorem ctX6_after (l : Launch) (D : DD) (w : Wd) (G : GT) (sz : Nat) (hR : Rp D w G sz) (a0 : Nat) (x1 : Int32) (x2 : Int32) (x3 : Int32) (hl0 : zL w 6 a0 = true) {r0 : Int32} (h : fX6_after a0 x1 x2 x3 w = some r0) : MetI l yX6_after (WS yX6_after cX6_after 6 (some .int)) rmX6_after D [.ref a0, .int x1, .int x2, .int x3] G sz r0 w := by
  refine MetI_ofV (own := RX6) (P := Rp D w) hR (by decide) rfl (by simp [Value.category]) (Nat.le_of_ble_eq_true rfl) (fun x hx hq hD hl => ?_)
  subst hD
  exact vX6_after hx hq a0 x1 x2 x3 hl0 h
theorem vX6_ring_b92 {x : CT} (hx : CX x cX6_ring RX6 rmX6_ring (some .int)) {r0 : Int32} {w : Wd} (hq : RI x rmX6_ring r0 w) {rec24 : Nat → Int32 → Int32 → Int32 → Int32 → Int32 → Option (Int32)} {a0 : Nat} {x1 : Int32} {x2 : Int32} {x3 : Int32} {x4 : Int32} {x5 : Int32} (hrec24 : ∀ (a0 : Nat) (x1 : Int32) (x2 : Int32) (x3 : Int32) (x4 : Int32) (x5 : Int32), rec24 a0 x1 x2 x3 x4 x5 = some r0 → (zL w 6 a0 = true) → V x 24 [some (.ref a0), some (.int x1), some (.int x2), some (.int x3), some (.int x4), some (.int x5)] [] (Rp (xD x) w) 0 0) (hl0 : zL w 6 a0 = true) (h : fX6_ring_b92 w rec24 a0 x1 x2 x3 x4 x5 = some r0) : V x 92 [some (.ref a0), some (.int x1), some (.int x2), some (.int x3), some (.int x4), some (.int x5)] [] (Rp (xD x) w) 0 0 := by
  unfold fX6_ring_b92 at h
  refine v_iinc (pc' := 95) (w0 := (x5 + 1)) (L' := [some (.ref a0), some (.int x1), some (.int x2), some (.int x3), some (.int x4), some (.int (x5 + 1))]) hx dX6_ring_92 rfl rfl rfl rfl ?_
  refine v_goto (tgt := 24) hx dX6_ring_95 (by decide) ?_
  exact hrec24 a0 x1 x2 x3 x4 (x5 + 1) h hl0
theorem vX6_ring_b88 {x : CT} (hx : CX x cX6_ring RX6 rmX6_ring (some .int)) {r0 : Int32} {w : Wd} (hq : RI x rmX6_ring r0 w) {xs0 : Int32} (h : fX6_ring_b88 w xs0 = some r0) : V x 88 [none, none, none, none, none, none] [.int xs0] (Rp (xD x) w) 0 0 := by
  unfold fX6_ring_b88 at h
  exact v_iret hx hq (by decide) (by decide) dX6_ring_88 (by cases h; rfl)
theorem vX6_ring_b24 {x : CT} (hx : CX x cX6_ring RX6 rmX6_ring (some .int)) {r0 : Int32} {w : Wd} (hq : RI x rmX6_ring r0 w) {rec24 : Nat → Int32 → Int32 → Int32 → Int32 → Int32 → Option (Int32)} {a0 : Nat} {x1 : Int32} {x2 : Int32} {x3 : Int32} {x4 : Int32} {x5 : Int32} (hrec24 : ∀ (a0 : Nat) (x1 : Int32) (x2 : Int32) (x3 : Int32) (x4 : Int32) (x5 : Int32), rec24 a0 x1 x2 x3 x4 x5 = some r0 → (zL w 6 a0 = true) → V x 24 [some (.ref a0), some (.int x1), some (.int x2), some (.int x3), some (.int x4), some (.int x5)] [] (Rp (xD x) w) 0 0) (hl0 : zL w 6 a0 = true) (h : fX6_ring_b24 w rec24 a0 x1 x2 x3 x4 x5 = some r0) : V x 24 [some (.ref a0), some (.int x1), some (.int x2), some (.int x3), some (.int x4), some (.int x5)] [] (Rp (xD x) w) 0 0 := by
  unfold fX6_ring_b24 at h
  refine v_iload (pc' := 26) hx dX6_ring_24 rfl rfl ?_
  refine v_bipush (pc' := 28) (v := 24) hx dX6_ring_26 (by decide) rfl ?_
  refine v_icmp_ge (tgt := 98) (pc' := 31) hx dX6_ring_28 (by decide) rfl (fun hc_1 => ?_) (fun hc_1 => ?_)
  · rw [if_pos hc_1] at h
    refine v_iconst (pc' := 99) (v := (-1)) hx dX6_ring_98 (by decide) rfl ?_
    exact v_iret hx hq (by decide) (by decide) dX6_ring_99 (by cases h; rfl)
  · rw [if_neg hc_1] at h
    refine v_aload_n (pc' := 32) hx dX6_ring_31 rfl rfl ?_
    obtain ⟨g_2, hq_3⟩ : ∃ q, zA w 6 a0 7 = q := ⟨_, rfl⟩
    refine v_getAq (pc' := 35) hx hl0 fi_6_7.1 (by decide) hq_3 fk_X6_27 dX6_ring_32 rfl ?_
    refine v_bipush (pc' := 37) (v := 24) hx dX6_ring_35 (by decide) rfl ?_
    refine v_iload_n (pc' := 38) hx dX6_ring_37 rfl rfl ?_
    refine v_imul (pc' := 39) hx dX6_ring_38 rfl ?_
    refine v_iload (pc' := 41) hx dX6_ring_39 rfl rfl ?_
    refine v_iadd (pc' := 42) hx dX6_ring_41 rfl ?_
    replace h := ckp_inv h; obtain ⟨hk_4, h⟩ := h
    refine v_zaldq (pc' := 43) hx hl0 fi_6_7.1 fi_6_7.2.1 rfl hk_4 hq_3 dX6_ring_42 rfl ?_
    refine v_if_eq (tgt := 92) (pc' := 46) hx dX6_ring_43 (by decide) rfl (fun hc_5 => ?_) (fun hc_5 => ?_)
    · rw [if_pos hc_5] at h
      exact vX6_ring_b92 hx hq hrec24 hl0 h
    · rw [if_neg hc_5] at h
      refine v_aload_n (pc' := 47) hx dX6_ring_46 rfl rfl ?_
      refine v_iload_n (pc' := 48) hx dX6_ring_47 rfl rfl ?_
      refine v_iload (pc' := 50) hx dX6_ring_48 rfl rfl ?_
      replace h := bd_inv h; obtain ⟨y_7, hcl_6, h⟩ := h
      refine v_callVi (pc' := 53) (w' := w) (r := y_7) (ci := 6) (b := a0) (As := [.int x1, .int x5]) (rest := []) hx hl0 (fun G sz hR => ctX6_isLowest (xl x) (xD x) w G sz hR a0 x1 x5 hl0 hcl_6) rfl my_X6_isLowest ml_X6_162 ⟨by decide, by decide⟩ ⟨by decide, by decide⟩ rfl rfl (Nat.le_of_ble_eq_true rfl) dX6_ring_50 rfl ?_
      refine v_if_ne (tgt := 59) (pc' := 56) hx dX6_ring_53 (by decide) rfl (fun hc_9 => ?_) (fun hc_9 => ?_)
      · rw [if_neg hc_9] at h
        refine v_iload (pc' := 61) hx dX6_ring_59 rfl rfl ?_
        refine v_iload_n (pc' := 62) hx dX6_ring_61 rfl rfl ?_
        refine v_icmp_ne (tgt := 89) (pc' := 65) hx dX6_ring_62 (by decide) rfl (fun hc_10 => ?_) (fun hc_10 => ?_)
        · rw [if_neg hc_10] at h
          refine v_iinc (pc' := 92) (w0 := (x4 + 1)) (L' := [some (.ref a0), some (.int x1), some (.int x2), some (.int x3), some (.int (x4 + 1)), some (.int x5)]) hx dX6_ring_89 rfl rfl rfl rfl ?_
          exact vX6_ring_b92 hx hq hrec24 hl0 h
        · rw [if_pos hc_10] at h
          refine v_iload_n (pc' := 66) hx dX6_ring_65 rfl rfl ?_
          refine v_aload_n (pc' := 67) hx dX6_ring_66 rfl rfl ?_
          refine v_iload_n (pc' := 68) hx dX6_ring_67 rfl rfl ?_
          refine v_iload (pc' := 70) hx dX6_ring_68 rfl rfl ?_
          replace h := bd_inv h; obtain ⟨y_12, hcl_11, h⟩ := h
          refine v_callVi (pc' := 73) (w' := w) (r := y_12) (ci := 6) (b := a0) (As := [.int x1, .int x5]) (rest := [.int x3]) hx hl0 (fun G sz hR => ctX6_back (xl x) (xD x) w G sz hR a0 x1 x5 hl0 hcl_11) rfl my_X6_back ml_X6_159 ⟨by decide, by decide⟩ ⟨by decide, by decide⟩ rfl rfl (Nat.le_of_ble_eq_true rfl) dX6_ring_70 rfl ?_
          refine v_icmp_ge (tgt := 87) (pc' := 76) hx dX6_ring_73 (by decide) rfl (fun hc_14 => ?_) (fun hc_14 => ?_)
          · rw [if_pos hc_14] at h
            refine v_iconst (pc' := 88) (v := (-1)) hx dX6_ring_87 (by decide) rfl ?_
            refine V.sb (L' := [none, none, none, none, none, none]) ⟨Or.inl rfl, Or.inl rfl, Or.inl rfl, Or.inl rfl, Or.inl rfl, Or.inl rfl, trivial⟩ ?_
            exact vX6_ring_b88 hx hq h
          · rw [if_neg hc_14] at h
            refine v_aload_n (pc' := 77) hx dX6_ring_76 rfl rfl ?_
            refine v_iload_n (pc' := 78) hx dX6_ring_77 rfl rfl ?_
            refine v_iload (pc' := 80) hx dX6_ring_78 rfl rfl ?_
            refine v_iload_n (pc' := 81) hx dX6_ring_80 rfl rfl ?_
            replace h := bd_inv h; obtain ⟨y_16, hcl_15, h⟩ := h
            refine v_callVi (pc' := 84) (w' := w) (r := y_16) (ci := 6) (b := a0) (As := [.int x1, .int x5, .int x3]) (rest := []) hx hl0 (fun G sz hR => ctX6_after (xl x) (xD x) w G sz hR a0 x1 x5 x3 hl0 hcl_15) rfl my_X6_after ml_X6_165 ⟨by decide, by decide⟩ ⟨by decide, by decide⟩ rfl rfl (Nat.le_of_ble_eq_true rfl) dX6_ring_81 rfl ?_
            refine v_goto (tgt := 88) hx dX6_ring_84 (by decide) ?_
            refine V.sb (L' := [none, none, none, none, none, none]) ⟨Or.inl rfl, Or.inl rfl, Or.inl rfl, Or.inl rfl, Or.inl rfl, Or.inl rfl, trivial⟩ ?_
            exact vX6_ring_b88 hx hq h
      · rw [if_pos hc_9] at h
        refine v_goto (tgt := 92) hx dX6_ring_56 (by decide) ?_
        exact vX6_ring_b92 hx hq hrec24 hl0 h
theorem vX6_ring_l24 {x : CT} (hx : CX x cX6_ring RX6 rmX6_ring (some .int)) {r0 : Int32} {w : Wd} (hq : RI x rmX6_ring r0 w) : ∀ (n : Nat) (a0 : Nat) (x1 : Int32) (x2 : Int32) (x3 : Int32) (x4 : Int32) (x5 : Int32), (zL w 6 a0 = true) → fX6_ring_l24 w n a0 x1 x2 x3 x4 x5 = some r0 → V x 24 [some (.ref a0), some (.int x1), some (.int x2), some (.int x3), some (.int x4), some (.int x5)] [] (Rp (xD x) w) 0 0 := by
  intro n
  induction n with
  | zero => intro a0 x1 x2 x3 x4 x5 hl0 h; cases h
  | succ n ih =>
    intro a0 x1 x2 x3 x4 x5 hl0 h
    exact vX6_ring_b24 hx hq  (fun a0 x1 x2 x3 x4 x5 h hl0 => ih a0 x1 x2 x3 x4 x5 hl0 h) hl0 h
theorem vX6_ring_b16 {x : CT} (hx : CX x cX6_ring RX6 rmX6_ring (some .int)) {r0 : Int32} {w : Wd} (hq : RI x rmX6_ring r0 w) (h : fX6_ring_b16 w = some r0) : V x 16 [none, none, none, none, none, none] [] (Rp (xD x) w) 0 0 := by
  unfold fX6_ring_b16 at h
  refine v_iconst (pc' := 17) (v := (-1)) hx dX6_ring_16 (by decide) rfl ?_
  exact v_iret hx hq (by decide) (by decide) dX6_ring_17 (by cases h; rfl)
theorem vX6_ring {x : CT} (hx : CX x cX6_ring RX6 rmX6_ring (some .int)) {r0 : Int32} {w : Wd} (hq : RI x rmX6_ring r0 w) (a0 : Nat) (x1 : Int32) (x2 : Int32) (x3 : Int32) (hl0 : zL w 6 a0 = true) (h : fX6_ring a0 x1 x2 x3 w = some r0) : V x 0 [some (.ref a0), some (.int x1), some (.int x2), some (.int x3), none, none] [] (Rp (xD x) w) 0 0 := by
  unfold fX6_ring at h
  refine v_aload_n (pc' := 1) hx dX6_ring_0 rfl rfl ?_
  refine v_iload_n (pc' := 2) hx dX6_ring_1 rfl rfl ?_
  replace h := bd_inv h; obtain ⟨y_2, hcl_1, h⟩ := h
  refine v_callVi (pc' := 5) (w' := w) (r := y_2) (ci := 6) (b := a0) (As := [.int x1]) (rest := []) hx hl0 (fun G sz hR => ctX6_isPicture (xl x) (xD x) w G sz hR a0 x1 hl0 hcl_1) rfl my_X6_isPicture ml_X6_145 ⟨by decide, by decide⟩ ⟨by decide, by decide⟩ rfl rfl (Nat.le_of_ble_eq_true rfl) dX6_ring_2 rfl ?_
  refine v_if_eq (tgt := 16) (pc' := 8) hx dX6_ring_5 (by decide) rfl (fun hc_4 => ?_) (fun hc_4 => ?_)
  · rw [if_pos hc_4] at h
    refine V.sb (L' := [none, none, none, none, none, none]) ⟨Or.inl rfl, Or.inl rfl, Or.inl rfl, Or.inl rfl, Or.inl rfl, Or.inl rfl, trivial⟩ ?_
    exact vX6_ring_b16 hx hq h
  · rw [if_neg hc_4] at h
    refine v_iload_n (pc' := 9) hx dX6_ring_8 rfl rfl ?_
    refine v_if_lt (tgt := 16) (pc' := 12) hx dX6_ring_9 (by decide) rfl (fun hc_5 => ?_) (fun hc_5 => ?_)
    · rw [if_pos hc_5] at h
      refine V.sb (L' := [none, none, none, none, none, none]) ⟨Or.inl rfl, Or.inl rfl, Or.inl rfl, Or.inl rfl, Or.inl rfl, Or.inl rfl, trivial⟩ ?_
      exact vX6_ring_b16 hx hq h
    · rw [if_neg hc_5] at h
      refine v_iload_n (pc' := 13) hx dX6_ring_12 rfl rfl ?_
      refine v_if_ge (tgt := 18) (pc' := 16) hx dX6_ring_13 (by decide) rfl (fun hc_6 => ?_) (fun hc_6 => ?_)
      · rw [if_pos hc_6] at h
        refine v_iconst (pc' := 19) (v := 0) hx dX6_ring_18 (by decide) rfl ?_
        refine v_istore (pc' := 21) (L' := [some (.ref a0), some (.int x1), some (.int x2), some (.int x3), some (.int 0), none]) hx dX6_ring_19 rfl rfl (Nat.le_of_ble_eq_true rfl) ?_
        refine v_iconst (pc' := 22) (v := 0) hx dX6_ring_21 (by decide) rfl ?_
        refine v_istore (pc' := 24) (L' := [some (.ref a0), some (.int x1), some (.int x2), some (.int x3), some (.int 0), some (.int 0)]) hx dX6_ring_22 rfl rfl (Nat.le_of_ble_eq_true rfl) ?_
        exact vX6_ring_l24 hx hq 1000 a0 x1 x2 x3 0 0 hl0 h
      · rw [if_neg hc_6] at h
        refine V.sb (L' := [none, none, none, none, none, none]) ⟨Or.inl rfl, Or.inl rfl, Or.inl rfl, Or.inl rfl, Or.inl rfl, Or.inl rfl, trivial⟩ ?_
        exact vX6_ring_b16 hx hq h
theorem ctX6_ring (l : Launch) (D : DD) (w : Wd) (G : GT) (sz : Nat) (hR : Rp D w G sz) (a0 : Nat) (x1 : Int32) (x2 : Int32) (x3 : Int32) (hl0 : zL w 6 a0 = true) {r0 : Int32} (h : fX6_ring a0 x1 x2 x3 w = some r0) : MetI l yX6_ring (WS yX6_ring cX6_ring 6 (some .int)) rmX6_ring D [.ref a0, .int x1, .int x2, .int x3] G sz r0 w := by
  refine MetI_ofV (own := RX6) (P := Rp D w) hR (by decide) rfl (by simp [Value.category]) (Nat.le_of_ble_eq_true rfl) (fun x hx hq hD hl => ?_)
  subst hD
  exact vX6_ring hx hq a0 x1 x2 x3 hl0 h
theorem vX1_footOf_b24 {x : CT} (hx : CX x cX1_footOf RX1 rmX1_footOf (some .int)) {r0 : Int32} {w : Wd} (hq : RI x rmX1_footOf r0 w) {rec24 : Nat → Int32 → Int32 → Option (Int32)} {a0 : Nat} {x3 : Int32} {x4 : Int32} (hrec24 : ∀ (a0 : Nat) (x3 : Int32) (x4 : Int32), rec24 a0 x3 x4 = some r0 → (zL w 1 a0 = true) → V x 24 [some (.ref a0), none, none, some (.int x3), some (.int x4), none] [] (Rp (xD x) w) 0 0) (hl0 : zL w 1 a0 = true) (h : fX1_footOf_b24 w rec24 a0 x3 x4 = some r0) : V x 24 [some (.ref a0), none, none, some (.int x3), some (.int x4), none] [] (Rp (xD x) w) 0 0 := by
  unfold fX1_footOf_b24 at h
  refine v_iload (pc' := 26) hx dX1_footOf_24 rfl rfl ?_
  refine v_bipush (pc' := 28) (v := 24) hx dX1_footOf_26 (by decide) rfl ?_
  refine v_icmp_ge (tgt := 55) (pc' := 31) hx dX1_footOf_28 (by decide) rfl (fun hc_1 => ?_) (fun hc_1 => ?_)
  · rw [if_pos hc_1] at h
    refine v_iconst (pc' := 56) (v := (-1)) hx dX1_footOf_55 (by decide) rfl ?_
    exact v_iret hx hq (by decide) (by decide) dX1_footOf_56 (by cases h; rfl)
  · rw [if_neg hc_1] at h
    refine v_aload_n (pc' := 32) hx dX1_footOf_31 rfl rfl ?_
    refine v_iload_n (pc' := 33) hx dX1_footOf_32 rfl rfl ?_
    replace h := bd_inv h; obtain ⟨y_3, hcl_2, h⟩ := h
    refine v_callVi (pc' := 36) (w' := w) (r := y_3) (ci := 1) (b := a0) (As := [.int x3]) (rest := []) hx hl0 (fun G sz hR => ctX1_awaitedBy (xl x) (xD x) w G sz hR a0 x3 hl0 hcl_2) rfl my_X1_awaitedBy ml_X1_89 ⟨by decide, by decide⟩ ⟨by decide, by decide⟩ rfl rfl (Nat.le_of_ble_eq_true rfl) dX1_footOf_33 rfl ?_
    refine v_istore (pc' := 38) (L' := [some (.ref a0), none, none, some (.int x3), some (.int x4), some (.int y_3)]) hx dX1_footOf_36 rfl rfl (Nat.le_of_ble_eq_true rfl) ?_
    refine v_iload (pc' := 40) hx dX1_footOf_38 rfl rfl ?_
    refine v_iconst (pc' := 41) (v := (-1)) hx dX1_footOf_40 (by decide) rfl ?_
    refine v_icmp_ne (tgt := 46) (pc' := 44) hx dX1_footOf_41 (by decide) rfl (fun hc_5 => ?_) (fun hc_5 => ?_)
    · rw [if_neg hc_5] at h
      refine v_iload (pc' := 48) hx dX1_footOf_46 rfl rfl ?_
      refine v_istore_n (pc' := 49) (L' := [some (.ref a0), none, none, some (.int y_3), some (.int x4), some (.int y_3)]) hx dX1_footOf_48 rfl rfl (Nat.le_of_ble_eq_true rfl) ?_
      refine v_iinc (pc' := 52) (w0 := (x4 + 1)) (L' := [some (.ref a0), none, none, some (.int y_3), some (.int (x4 + 1)), some (.int y_3)]) hx dX1_footOf_49 rfl rfl rfl rfl ?_
      refine v_goto (tgt := 24) hx dX1_footOf_52 (by decide) ?_
      refine V.sb (L' := [some (.ref a0), none, none, some (.int y_3), some (.int (x4 + 1)), none]) ⟨Or.inr rfl, Or.inl rfl, Or.inl rfl, Or.inr rfl, Or.inr rfl, Or.inl rfl, trivial⟩ ?_
      exact hrec24 a0 y_3 (x4 + 1) h hl0
    · rw [if_pos hc_5] at h
      refine v_iload_n (pc' := 45) hx dX1_footOf_44 rfl rfl ?_
      exact v_iret hx hq (by decide) (by decide) dX1_footOf_45 (by cases h; rfl)
theorem vX1_footOf_l24 {x : CT} (hx : CX x cX1_footOf RX1 rmX1_footOf (some .int)) {r0 : Int32} {w : Wd} (hq : RI x rmX1_footOf r0 w) : ∀ (n : Nat) (a0 : Nat) (x3 : Int32) (x4 : Int32), (zL w 1 a0 = true) → fX1_footOf_l24 w n a0 x3 x4 = some r0 → V x 24 [some (.ref a0), none, none, some (.int x3), some (.int x4), none] [] (Rp (xD x) w) 0 0 := by
  intro n
  induction n with
  | zero => intro a0 x3 x4 hl0 h; cases h
  | succ n ih =>
    intro a0 x3 x4 hl0 h
    exact vX1_footOf_b24 hx hq  (fun a0 x3 x4 h hl0 => ih a0 x3 x4 hl0 h) hl0 h
theorem vX1_footOf_b17 {x : CT} (hx : CX x cX1_footOf RX1 rmX1_footOf (some .int)) {r0 : Int32} {w : Wd} (hq : RI x rmX1_footOf r0 w) (h : fX1_footOf_b17 w = some r0) : V x 17 [none, none, none, none, none, none] [] (Rp (xD x) w) 0 0 := by
  unfold fX1_footOf_b17 at h
  refine v_iconst (pc' := 18) (v := (-1)) hx dX1_footOf_17 (by decide) rfl ?_
  exact v_iret hx hq (by decide) (by decide) dX1_footOf_18 (by cases h; rfl)
theorem vX1_footOf {x : CT} (hx : CX x cX1_footOf RX1 rmX1_footOf (some .int)) {r0 : Int32} {w : Wd} (hq : RI x rmX1_footOf r0 w) (a0 : Nat) (x1 : Int32) (hl0 : zL w 1 a0 = true) (h : fX1_footOf a0 x1 w = some r0) : V x 0 [some (.ref a0), some (.int x1), none, none, none, none] [] (Rp (xD x) w) 0 0 := by
  unfold fX1_footOf at h
  refine v_aload_n (pc' := 1) hx dX1_footOf_0 rfl rfl ?_
  refine v_iload_n (pc' := 2) hx dX1_footOf_1 rfl rfl ?_
  replace h := bd_inv h; obtain ⟨u_2, hcl_1, h⟩ := h
  refine v_callVq (pc' := 5) (w' := w) (q := u_2) (ci := 1) (b := a0) (As := [.int x1]) (rest := []) hx hl0 (fun G sz hR => ctX1_rowOf (xl x) (xD x) w G sz hR a0 x1 hl0 hcl_1) rfl my_X1_rowOf ml_X1_75 ⟨by decide, by decide⟩ ⟨by decide, by decide⟩ rfl rfl (Nat.le_of_ble_eq_true rfl) dX1_footOf_2 rfl (fun hl_3 => ?_)
  refine v_astoreq_n (pc' := 6) (L' := [some (.ref a0), some (.int x1), some (va_rf u_2), none, none, none]) hx dX1_footOf_5 rfl rfl (Nat.le_of_ble_eq_true rfl) ?_
  refine v_aloadq_n (pc' := 7) hx dX1_footOf_6 rfl rfl ?_
  refine v_ifnull (tgt := 17) (pc' := 10) hx dX1_footOf_7 (by decide) rfl (fun hn_5 => ?_) (fun b_4 hn_5 => ?_)
  · subst hn_5
    rw [oc_n] at h
    refine V.sb (L' := [none, none, none, none, none, none]) ⟨Or.inl rfl, Or.inl rfl, Or.inl rfl, Or.inl rfl, Or.inl rfl, Or.inl rfl, trivial⟩ ?_
    exact vX1_footOf_b17 hx hq h
  · subst hn_5
    rw [oc_s] at h
    have hl_6 : zL w 2 b_4 = true := hl_3 _ rfl
    refine v_aload_n (pc' := 11) hx dX1_footOf_10 rfl rfl ?_
    replace h := bd_inv h; obtain ⟨y_8, hcl_7, h⟩ := h
    refine v_callVi (pc' := 14) (w' := w) (r := y_8) (ci := 2) (b := b_4) (As := []) (rest := []) hx hl_6 (fun G sz hR => ctX2_isWaiting (xl x) (xD x) w G sz hR b_4 hl_6 hcl_7) rfl my_X2_isWaiting ml_X1_55 ⟨by decide, by decide⟩ ⟨by decide, by decide⟩ rfl rfl (Nat.le_of_ble_eq_true rfl) dX1_footOf_11 rfl ?_
    refine v_if_ne (tgt := 19) (pc' := 17) hx dX1_footOf_14 (by decide) rfl (fun hc_10 => ?_) (fun hc_10 => ?_)
    · rw [if_neg hc_10] at h
      refine v_iload_n (pc' := 20) hx dX1_footOf_19 rfl rfl ?_
      refine v_istore_n (pc' := 21) (L' := [some (.ref a0), some (.int x1), some (.ref b_4), some (.int x1), none, none]) hx dX1_footOf_20 rfl rfl (Nat.le_of_ble_eq_true rfl) ?_
      refine v_iconst (pc' := 22) (v := 0) hx dX1_footOf_21 (by decide) rfl ?_
      refine v_istore (pc' := 24) (L' := [some (.ref a0), some (.int x1), some (.ref b_4), some (.int x1), some (.int 0), none]) hx dX1_footOf_22 rfl rfl (Nat.le_of_ble_eq_true rfl) ?_
      refine V.sb (L' := [some (.ref a0), none, none, some (.int x1), some (.int 0), none]) ⟨Or.inr rfl, Or.inl rfl, Or.inl rfl, Or.inr rfl, Or.inr rfl, Or.inl rfl, trivial⟩ ?_
      exact vX1_footOf_l24 hx hq 1000 a0 x1 0 hl0 h
    · rw [if_pos hc_10] at h
      refine V.sb (L' := [none, none, none, none, none, none]) ⟨Or.inl rfl, Or.inl rfl, Or.inl rfl, Or.inl rfl, Or.inl rfl, Or.inl rfl, trivial⟩ ?_
      exact vX1_footOf_b17 hx hq h
theorem ctX1_footOf (l : Launch) (D : DD) (w : Wd) (G : GT) (sz : Nat) (hR : Rp D w G sz) (a0 : Nat) (x1 : Int32) (hl0 : zL w 1 a0 = true) {r0 : Int32} (h : fX1_footOf a0 x1 w = some r0) : MetI l yX1_footOf (WS yX1_footOf cX1_footOf 6 (some .int)) rmX1_footOf D [.ref a0, .int x1] G sz r0 w := by
  refine MetI_ofV (own := RX1) (P := Rp D w) hR (by decide) rfl (by simp [Value.category]) (Nat.le_of_ble_eq_true rfl) (fun x hx hq hD hl => ?_)
  subst hD
  exact vX1_footOf hx hq a0 x1 hl0 h
theorem vX5_foot_b19 {x : CT} (hx : CX x cX5_foot RX5 rmX5_foot (some .int)) {r0 : Int32} {w : Wd} (hq : RI x rmX5_foot r0 w) {xs0 : Int32} (h : fX5_foot_b19 w xs0 = some r0) : V x 19 [none, none, none, none] [.int xs0] (Rp (xD x) w) 0 0 := by
  unfold fX5_foot_b19 at h
  exact v_iret hx hq (by decide) (by decide) dX5_foot_19 (by cases h; rfl)
theorem vX5_foot {x : CT} (hx : CX x cX5_foot RX5 rmX5_foot (some .int)) {r0 : Int32} {w : Wd} (hq : RI x rmX5_foot r0 w) (a0 : Nat) (x1 : Int32) (x2 : Int32) (hl0 : zL w 5 a0 = true) (h : fX5_foot a0 x1 x2 w = some r0) : V x 0 [some (.ref a0), some (.int x1), some (.int x2), none] [] (Rp (xD x) w) 0 0 := by
  unfold fX5_foot at h
  refine v_aload_n (pc' := 1) hx dX5_foot_0 rfl rfl ?_
  refine v_iload_n (pc' := 2) hx dX5_foot_1 rfl rfl ?_
  replace h := bd_inv h; obtain ⟨u_2, hcl_1, h⟩ := h
  refine v_callVq (pc' := 5) (w' := w) (q := u_2) (ci := 5) (b := a0) (As := [.int x1]) (rest := []) hx hl0 (fun G sz hR => ctX5_pictureAt (xl x) (xD x) w G sz hR a0 x1 hl0 hcl_1) rfl my_X5_pictureAt ml_X5_74 ⟨by decide, by decide⟩ ⟨by decide, by decide⟩ rfl rfl (Nat.le_of_ble_eq_true rfl) dX5_foot_2 rfl (fun hl_3 => ?_)
  refine v_astoreq_n (pc' := 6) (L' := [some (.ref a0), some (.int x1), some (.int x2), some (va_rf u_2)]) hx dX5_foot_5 rfl rfl (Nat.le_of_ble_eq_true rfl) ?_
  refine v_aloadq_n (pc' := 7) hx dX5_foot_6 rfl rfl ?_
  refine v_ifnonnull (tgt := 14) (pc' := 10) hx dX5_foot_7 (by decide) rfl (fun b_4 hn_5 => ?_) (fun hn_5 => ?_)
  · subst hn_5
    rw [oc_s] at h
    have hl_6 : zL w 1 b_4 = true := hl_3 _ rfl
    refine v_aload_n (pc' := 15) hx dX5_foot_14 rfl rfl ?_
    refine v_iload_n (pc' := 16) hx dX5_foot_15 rfl rfl ?_
    replace h := bd_inv h; obtain ⟨y_8, hcl_7, h⟩ := h
    refine v_callVi (pc' := 19) (w' := w) (r := y_8) (ci := 1) (b := b_4) (As := [.int x2]) (rest := []) hx hl_6 (fun G sz hR => ctX1_footOf (xl x) (xD x) w G sz hR b_4 x2 hl_6 hcl_7) rfl my_X1_footOf ml_X5_116 ⟨by decide, by decide⟩ ⟨by decide, by decide⟩ rfl rfl (Nat.le_of_ble_eq_true rfl) dX5_foot_16 rfl ?_
    refine V.sb (L' := [none, none, none, none]) ⟨Or.inl rfl, Or.inl rfl, Or.inl rfl, Or.inl rfl, trivial⟩ ?_
    exact vX5_foot_b19 hx hq h
  · subst hn_5
    rw [oc_n] at h
    refine v_iconst (pc' := 11) (v := (-1)) hx dX5_foot_10 (by decide) rfl ?_
    refine v_goto (tgt := 19) hx dX5_foot_11 (by decide) ?_
    refine V.sb (L' := [none, none, none, none]) ⟨Or.inl rfl, Or.inl rfl, Or.inl rfl, Or.inl rfl, trivial⟩ ?_
    exact vX5_foot_b19 hx hq h
theorem ctX5_foot (l : Launch) (D : DD) (w : Wd) (G : GT) (sz : Nat) (hR : Rp D w G sz) (a0 : Nat) (x1 : Int32) (x2 : Int32) (hl0 : zL w 5 a0 = true) {r0 : Int32} (h : fX5_foot a0 x1 x2 w = some r0) : MetI l yX5_foot (WS yX5_foot cX5_foot 4 (some .int)) rmX5_foot D [.ref a0, .int x1, .int x2] G sz r0 w := by
  refine MetI_ofV (own := RX5) (P := Rp D w) hR (by decide) rfl (by simp [Value.category]) (Nat.le_of_ble_eq_true rfl) (fun x hx hq hD hl => ?_)
  subst hD
  exact vX5_foot hx hq a0 x1 x2 hl0 h
theorem vX6_foot_b40 {x : CT} (hx : CX x cX6_foot RX6 rmX6_foot (some .int)) {r0 : Int32} {w : Wd} (hq : RI x rmX6_foot r0 w) {rec40 : Nat → Int32 → Int32 → Option (Int32)} {a0 : Nat} {x1 : Int32} {x3 : Int32} (hrec40 : ∀ (a0 : Nat) (x1 : Int32) (x3 : Int32), rec40 a0 x1 x3 = some r0 → (zL w 6 a0 = true) → V x 40 [some (.ref a0), some (.int x1), none, some (.int x3)] [] (Rp (xD x) w) 0 0) (hl0 : zL w 6 a0 = true) (h : fX6_foot_b40 w rec40 a0 x1 x3 = some r0) : V x 40 [some (.ref a0), some (.int x1), none, some (.int x3)] [] (Rp (xD x) w) 0 0 := by
  unfold fX6_foot_b40 at h
  refine v_aload_n (pc' := 41) hx dX6_foot_40 rfl rfl ?_
  refine v_iload_n (pc' := 42) hx dX6_foot_41 rfl rfl ?_
  refine v_iload_n (pc' := 43) hx dX6_foot_42 rfl rfl ?_
  replace h := bd_inv h; obtain ⟨y_2, hcl_1, h⟩ := h
  refine v_callVi (pc' := 46) (w' := w) (r := y_2) (ci := 6) (b := a0) (As := [.int x1, .int x3]) (rest := []) hx hl0 (fun G sz hR => ctX6_next (xl x) (xD x) w G sz hR a0 x1 x3 hl0 hcl_1) rfl my_X6_next ml_X6_156 ⟨by decide, by decide⟩ ⟨by decide, by decide⟩ rfl rfl (Nat.le_of_ble_eq_true rfl) dX6_foot_43 rfl ?_
  refine v_iconst (pc' := 47) (v := (-1)) hx dX6_foot_46 (by decide) rfl ?_
  refine v_icmp_eq (tgt := 60) (pc' := 50) hx dX6_foot_47 (by decide) rfl (fun hc_4 => ?_) (fun hc_4 => ?_)
  · rw [if_pos hc_4] at h
    refine v_iload_n (pc' := 61) hx dX6_foot_60 rfl rfl ?_
    exact v_iret hx hq (by decide) (by decide) dX6_foot_61 (by cases h; rfl)
  · rw [if_neg hc_4] at h
    refine v_aload_n (pc' := 51) hx dX6_foot_50 rfl rfl ?_
    refine v_iload_n (pc' := 52) hx dX6_foot_51 rfl rfl ?_
    refine v_iload_n (pc' := 53) hx dX6_foot_52 rfl rfl ?_
    replace h := bd_inv h; obtain ⟨y_6, hcl_5, h⟩ := h
    refine v_callVi (pc' := 56) (w' := w) (r := y_6) (ci := 6) (b := a0) (As := [.int x1, .int x3]) (rest := []) hx hl0 (fun G sz hR => ctX6_next (xl x) (xD x) w G sz hR a0 x1 x3 hl0 hcl_5) rfl my_X6_next ml_X6_156 ⟨by decide, by decide⟩ ⟨by decide, by decide⟩ rfl rfl (Nat.le_of_ble_eq_true rfl) dX6_foot_53 rfl ?_
    refine v_istore_n (pc' := 57) (L' := [some (.ref a0), some (.int x1), none, some (.int y_6)]) hx dX6_foot_56 rfl rfl (Nat.le_of_ble_eq_true rfl) ?_
    refine v_goto (tgt := 40) hx dX6_foot_57 (by decide) ?_
    exact hrec40 a0 x1 y_6 h hl0
theorem vX6_foot_l40 {x : CT} (hx : CX x cX6_foot RX6 rmX6_foot (some .int)) {r0 : Int32} {w : Wd} (hq : RI x rmX6_foot r0 w) : ∀ (n : Nat) (a0 : Nat) (x1 : Int32) (x3 : Int32), (zL w 6 a0 = true) → fX6_foot_l40 w n a0 x1 x3 = some r0 → V x 40 [some (.ref a0), some (.int x1), none, some (.int x3)] [] (Rp (xD x) w) 0 0 := by
  intro n
  induction n with
  | zero => intro a0 x1 x3 hl0 h; cases h
  | succ n ih =>
    intro a0 x1 x3 hl0 h
    exact vX6_foot_b40 hx hq  (fun a0 x1 x3 h hl0 => ih a0 x1 x3 hl0 h) hl0 h
theorem vX6_foot_b36 {x : CT} (hx : CX x cX6_foot RX6 rmX6_foot (some .int)) {r0 : Int32} {w : Wd} (hq : RI x rmX6_foot r0 w) (h : fX6_foot_b36 w = some r0) : V x 36 [none, none, none, none] [] (Rp (xD x) w) 0 0 := by
  unfold fX6_foot_b36 at h
  refine v_iconst (pc' := 37) (v := (-1)) hx dX6_foot_36 (by decide) rfl ?_
  exact v_iret hx hq (by decide) (by decide) dX6_foot_37 (by cases h; rfl)
theorem vX6_foot {x : CT} (hx : CX x cX6_foot RX6 rmX6_foot (some .int)) {r0 : Int32} {w : Wd} (hq : RI x rmX6_foot r0 w) (a0 : Nat) (x1 : Int32) (x2 : Int32) (hl0 : zL w 6 a0 = true) (h : fX6_foot a0 x1 x2 w = some r0) : V x 0 [some (.ref a0), some (.int x1), some (.int x2), none] [] (Rp (xD x) w) 0 0 := by
  unfold fX6_foot at h
  refine v_aload_n (pc' := 1) hx dX6_foot_0 rfl rfl ?_
  refine v_iload_n (pc' := 2) hx dX6_foot_1 rfl rfl ?_
  refine v_iload_n (pc' := 3) hx dX6_foot_2 rfl rfl ?_
  replace h := bd_inv h; obtain ⟨y_2, hcl_1, h⟩ := h
  refine v_callVi (pc' := 6) (w' := w) (r := y_2) (ci := 6) (b := a0) (As := [.int x1, .int x2]) (rest := []) hx hl0 (fun G sz hR => ctX6_isThere (xl x) (xD x) w G sz hR a0 x1 x2 hl0 hcl_1) rfl my_X6_isThere ml_X6_149 ⟨by decide, by decide⟩ ⟨by decide, by decide⟩ rfl rfl (Nat.le_of_ble_eq_true rfl) dX6_foot_3 rfl ?_
  refine v_if_eq (tgt := 36) (pc' := 9) hx dX6_foot_6 (by decide) rfl (fun hc_4 => ?_) (fun hc_4 => ?_)
  · rw [if_pos hc_4] at h
    refine V.sb (L' := [none, none, none, none]) ⟨Or.inl rfl, Or.inl rfl, Or.inl rfl, Or.inl rfl, trivial⟩ ?_
    exact vX6_foot_b36 hx hq h
  · rw [if_neg hc_4] at h
    refine v_aload_n (pc' := 10) hx dX6_foot_9 rfl rfl ?_
    obtain ⟨g_5, hq_6⟩ : ∃ q, zA w 6 a0 11 = q := ⟨_, rfl⟩
    refine v_getAq (pc' := 13) hx hl0 fi_6_11.1 (by decide) hq_6 fk_X6_40 dX6_foot_10 rfl ?_
    refine v_bipush (pc' := 15) (v := 24) hx dX6_foot_13 (by decide) rfl ?_
    refine v_iload_n (pc' := 16) hx dX6_foot_15 rfl rfl ?_
    refine v_imul (pc' := 17) hx dX6_foot_16 rfl ?_
    refine v_iload_n (pc' := 18) hx dX6_foot_17 rfl rfl ?_
    refine v_iadd (pc' := 19) hx dX6_foot_18 rfl ?_
    replace h := ckp_inv h; obtain ⟨hk_7, h⟩ := h
    refine v_ialdq (pc' := 20) hx hl0 fi_6_11.1 fi_6_11.2.1 rfl hk_7 hq_6 dX6_foot_19 rfl ?_
    refine v_iconst (pc' := 21) (v := (-1)) hx dX6_foot_20 (by decide) rfl ?_
    refine v_icmp_eq (tgt := 36) (pc' := 24) hx dX6_foot_21 (by decide) rfl (fun hc_8 => ?_) (fun hc_8 => ?_)
    · rw [if_pos hc_8] at h
      refine V.sb (L' := [none, none, none, none]) ⟨Or.inl rfl, Or.inl rfl, Or.inl rfl, Or.inl rfl, trivial⟩ ?_
      exact vX6_foot_b36 hx hq h
    · rw [if_neg hc_8] at h
      refine v_aload_n (pc' := 25) hx dX6_foot_24 rfl rfl ?_
      refine v_iload_n (pc' := 26) hx dX6_foot_25 rfl rfl ?_
      refine v_iload_n (pc' := 27) hx dX6_foot_26 rfl rfl ?_
      refine v_bipush (pc' := 29) (v := 24) hx dX6_foot_27 (by decide) rfl ?_
      replace h := bd_inv h; obtain ⟨y_10, hcl_9, h⟩ := h
      refine v_callVi (pc' := 32) (w' := w) (r := y_10) (ci := 6) (b := a0) (As := [.int x1, .int x2, .int 24]) (rest := []) hx hl0 (fun G sz hR => ctX6_after (xl x) (xD x) w G sz hR a0 x1 x2 24 hl0 hcl_9) rfl my_X6_after ml_X6_165 ⟨by decide, by decide⟩ ⟨by decide, by decide⟩ rfl rfl (Nat.le_of_ble_eq_true rfl) dX6_foot_29 rfl ?_
      refine v_iconst (pc' := 33) (v := (-1)) hx dX6_foot_32 (by decide) rfl ?_
      refine v_icmp_eq (tgt := 38) (pc' := 36) hx dX6_foot_33 (by decide) rfl (fun hc_12 => ?_) (fun hc_12 => ?_)
      · rw [if_pos hc_12] at h
        refine v_iload_n (pc' := 39) hx dX6_foot_38 rfl rfl ?_
        refine v_istore_n (pc' := 40) (L' := [some (.ref a0), some (.int x1), some (.int x2), some (.int x2)]) hx dX6_foot_39 rfl rfl (Nat.le_of_ble_eq_true rfl) ?_
        refine V.sb (L' := [some (.ref a0), some (.int x1), none, some (.int x2)]) ⟨Or.inr rfl, Or.inr rfl, Or.inl rfl, Or.inr rfl, trivial⟩ ?_
        exact vX6_foot_l40 hx hq 1000 a0 x1 x2 hl0 h
      · rw [if_neg hc_12] at h
        refine V.sb (L' := [none, none, none, none]) ⟨Or.inl rfl, Or.inl rfl, Or.inl rfl, Or.inl rfl, trivial⟩ ?_
        exact vX6_foot_b36 hx hq h
theorem ctX6_foot (l : Launch) (D : DD) (w : Wd) (G : GT) (sz : Nat) (hR : Rp D w G sz) (a0 : Nat) (x1 : Int32) (x2 : Int32) (hl0 : zL w 6 a0 = true) {r0 : Int32} (h : fX6_foot a0 x1 x2 w = some r0) : MetI l yX6_foot (WS yX6_foot cX6_foot 4 (some .int)) rmX6_foot D [.ref a0, .int x1, .int x2] G sz r0 w := by
  refine MetI_ofV (own := RX6) (P := Rp D w) hR (by decide) rfl (by simp [Value.category]) (Nat.le_of_ble_eq_true rfl) (fun x hx hq hD hl => ?_)
  subst hD
  exact vX6_foot hx hq a0 x1 x2 hl0 h
theorem vX1_countThroughThread_b31 {x : CT} (hx : CX x cX1_countThroughThread RX1 rmX1_countThroughThread (some .int)) {r0 : Int32} {w : Wd} (hq : RI x rmX1_countThroughThread r0 w) {rec4 : Nat → Int32 → Int32 → Int32 → Option (Int32)} {a0 : Nat} {x1 : Int32} {x2 : Int32} {x3 : Int32} (hrec4 : ∀ (a0 : Nat) (x1 : Int32) (x2 : Int32) (x3 : Int32), rec4 a0 x1 x2 x3 = some r0 → (zL w 1 a0 = true) → V x 4 [some (.ref a0), some (.int x1), some (.int x2), some (.int x3)] [] (Rp (xD x) w) 0 0) (hl0 : zL w 1 a0 = true) (h : fX1_countThroughThread_b31 w rec4 a0 x1 x2 x3 = some r0) : V x 31 [some (.ref a0), some (.int x1), some (.int x2), some (.int x3)] [] (Rp (xD x) w) 0 0 := by
  unfold fX1_countThroughThread_b31 at h
  refine v_iinc (pc' := 34) (w0 := (x3 + 1)) (L' := [some (.ref a0), some (.int x1), some (.int x2), some (.int (x3 + 1))]) hx dX1_countThroughThread_31 rfl rfl rfl rfl ?_
  refine v_goto (tgt := 4) hx dX1_countThroughThread_34 (by decide) ?_
  exact hrec4 a0 x1 x2 (x3 + 1) h hl0
theorem vX1_countThroughThread_b4 {x : CT} (hx : CX x cX1_countThroughThread RX1 rmX1_countThroughThread (some .int)) {r0 : Int32} {w : Wd} (hq : RI x rmX1_countThroughThread r0 w) {rec4 : Nat → Int32 → Int32 → Int32 → Option (Int32)} {a0 : Nat} {x1 : Int32} {x2 : Int32} {x3 : Int32} (hrec4 : ∀ (a0 : Nat) (x1 : Int32) (x2 : Int32) (x3 : Int32), rec4 a0 x1 x2 x3 = some r0 → (zL w 1 a0 = true) → V x 4 [some (.ref a0), some (.int x1), some (.int x2), some (.int x3)] [] (Rp (xD x) w) 0 0) (hl0 : zL w 1 a0 = true) (h : fX1_countThroughThread_b4 w rec4 a0 x1 x2 x3 = some r0) : V x 4 [some (.ref a0), some (.int x1), some (.int x2), some (.int x3)] [] (Rp (xD x) w) 0 0 := by
  unfold fX1_countThroughThread_b4 at h
  refine v_iload_n (pc' := 5) hx dX1_countThroughThread_4 rfl rfl ?_
  refine v_bipush (pc' := 7) (v := 24) hx dX1_countThroughThread_5 (by decide) rfl ?_
  refine v_icmp_ge (tgt := 37) (pc' := 10) hx dX1_countThroughThread_7 (by decide) rfl (fun hc_1 => ?_) (fun hc_1 => ?_)
  · rw [if_pos hc_1] at h
    refine v_iload_n (pc' := 38) hx dX1_countThroughThread_37 rfl rfl ?_
    exact v_iret hx hq (by decide) (by decide) dX1_countThroughThread_38 (by cases h; rfl)
  · rw [if_neg hc_1] at h
    refine v_iload_n (pc' := 11) hx dX1_countThroughThread_10 rfl rfl ?_
    refine v_iload_n (pc' := 12) hx dX1_countThroughThread_11 rfl rfl ?_
    refine v_icmp_eq (tgt := 31) (pc' := 15) hx dX1_countThroughThread_12 (by decide) rfl (fun hc_2 => ?_) (fun hc_2 => ?_)
    · rw [if_pos hc_2] at h
      exact vX1_countThroughThread_b31 hx hq hrec4 hl0 h
    · rw [if_neg hc_2] at h
      refine v_aload_n (pc' := 16) hx dX1_countThroughThread_15 rfl rfl ?_
      obtain ⟨g_3, hq_4⟩ : ∃ q, zA w 1 a0 3 = q := ⟨_, rfl⟩
      refine v_getAq (pc' := 19) hx hl0 fi_1_3.1 (by decide) hq_4 fk_X1_25 dX1_countThroughThread_16 rfl ?_
      refine v_iload_n (pc' := 20) hx dX1_countThroughThread_19 rfl rfl ?_
      replace h := ckp_inv h; obtain ⟨hk_5, h⟩ := h
      refine v_ialdq (pc' := 21) hx hl0 fi_1_3.1 fi_1_3.2.1 rfl hk_5 hq_4 dX1_countThroughThread_20 rfl ?_
      refine v_iload_n (pc' := 22) hx dX1_countThroughThread_21 rfl rfl ?_
      replace h := bd_inv h; obtain ⟨y_7, hcl_6, h⟩ := h
      refine v_callSi (pc' := 25) (w' := w) (r := y_7) (As := [.int (zI w 1 a0 3 (x3 : Int32).toNatClampNeg), .int x1]) (rest := []) hx (fun G sz hR => ctX5_hasBit (xl x) (xD x) w G sz hR (zI w 1 a0 3 (x3 : Int32).toNatClampNeg) x1  hcl_6) my_X5_hasBit ml_X1_100 ⟨by decide, by decide⟩ ⟨by decide, by decide⟩ rfl rfl (Nat.le_of_ble_eq_true rfl) dX1_countThroughThread_22 rfl ?_
      refine v_if_eq (tgt := 31) (pc' := 28) hx dX1_countThroughThread_25 (by decide) rfl (fun hc_9 => ?_) (fun hc_9 => ?_)
      · rw [if_pos hc_9] at h
        exact vX1_countThroughThread_b31 hx hq hrec4 hl0 h
      · rw [if_neg hc_9] at h
        refine v_iinc (pc' := 31) (w0 := (x2 + 1)) (L' := [some (.ref a0), some (.int x1), some (.int (x2 + 1)), some (.int x3)]) hx dX1_countThroughThread_28 rfl rfl rfl rfl ?_
        exact vX1_countThroughThread_b31 hx hq hrec4 hl0 h
theorem vX1_countThroughThread_l4 {x : CT} (hx : CX x cX1_countThroughThread RX1 rmX1_countThroughThread (some .int)) {r0 : Int32} {w : Wd} (hq : RI x rmX1_countThroughThread r0 w) : ∀ (n : Nat) (a0 : Nat) (x1 : Int32) (x2 : Int32) (x3 : Int32), (zL w 1 a0 = true) → fX1_countThroughThread_l4 w n a0 x1 x2 x3 = some r0 → V x 4 [some (.ref a0), some (.int x1), some (.int x2), some (.int x3)] [] (Rp (xD x) w) 0 0 := by
  intro n
  induction n with
  | zero => intro a0 x1 x2 x3 hl0 h; cases h
  | succ n ih =>
    intro a0 x1 x2 x3 hl0 h
    exact vX1_countThroughThread_b4 hx hq  (fun a0 x1 x2 x3 h hl0 => ih a0 x1 x2 x3 hl0 h) hl0 h
theorem vX1_countThroughThread {x : CT} (hx : CX x cX1_countThroughThread RX1 rmX1_countThroughThread (some .int)) {r0 : Int32} {w : Wd} (hq : RI x rmX1_countThroughThread r0 w) (a0 : Nat) (x1 : Int32) (hl0 : zL w 1 a0 = true) (h : fX1_countThroughThread a0 x1 w = some r0) : V x 0 [some (.ref a0), some (.int x1), none, none] [] (Rp (xD x) w) 0 0 := by
  unfold fX1_countThroughThread at h
  refine v_iconst (pc' := 1) (v := 0) hx dX1_countThroughThread_0 (by decide) rfl ?_
  refine v_istore_n (pc' := 2) (L' := [some (.ref a0), some (.int x1), some (.int 0), none]) hx dX1_countThroughThread_1 rfl rfl (Nat.le_of_ble_eq_true rfl) ?_
  refine v_iconst (pc' := 3) (v := 0) hx dX1_countThroughThread_2 (by decide) rfl ?_
  refine v_istore_n (pc' := 4) (L' := [some (.ref a0), some (.int x1), some (.int 0), some (.int 0)]) hx dX1_countThroughThread_3 rfl rfl (Nat.le_of_ble_eq_true rfl) ?_
  exact vX1_countThroughThread_l4 hx hq 1000 a0 x1 0 0 hl0 h
theorem ctX1_countThroughThread (l : Launch) (D : DD) (w : Wd) (G : GT) (sz : Nat) (hR : Rp D w G sz) (a0 : Nat) (x1 : Int32) (hl0 : zL w 1 a0 = true) {r0 : Int32} (h : fX1_countThroughThread a0 x1 w = some r0) : MetI l yX1_countThroughThread (WS yX1_countThroughThread cX1_countThroughThread 4 (some .int)) rmX1_countThroughThread D [.ref a0, .int x1] G sz r0 w := by
  refine MetI_ofV (own := RX1) (P := Rp D w) hR (by decide) rfl (by simp [Value.category]) (Nat.le_of_ble_eq_true rfl) (fun x hx hq hD hl => ?_)
  subst hD
  exact vX1_countThroughThread hx hq a0 x1 hl0 h
theorem vX5_through_b27 {x : CT} (hx : CX x cX5_through RX5 rmX5_through (some .int)) {r0 : Int32} {w : Wd} (hq : RI x rmX5_through r0 w) {xs0 : Int32} (h : fX5_through_b27 w xs0 = some r0) : V x 27 [none, none, none, none] [.int xs0] (Rp (xD x) w) 0 0 := by
  unfold fX5_through_b27 at h
  exact v_iret hx hq (by decide) (by decide) dX5_through_27 (by cases h; rfl)
theorem vX5_through_b18 {x : CT} (hx : CX x cX5_through RX5 rmX5_through (some .int)) {r0 : Int32} {w : Wd} (hq : RI x rmX5_through r0 w) (h : fX5_through_b18 w = some r0) : V x 18 [none, none, none, none] [] (Rp (xD x) w) 0 0 := by
  unfold fX5_through_b18 at h
  refine v_iconst (pc' := 19) (v := (-1)) hx dX5_through_18 (by decide) rfl ?_
  refine v_goto (tgt := 27) hx dX5_through_19 (by decide) ?_
  exact vX5_through_b27 hx hq h
theorem vX5_through {x : CT} (hx : CX x cX5_through RX5 rmX5_through (some .int)) {r0 : Int32} {w : Wd} (hq : RI x rmX5_through r0 w) (a0 : Nat) (x1 : Int32) (x2 : Int32) (hl0 : zL w 5 a0 = true) (h : fX5_through a0 x1 x2 w = some r0) : V x 0 [some (.ref a0), some (.int x1), some (.int x2), none] [] (Rp (xD x) w) 0 0 := by
  unfold fX5_through at h
  refine v_aload_n (pc' := 1) hx dX5_through_0 rfl rfl ?_
  refine v_iload_n (pc' := 2) hx dX5_through_1 rfl rfl ?_
  replace h := bd_inv h; obtain ⟨u_2, hcl_1, h⟩ := h
  refine v_callVq (pc' := 5) (w' := w) (q := u_2) (ci := 5) (b := a0) (As := [.int x1]) (rest := []) hx hl0 (fun G sz hR => ctX5_pictureAt (xl x) (xD x) w G sz hR a0 x1 hl0 hcl_1) rfl my_X5_pictureAt ml_X5_74 ⟨by decide, by decide⟩ ⟨by decide, by decide⟩ rfl rfl (Nat.le_of_ble_eq_true rfl) dX5_through_2 rfl (fun hl_3 => ?_)
  refine v_astoreq_n (pc' := 6) (L' := [some (.ref a0), some (.int x1), some (.int x2), some (va_rf u_2)]) hx dX5_through_5 rfl rfl (Nat.le_of_ble_eq_true rfl) ?_
  refine v_aloadq_n (pc' := 7) hx dX5_through_6 rfl rfl ?_
  refine v_ifnull (tgt := 18) (pc' := 10) hx dX5_through_7 (by decide) rfl (fun hn_5 => ?_) (fun b_4 hn_5 => ?_)
  · subst hn_5
    rw [oc_n] at h
    refine V.sb (L' := [none, none, none, none]) ⟨Or.inl rfl, Or.inl rfl, Or.inl rfl, Or.inl rfl, trivial⟩ ?_
    exact vX5_through_b18 hx hq h
  · subst hn_5
    rw [oc_s] at h
    have hl_6 : zL w 1 b_4 = true := hl_3 _ rfl
    refine v_aload_n (pc' := 11) hx dX5_through_10 rfl rfl ?_
    refine v_iload_n (pc' := 12) hx dX5_through_11 rfl rfl ?_
    replace h := bd_inv h; obtain ⟨u_8, hcl_7, h⟩ := h
    refine v_callVq (pc' := 15) (w' := w) (q := u_8) (ci := 1) (b := b_4) (As := [.int x2]) (rest := []) hx hl_6 (fun G sz hR => ctX1_rowOf (xl x) (xD x) w G sz hR b_4 x2 hl_6 hcl_7) rfl my_X1_rowOf ml_X5_119 ⟨by decide, by decide⟩ ⟨by decide, by decide⟩ rfl rfl (Nat.le_of_ble_eq_true rfl) dX5_through_12 rfl (fun hl_9 => ?_)
    refine v_ifnonnull (tgt := 22) (pc' := 18) hx dX5_through_15 (by decide) rfl (fun b_10 hn_11 => ?_) (fun hn_11 => ?_)
    · subst hn_11
      rw [oc_s] at h
      have hl_12 : zL w 2 b_10 = true := hl_9 _ rfl
      refine v_aload_n (pc' := 23) hx dX5_through_22 rfl rfl ?_
      refine v_iload_n (pc' := 24) hx dX5_through_23 rfl rfl ?_
      replace h := bd_inv h; obtain ⟨y_14, hcl_13, h⟩ := h
      refine v_callVi (pc' := 27) (w' := w) (r := y_14) (ci := 1) (b := b_4) (As := [.int x2]) (rest := []) hx hl_6 (fun G sz hR => ctX1_countThroughThread (xl x) (xD x) w G sz hR b_4 x2 hl_6 hcl_13) rfl my_X1_countThroughThread ml_X5_123 ⟨by decide, by decide⟩ ⟨by decide, by decide⟩ rfl rfl (Nat.le_of_ble_eq_true rfl) dX5_through_24 rfl ?_
      refine V.sb (L' := [none, none, none, none]) ⟨Or.inl rfl, Or.inl rfl, Or.inl rfl, Or.inl rfl, trivial⟩ ?_
      exact vX5_through_b27 hx hq h
    · subst hn_11
      rw [oc_n] at h
      refine V.sb (L' := [none, none, none, none]) ⟨Or.inl rfl, Or.inl rfl, Or.inl rfl, Or.inl rfl, trivial⟩ ?_
      exact vX5_through_b18 hx hq h
theorem ctX5_through (l : Launch) (D : DD) (w : Wd) (G : GT) (sz : Nat) (hR : Rp D w G sz) (a0 : Nat) (x1 : Int32) (x2 : Int32) (hl0 : zL w 5 a0 = true) {r0 : Int32} (h : fX5_through a0 x1 x2 w = some r0) : MetI l yX5_through (WS yX5_through cX5_through 4 (some .int)) rmX5_through D [.ref a0, .int x1, .int x2] G sz r0 w := by
  refine MetI_ofV (own := RX5) (P := Rp D w) hR (by decide) rfl (by simp [Value.category]) (Nat.le_of_ble_eq_true rfl) (fun x hx hq hD hl => ?_)
  subst hD
  exact vX5_through hx hq a0 x1 x2 hl0 h
theorem vX6_comes_b42 {x : CT} (hx : CX x cX6_comes RX6 rmX6_comes (some .boolean)) {r0 : Int32} {w : Wd} (hq : RI x rmX6_comes r0 w) (h : fX6_comes_b42 w = some r0) : V x 42 [none, none, none, none, none, none] [] (Rp (xD x) w) 0 0 := by
  unfold fX6_comes_b42 at h
  refine v_iconst (pc' := 43) (v := 0) hx dX6_comes_42 (by decide) rfl ?_
  replace h := ckp_inv h; obtain ⟨hk_1, h⟩ := h
  exact v_zret hx hq (by decide) (by decide) dX6_comes_43 hk_1 (by cases h; rfl)
theorem vX6_comes_b6 {x : CT} (hx : CX x cX6_comes RX6 rmX6_comes (some .boolean)) {r0 : Int32} {w : Wd} (hq : RI x rmX6_comes r0 w) {rec6 : Nat → Int32 → Int32 → Int32 → Int32 → Option (Int32)} {a0 : Nat} {x1 : Int32} {x3 : Int32} {x4 : Int32} {x5 : Int32} (hrec6 : ∀ (a0 : Nat) (x1 : Int32) (x3 : Int32) (x4 : Int32) (x5 : Int32), rec6 a0 x1 x3 x4 x5 = some r0 → (zL w 6 a0 = true) → V x 6 [some (.ref a0), some (.int x1), none, some (.int x3), some (.int x4), some (.int x5)] [] (Rp (xD x) w) 0 0) (hl0 : zL w 6 a0 = true) (h : fX6_comes_b6 w rec6 a0 x1 x3 x4 x5 = some r0) : V x 6 [some (.ref a0), some (.int x1), none, some (.int x3), some (.int x4), some (.int x5)] [] (Rp (xD x) w) 0 0 := by
  unfold fX6_comes_b6 at h
  refine v_iload (pc' := 8) hx dX6_comes_6 rfl rfl ?_
  refine v_bipush (pc' := 10) (v := 24) hx dX6_comes_8 (by decide) rfl ?_
  refine v_icmp_gt (tgt := 42) (pc' := 13) hx dX6_comes_10 (by decide) rfl (fun hc_1 => ?_) (fun hc_1 => ?_)
  · rw [if_pos hc_1] at h
    refine V.sb (L' := [none, none, none, none, none, none]) ⟨Or.inl rfl, Or.inl rfl, Or.inl rfl, Or.inl rfl, Or.inl rfl, Or.inl rfl, trivial⟩ ?_
    exact vX6_comes_b42 hx hq h
  · rw [if_neg hc_1] at h
    refine v_iload (pc' := 15) hx dX6_comes_13 rfl rfl ?_
    refine v_iconst (pc' := 16) (v := (-1)) hx dX6_comes_15 (by decide) rfl ?_
    refine v_icmp_eq (tgt := 42) (pc' := 19) hx dX6_comes_16 (by decide) rfl (fun hc_2 => ?_) (fun hc_2 => ?_)
    · rw [if_pos hc_2] at h
      refine V.sb (L' := [none, none, none, none, none, none]) ⟨Or.inl rfl, Or.inl rfl, Or.inl rfl, Or.inl rfl, Or.inl rfl, Or.inl rfl, trivial⟩ ?_
      exact vX6_comes_b42 hx hq h
    · rw [if_neg hc_2] at h
      refine v_iload (pc' := 21) hx dX6_comes_19 rfl rfl ?_
      refine v_iload_n (pc' := 22) hx dX6_comes_21 rfl rfl ?_
      refine v_icmp_ne (tgt := 27) (pc' := 25) hx dX6_comes_22 (by decide) rfl (fun hc_3 => ?_) (fun hc_3 => ?_)
      · rw [if_neg hc_3] at h
        refine v_aload_n (pc' := 28) hx dX6_comes_27 rfl rfl ?_
        refine v_iload_n (pc' := 29) hx dX6_comes_28 rfl rfl ?_
        refine v_iload (pc' := 31) hx dX6_comes_29 rfl rfl ?_
        replace h := bd_inv h; obtain ⟨y_5, hcl_4, h⟩ := h
        refine v_callVi (pc' := 34) (w' := w) (r := y_5) (ci := 6) (b := a0) (As := [.int x1, .int x4]) (rest := []) hx hl0 (fun G sz hR => ctX6_next (xl x) (xD x) w G sz hR a0 x1 x4 hl0 hcl_4) rfl my_X6_next ml_X6_156 ⟨by decide, by decide⟩ ⟨by decide, by decide⟩ rfl rfl (Nat.le_of_ble_eq_true rfl) dX6_comes_31 rfl ?_
        refine v_istore (pc' := 36) (L' := [some (.ref a0), some (.int x1), none, some (.int x3), some (.int y_5), some (.int x5)]) hx dX6_comes_34 rfl rfl (Nat.le_of_ble_eq_true rfl) ?_
        refine v_iinc (pc' := 39) (w0 := (x5 + 1)) (L' := [some (.ref a0), some (.int x1), none, some (.int x3), some (.int y_5), some (.int (x5 + 1))]) hx dX6_comes_36 rfl rfl rfl rfl ?_
        refine v_goto (tgt := 6) hx dX6_comes_39 (by decide) ?_
        exact hrec6 a0 x1 x3 y_5 (x5 + 1) h hl0
      · rw [if_pos hc_3] at h
        refine v_iconst (pc' := 26) (v := 1) hx dX6_comes_25 (by decide) rfl ?_
        replace h := ckp_inv h; obtain ⟨hk_7, h⟩ := h
        exact v_zret hx hq (by decide) (by decide) dX6_comes_26 hk_7 (by cases h; rfl)
theorem vX6_comes_l6 {x : CT} (hx : CX x cX6_comes RX6 rmX6_comes (some .boolean)) {r0 : Int32} {w : Wd} (hq : RI x rmX6_comes r0 w) : ∀ (n : Nat) (a0 : Nat) (x1 : Int32) (x3 : Int32) (x4 : Int32) (x5 : Int32), (zL w 6 a0 = true) → fX6_comes_l6 w n a0 x1 x3 x4 x5 = some r0 → V x 6 [some (.ref a0), some (.int x1), none, some (.int x3), some (.int x4), some (.int x5)] [] (Rp (xD x) w) 0 0 := by
  intro n
  induction n with
  | zero => intro a0 x1 x3 x4 x5 hl0 h; cases h
  | succ n ih =>
    intro a0 x1 x3 x4 x5 hl0 h
    exact vX6_comes_b6 hx hq  (fun a0 x1 x3 x4 x5 h hl0 => ih a0 x1 x3 x4 x5 hl0 h) hl0 h
theorem vX6_comes {x : CT} (hx : CX x cX6_comes RX6 rmX6_comes (some .boolean)) {r0 : Int32} {w : Wd} (hq : RI x rmX6_comes r0 w) (a0 : Nat) (x1 : Int32) (x2 : Int32) (x3 : Int32) (hl0 : zL w 6 a0 = true) (h : fX6_comes a0 x1 x2 x3 w = some r0) : V x 0 [some (.ref a0), some (.int x1), some (.int x2), some (.int x3), none, none] [] (Rp (xD x) w) 0 0 := by
  unfold fX6_comes at h
  refine v_iload_n (pc' := 1) hx dX6_comes_0 rfl rfl ?_
  refine v_istore (pc' := 3) (L' := [some (.ref a0), some (.int x1), some (.int x2), some (.int x3), some (.int x2), none]) hx dX6_comes_1 rfl rfl (Nat.le_of_ble_eq_true rfl) ?_
  refine v_iconst (pc' := 4) (v := 0) hx dX6_comes_3 (by decide) rfl ?_
  refine v_istore (pc' := 6) (L' := [some (.ref a0), some (.int x1), some (.int x2), some (.int x3), some (.int x2), some (.int 0)]) hx dX6_comes_4 rfl rfl (Nat.le_of_ble_eq_true rfl) ?_
  refine V.sb (L' := [some (.ref a0), some (.int x1), none, some (.int x3), some (.int x2), some (.int 0)]) ⟨Or.inr rfl, Or.inr rfl, Or.inl rfl, Or.inr rfl, Or.inr rfl, Or.inr rfl, trivial⟩ ?_
  exact vX6_comes_l6 hx hq 1000 a0 x1 x3 x2 0 hl0 h
theorem ctX6_comes (l : Launch) (D : DD) (w : Wd) (G : GT) (sz : Nat) (hR : Rp D w G sz) (a0 : Nat) (x1 : Int32) (x2 : Int32) (x3 : Int32) (hl0 : zL w 6 a0 = true) {r0 : Int32} (h : fX6_comes a0 x1 x2 x3 w = some r0) : MetI l yX6_comes (WS yX6_comes cX6_comes 6 (some .boolean)) rmX6_comes D [.ref a0, .int x1, .int x2, .int x3] G sz r0 w := by
  refine MetI_ofV (own := RX6) (P := Rp D w) hR (by decide) rfl (by simp [Value.category]) (Nat.le_of_ble_eq_true rfl) (fun x hx hq hD hl => ?_)
  subst hD
  exact vX6_comes hx hq a0 x1 x2 x3 hl0 h
