theorem vX6_through_b61 {x : CT} (hx : CX x cX6_through RX6 rmX6_through (some .int)) {r0 : Int32} {w : Wd} (hq : RI x rmX6_through r0 w) {rec16 : Nat → Int32 → Int32 → Int32 → Int32 → Option (Int32)} {a0 : Nat} {x1 : Int32} {x2 : Int32} {x4 : Int32} {xs0 : Int32} {xs1 : Int32} (hrec16 : ∀ (a0 : Nat) (x1 : Int32) (x2 : Int32) (x3 : Int32) (x4 : Int32), rec16 a0 x1 x2 x3 x4 = some r0 → (zL w 6 a0 = true) → V x 16 [some (.ref a0), some (.int x1), some (.int x2), some (.int x3), some (.int x4)] [] (Rp (xD x) w) 0 0) (hl0 : zL w 6 a0 = true) (h : fX6_through_b61 w rec16 a0 x1 x2 x4 xs0 xs1 = some r0) : V x 61 [some (.ref a0), some (.int x1), some (.int x2), none, some (.int x4)] [.int xs0, .int xs1] (Rp (xD x) w) 0 0 := by
  unfold fX6_through_b61 at h
  refine v_iadd (pc' := 62) hx dX6_through_61 rfl ?_
  refine v_istore_n (pc' := 63) (L' := [some (.ref a0), some (.int x1), some (.int x2), some (.int (xs1 + xs0)), some (.int x4)]) hx dX6_through_62 rfl rfl (Nat.le_of_ble_eq_true rfl) ?_
  refine v_iinc (pc' := 66) (w0 := (x4 + 1)) (L' := [some (.ref a0), some (.int x1), some (.int x2), some (.int (xs1 + xs0)), some (.int (x4 + 1))]) hx dX6_through_63 rfl rfl rfl rfl ?_
  refine v_goto (tgt := 16) hx dX6_through_66 (by decide) ?_
  exact hrec16 a0 x1 x2 (xs1 + xs0) (x4 + 1) h hl0
theorem vX6_through_b60 {x : CT} (hx : CX x cX6_through RX6 rmX6_through (some .int)) {r0 : Int32} {w : Wd} (hq : RI x rmX6_through r0 w) {rec16 : Nat → Int32 → Int32 → Int32 → Int32 → Option (Int32)} {a0 : Nat} {x1 : Int32} {x2 : Int32} {x4 : Int32} {xs0 : Int32} (hrec16 : ∀ (a0 : Nat) (x1 : Int32) (x2 : Int32) (x3 : Int32) (x4 : Int32), rec16 a0 x1 x2 x3 x4 = some r0 → (zL w 6 a0 = true) → V x 16 [some (.ref a0), some (.int x1), some (.int x2), some (.int x3), some (.int x4)] [] (Rp (xD x) w) 0 0) (hl0 : zL w 6 a0 = true) (h : fX6_through_b60 w rec16 a0 x1 x2 x4 xs0 = some r0) : V x 60 [some (.ref a0), some (.int x1), some (.int x2), none, some (.int x4)] [.int xs0] (Rp (xD x) w) 0 0 := by
  unfold fX6_through_b60 at h
  refine v_iconst (pc' := 61) (v := 0) hx dX6_through_60 (by decide) rfl ?_
  exact vX6_through_b61 hx hq hrec16 hl0 h
theorem vX6_through_b16 {x : CT} (hx : CX x cX6_through RX6 rmX6_through (some .int)) {r0 : Int32} {w : Wd} (hq : RI x rmX6_through r0 w) {rec16 : Nat → Int32 → Int32 → Int32 → Int32 → Option (Int32)} {a0 : Nat} {x1 : Int32} {x2 : Int32} {x3 : Int32} {x4 : Int32} (hrec16 : ∀ (a0 : Nat) (x1 : Int32) (x2 : Int32) (x3 : Int32) (x4 : Int32), rec16 a0 x1 x2 x3 x4 = some r0 → (zL w 6 a0 = true) → V x 16 [some (.ref a0), some (.int x1), some (.int x2), some (.int x3), some (.int x4)] [] (Rp (xD x) w) 0 0) (hl0 : zL w 6 a0 = true) (h : fX6_through_b16 w rec16 a0 x1 x2 x3 x4 = some r0) : V x 16 [some (.ref a0), some (.int x1), some (.int x2), some (.int x3), some (.int x4)] [] (Rp (xD x) w) 0 0 := by
  unfold fX6_through_b16 at h
  refine v_iload (pc' := 18) hx dX6_through_16 rfl rfl ?_
  refine v_bipush (pc' := 20) (v := 24) hx dX6_through_18 (by decide) rfl ?_
  refine v_icmp_ge (tgt := 69) (pc' := 23) hx dX6_through_20 (by decide) rfl (fun hc_1 => ?_) (fun hc_1 => ?_)
  · rw [if_pos hc_1] at h
    refine v_iload_n (pc' := 70) hx dX6_through_69 rfl rfl ?_
    exact v_iret hx hq (by decide) (by decide) dX6_through_70 (by cases h; rfl)
  · rw [if_neg hc_1] at h
    refine v_iload_n (pc' := 24) hx dX6_through_23 rfl rfl ?_
    refine v_iload (pc' := 26) hx dX6_through_24 rfl rfl ?_
    refine v_iload_n (pc' := 27) hx dX6_through_26 rfl rfl ?_
    refine v_icmp_eq (tgt := 60) (pc' := 30) hx dX6_through_27 (by decide) rfl (fun hc_2 => ?_) (fun hc_2 => ?_)
    · rw [if_pos hc_2] at h
      refine V.sb (L' := [some (.ref a0), some (.int x1), some (.int x2), none, some (.int x4)]) ⟨Or.inr rfl, Or.inr rfl, Or.inr rfl, Or.inl rfl, Or.inr rfl, trivial⟩ ?_
      exact vX6_through_b60 hx hq hrec16 hl0 h
    · rw [if_neg hc_2] at h
      refine v_aload_n (pc' := 31) hx dX6_through_30 rfl rfl ?_
      obtain ⟨g_3, hq_4⟩ : ∃ q, zA w 6 a0 7 = q := ⟨_, rfl⟩
      refine v_getAq (pc' := 34) hx hl0 fi_6_7.1 (by decide) hq_4 fk_X6_27 dX6_through_31 rfl ?_
      refine v_bipush (pc' := 36) (v := 24) hx dX6_through_34 (by decide) rfl ?_
      refine v_iload_n (pc' := 37) hx dX6_through_36 rfl rfl ?_
      refine v_imul (pc' := 38) hx dX6_through_37 rfl ?_
      refine v_iload (pc' := 40) hx dX6_through_38 rfl rfl ?_
      refine v_iadd (pc' := 41) hx dX6_through_40 rfl ?_
      replace h := ckp_inv h; obtain ⟨hk_5, h⟩ := h
      refine v_zaldq (pc' := 42) hx hl0 fi_6_7.1 fi_6_7.2.1 rfl hk_5 hq_4 dX6_through_41 rfl ?_
      refine v_if_eq (tgt := 60) (pc' := 45) hx dX6_through_42 (by decide) rfl (fun hc_6 => ?_) (fun hc_6 => ?_)
      · rw [if_pos hc_6] at h
        refine V.sb (L' := [some (.ref a0), some (.int x1), some (.int x2), none, some (.int x4)]) ⟨Or.inr rfl, Or.inr rfl, Or.inr rfl, Or.inl rfl, Or.inr rfl, trivial⟩ ?_
        exact vX6_through_b60 hx hq hrec16 hl0 h
      · rw [if_neg hc_6] at h
        refine v_aload_n (pc' := 46) hx dX6_through_45 rfl rfl ?_
        refine v_iload_n (pc' := 47) hx dX6_through_46 rfl rfl ?_
        refine v_iload (pc' := 49) hx dX6_through_47 rfl rfl ?_
        refine v_iload_n (pc' := 50) hx dX6_through_49 rfl rfl ?_
        replace h := bd_inv h; obtain ⟨y_8, hcl_7, h⟩ := h
        refine v_callVi (pc' := 53) (w' := w) (r := y_8) (ci := 6) (b := a0) (As := [.int x1, .int x4, .int x2]) (rest := [.int x3]) hx hl0 (fun G sz hR => ctX6_comes (xl x) (xD x) w G sz hR a0 x1 x4 x2 hl0 hcl_7) rfl my_X6_comes ml_X6_169 ⟨by decide, by decide⟩ ⟨by decide, by decide⟩ rfl rfl (Nat.le_of_ble_eq_true rfl) dX6_through_50 rfl ?_
        refine v_if_eq (tgt := 60) (pc' := 56) hx dX6_through_53 (by decide) rfl (fun hc_10 => ?_) (fun hc_10 => ?_)
        · rw [if_pos hc_10] at h
          refine V.sb (L' := [some (.ref a0), some (.int x1), some (.int x2), none, some (.int x4)]) ⟨Or.inr rfl, Or.inr rfl, Or.inr rfl, Or.inl rfl, Or.inr rfl, trivial⟩ ?_
          exact vX6_through_b60 hx hq hrec16 hl0 h
        · rw [if_neg hc_10] at h
          refine v_iconst (pc' := 57) (v := 1) hx dX6_through_56 (by decide) rfl ?_
          refine v_goto (tgt := 61) hx dX6_through_57 (by decide) ?_
          refine V.sb (L' := [some (.ref a0), some (.int x1), some (.int x2), none, some (.int x4)]) ⟨Or.inr rfl, Or.inr rfl, Or.inr rfl, Or.inl rfl, Or.inr rfl, trivial⟩ ?_
          exact vX6_through_b61 hx hq hrec16 hl0 h
theorem vX6_through_l16 {x : CT} (hx : CX x cX6_through RX6 rmX6_through (some .int)) {r0 : Int32} {w : Wd} (hq : RI x rmX6_through r0 w) : ∀ (n : Nat) (a0 : Nat) (x1 : Int32) (x2 : Int32) (x3 : Int32) (x4 : Int32), (zL w 6 a0 = true) → fX6_through_l16 w n a0 x1 x2 x3 x4 = some r0 → V x 16 [some (.ref a0), some (.int x1), some (.int x2), some (.int x3), some (.int x4)] [] (Rp (xD x) w) 0 0 := by
  intro n
  induction n with
  | zero => intro a0 x1 x2 x3 x4 hl0 h; cases h
  | succ n ih =>
    intro a0 x1 x2 x3 x4 hl0 h
    exact vX6_through_b16 hx hq  (fun a0 x1 x2 x3 x4 h hl0 => ih a0 x1 x2 x3 x4 hl0 h) hl0 h
theorem vX6_through {x : CT} (hx : CX x cX6_through RX6 rmX6_through (some .int)) {r0 : Int32} {w : Wd} (hq : RI x rmX6_through r0 w) (a0 : Nat) (x1 : Int32) (x2 : Int32) (hl0 : zL w 6 a0 = true) (h : fX6_through a0 x1 x2 w = some r0) : V x 0 [some (.ref a0), some (.int x1), some (.int x2), none, none] [] (Rp (xD x) w) 0 0 := by
  unfold fX6_through at h
  refine v_aload_n (pc' := 1) hx dX6_through_0 rfl rfl ?_
  refine v_iload_n (pc' := 2) hx dX6_through_1 rfl rfl ?_
  refine v_iload_n (pc' := 3) hx dX6_through_2 rfl rfl ?_
  replace h := bd_inv h; obtain ⟨y_2, hcl_1, h⟩ := h
  refine v_callVi (pc' := 6) (w' := w) (r := y_2) (ci := 6) (b := a0) (As := [.int x1, .int x2]) (rest := []) hx hl0 (fun G sz hR => ctX6_isThere (xl x) (xD x) w G sz hR a0 x1 x2 hl0 hcl_1) rfl my_X6_isThere ml_X6_149 ⟨by decide, by decide⟩ ⟨by decide, by decide⟩ rfl rfl (Nat.le_of_ble_eq_true rfl) dX6_through_3 rfl ?_
  refine v_if_ne (tgt := 11) (pc' := 9) hx dX6_through_6 (by decide) rfl (fun hc_4 => ?_) (fun hc_4 => ?_)
  · rw [if_neg hc_4] at h
    refine v_iconst (pc' := 12) (v := 0) hx dX6_through_11 (by decide) rfl ?_
    refine v_istore_n (pc' := 13) (L' := [some (.ref a0), some (.int x1), some (.int x2), some (.int 0), none]) hx dX6_through_12 rfl rfl (Nat.le_of_ble_eq_true rfl) ?_
    refine v_iconst (pc' := 14) (v := 0) hx dX6_through_13 (by decide) rfl ?_
    refine v_istore (pc' := 16) (L' := [some (.ref a0), some (.int x1), some (.int x2), some (.int 0), some (.int 0)]) hx dX6_through_14 rfl rfl (Nat.le_of_ble_eq_true rfl) ?_
    exact vX6_through_l16 hx hq 1000 a0 x1 x2 0 0 hl0 h
  · rw [if_pos hc_4] at h
    refine v_iconst (pc' := 10) (v := (-1)) hx dX6_through_9 (by decide) rfl ?_
    exact v_iret hx hq (by decide) (by decide) dX6_through_10 (by cases h; rfl)
theorem ctX6_through (l : Launch) (D : DD) (w : Wd) (G : GT) (sz : Nat) (hR : Rp D w G sz) (a0 : Nat) (x1 : Int32) (x2 : Int32) (hl0 : zL w 6 a0 = true) {r0 : Int32} (h : fX6_through a0 x1 x2 w = some r0) : MetI l yX6_through (WS yX6_through cX6_through 5 (some .int)) rmX6_through D [.ref a0, .int x1, .int x2] G sz r0 w := by
  refine MetI_ofV (own := RX6) (P := Rp D w) hR (by decide) rfl (by simp [Value.category]) (Nat.le_of_ble_eq_true rfl) (fun x hx hq hD hl => ?_)
  subst hD
  exact vX6_through hx hq a0 x1 x2 hl0 h
theorem vX1_countThroughLock_b39 {x : CT} (hx : CX x cX1_countThroughLock RX1 rmX1_countThroughLock (some .int)) {r0 : Int32} {w : Wd} (hq : RI x rmX1_countThroughLock r0 w) {rec14 : Int32 → Int32 → Nat → Int32 → Int32 → Option (Int32)} {x1 : Int32} {x2 : Int32} {o3 : Nat} {x4 : Int32} {x5 : Int32} { q3 : Nat} (hrec14 : ∀ (x1 : Int32) (x2 : Int32) (o3 : Nat) (x4 : Int32) (x5 : Int32) (q3 : Nat), rec14 x1 x2 o3 x4 x5 = some r0 → (zL w 1 o3 = true) → (zA w 1 o3 4 = q3) → V x 14 [none, some (.int x1), some (.int x2), some (.ref q3), some (.int x4), some (.int x5), none] [] (Rp (xD x) w) 0 0) (hl3 : zL w 1 o3 = true) (hq3 : zA w 1 o3 4 = q3) (h : fX1_countThroughLock_b39 w rec14 x1 x2 o3 x4 x5 = some r0) : V x 39 [none, some (.int x1), some (.int x2), some (.ref q3), some (.int x4), some (.int x5), none] [] (Rp (xD x) w) 0 0 := by
  unfold fX1_countThroughLock_b39 at h
  refine v_iinc (pc' := 42) (w0 := (x5 + 1)) (L' := [none, some (.int x1), some (.int x2), some (.ref q3), some (.int x4), some (.int (x5 + 1)), none]) hx dX1_countThroughLock_39 rfl rfl rfl rfl ?_
  refine v_goto (tgt := 14) hx dX1_countThroughLock_42 (by decide) ?_
  exact hrec14 x1 x2 o3 x4 (x5 + 1) q3 h hl3 hq3
theorem vX1_countThroughLock_b14 {x : CT} (hx : CX x cX1_countThroughLock RX1 rmX1_countThroughLock (some .int)) {r0 : Int32} {w : Wd} (hq : RI x rmX1_countThroughLock r0 w) {rec14 : Int32 → Int32 → Nat → Int32 → Int32 → Option (Int32)} {x1 : Int32} {x2 : Int32} {o3 : Nat} {x4 : Int32} {x5 : Int32} { q3 : Nat} (hrec14 : ∀ (x1 : Int32) (x2 : Int32) (o3 : Nat) (x4 : Int32) (x5 : Int32) (q3 : Nat), rec14 x1 x2 o3 x4 x5 = some r0 → (zL w 1 o3 = true) → (zA w 1 o3 4 = q3) → V x 14 [none, some (.int x1), some (.int x2), some (.ref q3), some (.int x4), some (.int x5), none] [] (Rp (xD x) w) 0 0) (hl3 : zL w 1 o3 = true) (hq3 : zA w 1 o3 4 = q3) (h : fX1_countThroughLock_b14 w rec14 x1 x2 o3 x4 x5 = some r0) : V x 14 [none, some (.int x1), some (.int x2), some (.ref q3), some (.int x4), some (.int x5), none] [] (Rp (xD x) w) 0 0 := by
  unfold fX1_countThroughLock_b14 at h
  refine v_iload (pc' := 16) hx dX1_countThroughLock_14 rfl rfl ?_
  refine v_iload (pc' := 18) hx dX1_countThroughLock_16 rfl rfl ?_
  refine v_icmp_ge (tgt := 45) (pc' := 21) hx dX1_countThroughLock_18 (by decide) rfl (fun hc_1 => ?_) (fun hc_1 => ?_)
  · rw [if_pos hc_1] at h
    refine v_iload_n (pc' := 46) hx dX1_countThroughLock_45 rfl rfl ?_
    exact v_iret hx hq (by decide) (by decide) dX1_countThroughLock_46 (by cases h; rfl)
  · rw [if_neg hc_1] at h
    refine v_aload_n (pc' := 22) hx dX1_countThroughLock_21 rfl rfl ?_
    refine v_iload (pc' := 24) hx dX1_countThroughLock_22 rfl rfl ?_
    replace h := ckp_inv h; obtain ⟨hk_2, h⟩ := h
    refine v_ialdq (pc' := 25) hx hl3 fi_1_4.1 fi_1_4.2.1 rfl hk_2 hq3 dX1_countThroughLock_24 rfl ?_
    refine v_istore (pc' := 27) (L' := [none, some (.int x1), some (.int x2), some (.ref q3), some (.int x4), some (.int x5), some (.int (zI w 1 o3 4 (x5 : Int32).toNatClampNeg))]) hx dX1_countThroughLock_25 rfl rfl (Nat.le_of_ble_eq_true rfl) ?_
    refine v_iload (pc' := 29) hx dX1_countThroughLock_27 rfl rfl ?_
    refine v_iload_n (pc' := 30) hx dX1_countThroughLock_29 rfl rfl ?_
    replace h := bd_inv h; obtain ⟨y_4, hcl_3, h⟩ := h
    refine v_callSi (pc' := 33) (w' := w) (r := y_4) (As := [.int (zI w 1 o3 4 (x5 : Int32).toNatClampNeg), .int x1]) (rest := []) hx (fun G sz hR => ctX5_hasBit (xl x) (xD x) w G sz hR (zI w 1 o3 4 (x5 : Int32).toNatClampNeg) x1  hcl_3) my_X5_hasBit ml_X1_100 ⟨by decide, by decide⟩ ⟨by decide, by decide⟩ rfl rfl (Nat.le_of_ble_eq_true rfl) dX1_countThroughLock_30 rfl ?_
    refine v_if_eq (tgt := 39) (pc' := 36) hx dX1_countThroughLock_33 (by decide) rfl (fun hc_6 => ?_) (fun hc_6 => ?_)
    · rw [if_pos hc_6] at h
      refine V.sb (L' := [none, some (.int x1), some (.int x2), some (.ref q3), some (.int x4), some (.int x5), none]) ⟨Or.inl rfl, Or.inr rfl, Or.inr rfl, Or.inr rfl, Or.inr rfl, Or.inr rfl, Or.inl rfl, trivial⟩ ?_
      exact vX1_countThroughLock_b39 hx hq hrec14 hl3 hq3 h
    · rw [if_neg hc_6] at h
      refine v_iinc (pc' := 39) (w0 := (x2 + 1)) (L' := [none, some (.int x1), some (.int (x2 + 1)), some (.ref q3), some (.int x4), some (.int x5), some (.int (zI w 1 o3 4 (x5 : Int32).toNatClampNeg))]) hx dX1_countThroughLock_36 rfl rfl rfl rfl ?_
      refine V.sb (L' := [none, some (.int x1), some (.int (x2 + 1)), some (.ref q3), some (.int x4), some (.int x5), none]) ⟨Or.inl rfl, Or.inr rfl, Or.inr rfl, Or.inr rfl, Or.inr rfl, Or.inr rfl, Or.inl rfl, trivial⟩ ?_
      exact vX1_countThroughLock_b39 hx hq hrec14 hl3 hq3 h
theorem vX1_countThroughLock_l14 {x : CT} (hx : CX x cX1_countThroughLock RX1 rmX1_countThroughLock (some .int)) {r0 : Int32} {w : Wd} (hq : RI x rmX1_countThroughLock r0 w) : ∀ (n : Nat) (x1 : Int32) (x2 : Int32) (o3 : Nat) (x4 : Int32) (x5 : Int32) (q3 : Nat), (zL w 1 o3 = true) → (zA w 1 o3 4 = q3) → fX1_countThroughLock_l14 w n x1 x2 o3 x4 x5 = some r0 → V x 14 [none, some (.int x1), some (.int x2), some (.ref q3), some (.int x4), some (.int x5), none] [] (Rp (xD x) w) 0 0 := by
  intro n
  induction n with
  | zero => intro x1 x2 o3 x4 x5 q3 hl3 hq3 h; cases h
  | succ n ih =>
    intro x1 x2 o3 x4 x5 q3 hl3 hq3 h
    exact vX1_countThroughLock_b14 hx hq  (fun x1 x2 o3 x4 x5 q3 h hl3 hq3 => ih x1 x2 o3 x4 x5 q3 hl3 hq3 h) hl3 hq3 h
theorem vX1_countThroughLock {x : CT} (hx : CX x cX1_countThroughLock RX1 rmX1_countThroughLock (some .int)) {r0 : Int32} {w : Wd} (hq : RI x rmX1_countThroughLock r0 w) (a0 : Nat) (x1 : Int32) (hl0 : zL w 1 a0 = true) (h : fX1_countThroughLock a0 x1 w = some r0) : V x 0 [some (.ref a0), some (.int x1), none, none, none, none, none] [] (Rp (xD x) w) 0 0 := by
  unfold fX1_countThroughLock at h
  refine v_iconst (pc' := 1) (v := 0) hx dX1_countThroughLock_0 (by decide) rfl ?_
  refine v_istore_n (pc' := 2) (L' := [some (.ref a0), some (.int x1), some (.int 0), none, none, none, none]) hx dX1_countThroughLock_1 rfl rfl (Nat.le_of_ble_eq_true rfl) ?_
  refine v_aload_n (pc' := 3) hx dX1_countThroughLock_2 rfl rfl ?_
  obtain ⟨g_1, hq_2⟩ : ∃ q, zA w 1 a0 4 = q := ⟨_, rfl⟩
  refine v_getAq (pc' := 6) hx hl0 fi_1_4.1 (by decide) hq_2 fk_X1_28 dX1_countThroughLock_3 rfl ?_
  refine v_astore_n (pc' := 7) (L' := [some (.ref a0), some (.int x1), some (.int 0), some (.ref g_1), none, none, none]) hx dX1_countThroughLock_6 rfl rfl (Nat.le_of_ble_eq_true rfl) ?_
  refine v_aload_n (pc' := 8) hx dX1_countThroughLock_7 rfl rfl ?_
  refine v_alenq (pc' := 9) (v := 24) hx hl0 fi_1_4.1 (by decide) (by decide) hq_2 dX1_countThroughLock_8 rfl ?_
  refine v_istore (pc' := 11) (L' := [some (.ref a0), some (.int x1), some (.int 0), some (.ref g_1), some (.int 24), none, none]) hx dX1_countThroughLock_9 rfl rfl (Nat.le_of_ble_eq_true rfl) ?_
  refine v_iconst (pc' := 12) (v := 0) hx dX1_countThroughLock_11 (by decide) rfl ?_
  refine v_istore (pc' := 14) (L' := [some (.ref a0), some (.int x1), some (.int 0), some (.ref g_1), some (.int 24), some (.int 0), none]) hx dX1_countThroughLock_12 rfl rfl (Nat.le_of_ble_eq_true rfl) ?_
  refine V.sb (L' := [none, some (.int x1), some (.int 0), some (.ref g_1), some (.int 24), some (.int 0), none]) ⟨Or.inl rfl, Or.inr rfl, Or.inr rfl, Or.inr rfl, Or.inr rfl, Or.inr rfl, Or.inl rfl, trivial⟩ ?_
  exact vX1_countThroughLock_l14 hx hq 1000 x1 0 a0 24 0 g_1 hl0 hq_2 h
theorem ctX1_countThroughLock (l : Launch) (D : DD) (w : Wd) (G : GT) (sz : Nat) (hR : Rp D w G sz) (a0 : Nat) (x1 : Int32) (hl0 : zL w 1 a0 = true) {r0 : Int32} (h : fX1_countThroughLock a0 x1 w = some r0) : MetI l yX1_countThroughLock (WS yX1_countThroughLock cX1_countThroughLock 7 (some .int)) rmX1_countThroughLock D [.ref a0, .int x1] G sz r0 w := by
  refine MetI_ofV (own := RX1) (P := Rp D w) hR (by decide) rfl (by simp [Value.category]) (Nat.le_of_ble_eq_true rfl) (fun x hx hq hD hl => ?_)
  subst hD
  exact vX1_countThroughLock hx hq a0 x1 hl0 h
theorem vX5_weight_b26 {x : CT} (hx : CX x cX5_weight RX5 rmX5_weight (some .int)) {r0 : Int32} {w : Wd} (hq : RI x rmX5_weight r0 w) {xs0 : Int32} (h : fX5_weight_b26 w xs0 = some r0) : V x 26 [none, none, none, none] [.int xs0] (Rp (xD x) w) 0 0 := by
  unfold fX5_weight_b26 at h
  exact v_iret hx hq (by decide) (by decide) dX5_weight_26 (by cases h; rfl)
theorem vX5_weight_b17 {x : CT} (hx : CX x cX5_weight RX5 rmX5_weight (some .int)) {r0 : Int32} {w : Wd} (hq : RI x rmX5_weight r0 w) (h : fX5_weight_b17 w = some r0) : V x 17 [none, none, none, none] [] (Rp (xD x) w) 0 0 := by
  unfold fX5_weight_b17 at h
  refine v_iconst (pc' := 18) (v := (-1)) hx dX5_weight_17 (by decide) rfl ?_
  refine v_goto (tgt := 26) hx dX5_weight_18 (by decide) ?_
  exact vX5_weight_b26 hx hq h
theorem vX5_weight {x : CT} (hx : CX x cX5_weight RX5 rmX5_weight (some .int)) {r0 : Int32} {w : Wd} (hq : RI x rmX5_weight r0 w) (a0 : Nat) (x1 : Int32) (x2 : Int32) (hl0 : zL w 5 a0 = true) (h : fX5_weight a0 x1 x2 w = some r0) : V x 0 [some (.ref a0), some (.int x1), some (.int x2), none] [] (Rp (xD x) w) 0 0 := by
  unfold fX5_weight at h
  refine v_aload_n (pc' := 1) hx dX5_weight_0 rfl rfl ?_
  refine v_iload_n (pc' := 2) hx dX5_weight_1 rfl rfl ?_
  replace h := bd_inv h; obtain ⟨u_2, hcl_1, h⟩ := h
  refine v_callVq (pc' := 5) (w' := w) (q := u_2) (ci := 5) (b := a0) (As := [.int x1]) (rest := []) hx hl0 (fun G sz hR => ctX5_pictureAt (xl x) (xD x) w G sz hR a0 x1 hl0 hcl_1) rfl my_X5_pictureAt ml_X5_74 ⟨by decide, by decide⟩ ⟨by decide, by decide⟩ rfl rfl (Nat.le_of_ble_eq_true rfl) dX5_weight_2 rfl (fun hl_3 => ?_)
  refine v_astoreq_n (pc' := 6) (L' := [some (.ref a0), some (.int x1), some (.int x2), some (va_rf u_2)]) hx dX5_weight_5 rfl rfl (Nat.le_of_ble_eq_true rfl) ?_
  refine v_aloadq_n (pc' := 7) hx dX5_weight_6 rfl rfl ?_
  refine v_ifnull (tgt := 17) (pc' := 10) hx dX5_weight_7 (by decide) rfl (fun hn_5 => ?_) (fun b_4 hn_5 => ?_)
  · subst hn_5
    rw [oc_n] at h
    refine V.sb (L' := [none, none, none, none]) ⟨Or.inl rfl, Or.inl rfl, Or.inl rfl, Or.inl rfl, trivial⟩ ?_
    exact vX5_weight_b17 hx hq h
  · subst hn_5
    rw [oc_s] at h
    have hl_6 : zL w 1 b_4 = true := hl_3 _ rfl
    refine v_iload_n (pc' := 11) hx dX5_weight_10 rfl rfl ?_
    replace h := bd_inv h; obtain ⟨y_8, hcl_7, h⟩ := h
    refine v_callSi (pc' := 14) (w' := w) (r := y_8) (As := [.int x2]) (rest := []) hx (fun G sz hR => ctX5_isLock (xl x) (xD x) w G sz hR x2  hcl_7) my_X5_isLock ml_X5_126 ⟨by decide, by decide⟩ ⟨by decide, by decide⟩ rfl rfl (Nat.le_of_ble_eq_true rfl) dX5_weight_11 rfl ?_
    refine v_if_ne (tgt := 21) (pc' := 17) hx dX5_weight_14 (by decide) rfl (fun hc_10 => ?_) (fun hc_10 => ?_)
    · rw [if_neg hc_10] at h
      refine v_aload_n (pc' := 22) hx dX5_weight_21 rfl rfl ?_
      refine v_iload_n (pc' := 23) hx dX5_weight_22 rfl rfl ?_
      replace h := bd_inv h; obtain ⟨y_12, hcl_11, h⟩ := h
      refine v_callVi (pc' := 26) (w' := w) (r := y_12) (ci := 1) (b := b_4) (As := [.int x2]) (rest := []) hx hl_6 (fun G sz hR => ctX1_countThroughLock (xl x) (xD x) w G sz hR b_4 x2 hl_6 hcl_11) rfl my_X1_countThroughLock ml_X5_129 ⟨by decide, by decide⟩ ⟨by decide, by decide⟩ rfl rfl (Nat.le_of_ble_eq_true rfl) dX5_weight_23 rfl ?_
      refine V.sb (L' := [none, none, none, none]) ⟨Or.inl rfl, Or.inl rfl, Or.inl rfl, Or.inl rfl, trivial⟩ ?_
      exact vX5_weight_b26 hx hq h
    · rw [if_pos hc_10] at h
      refine V.sb (L' := [none, none, none, none]) ⟨Or.inl rfl, Or.inl rfl, Or.inl rfl, Or.inl rfl, trivial⟩ ?_
      exact vX5_weight_b17 hx hq h
theorem ctX5_weight (l : Launch) (D : DD) (w : Wd) (G : GT) (sz : Nat) (hR : Rp D w G sz) (a0 : Nat) (x1 : Int32) (x2 : Int32) (hl0 : zL w 5 a0 = true) {r0 : Int32} (h : fX5_weight a0 x1 x2 w = some r0) : MetI l yX5_weight (WS yX5_weight cX5_weight 4 (some .int)) rmX5_weight D [.ref a0, .int x1, .int x2] G sz r0 w := by
  refine MetI_ofV (own := RX5) (P := Rp D w) hR (by decide) rfl (by simp [Value.category]) (Nat.le_of_ble_eq_true rfl) (fun x hx hq hD hl => ?_)
  subst hD
  exact vX5_weight hx hq a0 x1 x2 hl0 h
theorem vX6_weightOf_b109 {x : CT} (hx : CX x cX6_weightOf RX6 rmX6_weightOf (some .int)) {r0 : Int32} {w : Wd} (hq : RI x rmX6_weightOf r0 w) {rec5 : Nat → Int32 → Int32 → Int32 → Int32 → Option (Int32)} {a0 : Nat} {x1 : Int32} {x2 : Int32} {x3 : Int32} {x4 : Int32} (hrec5 : ∀ (a0 : Nat) (x1 : Int32) (x2 : Int32) (x3 : Int32) (x4 : Int32), rec5 a0 x1 x2 x3 x4 = some r0 → (zL w 6 a0 = true) → V x 5 [some (.ref a0), some (.int x1), some (.int x2), some (.int x3), some (.int x4), none, none, none] [] (Rp (xD x) w) 0 0) (hl0 : zL w 6 a0 = true) (h : fX6_weightOf_b109 w rec5 a0 x1 x2 x3 x4 = some r0) : V x 109 [some (.ref a0), some (.int x1), some (.int x2), some (.int x3), some (.int x4), none, none, none] [] (Rp (xD x) w) 0 0 := by
  unfold fX6_weightOf_b109 at h
  refine v_iinc (pc' := 112) (w0 := (x4 + 1)) (L' := [some (.ref a0), some (.int x1), some (.int x2), some (.int x3), some (.int (x4 + 1)), none, none, none]) hx dX6_weightOf_109 rfl rfl rfl rfl ?_
  refine v_goto (tgt := 5) hx dX6_weightOf_112 (by decide) ?_
  exact hrec5 a0 x1 x2 x3 (x4 + 1) h hl0
theorem vX6_weightOf_b107 {x : CT} (hx : CX x cX6_weightOf RX6 rmX6_weightOf (some .int)) {r0 : Int32} {w : Wd} (hq : RI x rmX6_weightOf r0 w) {rec5 : Nat → Int32 → Int32 → Int32 → Int32 → Option (Int32)} {a0 : Nat} {x1 : Int32} {x2 : Int32} {x4 : Int32} {xs0 : Int32} {xs1 : Int32} (hrec5 : ∀ (a0 : Nat) (x1 : Int32) (x2 : Int32) (x3 : Int32) (x4 : Int32), rec5 a0 x1 x2 x3 x4 = some r0 → (zL w 6 a0 = true) → V x 5 [some (.ref a0), some (.int x1), some (.int x2), some (.int x3), some (.int x4), none, none, none] [] (Rp (xD x) w) 0 0) (hl0 : zL w 6 a0 = true) (h : fX6_weightOf_b107 w rec5 a0 x1 x2 x4 xs0 xs1 = some r0) : V x 107 [some (.ref a0), some (.int x1), some (.int x2), none, some (.int x4), none, none, none] [.int xs0, .int xs1] (Rp (xD x) w) 0 0 := by
  unfold fX6_weightOf_b107 at h
  refine v_iadd (pc' := 108) hx dX6_weightOf_107 rfl ?_
  refine v_istore_n (pc' := 109) (L' := [some (.ref a0), some (.int x1), some (.int x2), some (.int (xs1 + xs0)), some (.int x4), none, none, none]) hx dX6_weightOf_108 rfl rfl (Nat.le_of_ble_eq_true rfl) ?_
  exact vX6_weightOf_b109 hx hq hrec5 hl0 h
theorem vX6_weightOf_b96 {x : CT} (hx : CX x cX6_weightOf RX6 rmX6_weightOf (some .int)) {r0 : Int32} {w : Wd} (hq : RI x rmX6_weightOf r0 w) {rec5 : Nat → Int32 → Int32 → Int32 → Int32 → Option (Int32)} {a0 : Nat} {x1 : Int32} {x2 : Int32} {x3 : Int32} {x4 : Int32} {x5 : Int32} (hrec5 : ∀ (a0 : Nat) (x1 : Int32) (x2 : Int32) (x3 : Int32) (x4 : Int32), rec5 a0 x1 x2 x3 x4 = some r0 → (zL w 6 a0 = true) → V x 5 [some (.ref a0), some (.int x1), some (.int x2), some (.int x3), some (.int x4), none, none, none] [] (Rp (xD x) w) 0 0) (hl0 : zL w 6 a0 = true) (h : fX6_weightOf_b96 w rec5 a0 x1 x2 x3 x4 x5 = some r0) : V x 96 [some (.ref a0), some (.int x1), some (.int x2), some (.int x3), some (.int x4), some (.int x5), none, none] [] (Rp (xD x) w) 0 0 := by
  unfold fX6_weightOf_b96 at h
  refine v_iload_n (pc' := 97) hx dX6_weightOf_96 rfl rfl ?_
  refine v_iload (pc' := 99) hx dX6_weightOf_97 rfl rfl ?_
  refine v_if_eq (tgt := 106) (pc' := 102) hx dX6_weightOf_99 (by decide) rfl (fun hc_1 => ?_) (fun hc_1 => ?_)
  · rw [if_pos hc_1] at h
    refine v_iconst (pc' := 107) (v := 0) hx dX6_weightOf_106 (by decide) rfl ?_
    refine V.sb (L' := [some (.ref a0), some (.int x1), some (.int x2), none, some (.int x4), none, none, none]) ⟨Or.inr rfl, Or.inr rfl, Or.inr rfl, Or.inl rfl, Or.inr rfl, Or.inl rfl, Or.inl rfl, Or.inl rfl, trivial⟩ ?_
    exact vX6_weightOf_b107 hx hq hrec5 hl0 h
  · rw [if_neg hc_1] at h
    refine v_iconst (pc' := 103) (v := 1) hx dX6_weightOf_102 (by decide) rfl ?_
    refine v_goto (tgt := 107) hx dX6_weightOf_103 (by decide) ?_
    refine V.sb (L' := [some (.ref a0), some (.int x1), some (.int x2), none, some (.int x4), none, none, none]) ⟨Or.inr rfl, Or.inr rfl, Or.inr rfl, Or.inl rfl, Or.inr rfl, Or.inl rfl, Or.inl rfl, Or.inl rfl, trivial⟩ ?_
    exact vX6_weightOf_b107 hx hq hrec5 hl0 h
theorem vX6_weightOf_b79 {x : CT} (hx : CX x cX6_weightOf RX6 rmX6_weightOf (some .int)) {r0 : Int32} {w : Wd} (hq : RI x rmX6_weightOf r0 w) {rec5 : Nat → Int32 → Int32 → Int32 → Int32 → Option (Int32)} {rec40 : Nat → Int32 → Int32 → Int32 → Int32 → Int32 → Int32 → Int32 → Option (Int32)} {a0 : Nat} {x1 : Int32} {x2 : Int32} {x3 : Int32} {x4 : Int32} {x6 : Int32} {x7 : Int32} {xs0 : Int32} (hrec5 : ∀ (a0 : Nat) (x1 : Int32) (x2 : Int32) (x3 : Int32) (x4 : Int32), rec5 a0 x1 x2 x3 x4 = some r0 → (zL w 6 a0 = true) → V x 5 [some (.ref a0), some (.int x1), some (.int x2), some (.int x3), some (.int x4), none, none, none] [] (Rp (xD x) w) 0 0) (hrec40 : ∀ (a0 : Nat) (x1 : Int32) (x2 : Int32) (x3 : Int32) (x4 : Int32) (x5 : Int32) (x6 : Int32) (x7 : Int32), rec40 a0 x1 x2 x3 x4 x5 x6 x7 = some r0 → (zL w 6 a0 = true) → V x 40 [some (.ref a0), some (.int x1), some (.int x2), some (.int x3), some (.int x4), some (.int x5), some (.int x6), some (.int x7)] [] (Rp (xD x) w) 0 0) (hl0 : zL w 6 a0 = true) (h : fX6_weightOf_b79 w rec5 rec40 a0 x1 x2 x3 x4 x6 x7 xs0 = some r0) : V x 79 [some (.ref a0), some (.int x1), some (.int x2), some (.int x3), some (.int x4), none, some (.int x6), some (.int x7)] [.int xs0] (Rp (xD x) w) 0 0 := by
  unfold fX6_weightOf_b79 at h
  refine v_istore (pc' := 81) (L' := [some (.ref a0), some (.int x1), some (.int x2), some (.int x3), some (.int x4), some (.int xs0), some (.int x6), some (.int x7)]) hx dX6_weightOf_79 rfl rfl (Nat.le_of_ble_eq_true rfl) ?_
  refine v_aload_n (pc' := 82) hx dX6_weightOf_81 rfl rfl ?_
  refine v_iload_n (pc' := 83) hx dX6_weightOf_82 rfl rfl ?_
  refine v_iload (pc' := 85) hx dX6_weightOf_83 rfl rfl ?_
  replace h := bd_inv h; obtain ⟨y_2, hcl_1, h⟩ := h
  refine v_callVi (pc' := 88) (w' := w) (r := y_2) (ci := 6) (b := a0) (As := [.int x1, .int x6]) (rest := []) hx hl0 (fun G sz hR => ctX6_next (xl x) (xD x) w G sz hR a0 x1 x6 hl0 hcl_1) rfl my_X6_next ml_X6_156 ⟨by decide, by decide⟩ ⟨by decide, by decide⟩ rfl rfl (Nat.le_of_ble_eq_true rfl) dX6_weightOf_85 rfl ?_
  refine v_istore (pc' := 90) (L' := [some (.ref a0), some (.int x1), some (.int x2), some (.int x3), some (.int x4), some (.int xs0), some (.int y_2), some (.int x7)]) hx dX6_weightOf_88 rfl rfl (Nat.le_of_ble_eq_true rfl) ?_
  refine v_iinc (pc' := 93) (w0 := (x7 + 1)) (L' := [some (.ref a0), some (.int x1), some (.int x2), some (.int x3), some (.int x4), some (.int xs0), some (.int y_2), some (.int (x7 + 1))]) hx dX6_weightOf_90 rfl rfl rfl rfl ?_
  refine v_goto (tgt := 40) hx dX6_weightOf_93 (by decide) ?_
  exact hrec40 a0 x1 x2 x3 x4 xs0 y_2 (x7 + 1) h hl0
theorem vX6_weightOf_b74 {x : CT} (hx : CX x cX6_weightOf RX6 rmX6_weightOf (some .int)) {r0 : Int32} {w : Wd} (hq : RI x rmX6_weightOf r0 w) {rec5 : Nat → Int32 → Int32 → Int32 → Int32 → Option (Int32)} {rec40 : Nat → Int32 → Int32 → Int32 → Int32 → Int32 → Int32 → Int32 → Option (Int32)} {a0 : Nat} {x1 : Int32} {x2 : Int32} {x3 : Int32} {x4 : Int32} {x6 : Int32} {x7 : Int32} (hrec5 : ∀ (a0 : Nat) (x1 : Int32) (x2 : Int32) (x3 : Int32) (x4 : Int32), rec5 a0 x1 x2 x3 x4 = some r0 → (zL w 6 a0 = true) → V x 5 [some (.ref a0), some (.int x1), some (.int x2), some (.int x3), some (.int x4), none, none, none] [] (Rp (xD x) w) 0 0) (hrec40 : ∀ (a0 : Nat) (x1 : Int32) (x2 : Int32) (x3 : Int32) (x4 : Int32) (x5 : Int32) (x6 : Int32) (x7 : Int32), rec40 a0 x1 x2 x3 x4 x5 x6 x7 = some r0 → (zL w 6 a0 = true) → V x 40 [some (.ref a0), some (.int x1), some (.int x2), some (.int x3), some (.int x4), some (.int x5), some (.int x6), some (.int x7)] [] (Rp (xD x) w) 0 0) (hl0 : zL w 6 a0 = true) (h : fX6_weightOf_b74 w rec5 rec40 a0 x1 x2 x3 x4 x6 x7 = some r0) : V x 74 [some (.ref a0), some (.int x1), some (.int x2), some (.int x3), some (.int x4), none, some (.int x6), some (.int x7)] [] (Rp (xD x) w) 0 0 := by
  unfold fX6_weightOf_b74 at h
  refine v_iconst (pc' := 75) (v := 1) hx dX6_weightOf_74 (by decide) rfl ?_
  refine v_goto (tgt := 79) hx dX6_weightOf_75 (by decide) ?_
  exact vX6_weightOf_b79 hx hq hrec5 hrec40 hl0 h
theorem vX6_weightOf_b40 {x : CT} (hx : CX x cX6_weightOf RX6 rmX6_weightOf (some .int)) {r0 : Int32} {w : Wd} (hq : RI x rmX6_weightOf r0 w) {rec5 : Nat → Int32 → Int32 → Int32 → Int32 → Option (Int32)} {rec40 : Nat → Int32 → Int32 → Int32 → Int32 → Int32 → Int32 → Int32 → Option (Int32)} {a0 : Nat} {x1 : Int32} {x2 : Int32} {x3 : Int32} {x4 : Int32} {x5 : Int32} {x6 : Int32} {x7 : Int32} (hrec5 : ∀ (a0 : Nat) (x1 : Int32) (x2 : Int32) (x3 : Int32) (x4 : Int32), rec5 a0 x1 x2 x3 x4 = some r0 → (zL w 6 a0 = true) → V x 5 [some (.ref a0), some (.int x1), some (.int x2), some (.int x3), some (.int x4), none, none, none] [] (Rp (xD x) w) 0 0) (hrec40 : ∀ (a0 : Nat) (x1 : Int32) (x2 : Int32) (x3 : Int32) (x4 : Int32) (x5 : Int32) (x6 : Int32) (x7 : Int32), rec40 a0 x1 x2 x3 x4 x5 x6 x7 = some r0 → (zL w 6 a0 = true) → V x 40 [some (.ref a0), some (.int x1), some (.int x2), some (.int x3), some (.int x4), some (.int x5), some (.int x6), some (.int x7)] [] (Rp (xD x) w) 0 0) (hl0 : zL w 6 a0 = true) (h : fX6_weightOf_b40 w rec5 rec40 a0 x1 x2 x3 x4 x5 x6 x7 = some r0) : V x 40 [some (.ref a0), some (.int x1), some (.int x2), some (.int x3), some (.int x4), some (.int x5), some (.int x6), some (.int x7)] [] (Rp (xD x) w) 0 0 := by
  unfold fX6_weightOf_b40 at h
  refine v_iload (pc' := 42) hx dX6_weightOf_40 rfl rfl ?_
  refine v_bipush (pc' := 44) (v := 24) hx dX6_weightOf_42 (by decide) rfl ?_
  refine v_icmp_gt (tgt := 96) (pc' := 47) hx dX6_weightOf_44 (by decide) rfl (fun hc_1 => ?_) (fun hc_1 => ?_)
  · rw [if_pos hc_1] at h
    refine V.sb (L' := [some (.ref a0), some (.int x1), some (.int x2), some (.int x3), some (.int x4), some (.int x5), none, none]) ⟨Or.inr rfl, Or.inr rfl, Or.inr rfl, Or.inr rfl, Or.inr rfl, Or.inr rfl, Or.inl rfl, Or.inl rfl, trivial⟩ ?_
    exact vX6_weightOf_b96 hx hq hrec5 hl0 h
  · rw [if_neg hc_1] at h
    refine v_iload (pc' := 49) hx dX6_weightOf_47 rfl rfl ?_
    refine v_iconst (pc' := 50) (v := (-1)) hx dX6_weightOf_49 (by decide) rfl ?_
    refine v_icmp_eq (tgt := 96) (pc' := 53) hx dX6_weightOf_50 (by decide) rfl (fun hc_2 => ?_) (fun hc_2 => ?_)
    · rw [if_pos hc_2] at h
      refine V.sb (L' := [some (.ref a0), some (.int x1), some (.int x2), some (.int x3), some (.int x4), some (.int x5), none, none]) ⟨Or.inr rfl, Or.inr rfl, Or.inr rfl, Or.inr rfl, Or.inr rfl, Or.inr rfl, Or.inl rfl, Or.inl rfl, trivial⟩ ?_
      exact vX6_weightOf_b96 hx hq hrec5 hl0 h
    · rw [if_neg hc_2] at h
      refine v_iload (pc' := 55) hx dX6_weightOf_53 rfl rfl ?_
      refine v_if_ne (tgt := 74) (pc' := 58) hx dX6_weightOf_55 (by decide) rfl (fun hc_3 => ?_) (fun hc_3 => ?_)
      · rw [if_neg hc_3] at h
        refine V.sb (L' := [some (.ref a0), some (.int x1), some (.int x2), some (.int x3), some (.int x4), none, some (.int x6), some (.int x7)]) ⟨Or.inr rfl, Or.inr rfl, Or.inr rfl, Or.inr rfl, Or.inr rfl, Or.inl rfl, Or.inr rfl, Or.inr rfl, trivial⟩ ?_
        exact vX6_weightOf_b74 hx hq hrec5 hrec40 hl0 h
      · rw [if_pos hc_3] at h
        refine v_aload_n (pc' := 59) hx dX6_weightOf_58 rfl rfl ?_
        obtain ⟨g_4, hq_5⟩ : ∃ q, zA w 6 a0 11 = q := ⟨_, rfl⟩
        refine v_getAq (pc' := 62) hx hl0 fi_6_11.1 (by decide) hq_5 fk_X6_40 dX6_weightOf_59 rfl ?_
        refine v_bipush (pc' := 64) (v := 24) hx dX6_weightOf_62 (by decide) rfl ?_
        refine v_iload_n (pc' := 65) hx dX6_weightOf_64 rfl rfl ?_
        refine v_imul (pc' := 66) hx dX6_weightOf_65 rfl ?_
        refine v_iload (pc' := 68) hx dX6_weightOf_66 rfl rfl ?_
        refine v_iadd (pc' := 69) hx dX6_weightOf_68 rfl ?_
        replace h := ckp_inv h; obtain ⟨hk_6, h⟩ := h
        refine v_ialdq (pc' := 70) hx hl0 fi_6_11.1 fi_6_11.2.1 rfl hk_6 hq_5 dX6_weightOf_69 rfl ?_
        refine v_iload_n (pc' := 71) hx dX6_weightOf_70 rfl rfl ?_
        refine v_icmp_ne (tgt := 78) (pc' := 74) hx dX6_weightOf_71 (by decide) rfl (fun hc_7 => ?_) (fun hc_7 => ?_)
        · rw [if_neg hc_7] at h
          refine v_iconst (pc' := 79) (v := 0) hx dX6_weightOf_78 (by decide) rfl ?_
          refine V.sb (L' := [some (.ref a0), some (.int x1), some (.int x2), some (.int x3), some (.int x4), none, some (.int x6), some (.int x7)]) ⟨Or.inr rfl, Or.inr rfl, Or.inr rfl, Or.inr rfl, Or.inr rfl, Or.inl rfl, Or.inr rfl, Or.inr rfl, trivial⟩ ?_
          exact vX6_weightOf_b79 hx hq hrec5 hrec40 hl0 h
        · rw [if_pos hc_7] at h
          refine V.sb (L' := [some (.ref a0), some (.int x1), some (.int x2), some (.int x3), some (.int x4), none, some (.int x6), some (.int x7)]) ⟨Or.inr rfl, Or.inr rfl, Or.inr rfl, Or.inr rfl, Or.inr rfl, Or.inl rfl, Or.inr rfl, Or.inr rfl, trivial⟩ ?_
          exact vX6_weightOf_b74 hx hq hrec5 hrec40 hl0 h
theorem vX6_weightOf_l40 {x : CT} (hx : CX x cX6_weightOf RX6 rmX6_weightOf (some .int)) {r0 : Int32} {w : Wd} (hq : RI x rmX6_weightOf r0 w) {rec5 : Nat → Int32 → Int32 → Int32 → Int32 → Option (Int32)} (hrec5 : ∀ (a0 : Nat) (x1 : Int32) (x2 : Int32) (x3 : Int32) (x4 : Int32), rec5 a0 x1 x2 x3 x4 = some r0 → (zL w 6 a0 = true) → V x 5 [some (.ref a0), some (.int x1), some (.int x2), some (.int x3), some (.int x4), none, none, none] [] (Rp (xD x) w) 0 0) : ∀ (n : Nat) (a0 : Nat) (x1 : Int32) (x2 : Int32) (x3 : Int32) (x4 : Int32) (x5 : Int32) (x6 : Int32) (x7 : Int32), (zL w 6 a0 = true) → fX6_weightOf_l40 w rec5 n a0 x1 x2 x3 x4 x5 x6 x7 = some r0 → V x 40 [some (.ref a0), some (.int x1), some (.int x2), some (.int x3), some (.int x4), some (.int x5), some (.int x6), some (.int x7)] [] (Rp (xD x) w) 0 0 := by
  intro n
  induction n with
  | zero => intro a0 x1 x2 x3 x4 x5 x6 x7 hl0 h; cases h
  | succ n ih =>
    intro a0 x1 x2 x3 x4 x5 x6 x7 hl0 h
    exact vX6_weightOf_b40 hx hq hrec5 (fun a0 x1 x2 x3 x4 x5 x6 x7 h hl0 => ih a0 x1 x2 x3 x4 x5 x6 x7 hl0 h) hl0 h
theorem vX6_weightOf_b5 {x : CT} (hx : CX x cX6_weightOf RX6 rmX6_weightOf (some .int)) {r0 : Int32} {w : Wd} (hq : RI x rmX6_weightOf r0 w) {rec5 : Nat → Int32 → Int32 → Int32 → Int32 → Option (Int32)} {a0 : Nat} {x1 : Int32} {x2 : Int32} {x3 : Int32} {x4 : Int32} (hrec5 : ∀ (a0 : Nat) (x1 : Int32) (x2 : Int32) (x3 : Int32) (x4 : Int32), rec5 a0 x1 x2 x3 x4 = some r0 → (zL w 6 a0 = true) → V x 5 [some (.ref a0), some (.int x1), some (.int x2), some (.int x3), some (.int x4), none, none, none] [] (Rp (xD x) w) 0 0) (hl0 : zL w 6 a0 = true) (h : fX6_weightOf_b5 w rec5 a0 x1 x2 x3 x4 = some r0) : V x 5 [some (.ref a0), some (.int x1), some (.int x2), some (.int x3), some (.int x4), none, none, none] [] (Rp (xD x) w) 0 0 := by
  unfold fX6_weightOf_b5 at h
  refine v_iload (pc' := 7) hx dX6_weightOf_5 rfl rfl ?_
  refine v_bipush (pc' := 9) (v := 24) hx dX6_weightOf_7 (by decide) rfl ?_
  refine v_icmp_ge (tgt := 115) (pc' := 12) hx dX6_weightOf_9 (by decide) rfl (fun hc_1 => ?_) (fun hc_1 => ?_)
  · rw [if_pos hc_1] at h
    refine v_iload_n (pc' := 116) hx dX6_weightOf_115 rfl rfl ?_
    exact v_iret hx hq (by decide) (by decide) dX6_weightOf_116 (by cases h; rfl)
  · rw [if_neg hc_1] at h
    refine v_aload_n (pc' := 13) hx dX6_weightOf_12 rfl rfl ?_
    obtain ⟨g_2, hq_3⟩ : ∃ q, zA w 6 a0 7 = q := ⟨_, rfl⟩
    refine v_getAq (pc' := 16) hx hl0 fi_6_7.1 (by decide) hq_3 fk_X6_27 dX6_weightOf_13 rfl ?_
    refine v_bipush (pc' := 18) (v := 24) hx dX6_weightOf_16 (by decide) rfl ?_
    refine v_iload_n (pc' := 19) hx dX6_weightOf_18 rfl rfl ?_
    refine v_imul (pc' := 20) hx dX6_weightOf_19 rfl ?_
    refine v_iload (pc' := 22) hx dX6_weightOf_20 rfl rfl ?_
    refine v_iadd (pc' := 23) hx dX6_weightOf_22 rfl ?_
    replace h := ckp_inv h; obtain ⟨hk_4, h⟩ := h
    refine v_zaldq (pc' := 24) hx hl0 fi_6_7.1 fi_6_7.2.1 rfl hk_4 hq_3 dX6_weightOf_23 rfl ?_
    refine v_if_ne (tgt := 30) (pc' := 27) hx dX6_weightOf_24 (by decide) rfl (fun hc_5 => ?_) (fun hc_5 => ?_)
    · rw [if_neg hc_5] at h
      refine v_iconst (pc' := 31) (v := 0) hx dX6_weightOf_30 (by decide) rfl ?_
      refine v_istore (pc' := 33) (L' := [some (.ref a0), some (.int x1), some (.int x2), some (.int x3), some (.int x4), some (.int 0), none, none]) hx dX6_weightOf_31 rfl rfl (Nat.le_of_ble_eq_true rfl) ?_
      refine v_iload (pc' := 35) hx dX6_weightOf_33 rfl rfl ?_
      refine v_istore (pc' := 37) (L' := [some (.ref a0), some (.int x1), some (.int x2), some (.int x3), some (.int x4), some (.int 0), some (.int x4), none]) hx dX6_weightOf_35 rfl rfl (Nat.le_of_ble_eq_true rfl) ?_
      refine v_iconst (pc' := 38) (v := 0) hx dX6_weightOf_37 (by decide) rfl ?_
      refine v_istore (pc' := 40) (L' := [some (.ref a0), some (.int x1), some (.int x2), some (.int x3), some (.int x4), some (.int 0), some (.int x4), some (.int 0)]) hx dX6_weightOf_38 rfl rfl (Nat.le_of_ble_eq_true rfl) ?_
      exact vX6_weightOf_l40 hx hq hrec5 1000 a0 x1 x2 x3 x4 0 x4 0 hl0 h
    · rw [if_pos hc_5] at h
      refine v_goto (tgt := 109) hx dX6_weightOf_27 (by decide) ?_
      exact vX6_weightOf_b109 hx hq hrec5 hl0 h
theorem vX6_weightOf_l5 {x : CT} (hx : CX x cX6_weightOf RX6 rmX6_weightOf (some .int)) {r0 : Int32} {w : Wd} (hq : RI x rmX6_weightOf r0 w) : ∀ (n : Nat) (a0 : Nat) (x1 : Int32) (x2 : Int32) (x3 : Int32) (x4 : Int32), (zL w 6 a0 = true) → fX6_weightOf_l5 w n a0 x1 x2 x3 x4 = some r0 → V x 5 [some (.ref a0), some (.int x1), some (.int x2), some (.int x3), some (.int x4), none, none, none] [] (Rp (xD x) w) 0 0 := by
  intro n
  induction n with
  | zero => intro a0 x1 x2 x3 x4 hl0 h; cases h
  | succ n ih =>
    intro a0 x1 x2 x3 x4 hl0 h
    exact vX6_weightOf_b5 hx hq  (fun a0 x1 x2 x3 x4 h hl0 => ih a0 x1 x2 x3 x4 hl0 h) hl0 h
theorem vX6_weightOf {x : CT} (hx : CX x cX6_weightOf RX6 rmX6_weightOf (some .int)) {r0 : Int32} {w : Wd} (hq : RI x rmX6_weightOf r0 w) (a0 : Nat) (x1 : Int32) (x2 : Int32) (hl0 : zL w 6 a0 = true) (h : fX6_weightOf a0 x1 x2 w = some r0) : V x 0 [some (.ref a0), some (.int x1), some (.int x2), none, none, none, none, none] [] (Rp (xD x) w) 0 0 := by
  unfold fX6_weightOf at h
  refine v_iconst (pc' := 1) (v := 0) hx dX6_weightOf_0 (by decide) rfl ?_
  refine v_istore_n (pc' := 2) (L' := [some (.ref a0), some (.int x1), some (.int x2), some (.int 0), none, none, none, none]) hx dX6_weightOf_1 rfl rfl (Nat.le_of_ble_eq_true rfl) ?_
  refine v_iconst (pc' := 3) (v := 0) hx dX6_weightOf_2 (by decide) rfl ?_
  refine v_istore (pc' := 5) (L' := [some (.ref a0), some (.int x1), some (.int x2), some (.int 0), some (.int 0), none, none, none]) hx dX6_weightOf_3 rfl rfl (Nat.le_of_ble_eq_true rfl) ?_
  exact vX6_weightOf_l5 hx hq 1000 a0 x1 x2 0 0 hl0 h
theorem ctX6_weightOf (l : Launch) (D : DD) (w : Wd) (G : GT) (sz : Nat) (hR : Rp D w G sz) (a0 : Nat) (x1 : Int32) (x2 : Int32) (hl0 : zL w 6 a0 = true) {r0 : Int32} (h : fX6_weightOf a0 x1 x2 w = some r0) : MetI l yX6_weightOf (WS yX6_weightOf cX6_weightOf 8 (some .int)) rmX6_weightOf D [.ref a0, .int x1, .int x2] G sz r0 w := by
  refine MetI_ofV (own := RX6) (P := Rp D w) hR (by decide) rfl (by simp [Value.category]) (Nat.le_of_ble_eq_true rfl) (fun x hx hq hD hl => ?_)
  subst hD
  exact vX6_weightOf hx hq a0 x1 x2 hl0 h
theorem vX6_weight_b28 {x : CT} (hx : CX x cX6_weight RX6 rmX6_weight (some .int)) {r0 : Int32} {w : Wd} (hq : RI x rmX6_weight r0 w) {xs0 : Int32} (h : fX6_weight_b28 w xs0 = some r0) : V x 28 [none, none, none] [.int xs0] (Rp (xD x) w) 0 0 := by
  unfold fX6_weight_b28 at h
  exact v_iret hx hq (by decide) (by decide) dX6_weight_28 (by cases h; rfl)
theorem vX6_weight_b27 {x : CT} (hx : CX x cX6_weight RX6 rmX6_weight (some .int)) {r0 : Int32} {w : Wd} (hq : RI x rmX6_weight r0 w) (h : fX6_weight_b27 w = some r0) : V x 27 [none, none, none] [] (Rp (xD x) w) 0 0 := by
  unfold fX6_weight_b27 at h
  refine v_iconst (pc' := 28) (v := (-1)) hx dX6_weight_27 (by decide) rfl ?_
  exact vX6_weight_b28 hx hq h
theorem vX6_weight {x : CT} (hx : CX x cX6_weight RX6 rmX6_weight (some .int)) {r0 : Int32} {w : Wd} (hq : RI x rmX6_weight r0 w) (a0 : Nat) (x1 : Int32) (x2 : Int32) (hl0 : zL w 6 a0 = true) (h : fX6_weight a0 x1 x2 w = some r0) : V x 0 [some (.ref a0), some (.int x1), some (.int x2)] [] (Rp (xD x) w) 0 0 := by
  unfold fX6_weight at h
  refine v_aload_n (pc' := 1) hx dX6_weight_0 rfl rfl ?_
  refine v_iload_n (pc' := 2) hx dX6_weight_1 rfl rfl ?_
  replace h := bd_inv h; obtain ⟨y_2, hcl_1, h⟩ := h
  refine v_callVi (pc' := 5) (w' := w) (r := y_2) (ci := 6) (b := a0) (As := [.int x1]) (rest := []) hx hl0 (fun G sz hR => ctX6_isPicture (xl x) (xD x) w G sz hR a0 x1 hl0 hcl_1) rfl my_X6_isPicture ml_X6_145 ⟨by decide, by decide⟩ ⟨by decide, by decide⟩ rfl rfl (Nat.le_of_ble_eq_true rfl) dX6_weight_2 rfl ?_
  refine v_if_eq (tgt := 27) (pc' := 8) hx dX6_weight_5 (by decide) rfl (fun hc_4 => ?_) (fun hc_4 => ?_)
  · rw [if_pos hc_4] at h
    refine V.sb (L' := [none, none, none]) ⟨Or.inl rfl, Or.inl rfl, Or.inl rfl, trivial⟩ ?_
    exact vX6_weight_b27 hx hq h
  · rw [if_neg hc_4] at h
    refine v_iload_n (pc' := 9) hx dX6_weight_8 rfl rfl ?_
    refine v_iconst (pc' := 10) (v := 0) hx dX6_weight_9 (by decide) rfl ?_
    refine v_bipush (pc' := 12) (v := 15) hx dX6_weight_10 (by decide) rfl ?_
    replace h := bd_inv h; obtain ⟨y_6, hcl_5, h⟩ := h
    refine v_callSi (pc' := 15) (w' := w) (r := y_6) (As := [.int x2, .int 0, .int 15]) (rest := []) hx (fun G sz hR => ctX6_lies (xl x) (xD x) w G sz hR x2 0 15  hcl_5) my_X6_lies ml_X6_84 ⟨by decide, by decide⟩ ⟨by decide, by decide⟩ rfl rfl (Nat.le_of_ble_eq_true rfl) dX6_weight_12 rfl ?_
    refine v_if_eq (tgt := 27) (pc' := 18) hx dX6_weight_15 (by decide) rfl (fun hc_8 => ?_) (fun hc_8 => ?_)
    · rw [if_pos hc_8] at h
      refine V.sb (L' := [none, none, none]) ⟨Or.inl rfl, Or.inl rfl, Or.inl rfl, trivial⟩ ?_
      exact vX6_weight_b27 hx hq h
    · rw [if_neg hc_8] at h
      refine v_aload_n (pc' := 19) hx dX6_weight_18 rfl rfl ?_
      refine v_iload_n (pc' := 20) hx dX6_weight_19 rfl rfl ?_
      refine v_iload_n (pc' := 21) hx dX6_weight_20 rfl rfl ?_
      replace h := bd_inv h; obtain ⟨y_10, hcl_9, h⟩ := h
      refine v_callVi (pc' := 24) (w' := w) (r := y_10) (ci := 6) (b := a0) (As := [.int x1, .int x2]) (rest := []) hx hl0 (fun G sz hR => ctX6_weightOf (xl x) (xD x) w G sz hR a0 x1 x2 hl0 hcl_9) rfl my_X6_weightOf ml_X6_172 ⟨by decide, by decide⟩ ⟨by decide, by decide⟩ rfl rfl (Nat.le_of_ble_eq_true rfl) dX6_weight_21 rfl ?_
      refine v_goto (tgt := 28) hx dX6_weight_24 (by decide) ?_
      refine V.sb (L' := [none, none, none]) ⟨Or.inl rfl, Or.inl rfl, Or.inl rfl, trivial⟩ ?_
      exact vX6_weight_b28 hx hq h
theorem ctX6_weight (l : Launch) (D : DD) (w : Wd) (G : GT) (sz : Nat) (hR : Rp D w G sz) (a0 : Nat) (x1 : Int32) (x2 : Int32) (hl0 : zL w 6 a0 = true) {r0 : Int32} (h : fX6_weight a0 x1 x2 w = some r0) : MetI l yX6_weight (WS yX6_weight cX6_weight 3 (some .int)) rmX6_weight D [.ref a0, .int x1, .int x2] G sz r0 w := by
  refine MetI_ofV (own := RX6) (P := Rp D w) hR (by decide) rfl (by simp [Value.category]) (Nat.le_of_ble_eq_true rfl) (fun x hx hq hD hl => ?_)
  subst hD
  exact vX6_weight hx hq a0 x1 x2 hl0 h
theorem vX1_guiltyLock_b30 {x : CT} (hx : CX x cX1_guiltyLock RX1 rmX1_guiltyLock (some .int)) {r0 : Int32} {w : Wd} (hq : RI x rmX1_guiltyLock r0 w) {rec6 : Nat → Int32 → Int32 → Int32 → Option (Int32)} {a0 : Nat} {x1 : Int32} {x2 : Int32} {x3 : Int32} (hrec6 : ∀ (a0 : Nat) (x1 : Int32) (x2 : Int32) (x3 : Int32), rec6 a0 x1 x2 x3 = some r0 → (zL w 1 a0 = true) → V x 6 [some (.ref a0), some (.int x1), some (.int x2), some (.int x3), none] [] (Rp (xD x) w) 0 0) (hl0 : zL w 1 a0 = true) (h : fX1_guiltyLock_b30 w rec6 a0 x1 x2 x3 = some r0) : V x 30 [some (.ref a0), some (.int x1), some (.int x2), some (.int x3), none] [] (Rp (xD x) w) 0 0 := by
  unfold fX1_guiltyLock_b30 at h
  refine v_iinc (pc' := 33) (w0 := (x3 + 1)) (L' := [some (.ref a0), some (.int x1), some (.int x2), some (.int (x3 + 1)), none]) hx dX1_guiltyLock_30 rfl rfl rfl rfl ?_
  refine v_goto (tgt := 6) hx dX1_guiltyLock_33 (by decide) ?_
  exact hrec6 a0 x1 x2 (x3 + 1) h hl0
theorem vX1_guiltyLock_b6 {x : CT} (hx : CX x cX1_guiltyLock RX1 rmX1_guiltyLock (some .int)) {r0 : Int32} {w : Wd} (hq : RI x rmX1_guiltyLock r0 w) {rec6 : Nat → Int32 → Int32 → Int32 → Option (Int32)} {a0 : Nat} {x1 : Int32} {x2 : Int32} {x3 : Int32} (hrec6 : ∀ (a0 : Nat) (x1 : Int32) (x2 : Int32) (x3 : Int32), rec6 a0 x1 x2 x3 = some r0 → (zL w 1 a0 = true) → V x 6 [some (.ref a0), some (.int x1), some (.int x2), some (.int x3), none] [] (Rp (xD x) w) 0 0) (hl0 : zL w 1 a0 = true) (h : fX1_guiltyLock_b6 w rec6 a0 x1 x2 x3 = some r0) : V x 6 [some (.ref a0), some (.int x1), some (.int x2), some (.int x3), none] [] (Rp (xD x) w) 0 0 := by
  unfold fX1_guiltyLock_b6 at h
  refine v_iload_n (pc' := 7) hx dX1_guiltyLock_6 rfl rfl ?_
  refine v_bipush (pc' := 9) (v := 16) hx dX1_guiltyLock_7 (by decide) rfl ?_
  refine v_icmp_ge (tgt := 36) (pc' := 12) hx dX1_guiltyLock_9 (by decide) rfl (fun hc_1 => ?_) (fun hc_1 => ?_)
  · rw [if_pos hc_1] at h
    refine v_iload_n (pc' := 37) hx dX1_guiltyLock_36 rfl rfl ?_
    exact v_iret hx hq (by decide) (by decide) dX1_guiltyLock_37 (by cases h; rfl)
  · rw [if_neg hc_1] at h
    refine v_aload_n (pc' := 13) hx dX1_guiltyLock_12 rfl rfl ?_
    refine v_iload_n (pc' := 14) hx dX1_guiltyLock_13 rfl rfl ?_
    replace h := bd_inv h; obtain ⟨y_3, hcl_2, h⟩ := h
    refine v_callVi (pc' := 17) (w' := w) (r := y_3) (ci := 1) (b := a0) (As := [.int x3]) (rest := []) hx hl0 (fun G sz hR => ctX1_countThroughLock (xl x) (xD x) w G sz hR a0 x3 hl0 hcl_2) rfl my_X1_countThroughLock ml_X1_108 ⟨by decide, by decide⟩ ⟨by decide, by decide⟩ rfl rfl (Nat.le_of_ble_eq_true rfl) dX1_guiltyLock_14 rfl ?_
    refine v_istore (pc' := 19) (L' := [some (.ref a0), some (.int x1), some (.int x2), some (.int x3), some (.int y_3)]) hx dX1_guiltyLock_17 rfl rfl (Nat.le_of_ble_eq_true rfl) ?_
    refine v_iload (pc' := 21) hx dX1_guiltyLock_19 rfl rfl ?_
    refine v_iload_n (pc' := 22) hx dX1_guiltyLock_21 rfl rfl ?_
    refine v_icmp_le (tgt := 30) (pc' := 25) hx dX1_guiltyLock_22 (by decide) rfl (fun hc_5 => ?_) (fun hc_5 => ?_)
    · rw [if_pos hc_5] at h
      refine V.sb (L' := [some (.ref a0), some (.int x1), some (.int x2), some (.int x3), none]) ⟨Or.inr rfl, Or.inr rfl, Or.inr rfl, Or.inr rfl, Or.inl rfl, trivial⟩ ?_
      exact vX1_guiltyLock_b30 hx hq hrec6 hl0 h
    · rw [if_neg hc_5] at h
      refine v_iload_n (pc' := 26) hx dX1_guiltyLock_25 rfl rfl ?_
      refine v_istore_n (pc' := 27) (L' := [some (.ref a0), some (.int x3), some (.int x2), some (.int x3), some (.int y_3)]) hx dX1_guiltyLock_26 rfl rfl (Nat.le_of_ble_eq_true rfl) ?_
      refine v_iload (pc' := 29) hx dX1_guiltyLock_27 rfl rfl ?_
      refine v_istore_n (pc' := 30) (L' := [some (.ref a0), some (.int x3), some (.int y_3), some (.int x3), some (.int y_3)]) hx dX1_guiltyLock_29 rfl rfl (Nat.le_of_ble_eq_true rfl) ?_
      refine V.sb (L' := [some (.ref a0), some (.int x3), some (.int y_3), some (.int x3), none]) ⟨Or.inr rfl, Or.inr rfl, Or.inr rfl, Or.inr rfl, Or.inl rfl, trivial⟩ ?_
      exact vX1_guiltyLock_b30 hx hq hrec6 hl0 h
theorem vX1_guiltyLock_l6 {x : CT} (hx : CX x cX1_guiltyLock RX1 rmX1_guiltyLock (some .int)) {r0 : Int32} {w : Wd} (hq : RI x rmX1_guiltyLock r0 w) : ∀ (n : Nat) (a0 : Nat) (x1 : Int32) (x2 : Int32) (x3 : Int32), (zL w 1 a0 = true) → fX1_guiltyLock_l6 w n a0 x1 x2 x3 = some r0 → V x 6 [some (.ref a0), some (.int x1), some (.int x2), some (.int x3), none] [] (Rp (xD x) w) 0 0 := by
  intro n
  induction n with
  | zero => intro a0 x1 x2 x3 hl0 h; cases h
  | succ n ih =>
    intro a0 x1 x2 x3 hl0 h
    exact vX1_guiltyLock_b6 hx hq  (fun a0 x1 x2 x3 h hl0 => ih a0 x1 x2 x3 hl0 h) hl0 h
theorem vX1_guiltyLock {x : CT} (hx : CX x cX1_guiltyLock RX1 rmX1_guiltyLock (some .int)) {r0 : Int32} {w : Wd} (hq : RI x rmX1_guiltyLock r0 w) (a0 : Nat) (hl0 : zL w 1 a0 = true) (h : fX1_guiltyLock a0 w = some r0) : V x 0 [some (.ref a0), none, none, none, none] [] (Rp (xD x) w) 0 0 := by
  unfold fX1_guiltyLock at h
  refine v_iconst (pc' := 1) (v := (-1)) hx dX1_guiltyLock_0 (by decide) rfl ?_
  refine v_istore_n (pc' := 2) (L' := [some (.ref a0), some (.int (-1)), none, none, none]) hx dX1_guiltyLock_1 rfl rfl (Nat.le_of_ble_eq_true rfl) ?_
  refine v_iconst (pc' := 3) (v := 0) hx dX1_guiltyLock_2 (by decide) rfl ?_
  refine v_istore_n (pc' := 4) (L' := [some (.ref a0), some (.int (-1)), some (.int 0), none, none]) hx dX1_guiltyLock_3 rfl rfl (Nat.le_of_ble_eq_true rfl) ?_
  refine v_iconst (pc' := 5) (v := 0) hx dX1_guiltyLock_4 (by decide) rfl ?_
  refine v_istore_n (pc' := 6) (L' := [some (.ref a0), some (.int (-1)), some (.int 0), some (.int 0), none]) hx dX1_guiltyLock_5 rfl rfl (Nat.le_of_ble_eq_true rfl) ?_
  exact vX1_guiltyLock_l6 hx hq 1000 a0 (-1) 0 0 hl0 h
theorem ctX1_guiltyLock (l : Launch) (D : DD) (w : Wd) (G : GT) (sz : Nat) (hR : Rp D w G sz) (a0 : Nat) (hl0 : zL w 1 a0 = true) {r0 : Int32} (h : fX1_guiltyLock a0 w = some r0) : MetI l yX1_guiltyLock (WS yX1_guiltyLock cX1_guiltyLock 5 (some .int)) rmX1_guiltyLock D [.ref a0] G sz r0 w := by
  refine MetI_ofV (own := RX1) (P := Rp D w) hR (by decide) rfl (by simp [Value.category]) (Nat.le_of_ble_eq_true rfl) (fun x hx hq hD hl => ?_)
  subst hD
  exact vX1_guiltyLock hx hq a0 hl0 h
theorem vX5_guilty_b18 {x : CT} (hx : CX x cX5_guilty RX5 rmX5_guilty (some .int)) {r0 : Int32} {w : Wd} (hq : RI x rmX5_guilty r0 w) {xs0 : Int32} (h : fX5_guilty_b18 w xs0 = some r0) : V x 18 [none, none, none] [.int xs0] (Rp (xD x) w) 0 0 := by
  unfold fX5_guilty_b18 at h
  exact v_iret hx hq (by decide) (by decide) dX5_guilty_18 (by cases h; rfl)
theorem vX5_guilty {x : CT} (hx : CX x cX5_guilty RX5 rmX5_guilty (some .int)) {r0 : Int32} {w : Wd} (hq : RI x rmX5_guilty r0 w) (a0 : Nat) (x1 : Int32) (hl0 : zL w 5 a0 = true) (h : fX5_guilty a0 x1 w = some r0) : V x 0 [some (.ref a0), some (.int x1), none] [] (Rp (xD x) w) 0 0 := by
  unfold fX5_guilty at h
  refine v_aload_n (pc' := 1) hx dX5_guilty_0 rfl rfl ?_
  refine v_iload_n (pc' := 2) hx dX5_guilty_1 rfl rfl ?_
  replace h := bd_inv h; obtain ⟨u_2, hcl_1, h⟩ := h
  refine v_callVq (pc' := 5) (w' := w) (q := u_2) (ci := 5) (b := a0) (As := [.int x1]) (rest := []) hx hl0 (fun G sz hR => ctX5_pictureAt (xl x) (xD x) w G sz hR a0 x1 hl0 hcl_1) rfl my_X5_pictureAt ml_X5_74 ⟨by decide, by decide⟩ ⟨by decide, by decide⟩ rfl rfl (Nat.le_of_ble_eq_true rfl) dX5_guilty_2 rfl (fun hl_3 => ?_)
  refine v_astoreq_n (pc' := 6) (L' := [some (.ref a0), some (.int x1), some (va_rf u_2)]) hx dX5_guilty_5 rfl rfl (Nat.le_of_ble_eq_true rfl) ?_
  refine v_aloadq_n (pc' := 7) hx dX5_guilty_6 rfl rfl ?_
  refine v_ifnonnull (tgt := 14) (pc' := 10) hx dX5_guilty_7 (by decide) rfl (fun b_4 hn_5 => ?_) (fun hn_5 => ?_)
  · subst hn_5
    rw [oc_s] at h
    have hl_6 : zL w 1 b_4 = true := hl_3 _ rfl
    refine v_aload_n (pc' := 15) hx dX5_guilty_14 rfl rfl ?_
    replace h := bd_inv h; obtain ⟨y_8, hcl_7, h⟩ := h
    refine v_callVi (pc' := 18) (w' := w) (r := y_8) (ci := 1) (b := b_4) (As := []) (rest := []) hx hl_6 (fun G sz hR => ctX1_guiltyLock (xl x) (xD x) w G sz hR b_4 hl_6 hcl_7) rfl my_X1_guiltyLock ml_X5_132 ⟨by decide, by decide⟩ ⟨by decide, by decide⟩ rfl rfl (Nat.le_of_ble_eq_true rfl) dX5_guilty_15 rfl ?_
    refine V.sb (L' := [none, none, none]) ⟨Or.inl rfl, Or.inl rfl, Or.inl rfl, trivial⟩ ?_
    exact vX5_guilty_b18 hx hq h
  · subst hn_5
    rw [oc_n] at h
    refine v_iconst (pc' := 11) (v := (-1)) hx dX5_guilty_10 (by decide) rfl ?_
    refine v_goto (tgt := 18) hx dX5_guilty_11 (by decide) ?_
    refine V.sb (L' := [none, none, none]) ⟨Or.inl rfl, Or.inl rfl, Or.inl rfl, trivial⟩ ?_
    exact vX5_guilty_b18 hx hq h
theorem ctX5_guilty (l : Launch) (D : DD) (w : Wd) (G : GT) (sz : Nat) (hR : Rp D w G sz) (a0 : Nat) (x1 : Int32) (hl0 : zL w 5 a0 = true) {r0 : Int32} (h : fX5_guilty a0 x1 w = some r0) : MetI l yX5_guilty (WS yX5_guilty cX5_guilty 3 (some .int)) rmX5_guilty D [.ref a0, .int x1] G sz r0 w := by
  refine MetI_ofV (own := RX5) (P := Rp D w) hR (by decide) rfl (by simp [Value.category]) (Nat.le_of_ble_eq_true rfl) (fun x hx hq hD hl => ?_)
  subst hD
  exact vX5_guilty hx hq a0 x1 hl0 h
theorem vX6_guilty_b48 {x : CT} (hx : CX x cX6_guilty RX6 rmX6_guilty (some .int)) {r0 : Int32} {w : Wd} (hq : RI x rmX6_guilty r0 w) {rec17 : Nat → Int32 → Int32 → Int32 → Int32 → Option (Int32)} {a0 : Nat} {x1 : Int32} {x2 : Int32} {x3 : Int32} {x4 : Int32} (hrec17 : ∀ (a0 : Nat) (x1 : Int32) (x2 : Int32) (x3 : Int32) (x4 : Int32), rec17 a0 x1 x2 x3 x4 = some r0 → (zL w 6 a0 = true) → V x 17 [some (.ref a0), some (.int x1), some (.int x2), some (.int x3), some (.int x4), none] [] (Rp (xD x) w) 0 0) (hl0 : zL w 6 a0 = true) (h : fX6_guilty_b48 w rec17 a0 x1 x2 x3 x4 = some r0) : V x 48 [some (.ref a0), some (.int x1), some (.int x2), some (.int x3), some (.int x4), none] [] (Rp (xD x) w) 0 0 := by
  unfold fX6_guilty_b48 at h
  refine v_iinc (pc' := 51) (w0 := (x4 + 1)) (L' := [some (.ref a0), some (.int x1), some (.int x2), some (.int x3), some (.int (x4 + 1)), none]) hx dX6_guilty_48 rfl rfl rfl rfl ?_
  refine v_goto (tgt := 17) hx dX6_guilty_51 (by decide) ?_
  exact hrec17 a0 x1 x2 x3 (x4 + 1) h hl0
theorem vX6_guilty_b17 {x : CT} (hx : CX x cX6_guilty RX6 rmX6_guilty (some .int)) {r0 : Int32} {w : Wd} (hq : RI x rmX6_guilty r0 w) {rec17 : Nat → Int32 → Int32 → Int32 → Int32 → Option (Int32)} {a0 : Nat} {x1 : Int32} {x2 : Int32} {x3 : Int32} {x4 : Int32} (hrec17 : ∀ (a0 : Nat) (x1 : Int32) (x2 : Int32) (x3 : Int32) (x4 : Int32), rec17 a0 x1 x2 x3 x4 = some r0 → (zL w 6 a0 = true) → V x 17 [some (.ref a0), some (.int x1), some (.int x2), some (.int x3), some (.int x4), none] [] (Rp (xD x) w) 0 0) (hl0 : zL w 6 a0 = true) (h : fX6_guilty_b17 w rec17 a0 x1 x2 x3 x4 = some r0) : V x 17 [some (.ref a0), some (.int x1), some (.int x2), some (.int x3), some (.int x4), none] [] (Rp (xD x) w) 0 0 := by
  unfold fX6_guilty_b17 at h
  refine v_iload (pc' := 19) hx dX6_guilty_17 rfl rfl ?_
  refine v_bipush (pc' := 21) (v := 16) hx dX6_guilty_19 (by decide) rfl ?_
  refine v_icmp_ge (tgt := 54) (pc' := 24) hx dX6_guilty_21 (by decide) rfl (fun hc_1 => ?_) (fun hc_1 => ?_)
  · rw [if_pos hc_1] at h
    refine v_iload_n (pc' := 55) hx dX6_guilty_54 rfl rfl ?_
    exact v_iret hx hq (by decide) (by decide) dX6_guilty_55 (by cases h; rfl)
  · rw [if_neg hc_1] at h
    refine v_aload_n (pc' := 25) hx dX6_guilty_24 rfl rfl ?_
    refine v_iload_n (pc' := 26) hx dX6_guilty_25 rfl rfl ?_
    refine v_iload (pc' := 28) hx dX6_guilty_26 rfl rfl ?_
    replace h := bd_inv h; obtain ⟨y_3, hcl_2, h⟩ := h
    refine v_callVi (pc' := 31) (w' := w) (r := y_3) (ci := 6) (b := a0) (As := [.int x1, .int x4]) (rest := []) hx hl0 (fun G sz hR => ctX6_weightOf (xl x) (xD x) w G sz hR a0 x1 x4 hl0 hcl_2) rfl my_X6_weightOf ml_X6_172 ⟨by decide, by decide⟩ ⟨by decide, by decide⟩ rfl rfl (Nat.le_of_ble_eq_true rfl) dX6_guilty_28 rfl ?_
    refine v_istore (pc' := 33) (L' := [some (.ref a0), some (.int x1), some (.int x2), some (.int x3), some (.int x4), some (.int y_3)]) hx dX6_guilty_31 rfl rfl (Nat.le_of_ble_eq_true rfl) ?_
    refine v_iload (pc' := 35) hx dX6_guilty_33 rfl rfl ?_
    refine v_iload_n (pc' := 36) hx dX6_guilty_35 rfl rfl ?_
    refine v_icmp_gt (tgt := 42) (pc' := 39) hx dX6_guilty_36 (by decide) rfl (fun hc_5 => ?_) (fun hc_5 => ?_)
    · rw [if_pos hc_5] at h
      refine v_iload (pc' := 44) hx dX6_guilty_42 rfl rfl ?_
      refine v_istore_n (pc' := 45) (L' := [some (.ref a0), some (.int x1), some (.int x2), some (.int y_3), some (.int x4), some (.int y_3)]) hx dX6_guilty_44 rfl rfl (Nat.le_of_ble_eq_true rfl) ?_
      refine v_iload (pc' := 47) hx dX6_guilty_45 rfl rfl ?_
      refine v_istore_n (pc' := 48) (L' := [some (.ref a0), some (.int x1), some (.int x4), some (.int y_3), some (.int x4), some (.int y_3)]) hx dX6_guilty_47 rfl rfl (Nat.le_of_ble_eq_true rfl) ?_
      refine V.sb (L' := [some (.ref a0), some (.int x1), some (.int x4), some (.int y_3), some (.int x4), none]) ⟨Or.inr rfl, Or.inr rfl, Or.inr rfl, Or.inr rfl, Or.inr rfl, Or.inl rfl, trivial⟩ ?_
      exact vX6_guilty_b48 hx hq hrec17 hl0 h
    · rw [if_neg hc_5] at h
      refine v_goto (tgt := 48) hx dX6_guilty_39 (by decide) ?_
      refine V.sb (L' := [some (.ref a0), some (.int x1), some (.int x2), some (.int x3), some (.int x4), none]) ⟨Or.inr rfl, Or.inr rfl, Or.inr rfl, Or.inr rfl, Or.inr rfl, Or.inl rfl, trivial⟩ ?_
      exact vX6_guilty_b48 hx hq hrec17 hl0 h
theorem vX6_guilty_l17 {x : CT} (hx : CX x cX6_guilty RX6 rmX6_guilty (some .int)) {r0 : Int32} {w : Wd} (hq : RI x rmX6_guilty r0 w) : ∀ (n : Nat) (a0 : Nat) (x1 : Int32) (x2 : Int32) (x3 : Int32) (x4 : Int32), (zL w 6 a0 = true) → fX6_guilty_l17 w n a0 x1 x2 x3 x4 = some r0 → V x 17 [some (.ref a0), some (.int x1), some (.int x2), some (.int x3), some (.int x4), none] [] (Rp (xD x) w) 0 0 := by
  intro n
  induction n with
  | zero => intro a0 x1 x2 x3 x4 hl0 h; cases h
  | succ n ih =>
    intro a0 x1 x2 x3 x4 hl0 h
    exact vX6_guilty_b17 hx hq  (fun a0 x1 x2 x3 x4 h hl0 => ih a0 x1 x2 x3 x4 hl0 h) hl0 h
theorem vX6_guilty {x : CT} (hx : CX x cX6_guilty RX6 rmX6_guilty (some .int)) {r0 : Int32} {w : Wd} (hq : RI x rmX6_guilty r0 w) (a0 : Nat) (x1 : Int32) (hl0 : zL w 6 a0 = true) (h : fX6_guilty a0 x1 w = some r0) : V x 0 [some (.ref a0), some (.int x1), none, none, none, none] [] (Rp (xD x) w) 0 0 := by
  unfold fX6_guilty at h
  refine v_aload_n (pc' := 1) hx dX6_guilty_0 rfl rfl ?_
  refine v_iload_n (pc' := 2) hx dX6_guilty_1 rfl rfl ?_
  replace h := bd_inv h; obtain ⟨y_2, hcl_1, h⟩ := h
  refine v_callVi (pc' := 5) (w' := w) (r := y_2) (ci := 6) (b := a0) (As := [.int x1]) (rest := []) hx hl0 (fun G sz hR => ctX6_isPicture (xl x) (xD x) w G sz hR a0 x1 hl0 hcl_1) rfl my_X6_isPicture ml_X6_145 ⟨by decide, by decide⟩ ⟨by decide, by decide⟩ rfl rfl (Nat.le_of_ble_eq_true rfl) dX6_guilty_2 rfl ?_
  refine v_if_ne (tgt := 10) (pc' := 8) hx dX6_guilty_5 (by decide) rfl (fun hc_4 => ?_) (fun hc_4 => ?_)
  · rw [if_neg hc_4] at h
    refine v_iconst (pc' := 11) (v := (-1)) hx dX6_guilty_10 (by decide) rfl ?_
    refine v_istore_n (pc' := 12) (L' := [some (.ref a0), some (.int x1), some (.int (-1)), none, none, none]) hx dX6_guilty_11 rfl rfl (Nat.le_of_ble_eq_true rfl) ?_
    refine v_iconst (pc' := 13) (v := 0) hx dX6_guilty_12 (by decide) rfl ?_
    refine v_istore_n (pc' := 14) (L' := [some (.ref a0), some (.int x1), some (.int (-1)), some (.int 0), none, none]) hx dX6_guilty_13 rfl rfl (Nat.le_of_ble_eq_true rfl) ?_
    refine v_iconst (pc' := 15) (v := 0) hx dX6_guilty_14 (by decide) rfl ?_
    refine v_istore (pc' := 17) (L' := [some (.ref a0), some (.int x1), some (.int (-1)), some (.int 0), some (.int 0), none]) hx dX6_guilty_15 rfl rfl (Nat.le_of_ble_eq_true rfl) ?_
    exact vX6_guilty_l17 hx hq 1000 a0 x1 (-1) 0 0 hl0 h
  · rw [if_pos hc_4] at h
    refine v_iconst (pc' := 9) (v := (-1)) hx dX6_guilty_8 (by decide) rfl ?_
    exact v_iret hx hq (by decide) (by decide) dX6_guilty_9 (by cases h; rfl)
theorem ctX6_guilty (l : Launch) (D : DD) (w : Wd) (G : GT) (sz : Nat) (hR : Rp D w G sz) (a0 : Nat) (x1 : Int32) (hl0 : zL w 6 a0 = true) {r0 : Int32} (h : fX6_guilty a0 x1 w = some r0) : MetI l yX6_guilty (WS yX6_guilty cX6_guilty 6 (some .int)) rmX6_guilty D [.ref a0, .int x1] G sz r0 w := by
  refine MetI_ofV (own := RX6) (P := Rp D w) hR (by decide) rfl (by simp [Value.category]) (Nat.le_of_ble_eq_true rfl) (fun x hx hq hD hl => ?_)
  subst hD
  exact vX6_guilty hx hq a0 x1 hl0 h
theorem vX2_hasCallsOf_b15 {x : CT} (hx : CX x cX2_hasCallsOf RX2 rmX2_hasCallsOf (some .boolean)) {r0 : Int32} {w : Wd} (hq : RI x rmX2_hasCallsOf r0 w) {rec15 : Nat → Nat → Int32 → Option (Int32)} {a0 : Nat} {a1 : Nat} {x2 : Int32} (hrec15 : ∀ (a0 : Nat) (a1 : Nat) (x2 : Int32), rec15 a0 a1 x2 = some r0 → (zL w 2 a0 = true) → (zL w 2 a1 = true) → V x 15 [some (.ref a0), some (.ref a1), some (.int x2)] [] (Rp (xD x) w) 0 0) (hl0 : zL w 2 a0 = true) (hl1 : zL w 2 a1 = true) (h : fX2_hasCallsOf_b15 w rec15 a0 a1 x2 = some r0) : V x 15 [some (.ref a0), some (.ref a1), some (.int x2)] [] (Rp (xD x) w) 0 0 := by
  unfold fX2_hasCallsOf_b15 at h
  refine v_iload_n (pc' := 16) hx dX2_hasCallsOf_15 rfl rfl ?_
  refine v_aload_n (pc' := 17) hx dX2_hasCallsOf_16 rfl rfl ?_
  refine v_getI (pc' := 20) hx hl0 fi_2_6.1 fi_2_6.2.1 fk_X2_22 dX2_hasCallsOf_17 rfl ?_
  refine v_icmp_ge (tgt := 46) (pc' := 23) hx dX2_hasCallsOf_20 (by decide) rfl (fun hc_1 => ?_) (fun hc_1 => ?_)
  · rw [if_pos hc_1] at h
    refine v_iconst (pc' := 47) (v := 1) hx dX2_hasCallsOf_46 (by decide) rfl ?_
    replace h := ckp_inv h; obtain ⟨hk_2, h⟩ := h
    exact v_zret hx hq (by decide) (by decide) dX2_hasCallsOf_47 hk_2 (by cases h; rfl)
  · rw [if_neg hc_1] at h
    refine v_aload_n (pc' := 24) hx dX2_hasCallsOf_23 rfl rfl ?_
    obtain ⟨g_3, hq_4⟩ : ∃ q, zA w 2 a0 0 = q := ⟨_, rfl⟩
    refine v_getAq (pc' := 27) hx hl0 fi_2_0.1 (by decide) hq_4 fk_X2_9 dX2_hasCallsOf_24 rfl ?_
    refine v_iload_n (pc' := 28) hx dX2_hasCallsOf_27 rfl rfl ?_
    replace h := ckp_inv h; obtain ⟨hk_5, h⟩ := h
    refine v_baldq (pc' := 29) hx hl0 fi_2_0.1 fi_2_0.2.1 rfl hk_5 hq_4 dX2_hasCallsOf_28 rfl ?_
    refine v_aload_n (pc' := 30) hx dX2_hasCallsOf_29 rfl rfl ?_
    obtain ⟨g_6, hq_7⟩ : ∃ q, zA w 2 a1 0 = q := ⟨_, rfl⟩
    refine v_getAq (pc' := 33) hx hl1 fi_2_0.1 (by decide) hq_7 fk_X2_9 dX2_hasCallsOf_30 rfl ?_
    refine v_iload_n (pc' := 34) hx dX2_hasCallsOf_33 rfl rfl ?_
    replace h := ckp_inv h; obtain ⟨hk_8, h⟩ := h
    refine v_baldq (pc' := 35) hx hl1 fi_2_0.1 fi_2_0.2.1 rfl hk_8 hq_7 dX2_hasCallsOf_34 rfl ?_
    refine v_icmp_eq (tgt := 40) (pc' := 38) hx dX2_hasCallsOf_35 (by decide) rfl (fun hc_9 => ?_) (fun hc_9 => ?_)
    · rw [if_pos hc_9] at h
      refine v_iinc (pc' := 43) (w0 := (x2 + 1)) (L' := [some (.ref a0), some (.ref a1), some (.int (x2 + 1))]) hx dX2_hasCallsOf_40 rfl rfl rfl rfl ?_
      refine v_goto (tgt := 15) hx dX2_hasCallsOf_43 (by decide) ?_
      exact hrec15 a0 a1 (x2 + 1) h hl0 hl1
    · rw [if_neg hc_9] at h
      refine v_iconst (pc' := 39) (v := 0) hx dX2_hasCallsOf_38 (by decide) rfl ?_
      replace h := ckp_inv h; obtain ⟨hk_10, h⟩ := h
      exact v_zret hx hq (by decide) (by decide) dX2_hasCallsOf_39 hk_10 (by cases h; rfl)
theorem vX2_hasCallsOf_l15 {x : CT} (hx : CX x cX2_hasCallsOf RX2 rmX2_hasCallsOf (some .boolean)) {r0 : Int32} {w : Wd} (hq : RI x rmX2_hasCallsOf r0 w) : ∀ (n : Nat) (a0 : Nat) (a1 : Nat) (x2 : Int32), (zL w 2 a0 = true) → (zL w 2 a1 = true) → fX2_hasCallsOf_l15 w n a0 a1 x2 = some r0 → V x 15 [some (.ref a0), some (.ref a1), some (.int x2)] [] (Rp (xD x) w) 0 0 := by
  intro n
  induction n with
  | zero => intro a0 a1 x2 hl0 hl1 h; cases h
  | succ n ih =>
    intro a0 a1 x2 hl0 hl1 h
    exact vX2_hasCallsOf_b15 hx hq  (fun a0 a1 x2 h hl0 hl1 => ih a0 a1 x2 hl0 hl1 h) hl0 hl1 h
theorem vX2_hasCallsOf {x : CT} (hx : CX x cX2_hasCallsOf RX2 rmX2_hasCallsOf (some .boolean)) {r0 : Int32} {w : Wd} (hq : RI x rmX2_hasCallsOf r0 w) (a0 : Nat) (a1 : Nat) (hl0 : zL w 2 a0 = true) (hl1 : zL w 2 a1 = true) (h : fX2_hasCallsOf a0 a1 w = some r0) : V x 0 [some (.ref a0), some (.ref a1), none] [] (Rp (xD x) w) 0 0 := by
  unfold fX2_hasCallsOf at h
  refine v_aload_n (pc' := 1) hx dX2_hasCallsOf_0 rfl rfl ?_
  refine v_getI (pc' := 4) hx hl0 fi_2_6.1 fi_2_6.2.1 fk_X2_22 dX2_hasCallsOf_1 rfl ?_
  refine v_aload_n (pc' := 5) hx dX2_hasCallsOf_4 rfl rfl ?_
  refine v_getI (pc' := 8) hx hl1 fi_2_6.1 fi_2_6.2.1 fk_X2_22 dX2_hasCallsOf_5 rfl ?_
  refine v_icmp_eq (tgt := 13) (pc' := 11) hx dX2_hasCallsOf_8 (by decide) rfl (fun hc_1 => ?_) (fun hc_1 => ?_)
  · rw [if_pos hc_1] at h
    refine v_iconst (pc' := 14) (v := 0) hx dX2_hasCallsOf_13 (by decide) rfl ?_
    refine v_istore_n (pc' := 15) (L' := [some (.ref a0), some (.ref a1), some (.int 0)]) hx dX2_hasCallsOf_14 rfl rfl (Nat.le_of_ble_eq_true rfl) ?_
    exact vX2_hasCallsOf_l15 hx hq 1000 a0 a1 0 hl0 hl1 h
  · rw [if_neg hc_1] at h
    refine v_iconst (pc' := 12) (v := 0) hx dX2_hasCallsOf_11 (by decide) rfl ?_
    replace h := ckp_inv h; obtain ⟨hk_2, h⟩ := h
    exact v_zret hx hq (by decide) (by decide) dX2_hasCallsOf_12 hk_2 (by cases h; rfl)
theorem ctX2_hasCallsOf (l : Launch) (D : DD) (w : Wd) (G : GT) (sz : Nat) (hR : Rp D w G sz) (a0 : Nat) (a1 : Nat) (hl0 : zL w 2 a0 = true) (hl1 : zL w 2 a1 = true) {r0 : Int32} (h : fX2_hasCallsOf a0 a1 w = some r0) : MetI l yX2_hasCallsOf (WS yX2_hasCallsOf cX2_hasCallsOf 3 (some .boolean)) rmX2_hasCallsOf D [.ref a0, .ref a1] G sz r0 w := by
  refine MetI_ofV (own := RX2) (P := Rp D w) hR (by decide) rfl (by simp [Value.category]) (Nat.le_of_ble_eq_true rfl) (fun x hx hq hD hl => ?_)
  subst hD
  exact vX2_hasCallsOf hx hq a0 a1 hl0 hl1 h
theorem vX2_isLike_b57 {x : CT} (hx : CX x cX2_isLike RX2 rmX2_isLike (some .boolean)) {r0 : Int32} {w : Wd} (hq : RI x rmX2_isLike r0 w) {xs0 : Int32} (h : fX2_isLike_b57 w xs0 = some r0) : V x 57 [none, none] [.int xs0] (Rp (xD x) w) 0 0 := by
  unfold fX2_isLike_b57 at h
  replace h := ckp_inv h; obtain ⟨hk_1, h⟩ := h
  exact v_zret hx hq (by decide) (by decide) dX2_isLike_57 hk_1 (by cases h; rfl)
theorem vX2_isLike_b56 {x : CT} (hx : CX x cX2_isLike RX2 rmX2_isLike (some .boolean)) {r0 : Int32} {w : Wd} (hq : RI x rmX2_isLike r0 w) (h : fX2_isLike_b56 w = some r0) : V x 56 [none, none] [] (Rp (xD x) w) 0 0 := by
  unfold fX2_isLike_b56 at h
  refine v_iconst (pc' := 57) (v := 0) hx dX2_isLike_56 (by decide) rfl ?_
  exact vX2_isLike_b57 hx hq h
theorem vX2_isLike {x : CT} (hx : CX x cX2_isLike RX2 rmX2_isLike (some .boolean)) {r0 : Int32} {w : Wd} (hq : RI x rmX2_isLike r0 w) (a0 : Nat) (a1 : Nat) (hl0 : zL w 2 a0 = true) (hl1 : zL w 2 a1 = true) (h : fX2_isLike a0 a1 w = some r0) : V x 0 [some (.ref a0), some (.ref a1)] [] (Rp (xD x) w) 0 0 := by
  unfold fX2_isLike at h
  refine v_aload_n (pc' := 1) hx dX2_isLike_0 rfl rfl ?_
  refine v_getI (pc' := 4) hx hl0 fi_2_2.1 fi_2_2.2.1 fk_X2_36 dX2_isLike_1 rfl ?_
  refine v_aload_n (pc' := 5) hx dX2_isLike_4 rfl rfl ?_
  refine v_getI (pc' := 8) hx hl1 fi_2_2.1 fi_2_2.2.1 fk_X2_36 dX2_isLike_5 rfl ?_
  refine v_icmp_ne (tgt := 56) (pc' := 11) hx dX2_isLike_8 (by decide) rfl (fun hc_1 => ?_) (fun hc_1 => ?_)
  · rw [if_neg hc_1] at h
    refine V.sb (L' := [none, none]) ⟨Or.inl rfl, Or.inl rfl, trivial⟩ ?_
    exact vX2_isLike_b56 hx hq h
  · rw [if_pos hc_1] at h
    refine v_aload_n (pc' := 12) hx dX2_isLike_11 rfl rfl ?_
    refine v_getI (pc' := 15) hx hl0 fi_2_3.1 fi_2_3.2.1 fk_X2_39 dX2_isLike_12 rfl ?_
    refine v_aload_n (pc' := 16) hx dX2_isLike_15 rfl rfl ?_
    refine v_getI (pc' := 19) hx hl1 fi_2_3.1 fi_2_3.2.1 fk_X2_39 dX2_isLike_16 rfl ?_
    refine v_icmp_ne (tgt := 56) (pc' := 22) hx dX2_isLike_19 (by decide) rfl (fun hc_2 => ?_) (fun hc_2 => ?_)
    · rw [if_neg hc_2] at h
      refine V.sb (L' := [none, none]) ⟨Or.inl rfl, Or.inl rfl, trivial⟩ ?_
      exact vX2_isLike_b56 hx hq h
    · rw [if_pos hc_2] at h
      refine v_aload_n (pc' := 23) hx dX2_isLike_22 rfl rfl ?_
      refine v_getI (pc' := 26) hx hl0 fi_2_4.1 fi_2_4.2.1 fk_X2_25 dX2_isLike_23 rfl ?_
      refine v_aload_n (pc' := 27) hx dX2_isLike_26 rfl rfl ?_
      refine v_getI (pc' := 30) hx hl1 fi_2_4.1 fi_2_4.2.1 fk_X2_25 dX2_isLike_27 rfl ?_
      refine v_icmp_ne (tgt := 56) (pc' := 33) hx dX2_isLike_30 (by decide) rfl (fun hc_3 => ?_) (fun hc_3 => ?_)
      · rw [if_neg hc_3] at h
        refine V.sb (L' := [none, none]) ⟨Or.inl rfl, Or.inl rfl, trivial⟩ ?_
        exact vX2_isLike_b56 hx hq h
      · rw [if_pos hc_3] at h
        refine v_aload_n (pc' := 34) hx dX2_isLike_33 rfl rfl ?_
        refine v_getI (pc' := 37) hx hl0 fi_2_5.1 fi_2_5.2.1 fk_X2_19 dX2_isLike_34 rfl ?_
        refine v_aload_n (pc' := 38) hx dX2_isLike_37 rfl rfl ?_
        refine v_getI (pc' := 41) hx hl1 fi_2_5.1 fi_2_5.2.1 fk_X2_19 dX2_isLike_38 rfl ?_
        refine v_icmp_ne (tgt := 56) (pc' := 44) hx dX2_isLike_41 (by decide) rfl (fun hc_4 => ?_) (fun hc_4 => ?_)
        · rw [if_neg hc_4] at h
          refine V.sb (L' := [none, none]) ⟨Or.inl rfl, Or.inl rfl, trivial⟩ ?_
          exact vX2_isLike_b56 hx hq h
        · rw [if_pos hc_4] at h
          refine v_aload_n (pc' := 45) hx dX2_isLike_44 rfl rfl ?_
          refine v_aload_n (pc' := 46) hx dX2_isLike_45 rfl rfl ?_
          replace h := bd_inv h; obtain ⟨y_6, hcl_5, h⟩ := h
          refine v_callVi (pc' := 49) (w' := w) (r := y_6) (ci := 2) (b := a0) (As := [.ref a1]) (rest := []) hx hl0 (fun G sz hR => ctX2_hasCallsOf (xl x) (xD x) w G sz hR a0 a1 hl0 hl1 hcl_5) rfl my_X2_hasCallsOf ml_X2_42 ⟨by decide, by decide⟩ ⟨by decide, by decide⟩ rfl rfl (Nat.le_of_ble_eq_true rfl) dX2_isLike_46 rfl ?_
          refine v_if_eq (tgt := 56) (pc' := 52) hx dX2_isLike_49 (by decide) rfl (fun hc_8 => ?_) (fun hc_8 => ?_)
          · rw [if_pos hc_8] at h
            refine V.sb (L' := [none, none]) ⟨Or.inl rfl, Or.inl rfl, trivial⟩ ?_
            exact vX2_isLike_b56 hx hq h
          · rw [if_neg hc_8] at h
            refine v_iconst (pc' := 53) (v := 1) hx dX2_isLike_52 (by decide) rfl ?_
            refine v_goto (tgt := 57) hx dX2_isLike_53 (by decide) ?_
            refine V.sb (L' := [none, none]) ⟨Or.inl rfl, Or.inl rfl, trivial⟩ ?_
            exact vX2_isLike_b57 hx hq h
theorem ctX2_isLike (l : Launch) (D : DD) (w : Wd) (G : GT) (sz : Nat) (hR : Rp D w G sz) (a0 : Nat) (a1 : Nat) (hl0 : zL w 2 a0 = true) (hl1 : zL w 2 a1 = true) {r0 : Int32} (h : fX2_isLike a0 a1 w = some r0) : MetI l yX2_isLike (WS yX2_isLike cX2_isLike 2 (some .boolean)) rmX2_isLike D [.ref a0, .ref a1] G sz r0 w := by
  refine MetI_ofV (own := RX2) (P := Rp D w) hR (by decide) rfl (by simp [Value.category]) (Nat.le_of_ble_eq_true rfl) (fun x hx hq hD hl => ?_)
  subst hD
  exact vX2_isLike hx hq a0 a1 hl0 hl1 h
theorem vX5_isStuck_b70 {x : CT} (hx : CX x cX5_isStuck RX5 rmX5_isStuck (some .boolean)) {r0 : Int32} {w : Wd} (hq : RI x rmX5_isStuck r0 w) {xs0 : Int32} (h : fX5_isStuck_b70 w xs0 = some r0) : V x 70 [none, none, none, none, none, none] [.int xs0] (Rp (xD x) w) 0 0 := by
  unfold fX5_isStuck_b70 at h
  replace h := ckp_inv h; obtain ⟨hk_1, h⟩ := h
  exact v_zret hx hq (by decide) (by decide) dX5_isStuck_70 hk_1 (by cases h; rfl)
theorem vX5_isStuck_b54 {x : CT} (hx : CX x cX5_isStuck RX5 rmX5_isStuck (some .boolean)) {r0 : Int32} {w : Wd} (hq : RI x rmX5_isStuck r0 w) {rec7 : Nat → Int32 → (Option Nat) → Int32 → Int32 → Option (Int32)} {a0 : Nat} {x1 : Int32} {r2 : Option Nat} {x3 : Int32} {x4 : Int32} (hrec7 : ∀ (a0 : Nat) (x1 : Int32) (r2 : Option Nat) (x3 : Int32) (x4 : Int32), rec7 a0 x1 r2 x3 x4 = some r0 → (zL w 5 a0 = true) → (∀ b, r2 = some b → zL w 2 b = true) → V x 7 [some (.ref a0), some (.int x1), some (va_rf r2), some (.int x3), some (.int x4), none] [] (Rp (xD x) w) 0 0) (hl0 : zL w 5 a0 = true) (hl2 : ∀ b, r2 = some b → zL w 2 b = true) (h : fX5_isStuck_b54 w rec7 a0 x1 r2 x3 x4 = some r0) : V x 54 [some (.ref a0), some (.int x1), some (va_rf r2), some (.int x3), some (.int x4), none] [] (Rp (xD x) w) 0 0 := by
  unfold fX5_isStuck_b54 at h
  refine v_iinc (pc' := 57) (w0 := (x4 + 1)) (L' := [some (.ref a0), some (.int x1), some (va_rf r2), some (.int x3), some (.int (x4 + 1)), none]) hx dX5_isStuck_54 rfl rfl rfl rfl ?_
  refine v_goto (tgt := 7) hx dX5_isStuck_57 (by decide) ?_
  exact hrec7 a0 x1 r2 x3 (x4 + 1) h hl0 hl2
theorem vX5_isStuck_b51 {x : CT} (hx : CX x cX5_isStuck RX5 rmX5_isStuck (some .boolean)) {r0 : Int32} {w : Wd} (hq : RI x rmX5_isStuck r0 w) {rec7 : Nat → Int32 → (Option Nat) → Int32 → Int32 → Option (Int32)} {a0 : Nat} {x1 : Int32} {r2 : Option Nat} {x3 : Int32} {x4 : Int32} (hrec7 : ∀ (a0 : Nat) (x1 : Int32) (r2 : Option Nat) (x3 : Int32) (x4 : Int32), rec7 a0 x1 r2 x3 x4 = some r0 → (zL w 5 a0 = true) → (∀ b, r2 = some b → zL w 2 b = true) → V x 7 [some (.ref a0), some (.int x1), some (va_rf r2), some (.int x3), some (.int x4), none] [] (Rp (xD x) w) 0 0) (hl0 : zL w 5 a0 = true) (hl2 : ∀ b, r2 = some b → zL w 2 b = true) (h : fX5_isStuck_b51 w rec7 a0 x1 r2 x3 x4 = some r0) : V x 51 [some (.ref a0), some (.int x1), some (va_rf r2), some (.int x3), some (.int x4), none] [] (Rp (xD x) w) 0 0 := by
  unfold fX5_isStuck_b51 at h
  refine v_iinc (pc' := 54) (w0 := (x3 + 1)) (L' := [some (.ref a0), some (.int x1), some (va_rf r2), some (.int (x3 + 1)), some (.int x4), none]) hx dX5_isStuck_51 rfl rfl rfl rfl ?_
  exact vX5_isStuck_b54 hx hq hrec7 hl0 hl2 h
theorem vX5_isStuck_b7 {x : CT} (hx : CX x cX5_isStuck RX5 rmX5_isStuck (some .boolean)) {r0 : Int32} {w : Wd} (hq : RI x rmX5_isStuck r0 w) {rec7 : Nat → Int32 → (Option Nat) → Int32 → Int32 → Option (Int32)} {a0 : Nat} {x1 : Int32} {r2 : Option Nat} {x3 : Int32} {x4 : Int32} (hrec7 : ∀ (a0 : Nat) (x1 : Int32) (r2 : Option Nat) (x3 : Int32) (x4 : Int32), rec7 a0 x1 r2 x3 x4 = some r0 → (zL w 5 a0 = true) → (∀ b, r2 = some b → zL w 2 b = true) → V x 7 [some (.ref a0), some (.int x1), some (va_rf r2), some (.int x3), some (.int x4), none] [] (Rp (xD x) w) 0 0) (hl0 : zL w 5 a0 = true) (hl2 : ∀ b, r2 = some b → zL w 2 b = true) (h : fX5_isStuck_b7 w rec7 a0 x1 r2 x3 x4 = some r0) : V x 7 [some (.ref a0), some (.int x1), some (va_rf r2), some (.int x3), some (.int x4), none] [] (Rp (xD x) w) 0 0 := by
  unfold fX5_isStuck_b7 at h
  refine v_iload (pc' := 9) hx dX5_isStuck_7 rfl rfl ?_
  refine v_aload_n (pc' := 10) hx dX5_isStuck_9 rfl rfl ?_
  refine v_getI (pc' := 13) hx hl0 fi_5_3.1 fi_5_3.2.1 fk_X5_29 dX5_isStuck_10 rfl ?_
  refine v_icmp_ge (tgt := 60) (pc' := 16) hx dX5_isStuck_13 (by decide) rfl (fun hc_1 => ?_) (fun hc_1 => ?_)
  · rw [if_pos hc_1] at h
    refine v_iload_n (pc' := 61) hx dX5_isStuck_60 rfl rfl ?_
    refine v_iconst (pc' := 62) (v := 2) hx dX5_isStuck_61 (by decide) rfl ?_
    refine v_icmp_lt (tgt := 69) (pc' := 65) hx dX5_isStuck_62 (by decide) rfl (fun hc_2 => ?_) (fun hc_2 => ?_)
    · rw [if_pos hc_2] at h
      refine v_iconst (pc' := 70) (v := 0) hx dX5_isStuck_69 (by decide) rfl ?_
      refine V.sb (L' := [none, none, none, none, none, none]) ⟨Or.inl rfl, Or.inl rfl, Or.inl rfl, Or.inl rfl, Or.inl rfl, Or.inl rfl, trivial⟩ ?_
      exact vX5_isStuck_b70 hx hq h
    · rw [if_neg hc_2] at h
      refine v_iconst (pc' := 66) (v := 1) hx dX5_isStuck_65 (by decide) rfl ?_
      refine v_goto (tgt := 70) hx dX5_isStuck_66 (by decide) ?_
      refine V.sb (L' := [none, none, none, none, none, none]) ⟨Or.inl rfl, Or.inl rfl, Or.inl rfl, Or.inl rfl, Or.inl rfl, Or.inl rfl, trivial⟩ ?_
      exact vX5_isStuck_b70 hx hq h
  · rw [if_neg hc_1] at h
    refine v_aload_n (pc' := 17) hx dX5_isStuck_16 rfl rfl ?_
    refine v_iload (pc' := 19) hx dX5_isStuck_17 rfl rfl ?_
    refine v_iload_n (pc' := 20) hx dX5_isStuck_19 rfl rfl ?_
    replace h := bd_inv h; obtain ⟨u_4, hcl_3, h⟩ := h
    refine v_callVq (pc' := 23) (w' := w) (q := u_4) (ci := 5) (b := a0) (As := [.int x4, .int x1]) (rest := []) hx hl0 (fun G sz hR => ctX5_rowAt (xl x) (xD x) w G sz hR a0 x4 x1 hl0 hcl_3) rfl my_X5_rowAt ml_X5_81 ⟨by decide, by decide⟩ ⟨by decide, by decide⟩ rfl rfl (Nat.le_of_ble_eq_true rfl) dX5_isStuck_20 rfl (fun hl_5 => ?_)
    refine v_astoreq (pc' := 25) (L' := [some (.ref a0), some (.int x1), some (va_rf r2), some (.int x3), some (.int x4), some (va_rf u_4)]) hx dX5_isStuck_23 rfl rfl (Nat.le_of_ble_eq_true rfl) ?_
    refine v_aloadq (pc' := 27) hx dX5_isStuck_25 rfl rfl ?_
    refine v_ifnull (tgt := 54) (pc' := 30) hx dX5_isStuck_27 (by decide) rfl (fun hn_7 => ?_) (fun b_6 hn_7 => ?_)
    · subst hn_7
      rw [oc_n] at h
      refine V.sb (L' := [some (.ref a0), some (.int x1), some (va_rf r2), some (.int x3), some (.int x4), none]) ⟨Or.inr rfl, Or.inr rfl, Or.inr rfl, Or.inr rfl, Or.inr rfl, Or.inl rfl, trivial⟩ ?_
      exact vX5_isStuck_b54 hx hq hrec7 hl0 hl2 h
    · subst hn_7
      rw [oc_s] at h
      have hl_8 : zL w 2 b_6 = true := hl_5 _ rfl
      refine v_aloadq_n (pc' := 31) hx dX5_isStuck_30 rfl rfl ?_
      refine v_ifnonnull (tgt := 40) (pc' := 34) hx dX5_isStuck_31 (by decide) rfl (fun b_9 hn_10 => ?_) (fun hn_10 => ?_)
      · subst hn_10
        rw [oc_s] at h
        have hl_11 : zL w 2 b_9 = true := hl2 _ rfl
        refine v_aload_n (pc' := 41) hx dX5_isStuck_40 rfl rfl ?_
        refine v_aload (pc' := 43) hx dX5_isStuck_41 rfl rfl ?_
        replace h := bd_inv h; obtain ⟨y_13, hcl_12, h⟩ := h
        refine v_callVi (pc' := 46) (w' := w) (r := y_13) (ci := 2) (b := b_9) (As := [.ref b_6]) (rest := []) hx hl_11 (fun G sz hR => ctX2_isLike (xl x) (xD x) w G sz hR b_9 b_6 hl_11 hl_8 hcl_12) rfl my_X2_isLike ml_X5_183 ⟨by decide, by decide⟩ ⟨by decide, by decide⟩ rfl rfl (Nat.le_of_ble_eq_true rfl) dX5_isStuck_43 rfl ?_
        refine v_if_ne (tgt := 51) (pc' := 49) hx dX5_isStuck_46 (by decide) rfl (fun hc_15 => ?_) (fun hc_15 => ?_)
        · rw [if_neg hc_15] at h
          refine V.sb (L' := [some (.ref a0), some (.int x1), some (.ref b_9), some (.int x3), some (.int x4), none]) ⟨Or.inr rfl, Or.inr rfl, Or.inr rfl, Or.inr rfl, Or.inr rfl, Or.inl rfl, trivial⟩ ?_
          exact vX5_isStuck_b51 hx hq hrec7 hl0 (fun b hb => by cases hb; exact hl_11) h
        · rw [if_pos hc_15] at h
          refine v_iconst (pc' := 50) (v := 0) hx dX5_isStuck_49 (by decide) rfl ?_
          replace h := ckp_inv h; obtain ⟨hk_16, h⟩ := h
          exact v_zret hx hq (by decide) (by decide) dX5_isStuck_50 hk_16 (by cases h; rfl)
      · subst hn_10
        rw [oc_n] at h
        refine v_aload (pc' := 36) hx dX5_isStuck_34 rfl rfl ?_
        refine v_astore_n (pc' := 37) (L' := [some (.ref a0), some (.int x1), some (.ref b_6), some (.int x3), some (.int x4), some (.ref b_6)]) hx dX5_isStuck_36 rfl rfl (Nat.le_of_ble_eq_true rfl) ?_
        refine v_goto (tgt := 51) hx dX5_isStuck_37 (by decide) ?_
        refine V.sb (L' := [some (.ref a0), some (.int x1), some (.ref b_6), some (.int x3), some (.int x4), none]) ⟨Or.inr rfl, Or.inr rfl, Or.inr rfl, Or.inr rfl, Or.inr rfl, Or.inl rfl, trivial⟩ ?_
        exact vX5_isStuck_b51 hx hq hrec7 hl0 (fun b hb => by cases hb; exact hl_8) h
theorem vX5_isStuck_l7 {x : CT} (hx : CX x cX5_isStuck RX5 rmX5_isStuck (some .boolean)) {r0 : Int32} {w : Wd} (hq : RI x rmX5_isStuck r0 w) : ∀ (n : Nat) (a0 : Nat) (x1 : Int32) (r2 : Option Nat) (x3 : Int32) (x4 : Int32), (zL w 5 a0 = true) → (∀ b, r2 = some b → zL w 2 b = true) → fX5_isStuck_l7 w n a0 x1 r2 x3 x4 = some r0 → V x 7 [some (.ref a0), some (.int x1), some (va_rf r2), some (.int x3), some (.int x4), none] [] (Rp (xD x) w) 0 0 := by
  intro n
  induction n with
  | zero => intro a0 x1 r2 x3 x4 hl0 hl2 h; cases h
  | succ n ih =>
    intro a0 x1 r2 x3 x4 hl0 hl2 h
    exact vX5_isStuck_b7 hx hq  (fun a0 x1 r2 x3 x4 h hl0 hl2 => ih a0 x1 r2 x3 x4 hl0 hl2 h) hl0 hl2 h
theorem vX5_isStuck {x : CT} (hx : CX x cX5_isStuck RX5 rmX5_isStuck (some .boolean)) {r0 : Int32} {w : Wd} (hq : RI x rmX5_isStuck r0 w) (a0 : Nat) (x1 : Int32) (hl0 : zL w 5 a0 = true) (h : fX5_isStuck a0 x1 w = some r0) : V x 0 [some (.ref a0), some (.int x1), none, none, none, none] [] (Rp (xD x) w) 0 0 := by
  unfold fX5_isStuck at h
  refine v_null (pc' := 1) hx dX5_isStuck_0 rfl ?_
  refine v_astoreq_n (pc' := 2) (L' := [some (.ref a0), some (.int x1), some (va_rf none), none, none, none]) hx dX5_isStuck_1 rfl rfl (Nat.le_of_ble_eq_true rfl) ?_
  refine v_iconst (pc' := 3) (v := 0) hx dX5_isStuck_2 (by decide) rfl ?_
  refine v_istore_n (pc' := 4) (L' := [some (.ref a0), some (.int x1), some (va_rf none), some (.int 0), none, none]) hx dX5_isStuck_3 rfl rfl (Nat.le_of_ble_eq_true rfl) ?_
  refine v_iconst (pc' := 5) (v := 0) hx dX5_isStuck_4 (by decide) rfl ?_
  refine v_istore (pc' := 7) (L' := [some (.ref a0), some (.int x1), some (va_rf none), some (.int 0), some (.int 0), none]) hx dX5_isStuck_5 rfl rfl (Nat.le_of_ble_eq_true rfl) ?_
  exact vX5_isStuck_l7 hx hq 1000 a0 x1 none 0 0 hl0 (fun b hb => by cases hb) h
theorem ctX5_isStuck (l : Launch) (D : DD) (w : Wd) (G : GT) (sz : Nat) (hR : Rp D w G sz) (a0 : Nat) (x1 : Int32) (hl0 : zL w 5 a0 = true) {r0 : Int32} (h : fX5_isStuck a0 x1 w = some r0) : MetI l yX5_isStuck (WS yX5_isStuck cX5_isStuck 6 (some .boolean)) rmX5_isStuck D [.ref a0, .int x1] G sz r0 w := by
  refine MetI_ofV (own := RX5) (P := Rp D w) hR (by decide) rfl (by simp [Value.category]) (Nat.le_of_ble_eq_true rfl) (fun x hx hq hD hl => ?_)
  subst hD
  exact vX5_isStuck hx hq a0 x1 hl0 h
theorem vX5_stuck_b28 {x : CT} (hx : CX x cX5_stuck RX5 rmX5_stuck (some .int)) {r0 : Int32} {w : Wd} (hq : RI x rmX5_stuck r0 w) {rec4 : Nat → Int32 → Int32 → Int32 → Option (Int32)} {a0 : Nat} {x1 : Int32} {x2 : Int32} {x3 : Int32} (hrec4 : ∀ (a0 : Nat) (x1 : Int32) (x2 : Int32) (x3 : Int32), rec4 a0 x1 x2 x3 = some r0 → (zL w 5 a0 = true) → V x 4 [some (.ref a0), some (.int x1), some (.int x2), some (.int x3)] [] (Rp (xD x) w) 0 0) (hl0 : zL w 5 a0 = true) (h : fX5_stuck_b28 w rec4 a0 x1 x2 x3 = some r0) : V x 28 [some (.ref a0), some (.int x1), some (.int x2), some (.int x3)] [] (Rp (xD x) w) 0 0 := by
  unfold fX5_stuck_b28 at h
  refine v_iinc (pc' := 31) (w0 := (x3 + 1)) (L' := [some (.ref a0), some (.int x1), some (.int x2), some (.int (x3 + 1))]) hx dX5_stuck_28 rfl rfl rfl rfl ?_
  refine v_goto (tgt := 4) hx dX5_stuck_31 (by decide) ?_
  exact hrec4 a0 x1 x2 (x3 + 1) h hl0
theorem vX5_stuck_b4 {x : CT} (hx : CX x cX5_stuck RX5 rmX5_stuck (some .int)) {r0 : Int32} {w : Wd} (hq : RI x rmX5_stuck r0 w) {rec4 : Nat → Int32 → Int32 → Int32 → Option (Int32)} {a0 : Nat} {x1 : Int32} {x2 : Int32} {x3 : Int32} (hrec4 : ∀ (a0 : Nat) (x1 : Int32) (x2 : Int32) (x3 : Int32), rec4 a0 x1 x2 x3 = some r0 → (zL w 5 a0 = true) → V x 4 [some (.ref a0), some (.int x1), some (.int x2), some (.int x3)] [] (Rp (xD x) w) 0 0) (hl0 : zL w 5 a0 = true) (h : fX5_stuck_b4 w rec4 a0 x1 x2 x3 = some r0) : V x 4 [some (.ref a0), some (.int x1), some (.int x2), some (.int x3)] [] (Rp (xD x) w) 0 0 := by
  unfold fX5_stuck_b4 at h
  refine v_iload_n (pc' := 5) hx dX5_stuck_4 rfl rfl ?_
  refine v_bipush (pc' := 7) (v := 24) hx dX5_stuck_5 (by decide) rfl ?_
  refine v_icmp_ge (tgt := 34) (pc' := 10) hx dX5_stuck_7 (by decide) rfl (fun hc_1 => ?_) (fun hc_1 => ?_)
  · rw [if_pos hc_1] at h
    refine v_iconst (pc' := 35) (v := (-1)) hx dX5_stuck_34 (by decide) rfl ?_
    exact v_iret hx hq (by decide) (by decide) dX5_stuck_35 (by cases h; rfl)
  · rw [if_neg hc_1] at h
    refine v_aload_n (pc' := 11) hx dX5_stuck_10 rfl rfl ?_
    refine v_iload_n (pc' := 12) hx dX5_stuck_11 rfl rfl ?_
    replace h := bd_inv h; obtain ⟨y_3, hcl_2, h⟩ := h
    refine v_callVi (pc' := 15) (w' := w) (r := y_3) (ci := 5) (b := a0) (As := [.int x3]) (rest := []) hx hl0 (fun G sz hR => ctX5_isStuck (xl x) (xD x) w G sz hR a0 x3 hl0 hcl_2) rfl my_X5_isStuck ml_X5_135 ⟨by decide, by decide⟩ ⟨by decide, by decide⟩ rfl rfl (Nat.le_of_ble_eq_true rfl) dX5_stuck_12 rfl ?_
    refine v_if_eq (tgt := 28) (pc' := 18) hx dX5_stuck_15 (by decide) rfl (fun hc_5 => ?_) (fun hc_5 => ?_)
    · rw [if_pos hc_5] at h
      exact vX5_stuck_b28 hx hq hrec4 hl0 h
    · rw [if_neg hc_5] at h
      refine v_iload_n (pc' := 19) hx dX5_stuck_18 rfl rfl ?_
      refine v_iload_n (pc' := 20) hx dX5_stuck_19 rfl rfl ?_
      refine v_icmp_ne (tgt := 25) (pc' := 23) hx dX5_stuck_20 (by decide) rfl (fun hc_6 => ?_) (fun hc_6 => ?_)
      · rw [if_neg hc_6] at h
        refine v_iinc (pc' := 28) (w0 := (x2 + 1)) (L' := [some (.ref a0), some (.int x1), some (.int (x2 + 1)), some (.int x3)]) hx dX5_stuck_25 rfl rfl rfl rfl ?_
        exact vX5_stuck_b28 hx hq hrec4 hl0 h
      · rw [if_pos hc_6] at h
        refine v_iload_n (pc' := 24) hx dX5_stuck_23 rfl rfl ?_
        exact v_iret hx hq (by decide) (by decide) dX5_stuck_24 (by cases h; rfl)
theorem vX5_stuck_l4 {x : CT} (hx : CX x cX5_stuck RX5 rmX5_stuck (some .int)) {r0 : Int32} {w : Wd} (hq : RI x rmX5_stuck r0 w) : ∀ (n : Nat) (a0 : Nat) (x1 : Int32) (x2 : Int32) (x3 : Int32), (zL w 5 a0 = true) → fX5_stuck_l4 w n a0 x1 x2 x3 = some r0 → V x 4 [some (.ref a0), some (.int x1), some (.int x2), some (.int x3)] [] (Rp (xD x) w) 0 0 := by
  intro n
  induction n with
  | zero => intro a0 x1 x2 x3 hl0 h; cases h
  | succ n ih =>
    intro a0 x1 x2 x3 hl0 h
    exact vX5_stuck_b4 hx hq  (fun a0 x1 x2 x3 h hl0 => ih a0 x1 x2 x3 hl0 h) hl0 h
theorem vX5_stuck {x : CT} (hx : CX x cX5_stuck RX5 rmX5_stuck (some .int)) {r0 : Int32} {w : Wd} (hq : RI x rmX5_stuck r0 w) (a0 : Nat) (x1 : Int32) (hl0 : zL w 5 a0 = true) (h : fX5_stuck a0 x1 w = some r0) : V x 0 [some (.ref a0), some (.int x1), none, none] [] (Rp (xD x) w) 0 0 := by
  unfold fX5_stuck at h
  refine v_iconst (pc' := 1) (v := 0) hx dX5_stuck_0 (by decide) rfl ?_
  refine v_istore_n (pc' := 2) (L' := [some (.ref a0), some (.int x1), some (.int 0), none]) hx dX5_stuck_1 rfl rfl (Nat.le_of_ble_eq_true rfl) ?_
  refine v_iconst (pc' := 3) (v := 0) hx dX5_stuck_2 (by decide) rfl ?_
  refine v_istore_n (pc' := 4) (L' := [some (.ref a0), some (.int x1), some (.int 0), some (.int 0)]) hx dX5_stuck_3 rfl rfl (Nat.le_of_ble_eq_true rfl) ?_
  exact vX5_stuck_l4 hx hq 1000 a0 x1 0 0 hl0 h
theorem ctX5_stuck (l : Launch) (D : DD) (w : Wd) (G : GT) (sz : Nat) (hR : Rp D w G sz) (a0 : Nat) (x1 : Int32) (hl0 : zL w 5 a0 = true) {r0 : Int32} (h : fX5_stuck a0 x1 w = some r0) : MetI l yX5_stuck (WS yX5_stuck cX5_stuck 4 (some .int)) rmX5_stuck D [.ref a0, .int x1] G sz r0 w := by
  refine MetI_ofV (own := RX5) (P := Rp D w) hR (by decide) rfl (by simp [Value.category]) (Nat.le_of_ble_eq_true rfl) (fun x hx hq hD hl => ?_)
  subst hD
  exact vX5_stuck hx hq a0 x1 hl0 h
theorem vX6_areAlike_b79 {x : CT} (hx : CX x cX6_areAlike RX6 rmX6_areAlike (some .boolean)) {r0 : Int32} {w : Wd} (hq : RI x rmX6_areAlike r0 w) {rec79 : Nat → Int32 → Int32 → Int32 → Option (Int32)} {a0 : Nat} {x1 : Int32} {x2 : Int32} {x3 : Int32} (hrec79 : ∀ (a0 : Nat) (x1 : Int32) (x2 : Int32) (x3 : Int32), rec79 a0 x1 x2 x3 = some r0 → (zL w 6 a0 = true) → V x 79 [some (.ref a0), some (.int x1), some (.int x2), some (.int x3)] [] (Rp (xD x) w) 0 0) (hl0 : zL w 6 a0 = true) (h : fX6_areAlike_b79 w rec79 a0 x1 x2 x3 = some r0) : V x 79 [some (.ref a0), some (.int x1), some (.int x2), some (.int x3)] [] (Rp (xD x) w) 0 0 := by
  unfold fX6_areAlike_b79 at h
  refine v_iload_n (pc' := 80) hx dX6_areAlike_79 rfl rfl ?_
  refine v_aload_n (pc' := 81) hx dX6_areAlike_80 rfl rfl ?_
  obtain ⟨g_1, hq_2⟩ : ∃ q, zA w 6 a0 12 = q := ⟨_, rfl⟩
  refine v_getAq (pc' := 84) hx hl0 fi_6_12.1 (by decide) hq_2 fk_X6_43 dX6_areAlike_81 rfl ?_
  refine v_iload_n (pc' := 85) hx dX6_areAlike_84 rfl rfl ?_
  replace h := ckp_inv h; obtain ⟨hk_3, h⟩ := h
  refine v_ialdq (pc' := 86) hx hl0 fi_6_12.1 fi_6_12.2.1 rfl hk_3 hq_2 dX6_areAlike_85 rfl ?_
  refine v_icmp_ge (tgt := 122) (pc' := 89) hx dX6_areAlike_86 (by decide) rfl (fun hc_4 => ?_) (fun hc_4 => ?_)
  · rw [if_pos hc_4] at h
    refine v_iconst (pc' := 123) (v := 1) hx dX6_areAlike_122 (by decide) rfl ?_
    replace h := ckp_inv h; obtain ⟨hk_5, h⟩ := h
    exact v_zret hx hq (by decide) (by decide) dX6_areAlike_123 hk_5 (by cases h; rfl)
  · rw [if_neg hc_4] at h
    refine v_aload_n (pc' := 90) hx dX6_areAlike_89 rfl rfl ?_
    obtain ⟨g_6, hq_7⟩ : ∃ q, zA w 6 a0 13 = q := ⟨_, rfl⟩
    refine v_getAq (pc' := 93) hx hl0 fi_6_13.1 (by decide) hq_7 fk_X6_46 dX6_areAlike_90 rfl ?_
    refine v_bipush (pc' := 95) (v := 12) hx dX6_areAlike_93 (by decide) rfl ?_
    refine v_iload_n (pc' := 96) hx dX6_areAlike_95 rfl rfl ?_
    refine v_imul (pc' := 97) hx dX6_areAlike_96 rfl ?_
    refine v_iload_n (pc' := 98) hx dX6_areAlike_97 rfl rfl ?_
    refine v_iadd (pc' := 99) hx dX6_areAlike_98 rfl ?_
    replace h := ckp_inv h; obtain ⟨hk_8, h⟩ := h
    refine v_baldq (pc' := 100) hx hl0 fi_6_13.1 fi_6_13.2.1 rfl hk_8 hq_7 dX6_areAlike_99 rfl ?_
    refine v_aload_n (pc' := 101) hx dX6_areAlike_100 rfl rfl ?_
    obtain ⟨g_9, hq_10⟩ : ∃ q, zA w 6 a0 13 = q := ⟨_, rfl⟩
    refine v_getAq (pc' := 104) hx hl0 fi_6_13.1 (by decide) hq_10 fk_X6_46 dX6_areAlike_101 rfl ?_
    refine v_bipush (pc' := 106) (v := 12) hx dX6_areAlike_104 (by decide) rfl ?_
    refine v_iload_n (pc' := 107) hx dX6_areAlike_106 rfl rfl ?_
    refine v_imul (pc' := 108) hx dX6_areAlike_107 rfl ?_
    refine v_iload_n (pc' := 109) hx dX6_areAlike_108 rfl rfl ?_
    refine v_iadd (pc' := 110) hx dX6_areAlike_109 rfl ?_
    replace h := ckp_inv h; obtain ⟨hk_11, h⟩ := h
    refine v_baldq (pc' := 111) hx hl0 fi_6_13.1 fi_6_13.2.1 rfl hk_11 hq_10 dX6_areAlike_110 rfl ?_
    refine v_icmp_eq (tgt := 116) (pc' := 114) hx dX6_areAlike_111 (by decide) rfl (fun hc_12 => ?_) (fun hc_12 => ?_)
    · rw [if_pos hc_12] at h
      refine v_iinc (pc' := 119) (w0 := (x3 + 1)) (L' := [some (.ref a0), some (.int x1), some (.int x2), some (.int (x3 + 1))]) hx dX6_areAlike_116 rfl rfl rfl rfl ?_
      refine v_goto (tgt := 79) hx dX6_areAlike_119 (by decide) ?_
      exact hrec79 a0 x1 x2 (x3 + 1) h hl0
    · rw [if_neg hc_12] at h
      refine v_iconst (pc' := 115) (v := 0) hx dX6_areAlike_114 (by decide) rfl ?_
      replace h := ckp_inv h; obtain ⟨hk_13, h⟩ := h
      exact v_zret hx hq (by decide) (by decide) dX6_areAlike_115 hk_13 (by cases h; rfl)
theorem vX6_areAlike_l79 {x : CT} (hx : CX x cX6_areAlike RX6 rmX6_areAlike (some .boolean)) {r0 : Int32} {w : Wd} (hq : RI x rmX6_areAlike r0 w) : ∀ (n : Nat) (a0 : Nat) (x1 : Int32) (x2 : Int32) (x3 : Int32), (zL w 6 a0 = true) → fX6_areAlike_l79 w n a0 x1 x2 x3 = some r0 → V x 79 [some (.ref a0), some (.int x1), some (.int x2), some (.int x3)] [] (Rp (xD x) w) 0 0 := by
  intro n
  induction n with
  | zero => intro a0 x1 x2 x3 hl0 h; cases h
  | succ n ih =>
    intro a0 x1 x2 x3 hl0 h
    exact vX6_areAlike_b79 hx hq  (fun a0 x1 x2 x3 h hl0 => ih a0 x1 x2 x3 hl0 h) hl0 h
theorem vX6_areAlike_b75 {x : CT} (hx : CX x cX6_areAlike RX6 rmX6_areAlike (some .boolean)) {r0 : Int32} {w : Wd} (hq : RI x rmX6_areAlike r0 w) (h : fX6_areAlike_b75 w = some r0) : V x 75 [none, none, none, none] [] (Rp (xD x) w) 0 0 := by
  unfold fX6_areAlike_b75 at h
  refine v_iconst (pc' := 76) (v := 0) hx dX6_areAlike_75 (by decide) rfl ?_
  replace h := ckp_inv h; obtain ⟨hk_1, h⟩ := h
  exact v_zret hx hq (by decide) (by decide) dX6_areAlike_76 hk_1 (by cases h; rfl)
theorem vX6_areAlike {x : CT} (hx : CX x cX6_areAlike RX6 rmX6_areAlike (some .boolean)) {r0 : Int32} {w : Wd} (hq : RI x rmX6_areAlike r0 w) (a0 : Nat) (x1 : Int32) (x2 : Int32) (hl0 : zL w 6 a0 = true) (h : fX6_areAlike a0 x1 x2 w = some r0) : V x 0 [some (.ref a0), some (.int x1), some (.int x2), none] [] (Rp (xD x) w) 0 0 := by
  unfold fX6_areAlike at h
  refine v_aload_n (pc' := 1) hx dX6_areAlike_0 rfl rfl ?_
  obtain ⟨g_1, hq_2⟩ : ∃ q, zA w 6 a0 8 = q := ⟨_, rfl⟩
  refine v_getAq (pc' := 4) hx hl0 fi_6_8.1 (by decide) hq_2 fk_X6_31 dX6_areAlike_1 rfl ?_
  refine v_iload_n (pc' := 5) hx dX6_areAlike_4 rfl rfl ?_
  replace h := ckp_inv h; obtain ⟨hk_3, h⟩ := h
  refine v_ialdq (pc' := 6) hx hl0 fi_6_8.1 fi_6_8.2.1 rfl hk_3 hq_2 dX6_areAlike_5 rfl ?_
  refine v_aload_n (pc' := 7) hx dX6_areAlike_6 rfl rfl ?_
  obtain ⟨g_4, hq_5⟩ : ∃ q, zA w 6 a0 8 = q := ⟨_, rfl⟩
  refine v_getAq (pc' := 10) hx hl0 fi_6_8.1 (by decide) hq_5 fk_X6_31 dX6_areAlike_7 rfl ?_
  refine v_iload_n (pc' := 11) hx dX6_areAlike_10 rfl rfl ?_
  replace h := ckp_inv h; obtain ⟨hk_6, h⟩ := h
  refine v_ialdq (pc' := 12) hx hl0 fi_6_8.1 fi_6_8.2.1 rfl hk_6 hq_5 dX6_areAlike_11 rfl ?_
  refine v_icmp_ne (tgt := 75) (pc' := 15) hx dX6_areAlike_12 (by decide) rfl (fun hc_7 => ?_) (fun hc_7 => ?_)
  · rw [if_neg hc_7] at h
    refine V.sb (L' := [none, none, none, none]) ⟨Or.inl rfl, Or.inl rfl, Or.inl rfl, Or.inl rfl, trivial⟩ ?_
    exact vX6_areAlike_b75 hx hq h
  · rw [if_pos hc_7] at h
    refine v_aload_n (pc' := 16) hx dX6_areAlike_15 rfl rfl ?_
    obtain ⟨g_8, hq_9⟩ : ∃ q, zA w 6 a0 9 = q := ⟨_, rfl⟩
    refine v_getAq (pc' := 19) hx hl0 fi_6_9.1 (by decide) hq_9 fk_X6_34 dX6_areAlike_16 rfl ?_
    refine v_iload_n (pc' := 20) hx dX6_areAlike_19 rfl rfl ?_
    replace h := ckp_inv h; obtain ⟨hk_10, h⟩ := h
    refine v_ialdq (pc' := 21) hx hl0 fi_6_9.1 fi_6_9.2.1 rfl hk_10 hq_9 dX6_areAlike_20 rfl ?_
    refine v_aload_n (pc' := 22) hx dX6_areAlike_21 rfl rfl ?_
    obtain ⟨g_11, hq_12⟩ : ∃ q, zA w 6 a0 9 = q := ⟨_, rfl⟩
    refine v_getAq (pc' := 25) hx hl0 fi_6_9.1 (by decide) hq_12 fk_X6_34 dX6_areAlike_22 rfl ?_
    refine v_iload_n (pc' := 26) hx dX6_areAlike_25 rfl rfl ?_
    replace h := ckp_inv h; obtain ⟨hk_13, h⟩ := h
    refine v_ialdq (pc' := 27) hx hl0 fi_6_9.1 fi_6_9.2.1 rfl hk_13 hq_12 dX6_areAlike_26 rfl ?_
    refine v_icmp_ne (tgt := 75) (pc' := 30) hx dX6_areAlike_27 (by decide) rfl (fun hc_14 => ?_) (fun hc_14 => ?_)
    · rw [if_neg hc_14] at h
      refine V.sb (L' := [none, none, none, none]) ⟨Or.inl rfl, Or.inl rfl, Or.inl rfl, Or.inl rfl, trivial⟩ ?_
      exact vX6_areAlike_b75 hx hq h
    · rw [if_pos hc_14] at h
      refine v_aload_n (pc' := 31) hx dX6_areAlike_30 rfl rfl ?_
      obtain ⟨g_15, hq_16⟩ : ∃ q, zA w 6 a0 10 = q := ⟨_, rfl⟩
      refine v_getAq (pc' := 34) hx hl0 fi_6_10.1 (by decide) hq_16 fk_X6_37 dX6_areAlike_31 rfl ?_
      refine v_iload_n (pc' := 35) hx dX6_areAlike_34 rfl rfl ?_
      replace h := ckp_inv h; obtain ⟨hk_17, h⟩ := h
      refine v_ialdq (pc' := 36) hx hl0 fi_6_10.1 fi_6_10.2.1 rfl hk_17 hq_16 dX6_areAlike_35 rfl ?_
      refine v_aload_n (pc' := 37) hx dX6_areAlike_36 rfl rfl ?_
      obtain ⟨g_18, hq_19⟩ : ∃ q, zA w 6 a0 10 = q := ⟨_, rfl⟩
      refine v_getAq (pc' := 40) hx hl0 fi_6_10.1 (by decide) hq_19 fk_X6_37 dX6_areAlike_37 rfl ?_
      refine v_iload_n (pc' := 41) hx dX6_areAlike_40 rfl rfl ?_
      replace h := ckp_inv h; obtain ⟨hk_20, h⟩ := h
      refine v_ialdq (pc' := 42) hx hl0 fi_6_10.1 fi_6_10.2.1 rfl hk_20 hq_19 dX6_areAlike_41 rfl ?_
      refine v_icmp_ne (tgt := 75) (pc' := 45) hx dX6_areAlike_42 (by decide) rfl (fun hc_21 => ?_) (fun hc_21 => ?_)
      · rw [if_neg hc_21] at h
        refine V.sb (L' := [none, none, none, none]) ⟨Or.inl rfl, Or.inl rfl, Or.inl rfl, Or.inl rfl, trivial⟩ ?_
        exact vX6_areAlike_b75 hx hq h
      · rw [if_pos hc_21] at h
        refine v_aload_n (pc' := 46) hx dX6_areAlike_45 rfl rfl ?_
        obtain ⟨g_22, hq_23⟩ : ∃ q, zA w 6 a0 11 = q := ⟨_, rfl⟩
        refine v_getAq (pc' := 49) hx hl0 fi_6_11.1 (by decide) hq_23 fk_X6_40 dX6_areAlike_46 rfl ?_
        refine v_iload_n (pc' := 50) hx dX6_areAlike_49 rfl rfl ?_
        replace h := ckp_inv h; obtain ⟨hk_24, h⟩ := h
        refine v_ialdq (pc' := 51) hx hl0 fi_6_11.1 fi_6_11.2.1 rfl hk_24 hq_23 dX6_areAlike_50 rfl ?_
        refine v_aload_n (pc' := 52) hx dX6_areAlike_51 rfl rfl ?_
        obtain ⟨g_25, hq_26⟩ : ∃ q, zA w 6 a0 11 = q := ⟨_, rfl⟩
        refine v_getAq (pc' := 55) hx hl0 fi_6_11.1 (by decide) hq_26 fk_X6_40 dX6_areAlike_52 rfl ?_
        refine v_iload_n (pc' := 56) hx dX6_areAlike_55 rfl rfl ?_
        replace h := ckp_inv h; obtain ⟨hk_27, h⟩ := h
        refine v_ialdq (pc' := 57) hx hl0 fi_6_11.1 fi_6_11.2.1 rfl hk_27 hq_26 dX6_areAlike_56 rfl ?_
        refine v_icmp_ne (tgt := 75) (pc' := 60) hx dX6_areAlike_57 (by decide) rfl (fun hc_28 => ?_) (fun hc_28 => ?_)
        · rw [if_neg hc_28] at h
          refine V.sb (L' := [none, none, none, none]) ⟨Or.inl rfl, Or.inl rfl, Or.inl rfl, Or.inl rfl, trivial⟩ ?_
          exact vX6_areAlike_b75 hx hq h
        · rw [if_pos hc_28] at h
          refine v_aload_n (pc' := 61) hx dX6_areAlike_60 rfl rfl ?_
          obtain ⟨g_29, hq_30⟩ : ∃ q, zA w 6 a0 12 = q := ⟨_, rfl⟩
          refine v_getAq (pc' := 64) hx hl0 fi_6_12.1 (by decide) hq_30 fk_X6_43 dX6_areAlike_61 rfl ?_
          refine v_iload_n (pc' := 65) hx dX6_areAlike_64 rfl rfl ?_
          replace h := ckp_inv h; obtain ⟨hk_31, h⟩ := h
          refine v_ialdq (pc' := 66) hx hl0 fi_6_12.1 fi_6_12.2.1 rfl hk_31 hq_30 dX6_areAlike_65 rfl ?_
          refine v_aload_n (pc' := 67) hx dX6_areAlike_66 rfl rfl ?_
          obtain ⟨g_32, hq_33⟩ : ∃ q, zA w 6 a0 12 = q := ⟨_, rfl⟩
          refine v_getAq (pc' := 70) hx hl0 fi_6_12.1 (by decide) hq_33 fk_X6_43 dX6_areAlike_67 rfl ?_
          refine v_iload_n (pc' := 71) hx dX6_areAlike_70 rfl rfl ?_
          replace h := ckp_inv h; obtain ⟨hk_34, h⟩ := h
          refine v_ialdq (pc' := 72) hx hl0 fi_6_12.1 fi_6_12.2.1 rfl hk_34 hq_33 dX6_areAlike_71 rfl ?_
          refine v_icmp_eq (tgt := 77) (pc' := 75) hx dX6_areAlike_72 (by decide) rfl (fun hc_35 => ?_) (fun hc_35 => ?_)
          · rw [if_pos hc_35] at h
            refine v_iconst (pc' := 78) (v := 0) hx dX6_areAlike_77 (by decide) rfl ?_
            refine v_istore_n (pc' := 79) (L' := [some (.ref a0), some (.int x1), some (.int x2), some (.int 0)]) hx dX6_areAlike_78 rfl rfl (Nat.le_of_ble_eq_true rfl) ?_
            exact vX6_areAlike_l79 hx hq 1000 a0 x1 x2 0 hl0 h
          · rw [if_neg hc_35] at h
            refine V.sb (L' := [none, none, none, none]) ⟨Or.inl rfl, Or.inl rfl, Or.inl rfl, Or.inl rfl, trivial⟩ ?_
            exact vX6_areAlike_b75 hx hq h
theorem ctX6_areAlike (l : Launch) (D : DD) (w : Wd) (G : GT) (sz : Nat) (hR : Rp D w G sz) (a0 : Nat) (x1 : Int32) (x2 : Int32) (hl0 : zL w 6 a0 = true) {r0 : Int32} (h : fX6_areAlike a0 x1 x2 w = some r0) : MetI l yX6_areAlike (WS yX6_areAlike cX6_areAlike 4 (some .boolean)) rmX6_areAlike D [.ref a0, .int x1, .int x2] G sz r0 w := by
  refine MetI_ofV (own := RX6) (P := Rp D w) hR (by decide) rfl (by simp [Value.category]) (Nat.le_of_ble_eq_true rfl) (fun x hx hq hD hl => ?_)
  subst hD
  exact vX6_areAlike hx hq a0 x1 x2 hl0 h
theorem vX6_isStuck_b76 {x : CT} (hx : CX x cX6_isStuck RX6 rmX6_isStuck (some .boolean)) {r0 : Int32} {w : Wd} (hq : RI x rmX6_isStuck r0 w) {xs0 : Int32} (h : fX6_isStuck_b76 w xs0 = some r0) : V x 76 [none, none, none, none, none, none] [.int xs0] (Rp (xD x) w) 0 0 := by
  unfold fX6_isStuck_b76 at h
  replace h := ckp_inv h; obtain ⟨hk_1, h⟩ := h
  exact v_zret hx hq (by decide) (by decide) dX6_isStuck_76 hk_1 (by cases h; rfl)
theorem vX6_isStuck_b60 {x : CT} (hx : CX x cX6_isStuck RX6 rmX6_isStuck (some .boolean)) {r0 : Int32} {w : Wd} (hq : RI x rmX6_isStuck r0 w) {rec7 : Nat → Int32 → Int32 → Int32 → Int32 → Option (Int32)} {a0 : Nat} {x1 : Int32} {x2 : Int32} {x3 : Int32} {x4 : Int32} (hrec7 : ∀ (a0 : Nat) (x1 : Int32) (x2 : Int32) (x3 : Int32) (x4 : Int32), rec7 a0 x1 x2 x3 x4 = some r0 → (zL w 6 a0 = true) → V x 7 [some (.ref a0), some (.int x1), some (.int x2), some (.int x3), some (.int x4), none] [] (Rp (xD x) w) 0 0) (hl0 : zL w 6 a0 = true) (h : fX6_isStuck_b60 w rec7 a0 x1 x2 x3 x4 = some r0) : V x 60 [some (.ref a0), some (.int x1), some (.int x2), some (.int x3), some (.int x4), none] [] (Rp (xD x) w) 0 0 := by
  unfold fX6_isStuck_b60 at h
  refine v_iinc (pc' := 63) (w0 := (x4 + 1)) (L' := [some (.ref a0), some (.int x1), some (.int x2), some (.int x3), some (.int (x4 + 1)), none]) hx dX6_isStuck_60 rfl rfl rfl rfl ?_
  refine v_goto (tgt := 7) hx dX6_isStuck_63 (by decide) ?_
  exact hrec7 a0 x1 x2 x3 (x4 + 1) h hl0
theorem vX6_isStuck_b54 {x : CT} (hx : CX x cX6_isStuck RX6 rmX6_isStuck (some .boolean)) {r0 : Int32} {w : Wd} (hq : RI x rmX6_isStuck r0 w) {rec7 : Nat → Int32 → Int32 → Int32 → Int32 → Option (Int32)} {a0 : Nat} {x1 : Int32} {x2 : Int32} {x4 : Int32} {x5 : Int32} (hrec7 : ∀ (a0 : Nat) (x1 : Int32) (x2 : Int32) (x3 : Int32) (x4 : Int32), rec7 a0 x1 x2 x3 x4 = some r0 → (zL w 6 a0 = true) → V x 7 [some (.ref a0), some (.int x1), some (.int x2), some (.int x3), some (.int x4), none] [] (Rp (xD x) w) 0 0) (hl0 : zL w 6 a0 = true) (h : fX6_isStuck_b54 w rec7 a0 x1 x2 x4 x5 = some r0) : V x 54 [some (.ref a0), some (.int x1), some (.int x2), none, some (.int x4), some (.int x5)] [] (Rp (xD x) w) 0 0 := by
  unfold fX6_isStuck_b54 at h
  refine v_iload (pc' := 56) hx dX6_isStuck_54 rfl rfl ?_
  refine v_istore_n (pc' := 57) (L' := [some (.ref a0), some (.int x1), some (.int x2), some (.int x5), some (.int x4), some (.int x5)]) hx dX6_isStuck_56 rfl rfl (Nat.le_of_ble_eq_true rfl) ?_
  refine v_iinc (pc' := 60) (w0 := (x2 + 1)) (L' := [some (.ref a0), some (.int x1), some (.int (x2 + 1)), some (.int x5), some (.int x4), some (.int x5)]) hx dX6_isStuck_57 rfl rfl rfl rfl ?_
  refine V.sb (L' := [some (.ref a0), some (.int x1), some (.int (x2 + 1)), some (.int x5), some (.int x4), none]) ⟨Or.inr rfl, Or.inr rfl, Or.inr rfl, Or.inr rfl, Or.inr rfl, Or.inl rfl, trivial⟩ ?_
  exact vX6_isStuck_b60 hx hq hrec7 hl0 h
theorem vX6_isStuck_b7 {x : CT} (hx : CX x cX6_isStuck RX6 rmX6_isStuck (some .boolean)) {r0 : Int32} {w : Wd} (hq : RI x rmX6_isStuck r0 w) {rec7 : Nat → Int32 → Int32 → Int32 → Int32 → Option (Int32)} {a0 : Nat} {x1 : Int32} {x2 : Int32} {x3 : Int32} {x4 : Int32} (hrec7 : ∀ (a0 : Nat) (x1 : Int32) (x2 : Int32) (x3 : Int32) (x4 : Int32), rec7 a0 x1 x2 x3 x4 = some r0 → (zL w 6 a0 = true) → V x 7 [some (.ref a0), some (.int x1), some (.int x2), some (.int x3), some (.int x4), none] [] (Rp (xD x) w) 0 0) (hl0 : zL w 6 a0 = true) (h : fX6_isStuck_b7 w rec7 a0 x1 x2 x3 x4 = some r0) : V x 7 [some (.ref a0), some (.int x1), some (.int x2), some (.int x3), some (.int x4), none] [] (Rp (xD x) w) 0 0 := by
  unfold fX6_isStuck_b7 at h
  refine v_iload (pc' := 9) hx dX6_isStuck_7 rfl rfl ?_
  refine v_aload_n (pc' := 10) hx dX6_isStuck_9 rfl rfl ?_
  refine v_getI (pc' := 13) hx hl0 fi_6_2.1 fi_6_2.2.1 fk_X6_136 dX6_isStuck_10 rfl ?_
  refine v_icmp_ge (tgt := 66) (pc' := 16) hx dX6_isStuck_13 (by decide) rfl (fun hc_1 => ?_) (fun hc_1 => ?_)
  · rw [if_pos hc_1] at h
    refine v_iload_n (pc' := 67) hx dX6_isStuck_66 rfl rfl ?_
    refine v_iconst (pc' := 68) (v := 1) hx dX6_isStuck_67 (by decide) rfl ?_
    refine v_icmp_le (tgt := 75) (pc' := 71) hx dX6_isStuck_68 (by decide) rfl (fun hc_2 => ?_) (fun hc_2 => ?_)
    · rw [if_pos hc_2] at h
      refine v_iconst (pc' := 76) (v := 0) hx dX6_isStuck_75 (by decide) rfl ?_
      refine V.sb (L' := [none, none, none, none, none, none]) ⟨Or.inl rfl, Or.inl rfl, Or.inl rfl, Or.inl rfl, Or.inl rfl, Or.inl rfl, trivial⟩ ?_
      exact vX6_isStuck_b76 hx hq h
    · rw [if_neg hc_2] at h
      refine v_iconst (pc' := 72) (v := 1) hx dX6_isStuck_71 (by decide) rfl ?_
      refine v_goto (tgt := 76) hx dX6_isStuck_72 (by decide) ?_
      refine V.sb (L' := [none, none, none, none, none, none]) ⟨Or.inl rfl, Or.inl rfl, Or.inl rfl, Or.inl rfl, Or.inl rfl, Or.inl rfl, trivial⟩ ?_
      exact vX6_isStuck_b76 hx hq h
  · rw [if_neg hc_1] at h
    refine v_bipush (pc' := 18) (v := 24) hx dX6_isStuck_16 (by decide) rfl ?_
    refine v_iload (pc' := 20) hx dX6_isStuck_18 rfl rfl ?_
    refine v_imul (pc' := 21) hx dX6_isStuck_20 rfl ?_
    refine v_iload_n (pc' := 22) hx dX6_isStuck_21 rfl rfl ?_
    refine v_iadd (pc' := 23) hx dX6_isStuck_22 rfl ?_
    refine v_istore (pc' := 25) (L' := [some (.ref a0), some (.int x1), some (.int x2), some (.int x3), some (.int x4), some (.int ((24 * x4) + x1))]) hx dX6_isStuck_23 rfl rfl (Nat.le_of_ble_eq_true rfl) ?_
    refine v_aload_n (pc' := 26) hx dX6_isStuck_25 rfl rfl ?_
    obtain ⟨g_3, hq_4⟩ : ∃ q, zA w 6 a0 7 = q := ⟨_, rfl⟩
    refine v_getAq (pc' := 29) hx hl0 fi_6_7.1 (by decide) hq_4 fk_X6_27 dX6_isStuck_26 rfl ?_
    refine v_iload (pc' := 31) hx dX6_isStuck_29 rfl rfl ?_
    replace h := ckp_inv h; obtain ⟨hk_5, h⟩ := h
    refine v_zaldq (pc' := 32) hx hl0 fi_6_7.1 fi_6_7.2.1 rfl hk_5 hq_4 dX6_isStuck_31 rfl ?_
    refine v_if_ne (tgt := 38) (pc' := 35) hx dX6_isStuck_32 (by decide) rfl (fun hc_6 => ?_) (fun hc_6 => ?_)
    · rw [if_neg hc_6] at h
      refine v_iload_n (pc' := 39) hx dX6_isStuck_38 rfl rfl ?_
      refine v_if_le (tgt := 54) (pc' := 42) hx dX6_isStuck_39 (by decide) rfl (fun hc_7 => ?_) (fun hc_7 => ?_)
      · rw [if_pos hc_7] at h
        refine V.sb (L' := [some (.ref a0), some (.int x1), some (.int x2), none, some (.int x4), some (.int ((24 * x4) + x1))]) ⟨Or.inr rfl, Or.inr rfl, Or.inr rfl, Or.inl rfl, Or.inr rfl, Or.inr rfl, trivial⟩ ?_
        exact vX6_isStuck_b54 hx hq hrec7 hl0 h
      · rw [if_neg hc_7] at h
        refine v_aload_n (pc' := 43) hx dX6_isStuck_42 rfl rfl ?_
        refine v_iload_n (pc' := 44) hx dX6_isStuck_43 rfl rfl ?_
        refine v_iload (pc' := 46) hx dX6_isStuck_44 rfl rfl ?_
        replace h := bd_inv h; obtain ⟨y_9, hcl_8, h⟩ := h
        refine v_callVi (pc' := 49) (w' := w) (r := y_9) (ci := 6) (b := a0) (As := [.int x3, .int ((24 * x4) + x1)]) (rest := []) hx hl0 (fun G sz hR => ctX6_areAlike (xl x) (xD x) w G sz hR a0 x3 ((24 * x4) + x1) hl0 hcl_8) rfl my_X6_areAlike ml_X6_175 ⟨by decide, by decide⟩ ⟨by decide, by decide⟩ rfl rfl (Nat.le_of_ble_eq_true rfl) dX6_isStuck_46 rfl ?_
        refine v_if_ne (tgt := 54) (pc' := 52) hx dX6_isStuck_49 (by decide) rfl (fun hc_11 => ?_) (fun hc_11 => ?_)
        · rw [if_neg hc_11] at h
          refine V.sb (L' := [some (.ref a0), some (.int x1), some (.int x2), none, some (.int x4), some (.int ((24 * x4) + x1))]) ⟨Or.inr rfl, Or.inr rfl, Or.inr rfl, Or.inl rfl, Or.inr rfl, Or.inr rfl, trivial⟩ ?_
          exact vX6_isStuck_b54 hx hq hrec7 hl0 h
        · rw [if_pos hc_11] at h
          refine v_iconst (pc' := 53) (v := 0) hx dX6_isStuck_52 (by decide) rfl ?_
          replace h := ckp_inv h; obtain ⟨hk_12, h⟩ := h
          exact v_zret hx hq (by decide) (by decide) dX6_isStuck_53 hk_12 (by cases h; rfl)
    · rw [if_pos hc_6] at h
      refine v_goto (tgt := 60) hx dX6_isStuck_35 (by decide) ?_
      refine V.sb (L' := [some (.ref a0), some (.int x1), some (.int x2), some (.int x3), some (.int x4), none]) ⟨Or.inr rfl, Or.inr rfl, Or.inr rfl, Or.inr rfl, Or.inr rfl, Or.inl rfl, trivial⟩ ?_
      exact vX6_isStuck_b60 hx hq hrec7 hl0 h
theorem vX6_isStuck_l7 {x : CT} (hx : CX x cX6_isStuck RX6 rmX6_isStuck (some .boolean)) {r0 : Int32} {w : Wd} (hq : RI x rmX6_isStuck r0 w) : ∀ (n : Nat) (a0 : Nat) (x1 : Int32) (x2 : Int32) (x3 : Int32) (x4 : Int32), (zL w 6 a0 = true) → fX6_isStuck_l7 w n a0 x1 x2 x3 x4 = some r0 → V x 7 [some (.ref a0), some (.int x1), some (.int x2), some (.int x3), some (.int x4), none] [] (Rp (xD x) w) 0 0 := by
  intro n
  induction n with
  | zero => intro a0 x1 x2 x3 x4 hl0 h; cases h
  | succ n ih =>
    intro a0 x1 x2 x3 x4 hl0 h
    exact vX6_isStuck_b7 hx hq  (fun a0 x1 x2 x3 x4 h hl0 => ih a0 x1 x2 x3 x4 hl0 h) hl0 h
theorem vX6_isStuck {x : CT} (hx : CX x cX6_isStuck RX6 rmX6_isStuck (some .boolean)) {r0 : Int32} {w : Wd} (hq : RI x rmX6_isStuck r0 w) (a0 : Nat) (x1 : Int32) (hl0 : zL w 6 a0 = true) (h : fX6_isStuck a0 x1 w = some r0) : V x 0 [some (.ref a0), some (.int x1), none, none, none, none] [] (Rp (xD x) w) 0 0 := by
  unfold fX6_isStuck at h
  refine v_iconst (pc' := 1) (v := 0) hx dX6_isStuck_0 (by decide) rfl ?_
  refine v_istore_n (pc' := 2) (L' := [some (.ref a0), some (.int x1), some (.int 0), none, none, none]) hx dX6_isStuck_1 rfl rfl (Nat.le_of_ble_eq_true rfl) ?_
  refine v_iconst (pc' := 3) (v := 0) hx dX6_isStuck_2 (by decide) rfl ?_
  refine v_istore_n (pc' := 4) (L' := [some (.ref a0), some (.int x1), some (.int 0), some (.int 0), none, none]) hx dX6_isStuck_3 rfl rfl (Nat.le_of_ble_eq_true rfl) ?_
  refine v_iconst (pc' := 5) (v := 0) hx dX6_isStuck_4 (by decide) rfl ?_
  refine v_istore (pc' := 7) (L' := [some (.ref a0), some (.int x1), some (.int 0), some (.int 0), some (.int 0), none]) hx dX6_isStuck_5 rfl rfl (Nat.le_of_ble_eq_true rfl) ?_
  exact vX6_isStuck_l7 hx hq 1000 a0 x1 0 0 0 hl0 h
theorem ctX6_isStuck (l : Launch) (D : DD) (w : Wd) (G : GT) (sz : Nat) (hR : Rp D w G sz) (a0 : Nat) (x1 : Int32) (hl0 : zL w 6 a0 = true) {r0 : Int32} (h : fX6_isStuck a0 x1 w = some r0) : MetI l yX6_isStuck (WS yX6_isStuck cX6_isStuck 6 (some .boolean)) rmX6_isStuck D [.ref a0, .int x1] G sz r0 w := by
  refine MetI_ofV (own := RX6) (P := Rp D w) hR (by decide) rfl (by simp [Value.category]) (Nat.le_of_ble_eq_true rfl) (fun x hx hq hD hl => ?_)
  subst hD
  exact vX6_isStuck hx hq a0 x1 hl0 h
theorem vX6_stuck_b41 {x : CT} (hx : CX x cX6_stuck RX6 rmX6_stuck (some .int)) {r0 : Int32} {w : Wd} (hq : RI x rmX6_stuck r0 w) (h : fX6_stuck_b41 w = some r0) : V x 41 [none, none, none, none] [] (Rp (xD x) w) 0 0 := by
  unfold fX6_stuck_b41 at h
  refine v_iconst (pc' := 42) (v := (-1)) hx dX6_stuck_41 (by decide) rfl ?_
  exact v_iret hx hq (by decide) (by decide) dX6_stuck_42 (by cases h; rfl)
theorem vX6_stuck_b35 {x : CT} (hx : CX x cX6_stuck RX6 rmX6_stuck (some .int)) {r0 : Int32} {w : Wd} (hq : RI x rmX6_stuck r0 w) {rec4 : Nat → Int32 → Int32 → Int32 → Option (Int32)} {a0 : Nat} {x1 : Int32} {x2 : Int32} {x3 : Int32} (hrec4 : ∀ (a0 : Nat) (x1 : Int32) (x2 : Int32) (x3 : Int32), rec4 a0 x1 x2 x3 = some r0 → (zL w 6 a0 = true) → V x 4 [some (.ref a0), some (.int x1), some (.int x2), some (.int x3)] [] (Rp (xD x) w) 0 0) (hl0 : zL w 6 a0 = true) (h : fX6_stuck_b35 w rec4 a0 x1 x2 x3 = some r0) : V x 35 [some (.ref a0), some (.int x1), some (.int x2), some (.int x3)] [] (Rp (xD x) w) 0 0 := by
  unfold fX6_stuck_b35 at h
  refine v_iinc (pc' := 38) (w0 := (x3 + 1)) (L' := [some (.ref a0), some (.int x1), some (.int x2), some (.int (x3 + 1))]) hx dX6_stuck_35 rfl rfl rfl rfl ?_
  refine v_goto (tgt := 4) hx dX6_stuck_38 (by decide) ?_
  exact hrec4 a0 x1 x2 (x3 + 1) h hl0
theorem vX6_stuck_b4 {x : CT} (hx : CX x cX6_stuck RX6 rmX6_stuck (some .int)) {r0 : Int32} {w : Wd} (hq : RI x rmX6_stuck r0 w) {rec4 : Nat → Int32 → Int32 → Int32 → Option (Int32)} {a0 : Nat} {x1 : Int32} {x2 : Int32} {x3 : Int32} (hrec4 : ∀ (a0 : Nat) (x1 : Int32) (x2 : Int32) (x3 : Int32), rec4 a0 x1 x2 x3 = some r0 → (zL w 6 a0 = true) → V x 4 [some (.ref a0), some (.int x1), some (.int x2), some (.int x3)] [] (Rp (xD x) w) 0 0) (hl0 : zL w 6 a0 = true) (h : fX6_stuck_b4 w rec4 a0 x1 x2 x3 = some r0) : V x 4 [some (.ref a0), some (.int x1), some (.int x2), some (.int x3)] [] (Rp (xD x) w) 0 0 := by
  unfold fX6_stuck_b4 at h
  refine v_iload_n (pc' := 5) hx dX6_stuck_4 rfl rfl ?_
  refine v_bipush (pc' := 7) (v := 24) hx dX6_stuck_5 (by decide) rfl ?_
  refine v_icmp_ge (tgt := 41) (pc' := 10) hx dX6_stuck_7 (by decide) rfl (fun hc_1 => ?_) (fun hc_1 => ?_)
  · rw [if_pos hc_1] at h
    refine V.sb (L' := [none, none, none, none]) ⟨Or.inl rfl, Or.inl rfl, Or.inl rfl, Or.inl rfl, trivial⟩ ?_
    exact vX6_stuck_b41 hx hq h
  · rw [if_neg hc_1] at h
    refine v_iload_n (pc' := 11) hx dX6_stuck_10 rfl rfl ?_
    refine v_if_lt (tgt := 41) (pc' := 14) hx dX6_stuck_11 (by decide) rfl (fun hc_2 => ?_) (fun hc_2 => ?_)
    · rw [if_pos hc_2] at h
      refine V.sb (L' := [none, none, none, none]) ⟨Or.inl rfl, Or.inl rfl, Or.inl rfl, Or.inl rfl, trivial⟩ ?_
      exact vX6_stuck_b41 hx hq h
    · rw [if_neg hc_2] at h
      refine v_aload_n (pc' := 15) hx dX6_stuck_14 rfl rfl ?_
      refine v_iload_n (pc' := 16) hx dX6_stuck_15 rfl rfl ?_
      replace h := bd_inv h; obtain ⟨y_4, hcl_3, h⟩ := h
      refine v_callVi (pc' := 19) (w' := w) (r := y_4) (ci := 6) (b := a0) (As := [.int x3]) (rest := []) hx hl0 (fun G sz hR => ctX6_isStuck (xl x) (xD x) w G sz hR a0 x3 hl0 hcl_3) rfl my_X6_isStuck ml_X6_178 ⟨by decide, by decide⟩ ⟨by decide, by decide⟩ rfl rfl (Nat.le_of_ble_eq_true rfl) dX6_stuck_16 rfl ?_
      refine v_if_ne (tgt := 25) (pc' := 22) hx dX6_stuck_19 (by decide) rfl (fun hc_6 => ?_) (fun hc_6 => ?_)
      · rw [if_neg hc_6] at h
        refine v_iload_n (pc' := 26) hx dX6_stuck_25 rfl rfl ?_
        refine v_iload_n (pc' := 27) hx dX6_stuck_26 rfl rfl ?_
        refine v_icmp_ne (tgt := 32) (pc' := 30) hx dX6_stuck_27 (by decide) rfl (fun hc_7 => ?_) (fun hc_7 => ?_)
        · rw [if_neg hc_7] at h
          refine v_iinc (pc' := 35) (w0 := (x2 + 1)) (L' := [some (.ref a0), some (.int x1), some (.int (x2 + 1)), some (.int x3)]) hx dX6_stuck_32 rfl rfl rfl rfl ?_
          exact vX6_stuck_b35 hx hq hrec4 hl0 h
        · rw [if_pos hc_7] at h
          refine v_iload_n (pc' := 31) hx dX6_stuck_30 rfl rfl ?_
          exact v_iret hx hq (by decide) (by decide) dX6_stuck_31 (by cases h; rfl)
      · rw [if_pos hc_6] at h
        refine v_goto (tgt := 35) hx dX6_stuck_22 (by decide) ?_
        exact vX6_stuck_b35 hx hq hrec4 hl0 h
theorem vX6_stuck_l4 {x : CT} (hx : CX x cX6_stuck RX6 rmX6_stuck (some .int)) {r0 : Int32} {w : Wd} (hq : RI x rmX6_stuck r0 w) : ∀ (n : Nat) (a0 : Nat) (x1 : Int32) (x2 : Int32) (x3 : Int32), (zL w 6 a0 = true) → fX6_stuck_l4 w n a0 x1 x2 x3 = some r0 → V x 4 [some (.ref a0), some (.int x1), some (.int x2), some (.int x3)] [] (Rp (xD x) w) 0 0 := by
  intro n
  induction n with
  | zero => intro a0 x1 x2 x3 hl0 h; cases h
  | succ n ih =>
    intro a0 x1 x2 x3 hl0 h
    exact vX6_stuck_b4 hx hq  (fun a0 x1 x2 x3 h hl0 => ih a0 x1 x2 x3 hl0 h) hl0 h
theorem vX6_stuck {x : CT} (hx : CX x cX6_stuck RX6 rmX6_stuck (some .int)) {r0 : Int32} {w : Wd} (hq : RI x rmX6_stuck r0 w) (a0 : Nat) (x1 : Int32) (hl0 : zL w 6 a0 = true) (h : fX6_stuck a0 x1 w = some r0) : V x 0 [some (.ref a0), some (.int x1), none, none] [] (Rp (xD x) w) 0 0 := by
  unfold fX6_stuck at h
  refine v_iconst (pc' := 1) (v := 0) hx dX6_stuck_0 (by decide) rfl ?_
  refine v_istore_n (pc' := 2) (L' := [some (.ref a0), some (.int x1), some (.int 0), none]) hx dX6_stuck_1 rfl rfl (Nat.le_of_ble_eq_true rfl) ?_
  refine v_iconst (pc' := 3) (v := 0) hx dX6_stuck_2 (by decide) rfl ?_
  refine v_istore_n (pc' := 4) (L' := [some (.ref a0), some (.int x1), some (.int 0), some (.int 0)]) hx dX6_stuck_3 rfl rfl (Nat.le_of_ble_eq_true rfl) ?_
  exact vX6_stuck_l4 hx hq 1000 a0 x1 0 0 hl0 h
theorem ctX6_stuck (l : Launch) (D : DD) (w : Wd) (G : GT) (sz : Nat) (hR : Rp D w G sz) (a0 : Nat) (x1 : Int32) (hl0 : zL w 6 a0 = true) {r0 : Int32} (h : fX6_stuck a0 x1 w = some r0) : MetI l yX6_stuck (WS yX6_stuck cX6_stuck 4 (some .int)) rmX6_stuck D [.ref a0, .int x1] G sz r0 w := by
  refine MetI_ofV (own := RX6) (P := Rp D w) hR (by decide) rfl (by simp [Value.category]) (Nat.le_of_ble_eq_true rfl) (fun x hx hq hD hl => ?_)
  subst hD
  exact vX6_stuck hx hq a0 x1 hl0 h
