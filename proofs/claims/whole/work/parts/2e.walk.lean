theorem vX6_stateOf_b41 {x : CT} (hx : CX x cX6_stateOf RX6 rmX6_stateOf (some .int)) {r0 : Int32} {w : Wd} (hq : RI x rmX6_stateOf r0 w) {xs0 : Int32} (h : fX6_stateOf_b41 w xs0 = some r0) : V x 41 [none] [.int xs0] (Rp (xD x) w) 0 0 := by
  unfold fX6_stateOf_b41 at h
  exact v_iret hx hq (by decide) (by decide) dX6_stateOf_41 (by cases h; rfl)
theorem vX6_stateOf {x : CT} (hx : CX x cX6_stateOf RX6 rmX6_stateOf (some .int)) {r0 : Int32} {w : Wd} (hq : RI x rmX6_stateOf r0 w) (x0 : Int32) (h : fX6_stateOf x0 w = some r0) : V x 0 [some (.int x0)] [] (Rp (xD x) w) 0 0 := by
  unfold fX6_stateOf at h
  refine v_iload_n (pc' := 1) hx dX6_stateOf_0 rfl rfl ?_
  refine v_bipush (pc' := 3) (v := 82) hx dX6_stateOf_1 (by decide) rfl ?_
  refine v_icmp_ne (tgt := 10) (pc' := 6) hx dX6_stateOf_3 (by decide) rfl (fun hc_1 => ?_) (fun hc_1 => ?_)
  · rw [if_neg hc_1] at h
    refine v_iload_n (pc' := 11) hx dX6_stateOf_10 rfl rfl ?_
    refine v_bipush (pc' := 13) (v := 87) hx dX6_stateOf_11 (by decide) rfl ?_
    refine v_icmp_ne (tgt := 20) (pc' := 16) hx dX6_stateOf_13 (by decide) rfl (fun hc_2 => ?_) (fun hc_2 => ?_)
    · rw [if_neg hc_2] at h
      refine v_iload_n (pc' := 21) hx dX6_stateOf_20 rfl rfl ?_
      refine v_bipush (pc' := 23) (v := 83) hx dX6_stateOf_21 (by decide) rfl ?_
      refine v_icmp_ne (tgt := 30) (pc' := 26) hx dX6_stateOf_23 (by decide) rfl (fun hc_3 => ?_) (fun hc_3 => ?_)
      · rw [if_neg hc_3] at h
        refine v_iload_n (pc' := 31) hx dX6_stateOf_30 rfl rfl ?_
        refine v_bipush (pc' := 33) (v := 70) hx dX6_stateOf_31 (by decide) rfl ?_
        refine v_icmp_ne (tgt := 40) (pc' := 36) hx dX6_stateOf_33 (by decide) rfl (fun hc_4 => ?_) (fun hc_4 => ?_)
        · rw [if_neg hc_4] at h
          refine v_iconst (pc' := 41) (v := (-1)) hx dX6_stateOf_40 (by decide) rfl ?_
          refine V.sb (L' := [none]) ⟨Or.inl rfl, trivial⟩ ?_
          exact vX6_stateOf_b41 hx hq h
        · rw [if_pos hc_4] at h
          refine v_iconst (pc' := 37) (v := 3) hx dX6_stateOf_36 (by decide) rfl ?_
          refine v_goto (tgt := 41) hx dX6_stateOf_37 (by decide) ?_
          refine V.sb (L' := [none]) ⟨Or.inl rfl, trivial⟩ ?_
          exact vX6_stateOf_b41 hx hq h
      · rw [if_pos hc_3] at h
        refine v_iconst (pc' := 27) (v := 2) hx dX6_stateOf_26 (by decide) rfl ?_
        refine v_goto (tgt := 41) hx dX6_stateOf_27 (by decide) ?_
        refine V.sb (L' := [none]) ⟨Or.inl rfl, trivial⟩ ?_
        exact vX6_stateOf_b41 hx hq h
    · rw [if_pos hc_2] at h
      refine v_iconst (pc' := 17) (v := 1) hx dX6_stateOf_16 (by decide) rfl ?_
      refine v_goto (tgt := 41) hx dX6_stateOf_17 (by decide) ?_
      refine V.sb (L' := [none]) ⟨Or.inl rfl, trivial⟩ ?_
      exact vX6_stateOf_b41 hx hq h
  · rw [if_pos hc_1] at h
    refine v_iconst (pc' := 7) (v := 0) hx dX6_stateOf_6 (by decide) rfl ?_
    refine v_goto (tgt := 41) hx dX6_stateOf_7 (by decide) ?_
    refine V.sb (L' := [none]) ⟨Or.inl rfl, trivial⟩ ?_
    exact vX6_stateOf_b41 hx hq h
theorem ctX6_stateOf (l : Launch) (D : DD) (w : Wd) (G : GT) (sz : Nat) (hR : Rp D w G sz) (x0 : Int32) {r0 : Int32} (h : fX6_stateOf x0 w = some r0) : MetI l yX6_stateOf (WS yX6_stateOf cX6_stateOf 1 (some .int)) rmX6_stateOf D [.int x0] G sz r0 w := by
  refine MetI_ofV (own := RX6) (P := Rp D w) hR (by decide) rfl (by simp [Value.category]) (Nat.le_of_ble_eq_true rfl) (fun x hx hq hD hl => ?_)
  subst hD
  exact vX6_stateOf hx hq x0  h
theorem vX6_heldBy_b38 {x : CT} (hx : CX x cX6_heldBy RX6 rmX6_heldBy (some .int)) {r0 : Int32} {w : Wd} (hq : RI x rmX6_heldBy r0 w) {rec4 : Nat → Int32 → Int32 → Int32 → Option (Int32)} {a0 : Nat} {x1 : Int32} {x2 : Int32} {x3 : Int32} (hrec4 : ∀ (a0 : Nat) (x1 : Int32) (x2 : Int32) (x3 : Int32), rec4 a0 x1 x2 x3 = some r0 → (zL w 6 a0 = true) → V x 4 [some (.ref a0), some (.int x1), some (.int x2), some (.int x3)] [] (Rp (xD x) w) 0 0) (hl0 : zL w 6 a0 = true) (h : fX6_heldBy_b38 w rec4 a0 x1 x2 x3 = some r0) : V x 38 [some (.ref a0), some (.int x1), some (.int x2), some (.int x3)] [] (Rp (xD x) w) 0 0 := by
  unfold fX6_heldBy_b38 at h
  refine v_iinc (pc' := 41) (w0 := (x3 + 1)) (L' := [some (.ref a0), some (.int x1), some (.int x2), some (.int (x3 + 1))]) hx dX6_heldBy_38 rfl rfl rfl rfl ?_
  refine v_goto (tgt := 4) hx dX6_heldBy_41 (by decide) ?_
  exact hrec4 a0 x1 x2 (x3 + 1) h hl0
theorem vX6_heldBy_b4 {x : CT} (hx : CX x cX6_heldBy RX6 rmX6_heldBy (some .int)) {r0 : Int32} {w : Wd} (hq : RI x rmX6_heldBy r0 w) {rec4 : Nat → Int32 → Int32 → Int32 → Option (Int32)} {a0 : Nat} {x1 : Int32} {x2 : Int32} {x3 : Int32} (hrec4 : ∀ (a0 : Nat) (x1 : Int32) (x2 : Int32) (x3 : Int32), rec4 a0 x1 x2 x3 = some r0 → (zL w 6 a0 = true) → V x 4 [some (.ref a0), some (.int x1), some (.int x2), some (.int x3)] [] (Rp (xD x) w) 0 0) (hl0 : zL w 6 a0 = true) (h : fX6_heldBy_b4 w rec4 a0 x1 x2 x3 = some r0) : V x 4 [some (.ref a0), some (.int x1), some (.int x2), some (.int x3)] [] (Rp (xD x) w) 0 0 := by
  unfold fX6_heldBy_b4 at h
  refine v_iload_n (pc' := 5) hx dX6_heldBy_4 rfl rfl ?_
  refine v_bipush (pc' := 7) (v := 24) hx dX6_heldBy_5 (by decide) rfl ?_
  refine v_icmp_ge (tgt := 44) (pc' := 10) hx dX6_heldBy_7 (by decide) rfl (fun hc_1 => ?_) (fun hc_1 => ?_)
  · rw [if_pos hc_1] at h
    refine v_iload_n (pc' := 45) hx dX6_heldBy_44 rfl rfl ?_
    exact v_iret hx hq (by decide) (by decide) dX6_heldBy_45 (by cases h; rfl)
  · rw [if_neg hc_1] at h
    refine v_aload_n (pc' := 11) hx dX6_heldBy_10 rfl rfl ?_
    obtain ⟨g_2, hq_3⟩ : ∃ q, zA w 6 a0 7 = q := ⟨_, rfl⟩
    refine v_getAq (pc' := 14) hx hl0 fi_6_7.1 (by decide) hq_3 fk_X6_27 dX6_heldBy_11 rfl ?_
    refine v_bipush (pc' := 16) (v := 24) hx dX6_heldBy_14 (by decide) rfl ?_
    refine v_iload_n (pc' := 17) hx dX6_heldBy_16 rfl rfl ?_
    refine v_imul (pc' := 18) hx dX6_heldBy_17 rfl ?_
    refine v_iload_n (pc' := 19) hx dX6_heldBy_18 rfl rfl ?_
    refine v_iadd (pc' := 20) hx dX6_heldBy_19 rfl ?_
    replace h := ckp_inv h; obtain ⟨hk_4, h⟩ := h
    refine v_zaldq (pc' := 21) hx hl0 fi_6_7.1 fi_6_7.2.1 rfl hk_4 hq_3 dX6_heldBy_20 rfl ?_
    refine v_if_eq (tgt := 38) (pc' := 24) hx dX6_heldBy_21 (by decide) rfl (fun hc_5 => ?_) (fun hc_5 => ?_)
    · rw [if_pos hc_5] at h
      exact vX6_heldBy_b38 hx hq hrec4 hl0 h
    · rw [if_neg hc_5] at h
      refine v_iload_n (pc' := 25) hx dX6_heldBy_24 rfl rfl ?_
      refine v_aload_n (pc' := 26) hx dX6_heldBy_25 rfl rfl ?_
      obtain ⟨g_6, hq_7⟩ : ∃ q, zA w 6 a0 10 = q := ⟨_, rfl⟩
      refine v_getAq (pc' := 29) hx hl0 fi_6_10.1 (by decide) hq_7 fk_X6_37 dX6_heldBy_26 rfl ?_
      refine v_bipush (pc' := 31) (v := 24) hx dX6_heldBy_29 (by decide) rfl ?_
      refine v_iload_n (pc' := 32) hx dX6_heldBy_31 rfl rfl ?_
      refine v_imul (pc' := 33) hx dX6_heldBy_32 rfl ?_
      refine v_iload_n (pc' := 34) hx dX6_heldBy_33 rfl rfl ?_
      refine v_iadd (pc' := 35) hx dX6_heldBy_34 rfl ?_
      replace h := ckp_inv h; obtain ⟨hk_8, h⟩ := h
      refine v_ialdq (pc' := 36) hx hl0 fi_6_10.1 fi_6_10.2.1 rfl hk_8 hq_7 dX6_heldBy_35 rfl ?_
      refine v_ior (pc' := 37) hx dX6_heldBy_36 rfl ?_
      refine v_istore_n (pc' := 38) (L' := [some (.ref a0), some (.int x1), some (.int (x2 ||| (zI w 6 a0 10 (((24 * x1) + x3) : Int32).toNatClampNeg))), some (.int x3)]) hx dX6_heldBy_37 rfl rfl (Nat.le_of_ble_eq_true rfl) ?_
      exact vX6_heldBy_b38 hx hq hrec4 hl0 h
theorem vX6_heldBy_l4 {x : CT} (hx : CX x cX6_heldBy RX6 rmX6_heldBy (some .int)) {r0 : Int32} {w : Wd} (hq : RI x rmX6_heldBy r0 w) : ∀ (n : Nat) (a0 : Nat) (x1 : Int32) (x2 : Int32) (x3 : Int32), (zL w 6 a0 = true) → fX6_heldBy_l4 w n a0 x1 x2 x3 = some r0 → V x 4 [some (.ref a0), some (.int x1), some (.int x2), some (.int x3)] [] (Rp (xD x) w) 0 0 := by
  intro n
  induction n with
  | zero => intro a0 x1 x2 x3 hl0 h; cases h
  | succ n ih =>
    intro a0 x1 x2 x3 hl0 h
    exact vX6_heldBy_b4 hx hq  (fun a0 x1 x2 x3 h hl0 => ih a0 x1 x2 x3 hl0 h) hl0 h
theorem vX6_heldBy {x : CT} (hx : CX x cX6_heldBy RX6 rmX6_heldBy (some .int)) {r0 : Int32} {w : Wd} (hq : RI x rmX6_heldBy r0 w) (a0 : Nat) (x1 : Int32) (hl0 : zL w 6 a0 = true) (h : fX6_heldBy a0 x1 w = some r0) : V x 0 [some (.ref a0), some (.int x1), none, none] [] (Rp (xD x) w) 0 0 := by
  unfold fX6_heldBy at h
  refine v_iconst (pc' := 1) (v := 0) hx dX6_heldBy_0 (by decide) rfl ?_
  refine v_istore_n (pc' := 2) (L' := [some (.ref a0), some (.int x1), some (.int 0), none]) hx dX6_heldBy_1 rfl rfl (Nat.le_of_ble_eq_true rfl) ?_
  refine v_iconst (pc' := 3) (v := 0) hx dX6_heldBy_2 (by decide) rfl ?_
  refine v_istore_n (pc' := 4) (L' := [some (.ref a0), some (.int x1), some (.int 0), some (.int 0)]) hx dX6_heldBy_3 rfl rfl (Nat.le_of_ble_eq_true rfl) ?_
  exact vX6_heldBy_l4 hx hq 1000 a0 x1 0 0 hl0 h
theorem ctX6_heldBy (l : Launch) (D : DD) (w : Wd) (G : GT) (sz : Nat) (hR : Rp D w G sz) (a0 : Nat) (x1 : Int32) (hl0 : zL w 6 a0 = true) {r0 : Int32} (h : fX6_heldBy a0 x1 w = some r0) : MetI l yX6_heldBy (WS yX6_heldBy cX6_heldBy 4 (some .int)) rmX6_heldBy D [.ref a0, .int x1] G sz r0 w := by
  refine MetI_ofV (own := RX6) (P := Rp D w) hR (by decide) rfl (by simp [Value.category]) (Nat.le_of_ble_eq_true rfl) (fun x hx hq hD hl => ?_)
  subst hD
  exact vX6_heldBy hx hq a0 x1 hl0 h
theorem kX6_readLocks_b122 {w0 : Wd} {w wb : Wd} (hm : mo wb w) (h : fX6_readLocks_b122 w = some w0) : mo wb w0 := by
  unfold fX6_readLocks_b122 at h
  cases h; exact hm
theorem kX6_readLocks_b119 {w0 : Wd} {rec4 : Nat → Int32 → Int32 → Int32 → Wd → Option (Wd)} {a0 : Nat} {x1 : Int32} {x2 : Int32} {x3 : Int32} {w wb : Wd} (hkr4 : ∀ (a0 : Nat) (x1 : Int32) (x2 : Int32) (x3 : Int32) (w : Wd), rec4 a0 x1 x2 x3 w = some w0 → mo wb w → mo wb w0) (hm : mo wb w) (h : fX6_readLocks_b119 rec4 a0 x1 x2 x3 w = some w0) : mo wb w0 := by
  unfold fX6_readLocks_b119 at h
  exact hkr4 a0 x1 x2 x3 w h hm
theorem kX6_readLocks_b101 {w0 : Wd} {rec4 : Nat → Int32 → Int32 → Int32 → Wd → Option (Wd)} {a0 : Nat} {x1 : Int32} {x2 : Int32} {xs0 : Int32} {w wb : Wd} (hkr4 : ∀ (a0 : Nat) (x1 : Int32) (x2 : Int32) (x3 : Int32) (w : Wd), rec4 a0 x1 x2 x3 w = some w0 → mo wb w → mo wb w0) (hm : mo wb w) (h : fX6_readLocks_b101 rec4 a0 x1 x2 xs0 w = some w0) : mo wb w0 := by
  unfold fX6_readLocks_b101 at h
  by_cases hc_1 : xs0 = 0
  · rw [if_pos hc_1] at h
    exact kX6_readLocks_b119 hkr4 hm h
  · rw [if_neg hc_1] at h
    by_cases hc_2 : x2 = 4
    · rw [if_pos hc_2] at h
      replace h := bd_inv h; obtain ⟨w_4, hcl_3, h⟩ := h
      have hm := hm.tr (kX6_tears hcl_3)
      exact kX6_readLocks_b119 hkr4 hm h
    · rw [if_neg hc_2] at h
      exact kX6_readLocks_b119 hkr4 hm h
theorem kX6_readLocks_b71 {w0 : Wd} {rec4 : Nat → Int32 → Int32 → Int32 → Wd → Option (Wd)} {a0 : Nat} {x1 : Int32} {x2 : Int32} {x4 : Int32} {w wb : Wd} (hkr4 : ∀ (a0 : Nat) (x1 : Int32) (x2 : Int32) (x3 : Int32) (w : Wd), rec4 a0 x1 x2 x3 w = some w0 → mo wb w → mo wb w0) (hm : mo wb w) (h : fX6_readLocks_b71 rec4 a0 x1 x2 x4 w = some w0) : mo wb w0 := by
  unfold fX6_readLocks_b71 at h
  replace h := lt_inv h; obtain ⟨w_1, ew_2, h⟩ := h
  have hm := mo_eI hm ew_2
  replace h := bd_inv h; obtain ⟨y_5, hcl_4, h⟩ := h
  by_cases hc_7 : y_5 = 44
  · rw [if_pos hc_7] at h
    exact kX6_readLocks_b101 hkr4 hm h
  · rw [if_neg hc_7] at h
    exact kX6_readLocks_b101 hkr4 hm h
theorem kX6_readLocks_b4 {w0 : Wd} {rec4 : Nat → Int32 → Int32 → Int32 → Wd → Option (Wd)} {a0 : Nat} {x1 : Int32} {x2 : Int32} {x3 : Int32} {w wb : Wd} (hkr4 : ∀ (a0 : Nat) (x1 : Int32) (x2 : Int32) (x3 : Int32) (w : Wd), rec4 a0 x1 x2 x3 w = some w0 → mo wb w → mo wb w0) (hm : mo wb w) (h : fX6_readLocks_b4 rec4 a0 x1 x2 x3 w = some w0) : mo wb w0 := by
  unfold fX6_readLocks_b4 at h
  by_cases hc_1 : x3 = 0
  · rw [if_pos hc_1] at h
    exact kX6_readLocks_b122 hm h
  · rw [if_neg hc_1] at h
    by_cases hc_2 : (zI w 6 a0 16 0) = (-1)
    · rw [if_pos hc_2] at h
      replace h := lt_inv h; obtain ⟨w_3, ew_4, h⟩ := h
      have hm := mo_eI hm ew_4
      replace h := bd2_inv h; obtain ⟨y_7, w_8, hcl_6, h⟩ := h
      have hm := hm.tr (kX6_number hcl_6)
      by_cases hc_13 : (zI w_8 6 a0 16 0) = (-1)
      · rw [if_pos hc_13] at h
        replace h := bd_inv h; obtain ⟨y_15, hcl_14, h⟩ := h
        by_cases hc_17 : (((y_15 ||| (zI w_8 6 a0 21 0)) >>> (y_7 &&& 31)) &&& 1) = 1
        · rw [if_pos hc_17] at h
          replace h := bd_inv h; obtain ⟨w_19, hcl_18, h⟩ := h
          have hm := hm.tr (kX6_tears hcl_18)
          exact kX6_readLocks_b71 hkr4 hm h
        · rw [if_neg hc_17] at h
          exact kX6_readLocks_b71 hkr4 hm h
      · rw [if_neg hc_13] at h
        cases h; exact hm
    · rw [if_neg hc_2] at h
      exact kX6_readLocks_b122 hm h
theorem kX6_readLocks_l4 {w0 : Wd} {wb : Wd} : ∀ (n : Nat) (a0 : Nat) (x1 : Int32) (x2 : Int32) (x3 : Int32) (w : Wd), mo wb w → fX6_readLocks_l4  n a0 x1 x2 x3 w = some w0 → mo wb w0 := by
  intro n
  induction n with
  | zero => intro a0 x1 x2 x3 w hm h; cases h
  | succ n ih =>
    intro a0 x1 x2 x3 w hm h
    exact kX6_readLocks_b4  (fun a0 x1 x2 x3 w h hm => ih a0 x1 x2 x3 w hm h) hm h
theorem kX6_readLocks {w0 : Wd} {a0 : Nat} {x1 : Int32} {w : Wd} (h : fX6_readLocks a0 x1 w = some w0) : mo w w0 := by
  have hm := mo_rf w
  unfold fX6_readLocks at h
  exact kX6_readLocks_l4 1000 a0 x1 0 1 w hm h
theorem vX6_readLocks_b122 {x : CT} (hx : CX x cX6_readLocks RX6 rmX6_readLocks none) {w0 : Wd} (hq : RV x rmX6_readLocks w0) {w : Wd} (h : fX6_readLocks_b122 w = some w0) : V x 122 [none, none, none, none, none] [] (Rp (xD x) w) 0 0 := by
  unfold fX6_readLocks_b122 at h
  exact v_vret hx hq (by decide) (by decide) dX6_readLocks_122 (by cases h; rfl)
theorem vX6_readLocks_b119 {x : CT} (hx : CX x cX6_readLocks RX6 rmX6_readLocks none) {w0 : Wd} (hq : RV x rmX6_readLocks w0) {rec4 : Nat → Int32 → Int32 → Int32 → Wd → Option (Wd)} {a0 : Nat} {x1 : Int32} {x2 : Int32} {x3 : Int32} {w : Wd} (hrec4 : ∀ (a0 : Nat) (x1 : Int32) (x2 : Int32) (x3 : Int32) (w : Wd), rec4 a0 x1 x2 x3 w = some w0 → (zL w 6 a0 = true) → V x 4 [some (.ref a0), some (.int x1), some (.int x2), some (.int x3), none] [] (Rp (xD x) w) 0 0) (hl0 : zL w 6 a0 = true) (h : fX6_readLocks_b119 rec4 a0 x1 x2 x3 w = some w0) : V x 119 [some (.ref a0), some (.int x1), some (.int x2), some (.int x3), none] [] (Rp (xD x) w) 0 0 := by
  unfold fX6_readLocks_b119 at h
  refine v_goto (tgt := 4) hx dX6_readLocks_119 (by decide) ?_
  exact hrec4 a0 x1 x2 x3 w h hl0
theorem vX6_readLocks_b101 {x : CT} (hx : CX x cX6_readLocks RX6 rmX6_readLocks none) {w0 : Wd} (hq : RV x rmX6_readLocks w0) {rec4 : Nat → Int32 → Int32 → Int32 → Wd → Option (Wd)} {a0 : Nat} {x1 : Int32} {x2 : Int32} {xs0 : Int32} {w : Wd} (hrec4 : ∀ (a0 : Nat) (x1 : Int32) (x2 : Int32) (x3 : Int32) (w : Wd), rec4 a0 x1 x2 x3 w = some w0 → (zL w 6 a0 = true) → V x 4 [some (.ref a0), some (.int x1), some (.int x2), some (.int x3), none] [] (Rp (xD x) w) 0 0) (hl0 : zL w 6 a0 = true) (h : fX6_readLocks_b101 rec4 a0 x1 x2 xs0 w = some w0) : V x 101 [some (.ref a0), some (.int x1), some (.int x2), none, none] [.int xs0] (Rp (xD x) w) 0 0 := by
  unfold fX6_readLocks_b101 at h
  refine v_istore_n (pc' := 102) (L' := [some (.ref a0), some (.int x1), some (.int x2), some (.int xs0), none]) hx dX6_readLocks_101 rfl rfl (Nat.le_of_ble_eq_true rfl) ?_
  refine v_iload_n (pc' := 103) hx dX6_readLocks_102 rfl rfl ?_
  refine v_if_eq (tgt := 119) (pc' := 106) hx dX6_readLocks_103 (by decide) rfl (fun hc_1 => ?_) (fun hc_1 => ?_)
  · rw [if_pos hc_1] at h
    exact vX6_readLocks_b119 hx hq hrec4 hl0 h
  · rw [if_neg hc_1] at h
    refine v_iload_n (pc' := 107) hx dX6_readLocks_106 rfl rfl ?_
    refine v_iconst (pc' := 108) (v := 4) hx dX6_readLocks_107 (by decide) rfl ?_
    refine v_icmp_ne (tgt := 119) (pc' := 111) hx dX6_readLocks_108 (by decide) rfl (fun hc_2 => ?_) (fun hc_2 => ?_)
    · rw [if_neg hc_2] at h
      exact vX6_readLocks_b119 hx hq hrec4 hl0 h
    · rw [if_pos hc_2] at h
      refine v_aload_n (pc' := 112) hx dX6_readLocks_111 rfl rfl ?_
      refine v_aload_n (pc' := 113) hx dX6_readLocks_112 rfl rfl ?_
      refine v_getI (pc' := 116) hx hl0 fi_6_14.1 fi_6_14.2.1 fk_X6_74 dX6_readLocks_113 rfl ?_
      replace h := bd_inv h; obtain ⟨w_4, hcl_3, h⟩ := h
      refine v_wf (fun hwf_5 => ?_)
      refine v_callVv (pc' := 119) (w' := w_4) (ci := 6) (b := a0) (As := [.int (zI w 6 a0 14 0)]) (rest := []) hx hl0 (fun G sz hR => ctX6_tears (xl x) (xD x) w G sz hR a0 (zI w 6 a0 14 0) hl0 hcl_3) rfl my_X6_tears ml_X6_98 ⟨by decide, by decide⟩ ⟨by decide, by decide⟩ rfl rfl (Nat.le_of_ble_eq_true rfl) dX6_readLocks_116 rfl ?_
      have hm_7 := kX6_tears hcl_3 hwf_5
      have hl_8 : zL w_4 6 a0 = true := (hm_7.2 _ _ hl0).1
      exact vX6_readLocks_b119 hx hq hrec4 hl_8 h
theorem vX6_readLocks_b71 {x : CT} (hx : CX x cX6_readLocks RX6 rmX6_readLocks none) {w0 : Wd} (hq : RV x rmX6_readLocks w0) {rec4 : Nat → Int32 → Int32 → Int32 → Wd → Option (Wd)} {a0 : Nat} {x1 : Int32} {x2 : Int32} {x4 : Int32} {w : Wd} (hrec4 : ∀ (a0 : Nat) (x1 : Int32) (x2 : Int32) (x3 : Int32) (w : Wd), rec4 a0 x1 x2 x3 w = some w0 → (zL w 6 a0 = true) → V x 4 [some (.ref a0), some (.int x1), some (.int x2), some (.int x3), none] [] (Rp (xD x) w) 0 0) (hl0 : zL w 6 a0 = true) (h : fX6_readLocks_b71 rec4 a0 x1 x2 x4 w = some w0) : V x 71 [some (.ref a0), some (.int x1), some (.int x2), none, some (.int x4)] [] (Rp (xD x) w) 0 0 := by
  unfold fX6_readLocks_b71 at h
  refine v_aload_n (pc' := 72) hx dX6_readLocks_71 rfl rfl ?_
  refine v_dup (pc' := 73) hx dX6_readLocks_72 rfl rfl ?_
  refine v_getI (pc' := 76) hx hl0 fi_6_21.1 fi_6_21.2.1 fk_X6_109 dX6_readLocks_73 rfl ?_
  refine v_iconst (pc' := 77) (v := 1) hx dX6_readLocks_76 (by decide) rfl ?_
  refine v_iload (pc' := 79) hx dX6_readLocks_77 rfl rfl ?_
  refine v_ishl (pc' := 80) hx dX6_readLocks_79 rfl ?_
  refine v_ior (pc' := 81) hx dX6_readLocks_80 rfl ?_
  refine v_putI (pc' := 84) hx hl0 fi_6_21.1 fi_6_21.2.1 fi_6_21.2.2 fk_X6_109 dX6_readLocks_81 rfl ?_
  replace h := lt_inv h; obtain ⟨w_1, ew_2, h⟩ := h
  rw [← ew_2]
  have hl_3 : zL w_1 6 a0 = true := by rw [ew_2]; exact hl0
  refine v_iinc (pc' := 87) (w0 := (x2 + 1)) (L' := [some (.ref a0), some (.int x1), some (.int (x2 + 1)), none, some (.int x4)]) hx dX6_readLocks_84 rfl rfl rfl rfl ?_
  refine v_aload_n (pc' := 88) hx dX6_readLocks_87 rfl rfl ?_
  replace h := bd_inv h; obtain ⟨y_5, hcl_4, h⟩ := h
  refine v_callVi (pc' := 91) (w' := w_1) (r := y_5) (ci := 6) (b := a0) (As := []) (rest := []) hx hl_3 (fun G sz hR => ctX6_here (xl x) (xD x) w_1 G sz hR a0 hl_3 hcl_4) rfl my_X6_here ml_X6_80 ⟨by decide, by decide⟩ ⟨by decide, by decide⟩ rfl rfl (Nat.le_of_ble_eq_true rfl) dX6_readLocks_88 rfl ?_
  refine v_bipush (pc' := 93) (v := 44) hx dX6_readLocks_91 (by decide) rfl ?_
  refine v_icmp_ne (tgt := 100) (pc' := 96) hx dX6_readLocks_93 (by decide) rfl (fun hc_7 => ?_) (fun hc_7 => ?_)
  · rw [if_neg hc_7] at h
    refine v_iconst (pc' := 101) (v := 0) hx dX6_readLocks_100 (by decide) rfl ?_
    refine V.sb (L' := [some (.ref a0), some (.int x1), some (.int (x2 + 1)), none, none]) ⟨Or.inr rfl, Or.inr rfl, Or.inr rfl, Or.inl rfl, Or.inl rfl, trivial⟩ ?_
    exact vX6_readLocks_b101 hx hq hrec4 hl_3 h
  · rw [if_pos hc_7] at h
    refine v_iconst (pc' := 97) (v := 1) hx dX6_readLocks_96 (by decide) rfl ?_
    refine v_goto (tgt := 101) hx dX6_readLocks_97 (by decide) ?_
    refine V.sb (L' := [some (.ref a0), some (.int x1), some (.int (x2 + 1)), none, none]) ⟨Or.inr rfl, Or.inr rfl, Or.inr rfl, Or.inl rfl, Or.inl rfl, trivial⟩ ?_
    exact vX6_readLocks_b101 hx hq hrec4 hl_3 h
theorem vX6_readLocks_b4 {x : CT} (hx : CX x cX6_readLocks RX6 rmX6_readLocks none) {w0 : Wd} (hq : RV x rmX6_readLocks w0) {rec4 : Nat → Int32 → Int32 → Int32 → Wd → Option (Wd)} {a0 : Nat} {x1 : Int32} {x2 : Int32} {x3 : Int32} {w : Wd} (hrec4 : ∀ (a0 : Nat) (x1 : Int32) (x2 : Int32) (x3 : Int32) (w : Wd), rec4 a0 x1 x2 x3 w = some w0 → (zL w 6 a0 = true) → V x 4 [some (.ref a0), some (.int x1), some (.int x2), some (.int x3), none] [] (Rp (xD x) w) 0 0) (hl0 : zL w 6 a0 = true) (h : fX6_readLocks_b4 rec4 a0 x1 x2 x3 w = some w0) : V x 4 [some (.ref a0), some (.int x1), some (.int x2), some (.int x3), none] [] (Rp (xD x) w) 0 0 := by
  unfold fX6_readLocks_b4 at h
  refine v_iload_n (pc' := 5) hx dX6_readLocks_4 rfl rfl ?_
  refine v_if_eq (tgt := 122) (pc' := 8) hx dX6_readLocks_5 (by decide) rfl (fun hc_1 => ?_) (fun hc_1 => ?_)
  · rw [if_pos hc_1] at h
    refine V.sb (L' := [none, none, none, none, none]) ⟨Or.inl rfl, Or.inl rfl, Or.inl rfl, Or.inl rfl, Or.inl rfl, trivial⟩ ?_
    exact vX6_readLocks_b122 hx hq h
  · rw [if_neg hc_1] at h
    refine v_aload_n (pc' := 9) hx dX6_readLocks_8 rfl rfl ?_
    refine v_getI (pc' := 12) hx hl0 fi_6_16.1 fi_6_16.2.1 fk_X6_88 dX6_readLocks_9 rfl ?_
    refine v_iconst (pc' := 13) (v := (-1)) hx dX6_readLocks_12 (by decide) rfl ?_
    refine v_icmp_ne (tgt := 122) (pc' := 16) hx dX6_readLocks_13 (by decide) rfl (fun hc_2 => ?_) (fun hc_2 => ?_)
    · rw [if_neg hc_2] at h
      refine V.sb (L' := [none, none, none, none, none]) ⟨Or.inl rfl, Or.inl rfl, Or.inl rfl, Or.inl rfl, Or.inl rfl, trivial⟩ ?_
      exact vX6_readLocks_b122 hx hq h
    · rw [if_pos hc_2] at h
      refine v_aload_n (pc' := 17) hx dX6_readLocks_16 rfl rfl ?_
      refine v_dup (pc' := 18) hx dX6_readLocks_17 rfl rfl ?_
      refine v_getI (pc' := 21) hx hl0 fi_6_14.1 fi_6_14.2.1 fk_X6_74 dX6_readLocks_18 rfl ?_
      refine v_iconst (pc' := 22) (v := 1) hx dX6_readLocks_21 (by decide) rfl ?_
      refine v_iadd (pc' := 23) hx dX6_readLocks_22 rfl ?_
      refine v_putI (pc' := 26) hx hl0 fi_6_14.1 fi_6_14.2.1 fi_6_14.2.2 fk_X6_74 dX6_readLocks_23 rfl ?_
      replace h := lt_inv h; obtain ⟨w_3, ew_4, h⟩ := h
      rw [← ew_4]
      have hl_5 : zL w_3 6 a0 = true := by rw [ew_4]; exact hl0
      refine v_aload_n (pc' := 27) hx dX6_readLocks_26 rfl rfl ?_
      refine v_iconst (pc' := 28) (v := 2) hx dX6_readLocks_27 (by decide) rfl ?_
      refine v_bipush (pc' := 30) (v := 15) hx dX6_readLocks_28 (by decide) rfl ?_
      replace h := bd2_inv h; obtain ⟨y_7, w_8, hcl_6, h⟩ := h
      refine v_wf (fun hwf_9 => ?_)
      refine v_callVi (pc' := 33) (w' := w_8) (r := y_7) (ci := 6) (b := a0) (As := [.int 2, .int 15]) (rest := []) hx hl_5 (fun G sz hR => ctX6_number (xl x) (xD x) w_3 G sz hR a0 2 15 hl_5 hcl_6) rfl my_X6_number ml_X6_101 ⟨by decide, by decide⟩ ⟨by decide, by decide⟩ rfl rfl (Nat.le_of_ble_eq_true rfl) dX6_readLocks_30 rfl ?_
      have hm_11 := kX6_number hcl_6 hwf_9
      have hl_12 : zL w_8 6 a0 = true := (hm_11.2 _ _ hl_5).1
      refine v_istore (pc' := 35) (L' := [some (.ref a0), some (.int x1), some (.int x2), some (.int x3), some (.int y_7)]) hx dX6_readLocks_33 rfl rfl (Nat.le_of_ble_eq_true rfl) ?_
      refine v_aload_n (pc' := 36) hx dX6_readLocks_35 rfl rfl ?_
      refine v_getI (pc' := 39) hx hl_12 fi_6_16.1 fi_6_16.2.1 fk_X6_88 dX6_readLocks_36 rfl ?_
      refine v_iconst (pc' := 40) (v := (-1)) hx dX6_readLocks_39 (by decide) rfl ?_
      refine v_icmp_eq (tgt := 44) (pc' := 43) hx dX6_readLocks_40 (by decide) rfl (fun hc_13 => ?_) (fun hc_13 => ?_)
      · rw [if_pos hc_13] at h
        refine v_aload_n (pc' := 45) hx dX6_readLocks_44 rfl rfl ?_
        refine v_iload_n (pc' := 46) hx dX6_readLocks_45 rfl rfl ?_
        replace h := bd_inv h; obtain ⟨y_15, hcl_14, h⟩ := h
        refine v_callVi (pc' := 49) (w' := w_8) (r := y_15) (ci := 6) (b := a0) (As := [.int x1]) (rest := []) hx hl_12 (fun G sz hR => ctX6_heldBy (xl x) (xD x) w_8 G sz hR a0 x1 hl_12 hcl_14) rfl my_X6_heldBy ml_X6_105 ⟨by decide, by decide⟩ ⟨by decide, by decide⟩ rfl rfl (Nat.le_of_ble_eq_true rfl) dX6_readLocks_46 rfl ?_
        refine v_aload_n (pc' := 50) hx dX6_readLocks_49 rfl rfl ?_
        refine v_getI (pc' := 53) hx hl_12 fi_6_21.1 fi_6_21.2.1 fk_X6_109 dX6_readLocks_50 rfl ?_
        refine v_ior (pc' := 54) hx dX6_readLocks_53 rfl ?_
        refine v_iload (pc' := 56) hx dX6_readLocks_54 rfl rfl ?_
        refine v_ishr (pc' := 57) hx dX6_readLocks_56 rfl ?_
        refine v_iconst (pc' := 58) (v := 1) hx dX6_readLocks_57 (by decide) rfl ?_
        refine v_iand (pc' := 59) hx dX6_readLocks_58 rfl ?_
        refine v_iconst (pc' := 60) (v := 1) hx dX6_readLocks_59 (by decide) rfl ?_
        refine v_icmp_ne (tgt := 71) (pc' := 63) hx dX6_readLocks_60 (by decide) rfl (fun hc_17 => ?_) (fun hc_17 => ?_)
        · rw [if_neg hc_17] at h
          refine V.sb (L' := [some (.ref a0), some (.int x1), some (.int x2), none, some (.int y_7)]) ⟨Or.inr rfl, Or.inr rfl, Or.inr rfl, Or.inl rfl, Or.inr rfl, trivial⟩ ?_
          exact vX6_readLocks_b71 hx hq hrec4 hl_12 h
        · rw [if_pos hc_17] at h
          refine v_aload_n (pc' := 64) hx dX6_readLocks_63 rfl rfl ?_
          refine v_aload_n (pc' := 65) hx dX6_readLocks_64 rfl rfl ?_
          refine v_getI (pc' := 68) hx hl_12 fi_6_17.1 fi_6_17.2.1 fk_X6_91 dX6_readLocks_65 rfl ?_
          replace h := bd_inv h; obtain ⟨w_19, hcl_18, h⟩ := h
          refine v_callVv (pc' := 71) (w' := w_19) (ci := 6) (b := a0) (As := [.int (zI w_8 6 a0 17 0)]) (rest := []) hx hl_12 (fun G sz hR => ctX6_tears (xl x) (xD x) w_8 G sz hR a0 (zI w_8 6 a0 17 0) hl_12 hcl_18) rfl my_X6_tears ml_X6_98 ⟨by decide, by decide⟩ ⟨by decide, by decide⟩ rfl rfl (Nat.le_of_ble_eq_true rfl) dX6_readLocks_68 rfl ?_
          have hm_21 := kX6_tears hcl_18 hm_11.1
          have hl_22 : zL w_19 6 a0 = true := (hm_21.2 _ _ hl_12).1
          refine V.sb (L' := [some (.ref a0), some (.int x1), some (.int x2), none, some (.int y_7)]) ⟨Or.inr rfl, Or.inr rfl, Or.inr rfl, Or.inl rfl, Or.inr rfl, trivial⟩ ?_
          exact vX6_readLocks_b71 hx hq hrec4 hl_22 h
      · rw [if_neg hc_13] at h
        exact v_vret hx hq (by decide) (by decide) dX6_readLocks_43 (by cases h; rfl)
theorem vX6_readLocks_l4 {x : CT} (hx : CX x cX6_readLocks RX6 rmX6_readLocks none) {w0 : Wd} (hq : RV x rmX6_readLocks w0) : ∀ (n : Nat) (a0 : Nat) (x1 : Int32) (x2 : Int32) (x3 : Int32) (w : Wd), (zL w 6 a0 = true) → fX6_readLocks_l4  n a0 x1 x2 x3 w = some w0 → V x 4 [some (.ref a0), some (.int x1), some (.int x2), some (.int x3), none] [] (Rp (xD x) w) 0 0 := by
  intro n
  induction n with
  | zero => intro a0 x1 x2 x3 w hl0 h; cases h
  | succ n ih =>
    intro a0 x1 x2 x3 w hl0 h
    exact vX6_readLocks_b4 hx hq  (fun a0 x1 x2 x3 w h hl0 => ih a0 x1 x2 x3 w hl0 h) hl0 h
theorem vX6_readLocks {x : CT} (hx : CX x cX6_readLocks RX6 rmX6_readLocks none) {w0 : Wd} {w : Wd} (hq : RV x rmX6_readLocks w0) (a0 : Nat) (x1 : Int32) (hl0 : zL w 6 a0 = true) (h : fX6_readLocks a0 x1 w = some w0) : V x 0 [some (.ref a0), some (.int x1), none, none, none] [] (Rp (xD x) w) 0 0 := by
  unfold fX6_readLocks at h
  refine v_iconst (pc' := 1) (v := 0) hx dX6_readLocks_0 (by decide) rfl ?_
  refine v_istore_n (pc' := 2) (L' := [some (.ref a0), some (.int x1), some (.int 0), none, none]) hx dX6_readLocks_1 rfl rfl (Nat.le_of_ble_eq_true rfl) ?_
  refine v_iconst (pc' := 3) (v := 1) hx dX6_readLocks_2 (by decide) rfl ?_
  refine v_istore_n (pc' := 4) (L' := [some (.ref a0), some (.int x1), some (.int 0), some (.int 1), none]) hx dX6_readLocks_3 rfl rfl (Nat.le_of_ble_eq_true rfl) ?_
  exact vX6_readLocks_l4 hx hq 1000 a0 x1 0 1 w hl0 h
theorem ctX6_readLocks (l : Launch) (D : DD) (w : Wd) (G : GT) (sz : Nat) (hR : Rp D w G sz) (a0 : Nat) (x1 : Int32) (hl0 : zL w 6 a0 = true) {w0 : Wd} (h : fX6_readLocks a0 x1 w = some w0) : MetV l yX6_readLocks (WS yX6_readLocks cX6_readLocks 5 none) rmX6_readLocks D [.ref a0, .int x1] G sz w0 := by
  refine MetV_ofV (own := RX6) (P := Rp D w) hR (by decide) rfl (by simp [Value.category]) (Nat.le_of_ble_eq_true rfl) (fun x hx hq hD hl => ?_)
  subst hD
  exact vX6_readLocks hx hq a0 x1 hl0 h
theorem kX6_readCalls_b109 {w0 : Wd} {w wb : Wd} (hm : mo wb w) (h : fX6_readCalls_b109 w = some w0) : mo wb w0 := by
  unfold fX6_readCalls_b109 at h
  cases h; exact hm
theorem kX6_readCalls_b32 {w0 : Wd} {rec32 : Nat → Wd → Option (Wd)} {a0 : Nat} {w wb : Wd} (hkr32 : ∀ (a0 : Nat) (w : Wd), rec32 a0 w = some w0 → mo wb w → mo wb w0) (hm : mo wb w) (h : fX6_readCalls_b32 rec32 a0 w = some w0) : mo wb w0 := by
  unfold fX6_readCalls_b32 at h
  by_cases hc_1 : (zI w 6 a0 16 0) = (-1)
  · rw [if_pos hc_1] at h
    replace h := bd_inv h; obtain ⟨y_3, hcl_2, h⟩ := h
    replace h := bd_inv h; obtain ⟨y_6, hcl_5, h⟩ := h
    by_cases hc_8 : y_6 = 0
    · rw [if_pos hc_8] at h
      exact kX6_readCalls_b109 hm h
    · rw [if_neg hc_8] at h
      by_cases hc_9 : (zI w 6 a0 23 0) = 12
      · rw [if_pos hc_9] at h
        replace h := bd_inv h; obtain ⟨w_26, hcl_25, h⟩ := h
        have hm := hm.tr (kX6_tears hcl_25)
        cases h; exact hm
      · rw [if_neg hc_9] at h
        replace h := bd_inv h; obtain ⟨y_13, hcl_12, h⟩ := h
        replace h := ckp_inv h; obtain ⟨hk_15, h⟩ := h
        replace h := lt_inv h; obtain ⟨w_16, ew_17, h⟩ := h
        have hm := mo_eI hm ew_17
        replace h := lt_inv h; obtain ⟨w_19, ew_20, h⟩ := h
        have hm := mo_eI hm ew_20
        replace h := lt_inv h; obtain ⟨w_22, ew_23, h⟩ := h
        have hm := mo_eI hm ew_23
        exact hkr32 a0 w_22 h hm
  · rw [if_neg hc_1] at h
    exact kX6_readCalls_b109 hm h
theorem kX6_readCalls_l32 {w0 : Wd} {wb : Wd} : ∀ (n : Nat) (a0 : Nat) (w : Wd), mo wb w → fX6_readCalls_l32  n a0 w = some w0 → mo wb w0 := by
  intro n
  induction n with
  | zero => intro a0 w hm h; cases h
  | succ n ih =>
    intro a0 w hm h
    exact kX6_readCalls_b32  (fun a0 w h hm => ih a0 w hm h) hm h
theorem kX6_readCalls {w0 : Wd} {a0 : Nat} {w : Wd} (h : fX6_readCalls a0 w = some w0) : mo w w0 := by
  have hm := mo_rf w
  unfold fX6_readCalls at h
  replace h := lt_inv h; obtain ⟨w_1, ew_2, h⟩ := h
  have hm := mo_eI hm ew_2
  replace h := bd_inv h; obtain ⟨y_5, hcl_4, h⟩ := h
  replace h := bd_inv h; obtain ⟨y_8, hcl_7, h⟩ := h
  by_cases hc_10 : y_8 = 0
  · rw [if_pos hc_10] at h
    replace h := bd_inv h; obtain ⟨w_12, hcl_11, h⟩ := h
    have hm := hm.tr (kX6_tears hcl_11)
    exact kX6_readCalls_l32 1000 a0 w_12 hm h
  · rw [if_neg hc_10] at h
    exact kX6_readCalls_l32 1000 a0 w_1 hm h
theorem vX6_readCalls_b109 {x : CT} (hx : CX x cX6_readCalls RX6 rmX6_readCalls none) {w0 : Wd} (hq : RV x rmX6_readCalls w0) {w : Wd} (h : fX6_readCalls_b109 w = some w0) : V x 109 [none] [] (Rp (xD x) w) 0 0 := by
  unfold fX6_readCalls_b109 at h
  exact v_vret hx hq (by decide) (by decide) dX6_readCalls_109 (by cases h; rfl)
theorem vX6_readCalls_b32 {x : CT} (hx : CX x cX6_readCalls RX6 rmX6_readCalls none) {w0 : Wd} (hq : RV x rmX6_readCalls w0) {rec32 : Nat → Wd → Option (Wd)} {a0 : Nat} {w : Wd} (hrec32 : ∀ (a0 : Nat) (w : Wd), rec32 a0 w = some w0 → (zL w 6 a0 = true) → V x 32 [some (.ref a0)] [] (Rp (xD x) w) 0 0) (hl0 : zL w 6 a0 = true) (h : fX6_readCalls_b32 rec32 a0 w = some w0) : V x 32 [some (.ref a0)] [] (Rp (xD x) w) 0 0 := by
  unfold fX6_readCalls_b32 at h
  refine v_aload_n (pc' := 33) hx dX6_readCalls_32 rfl rfl ?_
  refine v_getI (pc' := 36) hx hl0 fi_6_16.1 fi_6_16.2.1 fk_X6_88 dX6_readCalls_33 rfl ?_
  refine v_iconst (pc' := 37) (v := (-1)) hx dX6_readCalls_36 (by decide) rfl ?_
  refine v_icmp_ne (tgt := 109) (pc' := 40) hx dX6_readCalls_37 (by decide) rfl (fun hc_1 => ?_) (fun hc_1 => ?_)
  · rw [if_neg hc_1] at h
    refine V.sb (L' := [none]) ⟨Or.inl rfl, trivial⟩ ?_
    exact vX6_readCalls_b109 hx hq h
  · rw [if_pos hc_1] at h
    refine v_aload_n (pc' := 41) hx dX6_readCalls_40 rfl rfl ?_
    replace h := bd_inv h; obtain ⟨y_3, hcl_2, h⟩ := h
    refine v_callVi (pc' := 44) (w' := w) (r := y_3) (ci := 6) (b := a0) (As := []) (rest := []) hx hl0 (fun G sz hR => ctX6_here (xl x) (xD x) w G sz hR a0 hl0 hcl_2) rfl my_X6_here ml_X6_80 ⟨by decide, by decide⟩ ⟨by decide, by decide⟩ rfl rfl (Nat.le_of_ble_eq_true rfl) dX6_readCalls_41 rfl ?_
    refine v_bipush (pc' := 46) (v := 97) hx dX6_readCalls_44 (by decide) rfl ?_
    refine v_bipush (pc' := 48) (v := 122) hx dX6_readCalls_46 (by decide) rfl ?_
    replace h := bd_inv h; obtain ⟨y_6, hcl_5, h⟩ := h
    refine v_callSi (pc' := 51) (w' := w) (r := y_6) (As := [.int y_3, .int 97, .int 122]) (rest := []) hx (fun G sz hR => ctX6_lies (xl x) (xD x) w G sz hR y_3 97 122  hcl_5) my_X6_lies ml_X6_84 ⟨by decide, by decide⟩ ⟨by decide, by decide⟩ rfl rfl (Nat.le_of_ble_eq_true rfl) dX6_readCalls_48 rfl ?_
    refine v_if_eq (tgt := 109) (pc' := 54) hx dX6_readCalls_51 (by decide) rfl (fun hc_8 => ?_) (fun hc_8 => ?_)
    · rw [if_pos hc_8] at h
      refine V.sb (L' := [none]) ⟨Or.inl rfl, trivial⟩ ?_
      exact vX6_readCalls_b109 hx hq h
    · rw [if_neg hc_8] at h
      refine v_aload_n (pc' := 55) hx dX6_readCalls_54 rfl rfl ?_
      refine v_getI (pc' := 58) hx hl0 fi_6_23.1 fi_6_23.2.1 fk_X6_112 dX6_readCalls_55 rfl ?_
      refine v_bipush (pc' := 60) (v := 12) hx dX6_readCalls_58 (by decide) rfl ?_
      refine v_icmp_ne (tgt := 72) (pc' := 63) hx dX6_readCalls_60 (by decide) rfl (fun hc_9 => ?_) (fun hc_9 => ?_)
      · rw [if_neg hc_9] at h
        refine v_aload_n (pc' := 73) hx dX6_readCalls_72 rfl rfl ?_
        obtain ⟨g_10, hq_11⟩ : ∃ q, zA w 6 a0 24 = q := ⟨_, rfl⟩
        refine v_getAq (pc' := 76) hx hl0 fi_6_24.1 (by decide) hq_11 fk_X6_49 dX6_readCalls_73 rfl ?_
        refine v_aload_n (pc' := 77) hx dX6_readCalls_76 rfl rfl ?_
        refine v_getI (pc' := 80) hx hl0 fi_6_23.1 fi_6_23.2.1 fk_X6_112 dX6_readCalls_77 rfl ?_
        refine v_aload_n (pc' := 81) hx dX6_readCalls_80 rfl rfl ?_
        replace h := bd_inv h; obtain ⟨y_13, hcl_12, h⟩ := h
        refine v_callVi (pc' := 84) (w' := w) (r := y_13) (ci := 6) (b := a0) (As := []) (rest := [.int (zI w 6 a0 23 0), .ref g_10]) hx hl0 (fun G sz hR => ctX6_here (xl x) (xD x) w G sz hR a0 hl0 hcl_12) rfl my_X6_here ml_X6_80 ⟨by decide, by decide⟩ ⟨by decide, by decide⟩ rfl rfl (Nat.le_of_ble_eq_true rfl) dX6_readCalls_81 rfl ?_
        refine v_i2b (pc' := 85) hx dX6_readCalls_84 rfl ?_
        replace h := ckp_inv h; obtain ⟨hk_15, h⟩ := h
        refine v_bastq (pc' := 86) hx hl0 fi_6_24.1 fi_6_24.2.1 rfl hk_15 hq_11 dX6_readCalls_85 rfl ?_
        replace h := lt_inv h; obtain ⟨w_16, ew_17, h⟩ := h
        rw [← ew_17]
        have hl_18 : zL w_16 6 a0 = true := by rw [ew_17]; exact hl0
        refine v_aload_n (pc' := 87) hx dX6_readCalls_86 rfl rfl ?_
        refine v_dup (pc' := 88) hx dX6_readCalls_87 rfl rfl ?_
        refine v_getI (pc' := 91) hx hl_18 fi_6_23.1 fi_6_23.2.1 fk_X6_112 dX6_readCalls_88 rfl ?_
        refine v_iconst (pc' := 92) (v := 1) hx dX6_readCalls_91 (by decide) rfl ?_
        refine v_iadd (pc' := 93) hx dX6_readCalls_92 rfl ?_
        refine v_putI (pc' := 96) hx hl_18 fi_6_23.1 fi_6_23.2.1 fi_6_23.2.2 fk_X6_112 dX6_readCalls_93 rfl ?_
        replace h := lt_inv h; obtain ⟨w_19, ew_20, h⟩ := h
        rw [← ew_20]
        have hl_21 : zL w_19 6 a0 = true := by rw [ew_20]; exact hl_18
        refine v_aload_n (pc' := 97) hx dX6_readCalls_96 rfl rfl ?_
        refine v_dup (pc' := 98) hx dX6_readCalls_97 rfl rfl ?_
        refine v_getI (pc' := 101) hx hl_21 fi_6_14.1 fi_6_14.2.1 fk_X6_74 dX6_readCalls_98 rfl ?_
        refine v_iconst (pc' := 102) (v := 1) hx dX6_readCalls_101 (by decide) rfl ?_
        refine v_iadd (pc' := 103) hx dX6_readCalls_102 rfl ?_
        refine v_putI (pc' := 106) hx hl_21 fi_6_14.1 fi_6_14.2.1 fi_6_14.2.2 fk_X6_74 dX6_readCalls_103 rfl ?_
        replace h := lt_inv h; obtain ⟨w_22, ew_23, h⟩ := h
        rw [← ew_23]
        have hl_24 : zL w_22 6 a0 = true := by rw [ew_23]; exact hl_21
        refine v_goto (tgt := 32) hx dX6_readCalls_106 (by decide) ?_
        exact hrec32 a0 w_22 h hl_24
      · rw [if_pos hc_9] at h
        refine v_aload_n (pc' := 64) hx dX6_readCalls_63 rfl rfl ?_
        refine v_aload_n (pc' := 65) hx dX6_readCalls_64 rfl rfl ?_
        refine v_getI (pc' := 68) hx hl0 fi_6_14.1 fi_6_14.2.1 fk_X6_74 dX6_readCalls_65 rfl ?_
        replace h := bd_inv h; obtain ⟨w_26, hcl_25, h⟩ := h
        refine v_wf (fun hwf_27 => ?_)
        refine v_callVv (pc' := 71) (w' := w_26) (ci := 6) (b := a0) (As := [.int (zI w 6 a0 14 0)]) (rest := []) hx hl0 (fun G sz hR => ctX6_tears (xl x) (xD x) w G sz hR a0 (zI w 6 a0 14 0) hl0 hcl_25) rfl my_X6_tears ml_X6_98 ⟨by decide, by decide⟩ ⟨by decide, by decide⟩ rfl rfl (Nat.le_of_ble_eq_true rfl) dX6_readCalls_68 rfl ?_
        have hm_29 := kX6_tears hcl_25 hwf_27
        have hl_30 : zL w_26 6 a0 = true := (hm_29.2 _ _ hl0).1
        exact v_vret hx hq (by decide) (by decide) dX6_readCalls_71 (by cases h; rfl)
theorem vX6_readCalls_l32 {x : CT} (hx : CX x cX6_readCalls RX6 rmX6_readCalls none) {w0 : Wd} (hq : RV x rmX6_readCalls w0) : ∀ (n : Nat) (a0 : Nat) (w : Wd), (zL w 6 a0 = true) → fX6_readCalls_l32  n a0 w = some w0 → V x 32 [some (.ref a0)] [] (Rp (xD x) w) 0 0 := by
  intro n
  induction n with
  | zero => intro a0 w hl0 h; cases h
  | succ n ih =>
    intro a0 w hl0 h
    exact vX6_readCalls_b32 hx hq  (fun a0 w h hl0 => ih a0 w hl0 h) hl0 h
theorem vX6_readCalls {x : CT} (hx : CX x cX6_readCalls RX6 rmX6_readCalls none) {w0 : Wd} {w : Wd} (hq : RV x rmX6_readCalls w0) (a0 : Nat) (hl0 : zL w 6 a0 = true) (h : fX6_readCalls a0 w = some w0) : V x 0 [some (.ref a0)] [] (Rp (xD x) w) 0 0 := by
  unfold fX6_readCalls at h
  refine v_aload_n (pc' := 1) hx dX6_readCalls_0 rfl rfl ?_
  refine v_dup (pc' := 2) hx dX6_readCalls_1 rfl rfl ?_
  refine v_getI (pc' := 5) hx hl0 fi_6_14.1 fi_6_14.2.1 fk_X6_74 dX6_readCalls_2 rfl ?_
  refine v_iconst (pc' := 6) (v := 1) hx dX6_readCalls_5 (by decide) rfl ?_
  refine v_iadd (pc' := 7) hx dX6_readCalls_6 rfl ?_
  refine v_putI (pc' := 10) hx hl0 fi_6_14.1 fi_6_14.2.1 fi_6_14.2.2 fk_X6_74 dX6_readCalls_7 rfl ?_
  replace h := lt_inv h; obtain ⟨w_1, ew_2, h⟩ := h
  rw [← ew_2]
  have hl_3 : zL w_1 6 a0 = true := by rw [ew_2]; exact hl0
  refine v_aload_n (pc' := 11) hx dX6_readCalls_10 rfl rfl ?_
  replace h := bd_inv h; obtain ⟨y_5, hcl_4, h⟩ := h
  refine v_callVi (pc' := 14) (w' := w_1) (r := y_5) (ci := 6) (b := a0) (As := []) (rest := []) hx hl_3 (fun G sz hR => ctX6_here (xl x) (xD x) w_1 G sz hR a0 hl_3 hcl_4) rfl my_X6_here ml_X6_80 ⟨by decide, by decide⟩ ⟨by decide, by decide⟩ rfl rfl (Nat.le_of_ble_eq_true rfl) dX6_readCalls_11 rfl ?_
  refine v_bipush (pc' := 16) (v := 97) hx dX6_readCalls_14 (by decide) rfl ?_
  refine v_bipush (pc' := 18) (v := 122) hx dX6_readCalls_16 (by decide) rfl ?_
  replace h := bd_inv h; obtain ⟨y_8, hcl_7, h⟩ := h
  refine v_callSi (pc' := 21) (w' := w_1) (r := y_8) (As := [.int y_5, .int 97, .int 122]) (rest := []) hx (fun G sz hR => ctX6_lies (xl x) (xD x) w_1 G sz hR y_5 97 122  hcl_7) my_X6_lies ml_X6_84 ⟨by decide, by decide⟩ ⟨by decide, by decide⟩ rfl rfl (Nat.le_of_ble_eq_true rfl) dX6_readCalls_18 rfl ?_
  refine v_if_ne (tgt := 32) (pc' := 24) hx dX6_readCalls_21 (by decide) rfl (fun hc_10 => ?_) (fun hc_10 => ?_)
  · rw [if_neg hc_10] at h
    exact vX6_readCalls_l32 hx hq 1000 a0 w_1 hl_3 h
  · rw [if_pos hc_10] at h
    refine v_aload_n (pc' := 25) hx dX6_readCalls_24 rfl rfl ?_
    refine v_aload_n (pc' := 26) hx dX6_readCalls_25 rfl rfl ?_
    refine v_getI (pc' := 29) hx hl_3 fi_6_14.1 fi_6_14.2.1 fk_X6_74 dX6_readCalls_26 rfl ?_
    replace h := bd_inv h; obtain ⟨w_12, hcl_11, h⟩ := h
    refine v_wf (fun hwf_13 => ?_)
    refine v_callVv (pc' := 32) (w' := w_12) (ci := 6) (b := a0) (As := [.int (zI w_1 6 a0 14 0)]) (rest := []) hx hl_3 (fun G sz hR => ctX6_tears (xl x) (xD x) w_1 G sz hR a0 (zI w_1 6 a0 14 0) hl_3 hcl_11) rfl my_X6_tears ml_X6_98 ⟨by decide, by decide⟩ ⟨by decide, by decide⟩ rfl rfl (Nat.le_of_ble_eq_true rfl) dX6_readCalls_29 rfl ?_
    have hm_15 := kX6_tears hcl_11 hwf_13
    have hl_16 : zL w_12 6 a0 = true := (hm_15.2 _ _ hl_3).1
    exact vX6_readCalls_l32 hx hq 1000 a0 w_12 hl_16 h
theorem ctX6_readCalls (l : Launch) (D : DD) (w : Wd) (G : GT) (sz : Nat) (hR : Rp D w G sz) (a0 : Nat) (hl0 : zL w 6 a0 = true) {w0 : Wd} (h : fX6_readCalls a0 w = some w0) : MetV l yX6_readCalls (WS yX6_readCalls cX6_readCalls 1 none) rmX6_readCalls D [.ref a0] G sz w0 := by
  refine MetV_ofV (own := RX6) (P := Rp D w) hR (by decide) rfl (by simp [Value.category]) (Nat.le_of_ble_eq_true rfl) (fun x hx hq hD hl => ?_)
  subst hD
  exact vX6_readCalls hx hq a0 hl0 h
theorem kX6_readRow_b308 {w0 : Wd} {w wb : Wd} (hm : mo wb w) (h : fX6_readRow_b308 w = some w0) : mo wb w0 := by
  unfold fX6_readRow_b308 at h
  cases h; exact hm
theorem kX6_readRow_b272 {w0 : Wd} {a0 : Nat} {w wb : Wd} (hm : mo wb w) (h : fX6_readRow_b272 a0 w = some w0) : mo wb w0 := by
  unfold fX6_readRow_b272 at h
  by_cases hc_1 : (zI w 6 a0 16 0) = (-1)
  · rw [if_pos hc_1] at h
    by_cases hc_2 : (zI w 6 a0 15 0) ≤ (zI w 6 a0 14 0)
    · rw [if_pos hc_2] at h
      exact kX6_readRow_b308 hm h
    · rw [if_neg hc_2] at h
      replace h := bd_inv h; obtain ⟨y_4, hcl_3, h⟩ := h
      by_cases hc_6 : y_4 = 59
      · rw [if_pos hc_6] at h
        exact kX6_readRow_b308 hm h
      · rw [if_neg hc_6] at h
        replace h := bd_inv h; obtain ⟨w_8, hcl_7, h⟩ := h
        have hm := hm.tr (kX6_tears hcl_7)
        exact kX6_readRow_b308 hm h
  · rw [if_neg hc_1] at h
    exact kX6_readRow_b308 hm h
theorem kX6_readRow_b251 {w0 : Wd} {a0 : Nat} {w wb : Wd} (hm : mo wb w) (h : fX6_readRow_b251 a0 w = some w0) : mo wb w0 := by
  unfold fX6_readRow_b251 at h
  by_cases hc_1 : (zI w 6 a0 16 0) = (-1)
  · rw [if_pos hc_1] at h
    replace h := bd_inv h; obtain ⟨y_3, hcl_2, h⟩ := h
    by_cases hc_5 : y_3 = 99
    · rw [if_pos hc_5] at h
      replace h := bd_inv h; obtain ⟨w_7, hcl_6, h⟩ := h
      have hm := hm.tr (kX6_readCalls hcl_6)
      exact kX6_readRow_b272 hm h
    · rw [if_neg hc_5] at h
      exact kX6_readRow_b272 hm h
  · rw [if_neg hc_1] at h
    exact kX6_readRow_b272 hm h
theorem kX6_readRow_b218 {w0 : Wd} {a0 : Nat} {x2 : Int32} {w wb : Wd} (hm : mo wb w) (h : fX6_readRow_b218 a0 x2 w = some w0) : mo wb w0 := by
  unfold fX6_readRow_b218 at h
  by_cases hc_1 : (zI w 6 a0 16 0) = (-1)
  · rw [if_pos hc_1] at h
    by_cases hc_2 : x2 = 0
    · rw [if_pos hc_2] at h
      exact kX6_readRow_b251 hm h
    · rw [if_neg hc_2] at h
      replace h := lt_inv h; obtain ⟨w_3, ew_4, h⟩ := h
      have hm := mo_eI hm ew_4
      replace h := bd2_inv h; obtain ⟨y_7, w_8, hcl_6, h⟩ := h
      have hm := hm.tr (kX6_number hcl_6)
      replace h := lt_inv h; obtain ⟨w_13, ew_14, h⟩ := h
      have hm := mo_eI hm ew_14
      exact kX6_readRow_b251 hm h
  · rw [if_neg hc_1] at h
    exact kX6_readRow_b251 hm h
theorem kX6_readRow_b210 {w0 : Wd} {a0 : Nat} {x2 : Int32} {w wb : Wd} (hm : mo wb w) (h : fX6_readRow_b210 a0 x2 w = some w0) : mo wb w0 := by
  unfold fX6_readRow_b210 at h
  replace h := bd_inv h; obtain ⟨w_2, hcl_1, h⟩ := h
  have hm := hm.tr (kX6_tears hcl_1)
  exact kX6_readRow_b218 hm h
theorem kX6_readRow_b194 {w0 : Wd} {a0 : Nat} {x2 : Int32} {xs0 : Int32} {xs1 : Int32} {w wb : Wd} (hm : mo wb w) (h : fX6_readRow_b194 a0 x2 xs0 xs1 w = some w0) : mo wb w0 := by
  unfold fX6_readRow_b194 at h
  by_cases hc_1 : xs1 = xs0
  · rw [if_pos hc_1] at h
    exact kX6_readRow_b218 hm h
  · rw [if_neg hc_1] at h
    by_cases hc_2 : x2 = 0
    · rw [if_pos hc_2] at h
      replace h := bd_inv h; obtain ⟨y_4, hcl_3, h⟩ := h
      by_cases hc_6 : y_4 = 119
      · rw [if_pos hc_6] at h
        exact kX6_readRow_b210 hm h
      · rw [if_neg hc_6] at h
        exact kX6_readRow_b218 hm h
    · rw [if_neg hc_2] at h
      exact kX6_readRow_b210 hm h
theorem kX6_readRow_b178 {w0 : Wd} {a0 : Nat} {xs0 : Int32} {w wb : Wd} (hm : mo wb w) (h : fX6_readRow_b178 a0 xs0 w = some w0) : mo wb w0 := by
  unfold fX6_readRow_b178 at h
  replace h := bd_inv h; obtain ⟨y_2, hcl_1, h⟩ := h
  by_cases hc_4 : y_2 = 119
  · rw [if_pos hc_4] at h
    exact kX6_readRow_b194 hm h
  · rw [if_neg hc_4] at h
    exact kX6_readRow_b194 hm h
theorem kX6_readRow_b173 {w0 : Wd} {a0 : Nat} {w wb : Wd} (hm : mo wb w) (h : fX6_readRow_b173 a0 w = some w0) : mo wb w0 := by
  unfold fX6_readRow_b173 at h
  exact kX6_readRow_b178 hm h
theorem kX6_readRow_b148 {w0 : Wd} {a0 : Nat} {w wb : Wd} (hm : mo wb w) (h : fX6_readRow_b148 a0 w = some w0) : mo wb w0 := by
  unfold fX6_readRow_b148 at h
  by_cases hc_1 : (zI w 6 a0 16 0) = (-1)
  · rw [if_pos hc_1] at h
    by_cases hc_2 : (zI w 6 a0 19 0) = 1
    · rw [if_pos hc_2] at h
      exact kX6_readRow_b173 hm h
    · rw [if_neg hc_2] at h
      by_cases hc_3 : (zI w 6 a0 19 0) = 2
      · rw [if_pos hc_3] at h
        exact kX6_readRow_b173 hm h
      · rw [if_neg hc_3] at h
        exact kX6_readRow_b178 hm h
  · rw [if_neg hc_1] at h
    cases h; exact hm
theorem kX6_readRow_b126 {w0 : Wd} {a0 : Nat} {x1 : Int32} {w wb : Wd} (hm : mo wb w) (h : fX6_readRow_b126 a0 x1 w = some w0) : mo wb w0 := by
  unfold fX6_readRow_b126 at h
  by_cases hc_1 : (zI w 6 a0 16 0) = (-1)
  · rw [if_pos hc_1] at h
    replace h := bd_inv h; obtain ⟨y_3, hcl_2, h⟩ := h
    by_cases hc_5 : y_3 = 104
    · rw [if_pos hc_5] at h
      replace h := bd_inv h; obtain ⟨w_7, hcl_6, h⟩ := h
      have hm := hm.tr (kX6_readLocks hcl_6)
      exact kX6_readRow_b148 hm h
    · rw [if_neg hc_5] at h
      exact kX6_readRow_b148 hm h
  · rw [if_neg hc_1] at h
    exact kX6_readRow_b148 hm h
theorem kX6_readRow_b96 {w0 : Wd} {a0 : Nat} {x1 : Int32} {w wb : Wd} (hm : mo wb w) (h : fX6_readRow_b96 a0 x1 w = some w0) : mo wb w0 := by
  unfold fX6_readRow_b96 at h
  replace h := lt_inv h; obtain ⟨w_1, ew_2, h⟩ := h
  have hm := mo_eI hm ew_2
  by_cases hc_4 : (zI w_1 6 a0 16 0) = (-1)
  · rw [if_pos hc_4] at h
    replace h := bd2_inv h; obtain ⟨y_6, w_7, hcl_5, h⟩ := h
    have hm := hm.tr (kX6_number hcl_5)
    replace h := lt_inv h; obtain ⟨w_12, ew_13, h⟩ := h
    have hm := mo_eI hm ew_13
    exact kX6_readRow_b126 hm h
  · rw [if_neg hc_4] at h
    exact kX6_readRow_b126 hm h
theorem kX6_readRow_b69 {w0 : Wd} {a0 : Nat} {x1 : Int32} {w wb : Wd} (hm : mo wb w) (h : fX6_readRow_b69 a0 x1 w = some w0) : mo wb w0 := by
  unfold fX6_readRow_b69 at h
  replace h := bd_inv h; obtain ⟨y_2, hcl_1, h⟩ := h
  replace h := bd_inv h; obtain ⟨y_5, hcl_4, h⟩ := h
  replace h := lt_inv h; obtain ⟨w_7, ew_8, h⟩ := h
  have hm := mo_eI hm ew_8
  by_cases hc_10 : (zI w_7 6 a0 19 0) = (-1)
  · rw [if_pos hc_10] at h
    replace h := bd_inv h; obtain ⟨w_12, hcl_11, h⟩ := h
    have hm := hm.tr (kX6_tears hcl_11)
    exact kX6_readRow_b96 hm h
  · rw [if_neg hc_10] at h
    exact kX6_readRow_b96 hm h
theorem kX6_readRow {w0 : Wd} {a0 : Nat} {x1 : Int32} {w : Wd} (h : fX6_readRow a0 x1 w = some w0) : mo w w0 := by
  have hm := mo_rf w
  unfold fX6_readRow at h
  replace h := lt_inv h; obtain ⟨w_1, ew_2, h⟩ := h
  have hm := mo_eI hm ew_2
  replace h := lt_inv h; obtain ⟨w_4, ew_5, h⟩ := h
  have hm := mo_eI hm ew_5
  replace h := lt_inv h; obtain ⟨w_7, ew_8, h⟩ := h
  have hm := mo_eI hm ew_8
  replace h := lt_inv h; obtain ⟨w_10, ew_11, h⟩ := h
  have hm := mo_eI hm ew_11
  replace h := bd2_inv h; obtain ⟨y_14, w_15, hcl_13, h⟩ := h
  have hm := hm.tr (kX6_number hcl_13)
  replace h := lt_inv h; obtain ⟨w_20, ew_21, h⟩ := h
  have hm := mo_eI hm ew_21
  by_cases hc_24 : (zI w_20 6 a0 16 0) = (-1)
  · rw [if_pos hc_24] at h
    replace h := ckp_inv h; obtain ⟨hk_27, h⟩ := h
    by_cases hc_28 : (zI w_20 6 a0 7 (((24 * x1) + (zI w_20 6 a0 18 0)) : Int32).toNatClampNeg) = 0
    · rw [if_pos hc_28] at h
      exact kX6_readRow_b69 hm h
    · rw [if_neg hc_28] at h
      replace h := bd_inv h; obtain ⟨w_30, hcl_29, h⟩ := h
      have hm := hm.tr (kX6_tears hcl_29)
      exact kX6_readRow_b69 hm h
  · rw [if_neg hc_24] at h
    exact kX6_readRow_b69 hm h
theorem vX6_readRow_b308 {x : CT} (hx : CX x cX6_readRow RX6 rmX6_readRow none) {w0 : Wd} (hq : RV x rmX6_readRow w0) {w : Wd} (h : fX6_readRow_b308 w = some w0) : V x 308 [none, none, none] [] (Rp (xD x) w) 0 0 := by
  unfold fX6_readRow_b308 at h
  exact v_vret hx hq (by decide) (by decide) dX6_readRow_308 (by cases h; rfl)
theorem vX6_readRow_b272 {x : CT} (hx : CX x cX6_readRow RX6 rmX6_readRow none) {w0 : Wd} (hq : RV x rmX6_readRow w0) {a0 : Nat} {w : Wd} (hl0 : zL w 6 a0 = true) (h : fX6_readRow_b272 a0 w = some w0) : V x 272 [some (.ref a0), none, none] [] (Rp (xD x) w) 0 0 := by
  unfold fX6_readRow_b272 at h
  refine v_aload_n (pc' := 273) hx dX6_readRow_272 rfl rfl ?_
  refine v_getI (pc' := 276) hx hl0 fi_6_16.1 fi_6_16.2.1 fk_X6_88 dX6_readRow_273 rfl ?_
  refine v_iconst (pc' := 277) (v := (-1)) hx dX6_readRow_276 (by decide) rfl ?_
  refine v_icmp_ne (tgt := 308) (pc' := 280) hx dX6_readRow_277 (by decide) rfl (fun hc_1 => ?_) (fun hc_1 => ?_)
  · rw [if_neg hc_1] at h
    refine V.sb (L' := [none, none, none]) ⟨Or.inl rfl, Or.inl rfl, Or.inl rfl, trivial⟩ ?_
    exact vX6_readRow_b308 hx hq h
  · rw [if_pos hc_1] at h
    refine v_aload_n (pc' := 281) hx dX6_readRow_280 rfl rfl ?_
    refine v_getI (pc' := 284) hx hl0 fi_6_14.1 fi_6_14.2.1 fk_X6_74 dX6_readRow_281 rfl ?_
    refine v_aload_n (pc' := 285) hx dX6_readRow_284 rfl rfl ?_
    refine v_getI (pc' := 288) hx hl0 fi_6_15.1 fi_6_15.2.1 fk_X6_77 dX6_readRow_285 rfl ?_
    refine v_icmp_ge (tgt := 308) (pc' := 291) hx dX6_readRow_288 (by decide) rfl (fun hc_2 => ?_) (fun hc_2 => ?_)
    · rw [if_pos hc_2] at h
      refine V.sb (L' := [none, none, none]) ⟨Or.inl rfl, Or.inl rfl, Or.inl rfl, trivial⟩ ?_
      exact vX6_readRow_b308 hx hq h
    · rw [if_neg hc_2] at h
      refine v_aload_n (pc' := 292) hx dX6_readRow_291 rfl rfl ?_
      replace h := bd_inv h; obtain ⟨y_4, hcl_3, h⟩ := h
      refine v_callVi (pc' := 295) (w' := w) (r := y_4) (ci := 6) (b := a0) (As := []) (rest := []) hx hl0 (fun G sz hR => ctX6_here (xl x) (xD x) w G sz hR a0 hl0 hcl_3) rfl my_X6_here ml_X6_80 ⟨by decide, by decide⟩ ⟨by decide, by decide⟩ rfl rfl (Nat.le_of_ble_eq_true rfl) dX6_readRow_292 rfl ?_
      refine v_bipush (pc' := 297) (v := 59) hx dX6_readRow_295 (by decide) rfl ?_
      refine v_icmp_eq (tgt := 308) (pc' := 300) hx dX6_readRow_297 (by decide) rfl (fun hc_6 => ?_) (fun hc_6 => ?_)
      · rw [if_pos hc_6] at h
        refine V.sb (L' := [none, none, none]) ⟨Or.inl rfl, Or.inl rfl, Or.inl rfl, trivial⟩ ?_
        exact vX6_readRow_b308 hx hq h
      · rw [if_neg hc_6] at h
        refine v_aload_n (pc' := 301) hx dX6_readRow_300 rfl rfl ?_
        refine v_aload_n (pc' := 302) hx dX6_readRow_301 rfl rfl ?_
        refine v_getI (pc' := 305) hx hl0 fi_6_14.1 fi_6_14.2.1 fk_X6_74 dX6_readRow_302 rfl ?_
        replace h := bd_inv h; obtain ⟨w_8, hcl_7, h⟩ := h
        refine v_wf (fun hwf_9 => ?_)
        refine v_callVv (pc' := 308) (w' := w_8) (ci := 6) (b := a0) (As := [.int (zI w 6 a0 14 0)]) (rest := []) hx hl0 (fun G sz hR => ctX6_tears (xl x) (xD x) w G sz hR a0 (zI w 6 a0 14 0) hl0 hcl_7) rfl my_X6_tears ml_X6_98 ⟨by decide, by decide⟩ ⟨by decide, by decide⟩ rfl rfl (Nat.le_of_ble_eq_true rfl) dX6_readRow_305 rfl ?_
        have hm_11 := kX6_tears hcl_7 hwf_9
        have hl_12 : zL w_8 6 a0 = true := (hm_11.2 _ _ hl0).1
        refine V.sb (L' := [none, none, none]) ⟨Or.inl rfl, Or.inl rfl, Or.inl rfl, trivial⟩ ?_
        exact vX6_readRow_b308 hx hq h
theorem vX6_readRow_b251 {x : CT} (hx : CX x cX6_readRow RX6 rmX6_readRow none) {w0 : Wd} (hq : RV x rmX6_readRow w0) {a0 : Nat} {w : Wd} (hl0 : zL w 6 a0 = true) (h : fX6_readRow_b251 a0 w = some w0) : V x 251 [some (.ref a0), none, none] [] (Rp (xD x) w) 0 0 := by
  unfold fX6_readRow_b251 at h
  refine v_aload_n (pc' := 252) hx dX6_readRow_251 rfl rfl ?_
  refine v_getI (pc' := 255) hx hl0 fi_6_16.1 fi_6_16.2.1 fk_X6_88 dX6_readRow_252 rfl ?_
  refine v_iconst (pc' := 256) (v := (-1)) hx dX6_readRow_255 (by decide) rfl ?_
  refine v_icmp_ne (tgt := 272) (pc' := 259) hx dX6_readRow_256 (by decide) rfl (fun hc_1 => ?_) (fun hc_1 => ?_)
  · rw [if_neg hc_1] at h
    exact vX6_readRow_b272 hx hq hl0 h
  · rw [if_pos hc_1] at h
    refine v_aload_n (pc' := 260) hx dX6_readRow_259 rfl rfl ?_
    replace h := bd_inv h; obtain ⟨y_3, hcl_2, h⟩ := h
    refine v_callVi (pc' := 263) (w' := w) (r := y_3) (ci := 6) (b := a0) (As := []) (rest := []) hx hl0 (fun G sz hR => ctX6_here (xl x) (xD x) w G sz hR a0 hl0 hcl_2) rfl my_X6_here ml_X6_80 ⟨by decide, by decide⟩ ⟨by decide, by decide⟩ rfl rfl (Nat.le_of_ble_eq_true rfl) dX6_readRow_260 rfl ?_
    refine v_bipush (pc' := 265) (v := 99) hx dX6_readRow_263 (by decide) rfl ?_
    refine v_icmp_ne (tgt := 272) (pc' := 268) hx dX6_readRow_265 (by decide) rfl (fun hc_5 => ?_) (fun hc_5 => ?_)
    · rw [if_neg hc_5] at h
      exact vX6_readRow_b272 hx hq hl0 h
    · rw [if_pos hc_5] at h
      refine v_aload_n (pc' := 269) hx dX6_readRow_268 rfl rfl ?_
      replace h := bd_inv h; obtain ⟨w_7, hcl_6, h⟩ := h
      refine v_wf (fun hwf_8 => ?_)
      refine v_callVv (pc' := 272) (w' := w_7) (ci := 6) (b := a0) (As := []) (rest := []) hx hl0 (fun G sz hR => ctX6_readCalls (xl x) (xD x) w G sz hR a0 hl0 hcl_6) rfl my_X6_readCalls ml_X6_133 ⟨by decide, by decide⟩ ⟨by decide, by decide⟩ rfl rfl (Nat.le_of_ble_eq_true rfl) dX6_readRow_269 rfl ?_
      have hm_10 := kX6_readCalls hcl_6 hwf_8
      have hl_11 : zL w_7 6 a0 = true := (hm_10.2 _ _ hl0).1
      exact vX6_readRow_b272 hx hq hl_11 h
theorem vX6_readRow_b218 {x : CT} (hx : CX x cX6_readRow RX6 rmX6_readRow none) {w0 : Wd} (hq : RV x rmX6_readRow w0) {a0 : Nat} {x2 : Int32} {w : Wd} (hl0 : zL w 6 a0 = true) (h : fX6_readRow_b218 a0 x2 w = some w0) : V x 218 [some (.ref a0), none, some (.int x2)] [] (Rp (xD x) w) 0 0 := by
  unfold fX6_readRow_b218 at h
  refine v_aload_n (pc' := 219) hx dX6_readRow_218 rfl rfl ?_
  refine v_getI (pc' := 222) hx hl0 fi_6_16.1 fi_6_16.2.1 fk_X6_88 dX6_readRow_219 rfl ?_
  refine v_iconst (pc' := 223) (v := (-1)) hx dX6_readRow_222 (by decide) rfl ?_
  refine v_icmp_ne (tgt := 251) (pc' := 226) hx dX6_readRow_223 (by decide) rfl (fun hc_1 => ?_) (fun hc_1 => ?_)
  · rw [if_neg hc_1] at h
    refine V.sb (L' := [some (.ref a0), none, none]) ⟨Or.inr rfl, Or.inl rfl, Or.inl rfl, trivial⟩ ?_
    exact vX6_readRow_b251 hx hq hl0 h
  · rw [if_pos hc_1] at h
    refine v_iload_n (pc' := 227) hx dX6_readRow_226 rfl rfl ?_
    refine v_if_eq (tgt := 251) (pc' := 230) hx dX6_readRow_227 (by decide) rfl (fun hc_2 => ?_) (fun hc_2 => ?_)
    · rw [if_pos hc_2] at h
      refine V.sb (L' := [some (.ref a0), none, none]) ⟨Or.inr rfl, Or.inl rfl, Or.inl rfl, trivial⟩ ?_
      exact vX6_readRow_b251 hx hq hl0 h
    · rw [if_neg hc_2] at h
      refine v_aload_n (pc' := 231) hx dX6_readRow_230 rfl rfl ?_
      refine v_dup (pc' := 232) hx dX6_readRow_231 rfl rfl ?_
      refine v_getI (pc' := 235) hx hl0 fi_6_14.1 fi_6_14.2.1 fk_X6_74 dX6_readRow_232 rfl ?_
      refine v_iconst (pc' := 236) (v := 1) hx dX6_readRow_235 (by decide) rfl ?_
      refine v_iadd (pc' := 237) hx dX6_readRow_236 rfl ?_
      refine v_putI (pc' := 240) hx hl0 fi_6_14.1 fi_6_14.2.1 fi_6_14.2.2 fk_X6_74 dX6_readRow_237 rfl ?_
      replace h := lt_inv h; obtain ⟨w_3, ew_4, h⟩ := h
      rw [← ew_4]
      have hl_5 : zL w_3 6 a0 = true := by rw [ew_4]; exact hl0
      refine v_aload_n (pc' := 241) hx dX6_readRow_240 rfl rfl ?_
      refine v_aload_n (pc' := 242) hx dX6_readRow_241 rfl rfl ?_
      refine v_iconst (pc' := 243) (v := 2) hx dX6_readRow_242 (by decide) rfl ?_
      refine v_bipush (pc' := 245) (v := 15) hx dX6_readRow_243 (by decide) rfl ?_
      replace h := bd2_inv h; obtain ⟨y_7, w_8, hcl_6, h⟩ := h
      refine v_wf (fun hwf_9 => ?_)
      refine v_callVi (pc' := 248) (w' := w_8) (r := y_7) (ci := 6) (b := a0) (As := [.int 2, .int 15]) (rest := [.ref a0]) hx hl_5 (fun G sz hR => ctX6_number (xl x) (xD x) w_3 G sz hR a0 2 15 hl_5 hcl_6) rfl my_X6_number ml_X6_101 ⟨by decide, by decide⟩ ⟨by decide, by decide⟩ rfl rfl (Nat.le_of_ble_eq_true rfl) dX6_readRow_245 rfl ?_
      have hm_11 := kX6_number hcl_6 hwf_9
      have hl_12 : zL w_8 6 a0 = true := (hm_11.2 _ _ hl_5).1
      refine v_putI (pc' := 251) hx hl_12 fi_6_22.1 fi_6_22.2.1 fi_6_22.2.2 fk_X6_115 dX6_readRow_248 rfl ?_
      replace h := lt_inv h; obtain ⟨w_13, ew_14, h⟩ := h
      rw [← ew_14]
      have hl_15 : zL w_13 6 a0 = true := by rw [ew_14]; exact hl_12
      have hwf_16 : WF w_13 := by rw [ew_14]; exact hm_11.1
      refine V.sb (L' := [some (.ref a0), none, none]) ⟨Or.inr rfl, Or.inl rfl, Or.inl rfl, trivial⟩ ?_
      exact vX6_readRow_b251 hx hq hl_15 h
theorem vX6_readRow_b210 {x : CT} (hx : CX x cX6_readRow RX6 rmX6_readRow none) {w0 : Wd} (hq : RV x rmX6_readRow w0) {a0 : Nat} {x2 : Int32} {w : Wd} (hl0 : zL w 6 a0 = true) (h : fX6_readRow_b210 a0 x2 w = some w0) : V x 210 [some (.ref a0), none, some (.int x2)] [] (Rp (xD x) w) 0 0 := by
  unfold fX6_readRow_b210 at h
  refine v_aload_n (pc' := 211) hx dX6_readRow_210 rfl rfl ?_
  refine v_aload_n (pc' := 212) hx dX6_readRow_211 rfl rfl ?_
  refine v_getI (pc' := 215) hx hl0 fi_6_14.1 fi_6_14.2.1 fk_X6_74 dX6_readRow_212 rfl ?_
  replace h := bd_inv h; obtain ⟨w_2, hcl_1, h⟩ := h
  refine v_wf (fun hwf_3 => ?_)
  refine v_callVv (pc' := 218) (w' := w_2) (ci := 6) (b := a0) (As := [.int (zI w 6 a0 14 0)]) (rest := []) hx hl0 (fun G sz hR => ctX6_tears (xl x) (xD x) w G sz hR a0 (zI w 6 a0 14 0) hl0 hcl_1) rfl my_X6_tears ml_X6_98 ⟨by decide, by decide⟩ ⟨by decide, by decide⟩ rfl rfl (Nat.le_of_ble_eq_true rfl) dX6_readRow_215 rfl ?_
  have hm_5 := kX6_tears hcl_1 hwf_3
  have hl_6 : zL w_2 6 a0 = true := (hm_5.2 _ _ hl0).1
  exact vX6_readRow_b218 hx hq hl_6 h
theorem vX6_readRow_b194 {x : CT} (hx : CX x cX6_readRow RX6 rmX6_readRow none) {w0 : Wd} (hq : RV x rmX6_readRow w0) {a0 : Nat} {x2 : Int32} {xs0 : Int32} {xs1 : Int32} {w : Wd} (hl0 : zL w 6 a0 = true) (h : fX6_readRow_b194 a0 x2 xs0 xs1 w = some w0) : V x 194 [some (.ref a0), none, some (.int x2)] [.int xs0, .int xs1] (Rp (xD x) w) 0 0 := by
  unfold fX6_readRow_b194 at h
  refine v_icmp_eq (tgt := 218) (pc' := 197) hx dX6_readRow_194 (by decide) rfl (fun hc_1 => ?_) (fun hc_1 => ?_)
  · rw [if_pos hc_1] at h
    exact vX6_readRow_b218 hx hq hl0 h
  · rw [if_neg hc_1] at h
    refine v_iload_n (pc' := 198) hx dX6_readRow_197 rfl rfl ?_
    refine v_if_ne (tgt := 210) (pc' := 201) hx dX6_readRow_198 (by decide) rfl (fun hc_2 => ?_) (fun hc_2 => ?_)
    · rw [if_neg hc_2] at h
      exact vX6_readRow_b210 hx hq hl0 h
    · rw [if_pos hc_2] at h
      refine v_aload_n (pc' := 202) hx dX6_readRow_201 rfl rfl ?_
      replace h := bd_inv h; obtain ⟨y_4, hcl_3, h⟩ := h
      refine v_callVi (pc' := 205) (w' := w) (r := y_4) (ci := 6) (b := a0) (As := []) (rest := []) hx hl0 (fun G sz hR => ctX6_here (xl x) (xD x) w G sz hR a0 hl0 hcl_3) rfl my_X6_here ml_X6_80 ⟨by decide, by decide⟩ ⟨by decide, by decide⟩ rfl rfl (Nat.le_of_ble_eq_true rfl) dX6_readRow_202 rfl ?_
      refine v_bipush (pc' := 207) (v := 119) hx dX6_readRow_205 (by decide) rfl ?_
      refine v_icmp_ne (tgt := 218) (pc' := 210) hx dX6_readRow_207 (by decide) rfl (fun hc_6 => ?_) (fun hc_6 => ?_)
      · rw [if_neg hc_6] at h
        exact vX6_readRow_b218 hx hq hl0 h
      · rw [if_pos hc_6] at h
        exact vX6_readRow_b210 hx hq hl0 h
theorem vX6_readRow_b178 {x : CT} (hx : CX x cX6_readRow RX6 rmX6_readRow none) {w0 : Wd} (hq : RV x rmX6_readRow w0) {a0 : Nat} {xs0 : Int32} {w : Wd} (hl0 : zL w 6 a0 = true) (h : fX6_readRow_b178 a0 xs0 w = some w0) : V x 178 [some (.ref a0), none, none] [.int xs0] (Rp (xD x) w) 0 0 := by
  unfold fX6_readRow_b178 at h
  refine v_istore_n (pc' := 179) (L' := [some (.ref a0), none, some (.int xs0)]) hx dX6_readRow_178 rfl rfl (Nat.le_of_ble_eq_true rfl) ?_
  refine v_iload_n (pc' := 180) hx dX6_readRow_179 rfl rfl ?_
  refine v_aload_n (pc' := 181) hx dX6_readRow_180 rfl rfl ?_
  replace h := bd_inv h; obtain ⟨y_2, hcl_1, h⟩ := h
  refine v_callVi (pc' := 184) (w' := w) (r := y_2) (ci := 6) (b := a0) (As := []) (rest := [.int xs0]) hx hl0 (fun G sz hR => ctX6_here (xl x) (xD x) w G sz hR a0 hl0 hcl_1) rfl my_X6_here ml_X6_80 ⟨by decide, by decide⟩ ⟨by decide, by decide⟩ rfl rfl (Nat.le_of_ble_eq_true rfl) dX6_readRow_181 rfl ?_
  refine v_bipush (pc' := 186) (v := 119) hx dX6_readRow_184 (by decide) rfl ?_
  refine v_icmp_ne (tgt := 193) (pc' := 189) hx dX6_readRow_186 (by decide) rfl (fun hc_4 => ?_) (fun hc_4 => ?_)
  · rw [if_neg hc_4] at h
    refine v_iconst (pc' := 194) (v := 0) hx dX6_readRow_193 (by decide) rfl ?_
    exact vX6_readRow_b194 hx hq hl0 h
  · rw [if_pos hc_4] at h
    refine v_iconst (pc' := 190) (v := 1) hx dX6_readRow_189 (by decide) rfl ?_
    refine v_goto (tgt := 194) hx dX6_readRow_190 (by decide) ?_
    exact vX6_readRow_b194 hx hq hl0 h
theorem vX6_readRow_b173 {x : CT} (hx : CX x cX6_readRow RX6 rmX6_readRow none) {w0 : Wd} (hq : RV x rmX6_readRow w0) {a0 : Nat} {w : Wd} (hl0 : zL w 6 a0 = true) (h : fX6_readRow_b173 a0 w = some w0) : V x 173 [some (.ref a0), none, none] [] (Rp (xD x) w) 0 0 := by
  unfold fX6_readRow_b173 at h
  refine v_iconst (pc' := 174) (v := 1) hx dX6_readRow_173 (by decide) rfl ?_
  refine v_goto (tgt := 178) hx dX6_readRow_174 (by decide) ?_
  exact vX6_readRow_b178 hx hq hl0 h
theorem vX6_readRow_b148 {x : CT} (hx : CX x cX6_readRow RX6 rmX6_readRow none) {w0 : Wd} (hq : RV x rmX6_readRow w0) {a0 : Nat} {w : Wd} (hl0 : zL w 6 a0 = true) (h : fX6_readRow_b148 a0 w = some w0) : V x 148 [some (.ref a0), none, none] [] (Rp (xD x) w) 0 0 := by
  unfold fX6_readRow_b148 at h
  refine v_aload_n (pc' := 149) hx dX6_readRow_148 rfl rfl ?_
  refine v_getI (pc' := 152) hx hl0 fi_6_16.1 fi_6_16.2.1 fk_X6_88 dX6_readRow_149 rfl ?_
  refine v_iconst (pc' := 153) (v := (-1)) hx dX6_readRow_152 (by decide) rfl ?_
  refine v_icmp_eq (tgt := 157) (pc' := 156) hx dX6_readRow_153 (by decide) rfl (fun hc_1 => ?_) (fun hc_1 => ?_)
  · rw [if_pos hc_1] at h
    refine v_aload_n (pc' := 158) hx dX6_readRow_157 rfl rfl ?_
    refine v_getI (pc' := 161) hx hl0 fi_6_19.1 fi_6_19.2.1 fk_X6_124 dX6_readRow_158 rfl ?_
    refine v_iconst (pc' := 162) (v := 1) hx dX6_readRow_161 (by decide) rfl ?_
    refine v_icmp_eq (tgt := 173) (pc' := 165) hx dX6_readRow_162 (by decide) rfl (fun hc_2 => ?_) (fun hc_2 => ?_)
    · rw [if_pos hc_2] at h
      exact vX6_readRow_b173 hx hq hl0 h
    · rw [if_neg hc_2] at h
      refine v_aload_n (pc' := 166) hx dX6_readRow_165 rfl rfl ?_
      refine v_getI (pc' := 169) hx hl0 fi_6_19.1 fi_6_19.2.1 fk_X6_124 dX6_readRow_166 rfl ?_
      refine v_iconst (pc' := 170) (v := 2) hx dX6_readRow_169 (by decide) rfl ?_
      refine v_icmp_ne (tgt := 177) (pc' := 173) hx dX6_readRow_170 (by decide) rfl (fun hc_3 => ?_) (fun hc_3 => ?_)
      · rw [if_neg hc_3] at h
        refine v_iconst (pc' := 178) (v := 0) hx dX6_readRow_177 (by decide) rfl ?_
        exact vX6_readRow_b178 hx hq hl0 h
      · rw [if_pos hc_3] at h
        exact vX6_readRow_b173 hx hq hl0 h
  · rw [if_neg hc_1] at h
    exact v_vret hx hq (by decide) (by decide) dX6_readRow_156 (by cases h; rfl)
theorem vX6_readRow_b126 {x : CT} (hx : CX x cX6_readRow RX6 rmX6_readRow none) {w0 : Wd} (hq : RV x rmX6_readRow w0) {a0 : Nat} {x1 : Int32} {w : Wd} (hl0 : zL w 6 a0 = true) (h : fX6_readRow_b126 a0 x1 w = some w0) : V x 126 [some (.ref a0), some (.int x1), none] [] (Rp (xD x) w) 0 0 := by
  unfold fX6_readRow_b126 at h
  refine v_aload_n (pc' := 127) hx dX6_readRow_126 rfl rfl ?_
  refine v_getI (pc' := 130) hx hl0 fi_6_16.1 fi_6_16.2.1 fk_X6_88 dX6_readRow_127 rfl ?_
  refine v_iconst (pc' := 131) (v := (-1)) hx dX6_readRow_130 (by decide) rfl ?_
  refine v_icmp_ne (tgt := 148) (pc' := 134) hx dX6_readRow_131 (by decide) rfl (fun hc_1 => ?_) (fun hc_1 => ?_)
  · rw [if_neg hc_1] at h
    refine V.sb (L' := [some (.ref a0), none, none]) ⟨Or.inr rfl, Or.inl rfl, Or.inl rfl, trivial⟩ ?_
    exact vX6_readRow_b148 hx hq hl0 h
  · rw [if_pos hc_1] at h
    refine v_aload_n (pc' := 135) hx dX6_readRow_134 rfl rfl ?_
    replace h := bd_inv h; obtain ⟨y_3, hcl_2, h⟩ := h
    refine v_callVi (pc' := 138) (w' := w) (r := y_3) (ci := 6) (b := a0) (As := []) (rest := []) hx hl0 (fun G sz hR => ctX6_here (xl x) (xD x) w G sz hR a0 hl0 hcl_2) rfl my_X6_here ml_X6_80 ⟨by decide, by decide⟩ ⟨by decide, by decide⟩ rfl rfl (Nat.le_of_ble_eq_true rfl) dX6_readRow_135 rfl ?_
    refine v_bipush (pc' := 140) (v := 104) hx dX6_readRow_138 (by decide) rfl ?_
    refine v_icmp_ne (tgt := 148) (pc' := 143) hx dX6_readRow_140 (by decide) rfl (fun hc_5 => ?_) (fun hc_5 => ?_)
    · rw [if_neg hc_5] at h
      refine V.sb (L' := [some (.ref a0), none, none]) ⟨Or.inr rfl, Or.inl rfl, Or.inl rfl, trivial⟩ ?_
      exact vX6_readRow_b148 hx hq hl0 h
    · rw [if_pos hc_5] at h
      refine v_aload_n (pc' := 144) hx dX6_readRow_143 rfl rfl ?_
      refine v_iload_n (pc' := 145) hx dX6_readRow_144 rfl rfl ?_
      replace h := bd_inv h; obtain ⟨w_7, hcl_6, h⟩ := h
      refine v_wf (fun hwf_8 => ?_)
      refine v_callVv (pc' := 148) (w' := w_7) (ci := 6) (b := a0) (As := [.int x1]) (rest := []) hx hl0 (fun G sz hR => ctX6_readLocks (xl x) (xD x) w G sz hR a0 x1 hl0 hcl_6) rfl my_X6_readLocks ml_X6_130 ⟨by decide, by decide⟩ ⟨by decide, by decide⟩ rfl rfl (Nat.le_of_ble_eq_true rfl) dX6_readRow_145 rfl ?_
      have hm_10 := kX6_readLocks hcl_6 hwf_8
      have hl_11 : zL w_7 6 a0 = true := (hm_10.2 _ _ hl0).1
      refine V.sb (L' := [some (.ref a0), none, none]) ⟨Or.inr rfl, Or.inl rfl, Or.inl rfl, trivial⟩ ?_
      exact vX6_readRow_b148 hx hq hl_11 h
theorem vX6_readRow_b96 {x : CT} (hx : CX x cX6_readRow RX6 rmX6_readRow none) {w0 : Wd} (hq : RV x rmX6_readRow w0) {a0 : Nat} {x1 : Int32} {w : Wd} (hl0 : zL w 6 a0 = true) (h : fX6_readRow_b96 a0 x1 w = some w0) : V x 96 [some (.ref a0), some (.int x1), none] [] (Rp (xD x) w) 0 0 := by
  unfold fX6_readRow_b96 at h
  refine v_aload_n (pc' := 97) hx dX6_readRow_96 rfl rfl ?_
  refine v_dup (pc' := 98) hx dX6_readRow_97 rfl rfl ?_
  refine v_getI (pc' := 101) hx hl0 fi_6_14.1 fi_6_14.2.1 fk_X6_74 dX6_readRow_98 rfl ?_
  refine v_iconst (pc' := 102) (v := 1) hx dX6_readRow_101 (by decide) rfl ?_
  refine v_iadd (pc' := 103) hx dX6_readRow_102 rfl ?_
  refine v_putI (pc' := 106) hx hl0 fi_6_14.1 fi_6_14.2.1 fi_6_14.2.2 fk_X6_74 dX6_readRow_103 rfl ?_
  replace h := lt_inv h; obtain ⟨w_1, ew_2, h⟩ := h
  rw [← ew_2]
  have hl_3 : zL w_1 6 a0 = true := by rw [ew_2]; exact hl0
  refine v_aload_n (pc' := 107) hx dX6_readRow_106 rfl rfl ?_
  refine v_getI (pc' := 110) hx hl_3 fi_6_16.1 fi_6_16.2.1 fk_X6_88 dX6_readRow_107 rfl ?_
  refine v_iconst (pc' := 111) (v := (-1)) hx dX6_readRow_110 (by decide) rfl ?_
  refine v_icmp_ne (tgt := 126) (pc' := 114) hx dX6_readRow_111 (by decide) rfl (fun hc_4 => ?_) (fun hc_4 => ?_)
  · rw [if_neg hc_4] at h
    exact vX6_readRow_b126 hx hq hl_3 h
  · rw [if_pos hc_4] at h
    refine v_aload_n (pc' := 115) hx dX6_readRow_114 rfl rfl ?_
    refine v_aload_n (pc' := 116) hx dX6_readRow_115 rfl rfl ?_
    refine v_iconst (pc' := 117) (v := 4) hx dX6_readRow_116 (by decide) rfl ?_
    refine v_sipush (pc' := 120) (v := 9999) hx dX6_readRow_117 (by decide) rfl ?_
    replace h := bd2_inv h; obtain ⟨y_6, w_7, hcl_5, h⟩ := h
    refine v_wf (fun hwf_8 => ?_)
    refine v_callVi (pc' := 123) (w' := w_7) (r := y_6) (ci := 6) (b := a0) (As := [.int 4, .int 9999]) (rest := [.ref a0]) hx hl_3 (fun G sz hR => ctX6_number (xl x) (xD x) w_1 G sz hR a0 4 9999 hl_3 hcl_5) rfl my_X6_number ml_X6_101 ⟨by decide, by decide⟩ ⟨by decide, by decide⟩ rfl rfl (Nat.le_of_ble_eq_true rfl) dX6_readRow_120 rfl ?_
    have hm_10 := kX6_number hcl_5 hwf_8
    have hl_11 : zL w_7 6 a0 = true := (hm_10.2 _ _ hl_3).1
    refine v_putI (pc' := 126) hx hl_11 fi_6_20.1 fi_6_20.2.1 fi_6_20.2.2 fk_X6_127 dX6_readRow_123 rfl ?_
    replace h := lt_inv h; obtain ⟨w_12, ew_13, h⟩ := h
    rw [← ew_13]
    have hl_14 : zL w_12 6 a0 = true := by rw [ew_13]; exact hl_11
    have hwf_15 : WF w_12 := by rw [ew_13]; exact hm_10.1
    exact vX6_readRow_b126 hx hq hl_14 h
theorem vX6_readRow_b69 {x : CT} (hx : CX x cX6_readRow RX6 rmX6_readRow none) {w0 : Wd} (hq : RV x rmX6_readRow w0) {a0 : Nat} {x1 : Int32} {w : Wd} (hl0 : zL w 6 a0 = true) (h : fX6_readRow_b69 a0 x1 w = some w0) : V x 69 [some (.ref a0), some (.int x1), none] [] (Rp (xD x) w) 0 0 := by
  unfold fX6_readRow_b69 at h
  refine v_aload_n (pc' := 70) hx dX6_readRow_69 rfl rfl ?_
  refine v_aload_n (pc' := 71) hx dX6_readRow_70 rfl rfl ?_
  replace h := bd_inv h; obtain ⟨y_2, hcl_1, h⟩ := h
  refine v_callVi (pc' := 74) (w' := w) (r := y_2) (ci := 6) (b := a0) (As := []) (rest := [.ref a0]) hx hl0 (fun G sz hR => ctX6_here (xl x) (xD x) w G sz hR a0 hl0 hcl_1) rfl my_X6_here ml_X6_80 ⟨by decide, by decide⟩ ⟨by decide, by decide⟩ rfl rfl (Nat.le_of_ble_eq_true rfl) dX6_readRow_71 rfl ?_
  replace h := bd_inv h; obtain ⟨y_5, hcl_4, h⟩ := h
  refine v_callSi (pc' := 77) (w' := w) (r := y_5) (As := [.int y_2]) (rest := [.ref a0]) hx (fun G sz hR => ctX6_stateOf (xl x) (xD x) w G sz hR y_2  hcl_4) my_X6_stateOf ml_X6_121 ⟨by decide, by decide⟩ ⟨by decide, by decide⟩ rfl rfl (Nat.le_of_ble_eq_true rfl) dX6_readRow_74 rfl ?_
  refine v_putI (pc' := 80) hx hl0 fi_6_19.1 fi_6_19.2.1 fi_6_19.2.2 fk_X6_124 dX6_readRow_77 rfl ?_
  replace h := lt_inv h; obtain ⟨w_7, ew_8, h⟩ := h
  rw [← ew_8]
  have hl_9 : zL w_7 6 a0 = true := by rw [ew_8]; exact hl0
  refine v_aload_n (pc' := 81) hx dX6_readRow_80 rfl rfl ?_
  refine v_getI (pc' := 84) hx hl_9 fi_6_19.1 fi_6_19.2.1 fk_X6_124 dX6_readRow_81 rfl ?_
  refine v_iconst (pc' := 85) (v := (-1)) hx dX6_readRow_84 (by decide) rfl ?_
  refine v_icmp_ne (tgt := 96) (pc' := 88) hx dX6_readRow_85 (by decide) rfl (fun hc_10 => ?_) (fun hc_10 => ?_)
  · rw [if_neg hc_10] at h
    exact vX6_readRow_b96 hx hq hl_9 h
  · rw [if_pos hc_10] at h
    refine v_aload_n (pc' := 89) hx dX6_readRow_88 rfl rfl ?_
    refine v_aload_n (pc' := 90) hx dX6_readRow_89 rfl rfl ?_
    refine v_getI (pc' := 93) hx hl_9 fi_6_14.1 fi_6_14.2.1 fk_X6_74 dX6_readRow_90 rfl ?_
    replace h := bd_inv h; obtain ⟨w_12, hcl_11, h⟩ := h
    refine v_wf (fun hwf_13 => ?_)
    refine v_callVv (pc' := 96) (w' := w_12) (ci := 6) (b := a0) (As := [.int (zI w_7 6 a0 14 0)]) (rest := []) hx hl_9 (fun G sz hR => ctX6_tears (xl x) (xD x) w_7 G sz hR a0 (zI w_7 6 a0 14 0) hl_9 hcl_11) rfl my_X6_tears ml_X6_98 ⟨by decide, by decide⟩ ⟨by decide, by decide⟩ rfl rfl (Nat.le_of_ble_eq_true rfl) dX6_readRow_93 rfl ?_
    have hm_15 := kX6_tears hcl_11 hwf_13
    have hl_16 : zL w_12 6 a0 = true := (hm_15.2 _ _ hl_9).1
    exact vX6_readRow_b96 hx hq hl_16 h
theorem vX6_readRow {x : CT} (hx : CX x cX6_readRow RX6 rmX6_readRow none) {w0 : Wd} {w : Wd} (hq : RV x rmX6_readRow w0) (a0 : Nat) (x1 : Int32) (hl0 : zL w 6 a0 = true) (h : fX6_readRow a0 x1 w = some w0) : V x 0 [some (.ref a0), some (.int x1), none] [] (Rp (xD x) w) 0 0 := by
  unfold fX6_readRow at h
  refine v_aload_n (pc' := 1) hx dX6_readRow_0 rfl rfl ?_
  refine v_dup (pc' := 2) hx dX6_readRow_1 rfl rfl ?_
  refine v_getI (pc' := 5) hx hl0 fi_6_14.1 fi_6_14.2.1 fk_X6_74 dX6_readRow_2 rfl ?_
  refine v_iconst (pc' := 6) (v := 1) hx dX6_readRow_5 (by decide) rfl ?_
  refine v_iadd (pc' := 7) hx dX6_readRow_6 rfl ?_
  refine v_putI (pc' := 10) hx hl0 fi_6_14.1 fi_6_14.2.1 fi_6_14.2.2 fk_X6_74 dX6_readRow_7 rfl ?_
  replace h := lt_inv h; obtain ⟨w_1, ew_2, h⟩ := h
  rw [← ew_2]
  have hl_3 : zL w_1 6 a0 = true := by rw [ew_2]; exact hl0
  refine v_aload_n (pc' := 11) hx dX6_readRow_10 rfl rfl ?_
  refine v_iconst (pc' := 12) (v := 0) hx dX6_readRow_11 (by decide) rfl ?_
  refine v_putI (pc' := 15) hx hl_3 fi_6_21.1 fi_6_21.2.1 fi_6_21.2.2 fk_X6_109 dX6_readRow_12 rfl ?_
  replace h := lt_inv h; obtain ⟨w_4, ew_5, h⟩ := h
  rw [← ew_5]
  have hl_6 : zL w_4 6 a0 = true := by rw [ew_5]; exact hl_3
  refine v_aload_n (pc' := 16) hx dX6_readRow_15 rfl rfl ?_
  refine v_iconst (pc' := 17) (v := (-1)) hx dX6_readRow_16 (by decide) rfl ?_
  refine v_putI (pc' := 20) hx hl_6 fi_6_22.1 fi_6_22.2.1 fi_6_22.2.2 fk_X6_115 dX6_readRow_17 rfl ?_
  replace h := lt_inv h; obtain ⟨w_7, ew_8, h⟩ := h
  rw [← ew_8]
  have hl_9 : zL w_7 6 a0 = true := by rw [ew_8]; exact hl_6
  refine v_aload_n (pc' := 21) hx dX6_readRow_20 rfl rfl ?_
  refine v_iconst (pc' := 22) (v := 0) hx dX6_readRow_21 (by decide) rfl ?_
  refine v_putI (pc' := 25) hx hl_9 fi_6_23.1 fi_6_23.2.1 fi_6_23.2.2 fk_X6_112 dX6_readRow_22 rfl ?_
  replace h := lt_inv h; obtain ⟨w_10, ew_11, h⟩ := h
  rw [← ew_11]
  have hl_12 : zL w_10 6 a0 = true := by rw [ew_11]; exact hl_9
  refine v_aload_n (pc' := 26) hx dX6_readRow_25 rfl rfl ?_
  refine v_aload_n (pc' := 27) hx dX6_readRow_26 rfl rfl ?_
  refine v_iconst (pc' := 28) (v := 2) hx dX6_readRow_27 (by decide) rfl ?_
  refine v_bipush (pc' := 30) (v := 23) hx dX6_readRow_28 (by decide) rfl ?_
  replace h := bd2_inv h; obtain ⟨y_14, w_15, hcl_13, h⟩ := h
  refine v_wf (fun hwf_16 => ?_)
  refine v_callVi (pc' := 33) (w' := w_15) (r := y_14) (ci := 6) (b := a0) (As := [.int 2, .int 23]) (rest := [.ref a0]) hx hl_12 (fun G sz hR => ctX6_number (xl x) (xD x) w_10 G sz hR a0 2 23 hl_12 hcl_13) rfl my_X6_number ml_X6_101 ⟨by decide, by decide⟩ ⟨by decide, by decide⟩ rfl rfl (Nat.le_of_ble_eq_true rfl) dX6_readRow_30 rfl ?_
  have hm_18 := kX6_number hcl_13 hwf_16
  have hl_19 : zL w_15 6 a0 = true := (hm_18.2 _ _ hl_12).1
  refine v_putI (pc' := 36) hx hl_19 fi_6_18.1 fi_6_18.2.1 fi_6_18.2.2 fk_X6_118 dX6_readRow_33 rfl ?_
  replace h := lt_inv h; obtain ⟨w_20, ew_21, h⟩ := h
  rw [← ew_21]
  have hl_22 : zL w_20 6 a0 = true := by rw [ew_21]; exact hl_19
  have hwf_23 : WF w_20 := by rw [ew_21]; exact hm_18.1
  refine v_aload_n (pc' := 37) hx dX6_readRow_36 rfl rfl ?_
  refine v_getI (pc' := 40) hx hl_22 fi_6_16.1 fi_6_16.2.1 fk_X6_88 dX6_readRow_37 rfl ?_
  refine v_iconst (pc' := 41) (v := (-1)) hx dX6_readRow_40 (by decide) rfl ?_
  refine v_icmp_ne (tgt := 69) (pc' := 44) hx dX6_readRow_41 (by decide) rfl (fun hc_24 => ?_) (fun hc_24 => ?_)
  · rw [if_neg hc_24] at h
    exact vX6_readRow_b69 hx hq hl_22 h
  · rw [if_pos hc_24] at h
    refine v_aload_n (pc' := 45) hx dX6_readRow_44 rfl rfl ?_
    obtain ⟨g_25, hq_26⟩ : ∃ q, zA w_20 6 a0 7 = q := ⟨_, rfl⟩
    refine v_getAq (pc' := 48) hx hl_22 fi_6_7.1 (by decide) hq_26 fk_X6_27 dX6_readRow_45 rfl ?_
    refine v_bipush (pc' := 50) (v := 24) hx dX6_readRow_48 (by decide) rfl ?_
    refine v_iload_n (pc' := 51) hx dX6_readRow_50 rfl rfl ?_
    refine v_imul (pc' := 52) hx dX6_readRow_51 rfl ?_
    refine v_aload_n (pc' := 53) hx dX6_readRow_52 rfl rfl ?_
    refine v_getI (pc' := 56) hx hl_22 fi_6_18.1 fi_6_18.2.1 fk_X6_118 dX6_readRow_53 rfl ?_
    refine v_iadd (pc' := 57) hx dX6_readRow_56 rfl ?_
    replace h := ckp_inv h; obtain ⟨hk_27, h⟩ := h
    refine v_zaldq (pc' := 58) hx hl_22 fi_6_7.1 fi_6_7.2.1 rfl hk_27 hq_26 dX6_readRow_57 rfl ?_
    refine v_if_eq (tgt := 69) (pc' := 61) hx dX6_readRow_58 (by decide) rfl (fun hc_28 => ?_) (fun hc_28 => ?_)
    · rw [if_pos hc_28] at h
      exact vX6_readRow_b69 hx hq hl_22 h
    · rw [if_neg hc_28] at h
      refine v_aload_n (pc' := 62) hx dX6_readRow_61 rfl rfl ?_
      refine v_aload_n (pc' := 63) hx dX6_readRow_62 rfl rfl ?_
      refine v_getI (pc' := 66) hx hl_22 fi_6_17.1 fi_6_17.2.1 fk_X6_91 dX6_readRow_63 rfl ?_
      replace h := bd_inv h; obtain ⟨w_30, hcl_29, h⟩ := h
      refine v_callVv (pc' := 69) (w' := w_30) (ci := 6) (b := a0) (As := [.int (zI w_20 6 a0 17 0)]) (rest := []) hx hl_22 (fun G sz hR => ctX6_tears (xl x) (xD x) w_20 G sz hR a0 (zI w_20 6 a0 17 0) hl_22 hcl_29) rfl my_X6_tears ml_X6_98 ⟨by decide, by decide⟩ ⟨by decide, by decide⟩ rfl rfl (Nat.le_of_ble_eq_true rfl) dX6_readRow_66 rfl ?_
      have hm_32 := kX6_tears hcl_29 hwf_23
      have hl_33 : zL w_30 6 a0 = true := (hm_32.2 _ _ hl_22).1
      exact vX6_readRow_b69 hx hq hl_33 h
theorem ctX6_readRow (l : Launch) (D : DD) (w : Wd) (G : GT) (sz : Nat) (hR : Rp D w G sz) (a0 : Nat) (x1 : Int32) (hl0 : zL w 6 a0 = true) {w0 : Wd} (h : fX6_readRow a0 x1 w = some w0) : MetV l yX6_readRow (WS yX6_readRow cX6_readRow 3 none) rmX6_readRow D [.ref a0, .int x1] G sz w0 := by
  refine MetV_ofV (own := RX6) (P := Rp D w) hR (by decide) rfl (by simp [Value.category]) (Nat.le_of_ble_eq_true rfl) (fun x hx hq hD hl => ?_)
  subst hD
  exact vX6_readRow hx hq a0 x1 hl0 h
