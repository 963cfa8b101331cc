/-! PURE LAYER: the reference reads a row -/
def SCm (m : Nat) (c a k _ : Nat) : Prop := c = 6 ∧ a = m ∧ (k = 14 ∨ k = 16 ∨ k = 23 ∨ k = 24)
theorem SCm_SMp (m c a k j : Nat) (h : SCm m c a k j) : SMp m c a k j := ⟨h.1, h.2.1, by have := h.2.2; omega⟩
def RowM (v : Wd) (m t : Nat) (d : RD) : Prop := zI v 6 m 18 0 = nI t ∧ zI v 6 m 19 0 = nI d.1 ∧ zI v 6 m 20 0 = nI d.2.1 ∧ zI v 6 m 21 0 = dHe d ∧ zI v 6 m 22 0 = dWa d ∧ zI v 6 m 23 0 = nI (dMn d) ∧ ∀ j, j < dMn d → zI v 6 m 24 j = dCa d j
def MPs (v : Wd) (m : Nat) (res : Nat × Option (Nat × RD)) : Prop := match res with
  | (j, none) => zI v 6 m 16 0 = nI j
  | (j, some (t, d)) => zI v 6 m 16 0 = -1 ∧ zI v 6 m 14 0 = nI j ∧ RowM v m t d
section ZMC
variable {w v : Wd} {m p : Nat} {tx : Nat → Nat} {n i : Nat}
theorem m_cend {f : Nat} {v : Wd} (hb : ¬ zI v 6 m 16 0 = -1) : fX6_readCalls_l32 (f + 1) m v = some v := by
  show fX6_readCalls_b32 (fX6_readCalls_l32 f) m v = _
  unfold fX6_readCalls_b32 fX6_readCalls_b109
  rw [if_neg hb]
theorem l_mc (hT : TxM w m tx n) (i0 : Nat) : ∀ k f c v i, c + k = 12 → k < f → i = i0 + c → Fr (SCm m) w v → zI v 6 m 16 0 = -1 → zI v 6 m 23 0 = nI c → (∀ j, j < c → zI v 6 m 24 j = nI (tx (i0 + j))) → zI v 6 m 14 0 = nI i → i ≤ n → ∃ v', Fr (SCm m) w v' ∧ ((zI v' 6 m 16 0 = -1 ∧ zI v' 6 m 14 0 = nI (i + lct tx n k i) ∧ zI v' 6 m 23 0 = nI (c + lct tx n k i) ∧ ∀ j, j < c + lct tx n k i → zI v' 6 m 24 j = nI (tx (i0 + j))) ∨ (zI v' 6 m 16 0 = nI (i + lct tx n k i) ∧ inR tx n 97 122 (i + lct tx n k i) = true)) ∧ fX6_readCalls_l32 f m v = some v' := by
  have hn := hT.2.1
  intro k
  induction k with
  | zero =>
    intro f c v i h1 h2 hi0 hF hd h23 hj ha hi
    obtain ⟨f, rfl⟩ : ∃ f', f = f' + 1 := ⟨f - 1, by omega⟩
    have hv := hT.fr (hF.mono (SCm_SMp m))
    show ∃ v', _ ∧ _ ∧ fX6_readCalls_b32 (fX6_readCalls_l32 f) m v = _
    unfold fX6_readCalls_b32 fX6_readCalls_b109 lct
    rw [if_pos hd, m_here hv ha (by omega), bd_s, show (97 : Int32) = nI 97 from rfl, show (122 : Int32) = nI 122 from rfl, m_lies hT.2.2.1 (by decide) (by decide) (by decide), bd_s]
    by_cases e : inR tx n 97 122 i = true
    · rw [e, bi_t, if_neg n10, h23, if_pos (show nI c = (12 : Int32) by rw [show c = 12 by omega]; rfl), ha, m_tear _ hd, bd_s]
      exact ⟨_, hF.set _ ⟨rfl, rfl, by omega⟩, Or.inr ⟨zI_sIs _ _ _ _ _ _, e⟩, rfl⟩
    · have e' : inR tx n 97 122 i = false := by simpa using e
      rw [e', bi_f, if_pos p00]
      exact ⟨v, hF, Or.inl ⟨hd, ha, h23, hj⟩, rfl⟩
  | succ k ih =>
    intro f c v i h1 h2 hi0 hF hd h23 hj ha hi
    obtain ⟨f, rfl⟩ : ∃ f', f = f' + 1 := ⟨f - 1, by omega⟩
    have hv := hT.fr (hF.mono (SCm_SMp m))
    show ∃ v', _ ∧ _ ∧ fX6_readCalls_b32 (fX6_readCalls_l32 f) m v = _
    unfold fX6_readCalls_b32 fX6_readCalls_b109 lct
    rw [if_pos hd, m_here hv ha (by omega), bd_s, bd_s, show (97 : Int32) = nI 97 from rfl, show (122 : Int32) = nI 122 from rfl, m_lies hT.2.2.1 (by decide) (by decide) (by decide), bd_s]
    by_cases e : inR tx n 97 122 i = true
    · have hr := inR_lt e
      rw [if_pos e, e, bi_t, if_neg n10, h23, if_neg (show ¬ nI c = (12 : Int32) from fun q => by have := (nI_eq (b := 12) (by omega) (by decide)).mp q; omega), ckp_ix _ (by omega) (by decide), chM_lt hr.1, lowb _ (by omega), cl_nI (by omega), lt_e, lt_e, lt_e, zI_sIn (by omega), h23, zI_sIn (by omega), zI_sIn (by omega), ha, nI_1, nI_1]
      have := ih f (c + 1) (sI (sI (sI v 6 m 24 c (nI (tx i))) 6 m 23 0 (nI (c + 1))) 6 m 14 0 (nI (i + 1))) (i + 1) (by omega) (by omega) (by omega) (((hF.set _ ⟨rfl, rfl, by omega⟩).set _ ⟨rfl, rfl, by omega⟩).set _ ⟨rfl, rfl, by omega⟩) (by rw [zI_sIn (by omega), zI_sIn (by omega), zI_sIn (by omega)]; exact hd) (by rw [zI_sIn (by omega), zI_sIs]) (by
        intro j hj'
        rw [zI_sIn (by omega), zI_sIn (by omega)]
        by_cases q : j = c
        · rw [q, zI_sIs, hi0]
        · rw [zI_sIn (by omega)]; exact hj j (by omega)) (zI_sIs _ _ _ _ _ _) (by omega)
      rw [show i + (lct tx n k (i + 1) + 1) = i + 1 + lct tx n k (i + 1) by omega, show c + (lct tx n k (i + 1) + 1) = c + 1 + lct tx n k (i + 1) by omega]
      exact this
    · rw [if_neg e]
      have e' : inR tx n 97 122 i = false := by simpa using e
      rw [e', bi_f, if_pos p00]
      exact ⟨v, hF, Or.inl ⟨hd, ha, h23, hj⟩, rfl⟩
end ZMC
section ZMB
variable {v : Wd} {m p : Nat} {tx : Nat → Nat} {n i : Nat} {R : RS}
theorem b_272 (hd : ¬ zI v 6 m 16 0 = -1) : fX6_readRow_b272 m v = some v := by
  unfold fX6_readRow_b272 fX6_readRow_b308
  rw [if_neg hd]
theorem b_251 (hd : ¬ zI v 6 m 16 0 = -1) : fX6_readRow_b251 m v = some v := by
  unfold fX6_readRow_b251
  rw [if_neg hd, b_272 hd]
theorem b_218 (x : Int32) (hd : ¬ zI v 6 m 16 0 = -1) : fX6_readRow_b218 m x v = some v := by
  unfold fX6_readRow_b218
  rw [if_neg hd, b_251 hd]
theorem b_148 (hd : ¬ zI v 6 m 16 0 = -1) : fX6_readRow_b148 m v = some v := by
  unfold fX6_readRow_b148
  rw [if_neg hd]
theorem b_126 (x : Int32) (hd : ¬ zI v 6 m 16 0 = -1) : fX6_readRow_b126 m x v = some v := by
  unfold fX6_readRow_b126
  rw [if_neg hd, b_148 hd]
theorem b_96 (x : Int32) (hd : ¬ zI v 6 m 16 0 = -1) : ∃ v', Fr (SMp m) v v' ∧ zI v' 6 m 16 0 = zI v 6 m 16 0 ∧ fX6_readRow_b96 m x v = some v' := by
  have h : zI (sI v 6 m 14 0 (zI v 6 m 14 0 + 1)) 6 m 16 0 = zI v 6 m 16 0 := zI_sIn (by omega)
  unfold fX6_readRow_b96
  rw [lt_e, if_neg (by rw [h]; exact hd), b_126 x (by rw [h]; exact hd)]
  exact ⟨_, (Fr.refl v).set _ ⟨rfl, rfl, by omega⟩, h, rfl⟩
theorem b_69 (hT : TxM v m tx n) (x : Int32) (ha : zI v 6 m 14 0 = nI i) (hi : i ≤ n) (hd : ¬ zI v 6 m 16 0 = -1) : ∃ v', Fr (SMp m) v v' ∧ zI v' 6 m 16 0 = zI v 6 m 16 0 ∧ fX6_readRow_b69 m x v = some v' := by
  have hn := hT.2.1
  have hs : ∃ y, fX6_stateOf (chM tx n i) v = some y := by
    unfold fX6_stateOf fX6_stateOf_b41
    split
    · exact ⟨_, rfl⟩
    · split
      · exact ⟨_, rfl⟩
      · split
        · exact ⟨_, rfl⟩
        · split
          · exact ⟨_, rfl⟩
          · exact ⟨_, rfl⟩
  obtain ⟨y, hy⟩ := hs
  unfold fX6_readRow_b69
  have h : zI (sI v 6 m 19 0 y) 6 m 16 0 = zI v 6 m 16 0 := zI_sIn (by omega)
  have hd' : ¬ zI (sI v 6 m 19 0 y) 6 m 16 0 = -1 := by rw [h]; exact hd
  rw [m_here hT ha (by omega), bd_s, hy, bd_s, lt_e, zI_sIs, m_torn _ hd', bd_s, ite_self]
  obtain ⟨v', F, a, e⟩ := b_96 x hd'
  exact ⟨v', ((Fr.refl v).set _ ⟨rfl, rfl, by omega⟩).trans F, a.trans h, e⟩
theorem r_272 (hT : TxM v m tx n) {t st ct mn : Nat} {he wa : Int32} {ca : Nat → Int32} (hR : RowM v m t (st, ct, he, wa, mn, ca)) (hd : zI v 6 m 16 0 = -1) (ha : zI v 6 m 14 0 = nI i) (hi : i ≤ n) : ∃ v', Fr (SMp m) v v' ∧ MPs v' m (s7 tx n t st ct he wa mn ca i) ∧ fX6_readRow_b272 m v = some v' := by
  have hn := hT.2.1
  unfold fX6_readRow_b272 fX6_readRow_b308 s7
  rw [if_pos hd, hT.1, ha]
  by_cases e : i < n
  · rw [if_neg (nI_ge e (by omega)), m_here hT ha (by omega), bd_s]
    by_cases q : isC tx n 59 i = true
    · rw [if_pos ((chM_iff hT.2.2.1 (x := 59) (c := 59) rfl (by decide) (by decide)).mpr q), if_pos (show sEnd tx n i = true from decide_eq_true (Or.inr (isC_lt q).2))]
      exact ⟨v, Fr.refl v, ⟨hd, ha, hR⟩, rfl⟩
    · rw [if_neg (fun z => q ((chM_iff hT.2.2.1 (x := 59) (c := 59) rfl (by decide) (by decide)).mp z)), m_tear _ hd, bd_s, if_neg (show ¬ sEnd tx n i = true from fun z => by
        rcases of_decide_eq_true z with z | z
        · omega
        · exact q (decide_eq_true ⟨e, z⟩))]
      exact ⟨_, (Fr.refl v).set _ ⟨rfl, rfl, by omega⟩, zI_sIs _ _ _ _ _ _, rfl⟩
  · rw [if_pos (nI_le (by omega) (by omega)), if_pos (show sEnd tx n i = true from decide_eq_true (Or.inl (by omega)))]
    exact ⟨v, Fr.refl v, ⟨hd, ha, hR⟩, rfl⟩
/-- the first fields of a row -/
def RowF (v : Wd) (m t st ct : Nat) (he wa : Int32) : Prop := zI v 6 m 18 0 = nI t ∧ zI v 6 m 19 0 = nI st ∧ zI v 6 m 20 0 = nI ct ∧ zI v 6 m 21 0 = he ∧ zI v 6 m 22 0 = wa
theorem r_251 (hT : TxM v m tx n) {t st ct : Nat} {he wa : Int32} (hR : RowF v m t st ct he wa) (h23 : zI v 6 m 23 0 = 0) (hd : zI v 6 m 16 0 = -1) (ha : zI v 6 m 14 0 = nI i) (hi : i ≤ n) : ∃ v', Fr (SMp m) v v' ∧ MPs v' m (s6 tx n t st ct he wa i) ∧ fX6_readRow_b251 m v = some v' := by
  have hn := hT.2.1
  unfold fX6_readRow_b251 s6 sCl
  rw [if_pos hd, m_here hT ha (by omega), bd_s]
  by_cases e : isC tx n 99 i = true
  · have hi1 : i + 1 ≤ n := (isC_lt e).1
    rw [if_pos ((chM_iff hT.2.2.1 (x := 99) (c := 99) rfl (by decide) (by decide)).mpr e), if_pos e]
    unfold fX6_readCalls
    have F1 : Fr (SCm m) v (sI v 6 m 14 0 (nI (i + 1))) := (Fr.refl v).set _ ⟨rfl, rfl, by omega⟩
    have B1 : zI (sI v 6 m 14 0 (nI (i + 1))) 6 m 16 0 = -1 := by rw [zI_sIn (by omega)]; exact hd
    rw [lt_e, ha, nI_1, m_here (hT.fr (F1.mono (SCm_SMp m))) (zI_sIs _ _ _ _ _ _) (by omega), bd_s, show (97 : Int32) = nI 97 from rfl, show (122 : Int32) = nI 122 from rfl, m_lies hT.2.2.1 (by decide) (by decide) (by decide), bd_s]
    by_cases c : inR tx n 97 122 (i + 1) = true
    · have h0 : ¬ lct tx n 12 (i + 1) = 0 := by unfold lct; rw [if_pos c]; omega
      have hle := lct_le (tx := tx) (n := n) 12 (i + 1)
      rw [if_neg h0, pb_s, c, bi_t, if_neg n10]
      obtain ⟨v2, F2, P2, E2⟩ := l_mc hT (i + 1) 12 1000 0 _ (i + 1) rfl (by decide) rfl F1 B1 (by rw [zI_sIn (by omega)]; exact h23) (fun j hj => by omega) (zI_sIs _ _ _ _ _ _) hi1
      rw [E2, bd_s]
      have G2 := F2.mono (SCm_SMp m)
      rcases P2 with ⟨p1, p2, p3, p4⟩ | ⟨p1, p2⟩
      · rw [Nat.zero_add] at p3 p4
        obtain ⟨v3, F3, P3, E3⟩ := r_272 (t := t) (st := st) (ct := ct) (mn := lct tx n 12 (i + 1)) (he := he) (wa := wa) (ca := fun j => nI (tx (i + 1 + j))) (hT.fr G2) ⟨by rw [F2.1 6 m 18 0 (by unfold SCm; omega)]; exact hR.1, by rw [F2.1 6 m 19 0 (by unfold SCm; omega)]; exact hR.2.1, by rw [F2.1 6 m 20 0 (by unfold SCm; omega)]; exact hR.2.2.1, by rw [F2.1 6 m 21 0 (by unfold SCm; omega)]; exact hR.2.2.2.1, by rw [F2.1 6 m 22 0 (by unfold SCm; omega)]; exact hR.2.2.2.2, p3, p4⟩ p1 p2 (hle.2 hi1)
        exact ⟨v3, G2.trans F3, P3, E3⟩
      · have hr := inR_lt p2
        rw [b_272 (by rw [p1]; exact m1_ne (by omega))]
        refine ⟨v2, G2, ?_, rfl⟩
        unfold s7
        rw [if_neg (show ¬ sEnd tx n (i + 1 + lct tx n 12 (i + 1)) = true from fun z => by
          rcases of_decide_eq_true z with z | z <;> omega)]
        exact p1
    · have c' : inR tx n 97 122 (i + 1) = false := by simpa using c
      rw [if_pos (show lct tx n 12 (i + 1) = 0 by unfold lct; rw [if_neg c]), pb_n, c', bi_f, if_pos p00, zI_sIs, m_tear _ B1, bd_s, m_cend (by rw [zI_sIs]; exact m1_ne (by omega)), bd_s, b_272 (by rw [zI_sIs]; exact m1_ne (by omega))]
      exact ⟨_, (F1.set _ ⟨rfl, rfl, by omega⟩).mono (SCm_SMp m), zI_sIs _ _ _ _ _ _, rfl⟩
  · rw [if_neg (fun z => e ((chM_iff hT.2.2.1 (x := 99) (c := 99) rfl (by decide) (by decide)).mp z)), if_neg e, pb_s]
    exact r_272 hT ⟨hR.1, hR.2.1, hR.2.2.1, hR.2.2.2.1, hR.2.2.2.2, h23, fun j hj => by cases hj⟩ hd ha hi
theorem s6_bad {t st ct : Nat} {he wa : Int32} (h : i < n) (h1 : tx i ≠ 99) (h2 : tx i ≠ 59) : s6 tx n t st ct he wa i = (i, none) := by
  unfold s6 sCl
  rw [if_neg (show ¬ isC tx n 99 i = true from fun z => h1 (isC_lt z).2), pb_s]
  unfold s7
  rw [if_neg (show ¬ sEnd tx n i = true from fun z => by rcases of_decide_eq_true z with z | z <;> omega)]
theorem s5_bad {t st ct : Nat} {he : Int32} (h : i < n) (h1 : tx i ≠ 99) (h2 : tx i ≠ 59) (h3 : tx i ≠ 119) : s5 tx n t st ct he i = (i, none) := by
  unfold s5 sWt
  by_cases c : must st = true
  · rw [if_pos c, if_neg (show ¬ isC tx n 119 i = true from fun z => h3 (isC_lt z).2), pb_n]
  · rw [if_neg c, pb_s]; exact s6_bad h h1 h2
theorem r_178 (hT : TxM v m tx n) {t st ct : Nat} {he : Int32} (hR : RowF v m t st ct he (-1)) (h23 : zI v 6 m 23 0 = 0) (hd : zI v 6 m 16 0 = -1) (ha : zI v 6 m 14 0 = nI i) (hi : i ≤ n) : ∃ v', Fr (SMp m) v v' ∧ MPs v' m (s5 tx n t st ct he i) ∧ fX6_readRow_b178 m (bi (must st)) v = some v' := by
  have hn := hT.2.1
  unfold fX6_readRow_b178
  rw [m_here hT ha (by omega), bd_s]
  have tear : ∀ x, isC tx n 119 i = true ∨ i ≤ n → ∃ v', Fr (SMp m) v v' ∧ zI v' 6 m 16 0 = nI i ∧ fX6_readRow_b210 m x v = some v' := by
    intro x _
    unfold fX6_readRow_b210
    rw [ha, m_tear _ hd, bd_s, b_218 x (by rw [zI_sIs]; exact m1_ne (by omega))]
    exact ⟨_, (Fr.refl v).set _ ⟨rfl, rfl, by omega⟩, zI_sIs _ _ _ _ _ _, rfl⟩
  by_cases e : isC tx n 119 i = true
  · have hi1 : i + 1 ≤ n := (isC_lt e).1
    rw [if_pos ((chM_iff hT.2.2.1 (x := 119) (c := 119) rfl (by decide) (by decide)).mpr e)]
    unfold fX6_readRow_b194
    cases c : must st with
    | true =>
      rw [bi_t, if_pos rfl]
      unfold fX6_readRow_b218 s5 sWt
      rw [if_pos hd, if_neg n10, lt_e, ha, nI_1, if_pos c, if_pos e]
      have F1 : Fr (SMp m) v (sI v 6 m 14 0 (nI (i + 1))) := (Fr.refl v).set _ ⟨rfl, rfl, by omega⟩
      obtain ⟨v2, y, F2, P2, S2, E2⟩ := m_num (d := 2) (mx := 15) (xd := 2) (xm := 15) (hT.fr F1) rfl rfl (by decide) (by decide) (by decide) (by rw [zI_sIn (by omega)]; exact hd) (zI_sIs _ _ _ _ _ _) hi1
      have G2 := F1.trans (F2.mono (SNm_SMp m))
      have G3 : Fr (SMp m) v (sI v2 6 m 22 0 y) := G2.set _ ⟨rfl, rfl, by omega⟩
      rw [E2, bd2_s, lt_e]
      rcases e2 : nmb tx n 2 15 (i + 1) with ⟨j, o⟩
      rw [e2] at P2
      cases o with
      | none =>
        obtain ⟨⟨b1, b2⟩, -⟩ := P2
        rw [pb_n, pb_n, b_251 (by rw [zI_sIn (by omega), b1]; exact m1_ne (by omega))]
        exact ⟨_, G3, by show zI _ 6 m 16 0 = _; rw [zI_sIn (by omega)]; exact b1, rfl⟩
      | some l =>
        obtain ⟨⟨b1, b2⟩, b3, rfl⟩ := P2
        rw [pb_s, pb_s]
        have g : ∀ k, k = 18 ∨ k = 19 ∨ k = 20 ∨ k = 21 ∨ k = 23 → zI (sI v2 6 m 22 0 (nI l)) 6 m k 0 = zI v 6 m k 0 := fun k hk => by
          rw [zI_sIn (by omega), F2.1 6 m k 0 (by unfold SNm; omega), zI_sIn (by omega)]
        obtain ⟨v3, F3, P3, E3⟩ := r_251 (t := t) (st := st) (ct := ct) (he := he) (wa := nI l) (i := j) (hT.fr G3) ⟨by rw [g 18 (by omega)]; exact hR.1, by rw [g 19 (by omega)]; exact hR.2.1, by rw [g 20 (by omega)]; exact hR.2.2.1, by rw [g 21 (by omega)]; exact hR.2.2.2.1, zI_sIs _ _ _ _ _ _⟩ (by rw [g 23 (by omega)]; exact h23) (by rw [zI_sIn (by omega)]; exact b1) (by rw [zI_sIn (by omega)]; exact b3) b2
        exact ⟨v3, G3.trans F3, P3, E3⟩
    | false =>
      have c' : ¬ must st = true := by rw [c]; decide
      rw [bi_f, if_neg (show ¬ (0 : Int32) = 1 by decide), if_pos p00, m_here hT ha (by omega), bd_s, if_pos ((chM_iff hT.2.2.1 (x := 119) (c := 119) rfl (by decide) (by decide)).mpr e)]
      obtain ⟨v2, F2, P2, E2⟩ := tear 0 (Or.inl e)
      have hx := (isC_lt e).2
      refine ⟨v2, F2, ?_, E2⟩
      unfold s5 sWt
      rw [if_neg c', pb_s, s6_bad (by omega) (by omega) (by omega)]
      exact P2
  · rw [if_neg (fun z => e ((chM_iff hT.2.2.1 (x := 119) (c := 119) rfl (by decide) (by decide)).mp z))]
    unfold fX6_readRow_b194
    cases c : must st with
    | true =>
      rw [bi_t, if_neg n10, if_neg n10]
      obtain ⟨v2, F2, P2, E2⟩ := tear 1 (Or.inr hi)
      refine ⟨v2, F2, ?_, E2⟩
      unfold s5 sWt
      rw [if_pos c, if_neg e, pb_n]
      exact P2
    | false =>
      have c' : ¬ must st = true := by rw [c]; decide
      rw [bi_f, if_pos p00]
      unfold fX6_readRow_b218 s5 sWt
      rw [if_pos hd, if_pos p00, if_neg c', pb_s]
      exact r_251 hT hR h23 hd ha hi
theorem r_148 (hT : TxM v m tx n) {t st ct : Nat} (hst : st < 4) {he : Int32} (hR : RowF v m t st ct he (-1)) (h23 : zI v 6 m 23 0 = 0) (hd : zI v 6 m 16 0 = -1) (ha : zI v 6 m 14 0 = nI i) (hi : i ≤ n) : ∃ v', Fr (SMp m) v v' ∧ MPs v' m (s5 tx n t st ct he i) ∧ fX6_readRow_b148 m v = some v' := by
  have key := r_178 hT hR h23 hd ha hi
  unfold fX6_readRow_b148 fX6_readRow_b173
  rw [if_pos hd, hR.2.1]
  by_cases e1 : st = 1
  · rw [if_pos (show nI st = (1 : Int32) by rw [e1]; rfl)]
    rw [show must st = true from decide_eq_true (Or.inl e1)] at key
    exact key
  rw [if_neg (show ¬ nI st = (1 : Int32) from fun q => e1 ((nI_eq (b := 1) (by omega) (by decide)).mp q))]
  by_cases e2 : st = 2
  · rw [if_pos (show nI st = (2 : Int32) by rw [e2]; rfl)]
    rw [show must st = true from decide_eq_true (Or.inr e2)] at key
    exact key
  rw [if_neg (show ¬ nI st = (2 : Int32) from fun q => e2 ((nI_eq (b := 2) (by omega) (by decide)).mp q))]
  rw [show must st = false from decide_eq_false (by omega)] at key
  exact key
theorem r_126 (hT : TxM v m tx n) (hM : MRw v m p R) (hp : p < 8) {t st ct : Nat} (hst : st < 4) (hR : RowF v m t st ct 0 (-1)) (h23 : zI v 6 m 23 0 = 0) (hd : zI v 6 m 16 0 = -1) (ha : zI v 6 m 14 0 = nI i) (hi : i ≤ n) : ∃ v', Fr (SMp m) v v' ∧ MPs v' m (s4 tx n R t st ct i) ∧ fX6_readRow_b126 m (nI p) v = some v' := by
  have hn := hT.2.1
  unfold fX6_readRow_b126 s4 sHe
  rw [if_pos hd, m_here hT ha (by omega), bd_s]
  by_cases e : isC tx n 104 i = true
  · rw [if_pos ((chM_iff hT.2.2.1 (x := 104) (c := 104) rfl (by decide) (by decide)).mpr e), if_pos e]
    obtain ⟨v2, F2, P2, E2⟩ := l_ml hT hM hp 3 1000 0 v 0 i rfl (by decide) (Fr.refl v) hd hR.2.2.2.1 ha (isC_lt e).1
    have G2 := F2.mono (SLm_SMp m)
    unfold fX6_readLocks
    rw [show fX6_readLocks_l4 1000 m (nI p) 0 1 v = some v2 from E2, bd_s]
    rcases e2 : (pb (sLk tx n R 0 (i + 1)) fun j he => sLks tx n R 3 he j) with ⟨j, o⟩
    rw [e2] at P2
    cases o with
    | none =>
      obtain ⟨b1, b2⟩ := P2
      rw [pb_n, b_148 (by rw [b1]; exact m1_ne (by omega))]
      exact ⟨v2, G2, b1, rfl⟩
    | some he =>
      rw [pb_s]
      obtain ⟨b2, ⟨b1, b3, b4⟩ | ⟨b1, b3⟩⟩ := P2
      · obtain ⟨v3, F3, P3, E3⟩ := r_148 (t := t) (st := st) (ct := ct) (he := he) (hT.fr G2) hst ⟨by rw [F2.1 6 m 18 0 (by unfold SLm; omega)]; exact hR.1, by rw [F2.1 6 m 19 0 (by unfold SLm; omega)]; exact hR.2.1, by rw [F2.1 6 m 20 0 (by unfold SLm; omega)]; exact hR.2.2.1, b4, by rw [F2.1 6 m 22 0 (by unfold SLm; omega)]; exact hR.2.2.2.2⟩ (by rw [F2.1 6 m 23 0 (by unfold SLm; omega)]; exact h23) b1 b3 b2
        exact ⟨v3, G2.trans F3, P3, E3⟩
      · have hx := isC_lt b1
        rw [b_148 (by rw [b3]; exact m1_ne (by omega)), s5_bad hx.1 (by omega) (by omega) (by omega)]
        exact ⟨v2, G2, b3, rfl⟩
  · rw [if_neg (fun z => e ((chM_iff hT.2.2.1 (x := 104) (c := 104) rfl (by decide) (by decide)).mp z)), if_neg e, pb_s]
    exact r_148 hT hst hR h23 hd ha hi
theorem r_96 (hT : TxM v m tx n) (hM : MRw v m p R) (hp : p < 8) {t st : Nat} (hst : st < 4) (h18 : zI v 6 m 18 0 = nI t) (h19 : zI v 6 m 19 0 = nI st) (h21 : zI v 6 m 21 0 = 0) (h22 : zI v 6 m 22 0 = -1) (h23 : zI v 6 m 23 0 = 0) (hd : zI v 6 m 16 0 = -1) (ha : zI v 6 m 14 0 = nI i) (hi : i + 1 ≤ n) : ∃ v', Fr (SMp m) v v' ∧ MPs v' m (s3 tx n R t st (i + 1)) ∧ fX6_readRow_b96 m (nI p) v = some v' := by
  have hn := hT.2.1
  unfold fX6_readRow_b96 s3
  have F1 : Fr (SMp m) v (sI v 6 m 14 0 (nI (i + 1))) := (Fr.refl v).set _ ⟨rfl, rfl, by omega⟩
  have B1 : zI (sI v 6 m 14 0 (nI (i + 1))) 6 m 16 0 = -1 := by rw [zI_sIn (by omega)]; exact hd
  obtain ⟨v2, y, F2, P2, S2, E2⟩ := m_num (d := 4) (mx := 9999) (xd := 4) (xm := 9999) (hT.fr F1) rfl rfl (by decide) (by decide) (by decide) B1 (zI_sIs _ _ _ _ _ _) hi
  have G2 := F1.trans (F2.mono (SNm_SMp m))
  have G3 : Fr (SMp m) v (sI v2 6 m 20 0 y) := G2.set _ ⟨rfl, rfl, by omega⟩
  rw [lt_e, ha, nI_1, if_pos B1, E2, bd2_s, lt_e]
  rcases e2 : nmb tx n 4 9999 (i + 1) with ⟨j, o⟩
  rw [e2] at P2
  cases o with
  | none =>
    obtain ⟨⟨b1, b2⟩, -⟩ := P2
    rw [pb_n, b_126 _ (by rw [zI_sIn (by omega), b1]; exact m1_ne (by omega))]
    exact ⟨_, G3, by show zI _ 6 m 16 0 = _; rw [zI_sIn (by omega)]; exact b1, rfl⟩
  | some ct =>
    obtain ⟨⟨b1, b2⟩, b3, rfl⟩ := P2
    rw [pb_s]
    have g : ∀ k, k = 18 ∨ k = 19 ∨ k = 22 ∨ k = 21 ∨ k = 23 → zI (sI v2 6 m 20 0 (nI ct)) 6 m k 0 = zI v 6 m k 0 := fun k hk => by
      rw [zI_sIn (by omega), F2.1 6 m k 0 (by unfold SNm; omega), zI_sIn (by omega)]
    obtain ⟨v3, F3, P3, E3⟩ := r_126 (t := t) (st := st) (ct := ct) (i := j) (hT.fr G3) (hM.fr G3) hp hst ⟨by rw [g 18 (by omega)]; exact h18, by rw [g 19 (by omega)]; exact h19, zI_sIs _ _ _ _ _ _, by rw [g 21 (by omega)]; exact h21, by rw [g 22 (by omega)]; exact h22⟩ (by rw [g 23 (by omega)]; exact h23) (by rw [zI_sIn (by omega)]; exact b1) (by rw [zI_sIn (by omega)]; exact b3) b2
    exact ⟨v3, G3.trans F3, P3, E3⟩
theorem m_state (hT : TxM v m tx n) : fX6_stateOf (chM tx n i) v = some (en (sSt tx n i).2) := by
  have h : ∀ {x : Int32} {c : Nat}, x = nI c → 0 < c → c < 256 → (chM tx n i = x ↔ isC tx n c i = true) := fun e h0 hc => chM_iff hT.2.2.1 e h0 hc
  unfold fX6_stateOf fX6_stateOf_b41 sSt
  by_cases c1 : isC tx n 82 i = true
  · rw [if_pos ((h (x := 82) (c := 82) rfl (by decide) (by decide)).mpr c1), if_pos c1]; rfl
  rw [if_neg (fun z => c1 ((h (x := 82) (c := 82) rfl (by decide) (by decide)).mp z)), if_neg c1]
  by_cases c2 : isC tx n 87 i = true
  · rw [if_pos ((h (x := 87) (c := 87) rfl (by decide) (by decide)).mpr c2), if_pos c2]; rfl
  rw [if_neg (fun z => c2 ((h (x := 87) (c := 87) rfl (by decide) (by decide)).mp z)), if_neg c2]
  by_cases c3 : isC tx n 83 i = true
  · rw [if_pos ((h (x := 83) (c := 83) rfl (by decide) (by decide)).mpr c3), if_pos c3]; rfl
  rw [if_neg (fun z => c3 ((h (x := 83) (c := 83) rfl (by decide) (by decide)).mp z)), if_neg c3]
  by_cases c4 : isC tx n 70 i = true
  · rw [if_pos ((h (x := 70) (c := 70) rfl (by decide) (by decide)).mpr c4), if_pos c4]; rfl
  rw [if_neg (fun z => c4 ((h (x := 70) (c := 70) rfl (by decide) (by decide)).mp z)), if_neg c4]
  rfl
theorem sSt_1 {st j : Nat} (h : sSt tx n i = (j, some st)) : j = i + 1 ∧ i + 1 ≤ n := by
  unfold sSt at h
  by_cases c1 : isC tx n 82 i = true
  · rw [if_pos c1] at h; cases h; exact ⟨rfl, (isC_lt c1).1⟩
  rw [if_neg c1] at h
  by_cases c2 : isC tx n 87 i = true
  · rw [if_pos c2] at h; cases h; exact ⟨rfl, (isC_lt c2).1⟩
  rw [if_neg c2] at h
  by_cases c3 : isC tx n 83 i = true
  · rw [if_pos c3] at h; cases h; exact ⟨rfl, (isC_lt c3).1⟩
  rw [if_neg c3] at h
  by_cases c4 : isC tx n 70 i = true
  · rw [if_pos c4] at h; cases h; exact ⟨rfl, (isC_lt c4).1⟩
  rw [if_neg c4] at h; cases h
theorem sSt_0 {j : Nat} (h : sSt tx n i = (j, none)) : j = i := by
  unfold sSt at h
  by_cases c1 : isC tx n 82 i = true
  · rw [if_pos c1] at h; cases h
  rw [if_neg c1] at h
  by_cases c2 : isC tx n 87 i = true
  · rw [if_pos c2] at h; cases h
  rw [if_neg c2] at h
  by_cases c3 : isC tx n 83 i = true
  · rw [if_pos c3] at h; cases h
  rw [if_neg c3] at h
  by_cases c4 : isC tx n 70 i = true
  · rw [if_pos c4] at h; cases h
  rw [if_neg c4] at h; cases h; rfl
theorem r_69 (hT : TxM v m tx n) (hM : MRw v m p R) (hp : p < 8) {t : Nat} (h18 : zI v 6 m 18 0 = nI t) (h21 : zI v 6 m 21 0 = 0) (h22 : zI v 6 m 22 0 = -1) (h23 : zI v 6 m 23 0 = 0) (hd : zI v 6 m 16 0 = -1) (ha : zI v 6 m 14 0 = nI i) (hi : i ≤ n) : ∃ v', Fr (SMp m) v v' ∧ MPs v' m (s2 tx n R t i) ∧ fX6_readRow_b69 m (nI p) v = some v' := by
  have hn := hT.2.1
  unfold fX6_readRow_b69 s2
  rw [m_here hT ha (by omega), bd_s, m_state hT, bd_s, lt_e, zI_sIs]
  rcases e : sSt tx n i with ⟨j, o⟩
  cases o with
  | none =>
    have hj := sSt_0 e
    subst hj
    have F1 : Fr (SMp m) v (sI v 6 m 19 0 (-1)) := (Fr.refl v).set _ ⟨rfl, rfl, by omega⟩
    have A1 : zI (sI v 6 m 19 0 (-1)) 6 m 14 0 = nI j := by rw [zI_sIn (by omega)]; exact ha
    rw [pb_n, en_none, if_pos pmm, A1, m_tear _ (by rw [zI_sIn (by omega)]; exact hd), bd_s]
    obtain ⟨v2, F2, P2, E2⟩ := b_96 (m := m) (v := sI (sI v 6 m 19 0 (-1)) 6 m 16 0 (nI j)) (nI p) (by rw [zI_sIs]; exact m1_ne (by omega))
    refine ⟨v2, (F1.set _ ⟨rfl, rfl, by omega⟩).trans F2, ?_, E2⟩
    show zI v2 6 m 16 0 = _
    rw [P2, zI_sIs]
  | some st =>
    obtain ⟨hj, hi1⟩ := sSt_1 e
    subst hj
    have hst := sSt_st e
    have F1 : Fr (SMp m) v (sI v 6 m 19 0 (nI st)) := (Fr.refl v).set _ ⟨rfl, rfl, by omega⟩
    rw [pb_s, en_some, if_neg (m1_ne (by omega))]
    obtain ⟨v2, F2, P2, E2⟩ := r_96 (t := t) (st := st) (i := i) (hT.fr F1) (hM.fr F1) hp hst (by rw [zI_sIn (by omega)]; exact h18) (zI_sIs _ _ _ _ _ _) (by rw [zI_sIn (by omega)]; exact h21) (by rw [zI_sIn (by omega)]; exact h22) (by rw [zI_sIn (by omega)]; exact h23) (by rw [zI_sIn (by omega)]; exact hd) (by rw [zI_sIn (by omega)]; exact ha) hi1
    exact ⟨v2, F1.trans F2, P2, E2⟩
theorem m_row (hT : TxM v m tx n) (hM : MRw v m p R) (hp : p < 8) (hd : zI v 6 m 16 0 = -1) (ha : zI v 6 m 14 0 = nI i) (hi : i + 1 ≤ n) : ∃ v', Fr (SMp m) v v' ∧ MPs v' m (sRow tx n R (i + 1)) ∧ fX6_readRow m (nI p) v = some v' := by
  have hn := hT.2.1
  unfold fX6_readRow sRow sThr
  rw [lt_e, lt_e, lt_e, lt_e, ha, nI_1]
  have F1 : Fr (SMp m) v (sI (sI (sI (sI v 6 m 14 0 (nI (i + 1))) 6 m 21 0 0) 6 m 22 0 (-1)) 6 m 23 0 0) := ((((Fr.refl v).set _ ⟨rfl, rfl, by omega⟩).set _ ⟨rfl, rfl, by omega⟩).set _ ⟨rfl, rfl, by omega⟩).set _ ⟨rfl, rfl, by omega⟩
  obtain ⟨v2, y, F2, P2, S2, E2⟩ := m_num (d := 2) (mx := 23) (xd := 2) (xm := 23) (hT.fr F1) rfl rfl (by decide) (by decide) (by decide) (by rw [zI_sIn (by omega), zI_sIn (by omega), zI_sIn (by omega), zI_sIn (by omega)]; exact hd) (by rw [zI_sIn (by omega), zI_sIn (by omega), zI_sIn (by omega), zI_sIs]) hi
  have G2 := F1.trans (F2.mono (SNm_SMp m))
  have G3 : Fr (SMp m) v (sI v2 6 m 18 0 y) := G2.set _ ⟨rfl, rfl, by omega⟩
  rw [E2, bd2_s, lt_e, zI_sIs]
  have hok := nmb_ok (tx := tx) (n := n) (d := 2) (mx := 23) hi
  rcases e2 : nmb tx n 2 23 (i + 1) with ⟨j, o⟩
  rw [e2] at P2 hok
  cases o with
  | none =>
    obtain ⟨⟨b1, b2⟩, i', b3, b4⟩ := P2
    have B3 : ¬ zI (sI v2 6 m 18 0 y) 6 m 16 0 = -1 := by rw [zI_sIn (by omega), b1]; exact m1_ne (by omega)
    rw [pb_n, pb_n, if_neg B3]
    obtain ⟨v3, F3, P3, E3⟩ := b_69 (i := i') (hT.fr G3) (nI p) (by rw [zI_sIn (by omega)]; exact b4) b3 B3
    refine ⟨v3, G3.trans F3, ?_, E3⟩
    show zI v3 6 m 16 0 = _
    rw [P3, zI_sIn (by omega)]; exact b1
  | some t =>
    obtain ⟨⟨b1, b2⟩, b3, rfl⟩ := P2
    have ht : t ≤ 23 := hok.2 t rfl
    have B3 : zI (sI v2 6 m 18 0 (nI t)) 6 m 16 0 = -1 := by rw [zI_sIn (by omega)]; exact b1
    have hM3 := hM.fr G3
    have hz : (zI (sI v2 6 m 18 0 (nI t)) 6 m 7 (24 * p + t) = 0) ↔ ¬ pIs R t = true := by
      have := hM3.is (show t < 24 by omega)
      unfold mis at this
      rw [← this]
      simp
    rw [pb_s, if_pos B3, i_24, ckp_ix _ (show 24 * p + t < 192 by omega) (by decide), cl_nI (by omega)]
    by_cases c : pIs R t = true
    · rw [if_pos c, pb_n, if_neg (fun z => hz.mp z c), zI_sIn (by omega), S2, m_tear _ B3, bd_s]
      obtain ⟨v3, F3, P3, E3⟩ := b_69 (v := sI (sI v2 6 m 18 0 (nI t)) 6 m 16 0 (nI (i + 1))) (i := j) (hT.fr (G3.set _ ⟨rfl, rfl, by omega⟩)) (nI p) (by rw [zI_sIn (by omega), zI_sIn (by omega)]; exact b3) b2 (by rw [zI_sIs]; exact m1_ne (by omega))
      refine ⟨v3, (G3.set _ ⟨rfl, rfl, by omega⟩).trans F3, ?_, E3⟩
      show zI v3 6 m 16 0 = _
      rw [P3, zI_sIs]
    · rw [if_neg c, pb_s, if_pos (hz.mpr c)]
      have g : ∀ k, k = 21 ∨ k = 22 ∨ k = 23 → zI (sI v2 6 m 18 0 (nI t)) 6 m k 0 = zI (sI (sI (sI (sI v 6 m 14 0 (nI (i + 1))) 6 m 21 0 0) 6 m 22 0 (-1)) 6 m 23 0 0) 6 m k 0 := fun k hk => by
        rw [zI_sIn (by omega), F2.1 6 m k 0 (by unfold SNm; omega)]
      obtain ⟨v3, F3, P3, E3⟩ := r_69 (t := t) (i := j) (hT.fr G3) hM3 hp (zI_sIs _ _ _ _ _ _) (by rw [g 21 (by omega), zI_sIn (by omega), zI_sIn (by omega), zI_sIs]) (by rw [g 22 (by omega), zI_sIn (by omega), zI_sIs]) (by rw [g 23 (by omega), zI_sIs]) B3 (by rw [zI_sIn (by omega)]; exact b3) b2
      exact ⟨v3, G3.trans F3, P3, E3⟩
end ZMB
