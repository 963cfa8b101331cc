/-! PURE LAYER: the class reads a row, on -/
def SCl (tp r : Nat) (c a k j : Nat) : Prop := SA tp c a k j ∨ (c = 2 ∧ a = r ∧ (k = 0 ∨ k = 6))
theorem SCl_SRd (tp r c a k j : Nat) (h : SCl tp r c a k j) : SRd tp r c a k j := h.imp id (fun q => ⟨q.1, q.2.1⟩)
theorem lowb (x : Nat) (h : x < 128) : vp_nar .byte (((nI x) : Int32).toInt8.toInt32) = nI x := by
  have : ∀ y, y < 128 → vp_nar .byte (((nI y) : Int32).toInt8.toInt32) = nI y := by decide +kernel
  exact this x h
section ZCS
variable {w v : Wd} {rr tp a r : Nat} {tx : Nat → Nat} {n : Nat} {R : RS} {i : Nat}
theorem l_lks (h : RC w rr tp a tx n R) : ∀ k f c v he i, c + k = 4 → k < f → Fr (SK tp r 4) w v → zI v 2 r 4 0 = he → zI v 4 tp 3 0 = nI i → i ≤ n → ∃ v', Fr (SK tp r 4) w v' ∧ zI v' 4 tp 3 0 = nI (sLks tx n R k he i).1 ∧ (∀ t, (sLks tx n R k he i).2 = some t → zI v' 2 r 4 0 = t) ∧ fX3_readHeld_l22 f rr r 1 (nI c) v = some (bi (sLks tx n R k he i).2.isSome, v') := by
  intro k
  induction k with
  | zero =>
    intro f c v he i h1 h2 hF hh ha hi
    obtain ⟨f, rfl⟩ : ∃ f', f = f' + 1 := ⟨f - 1, by omega⟩
    show ∃ v', _ ∧ _ ∧ _ ∧ fX3_readHeld_b22 (fX3_readHeld_l22 f) rr r 1 (nI c) v = _
    unfold fX3_readHeld_b22 fX3_readHeld_b55 sLks
    rw [if_pos (show (4 : Int32) ≤ nI c from nI_le (a := 4) (by omega) (by omega))]
    exact ⟨v, hF, ha, fun t q => (by cases q; exact hh), rfl⟩
  | succ k ih =>
    intro f c v he i h1 h2 hF hh ha hi
    obtain ⟨f, rfl⟩ : ∃ f', f = f' + 1 := ⟨f - 1, by omega⟩
    have hv := h.fr (hF.mono (SK_SRd tp r 4))
    show ∃ v', _ ∧ _ ∧ _ ∧ fX3_readHeld_b22 (fX3_readHeld_l22 f) rr r 1 (nI c) v = _
    unfold fX3_readHeld_b22 fX3_readHeld_b55 sLks
    rw [if_neg (show ¬ (4 : Int32) ≤ nI c from nI_ge (b := 4) (by omega) (by decide)), if_neg n10, lt_e, hv.2.1, nn_s]
    by_cases e : isC tx n 44 i = true
    · have hi1 : i + 1 ≤ n := (isC_lt e).1
      rw [if_pos e, c_take_t hv.1 ha (x := 44) (c := 44) rfl (by decide) e, bd2_s, if_neg n10]
      have F2 : Fr (SK tp r 4) w (sI v 4 tp 3 0 (nI (i + 1))) := SK_at hF _
      obtain ⟨v2, F3, A3, B3, E3⟩ := c_lk (r := r) (h.fr (F2.mono (SK_SRd tp r 4))) (he := he) (by rw [zI_sIn (by omega)]; exact hh) (zI_sIs _ _ _ _ _ _) hi1
      rw [E3, bd2_s]
      have hle := sLk_le (tx := tx) (n := n) (R := R) (he := he) hi1
      rcases e3 : sLk tx n R he (i + 1) with ⟨j, o⟩
      rw [e3] at A3 B3 hle
      cases o with
      | none =>
        rw [pb_n]
        refine ⟨v2, F2.trans F3, A3, fun t q => (by cases q), ?_⟩
        obtain ⟨f, rfl⟩ : ∃ f', f = f' + 1 := ⟨f - 1, by omega⟩
        show fX3_readHeld_b22 (fX3_readHeld_l22 f) rr r 0 (nI c + 1) v2 = _
        unfold fX3_readHeld_b22 fX3_readHeld_b55
        by_cases z : (4 : Int32) ≤ nI c + 1
        · rw [if_pos z]; rfl
        · rw [if_neg z, if_pos p00]; rfl
      | some he' =>
        rw [pb_s, nI_1]
        exact ih f (c + 1) v2 he' j (by omega) (by omega) (F2.trans F3) (B3 he' rfl) A3 hle
    · rw [if_neg e, c_take_f hv.1 ha hi (x := 44) (c := 44) rfl (by decide) e, bd2_s, if_pos p00]
      exact ⟨v, hF, ha, fun t q => (by cases q; exact hh), rfl⟩
theorem c_he (h : RC v rr tp a tx n R) (hh : zI v 2 r 4 0 = 0) (ha : zI v 4 tp 3 0 = nI i) (hi : i ≤ n) : ∃ v', Fr (SK tp r 4) v v' ∧ zI v' 4 tp 3 0 = nI (sHe tx n R i).1 ∧ (∀ t, (sHe tx n R i).2 = some t → zI v' 2 r 4 0 = t) ∧ fX3_readHeld rr r v = some (bi (sHe tx n R i).2.isSome, v') := by
  unfold fX3_readHeld sHe
  rw [lt_e, h.2.1, nn_s]
  by_cases e : isC tx n 104 i = true
  · have hi1 : i + 1 ≤ n := (isC_lt e).1
    rw [if_pos e, c_take_t h.1 ha (x := 104) (c := 104) rfl (by decide) e, bd2_s, if_neg n10]
    have F2 : Fr (SK tp r 4) v (sI v 4 tp 3 0 (nI (i + 1))) := SK_at (Fr.refl v) _
    obtain ⟨v2, F3, A3, B3, E3⟩ := c_lk (r := r) (h.fr (F2.mono (SK_SRd tp r 4))) (he := 0) (by rw [zI_sIn (by omega)]; exact hh) (zI_sIs _ _ _ _ _ _) hi1
    rw [E3, bd2_s]
    have hle := sLk_le (tx := tx) (n := n) (R := R) (he := 0) hi1
    rcases e3 : sLk tx n R 0 (i + 1) with ⟨j, o⟩
    rw [e3] at A3 B3 hle
    cases o with
    | none =>
      rw [pb_n]
      exact ⟨v2, F2.trans F3, A3, fun t q => (by cases q), rfl⟩
    | some he' =>
      rw [pb_s]
      exact l_lks h 3 1000 1 v2 he' j rfl (by decide) (F2.trans F3) (B3 he' rfl) A3 hle
  · rw [if_neg e, c_take_f h.1 ha hi (x := 104) (c := 104) rfl (by decide) e, bd2_s, if_pos p00]
    exact ⟨v, Fr.refl v, ha, fun t q => (by cases q; exact hh), rfl⟩
theorem c_wt (h : RC v rr tp a tx n R) {st : Nat} (hs : zI v 2 r 2 0 = nI st) (hst : st < 4) (hw : zI v 2 r 5 0 = -1) (ha : zI v 4 tp 3 0 = nI i) (hi : i ≤ n) : ∃ v', Fr (SK tp r 5) v v' ∧ zI v' 4 tp 3 0 = nI (sWt tx n st i).1 ∧ (∀ t, (sWt tx n st i).2 = some t → zI v' 2 r 5 0 = t) ∧ fX3_readWait rr r v = some (bi (sWt tx n st i).2.isSome, v') := by
  have key : must st = true → ∃ v', Fr (SK tp r 5) v v' ∧ zI v' 4 tp 3 0 = nI (sWt tx n st i).1 ∧ (∀ t, (sWt tx n st i).2 = some t → zI v' 2 r 5 0 = t) ∧ fX3_readWait_b18 rr r v = some (bi (sWt tx n st i).2.isSome, v') := by
    intro hm
    unfold fX3_readWait_b18 fX3_readWait_b59 sWt
    rw [if_pos hm, lt_e, h.2.1, nn_s]
    by_cases e : isC tx n 119 i = true
    · have hi1 : i + 1 ≤ n := (isC_lt e).1
      rw [if_pos e, c_take_t h.1 ha (x := 119) (c := 119) rfl (by decide) e, bd2_s, if_neg n10]
      have F2 : Fr (SK tp r 5) v (sI v 4 tp 3 0 (nI (i + 1))) := SK_at (Fr.refl v) _
      have h2 := h.fr (F2.mono (SK_SRd tp r 5))
      obtain ⟨v2, F3, A3, E3⟩ := c_num (d := 2) (mx := 15) (xd := 2) (xm := 15) h2.1 rfl rfl (by decide) (by decide) (zI_sIs _ _ _ _ _ _) hi1
      have hok := nmb_ok (tx := tx) (n := n) (d := 2) (mx := 15) hi1
      rw [lt_e, h2.2.1, nn_s, E3, bd2_s, lt_e, zI_sIs]
      rcases e3 : nmb tx n 2 15 (i + 1) with ⟨j, o⟩
      rw [e3] at A3 hok
      have F4 := F2.trans (SA_SK r 5 F3)
      cases o with
      | none =>
        rw [pb_n, en_none, if_pos pmm]
        refine ⟨_, SK_set F4 (-1), ?_, fun t q => (by cases q), rfl⟩
        rw [zI_sIn (by omega)]; exact A3
      | some l =>
        have hl : l ≤ 15 := hok.2 l rfl
        rw [pb_s, en_some, if_neg (m1_ne (by omega))]
        refine ⟨_, SK_set F4 (nI l), ?_, fun t q => (by cases q; exact zI_sIs _ _ _ _ _ _), rfl⟩
        rw [zI_sIn (by omega)]; exact A3
    · rw [if_neg e, c_take_f h.1 ha hi (x := 119) (c := 119) rfl (by decide) e, bd2_s, if_pos p00]
      exact ⟨v, Fr.refl v, ha, fun t q => (by cases q), rfl⟩
  unfold fX3_readWait
  rw [hs]
  by_cases e1 : st = 1
  · rw [if_pos (show nI st = (1 : Int32) by rw [e1]; rfl)]
    exact key (decide_eq_true (Or.inl e1))
  rw [if_neg (show ¬ nI st = (1 : Int32) from fun q => e1 ((nI_eq (b := 1) (by omega) (by decide)).mp q))]
  by_cases e2 : st = 2
  · rw [if_pos (show nI st = (2 : Int32) by rw [e2]; rfl)]
    exact key (decide_eq_true (Or.inr e2))
  rw [if_neg (show ¬ nI st = (2 : Int32) from fun q => e2 ((nI_eq (b := 2) (by omega) (by decide)).mp q))]
  unfold sWt must
  rw [if_neg (by simp [e1, e2])]
  exact ⟨v, Fr.refl v, ha, fun t q => (by cases q; exact hw), rfl⟩
theorem l_cl (h : RC w rr tp a tx n R) (i0 : Nat) : ∀ k f c v i, c + k = 12 → k < f → i = i0 + c → Fr (SCl tp r) w v → zI v 2 r 6 0 = nI c → (∀ j, j < c → zI v 2 r 0 j = nI (tx (i0 + j))) → zI v 4 tp 3 0 = nI i → i ≤ n → ∃ v', Fr (SCl tp r) w v' ∧ zI v' 4 tp 3 0 = nI (i + lct tx n k i) ∧ zI v' 2 r 6 0 = nI (c + lct tx n k i) ∧ (∀ j, j < c + lct tx n k i → zI v' 2 r 0 j = nI (tx (i0 + j))) ∧ fX3_readCalls_l16 f rr r (nI c) v = some (bi (decide (0 < c + lct tx n k i)), v') := by
  have fin : ∀ c v i, Fr (SCl tp r) w v → c ≤ 12 → zI v 2 r 6 0 = nI c → (∀ j, j < c → zI v 2 r 0 j = nI (tx (i0 + j))) → zI v 4 tp 3 0 = nI i → ∃ v', Fr (SCl tp r) w v' ∧ zI v' 4 tp 3 0 = nI (i + 0) ∧ zI v' 2 r 6 0 = nI (c + 0) ∧ (∀ j, j < c + 0 → zI v' 2 r 0 j = nI (tx (i0 + j))) ∧ fX3_readCalls_b65 r v = some (bi (decide (0 < c + 0)), v') := by
    intro c v i hF hc h6 hj ha
    refine ⟨v, hF, ha, h6, hj, ?_⟩
    unfold fX3_readCalls_b65 fX3_readCalls_b77
    rw [h6]
    by_cases z : c = 0
    · subst z; rfl
    · rw [if_neg (nI_nle (by omega) (by omega)), decide_eq_true (show 0 < c + 0 by omega)]; rfl
  intro k
  induction k with
  | zero =>
    intro f c v i h1 h2 hi0 hF h6 hj ha hi
    obtain ⟨f, rfl⟩ : ∃ f', f = f' + 1 := ⟨f - 1, by omega⟩
    show ∃ v', _ ∧ _ ∧ _ ∧ _ ∧ fX3_readCalls_b16 (fX3_readCalls_l16 f) rr r (nI c) v = _
    unfold fX3_readCalls_b16 lct
    rw [if_pos (show (12 : Int32) ≤ nI c from nI_le (a := 12) (by omega) (by omega))]
    exact fin c v i hF (by omega) h6 hj ha
  | succ k ih =>
    intro f c v i h1 h2 hi0 hF h6 hj ha hi
    obtain ⟨f, rfl⟩ : ∃ f', f = f' + 1 := ⟨f - 1, by omega⟩
    have hv := h.fr (hF.mono (SCl_SRd tp r))
    show ∃ v', _ ∧ _ ∧ _ ∧ _ ∧ fX3_readCalls_b16 (fX3_readCalls_l16 f) rr r (nI c) v = _
    unfold fX3_readCalls_b16 lct
    rw [if_neg (show ¬ (12 : Int32) ≤ nI c from nI_ge (b := 12) (by omega) (by decide)), lt_e, hv.2.1, nn_s, c_next hv.1 ha hi, bd_s, c_isLetter hv.1.2.2.1, bd_s]
    by_cases e : inR tx n 97 122 i = true
    · have hr := inR_lt e
      rw [if_pos e, e, bi_t, if_neg n10, lt_e, nn_s, c_next hv.1 ha hi, bd_s, chC_lt hr.1]
      unfold fX2_addCall fX2_addCall_b30
      rw [h6, if_neg (show ¬ (12 : Int32) ≤ nI c from nI_ge (b := 12) (by omega) (by decide)), ckp_ix _ (by omega) (by decide), cl_nI (by omega), lowb _ (by omega), lt_e, lt_e, zI_sIn (by omega), h6, bd_s, lt_e, zR_sI, zR_sI, hv.2.1, nn_s, lt_e, zI_sIn (by omega), zI_sIn (by omega), ha, nI_1, nI_1]
      have := ih f (c + 1) (sI (sI (sI v 2 r 0 c (nI (tx i))) 2 r 6 0 (nI (c + 1))) 4 tp 3 0 (nI (i + 1))) (i + 1) (by omega) (by omega) (by omega) (((hF.set _ (Or.inr ⟨rfl, rfl, Or.inl rfl⟩)).set _ (Or.inr ⟨rfl, rfl, Or.inr rfl⟩)).set _ (Or.inl ⟨rfl, rfl, rfl⟩)) (by rw [zI_sIn (by omega), zI_sIs]) (by
        intro j hj'
        rw [zI_sIn (by omega), zI_sIn (by omega)]
        by_cases q : j = c
        · rw [q, zI_sIs, hi0]
        · rw [zI_sIn (by omega)]; exact hj j (by omega)) (zI_sIs _ _ _ _ _ _) (by omega)
      rw [show i + (lct tx n k (i + 1) + 1) = i + 1 + lct tx n k (i + 1) by omega, show c + (lct tx n k (i + 1) + 1) = c + 1 + lct tx n k (i + 1) by omega]
      exact this
    · rw [if_neg e]
      simp only [Bool.not_eq_true] at e
      rw [e, bi_f, if_pos p00]
      exact fin c v i hF (by omega) h6 hj ha
theorem c_cl (h : RC v rr tp a tx n R) (h6 : zI v 2 r 6 0 = 0) (ha : zI v 4 tp 3 0 = nI i) (hi : i ≤ n) : ∃ v', Fr (SCl tp r) v v' ∧ zI v' 4 tp 3 0 = nI (sCl tx n i).1 ∧ (∀ c, (sCl tx n i).2 = some c → zI v' 2 r 6 0 = nI c.1 ∧ ∀ j, j < c.1 → zI v' 2 r 0 j = c.2 j) ∧ fX3_readCalls rr r v = some (bi (sCl tx n i).2.isSome, v') := by
  unfold fX3_readCalls sCl
  rw [lt_e, h.2.1, nn_s]
  by_cases e : isC tx n 99 i = true
  · have hi1 : i + 1 ≤ n := (isC_lt e).1
    rw [if_pos e, c_take_t h.1 ha (x := 99) (c := 99) rfl (by decide) e, bd2_s, if_neg n10]
    have F2 : Fr (SCl tp r) v (sI v 4 tp 3 0 (nI (i + 1))) := (Fr.refl v).set _ (Or.inl ⟨rfl, rfl, rfl⟩)
    obtain ⟨v2, F3, A3, B3, C3, E3⟩ := l_cl (r := r) h (i + 1) 12 1000 0 (sI v 4 tp 3 0 (nI (i + 1))) (i + 1) rfl (by decide) rfl F2 (by rw [zI_sIn (by omega)]; exact h6) (fun j hj => by omega) (zI_sIs _ _ _ _ _ _) hi1
    rw [show (0 : Int32) = nI 0 from rfl, E3]
    by_cases z : lct tx n 12 (i + 1) = 0
    · rw [if_pos z]
      rw [z] at A3
      exact ⟨v2, F3, A3, fun c q => (by cases q), by rw [z]; rfl⟩
    · rw [if_neg z]
      refine ⟨v2, F3, A3, fun c q => (by
        cases q
        rw [Nat.zero_add] at B3 C3
        exact ⟨B3, C3⟩), ?_⟩
      rw [decide_eq_true (show 0 < 0 + lct tx n 12 (i + 1) by omega)]; rfl
  · rw [if_neg e, c_take_f h.1 ha hi (x := 99) (c := 99) rfl (by decide) e, bd2_s, if_pos p00]
    exact ⟨v, Fr.refl v, ha, fun c q => (by cases q; exact ⟨h6, fun j hj => by omega⟩), rfl⟩
/-- a row as the class keeps it -/
def RowC (v : Wd) (r t : Nat) (d : RD) : Prop := zI v 2 r 1 0 = nI t ∧ zI v 2 r 2 0 = nI d.1 ∧ zI v 2 r 3 0 = nI d.2.1 ∧ zI v 2 r 4 0 = dHe d ∧ zI v 2 r 5 0 = dWa d ∧ zI v 2 r 6 0 = nI (dMn d) ∧ ∀ j, j < dMn d → zI v 2 r 0 j = dCa d j
theorem sSt_st {st j : Nat} (h : sSt tx n i = (j, some st)) : st < 4 := by
  unfold sSt at h
  by_cases c1 : isC tx n 82 i = true
  · rw [if_pos c1] at h; cases h; omega
  rw [if_neg c1] at h
  by_cases c2 : isC tx n 87 i = true
  · rw [if_pos c2] at h; cases h; omega
  rw [if_neg c2] at h
  by_cases c3 : isC tx n 83 i = true
  · rw [if_pos c3] at h; cases h; omega
  rw [if_neg c3] at h
  by_cases c4 : isC tx n 70 i = true
  · rw [if_pos c4] at h; cases h; omega
  rw [if_neg c4] at h; cases h
theorem c_row (h : RC v rr tp a tx n R) (h4 : zI v 2 r 4 0 = 0) (h5 : zI v 2 r 5 0 = -1) (h6 : zI v 2 r 6 0 = 0) (ha : zI v 4 tp 3 0 = nI i) (hi : i ≤ n) : ∃ v', Fr (SRd tp r) v v' ∧ zI v' 4 tp 3 0 = nI (sRow tx n R i).1 ∧ (∀ t d, (sRow tx n R i).2 = some (t, d) → RowC v' r t d) ∧ fX3_readRow rr r v = some (bi (sRow tx n R i).2.isSome, v') := by
  unfold fX3_readRow fX3_readRow_b62 fX3_readRow_b63 sRow
  obtain ⟨v1, F1, A1, B1, E1⟩ := c_thr (r := r) h ha hi
  have G1 := F1.mono (SK_SRd tp r 1)
  have l1 := sThr_le (tx := tx) (n := n) (R := R) hi
  rw [E1, bd2_s]
  rcases e1 : sThr tx n R i with ⟨i1, o1⟩
  rw [e1] at A1 B1 l1
  cases o1 with
  | none => rw [pb_n]; exact ⟨v1, G1, A1, fun t d q => (by cases q), rfl⟩
  | some t =>
  rw [pb_s, show bi ((i1, some t) : Nat × Option Nat).2.isSome = 1 from rfl, if_neg n10]
  unfold s2
  obtain ⟨v2, F2, A2, B2, E2⟩ := c_st (r := r) (h.fr G1) A1 l1
  have G2 := G1.trans (F2.mono (SK_SRd tp r 2))
  have l2 := sSt_le (tx := tx) (n := n) l1
  rw [E2, bd2_s]
  rcases e2 : sSt tx n i1 with ⟨i2, o2⟩
  rw [e2] at A2 B2 l2
  cases o2 with
  | none => rw [pb_n]; exact ⟨v2, G2, A2, fun t d q => (by cases q), rfl⟩
  | some st =>
  rw [pb_s, show bi ((i2, some st) : Nat × Option Nat).2.isSome = 1 from rfl, if_neg n10]
  unfold s3
  obtain ⟨v3, F3, A3, B3, E3⟩ := c_ct (r := r) (h.fr G2) A2 l2
  have G3 := G2.trans (F3.mono (SK_SRd tp r 3))
  have l3 := (nmb_ok (tx := tx) (n := n) (d := 4) (mx := 9999) l2).1
  rw [E3, bd2_s]
  rcases e3 : nmb tx n 4 9999 i2 with ⟨i3, o3⟩
  rw [e3] at A3 B3 l3
  cases o3 with
  | none => rw [pb_n]; exact ⟨v3, G3, A3, fun t d q => (by cases q), rfl⟩
  | some ct =>
  rw [pb_s, show bi ((i3, some ct) : Nat × Option Nat).2.isSome = 1 from rfl, if_neg n10]
  unfold s4
  have k4 : zI v3 2 r 4 0 = 0 := by
    rw [F3.1 2 r 4 0 (by unfold SK SA; omega), F2.1 2 r 4 0 (by unfold SK SA; omega), F1.1 2 r 4 0 (by unfold SK SA; omega)]; exact h4
  obtain ⟨v4, F4, A4, B4, E4⟩ := c_he (r := r) (h.fr G3) k4 A3 l3
  have G4 := G3.trans (F4.mono (SK_SRd tp r 4))
  have l4 := (sHe_ok (tx := tx) (n := n) (R := R) l3).1
  rw [E4, bd2_s]
  rcases e4 : sHe tx n R i3 with ⟨i4, o4⟩
  rw [e4] at A4 B4 l4
  cases o4 with
  | none => rw [pb_n]; exact ⟨v4, G4, A4, fun t d q => (by cases q), rfl⟩
  | some he =>
  rw [pb_s, show bi ((i4, some he) : Nat × Option Int32).2.isSome = 1 from rfl, if_neg n10]
  unfold s5
  have k2 : zI v4 2 r 2 0 = nI st := by
    rw [F4.1 2 r 2 0 (by unfold SK SA; omega), F3.1 2 r 2 0 (by unfold SK SA; omega)]; exact B2 st rfl
  have k5 : zI v4 2 r 5 0 = -1 := by
    rw [F4.1 2 r 5 0 (by unfold SK SA; omega), F3.1 2 r 5 0 (by unfold SK SA; omega), F2.1 2 r 5 0 (by unfold SK SA; omega), F1.1 2 r 5 0 (by unfold SK SA; omega)]; exact h5
  obtain ⟨v5, F5, A5, B5, E5⟩ := c_wt (r := r) (h.fr G4) k2 (sSt_st e2) k5 A4 l4
  have G5 := G4.trans (F5.mono (SK_SRd tp r 5))
  have l5 := (sWt_ok (tx := tx) (n := n) (st := st) l4).1
  rw [E5, bd2_s]
  rcases e5 : sWt tx n st i4 with ⟨i5, o5⟩
  rw [e5] at A5 B5 l5
  cases o5 with
  | none => rw [pb_n]; exact ⟨v5, G5, A5, fun t d q => (by cases q), rfl⟩
  | some wa =>
  rw [pb_s, show bi ((i5, some wa) : Nat × Option Int32).2.isSome = 1 from rfl, if_neg n10]
  unfold s6
  have k6 : zI v5 2 r 6 0 = 0 := by
    rw [F5.1 2 r 6 0 (by unfold SK SA; omega), F4.1 2 r 6 0 (by unfold SK SA; omega), F3.1 2 r 6 0 (by unfold SK SA; omega), F2.1 2 r 6 0 (by unfold SK SA; omega), F1.1 2 r 6 0 (by unfold SK SA; omega)]; exact h6
  obtain ⟨v6, F6, A6, B6, E6⟩ := c_cl (r := r) (h.fr G5) k6 A5 l5
  have G6 := G5.trans (F6.mono (SCl_SRd tp r))
  have l6 := (sCl_ok (tx := tx) (n := n) l5).1
  rw [E6, bd2_s]
  rcases e6 : sCl tx n i5 with ⟨i6, o6⟩
  rw [e6] at A6 B6 l6
  cases o6 with
  | none => rw [pb_n]; exact ⟨v6, G6, A6, fun t d q => (by cases q), rfl⟩
  | some c =>
  rw [pb_s, show bi ((i6, some c) : Nat × Option (Nat × (Nat → Int32))).2.isSome = 1 from rfl, if_neg n10]
  unfold s7
  have h6' := h.fr G6
  rw [lt_e, h6'.2.1, nn_s, c_end h6'.1 A6 l6, bd_s]
  by_cases z : sEnd tx n i6 = true
  · rw [if_pos z, z, bi_t, if_neg n10]
    refine ⟨v6, G6, A6, fun t' d q => ?_, rfl⟩
    cases q
    refine ⟨?_, ?_, ?_, ?_, ?_, (B6 c rfl).1, (B6 c rfl).2⟩
    · rw [F6.1 2 r 1 0 (by unfold SCl SA; omega), F5.1 2 r 1 0 (by unfold SK SA; omega), F4.1 2 r 1 0 (by unfold SK SA; omega), F3.1 2 r 1 0 (by unfold SK SA; omega), F2.1 2 r 1 0 (by unfold SK SA; omega)]
      exact B1 _ rfl
    · rw [F6.1 2 r 2 0 (by unfold SCl SA; omega), F5.1 2 r 2 0 (by unfold SK SA; omega)]
      exact k2
    · rw [F6.1 2 r 3 0 (by unfold SCl SA; omega), F5.1 2 r 3 0 (by unfold SK SA; omega), F4.1 2 r 3 0 (by unfold SK SA; omega)]
      exact B3 _ rfl
    · rw [F6.1 2 r 4 0 (by unfold SCl SA; omega), F5.1 2 r 4 0 (by unfold SK SA; omega)]
      exact B4 _ rfl
    · rw [F6.1 2 r 5 0 (by unfold SCl SA; omega)]
      exact B5 _ rfl
  · rw [if_neg z]
    simp only [Bool.not_eq_true] at z
    rw [z, bi_f, if_pos p00]
    exact ⟨v6, G6, A6, fun t d q => (by cases q), rfl⟩
end ZCS
