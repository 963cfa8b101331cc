/-! PURE LAYER: all rows of a text, as the reference reads them -/
theorem lct_in {tx : Nat → Nat} {n : Nat} : ∀ k i j, j < lct tx n k i → inR tx n 97 122 (i + j) = true
  | 0, i, j, h => by simp [lct] at h
  | k + 1, i, j, h => by
    unfold lct at h
    by_cases c : inR tx n 97 122 i = true
    · rw [if_pos c] at h
      by_cases q : j = 0
      · rw [q]; exact c
      · have := lct_in (tx := tx) (n := n) k (i + 1) (j - 1) (by omega)
        rw [show i + 1 + (j - 1) = i + j by omega] at this
        exact this
    · rw [if_neg c] at h; omega
def RDca (d : RD) : Prop := ∀ j, j < dMn d → vp_nar .byte (dCa d j) = dCa d j
theorem byt (x : Nat) (h : x < 128) : vp_nar .byte (nI x) = nI x := by
  have : ∀ y, y < 128 → vp_nar .byte (nI y) = nI y := by decide +kernel
  exact this x h
theorem sRow_ca {tx : Nat → Nat} {n : Nat} {R : RS} {i t : Nat} {d : RD} (h : (sRow tx n R i).2 = some (t, d)) : RDca d := by
  obtain ⟨i1, t', e1, h1⟩ := pb_inv h
  obtain ⟨i2, st, e2, h2⟩ := pb_inv h1
  obtain ⟨i3, ct, e3, h3⟩ := pb_inv h2
  obtain ⟨i4, he, e4, h4⟩ := pb_inv h3
  obtain ⟨i5, wa, e5, h5⟩ := pb_inv h4
  obtain ⟨i6, c, e6, h6⟩ := pb_inv h5
  unfold s7 at h6
  by_cases z : sEnd tx n i6 = true
  · rw [if_pos z] at h6
    cases h6
    intro j hj
    have hj' : j < c.1 := hj
    show vp_nar .byte (c.2 j) = c.2 j
    unfold sCl at e6
    by_cases c1 : isC tx n 99 i5 = true
    · rw [if_pos c1] at e6
      by_cases c2 : lct tx n 12 (i5 + 1) = 0
      · rw [if_pos c2] at e6; cases e6
      · rw [if_neg c2] at e6
        cases e6
        have := inR_lt (lct_in 12 (i5 + 1) j hj')
        exact byt _ (by omega)
    · rw [if_neg c1] at e6
      cases e6
      exact absurd hj' (Nat.not_lt_zero _)
  · rw [if_neg z] at h6; cases h6
def S7 (m p : Nat) (c a k j : Nat) : Prop := c = 6 ∧ a = m ∧ ((7 ≤ k ∧ k ≤ 12 ∧ 24 * p ≤ j ∧ j < 24 * p + 24) ∨ (k = 13 ∧ 288 * p ≤ j ∧ j < 288 * p + 288))
def SMs (m p : Nat) (c a k j : Nat) : Prop := SMp m c a k j ∨ S7 m p c a k j
def S13 (m q : Nat) (c a k j : Nat) : Prop := c = 6 ∧ a = m ∧ k = 13 ∧ 12 * q ≤ j ∧ j < 12 * q + 12
section ZST
variable {w : Wd} {m p : Nat}
theorem l_sca {q mn : Nat} {ca : Nat → Int32} (hq : q < 192) (hmn : mn ≤ 12) (h23 : zI w 6 m 23 0 = nI mn) (h24 : ∀ j, j < mn → zI w 6 m 24 j = ca j) (hca : ∀ j, j < mn → vp_nar .byte (ca j) = ca j) : ∀ k fu i v, i + k = mn → k < fu → Fr (S13 m q) w v → (∀ j, j < i → zI v 6 m 13 (12 * q + j) = ca j) → ∃ v', Fr (S13 m q) w v' ∧ (∀ j, j < mn → zI v' 6 m 13 (12 * q + j) = ca j) ∧ fX6_stands_l69 fu m (nI q) (nI i) v = some v' := by
  intro k
  induction k with
  | zero =>
    intro fu i v h1 h2 hF hV
    obtain ⟨fu, rfl⟩ : ∃ f', fu = f' + 1 := ⟨fu - 1, by omega⟩
    refine ⟨v, hF, fun j hj => hV j (by omega), ?_⟩
    show fX6_stands_b69 (fX6_stands_l69 fu) m (nI q) (nI i) v = _
    unfold fX6_stands_b69
    rw [hF.1 6 m 23 0 (by unfold S13; omega), h23, if_pos (nI_le (by omega) (by omega))]
  | succ k ih =>
    intro fu i v h1 h2 hF hV
    obtain ⟨fu, rfl⟩ : ∃ f', fu = f' + 1 := ⟨fu - 1, by omega⟩
    show ∃ v', _ ∧ _ ∧ fX6_stands_b69 (fX6_stands_l69 fu) m (nI q) (nI i) v = _
    unfold fX6_stands_b69
    rw [hF.1 6 m 23 0 (by unfold S13; omega), h23, if_neg (nI_ge (by omega) (by omega)), ckp_ix _ (by omega) (by decide), q12, pk_mul, nI_add, ckp_ix _ (by omega) (by decide), cl_nI (by omega), cl_nI (by omega), hF.1 6 m 24 i (by unfold S13; omega), h24 i (by omega), hca i (by omega), lt_e, nI_1]
    refine ih fu (i + 1) _ (by omega) (by omega) (hF.set _ ⟨rfl, rfl, rfl, by omega, by omega⟩) (fun j hj => ?_)
    by_cases z : j = i
    · rw [z, zI_sIs]
    · rw [zI_sIn (by omega)]; exact hV j (by omega)
theorem m_stands {v : Wd} {t : Nat} {d : RD} {R : RS} (hp : p < 8) (ht : t < 24) (hM : MRw v m p R) (hok : ROK R) (hR : RowM v m t d) (hd : dMn d ≤ 12) (hca : RDca d) : ∃ v', Fr (S7 m p) v v' ∧ MRw v' m p (upR R t d) ∧ fX6_stands m (nI p) v = some v' := by
  obtain ⟨r18, r19, r20, r21, r22, r23, r24⟩ := hR
  have hq : 24 * p + t < 192 := by omega
  unfold fX6_stands
  rw [r18, i_24, ckp_ix _ hq (by decide), cl_nI (by omega), lt_e, ckp_ix _ hq (by decide), lt_e, ckp_ix _ hq (by decide), lt_e, ckp_ix _ hq (by decide), lt_e, ckp_ix _ hq (by decide), lt_e, ckp_ix _ hq (by decide), lt_e]
  have g : ∀ (u : Wd) (k j k' : Nat) (x : Int32), k ≠ k' → zI (sI u 6 m k' j x) 6 m k 0 = zI u 6 m k 0 := fun u k j k' x h => zI_sIn (by omega)
  rw [g _ 19 _ 7 _ (by decide), r19, g _ 20 _ 8 _ (by decide), g _ 20 _ 7 _ (by decide), r20, g _ 21 _ 9 _ (by decide), g _ 21 _ 8 _ (by decide), g _ 21 _ 7 _ (by decide), r21, g _ 22 _ 10 _ (by decide), g _ 22 _ 9 _ (by decide), g _ 22 _ 8 _ (by decide), g _ 22 _ 7 _ (by decide), r22, g _ 23 _ 11 _ (by decide), g _ 23 _ 10 _ (by decide), g _ 23 _ 9 _ (by decide), g _ 23 _ 8 _ (by decide), g _ 23 _ 7 _ (by decide), r23, show vp_nar .boolean 1 = 1 from rfl]
  generalize hu : sI (sI (sI (sI (sI (sI v 6 m 7 (24 * p + t) 1) 6 m 8 (24 * p + t) (nI d.1)) 6 m 9 (24 * p + t) (nI d.2.1)) 6 m 10 (24 * p + t) (dHe d)) 6 m 11 (24 * p + t) (dWa d)) 6 m 12 (24 * p + t) (nI (dMn d)) = u
  have Fu : Fr (S7 m p) v u := by
    subst hu
    exact (((((((Fr.refl v).set _ ⟨rfl, rfl, Or.inl (by omega)⟩).set _ ⟨rfl, rfl, Or.inl (by omega)⟩).set _ ⟨rfl, rfl, Or.inl (by omega)⟩).set _ ⟨rfl, rfl, Or.inl (by omega)⟩).set _ ⟨rfl, rfl, Or.inl (by omega)⟩).set _ ⟨rfl, rfl, Or.inl (by omega)⟩)
  have u7 : zI u 6 m 7 (24 * p + t) = 1 := by subst hu; rw [zI_sIn (by omega), zI_sIn (by omega), zI_sIn (by omega), zI_sIn (by omega), zI_sIn (by omega), zI_sIs]
  have u8 : zI u 6 m 8 (24 * p + t) = nI d.1 := by subst hu; rw [zI_sIn (by omega), zI_sIn (by omega), zI_sIn (by omega), zI_sIn (by omega), zI_sIs]
  have u9 : zI u 6 m 9 (24 * p + t) = nI d.2.1 := by subst hu; rw [zI_sIn (by omega), zI_sIn (by omega), zI_sIn (by omega), zI_sIs]
  have u10 : zI u 6 m 10 (24 * p + t) = dHe d := by subst hu; rw [zI_sIn (by omega), zI_sIn (by omega), zI_sIs]
  have u11 : zI u 6 m 11 (24 * p + t) = dWa d := by subst hu; rw [zI_sIn (by omega), zI_sIs]
  have u12 : zI u 6 m 12 (24 * p + t) = nI (dMn d) := by subst hu; rw [zI_sIs]
  have un : ∀ k q, q ≠ 24 * p + t → k ≤ 12 → zI u 6 m k q = zI v 6 m k q := fun k q hq hk => by subst hu; rw [zI_sIn (by omega), zI_sIn (by omega), zI_sIn (by omega), zI_sIn (by omega), zI_sIn (by omega), zI_sIn (by omega)]
  have u13 : ∀ q, zI u 6 m 13 q = zI v 6 m 13 q := fun q => by subst hu; rw [zI_sIn (by omega), zI_sIn (by omega), zI_sIn (by omega), zI_sIn (by omega), zI_sIn (by omega), zI_sIn (by omega)]
  have u23 : zI u 6 m 23 0 = nI (dMn d) := by rw [Fu.1 6 m 23 0 (by unfold S7; omega)]; exact r23
  have u24 : ∀ j, j < dMn d → zI u 6 m 24 j = dCa d j := fun j hj => by rw [Fu.1 6 m 24 j (by unfold S7; omega)]; exact r24 j hj
  obtain ⟨v', F, V, E⟩ := l_sca (w := u) hq hd u23 u24 hca (dMn d) 1000 0 u (by omega) (by omega) (Fr.refl u) (fun j hj => by omega)
  refine ⟨v', Fu.trans (F.mono (fun c a k j z => ⟨z.1, z.2.1, Or.inr ⟨z.2.2.1, by have := z.2.2.2; omega, by have := z.2.2.2; omega⟩⟩)), fun x hx => ?_, E⟩
  have f12 : ∀ k q, k ≤ 12 → zI v' 6 m k q = zI u 6 m k q := fun k q hk => F.1 6 m k q (by unfold S13; omega)
  by_cases z : x = t
  · subst z
    rw [upR_s]
    refine Or.inr ⟨d, rfl, ?_, ?_, ?_, ?_, ?_, ?_, V⟩
    · unfold mis; rw [f12 7 _ (by decide), u7]; rfl
    · rw [f12 8 _ (by decide), u8]
    · rw [f12 9 _ (by decide), u9]
    · rw [f12 10 _ (by decide), u10]
    · rw [f12 11 _ (by decide), u11]
    · rw [f12 12 _ (by decide), u12]
  · rw [upR_n z]
    have hne : 24 * p + x ≠ 24 * p + t := by omega
    have fx : ∀ k, k ≤ 12 → zI v' 6 m k (24 * p + x) = zI v 6 m k (24 * p + x) := fun k hk => (f12 k _ hk).trans (un k _ hne hk)
    unfold mis RowA mca
    rw [fx 7 (by decide), fx 8 (by decide), fx 9 (by decide), fx 10 (by decide), fx 11 (by decide), fx 12 (by decide)]
    rcases hM x hx with q | ⟨e, q1, q2, q3⟩
    · exact Or.inl q
    · refine Or.inr ⟨e, q1, q2, q3.1, q3.2.1, q3.2.2.1, q3.2.2.2.1, q3.2.2.2.2.1, fun j hj => ?_⟩
      have h12 := (hok x e q1).2.2.2.2
      rw [F.1 6 m 13 _ (by unfold S13; omega), u13]
      exact q3.2.2.2.2.2 j hj
end ZST
theorem TxM.frs {v v' : Wd} {m p : Nat} {tx : Nat → Nat} {n : Nat} (h : TxM v m tx n) (hF : Fr (SMs m p) v v') : TxM v' m tx n := by
  refine ⟨?_, h.2.1, h.2.2.1, fun j hj => ?_⟩
  · rw [hF.1 6 m 15 0 (by unfold SMs SMp S7; omega)]; exact h.1
  · rw [hF.1 6 m 0 j (by unfold SMs SMp S7; omega)]; exact h.2.2.2 j hj
section ZLR
variable {w : Wd} {m p : Nat} {tx : Nat → Nat} {n : Nat}
theorem l_mws (hT : TxM w m tx n) (hp : p < 8) : ∀ k fu i R v, cntf (pIs R) 24 0 0 + k = 25 → k + 1 < fu → Fr (SMs m p) w v → MRw v m p R → ROK R → zI v 6 m 16 0 = -1 → zI v 6 m 14 0 = nI i → i ≤ n → sEnd tx n i = true → ∃ v', Fr (SMs m p) w v' ∧ MRw v' m p (sRws tx n k i R).2 ∧ zI v' 6 m 16 0 = (sRws tx n k i R).1 ∧ fX6_picture_l172 fu m (nI p) v = fX6_picture_b212 m (nI p) v' := by
  have hn := hT.2.1
  intro k
  induction k with
  | zero =>
    intro fu i R v h1
    have := cntf_le (pIs R) 24 0 0
    omega
  | succ k ih =>
    intro fu i R v h1 h2 hF hM hok hd ha hi he
    obtain ⟨fu, rfl⟩ : ∃ f', fu = f' + 1 + 1 := ⟨fu - 2, by omega⟩
    have hv := hT.frs hF
    show ∃ v', _ ∧ _ ∧ _ ∧ fX6_picture_b172 (fX6_picture_l172 (fu + 1)) m (nI p) v = _
    unfold fX6_picture_b172 sRws
    rw [if_pos hd, hv.1, ha]
    by_cases e : i < n
    · have e59 : isC tx n 59 i = true := decide_eq_true ⟨e, (of_decide_eq_true he).resolve_left (by omega)⟩
      rw [if_neg (nI_ge e (by omega)), if_pos e59]
      obtain ⟨v2, F2, P2, E2⟩ := m_row hv hM hp hd ha (show i + 1 ≤ n by omega)
      have G2 := hF.trans (F2.mono (fun _ _ _ _ q => Or.inl q))
      have M2 := hM.fr F2
      rw [E2, bd_s]
      have hk := sRow_ok (tx := tx) (n := n) (R := R) (show i + 1 ≤ n by omega)
      rcases e3 : sRow tx n R (i + 1) with ⟨j, o⟩
      rw [e3] at P2 hk
      cases o with
      | none =>
        have hb : zI v2 6 m 16 0 = nI j := P2
        have hj : j ≤ n := hk.1
        have hb' : ¬ zI v2 6 m 16 0 = -1 := by rw [hb]; exact m1_ne (by omega)
        rw [if_neg hb']
        refine ⟨v2, G2, M2, hb, ?_⟩
        show fX6_picture_b172 (fX6_picture_l172 fu) m (nI p) v2 = _
        unfold fX6_picture_b172
        rw [if_neg hb']
      | some q =>
        obtain ⟨t, d⟩ := q
        obtain ⟨b1, b2, b3⟩ := P2
        obtain ⟨k1, k2, k3, k4, k5⟩ := hk.2 t d rfl
        obtain ⟨v3, F3, M3, E3⟩ := m_stands hp k1 M2 hok b3 k3.2.2.2 (sRow_ca (tx := tx) (n := n) (R := R) (i := i + 1) (t := t) (by rw [e3]))
        rw [if_pos b1, E3, bd_s]
        have hcnt : cntf (pIs (upR R t d)) 24 0 0 = cntf (pIs R) 24 0 0 + 1 := cntf_one (v := t) (pIs_0 k2) (pIs_s R t d) 24 0 0 (fun u hu => (pIs_n hu).symm) (by omega) (by omega)
        exact ih (fu + 1) j (upR R t d) v3 (by omega) (by omega) (G2.trans (F3.mono (fun _ _ _ _ q => Or.inr q))) M3 (ROK_up hok k1 k3) (by rw [F3.1 6 m 16 0 (by unfold S7; omega)]; exact b1) (by rw [F3.1 6 m 14 0 (by unfold S7; omega)]; exact b2) hk.1 k5
    · rw [if_pos (nI_le (by omega) (by omega)), if_neg (show ¬ isC tx n 59 i = true from fun z => e (isC_lt z).1)]
      exact ⟨v, hF, hM, hd, rfl⟩
end ZLR
