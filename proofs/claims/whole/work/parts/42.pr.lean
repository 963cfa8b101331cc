/-! PURE LAYER: rings, ring, foot: loops of both sides -/
theorem en_lt0 : ∀ (r : Int32) (c : Nat), r < 0 → c < 1000 → ¬ nI c = r := by
  intro r c hr hc e
  rw [← e, Int32.lt_iff_toInt_lt, nI_toInt (by omega)] at hr
  have : (0 : Int32).toInt = 0 := by decide
  omega
theorem srz_none {nx : Nat → Option Nat} {t : Nat} (h : nx t = none) : srz nx t 24 1 t = 0 := by
  unfold srz
  rw [h]
theorem srz_le (nx : Nat → Option Nat) (t : Nat) : srz nx t 24 1 t ≤ 24 := by
  rw [srz_eq nx t 24 1 t (by decide)]
  split
  · rename_i h
    have := sbk_ge nx t 24 1 t h.1
    omega
  · omega
def itn (nx : Nat → Option Nat) : Nat → Option Nat → Option Nat
  | 0, o => o
  | k + 1, o => itn nx k (o.bind nx)
theorem itn_none (nx : Nat → Option Nat) : ∀ k, itn nx k none = none
  | 0 => rfl
  | k + 1 => itn_none nx k
def sft (nx : Nat → Option Nat) : Nat → Nat → Int32
  | 0, _ => -1
  | k + 1, u => match nx u with
    | none => nI u
    | some v => sft nx k v
/-- the place of the c-th one -/
def rgs (f : Nat → Nat) (G : Nat → Int32) (r : Int32) : Nat → Nat → Nat → Int32
  | 0, _, _ => -1
  | k + 1, t, c => if 0 < f t then (if nI c = r then G t else rgs f G r k (t + 1) (c + 1)) else rgs f G r k (t + 1) c
theorem rgs_neg {f : Nat → Nat} {G : Nat → Int32} {r : Int32} (hr : r < 0) : ∀ k t c, c + k < 1000 → rgs f G r k t c = -1
  | 0, _, _, _ => rfl
  | k + 1, t, c, h => by
    unfold rgs
    rw [if_neg (en_lt0 r c hr (by omega)), rgs_neg hr k (t + 1) (c + 1) (by omega), rgs_neg hr k (t + 1) c (by omega)]
    simp
theorem rgs_cong {f : Nat → Nat} {G G' : Nat → Int32} {r : Int32} : ∀ {k t c : Nat}, (∀ u, t ≤ u → u < t + k → 0 < f u → G u = G' u) → rgs f G r k t c = rgs f G' r k t c
  | 0, _, _, _ => rfl
  | k + 1, t, c, h => by
    unfold rgs
    by_cases e : 0 < f t
    · rw [if_pos e, if_pos e, h t (Nat.le_refl _) (by omega) e, rgs_cong (fun u h1 h2 => h u (by omega) (by omega))]
    · rw [if_neg e, if_neg e, rgs_cong (fun u h1 h2 => h u (by omega) (by omega))]
section ZC1
variable {w : Wd} {a : Nat} {nx : Nat → Option Nat}
theorem e_aw1 (a : Nat) (w : Wd) : fX1_awaitedBy a (-1) w = some (-1) := by
  unfold fX1_awaitedBy fX1_awaitedBy_b22
  rw [e_rowOf]
  rfl
theorem e_awo (hA : ∀ t, t < 24 → fX1_awaitedBy a (nI t) w = some (en (nx t))) {o : Option Nat} (ho : ∀ u, o = some u → u < 24) : fX1_awaitedBy a (en o) w = some (en (o.bind nx)) := by
  cases o with
  | none => exact e_aw1 a w
  | some u => exact hA u (ho u rfl)
theorem l_walk (hA : ∀ t, t < 24 → fX1_awaitedBy a (nI t) w = some (en (nx t))) (hn : ∀ t u, nx t = some u → u < 24) (N : Nat) (hN : N ≤ 24) : ∀ k n i o, i + k = N → k < n → (∀ u, o = some u → u < 24) → fX1_walkFrom_l5 w n a (nI N) (en o) (nI i) = some (en (itn nx k o)) := by
  intro k
  induction k with
  | zero =>
    intro n i o h1 h2 ho
    obtain ⟨n, rfl⟩ : ∃ n', n = n' + 1 := ⟨n - 1, by omega⟩
    show fX1_walkFrom_b5 w (fX1_walkFrom_l5 w n) a (nI N) (en o) (nI i) = _
    unfold fX1_walkFrom_b5
    rw [if_pos (by rw [i_le (by omega) (by omega)]; omega)]
    rfl
  | succ k ih =>
    intro n i o h1 h2 ho
    obtain ⟨n, rfl⟩ : ∃ n', n = n' + 1 := ⟨n - 1, by omega⟩
    show fX1_walkFrom_b5 w (fX1_walkFrom_l5 w n) a (nI N) (en o) (nI i) = _
    unfold fX1_walkFrom_b5
    rw [if_neg (by rw [i_le (by omega) (by omega)]; omega), e_awo hA ho, bd_s, nI_1]
    refine ih n (i + 1) (o.bind nx) (by omega) (by omega) (fun u hu => ?_)
    cases o with
    | none => cases hu
    | some v => exact hn v u hu
theorem l_tring (hA : ∀ t, t < 24 → fX1_awaitedBy a (nI t) w = some (en (nx t))) (hn : ∀ t u, nx t = some u → u < 24) (r i : Int32) : ∀ k n c t, t + k = 24 → k < n → c + k ≤ 100 → fX1_threadOfRing_l5 w n a r i (nI c) (nI t) = some (rgs (fun t => srz nx t 24 1 t) (fun t => if inn i (srz nx t 24 1 t) then en (itn nx i.toNatClampNeg (some t)) else -1) r k t c) := by
  intro k
  induction k with
  | zero =>
    intro n c t h1 h2 h3
    obtain ⟨n, rfl⟩ : ∃ n', n = n' + 1 := ⟨n - 1, by omega⟩
    show fX1_threadOfRing_b5 w (fX1_threadOfRing_l5 w n) a r i (nI c) (nI t) = _
    unfold fX1_threadOfRing_b5
    rw [if_pos (show (24 : Int32) ≤ nI t from nI_le (a := 24) (by omega) (by omega))]
    rfl
  | succ k ih =>
    intro n c t h1 h2 h3
    obtain ⟨n, rfl⟩ : ∃ n', n = n' + 1 := ⟨n - 1, by omega⟩
    show fX1_threadOfRing_b5 w (fX1_threadOfRing_l5 w n) a r i (nI c) (nI t) = _
    unfold fX1_threadOfRing_b5 fX1_threadOfRing_b55 fX1_threadOfRing_b40 fX1_threadOfRing_b51 rgs
    have hle := srz_le nx t
    rw [if_neg (show ¬ (24 : Int32) ≤ nI t from nI_ge (b := 24) (by omega) (by decide)), e_size hA hn t (by omega), bd_s, nI_1, nI_1]
    by_cases e : 0 < srz nx t 24 1 t
    · rw [if_neg (show ¬ nI (srz nx t 24 1 t) ≤ (0 : Int32) from nI_ge (a := 0) (by omega) (by omega)), if_pos e]
      by_cases er : nI c = r
      · rw [if_pos er, if_pos er]
        rcases inn_cases (x := i) (N := srz nx t 24 1 t) (by omega) with ⟨h, j, hj, rfl⟩ | ⟨h, h4⟩
        · rw [if_neg (show ¬ nI j < (0 : Int32) from nI_pos (by omega)), if_pos (by rw [i_lt (by omega) (by omega)]; exact hj), if_pos h, cl_nI (by omega)]
          have := l_walk hA hn j (by omega) j 1000 0 (some t) (by omega) (by omega) (fun u hu => by cases hu; omega)
          show bd (fX1_walkFrom_l5 w 1000 a (nI j) (nI t) 0) _ = _
          rw [show (0 : Int32) = nI 0 from rfl, show nI t = en (some t) from rfl, this, bd_s]
        · rw [h]
          by_cases e2 : i < 0
          · rw [if_pos e2]; rfl
          · rw [if_neg e2, if_neg (i_nlt (h4.resolve_left e2))]; rfl
      · rw [if_neg er, if_neg er]
        exact ih n (c + 1) (t + 1) (by omega) (by omega) (by omega)
    · rw [if_pos (show nI (srz nx t 24 1 t) ≤ (0 : Int32) from nI_le (b := 0) (by omega) (by decide)), if_neg e]
      exact ih n c (t + 1) (by omega) (by omega) (by omega)
theorem l_cfoot (hA : ∀ t, t < 24 → fX1_awaitedBy a (nI t) w = some (en (nx t))) (hn : ∀ t u, nx t = some u → u < 24) : ∀ k n i u, i + k = 24 → k < n → u < 24 → fX1_footOf_l24 w n a (nI u) (nI i) = some (sft nx k u) := by
  intro k
  induction k with
  | zero =>
    intro n i u h1 h2 hu
    obtain ⟨n, rfl⟩ : ∃ n', n = n' + 1 := ⟨n - 1, by omega⟩
    show fX1_footOf_b24 w (fX1_footOf_l24 w n) a (nI u) (nI i) = _
    unfold fX1_footOf_b24
    rw [if_pos (show (24 : Int32) ≤ nI i from nI_le (a := 24) (by omega) (by omega))]
    rfl
  | succ k ih =>
    intro n i u h1 h2 hu
    obtain ⟨n, rfl⟩ : ∃ n', n = n' + 1 := ⟨n - 1, by omega⟩
    show fX1_footOf_b24 w (fX1_footOf_l24 w n) a (nI u) (nI i) = _
    unfold fX1_footOf_b24 sft
    rw [if_neg (show ¬ (24 : Int32) ≤ nI i from nI_ge (b := 24) (by omega) (by decide)), hA u hu, bd_s]
    cases e : nx u with
    | none => rfl
    | some v =>
      have hv := hn u v e
      show (if nI v = -1 then some (nI u) else fX1_footOf_l24 w n a (nI v) (nI i + 1)) = some (sft nx k v)
      rw [if_neg (m1_ne (by omega)), nI_1]
      exact ih n (i + 1) v (by omega) (by omega) hv
end ZC1
section ZM1
variable {w : Wd} {m p : Nat} {is : Nat → Bool} {nx : Nat → Option Nat}
theorem l_after (hN : ∀ t, t < 24 → is t = true → fX6_next m (nI p) (nI t) w = some (en (nx t))) (hn : ∀ t u, nx t = some u → u < 24 ∧ is u = true) (N : Nat) (hN24 : N ≤ 24) : ∀ k n i o, i + k = N → k < n → (∀ u, o = some u → u < 24 ∧ is u = true) → fX6_after_l6 w n m (nI p) (nI N) (en o) (nI i) = some (en (itn nx k o)) := by
  intro k
  induction k with
  | zero =>
    intro n i o h1 h2 ho
    obtain ⟨n, rfl⟩ : ∃ n', n = n' + 1 := ⟨n - 1, by omega⟩
    show fX6_after_b6 w (fX6_after_l6 w n) m (nI p) (nI N) (en o) (nI i) = _
    unfold fX6_after_b6
    rw [if_pos (by rw [i_le (by omega) (by omega)]; omega)]
    rfl
  | succ k ih =>
    intro n i o h1 h2 ho
    obtain ⟨n, rfl⟩ : ∃ n', n = n' + 1 := ⟨n - 1, by omega⟩
    show fX6_after_b6 w (fX6_after_l6 w n) m (nI p) (nI N) (en o) (nI i) = _
    unfold fX6_after_b6
    rw [if_neg (by rw [i_le (by omega) (by omega)]; omega)]
    cases o with
    | none => rw [itn_none]; rfl
    | some u =>
      have hu := ho u rfl
      rw [if_neg (show ¬ en (some u) = -1 from m1_ne (by omega)), show en (some u) = nI u from rfl, hN u hu.1 hu.2, bd_s, nI_1]
      exact ih n (i + 1) (nx u) (by omega) (by omega) (fun v hv => hn u v hv)
theorem sft_of (nx : Nat → Option Nat) : ∀ k u, itn nx k (some u) ≠ none → sft nx k u = -1
  | 0, _, _ => rfl
  | k + 1, u, h => by
    unfold sft
    have h' : itn nx k (nx u) ≠ none := h
    cases e : nx u with
    | none => rw [e, itn_none] at h'; exact absurd rfl h'
    | some v => rw [e] at h'; exact sft_of nx k v h'
theorem l_mfoot (hN : ∀ t, t < 24 → is t = true → fX6_next m (nI p) (nI t) w = some (en (nx t))) (hn : ∀ t u, nx t = some u → u < 24 ∧ is u = true) : ∀ k n u, k ≤ n → 0 < k → u < 24 → is u = true → itn nx k (some u) = none → fX6_foot_l40 w n m (nI p) (nI u) = some (sft nx k u) := by
  intro k
  induction k with
  | zero => intro n u h1 h0; omega
  | succ k ih =>
    intro n u h1 h0 hu hi hit
    obtain ⟨n, rfl⟩ : ∃ n', n = n' + 1 := ⟨n - 1, by omega⟩
    show fX6_foot_b40 w (fX6_foot_l40 w n) m (nI p) (nI u) = _
    unfold fX6_foot_b40 sft
    rw [hN u hu hi, bd_s]
    have hit' : itn nx k (nx u) = none := hit
    cases e : nx u with
    | none => rfl
    | some v =>
      have hv := hn u v e
      rw [e] at hit'
      show (if nI v = -1 then some (nI u) else fX6_foot_l40 w n m (nI p) (nI v)) = some (sft nx k v)
      rw [if_neg (m1_ne (by omega))]
      have hk : 0 < k := by
        rcases Nat.eq_zero_or_pos k with q | q
        · subst q; cases hit'
        · exact q
      exact ih n v (by omega) hk hv.1 hv.2 hit'
theorem l_mrings (hz : ∀ t, t < 24 → is t = !decide (zI w 6 m 7 (24 * p + t) = 0)) (hp : p < 8) (f : Nat → Nat) (hs : ∀ t, t < 24 → is t = true → fX6_isLowest m (nI p) (nI t) w = some (bi (decide (0 < f t)))) : ∀ k n c t, t + k = 24 → k < n → c + k ≤ 100 → fX6_rings_l14 w n m (nI p) (nI c) (nI t) = some (nI (cntf (fun t => is t && decide (0 < f t)) k t c)) := by
  intro k
  induction k with
  | zero =>
    intro n c t h1 h2 h3
    obtain ⟨n, rfl⟩ : ∃ n', n = n' + 1 := ⟨n - 1, by omega⟩
    show fX6_rings_b14 w (fX6_rings_l14 w n) m (nI p) (nI c) (nI t) = _
    unfold fX6_rings_b14
    rw [if_pos (show (24 : Int32) ≤ nI t from nI_le (a := 24) (by omega) (by omega))]
    rfl
  | succ k ih =>
    intro n c t h1 h2 h3
    obtain ⟨n, rfl⟩ : ∃ n', n = n' + 1 := ⟨n - 1, by omega⟩
    show fX6_rings_b14 w (fX6_rings_l14 w n) m (nI p) (nI c) (nI t) = _
    unfold fX6_rings_b14 fX6_rings_b48 fX6_rings_b49
    rw [if_neg (show ¬ (24 : Int32) ≤ nI t from nI_ge (b := 24) (by omega) (by decide)), i_24, ckp_ix _ (by omega) (by decide), cl_nI (by omega), nI_1, show nI c + 0 = nI c from nI_add c 0, nI_1]
    have hz' := hz t (by omega)
    show _ = some (nI (cntf _ k (t + 1) (if (is t && decide (0 < f t)) = true then c + 1 else c)))
    by_cases e : zI w 6 m 7 (24 * p + t) = 0
    · have hi : is t = false := by rw [hz']; simp [e]
      rw [if_pos e, hi]
      exact ih n c (t + 1) (by omega) (by omega) (by omega)
    · have hi : is t = true := by rw [hz']; simp [e]
      rw [if_neg e, hs t (by omega) hi, bd_s, hi]
      by_cases e2 : 0 < f t
      · rw [decide_eq_true e2]
        exact ih n (c + 1) (t + 1) (by omega) (by omega) (by omega)
      · rw [decide_eq_false e2]
        exact ih n c (t + 1) (by omega) (by omega) (by omega)
theorem l_mring (hz : ∀ t, t < 24 → is t = !decide (zI w 6 m 7 (24 * p + t) = 0)) (hp : p < 8) (hN : ∀ t, t < 24 → is t = true → fX6_next m (nI p) (nI t) w = some (en (nx t))) (hn : ∀ t u, nx t = some u → u < 24 ∧ is u = true) (hno : ∀ t, is t = false → nx t = none) (r i : Int32) (hi0 : ¬ i < 0) : ∀ k n c t, t + k = 24 → k < n → c + k ≤ 100 → fX6_ring_l24 w n m (nI p) r i (nI c) (nI t) = some (rgs (fun t => srz nx t 24 1 t) (fun t => if inn i (srz nx t 24 1 t) then en (itn nx i.toNatClampNeg (some t)) else -1) r k t c) := by
  intro k
  induction k with
  | zero =>
    intro n c t h1 h2 h3
    obtain ⟨n, rfl⟩ : ∃ n', n = n' + 1 := ⟨n - 1, by omega⟩
    show fX6_ring_b24 w (fX6_ring_l24 w n) m (nI p) r i (nI c) (nI t) = _
    unfold fX6_ring_b24
    rw [if_pos (show (24 : Int32) ≤ nI t from nI_le (a := 24) (by omega) (by omega))]
    rfl
  | succ k ih =>
    intro n c t h1 h2 h3
    obtain ⟨n, rfl⟩ : ∃ n', n = n' + 1 := ⟨n - 1, by omega⟩
    show fX6_ring_b24 w (fX6_ring_l24 w n) m (nI p) r i (nI c) (nI t) = _
    unfold fX6_ring_b24 fX6_ring_b92 fX6_ring_b88 rgs
    have hle := srz_le nx t
    rw [if_neg (show ¬ (24 : Int32) ≤ nI t from nI_ge (b := 24) (by omega) (by decide)), i_24, ckp_ix _ (by omega) (by decide), cl_nI (by omega), nI_1, nI_1]
    have hz' := hz t (by omega)
    by_cases e : zI w 6 m 7 (24 * p + t) = 0
    · have hi : is t = false := by rw [hz']; simp [e]
      rw [if_pos e, srz_none (hno t hi), if_neg (Nat.lt_irrefl 0)]
      exact ih n c (t + 1) (by omega) (by omega) (by omega)
    · have hi : is t = true := by rw [hz']; simp [e]
      rw [if_neg e, e_lowest hN hn t (by omega) hi, bd_s]
      by_cases e2 : 0 < srz nx t 24 1 t
      · rw [decide_eq_true e2, bi_t, if_neg (by decide), if_pos e2]
        by_cases er : nI c = r
        · have hbk : sbk nx t 24 1 t = srz nx t 24 1 t := by
            have h5 := srz_eq nx t 24 1 t (by decide)
            by_cases q : 0 < sbk nx t 24 1 t ∧ slw nx t (sbk nx t 24 1 t - 1) t = true
            · rw [if_pos q] at h5; exact h5.symm
            · rw [if_neg q] at h5; omega
          rw [if_pos er, if_pos er, e_back hN hn t (by omega) hi, bd_s, hbk]
          rcases inn_cases (x := i) (N := srz nx t 24 1 t) (by omega) with ⟨h, j, hj, rfl⟩ | ⟨h, h4⟩
          · rw [if_neg (by rw [i_le (by omega) (by omega)]; omega), if_pos h, cl_nI (by omega)]
            have := l_after hN hn j (by omega) j 1000 0 (some t) (by omega) (by omega) (fun u hu => by cases hu; exact ⟨by omega, hi⟩)
            show bd (fX6_after_l6 w 1000 m (nI p) (nI j) (nI t) 0) _ = _
            rw [show (0 : Int32) = nI 0 from rfl, show nI t = en (some t) from rfl, this, bd_s]
          · rw [h, if_pos (h4.resolve_left hi0)]; rfl
        · rw [if_neg er, if_neg er]
          exact ih n (c + 1) (t + 1) (by omega) (by omega) (by omega)
      · rw [decide_eq_false e2, bi_f, if_pos rfl, if_neg e2]
        exact ih n c (t + 1) (by omega) (by omega) (by omega)
end ZM1
