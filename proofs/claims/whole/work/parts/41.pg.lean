/-! PURE LAYER: who waits for whom -/
def en : Option Nat → Int32
  | none => -1
  | some t => nI t
def fnd (P : Nat → Bool) : Nat → Nat → Option Nat
  | 0, _ => none
  | k + 1, t => if P t then some t else fnd P k (t + 1)
theorem fnd_lt {P : Nat → Bool} : ∀ {k t u : Nat}, fnd P k t = some u → t ≤ u ∧ u < t + k ∧ P u = true
  | 0, _, _, h => by cases h
  | k + 1, t, u, h => by
    unfold fnd at h
    by_cases e : P t = true
    · rw [if_pos e] at h; cases h; exact ⟨Nat.le_refl _, by omega, e⟩
    · rw [if_neg e] at h
      have := fnd_lt h
      exact ⟨by omega, by omega, this.2.2⟩
theorem fnd_no {P : Nat → Bool} : ∀ {k t : Nat}, fnd P k t = none → ∀ u, t ≤ u → u < t + k → P u = false
  | 0, t, _, u, h1, h2 => by omega
  | k + 1, t, h, u, h1, h2 => by
    unfold fnd at h
    by_cases e : P t = true
    · rw [if_pos e] at h; cases h
    · rw [if_neg e] at h
      by_cases q : u = t
      · subst q; simpa using e
      · exact fnd_no h u (by omega) (by omega)
theorem fnd_cong {P Q : Nat → Bool} : ∀ {k t : Nat}, (∀ u, t ≤ u → u < t + k → P u = Q u) → fnd P k t = fnd Q k t
  | 0, _, _ => rfl
  | k + 1, t, h => by
    unfold fnd
    rw [h t (Nat.le_refl _) (by omega), fnd_cong (fun u h1 h2 => h u (by omega) (by omega))]
def hb (x : Int32) (l : Nat) : Bool := decide (¬ ((x >>> (nI l &&& 31)) &&& 1) = 0)
theorem and1 (y : Int32) : (y &&& 1 = 0 ∧ ¬ y &&& 1 = 1) ∨ (y &&& 1 = 1 ∧ ¬ y &&& 1 = 0) := by
  have h := pk_and y (m := 1) 1 (by decide)
  rw [h]
  have h2 : y.toBitVec.toNat % 2 ^ 1 = 0 ∨ y.toBitVec.toNat % 2 ^ 1 = 1 := by omega
  rcases h2 with h2 | h2 <;> rw [h2]
  · exact Or.inl (by decide)
  · exact Or.inr (by decide)
theorem hb_1 (x : Int32) (l : Nat) : (((x >>> (nI l &&& 31)) &&& 1) = 1) = (hb x l = true) := by
  unfold hb
  rcases and1 (x >>> (nI l &&& 31)) with ⟨a, b⟩ | ⟨a, b⟩
  · simp [a]
  · simp [a]
theorem hb_0 (x : Int32) (l : Nat) : (((x >>> (nI l &&& 31)) &&& 1) = 0) = (hb x l = false) := by
  unfold hb
  simp
theorem e_hasBit (x : Int32) (l : Nat) (w : Wd) : fX5_hasBit x (nI l) w = some (bi (hb x l)) := by
  unfold fX5_hasBit fX5_hasBit_b13
  by_cases h : ((x >>> (nI l &&& 31)) &&& 1) = 0
  · rw [if_pos h, show hb x l = false by rw [← hb_0]; exact h]; rfl
  · rw [if_neg h, show hb x l = true by unfold hb; exact decide_eq_true h]; rfl
theorem e_holds (a l : Nat) (w : Wd) : fX2_holds a (nI l) w = some (bi (hb (zI w 2 a 4 0) l)) := by
  unfold fX2_holds
  rw [e_hasBit, bd_s, ckp_bi]
theorem e_isWaiting (a : Nat) (w : Wd) : fX2_isWaiting a w = some (bi (!decide (zI w 2 a 5 0 = -1))) := by
  unfold fX2_isWaiting fX2_isWaiting_b13
  by_cases h : zI w 2 a 5 0 = -1
  · rw [if_pos h]; simp only [h]; rfl
  · rw [if_neg h]; simp only [h]; rfl
/-! the reference's picture p, as functions of the thread -/
def mis (w : Wd) (m p t : Nat) : Bool := !decide (zI w 6 m 7 (24 * p + t) = 0)
def mhe (w : Wd) (m p t : Nat) : Int32 := zI w 6 m 10 (24 * p + t)
def mwa (w : Wd) (m p t : Nat) : Int32 := zI w 6 m 11 (24 * p + t)
def sHol (is : Nat → Bool) (he : Nat → Int32) (l : Nat) : Option Nat := fnd (fun t => is t && hb (he t) l) 24 0
def sNx (is : Nat → Bool) (he wa : Nat → Int32) (t : Nat) : Option Nat := if wa t = -1 then none else sHol is he (wa t).toNatClampNeg
theorem sHol_lt {is : Nat → Bool} {he : Nat → Int32} {l u : Nat} (h : sHol is he l = some u) : u < 24 ∧ is u = true ∧ hb (he u) l = true := by
  have := fnd_lt h
  have h2 := this.2.2
  simp only [Bool.and_eq_true] at h2
  exact ⟨by omega, h2⟩
theorem sNx_lt {is : Nat → Bool} {he wa : Nat → Int32} {t u : Nat} (h : sNx is he wa t = some u) : u < 24 ∧ is u = true := by
  unfold sNx at h
  by_cases e : wa t = -1
  · rw [if_pos e] at h; cases h
  · rw [if_neg e] at h; exact ⟨(sHol_lt h).1, (sHol_lt h).2.1⟩
theorem l_mholder (w : Wd) (m p l : Nat) (hp : p < 8) : ∀ k n t, t + k = 24 → k < n → fX6_holderOf_l2 w n m (nI p) (nI l) (nI t) = some (en (fnd (fun t => mis w m p t && hb (mhe w m p t) l) k t)) := by
  intro k
  induction k with
  | zero =>
    intro n t h1 h2
    obtain ⟨n, rfl⟩ : ∃ n', n = n' + 1 := ⟨n - 1, by omega⟩
    show fX6_holderOf_b2 w (fX6_holderOf_l2 w n) m (nI p) (nI l) (nI t) = _
    unfold fX6_holderOf_b2
    rw [if_pos (show (24 : Int32) ≤ nI t from nI_le (a := 24) (by omega) (by omega))]
    rfl
  | succ k ih =>
    intro n t h1 h2
    obtain ⟨n, rfl⟩ : ∃ n', n = n' + 1 := ⟨n - 1, by omega⟩
    show fX6_holderOf_b2 w (fX6_holderOf_l2 w n) m (nI p) (nI l) (nI t) = _
    unfold fX6_holderOf_b2 fX6_holderOf_b43
    rw [if_neg (show ¬ (24 : Int32) ≤ nI t from nI_ge (b := 24) (by omega) (by decide)), i_24, ckp_ix _ (by omega) (by decide), cl_nI (by omega), nI_1]
    have ih' := ih n (t + 1) (by omega) (by omega)
    unfold fnd
    by_cases e : zI w 6 m 7 (24 * p + t) = 0
    · rw [if_pos e, ih', if_neg (by simp [mis, e])]
    · rw [if_neg e, ckp_ix _ (by omega) (by decide)]
      by_cases e2 : hb (mhe w m p t) l = true
      · rw [if_pos (by rw [hb_1]; exact e2), if_pos (by simp [mis, e, e2])]; rfl
      · rw [if_neg (by rw [hb_1]; exact e2), ih', if_neg (by simp [e2])]
theorem e_mholder (w : Wd) (m p l : Nat) (hp : p < 8) : fX6_holderOf m (nI p) (nI l) w = some (en (sHol (mis w m p) (mhe w m p) l)) := l_mholder w m p l hp 24 1000 0 rfl (by decide)
/-- what a row of the reference may hold -/
def wok (x : Int32) : Prop := x = -1 ∨ ∃ l, l < 16 ∧ x = nI l
theorem e_mnext (w : Wd) (m p t : Nat) (hp : p < 8) (ht : t < 24) (hw : wok (mwa w m p t)) : fX6_next m (nI p) (nI t) w = some (en (sNx (mis w m p) (mhe w m p) (mwa w m p) t)) := by
  unfold fX6_next fX6_next_b35 sNx
  rw [i_24, ckp_ix _ (by omega) (by decide), cl_nI (by omega)]
  rcases hw with e | ⟨l, hl, e⟩
  · have e' : zI w 6 m 11 (24 * p + t) = -1 := e
    rw [if_pos e', if_pos e]; rfl
  · have e' : zI w 6 m 11 (24 * p + t) = nI l := e
    rw [e, e', if_neg (m1_ne (by omega)), if_neg (m1_ne (by omega)), ckp_ix _ (by omega) (by decide), e_mholder w m p l hp, bd_s, cl_nI (by omega)]
/-! counting -/
def cntf (P : Nat → Bool) : Nat → Nat → Nat → Nat
  | 0, _, c => c
  | k + 1, t, c => cntf P k (t + 1) (if P t = true then c + 1 else c)
theorem cntf_cong {P Q : Nat → Bool} : ∀ {k t c : Nat}, (∀ u, t ≤ u → u < t + k → P u = Q u) → cntf P k t c = cntf Q k t c
  | 0, _, _, _ => rfl
  | k + 1, t, c, h => by
    unfold cntf
    rw [h t (Nat.le_refl _) (by omega), cntf_cong (fun u h1 h2 => h u (by omega) (by omega))]
/-! rings -/
def srz (nx : Nat → Option Nat) (t : Nat) : Nat → Nat → Nat → Nat
  | 0, _, _ => 0
  | k + 1, sz, u => match nx u with
    | none => 0
    | some v => if v = t then sz else if v < t then 0 else srz nx t k (sz + 1) v
theorem en_some (t : Nat) : en (some t) = nI t := rfl
theorem en_none : en none = -1 := rfl
theorem en_m1 {o : Option Nat} (h : ∀ u, o = some u → u < 24) : (en o = -1) = (o = none) := by
  cases o with
  | none => simp [en]
  | some u => have := h u rfl; rw [en_some, i_eqm1 (by omega)]; simp
section ZRG
variable {w : Wd} {a : Nat} {nx : Nat → Option Nat}
theorem l_size (hA : ∀ t, t < 24 → fX1_awaitedBy a (nI t) w = some (en (nx t))) (hn : ∀ t u, nx t = some u → u < 24) (t : Nat) (ht : t < 24) : ∀ k n sz u, sz + k = 25 → k < n → u < 24 → fX1_sizeOfRingFrom_l4 w n a (nI t) (nI u) (nI sz) = some (nI (srz nx t k sz u)) := by
  intro k
  induction k with
  | zero =>
    intro n sz u h1 h2 hu
    obtain ⟨n, rfl⟩ : ∃ n', n = n' + 1 := ⟨n - 1, by omega⟩
    show fX1_sizeOfRingFrom_b4 w (fX1_sizeOfRingFrom_l4 w n) a (nI t) (nI u) (nI sz) = _
    unfold fX1_sizeOfRingFrom_b4
    rw [if_pos (show (24 : Int32) < nI sz from nI_lt (a := 24) (by omega) (by omega))]
    rfl
  | succ k ih =>
    intro n sz u h1 h2 hu
    obtain ⟨n, rfl⟩ : ∃ n', n = n' + 1 := ⟨n - 1, by omega⟩
    show fX1_sizeOfRingFrom_b4 w (fX1_sizeOfRingFrom_l4 w n) a (nI t) (nI u) (nI sz) = _
    unfold fX1_sizeOfRingFrom_b4 srz
    rw [if_neg (show ¬ (24 : Int32) < nI sz from nI_nlt (a := 24) (by omega) (by decide)), hA u hu, bd_s]
    cases e : nx u with
    | none =>
      show (if (-1 : Int32) = nI t then _ else _) = _
      rw [if_neg (fun h => m1_ne (by omega) h.symm), if_neg (by show ¬ nI t ≤ -1; rw [nI_le_m1 (by omega)]; exact id)]
      rfl
    | some v =>
      have hv := hn u v e
      show (if nI v = nI t then some (nI sz) else if nI t ≤ nI v then fX1_sizeOfRingFrom_l4 w n a (nI t) (nI v) (nI sz + 1) else some 0) = some (nI (if v = t then sz else if v < t then 0 else srz nx t k (sz + 1) v))
      by_cases e1 : v = t
      · rw [if_pos (by rw [e1]), if_pos e1]
      · rw [if_neg (by rw [i_eq (by omega) (by omega)]; exact e1), if_neg e1]
        by_cases e2 : v < t
        · rw [if_neg (by rw [i_le (by omega) (by omega)]; omega), if_pos e2]; rfl
        · rw [if_pos (by rw [i_le (by omega) (by omega)]; omega), if_neg e2, nI_1]
          exact ih n (sz + 1) v (by omega) (by omega) hv
theorem e_size (hA : ∀ t, t < 24 → fX1_awaitedBy a (nI t) w = some (en (nx t))) (hn : ∀ t u, nx t = some u → u < 24) (t : Nat) (ht : t < 24) : fX1_sizeOfRingFrom a (nI t) w = some (nI (srz nx t 24 1 t)) := l_size hA hn t ht 24 1000 1 t rfl (by decide) ht
theorem l_crings (f : Nat → Nat) (hs : ∀ t, t < 24 → fX1_sizeOfRingFrom a (nI t) w = some (nI (f t))) (hf : ∀ t, t < 24 → f t ≤ 24) : ∀ k n c t, t + k = 24 → k < n → c + k ≤ 100 → fX1_countRings_l4 w n a (nI c) (nI t) = some (nI (cntf (fun t => decide (0 < f t)) k t c)) := by
  intro k
  induction k with
  | zero =>
    intro n c t h1 h2 h3
    obtain ⟨n, rfl⟩ : ∃ n', n = n' + 1 := ⟨n - 1, by omega⟩
    show fX1_countRings_b4 w (fX1_countRings_l4 w n) a (nI c) (nI t) = _
    unfold fX1_countRings_b4
    rw [if_pos (show (24 : Int32) ≤ nI t from nI_le (a := 24) (by omega) (by omega))]
    rfl
  | succ k ih =>
    intro n c t h1 h2 h3
    obtain ⟨n, rfl⟩ : ∃ n', n = n' + 1 := ⟨n - 1, by omega⟩
    show fX1_countRings_b4 w (fX1_countRings_l4 w n) a (nI c) (nI t) = _
    unfold fX1_countRings_b4 fX1_countRings_b21
    have h24 := hf t (by omega)
    rw [if_neg (show ¬ (24 : Int32) ≤ nI t from nI_ge (b := 24) (by omega) (by decide)), hs t (by omega), bd_s, nI_1, nI_1]
    show _ = some (nI (cntf _ k (t + 1) (if decide (0 < f t) = true then c + 1 else c)))
    by_cases e : 0 < f t
    · rw [if_neg (show ¬ nI (f t) ≤ (0 : Int32) from nI_ge (a := 0) (by omega) (by omega)), if_pos (decide_eq_true e)]
      exact ih n (c + 1) (t + 1) (by omega) (by omega) (by omega)
    · rw [if_pos (show nI (f t) ≤ (0 : Int32) from nI_le (b := 0) (by omega) (by decide)), if_neg (by simpa using e)]
      exact ih n c (t + 1) (by omega) (by omega) (by omega)
end ZRG
/-! the reference's rings -/
def sbk (nx : Nat → Option Nat) (t : Nat) : Nat → Nat → Nat → Nat
  | 0, _, _ => 0
  | k + 1, sz, u => match nx u with
    | none => 0
    | some v => if v = t then sz else sbk nx t k (sz + 1) v
def slw (nx : Nat → Option Nat) (t : Nat) : Nat → Nat → Bool
  | 0, _ => true
  | k + 1, u => match nx u with
    | none => false
    | some v => if t ≤ v then slw nx t k v else false
theorem sbk_ge (nx : Nat → Option Nat) (t : Nat) : ∀ k sz u, 0 < sbk nx t k sz u → sz ≤ sbk nx t k sz u ∧ sbk nx t k sz u < sz + k
  | 0, sz, u, h => by simp [sbk] at h
  | k + 1, sz, u, h => by
    unfold sbk at h ⊢
    cases e : nx u with
    | none => rw [e] at h; exact absurd h (Nat.lt_irrefl 0)
    | some v =>
      rw [e] at h
      dsimp only at h ⊢
      by_cases e1 : v = t
      · rw [if_pos e1]; omega
      · rw [if_neg e1] at h ⊢
        have := sbk_ge nx t k (sz + 1) v h
        omega
theorem srz_eq (nx : Nat → Option Nat) (t : Nat) : ∀ k sz u, 0 < sz → srz nx t k sz u = if 0 < sbk nx t k sz u ∧ slw nx t (sbk nx t k sz u - sz) u = true then sbk nx t k sz u else 0
  | 0, sz, u, h => by simp [srz, sbk]
  | k + 1, sz, u, h => by
    unfold srz
    cases e : nx u with
    | none =>
      have : sbk nx t (k + 1) sz u = 0 := by unfold sbk; rw [e]
      rw [this]; simp
    | some v =>
      dsimp only
      have hb : sbk nx t (k + 1) sz u = if v = t then sz else sbk nx t k (sz + 1) v := by
        show (match nx u with | none => 0 | some v => if v = t then sz else sbk nx t k (sz + 1) v) = _
        rw [e]
      by_cases e1 : v = t
      · rw [if_pos e1, hb, if_pos e1, Nat.sub_self, if_pos ⟨h, rfl⟩]
      · rw [if_neg e1, hb, if_neg e1]
        by_cases e0 : 0 < sbk nx t k (sz + 1) v
        · have hg := sbk_ge nx t k (sz + 1) v e0
          obtain ⟨d, hd⟩ : ∃ d, sbk nx t k (sz + 1) v - sz = d + 1 := ⟨sbk nx t k (sz + 1) v - sz - 1, by omega⟩
          rw [hd]
          have hs : slw nx t (d + 1) u = if t ≤ v then slw nx t d v else false := by
            show (match nx u with | none => false | some v => if t ≤ v then slw nx t d v else false) = _
            rw [e]
          rw [hs]
          by_cases e2 : v < t
          · rw [if_pos e2, if_neg (by omega : ¬ t ≤ v)]; simp
          · rw [if_neg e2, if_pos (by omega : t ≤ v), srz_eq nx t k (sz + 1) v (by omega), show sbk nx t k (sz + 1) v - (sz + 1) = d by omega]
        · by_cases e2 : v < t
          · rw [if_pos e2]; simp [e0]
          · rw [if_neg e2, srz_eq nx t k (sz + 1) v (by omega)]; simp [e0]
section ZRM
variable {w : Wd} {m p : Nat} {is : Nat → Bool} {nx : Nat → Option Nat}
theorem l_back (hN : ∀ t, t < 24 → is t = true → fX6_next m (nI p) (nI t) w = some (en (nx t))) (hn : ∀ t u, nx t = some u → u < 24 ∧ is u = true) (t : Nat) (ht : t < 24) : ∀ k n sz u, sz + k = 25 → k < n → u < 24 → is u = true → fX6_back_l5 w n m (nI p) (nI t) (nI u) (nI sz) = some (nI (sbk nx t k sz u)) := by
  intro k
  induction k with
  | zero =>
    intro n sz u h1 h2 hu hi
    obtain ⟨n, rfl⟩ : ∃ n', n = n' + 1 := ⟨n - 1, by omega⟩
    show fX6_back_b5 w (fX6_back_l5 w n) m (nI p) (nI t) (nI u) (nI sz) = _
    unfold fX6_back_b5
    rw [if_pos (show (24 : Int32) < nI sz from nI_lt (a := 24) (by omega) (by omega))]
    rfl
  | succ k ih =>
    intro n sz u h1 h2 hu hi
    obtain ⟨n, rfl⟩ : ∃ n', n = n' + 1 := ⟨n - 1, by omega⟩
    show fX6_back_b5 w (fX6_back_l5 w n) m (nI p) (nI t) (nI u) (nI sz) = _
    unfold fX6_back_b5 sbk
    rw [if_neg (show ¬ (24 : Int32) < nI sz from nI_nlt (a := 24) (by omega) (by decide)), hN u hu hi, bd_s]
    cases e : nx u with
    | none => rfl
    | some v =>
      have hv := hn u v e
      show (if nI v = -1 then some 0 else if nI v = nI t then some (nI sz) else fX6_back_l5 w n m (nI p) (nI t) (nI v) (nI sz + 1)) = some (nI (if v = t then sz else sbk nx t k (sz + 1) v))
      rw [if_neg (m1_ne (by omega))]
      by_cases e1 : v = t
      · rw [if_pos (by rw [e1]), if_pos e1]
      · rw [if_neg (by rw [i_eq (by omega) (by omega)]; exact e1), if_neg e1, nI_1]
        exact ih n (sz + 1) v (by omega) (by omega) hv.1 hv.2
theorem e_back (hN : ∀ t, t < 24 → is t = true → fX6_next m (nI p) (nI t) w = some (en (nx t))) (hn : ∀ t u, nx t = some u → u < 24 ∧ is u = true) (t : Nat) (ht : t < 24) (hi : is t = true) : fX6_back m (nI p) (nI t) w = some (nI (sbk nx t 24 1 t)) := l_back hN hn t ht 24 1000 1 t rfl (by decide) ht hi
theorem l_lowest (hN : ∀ t, t < 24 → is t = true → fX6_next m (nI p) (nI t) w = some (en (nx t))) (hn : ∀ t u, nx t = some u → u < 24 ∧ is u = true) (t N : Nat) (ht : t < 24) (hN24 : 0 < N ∧ N ≤ 24) : ∀ k n i u, i + k = N → k < n → u < 24 → is u = true → fX6_isLowest_l13 w n m (nI p) (nI t) (nI N) (nI u) (nI i) = some (bi (slw nx t k u)) := by
  intro k
  induction k with
  | zero =>
    intro n i u h1 h2 hu hi
    obtain ⟨n, rfl⟩ : ∃ n', n = n' + 1 := ⟨n - 1, by omega⟩
    show fX6_isLowest_b13 w (fX6_isLowest_l13 w n) m (nI p) (nI t) (nI N) (nI u) (nI i) = _
    unfold fX6_isLowest_b13
    rw [if_pos (by rw [i_le (by omega) (by omega)]; omega), if_neg (show ¬ nI N ≤ (0 : Int32) from nI_ge (a := 0) (by omega) (by omega))]
    rfl
  | succ k ih =>
    intro n i u h1 h2 hu hi
    obtain ⟨n, rfl⟩ : ∃ n', n = n' + 1 := ⟨n - 1, by omega⟩
    show fX6_isLowest_b13 w (fX6_isLowest_l13 w n) m (nI p) (nI t) (nI N) (nI u) (nI i) = _
    unfold fX6_isLowest_b13 slw
    rw [if_neg (by rw [i_le (by omega) (by omega)]; omega), hN u hu hi, bd_s]
    cases e : nx u with
    | none =>
      show (if nI t ≤ -1 then _ else _) = _
      rw [if_neg (by rw [nI_le_m1 (by omega)]; exact id)]
      rfl
    | some v =>
      have hv := hn u v e
      show (if nI t ≤ nI v then fX6_isLowest_l13 w n m (nI p) (nI t) (nI N) (nI v) (nI i + 1) else _) = some (bi (if t ≤ v then slw nx t k v else false))
      by_cases e1 : t ≤ v
      · rw [if_pos (by rw [i_le (by omega) (by omega)]; exact e1), if_pos e1, nI_1]
        exact ih n (i + 1) v (by omega) (by omega) hv.1 hv.2
      · rw [if_neg (by rw [i_le (by omega) (by omega)]; exact e1), if_neg e1]
        rfl
theorem e_lowest (hN : ∀ t, t < 24 → is t = true → fX6_next m (nI p) (nI t) w = some (en (nx t))) (hn : ∀ t u, nx t = some u → u < 24 ∧ is u = true) (t : Nat) (ht : t < 24) (hi : is t = true) : fX6_isLowest m (nI p) (nI t) w = some (bi (decide (0 < srz nx t 24 1 t))) := by
  unfold fX6_isLowest
  rw [e_back hN hn t ht hi, bd_s, srz_eq nx t 24 1 t (by decide)]
  by_cases e : 0 < sbk nx t 24 1 t
  · have hg := sbk_ge nx t 24 1 t e
    have := l_lowest hN hn t (sbk nx t 24 1 t) ht ⟨e, by omega⟩ (sbk nx t 24 1 t - 1) 1000 1 t (by omega) (by omega) ht hi
    rw [show (1 : Int32) = nI 1 from rfl, this]
    by_cases e2 : slw nx t (sbk nx t 24 1 t - 1) t = true
    · rw [e2, if_pos ⟨e, rfl⟩, decide_eq_true e]
    · rw [if_neg (fun q => e2 q.2)]
      simp at e2
      rw [e2]; rfl
  · have h0 : sbk nx t 24 1 t = 0 := by omega
    rw [h0]
    show fX6_isLowest_b13 w (fX6_isLowest_l13 w 999) m (nI p) (nI t) (nI 0) (nI t) (nI 1) = _
    rfl
end ZRM
