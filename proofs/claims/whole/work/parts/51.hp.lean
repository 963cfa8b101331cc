/-! PURE LAYER: heaps -/
def Rch (E : Nat → Nat → Prop) (a b : Nat) : Prop := ∀ S : Nat → Prop, S a → (∀ x y, S x → E x y → S y) → S b
theorem Rch.refl {E : Nat → Nat → Prop} (a : Nat) : Rch E a a := fun _ h _ => h
theorem Rch.tail {E : Nat → Nat → Prop} {a b c : Nat} (h : Rch E a b) (e : E b c) : Rch E a c := fun S h1 h2 => h2 b c (h S h1 h2) e
theorem Rch.trans {E : Nat → Nat → Prop} {a b c : Nat} (h : Rch E a b) (g : Rch E b c) : Rch E a c := fun S h1 h2 => g S (h S h1 h2) h2
theorem Rch.symm {E : Nat → Nat → Prop} (hE : ∀ x y, E x y → E y x) {a b : Nat} (h : Rch E a b) : Rch E b a := h (fun z => Rch E z a) (Rch.refl a) (fun x y hx he => ((Rch.refl y).tail (hE x y he)).trans hx)
theorem fnd_is {P : Nat → Bool} {u : Nat} (hu : P u = true) : ∀ k t, t ≤ u → u < t + k → (∀ v, t ≤ v → v < u → P v = false) → fnd P k t = some u
  | 0, t, h1, h2, _ => by omega
  | k + 1, t, h1, h2, h3 => by
    unfold fnd
    by_cases e : t = u
    · subst e; rw [if_pos hu]
    · rw [h3 t (Nat.le_refl _) (by omega), if_neg (by decide)]
      exact fnd_is hu k (t + 1) (by omega) (by omega) (fun v h4 h5 => h3 v (by omega) h5)
theorem l_lof (w : Wd) (x : Int32) : ∀ k n t, t + k = 24 → k < n → fX5_lowestOf_l2 w n x (nI t) = some (en (fnd (hb x) k t)) := by
  intro k
  induction k with
  | zero =>
    intro n t h1 h2
    obtain ⟨n, rfl⟩ : ∃ n', n = n' + 1 := ⟨n - 1, by omega⟩
    show fX5_lowestOf_b2 w (fX5_lowestOf_l2 w n) x (nI t) = _
    unfold fX5_lowestOf_b2
    rw [if_pos (show (24 : Int32) ≤ nI t from nI_le (a := 24) (by omega) (by omega))]
    rfl
  | succ k ih =>
    intro n t h1 h2
    obtain ⟨n, rfl⟩ : ∃ n', n = n' + 1 := ⟨n - 1, by omega⟩
    show fX5_lowestOf_b2 w (fX5_lowestOf_l2 w n) x (nI t) = _
    unfold fX5_lowestOf_b2 fnd
    rw [if_neg (show ¬ (24 : Int32) ≤ nI t from nI_ge (b := 24) (by omega) (by decide)), e_hasBit, bd_s, nI_1]
    cases hb x t with
    | true => rw [bi_t, if_neg (show ¬ (1 : Int32) = 0 by decide), if_pos rfl]; rfl
    | false =>
      rw [bi_f, if_pos rfl, if_neg (by decide)]
      exact ih n (t + 1) (by omega) (by omega)
theorem e_lof (w : Wd) (x : Int32) : fX5_lowestOf x w = some (en (fnd (hb x) 24 0)) := l_lof w x 24 1000 0 rfl (by decide)
theorem e_width (x : Int32) (w : Wd) : fX5_isHeapWidth x w = some (bi (inn x 25)) := by
  unfold fX5_isHeapWidth fX5_isHeapWidth_b14 fX5_isHeapWidth_b15
  rcases inn_cases (x := x) (N := 25) (by decide) with ⟨h, t, ht, rfl⟩ | ⟨h, h1⟩
  · rw [h, if_neg (show ¬ nI t < 0 from nI_pos (by omega)), if_neg (show ¬ (24 : Int32) < nI t from nI_nlt (a := 24) (by omega) (by decide))]
    rfl
  · rw [h]
    by_cases a : x < 0
    · rw [if_pos a]; rfl
    · rw [if_neg a, if_pos]
      · rfl
      · have := h1.resolve_left a
        rw [Int32.le_iff_toInt_le, nI_toInt (by decide)] at this
        rw [Int32.lt_iff_toInt_lt, show (24 : Int32).toInt = 24 by decide]
        omega
/-- two threads of the picture that are near -/
def Nea (w : Wd) (m p d t u : Nat) : Prop := t < 24 ∧ u < 24 ∧ mis w m p t = true ∧ mis w m p u = true ∧ dst w m (24 * p + t) (24 * p + u) ≤ d
theorem dst_sym (w : Wd) (m j k : Nat) : dst w m j k = dst w m k j := edd_sym _ _ _ _
theorem Nea.symm {w : Wd} {m p d t u : Nat} (h : Nea w m p d t u) : Nea w m p d u t := ⟨h.2.1, h.1, h.2.2.2.1, h.2.2.1, by rw [dst_sym]; exact h.2.2.2.2⟩
section ZHC
variable {w : Wd} {a m p d : Nat}
theorem e_cdist (t u : Nat) (ht : t < 24) (hu : u < 24) : fX1_distanceOf a (nI t) (nI u) w = some (zI w 1 a 5 (24 * t + u)) := by
  unfold fX1_distanceOf fX1_distanceOf_b29
  rw [e_isThread, e_isThread, inn_nI (by omega), inn_nI (by omega), decide_eq_true ht, decide_eq_true hu, bd_s, bi_t, if_neg (show ¬ (1 : Int32) = 0 by decide), bd_s, if_neg (show ¬ (1 : Int32) = 0 by decide), q24, pk_mul, nI_add, ckp_ix _ (by omega) (by decide), cl_nI (by omega), Nat.mul_comm t 24]
theorem dst_lt (w : Wd) (m j k : Nat) {nj nk : Nat} (hnj : nj ≤ 12) (hnk : nk ≤ 12) (ej : zI w 6 m 12 j = nI nj) (ek : zI w 6 m 12 k = nI nk) : dst w m j k ≤ 24 := by
  have := edd_le (mca w m j) (mca w m k) (mma w m j) (mma w m k)
  have e1 : mma w m j = nj := by unfold mma; rw [ej, cl_nI (by omega)]
  have e2 : mma w m k = nk := by unfold mma; rw [ek, cl_nI (by omega)]
  unfold dst
  omega
theorem l_nei (hR : PRows w a m p) (hD : PDst w a m p) (hd : d ≤ 24) (t : Nat) (ht : t < 24) (hi : mis w m p t = true) : ∀ k n u s, u + k = 24 → k < n → ∃ v, fX1_neighboursOf_l5 w n a (nI t) (nI d) s (nI u) = some v ∧ ∀ z, z < 32 → (hb v z = true ↔ hb s z = true ∨ (u ≤ z ∧ Nea w m p d t z)) := by
  intro k
  induction k with
  | zero =>
    intro n u s h1 h2
    obtain ⟨n, rfl⟩ : ∃ n', n = n' + 1 := ⟨n - 1, by omega⟩
    refine ⟨s, ?_, fun z hz => ?_⟩
    · show fX1_neighboursOf_b5 w (fX1_neighboursOf_l5 w n) a (nI t) (nI d) s (nI u) = _
      unfold fX1_neighboursOf_b5
      rw [if_pos (show (24 : Int32) ≤ nI u from nI_le (a := 24) (by omega) (by omega))]
    · constructor
      · exact Or.inl
      · rintro (h | ⟨h, h3⟩)
        · exact h
        · have := h3.2.1; omega
  | succ k ih =>
    intro n u s h1 h2
    obtain ⟨n, rfl⟩ : ∃ n', n = n' + 1 := ⟨n - 1, by omega⟩
    show ∃ v, fX1_neighboursOf_b5 w (fX1_neighboursOf_l5 w n) a (nI t) (nI d) s (nI u) = some v ∧ _
    unfold fX1_neighboursOf_b5 fX1_neighboursOf_b40
    rw [if_neg (show ¬ (24 : Int32) ≤ nI u from nI_ge (b := 24) (by omega) (by decide)), ckp_ix _ (by omega) (by decide), cl_nI (by omega), lt_e, nI_1]
    have skip : ¬ Nea w m p d t u → ∃ v, fX1_neighboursOf_l5 w n a (nI t) (nI d) s (nI (u + 1)) = some v ∧ ∀ z, z < 32 → (hb v z = true ↔ hb s z = true ∨ (u ≤ z ∧ Nea w m p d t z)) := by
      intro hno
      obtain ⟨v, e1, e2⟩ := ih n (u + 1) s (by omega) (by omega)
      refine ⟨v, e1, fun z hz => ?_⟩
      rw [e2 z hz]
      constructor
      · rintro (h | ⟨h, h3⟩)
        · exact Or.inl h
        · exact Or.inr ⟨by omega, h3⟩
      · rintro (h | ⟨h, h3⟩)
        · exact Or.inl h
        · by_cases q : z = u
          · subst q; exact absurd h3 hno
          · exact Or.inr ⟨by omega, h3⟩
    cases hu : mis w m p u with
    | false =>
      rw [hR.no (by omega) hu, oc_n]
      exact skip (fun q => by have := q.2.2.2.1; rw [hu] at this; cases this)
    | true =>
      obtain ⟨r, hr, -, hm⟩ := hR.row (by omega) hu
      obtain ⟨r', hr', -, hm'⟩ := hR.row ht hi
      obtain ⟨-, -, ⟨n1, hn1, en1⟩, -⟩ := hm
      obtain ⟨-, -, ⟨n2, hn2, en2⟩, -⟩ := hm'
      have hdl := dst_lt w m (24 * p + t) (24 * p + u) hn2 hn1 en2 en1
      rw [hr, oc_s, e_cdist t u ht (by omega), bd_s, hD t u ht (by omega) hi hu]
      by_cases e : dst w m (24 * p + t) (24 * p + u) ≤ d
      · rw [if_neg (by rw [i_lt (by omega) (by omega)]; omega)]
        obtain ⟨v, e1, e2⟩ := ih n (u + 1) (s ||| (1 <<< (nI u &&& 31))) (by omega) (by omega)
        refine ⟨v, e1, fun z hz => ?_⟩
        rw [e2 z hz, hb_set hz (by omega), Bool.or_eq_true, decide_eq_true_iff]
        constructor
        · rintro ((h | h) | ⟨h, h3⟩)
          · exact Or.inl h
          · subst h; exact Or.inr ⟨by omega, ht, by omega, hi, hu, e⟩
          · exact Or.inr ⟨by omega, h3⟩
        · rintro (h | ⟨h, h3⟩)
          · exact Or.inl (Or.inl h)
          · by_cases q : z = u
            · exact Or.inl (Or.inr q)
            · exact Or.inr ⟨by omega, h3⟩
      · rw [if_pos (by rw [i_lt (by omega) (by omega)]; omega)]
        exact skip (fun q => e q.2.2.2.2)
theorem e_nei (hR : PRows w a m p) (hD : PDst w a m p) (hd : d ≤ 24) (t : Nat) (ht : t < 24) (hi : mis w m p t = true) : ∃ v, fX1_neighboursOf a (nI t) (nI d) w = some v ∧ ∀ z, z < 32 → (hb v z = true ↔ Nea w m p d t z) := by
  obtain ⟨v, e1, e2⟩ := l_nei hR hD hd t ht hi 24 1000 0 0 rfl (by decide)
  refine ⟨v, e1, fun z hz => ?_⟩
  rw [e2 z hz, hb_zero hz]
  constructor
  · rintro (h | ⟨-, h⟩)
    · cases h
    · exact h
  · intro h; exact Or.inr ⟨Nat.zero_le _, h⟩
/-- what the search for a heap knows -/
def Hi (w : Wd) (m p d t : Nat) (x y : Int32) (c : Nat) : Prop := (∀ u, u < 32 → hb x u = true → u < 24 ∧ mis w m p u = true ∧ Rch (Nea w m p d) t u) ∧ (∀ u, u < 32 → hb y u = true → hb x u = true) ∧ (∀ u v, u < 32 → hb y u = true → Nea w m p d u v → hb x v = true) ∧ hb x t = true ∧ cntf (hb y) 24 0 0 = c
theorem Hi.done {t c : Nat} {x y : Int32} (ht : t < 24) (h : Hi w m p d t x y c) (hxy : ∀ u, u < 32 → hb x u = true → hb y u = true) : ∀ u, u < 32 → (hb x u = true ↔ u < 24 ∧ Rch (Nea w m p d) t u) := by
  intro u hu
  constructor
  · intro e; exact ⟨(h.1 u hu e).1, (h.1 u hu e).2.2⟩
  · intro ⟨h1, h2⟩
    have := h2 (fun z => z < 24 ∧ hb x z = true) ⟨ht, h.2.2.2.1⟩ (fun z v hz he => ⟨he.2.1, h.2.2.1 z v (by omega) (hxy z (by omega) hz.2) he⟩)
    exact this.2
theorem l_heap (hR : PRows w a m p) (hD : PDst w a m p) (hd : d ≤ 24) (t : Nat) (ht : t < 24) : ∀ k n c x y, c + k = 24 → k < n → Hi w m p d t x y c → ∃ v, fX1_heapOf_l10 w n a (nI d) x y (nI c) = some v ∧ ∀ u, u < 32 → (hb v u = true ↔ u < 24 ∧ Rch (Nea w m p d) t u) := by
  intro k
  induction k with
  | zero =>
    intro n c x y h1 h2 hH
    obtain ⟨n, rfl⟩ : ∃ n', n = n' + 1 := ⟨n - 1, by omega⟩
    refine ⟨x, ?_, hH.done ht (fun u hu hx => ?_)⟩
    · show fX1_heapOf_b10 w (fX1_heapOf_l10 w n) a (nI d) x y (nI c) = _
      unfold fX1_heapOf_b10 fX1_heapOf_b59
      rw [if_pos (show (24 : Int32) ≤ nI c from nI_le (a := 24) (by omega) (by omega))]
    · have h24 := (hH.1 u hu hx).1
      exact cntf_all 24 0 0 (by rw [hH.2.2.2.2]; omega) u (by omega) (by omega)
  | succ k ih =>
    intro n c x y h1 h2 hH
    obtain ⟨n, rfl⟩ : ∃ n', n = n' + 1 := ⟨n - 1, by omega⟩
    show ∃ v, fX1_heapOf_b10 w (fX1_heapOf_l10 w n) a (nI d) x y (nI c) = some v ∧ _
    unfold fX1_heapOf_b10 fX1_heapOf_b59
    rw [if_neg (show ¬ (24 : Int32) ≤ nI c from nI_ge (b := 24) (by omega) (by decide))]
    by_cases exy : x = y
    · rw [if_pos exy]
      exact ⟨x, rfl, hH.done ht (fun u hu hx => by rw [← exy]; exact hx)⟩
    · rw [if_neg exy, e_lof, bd_s]
      have hz : ∀ u, u < 32 → hb (x &&& (y ^^^ (-1))) u = (hb x u && !hb y u) := fun u hu => by rw [hb_and hu, hb_not hu]
      cases ef : fnd (hb (x &&& (y ^^^ (-1)))) 24 0 with
      | none =>
        exfalso
        apply exy
        apply hb_ext
        intro u hu
        cases ex : hb x u with
        | true =>
          have h24 := (hH.1 u hu ex).1
          have := fnd_no ef u (by omega) (by omega)
          rw [hz u hu, ex] at this
          cases ey : hb y u with
          | true => rfl
          | false => rw [ey] at this; cases this
        | false =>
          cases ey : hb y u with
          | true => have := hH.2.1 u hu ey; rw [ex] at this; cases this
          | false => rfl
      | some f =>
        have hf := fnd_lt ef
        have hf24 : f < 24 := by omega
        have hfp := hf.2.2
        rw [hz f (by omega), Bool.and_eq_true, Bool.not_eq_true'] at hfp
        have hfx := hH.1 f (by omega) hfp.1
        obtain ⟨v, ev, hv⟩ := e_nei hR hD hd f hf24 hfx.2.1
        rw [en_some, ev, bd_s, nI_1]
        refine ih n (c + 1) (x ||| v) (y ||| (1 <<< (nI f &&& 31))) (by omega) (by omega) ⟨?_, ?_, ?_, ?_, ?_⟩
        · intro u hu h
          rw [hb_or hu, Bool.or_eq_true] at h
          rcases h with h | h
          · exact hH.1 u hu h
          · have hn := (hv u hu).mp h
            exact ⟨hn.2.1, hn.2.2.2.1, hfx.2.2.tail hn⟩
        · intro u hu h
          rw [hb_set hu (by omega), Bool.or_eq_true, decide_eq_true_iff] at h
          rw [hb_or hu, Bool.or_eq_true]
          rcases h with h | h
          · exact Or.inl (hH.2.1 u hu h)
          · subst h; exact Or.inl hfp.1
        · intro u v' hu h he
          have hv24 : v' < 32 := by have := he.2.1; omega
          rw [hb_set hu (by omega), Bool.or_eq_true, decide_eq_true_iff] at h
          rw [hb_or hv24, Bool.or_eq_true]
          rcases h with h | h
          · exact Or.inl (hH.2.2.1 u v' hu h he)
          · subst h; exact Or.inr ((hv v' hv24).mpr he)
        · rw [hb_or (by omega), hH.2.2.2.1]; rfl
        · rw [cntf_cong (Q := fun u => hb y u || decide (u = f)) (fun u _ h => hb_set (by omega) (by omega) y)]
          have := cntf_one (P := hb y) (Q := fun u => hb y u || decide (u = f)) (v := f) hfp.2 (by simp) 24 0 0 (fun u hu => by simp [hu]) (by omega) (by omega)
          rw [this, hH.2.2.2.2]
theorem e_heap (hR : PRows w a m p) (hD : PDst w a m p) (hd : d ≤ 24) (t : Nat) (ht : t < 24) (hi : mis w m p t = true) : ∃ v, fX1_heapOf a (nI t) (nI d) w = some v ∧ ∀ u, u < 32 → (hb v u = true ↔ u < 24 ∧ Rch (Nea w m p d) t u) := by
  refine l_heap hR hD hd t ht 24 1000 0 (1 <<< (nI t &&& 31)) 0 rfl (by decide) ⟨?_, ?_, ?_, ?_, ?_⟩
  · intro u hu h
    rw [hb_one hu (by omega), decide_eq_true_iff] at h
    subst h
    exact ⟨ht, hi, Rch.refl u⟩
  · intro u hu h; rw [hb_zero hu] at h; cases h
  · intro u v hu h; rw [hb_zero hu] at h; cases h
  · rw [hb_one (by omega) (by omega)]; simp
  · exact cntf_no 24 0 0 (fun u _ h => hb_zero (by omega))
end ZHC
