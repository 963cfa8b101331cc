/-! PURE LAYER: what may change; the reference's distance -/
def Fr (S : Nat → Nat → Nat → Nat → Prop) (w w' : Wd) : Prop := (∀ c a k j, ¬ S c a k j → zI w' c a k j = zI w c a k j) ∧ zR w' = zR w ∧ zL w' = zL w ∧ zS w' = zS w
theorem Fr.refl {S : Nat → Nat → Nat → Nat → Prop} (w : Wd) : Fr S w w := ⟨fun _ _ _ _ _ => rfl, rfl, rfl, rfl⟩
theorem Fr.trans {S : Nat → Nat → Nat → Nat → Prop} {u v w : Wd} (h : Fr S u v) (g : Fr S v w) : Fr S u w := ⟨fun c a k j n => (g.1 c a k j n).trans (h.1 c a k j n), g.2.1.trans h.2.1, g.2.2.1.trans h.2.2.1, g.2.2.2.trans h.2.2.2⟩
theorem Fr.set {S : Nat → Nat → Nat → Nat → Prop} {u v : Wd} (h : Fr S u v) {c a k j : Nat} (x : Int32) (hS : S c a k j) : Fr S u (sI v c a k j x) := by
  refine h.trans ⟨fun c' a' k' j' n => ?_, rfl, rfl, rfl⟩
  rw [zI_sI, if_neg]
  intro ⟨h1, h2, h3, h4⟩
  subst h1 h2 h3 h4
  exact n hS
theorem Fr.mono {S T : Nat → Nat → Nat → Nat → Prop} {u v : Wd} (h : Fr S u v) (hST : ∀ c a k j, S c a k j → T c a k j) : Fr T u v := ⟨fun c a k j n => h.1 c a k j (fun q => n (hST c a k j q)), h.2⟩
theorem zI_sIs (w : Wd) (c a k j : Nat) (v : Int32) : zI (sI w c a k j v) c a k j = v := by rw [zI_sI, if_pos ⟨rfl, rfl, rfl, rfl⟩]
theorem zI_sIn {w : Wd} {c a k j c' a' k' j' : Nat} {v : Int32} (h : ¬ (c' = c ∧ a' = a ∧ k' = k ∧ j' = j)) : zI (sI w c a k j v) c' a' k' j' = zI w c' a' k' j' := by rw [zI_sI, if_neg h]
/-! the edit distance -/
theorem edd_le (f g : Nat → Int32) : ∀ i j, edd f g i j ≤ i + j
  | 0, j => by rw [edd]; omega
  | i + 1, 0 => by rw [edd]; omega
  | i + 1, j + 1 => by
    rw [edd]
    have h1 := edd_le f g i (j + 1)
    omega
termination_by i j => i + j
theorem edd_sym (f g : Nat → Int32) : ∀ i j, edd f g i j = edd g f j i
  | 0, 0 => by rw [edd, edd]
  | 0, j + 1 => by rw [edd, edd]
  | i + 1, 0 => by rw [edd, edd]
  | i + 1, j + 1 => by
    have e : (if f i = g j then 0 else 1) = (if g j = f i then 0 else 1) := by
      by_cases q : f i = g j
      · rw [if_pos q, if_pos q.symm]
      · rw [if_neg q, if_neg (fun z => q z.symm)]
    rw [edd, edd, edd_sym f g i j, edd_sym f g i (j + 1), edd_sym f g (i + 1) j, e, Nat.min_comm (edd g f (j + 1) i)]
termination_by i j => i + j
theorem edd_self (f : Nat → Int32) : ∀ i, edd f f i i = 0
  | 0 => by rw [edd]
  | i + 1 => by rw [edd, edd_self f i, if_pos rfl, Nat.zero_add, Nat.zero_min]
theorem edd_cong {f g f' g' : Nat → Int32} : ∀ i j, (∀ u, u < i → f u = f' u) → (∀ u, u < j → g u = g' u) → edd f g i j = edd f' g' i j
  | 0, j, _, _ => by rw [edd, edd]
  | i + 1, 0, _, _ => by rw [edd, edd]
  | i + 1, j + 1, h1, h2 => by
    rw [edd, edd, edd_cong i j (fun u h => h1 u (by omega)) (fun u h => h2 u (by omega)), edd_cong i (j + 1) (fun u h => h1 u (by omega)) h2, edd_cong (i + 1) j h1 (fun u h => h2 u (by omega)), h1 i (by omega), h2 j (by omega)]
termination_by i j => i + j
theorem e_least (a b : Nat) (ha : a < 1000) (hb : b < 1000) (w : Wd) : fX6_least (nI a) (nI b) w = some (nI (min a b)) := by
  unfold fX6_least fX6_least_b10
  by_cases e : b ≤ a
  · rw [if_pos (by rw [i_le (by omega) (by omega)]; exact e), Nat.min_eq_right e]
  · rw [if_neg (by rw [i_le (by omega) (by omega)]; exact e), Nat.min_eq_left (by omega)]
def S29 (m : Nat) (c a k _ : Nat) : Prop := c = 6 ∧ a = m ∧ k = 29
def Cst (m : Nat) (f g : Nat → Int32) (nk : Nat) (v : Wd) (i b : Nat) : Prop := ∀ i' b', b' ≤ nk → (i' < i ∨ (i' = i ∧ b' < b)) → zI v 6 m 29 (13 * i' + b') = nI (edd f g i' b')
section ZDI
variable {w : Wd} {m j k nj nk : Nat}
theorem l_mdi (hj : j < 192) (hk : k < 192) (hnj : nj ≤ 12) (hnk : nk ≤ 12) (ek : zI w 6 m 12 k = nI nk) (i : Nat) (hi : i ≤ nj) (rec2 : Nat → Int32 → Int32 → Int32 → Wd → Option (Int32 × Wd)) : ∀ q n b v, b + q = nk + 1 → q < n → Fr (S29 m) w v → Cst m (mca w m j) (mca w m k) nk v i b → ∃ v', Fr (S29 m) w v' ∧ Cst m (mca w m j) (mca w m k) nk v' (i + 1) 0 ∧ fX6_distanceOf_l15 rec2 n m (nI j) (nI k) (nI i) (nI b) v = rec2 m (nI j) (nI k) (nI (i + 1)) v' := by
  intro q
  induction q with
  | zero =>
    intro n b v h1 h2 hF hC
    obtain ⟨n, rfl⟩ : ∃ n', n = n' + 1 := ⟨n - 1, by omega⟩
    refine ⟨v, hF, ?_, ?_⟩
    · intro i' b' h3 h4
      exact hC i' b' h3 (by omega)
    · show fX6_distanceOf_b15 rec2 (fX6_distanceOf_l15 rec2 n) m (nI j) (nI k) (nI i) (nI b) v = _
      unfold fX6_distanceOf_b15
      rw [ckp_ix _ hk (by decide), cl_nI (by omega), hF.1 6 m 12 k (by unfold S29; omega), ek, if_pos (by rw [i_lt (by omega) (by omega)]; omega), nI_1]
  | succ q ih =>
    intro n b v h1 h2 hF hC
    obtain ⟨n, rfl⟩ : ∃ n', n = n' + 1 := ⟨n - 1, by omega⟩
    have key : ∀ y, y = edd (mca w m j) (mca w m k) i b → ∃ v', Fr (S29 m) w v' ∧ Cst m (mca w m j) (mca w m k) nk v' (i + 1) 0 ∧ fX6_distanceOf_b141 rec2 (fX6_distanceOf_l15 rec2 n) m (nI j) (nI k) (nI i) (nI b) (nI y) v = rec2 m (nI j) (nI k) (nI (i + 1)) v' := by
      intro y hy
      have hF' : Fr (S29 m) w (sI v 6 m 29 (13 * i + b) (nI y)) := hF.set _ ⟨rfl, rfl, rfl⟩
      obtain ⟨v', g1, g2, g3⟩ := ih n (b + 1) (sI v 6 m 29 (13 * i + b) (nI y)) (by omega) (by omega) hF' (by
        intro i' b' h3 h4
        rw [zI_sI]
        by_cases e : 13 * i' + b' = 13 * i + b
        · have e1 : i' = i := by omega
          have e2 : b' = b := by omega
          subst e1 e2
          rw [if_pos ⟨rfl, rfl, rfl, rfl⟩, hy]
        · rw [if_neg (fun z => e z.2.2.2)]
          have : ¬ (i' = i ∧ b' = b) := fun z => e (by rw [z.1, z.2])
          exact hC i' b' h3 (by omega))
      refine ⟨v', g1, g2, ?_⟩
      unfold fX6_distanceOf_b141
      rw [show (13 : Int32) = nI 13 from rfl, pk_mul, nI_add, ckp_ix _ (by omega) (by decide), cl_nI (by omega), lt_e, nI_1]
      exact g3
    show ∃ v', _ ∧ _ ∧ fX6_distanceOf_b15 rec2 (fX6_distanceOf_l15 rec2 n) m (nI j) (nI k) (nI i) (nI b) v = _
    unfold fX6_distanceOf_b15 fX6_distanceOf_b36
    rw [ckp_ix _ hk (by decide), cl_nI (by omega), hF.1 6 m 12 k (by unfold S29; omega), ek, if_neg (by rw [i_lt (by omega) (by omega)]; omega)]
    cases i with
    | zero =>
      rw [if_pos (show nI 0 = 0 from rfl), if_pos (show nI 0 ≤ 0 by decide)]
      exact key b (by rw [edd])
    | succ i =>
      rw [if_neg (show ¬ nI (i + 1) = 0 from nI_ne0 (by omega) (by omega)), if_neg (show ¬ nI (i + 1) ≤ 0 from nI_nle (by omega) (by omega))]
      cases b with
      | zero =>
        rw [if_pos (show nI 0 ≤ 0 by decide)]
        exact key (i + 1) (by rw [edd])
      | succ b =>
        have e1 : 12 * nI j + nI (i + 1) - 1 = nI (12 * j + i) := by
          rw [q12, pk_mul, nI_add, nI_s1 (by omega)]; congr 1
        have e2 : 12 * nI k + nI (b + 1) - 1 = nI (12 * k + b) := by
          rw [q12, pk_mul, nI_add, nI_s1 (by omega)]; congr 1
        have e3 : 13 * (nI (i + 1) - 1) + nI (b + 1) - 1 = nI (13 * i + b) := by
          rw [show (13 : Int32) = nI 13 from rfl, nI_s1 (by omega), pk_mul, nI_add, nI_s1 (by omega)]; congr 1
        have e4 : 13 * (nI (i + 1) - 1) + nI (b + 1) = nI (13 * i + (b + 1)) := by
          rw [show (13 : Int32) = nI 13 from rfl, nI_s1 (by omega), pk_mul, nI_add]; congr 1
        have e5 : 13 * nI (i + 1) + nI (b + 1) - 1 = nI (13 * (i + 1) + b) := by
          rw [show (13 : Int32) = nI 13 from rfl, pk_mul, nI_add, nI_s1 (by omega)]; congr 1
        have b1 := edd_le (mca w m j) (mca w m k) i b
        have b2 := edd_le (mca w m j) (mca w m k) i (b + 1)
        have b3 := edd_le (mca w m j) (mca w m k) (i + 1) b
        have c1 := hC i b (by omega) (by omega)
        have c2 := hC i (b + 1) (by omega) (by omega)
        have c3 := hC (i + 1) b (by omega) (by omega)
        rw [if_neg (show ¬ nI (b + 1) ≤ 0 from nI_nle (by omega) (by omega)), e1, e2, ckp_ix _ (by omega) (by decide), ckp_ix _ (by omega) (by decide), cl_nI (by omega), cl_nI (by omega), hF.1 6 m 13 _ (by unfold S29; omega), hF.1 6 m 13 _ (by unfold S29; omega)]
        have fin : ∀ s, s ≤ 1 → edd (mca w m j) (mca w m k) (i + 1) (b + 1) = min (edd (mca w m j) (mca w m k) i b + s) (1 + min (edd (mca w m j) (mca w m k) i (b + 1)) (edd (mca w m j) (mca w m k) (i + 1) b)) → ∃ v', Fr (S29 m) w v' ∧ Cst m (mca w m j) (mca w m k) nk v' (i + 1 + 1) 0 ∧ fX6_distanceOf_b82 rec2 (fX6_distanceOf_l15 rec2 n) m (nI j) (nI k) (nI (i + 1)) (nI (b + 1)) (nI s) v = rec2 m (nI j) (nI k) (nI (i + 1 + 1)) v' := by
          intro s hs es
          obtain ⟨v', g1, g2, g3⟩ := key _ es.symm
          refine ⟨v', g1, g2, ?_⟩
          unfold fX6_distanceOf_b82
          rw [e3, e4, e5, ckp_ix _ (by omega) (by decide), ckp_ix _ (by omega) (by decide), ckp_ix _ (by omega) (by decide), cl_nI (by omega), cl_nI (by omega), cl_nI (by omega), c1, c2, c3, e_least _ _ (by omega) (by omega), bd_s, nI_add, q1, nI_add, e_least _ _ (by omega) (by omega), bd_s]
          exact g3
        by_cases es : zI w 6 m 13 (12 * j + i) = zI w 6 m 13 (12 * k + b)
        · rw [if_pos es]
          exact fin 0 (by omega) (by rw [edd, if_pos (show mca w m j i = mca w m k b from es)])
        · rw [if_neg es]
          exact fin 1 (by omega) (by rw [edd, if_neg (show ¬ mca w m j i = mca w m k b from es)])
theorem l_mdo (hj : j < 192) (hk : k < 192) (hnj : nj ≤ 12) (hnk : nk ≤ 12) (ej : zI w 6 m 12 j = nI nj) (ek : zI w 6 m 12 k = nI nk) : ∀ q n i v, i + q = nj + 1 → q < n → Fr (S29 m) w v → Cst m (mca w m j) (mca w m k) nk v i 0 → ∃ v', Fr (S29 m) w v' ∧ fX6_distanceOf_l2 n m (nI j) (nI k) (nI i) v = some (nI (edd (mca w m j) (mca w m k) nj nk), v') := by
  intro q
  induction q with
  | zero =>
    intro n i v h1 h2 hF hC
    obtain ⟨n, rfl⟩ : ∃ n', n = n' + 1 := ⟨n - 1, by omega⟩
    refine ⟨v, hF, ?_⟩
    show fX6_distanceOf_b2 (fX6_distanceOf_l2 n) m (nI j) (nI k) (nI i) v = _
    unfold fX6_distanceOf_b2
    rw [ckp_ix _ hj (by decide), ckp_ix _ hj (by decide), ckp_ix _ hk (by decide), cl_nI (by omega), cl_nI (by omega), hF.1 6 m 12 k (by unfold S29; omega), hF.1 6 m 12 j (by unfold S29; omega), ek, ej, if_pos (by rw [i_lt (by omega) (by omega)]; omega), show (13 : Int32) = nI 13 from rfl, pk_mul, nI_add, ckp_ix _ (by omega) (by decide), cl_nI (by omega), hC nj nk (by omega) (by omega)]
  | succ q ih =>
    intro n i v h1 h2 hF hC
    obtain ⟨n, rfl⟩ : ∃ n', n = n' + 1 := ⟨n - 1, by omega⟩
    obtain ⟨v1, g1, g2, g3⟩ := l_mdi hj hk hnj hnk ek i (by omega) (fX6_distanceOf_l2 n) (nk + 1) 1000 0 v (by omega) (by omega) hF hC
    obtain ⟨v2, k1, k2⟩ := ih n (i + 1) v1 (by omega) (by omega) g1 g2
    refine ⟨v2, k1, ?_⟩
    show fX6_distanceOf_b2 (fX6_distanceOf_l2 n) m (nI j) (nI k) (nI i) v = _
    unfold fX6_distanceOf_b2
    rw [ckp_ix _ hj (by decide), cl_nI (by omega), hF.1 6 m 12 j (by unfold S29; omega), ej, if_neg (by rw [i_lt (by omega) (by omega)]; omega)]
    rw [← k2, ← g3]
    rfl
theorem e_mdist (hj : j < 192) (hk : k < 192) (hnj : nj ≤ 12) (hnk : nk ≤ 12) (ej : zI w 6 m 12 j = nI nj) (ek : zI w 6 m 12 k = nI nk) : ∃ v', Fr (S29 m) w v' ∧ fX6_distanceOf m (nI j) (nI k) w = some (nI (dst w m j k), v') := by
  obtain ⟨v', g1, g2⟩ := l_mdo hj hk hnj hnk ej ek (nj + 1) 1000 0 w (by omega) (by omega) (Fr.refl w) (fun i' b' _ h => by omega)
  refine ⟨v', g1, ?_⟩
  unfold dst mma
  rw [ej, ek, cl_nI (by omega), cl_nI (by omega)]
  exact g2
end ZDI
