/-! PURE LAYER: stuck -/
def Al (w : Wd) (m j k : Nat) : Prop := zI w 6 m 8 j = zI w 6 m 8 k ∧ zI w 6 m 9 j = zI w 6 m 9 k ∧ zI w 6 m 10 j = zI w 6 m 10 k ∧ zI w 6 m 11 j = zI w 6 m 11 k ∧ zI w 6 m 12 j = zI w 6 m 12 k ∧ ∀ i, i < mma w m j → mca w m j i = mca w m k i
theorem Al.symm {w : Wd} {m j k : Nat} (h : Al w m j k) : Al w m k j := by
  obtain ⟨h1, h2, h3, h4, h5, h6⟩ := h
  refine ⟨h1.symm, h2.symm, h3.symm, h4.symm, h5.symm, fun i hi => (h6 i ?_).symm⟩
  unfold mma at hi ⊢
  rw [h5]; exact hi
theorem Al.trans {w : Wd} {m i j k : Nat} (h : Al w m i j) (g : Al w m j k) : Al w m i k := by
  obtain ⟨h1, h2, h3, h4, h5, h6⟩ := h
  obtain ⟨g1, g2, g3, g4, g5, g6⟩ := g
  refine ⟨h1.trans g1, h2.trans g2, h3.trans g3, h4.trans g4, h5.trans g5, fun i hi => (h6 i hi).trans (g6 i ?_)⟩
  unfold mma at hi ⊢
  rw [← h5]; exact hi
theorem Al.refl {w : Wd} {m j : Nat} : Al w m j j := ⟨rfl, rfl, rfl, rfl, rfl, fun _ _ => rfl⟩
noncomputable def alb (w : Wd) (m j k : Nat) : Bool := @decide (Al w m j k) (Classical.propDecidable _)
theorem alb_t {w : Wd} {m j k : Nat} : alb w m j k = true ↔ Al w m j k := by
  unfold alb
  exact @decide_eq_true_iff _ (Classical.propDecidable _)
theorem alb_f {w : Wd} {m j k : Nat} : alb w m j k = false ↔ ¬ Al w m j k := by
  rw [← alb_t]; simp
def cae (f g : Nat → Int32) : Nat → Nat → Bool
  | 0, _ => true
  | k + 1, i => decide (f i = g i) && cae f g k (i + 1)
theorem cae_t {f g : Nat → Int32} : ∀ {k i : Nat}, cae f g k i = true ↔ ∀ j, i ≤ j → j < i + k → f j = g j
  | 0, i => by
    constructor
    · intro _ j h1 h2; omega
    · intro _; rfl
  | k + 1, i => by
    unfold cae
    rw [Bool.and_eq_true, decide_eq_true_iff, cae_t]
    constructor
    · intro ⟨a, b⟩ j h1 h2
      by_cases q : j = i
      · rw [q]; exact a
      · exact b j (by omega) (by omega)
    · intro h
      exact ⟨h i (by omega) (by omega), fun j h1 h2 => h j (by omega) (by omega)⟩
section ZQC
variable {w : Wd} {x m np : Nat}
theorem l_hco (r s n : Nat) (hn : n ≤ 12) (h6 : zI w 2 r 6 0 = nI n) : ∀ k f i, i + k = n → k < f → fX2_hasCallsOf_l15 w f r s (nI i) = some (bi (cae (zI w 2 r 0) (zI w 2 s 0) k i)) := by
  intro k
  induction k with
  | zero =>
    intro f i h1 h2
    obtain ⟨f, rfl⟩ : ∃ n', f = n' + 1 := ⟨f - 1, by omega⟩
    show fX2_hasCallsOf_b15 w (fX2_hasCallsOf_l15 w f) r s (nI i) = _
    unfold fX2_hasCallsOf_b15
    rw [h6, if_pos (by rw [i_le (by omega) (by omega)]; omega)]
    rfl
  | succ k ih =>
    intro f i h1 h2
    obtain ⟨f, rfl⟩ : ∃ n', f = n' + 1 := ⟨f - 1, by omega⟩
    show fX2_hasCallsOf_b15 w (fX2_hasCallsOf_l15 w f) r s (nI i) = _
    unfold fX2_hasCallsOf_b15 cae
    rw [h6, if_neg (by rw [i_le (by omega) (by omega)]; omega), ckp_ix _ (by omega) (by decide), ckp_ix _ (by omega) (by decide), cl_nI (by omega), nI_1]
    by_cases e : zI w 2 r 0 i = zI w 2 s 0 i
    · rw [if_pos e, decide_eq_true e, Bool.true_and]
      exact ih f (i + 1) (by omega) (by omega)
    · rw [if_neg e, decide_eq_false e]; rfl
theorem l_aal (j k' n : Nat) (hj : j < 192) (hk : k' < 192) (hn : n ≤ 12) (h6 : zI w 6 m 12 j = nI n) : ∀ k f i, i + k = n → k < f → fX6_areAlike_l79 w f m (nI j) (nI k') (nI i) = some (bi (cae (mca w m j) (mca w m k') k i)) := by
  intro k
  induction k with
  | zero =>
    intro f i h1 h2
    obtain ⟨f, rfl⟩ : ∃ n', f = n' + 1 := ⟨f - 1, by omega⟩
    show fX6_areAlike_b79 w (fX6_areAlike_l79 w f) m (nI j) (nI k') (nI i) = _
    unfold fX6_areAlike_b79
    rw [ckp_ix _ hj (by decide), cl_nI (by omega), h6, if_pos (by rw [i_le (by omega) (by omega)]; omega)]
    rfl
  | succ k ih =>
    intro f i h1 h2
    obtain ⟨f, rfl⟩ : ∃ n', f = n' + 1 := ⟨f - 1, by omega⟩
    show fX6_areAlike_b79 w (fX6_areAlike_l79 w f) m (nI j) (nI k') (nI i) = _
    unfold fX6_areAlike_b79 cae
    rw [ckp_ix _ hj (by decide), cl_nI (by omega), h6, if_neg (by rw [i_le (by omega) (by omega)]; omega), q12, pk_mul, pk_mul, nI_add, nI_add, ckp_ix _ (by omega) (by decide), ckp_ix _ (by omega) (by decide), cl_nI (by omega), cl_nI (by omega), nI_1]
    by_cases e : zI w 6 m 13 (12 * j + i) = zI w 6 m 13 (12 * k' + i)
    · rw [if_pos e, decide_eq_true (show mca w m j i = mca w m k' i from e), Bool.true_and]
      exact ih f (i + 1) (by omega) (by omega)
    · rw [if_neg e, decide_eq_false (show ¬ mca w m j i = mca w m k' i from e)]; rfl
theorem alb_of {j k' n : Nat} (hn : n ≤ 12) (h6 : zI w 6 m 12 j = nI n) : alb w m j k' = (decide (zI w 6 m 8 j = zI w 6 m 8 k') && (decide (zI w 6 m 9 j = zI w 6 m 9 k') && (decide (zI w 6 m 10 j = zI w 6 m 10 k') && (decide (zI w 6 m 11 j = zI w 6 m 11 k') && (decide (zI w 6 m 12 j = zI w 6 m 12 k') && cae (mca w m j) (mca w m k') n 0))))) := by
  rw [Bool.eq_iff_iff, alb_t]
  simp only [Bool.and_eq_true, decide_eq_true_iff, cae_t]
  unfold Al mma
  rw [h6, cl_nI (by omega)]
  constructor
  · intro ⟨a, b, c, d, e, f⟩
    exact ⟨a, b, c, d, e, fun i _ hi => f i (by omega)⟩
  · intro ⟨a, b, c, d, e, f⟩
    exact ⟨a, b, c, d, e, fun i hi => f i (by omega) (by omega)⟩
theorem e_aal (j k' n : Nat) (hj : j < 192) (hk : k' < 192) (hn : n ≤ 12) (h6 : zI w 6 m 12 j = nI n) : fX6_areAlike m (nI j) (nI k') w = some (bi (alb w m j k')) := by
  rw [alb_of hn h6]
  unfold fX6_areAlike fX6_areAlike_b75
  rw [cl_nI (by omega), cl_nI (by omega)]
  simp only [ckp_ix _ hj (show 192 < 2147483648 by decide), ckp_ix _ hk (show 192 < 2147483648 by decide), ckp_0]
  by_cases c1 : zI w 6 m 8 j = zI w 6 m 8 k'
  · rw [if_pos c1, decide_eq_true c1, Bool.true_and]
    by_cases c2 : zI w 6 m 9 j = zI w 6 m 9 k'
    · rw [if_pos c2, decide_eq_true c2, Bool.true_and]
      by_cases c3 : zI w 6 m 10 j = zI w 6 m 10 k'
      · rw [if_pos c3, decide_eq_true c3, Bool.true_and]
        by_cases c4 : zI w 6 m 11 j = zI w 6 m 11 k'
        · rw [if_pos c4, decide_eq_true c4, Bool.true_and]
          by_cases c5 : zI w 6 m 12 j = zI w 6 m 12 k'
          · rw [if_pos c5, decide_eq_true c5, Bool.true_and]
            exact l_aal j k' n hj hk hn h6 n 1000 0 (by omega) (by omega)
          · rw [if_neg c5, decide_eq_false c5]; rfl
        · rw [if_neg c4, decide_eq_false c4]; rfl
      · rw [if_neg c3, decide_eq_false c3]; rfl
    · rw [if_neg c2, decide_eq_false c2]; rfl
  · rw [if_neg c1, decide_eq_false c1]; rfl
theorem cae_cong {f g f' g' : Nat → Int32} : ∀ {k i : Nat}, (∀ j, i ≤ j → j < i + k → f j = f' j ∧ g j = g' j) → cae f g k i = cae f' g' k i
  | 0, _, _ => rfl
  | k + 1, i, h => by
    unfold cae
    rw [(h i (by omega) (by omega)).1, (h i (by omega) (by omega)).2, cae_cong (fun j h1 h2 => h j (by omega) (by omega))]
theorem e_cal {r s j k' t t' n n' : Nat} (hr : RowR w r m j t) (hs : RowR w s m k' t') (hn : n ≤ 12) (h6 : zI w 6 m 12 j = nI n) (hn' : n' ≤ 12) (h6' : zI w 6 m 12 k' = nI n') : fX2_isLike r s w = some (bi (alb w m j k')) := by
  rw [alb_of hn h6]
  unfold fX2_isLike fX2_isLike_b56 fX2_isLike_b57 fX2_hasCallsOf
  rw [hr.2.1, hs.2.1, hr.2.2.1, hs.2.2.1, hr.2.2.2.1, hs.2.2.2.1, hr.2.2.2.2.1, hs.2.2.2.2.1, hr.2.2.2.2.2.1, hs.2.2.2.2.2.1]
  by_cases c1 : zI w 6 m 8 j = zI w 6 m 8 k'
  · rw [if_pos c1, decide_eq_true c1, Bool.true_and]
    by_cases c2 : zI w 6 m 9 j = zI w 6 m 9 k'
    · rw [if_pos c2, decide_eq_true c2, Bool.true_and]
      by_cases c3 : zI w 6 m 10 j = zI w 6 m 10 k'
      · rw [if_pos c3, decide_eq_true c3, Bool.true_and]
        by_cases c4 : zI w 6 m 11 j = zI w 6 m 11 k'
        · rw [if_pos c4, decide_eq_true c4, Bool.true_and]
          by_cases c5 : zI w 6 m 12 j = zI w 6 m 12 k'
          · have enn : n = n' := by
              rw [h6, h6', i_eq (by omega) (by omega)] at c5; exact c5
            have el : fX2_hasCallsOf_l15 w 1000 r s 0 = some _ := l_hco r s n hn (by rw [hr.2.2.2.2.2.1, h6]) n 1000 0 (by omega) (by omega)
            rw [if_pos c5, decide_eq_true c5, Bool.true_and, el, bd_s]
            rw [cae_cong (f' := mca w m j) (g' := mca w m k') (fun i _ hi => ⟨hr.2.2.2.2.2.2 i (by unfold mma; rw [h6, cl_nI (by omega)]; omega), hs.2.2.2.2.2.2 i (by unfold mma; rw [h6', cl_nI (by omega)]; omega)⟩)]
            cases cae (mca w m j) (mca w m k') n 0 <;> rfl
          · rw [if_neg c5, decide_eq_false c5]; rfl
        · rw [if_neg c4, decide_eq_false c4]; rfl
      · rw [if_neg c3, decide_eq_false c3]; rfl
    · rw [if_neg c2, decide_eq_false c2]; rfl
  · rw [if_neg c1, decide_eq_false c1]; rfl
noncomputable def sst (w : Wd) (m t : Nat) : Nat → Nat → Option Nat → Nat → Bool
  | 0, _, _, c => decide (2 ≤ c)
  | k + 1, p, o, c => if mis w m p t = true then (match o with
    | none => sst w m t k (p + 1) (some (24 * p + t)) (c + 1)
    | some j => if alb w m j (24 * p + t) = true then sst w m t k (p + 1) (some j) (c + 1) else false) else sst w m t k (p + 1) o c
/-- the row of a picture of the class that is kept as the first -/
def fst' (w : Wd) (m t : Nat) (o : Option Nat) (r : Option Nat) : Prop := (o = none ∧ r = none) ∨ ∃ j s n, o = some j ∧ r = some s ∧ RowR w s m j t ∧ n ≤ 12 ∧ zI w 6 m 12 j = nI n
theorem l_cst (h : PicsR w x m np) (t : Nat) (ht : t < 24) : ∀ k n p o r c, p + k = np → k < n → c + k ≤ 100 → fst' w m t o r → fX5_isStuck_l7 w n x (nI t) r (nI c) (nI p) = some (bi (sst w m t k p o c)) := by
  have h8 := h.1
  intro k
  induction k with
  | zero =>
    intro n p o r c h1 h2 h3 hf
    obtain ⟨n, rfl⟩ : ∃ n', n = n' + 1 := ⟨n - 1, by omega⟩
    show fX5_isStuck_b7 w (fX5_isStuck_l7 w n) x (nI t) r (nI c) (nI p) = _
    unfold fX5_isStuck_b7 fX5_isStuck_b70
    rw [h.2.1, if_pos (by rw [i_le (by omega) (by omega)]; omega)]
    unfold sst
    by_cases e : 2 ≤ c
    · rw [if_neg (show ¬ nI c < 2 by rw [q2, i_lt (by omega) (by omega)]; omega), decide_eq_true e]; rfl
    · rw [if_pos (show nI c < 2 by rw [q2, i_lt (by omega) (by omega)]; omega), decide_eq_false e]; rfl
  | succ k ih =>
    intro n p o r c h1 h2 h3 hf
    obtain ⟨n, rfl⟩ : ∃ n', n = n' + 1 := ⟨n - 1, by omega⟩
    show fX5_isStuck_b7 w (fX5_isStuck_l7 w n) x (nI t) r (nI c) (nI p) = _
    unfold fX5_isStuck_b7 fX5_isStuck_b54 fX5_isStuck_b51 fX5_isStuck_b54 sst fX5_rowAt fX5_rowAt_b19
    obtain ⟨a, ha, hR, -⟩ := h.2.2.2.1 p (by omega)
    rw [h.2.1, if_neg (by rw [i_le (by omega) (by omega)]; omega), e_pictureAt x _ w h.2.1 h8, inn_nI (by omega), decide_eq_true (show p < np by omega), if_pos rfl, cl_nI (by omega), ha, bd_s, oc_s, e_rowOf, inn_nI (by omega), decide_eq_true ht, if_pos rfl, cl_nI (by omega), bd_s, bd_s, nI_1, nI_1]
    cases hi : mis w m p t with
    | false =>
      rw [hR.2.1.no ht hi, oc_n, if_neg (by decide)]
      exact ih n (p + 1) o r c (by omega) (by omega) (by omega) hf
    | true =>
      obtain ⟨s, hs, hrr, hm⟩ := hR.2.1.row ht hi
      obtain ⟨-, -, ⟨n', hn', en'⟩, -⟩ := hm
      rw [hs, oc_s, if_pos rfl]
      rcases hf with ⟨rfl, rfl⟩ | ⟨j, s', n2, rfl, rfl, hrr', hn2, e2⟩
      · rw [oc_n]
        exact ih n (p + 1) (some (24 * p + t)) (some s) (c + 1) (by omega) (by omega) (by omega) (Or.inr ⟨_, s, n', rfl, rfl, hrr, hn', en'⟩)
      · rw [oc_s, e_cal hrr' hrr hn2 e2 hn' en', bd_s]
        show _ = some (bi (if alb w m j (24 * p + t) = true then sst w m t k (p + 1) (some j) (c + 1) else false))
        cases alb w m j (24 * p + t) with
        | true =>
          rw [bi_t, if_neg (show ¬ (1 : Int32) = 0 by decide), if_pos rfl]
          exact ih n (p + 1) (some j) (some s') (c + 1) (by omega) (by omega) (by omega) (Or.inr ⟨_, s', n2, rfl, rfl, hrr', hn2, e2⟩)
        | false =>
          rw [bi_f, if_pos rfl, if_neg (by decide)]; rfl
/-- the reference keeps the last, not the first -/
def lst' (w : Wd) (m : Nat) (o : Option Nat) (c j : Nat) : Prop := (o = none ∧ c = 0) ∨ ∃ i n, o = some i ∧ 0 < c ∧ Al w m i j ∧ j < 192 ∧ n ≤ 12 ∧ zI w 6 m 12 j = nI n
theorem l_mst (h : PicsR w x m np) (t : Nat) (ht : t < 24) : ∀ k n p o c j, p + k = np → k < n → c + k ≤ 100 → lst' w m o c j → fX6_isStuck_l7 w n m (nI t) (nI c) (nI j) (nI p) = some (bi (sst w m t k p o c)) := by
  have h8 := h.1
  intro k
  induction k with
  | zero =>
    intro n p o c j h1 h2 h3 hf
    obtain ⟨n, rfl⟩ : ∃ n', n = n' + 1 := ⟨n - 1, by omega⟩
    show fX6_isStuck_b7 w (fX6_isStuck_l7 w n) m (nI t) (nI c) (nI j) (nI p) = _
    unfold fX6_isStuck_b7 fX6_isStuck_b76
    rw [h.2.2.1, if_pos (by rw [i_le (by omega) (by omega)]; omega)]
    unfold sst
    by_cases e : 2 ≤ c
    · rw [if_neg (show ¬ nI c ≤ 1 by rw [q1, i_le (by omega) (by omega)]; omega), decide_eq_true e]; rfl
    · rw [if_pos (show nI c ≤ 1 by rw [q1, i_le (by omega) (by omega)]; omega), decide_eq_false e]; rfl
  | succ k ih =>
    intro n p o c j h1 h2 h3 hf
    obtain ⟨n, rfl⟩ : ∃ n', n = n' + 1 := ⟨n - 1, by omega⟩
    show fX6_isStuck_b7 w (fX6_isStuck_l7 w n) m (nI t) (nI c) (nI j) (nI p) = _
    unfold fX6_isStuck_b7 fX6_isStuck_b60 fX6_isStuck_b54 fX6_isStuck_b60 sst
    obtain ⟨a, ha, hR, -⟩ := h.2.2.2.1 p (by omega)
    rw [h.2.2.1, if_neg (by rw [i_le (by omega) (by omega)]; omega), i_24, ckp_ix _ (by omega) (by decide), cl_nI (by omega), nI_1, nI_1]
    by_cases e : zI w 6 m 7 (24 * p + t) = 0
    · have hi : mis w m p t = false := by simp [mis, e]
      rw [if_pos e, hi, if_neg (by decide)]
      exact ih n (p + 1) o c j (by omega) (by omega) (by omega) hf
    · have hi : mis w m p t = true := by simp [mis, e]
      obtain ⟨s, hs, hrr, hm⟩ := hR.2.1.row ht hi
      obtain ⟨-, -, ⟨n', hn', en'⟩, -⟩ := hm
      rw [if_neg e, hi, if_pos rfl]
      rcases hf with ⟨rfl, rfl⟩ | ⟨i, n2, rfl, hc, hal, hj, hn2, e2⟩
      · rw [if_pos (show nI 0 ≤ 0 from nI_le (b := 0) (by omega) (by decide))]
        exact ih n (p + 1) (some (24 * p + t)) (0 + 1) (24 * p + t) (by omega) (by omega) (by omega) (Or.inr ⟨_, n', rfl, by omega, Al.refl, by omega, hn', en'⟩)
      · rw [if_neg (show ¬ nI c ≤ 0 from nI_ge (a := 0) (by omega) (by omega)), e_aal j (24 * p + t) n2 hj (by omega) hn2 e2, bd_s]
        show _ = some (bi (if alb w m i (24 * p + t) = true then sst w m t k (p + 1) (some i) (c + 1) else false))
        cases ea : alb w m j (24 * p + t) with
        | true =>
          have : alb w m i (24 * p + t) = true := alb_t.mpr (hal.trans (alb_t.mp ea))
          rw [this, bi_t, if_neg (show ¬ (1 : Int32) = 0 by decide), if_pos rfl]
          exact ih n (p + 1) (some i) (c + 1) (24 * p + t) (by omega) (by omega) (by omega) (Or.inr ⟨_, n', rfl, by omega, alb_t.mp this, by omega, hn', en'⟩)
        | false =>
          have : alb w m i (24 * p + t) = false := alb_f.mpr (fun q => alb_f.mp ea (hal.symm.trans q))
          rw [this, bi_f, if_pos rfl, if_neg (by decide)]; rfl
theorem l_cstk (f : Nat → Bool) (hf : ∀ t, t < 24 → fX5_isStuck x (nI t) w = some (bi (f t))) (i : Int32) : ∀ k n c t, t + k = 24 → k < n → c + k ≤ 100 → fX5_stuck_l4 w n x i (nI c) (nI t) = some (rgs (fun t => if f t = true then 1 else 0) (fun t => nI t) i k t c) := by
  intro k
  induction k with
  | zero =>
    intro n c t h1 h2 h3
    obtain ⟨n, rfl⟩ : ∃ n', n = n' + 1 := ⟨n - 1, by omega⟩
    show fX5_stuck_b4 w (fX5_stuck_l4 w n) x i (nI c) (nI t) = _
    unfold fX5_stuck_b4
    rw [if_pos (show (24 : Int32) ≤ nI t from nI_le (a := 24) (by omega) (by omega))]
    rfl
  | succ k ih =>
    intro n c t h1 h2 h3
    obtain ⟨n, rfl⟩ : ∃ n', n = n' + 1 := ⟨n - 1, by omega⟩
    show fX5_stuck_b4 w (fX5_stuck_l4 w n) x i (nI c) (nI t) = _
    unfold fX5_stuck_b4 fX5_stuck_b28 rgs
    rw [if_neg (show ¬ (24 : Int32) ≤ nI t from nI_ge (b := 24) (by omega) (by decide)), hf t (by omega), bd_s, nI_1, nI_1]
    cases f t with
    | true =>
      rw [bi_t, if_neg (show ¬ (1 : Int32) = 0 by decide), if_pos (show 0 < if true = true then 1 else 0 by decide)]
      by_cases e : nI c = i
      · rw [if_pos e, if_pos e]
      · rw [if_neg e, if_neg e]
        exact ih n (c + 1) (t + 1) (by omega) (by omega) (by omega)
    | false =>
      rw [bi_f, if_pos rfl, if_neg (show ¬ 0 < if false = true then 1 else 0 by decide)]
      exact ih n c (t + 1) (by omega) (by omega) (by omega)
theorem l_mstk (f : Nat → Bool) (hf : ∀ t, t < 24 → fX6_isStuck m (nI t) w = some (bi (f t))) (i : Int32) (hi : ¬ i < 0) : ∀ k n c t, t + k = 24 → k < n → c + k ≤ 100 → fX6_stuck_l4 w n m i (nI c) (nI t) = some (rgs (fun t => if f t = true then 1 else 0) (fun t => nI t) i k t c) := by
  intro k
  induction k with
  | zero =>
    intro n c t h1 h2 h3
    obtain ⟨n, rfl⟩ : ∃ n', n = n' + 1 := ⟨n - 1, by omega⟩
    show fX6_stuck_b4 w (fX6_stuck_l4 w n) m i (nI c) (nI t) = _
    unfold fX6_stuck_b4
    rw [if_pos (show (24 : Int32) ≤ nI t from nI_le (a := 24) (by omega) (by omega))]
    rfl
  | succ k ih =>
    intro n c t h1 h2 h3
    obtain ⟨n, rfl⟩ : ∃ n', n = n' + 1 := ⟨n - 1, by omega⟩
    show fX6_stuck_b4 w (fX6_stuck_l4 w n) m i (nI c) (nI t) = _
    unfold fX6_stuck_b4 fX6_stuck_b35 rgs
    rw [if_neg (show ¬ (24 : Int32) ≤ nI t from nI_ge (b := 24) (by omega) (by decide)), if_neg hi, hf t (by omega), bd_s, nI_1, nI_1]
    cases f t with
    | true =>
      rw [bi_t, if_neg (show ¬ (1 : Int32) = 0 by decide), if_pos (show 0 < if true = true then 1 else 0 by decide)]
      by_cases e : nI c = i
      · rw [if_pos e, if_pos e]
      · rw [if_neg e, if_neg e]
        exact ih n (c + 1) (t + 1) (by omega) (by omega) (by omega)
    | false =>
      rw [bi_f, if_pos rfl, if_neg (show ¬ 0 < if false = true then 1 else 0 by decide)]
      exact ih n c (t + 1) (by omega) (by omega) (by omega)
theorem q_stuck (h : PicsR w x m np) (i : Int32) : ∃ v, fX5_stuck x i w = some v ∧ fX6_stuck m i w = some v := by
  have h8 := h.1
  have hc : ∀ t, t < 24 → fX5_isStuck x (nI t) w = some (bi (sst w m t np 0 none 0)) := fun t ht => l_cst h t ht np 1000 0 none none 0 (by omega) (by omega) (by omega) (Or.inl ⟨rfl, rfl⟩)
  have hm : ∀ t, t < 24 → fX6_isStuck m (nI t) w = some (bi (sst w m t np 0 none 0)) := fun t ht => l_mst h t ht np 1000 0 none 0 0 (by omega) (by omega) (by omega) (Or.inl ⟨rfl, rfl⟩)
  have e1 : fX5_stuck x i w = some _ := l_cstk (fun t => sst w m t np 0 none 0) hc i 24 1000 0 0 rfl (by decide) (by decide)
  by_cases hi : i < 0
  · rw [rgs_neg hi 24 0 0 (by decide)] at e1
    refine ⟨_, e1, ?_⟩
    show fX6_stuck_b4 w (fX6_stuck_l4 w 999) m i 0 0 = _
    unfold fX6_stuck_b4 fX6_stuck_b41
    rw [if_neg (by decide), if_pos hi]
  · have e2 : fX6_stuck m i w = some _ := l_mstk (fun t => sst w m t np 0 none 0) hm i hi 24 1000 0 0 rfl (by decide) (by decide)
    exact ⟨_, e1, e2⟩
end ZQC
