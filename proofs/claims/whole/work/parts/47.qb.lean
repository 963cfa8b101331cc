/-! PURE LAYER: count, order, stuck -/
theorem bit_bi (v : Int32) (l : Nat) : ((v >>> (nI l &&& 31)) &&& 1) = bi (hb v l) := by
  rcases and1 (v >>> (nI l &&& 31)) with ⟨a, b⟩ | ⟨a, b⟩
  · rw [a, show hb v l = false by rw [← hb_0]; exact a]; rfl
  · rw [a, show hb v l = true by rw [← hb_1]; exact a]; rfl
theorem cntf_app (P : Nat → Bool) : ∀ k1 k2 t c, cntf P (k1 + k2) t c = cntf P k2 (t + k1) (cntf P k1 t c)
  | 0, k2, t, c => by rw [Nat.zero_add]; rfl
  | k1 + 1, k2, t, c => by
    rw [show k1 + 1 + k2 = (k1 + k2) + 1 by omega]
    show cntf P (k1 + k2) (t + 1) (if P t = true then c + 1 else c) = cntf P k2 (t + (k1 + 1)) (cntf P k1 (t + 1) (if P t = true then c + 1 else c))
    rw [cntf_app P k1 k2 (t + 1), show t + 1 + k1 = t + (k1 + 1) by omega]
theorem cntf_no {P : Nat → Bool} : ∀ k t c, (∀ u, t ≤ u → u < t + k → P u = false) → cntf P k t c = c
  | 0, _, _, _ => rfl
  | k + 1, t, c, h => by
    unfold cntf
    rw [h t (Nat.le_refl _) (by omega), if_neg (by decide)]
    exact cntf_no k (t + 1) c (fun u h1 h2 => h u (by omega) (by omega))
section ZQB
variable {w : Wd} {x m np : Nat}
theorem l_hby (p : Nat) (hp : p < 8) : ∀ k n t s, t + k = 24 → k < n → ∃ v, fX6_heldBy_l4 w n m (nI p) s (nI t) = some v ∧ ∀ l, l < 32 → hb v l = (hb s l || (fnd (fun t => mis w m p t && hb (mhe w m p t) l) k t).isSome) := by
  intro k
  induction k with
  | zero =>
    intro n t s h1 h2
    obtain ⟨n, rfl⟩ : ∃ n', n = n' + 1 := ⟨n - 1, by omega⟩
    show ∃ v, fX6_heldBy_b4 w (fX6_heldBy_l4 w n) m (nI p) s (nI t) = some v ∧ _
    unfold fX6_heldBy_b4
    rw [if_pos (show (24 : Int32) ≤ nI t from nI_le (a := 24) (by omega) (by omega))]
    exact ⟨s, rfl, fun l hl => by simp [fnd]⟩
  | succ k ih =>
    intro n t s h1 h2
    obtain ⟨n, rfl⟩ : ∃ n', n = n' + 1 := ⟨n - 1, by omega⟩
    show ∃ v, fX6_heldBy_b4 w (fX6_heldBy_l4 w n) m (nI p) s (nI t) = some v ∧ _
    unfold fX6_heldBy_b4 fX6_heldBy_b38
    rw [if_neg (show ¬ (24 : Int32) ≤ nI t from nI_ge (b := 24) (by omega) (by decide)), i_24, ckp_ix _ (by omega) (by decide), cl_nI (by omega), nI_1, ckp_ix _ (by omega) (by decide)]
    by_cases e : zI w 6 m 7 (24 * p + t) = 0
    · obtain ⟨v, hv, hl⟩ := ih n (t + 1) s (by omega) (by omega)
      rw [if_pos e]
      refine ⟨v, hv, fun l h => ?_⟩
      rw [hl l h]
      show _ = (hb s l || (if (mis w m p t && hb (mhe w m p t) l) = true then some t else fnd _ k (t + 1)).isSome)
      rw [if_neg (by simp [mis, e])]
    · obtain ⟨v, hv, hl⟩ := ih n (t + 1) (s ||| zI w 6 m 10 (24 * p + t)) (by omega) (by omega)
      rw [if_neg e]
      refine ⟨v, hv, fun l h => ?_⟩
      rw [hl l h, hb_or h]
      show _ = (hb s l || (if (mis w m p t && hb (mhe w m p t) l) = true then some t else fnd _ k (t + 1)).isSome)
      have hi : mis w m p t = true := by simp [mis, e]
      rw [hi, Bool.true_and]
      have hm : mhe w m p t = zI w 6 m 10 (24 * p + t) := rfl
      rw [hm]
      cases hb (zI w 6 m 10 (24 * p + t)) l with
      | true => simp
      | false => simp
theorem e_hby (p : Nat) (hp : p < 8) : ∃ v, fX6_heldBy m (nI p) w = some v ∧ ∀ l, l < 32 → hb v l = (sHol (mis w m p) (mhe w m p) l).isSome := by
  obtain ⟨v, hv, hl⟩ := l_hby (w := w) (m := m) p hp 24 1000 0 0 rfl (by decide)
  exact ⟨v, hv, fun l h => by rw [hl l h, hb_zero h]; rfl⟩
theorem l_pop (v : Int32) : ∀ k n c l, l + k = 16 → k < n → c + k ≤ 100 → fX6_count_l211 w n (nI c) v (nI l) = some (nI (cntf (hb v) k l c)) := by
  intro k
  induction k with
  | zero =>
    intro n c l h1 h2 h3
    obtain ⟨n, rfl⟩ : ∃ n', n = n' + 1 := ⟨n - 1, by omega⟩
    show fX6_count_b211 w (fX6_count_l211 w n) (nI c) v (nI l) = _
    unfold fX6_count_b211
    rw [if_pos (show (16 : Int32) ≤ nI l from nI_le (a := 16) (by omega) (by omega))]
    rfl
  | succ k ih =>
    intro n c l h1 h2 h3
    obtain ⟨n, rfl⟩ : ∃ n', n = n' + 1 := ⟨n - 1, by omega⟩
    show fX6_count_b211 w (fX6_count_l211 w n) (nI c) v (nI l) = _
    unfold fX6_count_b211 cntf
    rw [if_neg (show ¬ (16 : Int32) ≤ nI l from nI_ge (b := 16) (by omega) (by decide)), bit_bi, nI_1]
    cases hb v l with
    | true =>
      rw [bi_t, nI_1, if_pos rfl]
      exact ih n (c + 1) (l + 1) (by omega) (by omega) (by omega)
    | false =>
      rw [bi_f, show nI c + 0 = nI c from nI_add c 0, if_neg (by decide)]
      exact ih n c (l + 1) (by omega) (by omega) (by omega)
theorem l_cn1 (p : Nat) (hp : p < 8) : ∀ k n c t, t + k = 24 → k < n → c + k ≤ 100 → fX6_count_l106 w n m (nI p) (nI c) (nI t) = some (nI (cntf (mis w m p) k t c)) := by
  intro k
  induction k with
  | zero =>
    intro n c t h1 h2 h3
    obtain ⟨n, rfl⟩ : ∃ n', n = n' + 1 := ⟨n - 1, by omega⟩
    show fX6_count_b106 w (fX6_count_l106 w n) m (nI p) (nI c) (nI t) = _
    unfold fX6_count_b106
    rw [if_pos (show (24 : Int32) ≤ nI t from nI_le (a := 24) (by omega) (by omega))]
    rfl
  | succ k ih =>
    intro n c t h1 h2 h3
    obtain ⟨n, rfl⟩ : ∃ n', n = n' + 1 := ⟨n - 1, by omega⟩
    show fX6_count_b106 w (fX6_count_l106 w n) m (nI p) (nI c) (nI t) = _
    unfold fX6_count_b106 fX6_count_b134 cntf
    rw [if_neg (show ¬ (24 : Int32) ≤ nI t from nI_ge (b := 24) (by omega) (by decide)), i_24, ckp_ix _ (by omega) (by decide), cl_nI (by omega), nI_1, nI_1, show nI c + 0 = nI c from nI_add c 0]
    by_cases e : zI w 6 m 7 (24 * p + t) = 0
    · rw [if_pos e, if_neg (by simp [mis, e])]
      exact ih n c (t + 1) (by omega) (by omega) (by omega)
    · rw [if_neg e, if_pos (by simp [mis, e])]
      exact ih n (c + 1) (t + 1) (by omega) (by omega) (by omega)
theorem l_cn2 (p : Nat) (hp : p < 8) : ∀ k n c t, t + k = 24 → k < n → c + k ≤ 100 → fX6_count_l147 w n m (nI p) (nI c) (nI t) = some (nI (cntf (fun t => mis w m p t && !decide (mwa w m p t = -1)) k t c)) := by
  intro k
  induction k with
  | zero =>
    intro n c t h1 h2 h3
    obtain ⟨n, rfl⟩ : ∃ n', n = n' + 1 := ⟨n - 1, by omega⟩
    show fX6_count_b147 w (fX6_count_l147 w n) m (nI p) (nI c) (nI t) = _
    unfold fX6_count_b147
    rw [if_pos (show (24 : Int32) ≤ nI t from nI_le (a := 24) (by omega) (by omega))]
    rfl
  | succ k ih =>
    intro n c t h1 h2 h3
    obtain ⟨n, rfl⟩ : ∃ n', n = n' + 1 := ⟨n - 1, by omega⟩
    show fX6_count_b147 w (fX6_count_l147 w n) m (nI p) (nI c) (nI t) = _
    unfold fX6_count_b147 fX6_count_b190 fX6_count_b191 cntf
    rw [if_neg (show ¬ (24 : Int32) ≤ nI t from nI_ge (b := 24) (by omega) (by decide)), i_24, ckp_ix _ (by omega) (by decide), cl_nI (by omega), nI_1, nI_1, show nI c + 0 = nI c from nI_add c 0, ckp_ix _ (by omega) (by decide)]
    by_cases e : zI w 6 m 7 (24 * p + t) = 0
    · rw [if_pos e, if_neg (by simp [mis, e])]
      exact ih n c (t + 1) (by omega) (by omega) (by omega)
    · rw [if_neg e]
      by_cases e2 : zI w 6 m 11 (24 * p + t) = -1
      · rw [if_pos e2, if_neg (by simp [mis, mwa, e2])]
        exact ih n c (t + 1) (by omega) (by omega) (by omega)
      · rw [if_neg e2, if_pos (by simp [mis, mwa, e, e2])]
        exact ih n (c + 1) (t + 1) (by omega) (by omega) (by omega)
theorem q_count (h : PicsR w x m np) {tp : Nat} (ht : zR w 5 x 0 0 = some tp) (hl : zI w 4 tp 1 0 = zI w 6 m 1 0) (h4 : zI w 5 x 4 0 = zI w 6 m 3 0) (h5 : zI w 5 x 5 0 = zI w 6 m 4 0) (p z : Int32) : ∃ v, fX5_count x p z w = some v ∧ fX6_count m p z w = some v := by
  unfold fX5_count fX5_countOfReader fX6_count fX6_count_b53
  by_cases ep : p = -1
  · rw [if_pos ep, if_pos ep, lt_e, ht, nn_s, h4, h5, hl, h.2.1, h.2.2.1]
    by_cases c0 : z = 0
    · rw [if_pos c0]; exact ⟨_, rfl, rfl⟩
    rw [if_neg c0]
    by_cases c1 : z = 1
    · rw [if_pos c1]; exact ⟨_, rfl, rfl⟩
    rw [if_neg c1]
    by_cases c2 : z = 2
    · rw [if_pos c2]; exact ⟨_, rfl, rfl⟩
    rw [if_neg c2]
    by_cases c3 : z = 3
    · rw [if_pos c3]; exact ⟨_, rfl, rfl⟩
    rw [if_neg c3]
    exact ⟨_, rfl, rfl⟩
  rw [if_neg ep, if_neg ep]
  rcases pic_cases h p with ⟨q, a, hq, rfl, e1, e2, hR, -⟩ | ⟨e1, e2⟩
  · have h8 := h.1
    rw [e1, e2, bd_s, bd_s, oc_s, bi_t, if_neg (show ¬ (1 : Int32) = 0 by decide), ckp_ix _ (show q < 8 by omega) (by decide), cl_nI (by omega)]
    by_cases c0 : z = 0
    · rw [if_pos c0, if_pos c0, hR.1.1]; exact ⟨_, rfl, rfl⟩
    rw [if_neg c0, if_neg c0]
    by_cases c1 : z = 1
    · rw [if_pos c1, if_pos c1, hR.2.2.2.2.2.1]
      exact ⟨_, rfl, l_cn1 q (by omega) 24 1000 0 0 rfl (by decide) (by decide)⟩
    rw [if_neg c1, if_neg c1]
    by_cases c2 : z = 2
    · rw [if_pos c2, if_pos c2, hR.2.2.2.2.2.2.1]
      exact ⟨_, rfl, l_cn2 q (by omega) 24 1000 0 0 rfl (by decide) (by decide)⟩
    rw [if_neg c2, if_neg c2]
    by_cases c3 : z = 3
    · obtain ⟨v, hv, hb'⟩ := e_hby (w := w) (m := m) q (by omega)
      rw [if_pos c3, if_pos c3, hR.2.2.2.2.2.2.2, hv, bd_s]
      refine ⟨_, rfl, ?_⟩
      refine Eq.trans (l_pop v 16 1000 0 0 rfl (by decide) (by decide)) ?_
      congr 2
      apply cntf_cong
      intro l _ hl'
      exact hb' l (by omega)
    rw [if_neg c3, if_neg c3]
    exact ⟨_, rfl, rfl⟩
  · rw [e1, e2]; exact ⟨-1, rfl, rfl⟩
/-! order -/
theorem l_cah (h : PicsR w x m np) (T : Int32) : ∀ k n c q, q + k = 8 → k < n → c + k ≤ 100 → fX5_countAhead_l14 w n T (nI c) x 8 (nI q) = some (nI (cntf (fun q => decide (q < np) && !decide (T ≤ zI w 6 m 5 q)) k q c)) := by
  obtain ⟨h8, h1, h2, h3, h4⟩ := h
  intro k
  induction k with
  | zero =>
    intro n c q e1 e2 e3
    obtain ⟨n, rfl⟩ : ∃ n', n = n' + 1 := ⟨n - 1, by omega⟩
    show fX5_countAhead_b14 w (fX5_countAhead_l14 w n) T (nI c) x 8 (nI q) = _
    unfold fX5_countAhead_b14
    rw [if_pos (show (8 : Int32) ≤ nI q from nI_le (a := 8) (by omega) (by omega))]
    rfl
  | succ k ih =>
    intro n c q e1 e2 e3
    obtain ⟨n, rfl⟩ : ∃ n', n = n' + 1 := ⟨n - 1, by omega⟩
    show fX5_countAhead_b14 w (fX5_countAhead_l14 w n) T (nI c) x 8 (nI q) = _
    unfold fX5_countAhead_b14 fX5_countAhead_b44 cntf
    rw [if_neg (show ¬ (8 : Int32) ≤ nI q from nI_ge (b := 8) (by omega) (by decide)), ckp_ix _ (by omega) (by decide), cl_nI (by omega), lt_e, nI_1, nI_1]
    by_cases eq : q < np
    · obtain ⟨a, ha, hR, -⟩ := h3 q eq
      rw [ha, oc_s, hR.1.1]
      by_cases e : T ≤ zI w 6 m 5 q
      · rw [if_pos e, if_neg (by simp [e])]
        exact ih n c (q + 1) (by omega) (by omega) (by omega)
      · rw [if_neg e, if_pos (by simp [e, eq])]
        exact ih n (c + 1) (q + 1) (by omega) (by omega) (by omega)
    · rw [h4 q (by omega) (by omega), oc_n, if_neg (by simp [eq])]
      exact ih n c (q + 1) (by omega) (by omega) (by omega)
theorem cut_np (h8 : np ≤ 8) (P : Nat → Bool) : cntf (fun q => decide (q < np) && P q) 8 0 0 = cntf P np 0 0 := by
  rw [show (8 : Nat) = np + (8 - np) by omega, cntf_app, cntf_no (8 - np) (0 + np) _ (fun u h1 h2 => by simp; omega)]
  apply cntf_cong
  intro u h1 h2
  simp
  omega
theorem l_cord (h : PicsR w x m np) (T : Int32) (F : Nat → Nat) (hF : ∀ p, p < np → fX5_countAhead x (zI w 6 m 5 p) w = some (nI (F p))) : ∀ k n p, p + k = np → k < n → fX5_order_l2 w n x T (nI p) = some (en (fnd (fun p => decide (nI (F p) = T)) k p)) := by
  have h8 := h.1
  intro k
  induction k with
  | zero =>
    intro n p e1 e2
    obtain ⟨n, rfl⟩ : ∃ n', n = n' + 1 := ⟨n - 1, by omega⟩
    show fX5_order_b2 w (fX5_order_l2 w n) x T (nI p) = _
    unfold fX5_order_b2
    rw [h.2.1, if_pos (by rw [i_le (by omega) (by omega)]; omega)]
    rfl
  | succ k ih =>
    intro n p e1 e2
    obtain ⟨n, rfl⟩ : ∃ n', n = n' + 1 := ⟨n - 1, by omega⟩
    show fX5_order_b2 w (fX5_order_l2 w n) x T (nI p) = _
    unfold fX5_order_b2 fX5_order_b34 fnd
    obtain ⟨a, ha, hR, -⟩ := h.2.2.2.1 p (by omega)
    rw [h.2.1, if_neg (by rw [i_le (by omega) (by omega)]; omega), e_pictureAt x _ w h.2.1 h8, inn_nI (by omega), decide_eq_true (show p < np by omega), if_pos rfl, cl_nI (by omega), ha, bd_s, oc_s, hR.1.1, hF p (by omega), bd_s, nI_1]
    by_cases e : nI (F p) = T
    · rw [if_pos e, if_pos (by simp [e])]; rfl
    · rw [if_neg e, if_neg (by simp [e])]
      exact ih n (p + 1) (by omega) (by omega)
theorem l_mor1 (h : PicsR w x m np) (T : Int32) (p : Nat) (hp : p < np) (rec2 : Nat → Int32 → Int32 → Option Int32) : ∀ k n c q, q + k = np → k < n → c + k ≤ 100 → fX6_order_l15 w rec2 n m T (nI p) (nI c) (nI q) = if nI (cntf (fun q => !decide (zI w 6 m 5 p ≤ zI w 6 m 5 q)) k q c) = T then some (nI p) else rec2 m T (nI p + 1) := by
  have h8 := h.1
  intro k
  induction k with
  | zero =>
    intro n c q e1 e2 e3
    obtain ⟨n, rfl⟩ : ∃ n', n = n' + 1 := ⟨n - 1, by omega⟩
    show fX6_order_b15 w rec2 (fX6_order_l15 w rec2 n) m T (nI p) (nI c) (nI q) = _
    unfold fX6_order_b15
    rw [h.2.2.1, if_pos (by rw [i_le (by omega) (by omega)]; omega)]
    rfl
  | succ k ih =>
    intro n c q e1 e2 e3
    obtain ⟨n, rfl⟩ : ∃ n', n = n' + 1 := ⟨n - 1, by omega⟩
    show fX6_order_b15 w rec2 (fX6_order_l15 w rec2 n) m T (nI p) (nI c) (nI q) = _
    unfold fX6_order_b15 fX6_order_b46 cntf
    rw [h.2.2.1, if_neg (by rw [i_le (by omega) (by omega)]; omega), ckp_ix _ (by omega) (by decide), ckp_ix _ (by omega) (by decide), cl_nI (by omega), cl_nI (by omega), nI_1 c, nI_1 q, show nI c + 0 = nI c from nI_add c 0]
    by_cases e : zI w 6 m 5 p ≤ zI w 6 m 5 q
    · rw [if_pos e, ih n c (q + 1) (by omega) (by omega) (by omega), if_neg (show ¬ (!decide (zI w 6 m 5 p ≤ zI w 6 m 5 q)) = true by simp [e])]
    · rw [if_neg e, ih n (c + 1) (q + 1) (by omega) (by omega) (by omega), if_pos (show (!decide (zI w 6 m 5 p ≤ zI w 6 m 5 q)) = true by simp [e])]
theorem l_mor (h : PicsR w x m np) (T : Int32) : ∀ k n p, p + k = np → k < n → fX6_order_l2 w n m T (nI p) = some (en (fnd (fun p => decide (nI (cntf (fun q => !decide (zI w 6 m 5 p ≤ zI w 6 m 5 q)) np 0 0) = T)) k p)) := by
  have h8 := h.1
  intro k
  induction k with
  | zero =>
    intro n p e1 e2
    obtain ⟨n, rfl⟩ : ∃ n', n = n' + 1 := ⟨n - 1, by omega⟩
    show fX6_order_b2 w (fX6_order_l2 w n) m T (nI p) = _
    unfold fX6_order_b2
    rw [h.2.2.1, if_pos (by rw [i_le (by omega) (by omega)]; omega)]
    rfl
  | succ k ih =>
    intro n p e1 e2
    obtain ⟨n, rfl⟩ : ∃ n', n = n' + 1 := ⟨n - 1, by omega⟩
    show fX6_order_b2 w (fX6_order_l2 w n) m T (nI p) = _
    unfold fX6_order_b2 fnd
    rw [h.2.2.1, if_neg (by rw [i_le (by omega) (by omega)]; omega)]
    refine Eq.trans (l_mor1 h T p (by omega) (fX6_order_l2 w n) np 1000 0 0 (by omega) (by omega) (by omega)) ?_
    rw [nI_1]
    by_cases e : nI (cntf (fun q => !decide (zI w 6 m 5 p ≤ zI w 6 m 5 q)) np 0 0) = T
    · rw [if_pos e, if_pos (by simp [e])]; rfl
    · rw [if_neg e, if_neg (by simp [e])]
      exact ih n (p + 1) (by omega) (by omega)
theorem q_order (h : PicsR w x m np) (i : Int32) : ∃ v, fX5_order x i w = some v ∧ fX6_order m i w = some v := by
  have h8 := h.1
  have hF : ∀ p, p < np → fX5_countAhead x (zI w 6 m 5 p) w = some (nI (cntf (fun q => !decide (zI w 6 m 5 p ≤ zI w 6 m 5 q)) np 0 0)) := fun p _ => by
    have e : fX5_countAhead x (zI w 6 m 5 p) w = some _ := l_cah h (zI w 6 m 5 p) 8 1000 0 0 rfl (by decide) (by decide)
    rw [e, cut_np h8]
  have e1 : fX5_order x i w = some _ := l_cord h i (fun p => cntf (fun q => !decide (zI w 6 m 5 p ≤ zI w 6 m 5 q)) np 0 0) hF np 1000 0 (by omega) (by omega)
  have e2 : fX6_order m i w = some _ := l_mor h i np 1000 0 (by omega) (by omega)
  exact ⟨_, e1, e2⟩
end ZQB
