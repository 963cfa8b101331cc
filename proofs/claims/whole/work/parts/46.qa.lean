/-! PURE LAYER: answers that only read -/
theorem itn_lt {nx : Nat → Option Nat} (hn : ∀ t u, nx t = some u → u < 24) : ∀ k o, (∀ u, o = some u → u < 24) → ∀ u, itn nx k o = some u → u < 24
  | 0, _, h, u, e => h u e
  | k + 1, o, h, u, e => by
    refine itn_lt hn k (o.bind nx) (fun v hv => ?_) u e
    cases o with
    | none => cases hv
    | some z => exact hn z v hv
section ZQA
variable {w : Wd} {x m np : Nat}
theorem pt_cases (h : PicsR w x m np) (p y : Int32) : (∃ q a t r, q < np ∧ t < 24 ∧ p = nI q ∧ y = nI t ∧ fX5_pictureAt x p w = some (some a) ∧ fX1_rowOf a y w = some (some r) ∧ fX6_isThere m p y w = some (bi true) ∧ PicR w a m q ∧ mis w m q t = true ∧ zR w 1 a 1 t = some r ∧ RowR w r m (24 * q + t) t ∧ MRow w m (24 * q + t)) ∨ ((fX5_pictureAt x p w = some none ∨ ∃ a, fX5_pictureAt x p w = some (some a) ∧ fX1_rowOf a y w = some none) ∧ fX6_isThere m p y w = some (bi false)) := by
  have h' := h
  obtain ⟨h8, h1, h2, h3, h4⟩ := h
  rw [e_isThere m p y w h2 h8]
  rcases pic_cases h' p with ⟨q, a, hq, rfl, e1, e2, hR, -⟩ | ⟨e1, e2⟩
  · rw [inn_nI (by omega), decide_eq_true hq, cl_nI (by omega)]
    rcases inn_cases (x := y) (N := 24) (by decide) with ⟨e, t, ht, rfl⟩ | ⟨e, -⟩
    · rw [e, cl_nI (by omega)]
      cases hi : mis w m q t with
      | true =>
        obtain ⟨r, hr, hrr, hm⟩ := hR.2.1.row ht hi
        refine Or.inl ⟨q, a, t, r, hq, ht, rfl, rfl, e1, ?_, ?_, hR, hi, hr, hrr, hm⟩
        · rw [e_rowOf, e, if_pos rfl, cl_nI (by omega), hr]
        · have : (!decide (zI w 6 m 7 (24 * q + t) = 0)) = true := hi
          rw [this]; rfl
      | false =>
        refine Or.inr ⟨Or.inr ⟨a, e1, ?_⟩, ?_⟩
        · rw [e_rowOf, e, if_pos rfl, cl_nI (by omega), hR.2.1.no ht hi]
        · have : (!decide (zI w 6 m 7 (24 * q + t) = 0)) = false := hi
          rw [this]; rfl
    · refine Or.inr ⟨Or.inr ⟨a, e1, ?_⟩, ?_⟩
      · rw [e_rowOf, e]; rfl
      · rw [e]; rfl
  · refine Or.inr ⟨Or.inl e1, ?_⟩
    have e3 := e2
    rw [e_isPicture m p w h2 h8] at e3
    have : inn p np = false := by
      cases q : inn p np with
      | true => rw [q] at e3; exact absurd (Option.some.inj e3) (by decide)
      | false => rfl
    rw [this]; rfl
theorem q_foot (h : PicsR w x m np) (p y : Int32) : ∃ v, fX5_foot x p y w = some v ∧ fX6_foot m p y w = some v := by
  unfold fX5_foot fX5_foot_b19 fX6_foot fX6_foot_b36 fX1_footOf fX1_footOf_b17
  rcases pt_cases h p y with ⟨q, a, t, r, hq, ht, rfl, rfl, e1, e2, e3, hR, hi, hr, hrr, hm⟩ | ⟨e1, e3⟩
  · have h8 := h.1
    have hq8 : q < 8 := by omega
    have hA := c_await hR.2.1 hR.2.2.1
    have hn1 : ∀ t u, nxp w m q t = some u → u < 24 := fun t u e => (nxp_lt e).1
    have hN := m_next hq8 hR.2.1
    have hn : ∀ t u, nxp w m q t = some u → u < 24 ∧ mis w m q u = true := fun t u e => nxp_lt e
    have hc : fX1_footOf_l24 w 1000 a (nI t) 0 = some (sft (nxp w m q) 24 t) := l_cfoot hA hn1 24 1000 0 t rfl (by decide) ht
    have ha : fX6_after m (nI q) (nI t) 24 w = some (en (itn (nxp w m q) 24 (some t))) := l_after hN hn 24 (by decide) 24 1000 0 (some t) rfl (by decide) (fun u hu => by cases hu; exact ⟨ht, hi⟩)
    rw [e1, e3, bd_s, bd_s, oc_s, e2, bd_s, oc_s, bi_t, if_neg (show ¬ (1 : Int32) = 0 by decide), i_24, ckp_ix _ (by omega) (by decide), cl_nI (by omega), e_isWaiting, bd_s, hrr.2.2.2.2.1, hc, ha, bd_s]
    by_cases ew : zI w 6 m 11 (24 * q + t) = -1
    · rw [if_pos ew, decide_eq_true ew]; exact ⟨-1, rfl, rfl⟩
    · rw [if_neg ew, decide_eq_false ew]
      refine ⟨_, rfl, ?_⟩
      by_cases ei : itn (nxp w m q) 24 (some t) = none
      · rw [ei, if_pos (show en none = -1 from rfl)]
        exact l_mfoot hN hn 24 1000 t (by decide) (by decide) ht hi ei
      · rw [if_neg, sft_of _ _ _ ei]
        rw [en_m1 (fun u hu => itn_lt hn1 24 (some t) (fun v hv => by cases hv; exact ht) u hu)]
        exact ei
  · rw [e3]
    rcases e1 with e1 | ⟨a, e1, e2⟩
    · rw [e1]; exact ⟨-1, rfl, rfl⟩
    · rw [e1, bd_s, oc_s, e2]; exact ⟨-1, rfl, rfl⟩
theorem q_through (h : PicsR w x m np) (p y : Int32) : ∃ v, fX5_through x p y w = some v ∧ fX6_through m p y w = some v := by
  unfold fX5_through fX5_through_b18 fX5_through_b27 fX6_through
  rcases pt_cases h p y with ⟨q, a, t, r, hq, ht, rfl, rfl, e1, e2, e3, hR, hi, hr, hrr, hm⟩ | ⟨e1, e3⟩
  · have h8 := h.1
    have hq8 : q < 8 := by omega
    have hN := m_next hq8 hR.2.1
    have hn : ∀ t u, nxp w m q t = some u → u < 24 ∧ mis w m q u = true := fun t u e => nxp_lt e
    have hc : fX1_countThroughThread a (nI t) w = some _ := l_ctt w a t ht 24 1000 0 0 rfl (by decide) (by decide)
    have hmm : fX6_through_l16 w 1000 m (nI q) (nI t) 0 0 = some _ := l_mthr (is := mis w m q) (fun t _ => rfl) hq8 hN hn t ht 24 1000 0 0 rfl (by decide) (by decide)
    rw [e1, e3, bd_s, bd_s, oc_s, e2, bd_s, oc_s, hc, bd_s, bi_t, if_neg (show ¬ (1 : Int32) = 0 by decide), hmm]
    refine ⟨_, rfl, ?_⟩
    congr 2
    apply cntf_cong
    intro o _ ho
    rw [hR.2.2.2.1.1 o t (by omega) ht]
  · rw [e3]
    rcases e1 with e1 | ⟨a, e1, e2⟩
    · rw [e1]; exact ⟨-1, rfl, rfl⟩
    · rw [e1, bd_s, oc_s, e2]; exact ⟨-1, rfl, rfl⟩
theorem e_mweight (h : PicsR w x m np) {q a : Nat} (hq : q < np) (hR : PicR w a m q) {l : Nat} (hl : l < 16) : fX6_weightOf m (nI q) (nI l) w = some (nI (cntf (fun o => hb (zI w 1 a 4 o) l) 24 0 0)) := by
  have h8 := h.1
  have hq8 : q < 8 := by omega
  have hN := m_next hq8 hR.2.1
  have hn : ∀ t u, nxp w m q t = some u → u < 24 ∧ mis w m q u = true := fun t u e => nxp_lt e
  have hmm : fX6_weightOf m (nI q) (nI l) w = some _ := l_mwt (is := mis w m q) (mwa w m q) (fun t => rfl) (fun t _ => rfl) hq8 hN hn l 24 1000 0 0 rfl (by decide) (by decide)
  rw [hmm]
  congr 2
  apply cntf_cong
  intro o _ ho
  rw [hR.2.2.2.1.2 o l (by omega) hl]
theorem q_weight (h : PicsR w x m np) (p l : Int32) : ∃ v, fX5_weight x p l w = some v ∧ fX6_weight m p l w = some v := by
  unfold fX5_weight fX5_weight_b17 fX5_weight_b26 fX6_weight fX6_weight_b27 fX6_weight_b28
  rcases pic_cases h p with ⟨q, a, hq, rfl, e1, e2, hR, -⟩ | ⟨e1, e2⟩
  · rw [e1, e2, bd_s, bd_s, oc_s, bi_t, if_neg (show ¬ (1 : Int32) = 0 by decide), e_isLock, bd_s, e_lies15, bd_s]
    rcases inn_cases (x := l) (N := 16) (by decide) with ⟨e, l, hl, rfl⟩ | ⟨e, -⟩
    · rw [e, bi_t, if_neg (show ¬ (1 : Int32) = 0 by decide), if_neg (show ¬ (1 : Int32) = 0 by decide), e_ctl, e_mweight h hq hR hl]
      exact ⟨_, rfl, rfl⟩
    · rw [e]; exact ⟨-1, rfl, rfl⟩
  · rw [e1, e2]; exact ⟨-1, rfl, rfl⟩
theorem l_mgl (p : Nat) (f : Nat → Nat) (hf : ∀ l, l < 16 → fX6_weightOf m (nI p) (nI l) w = some (nI (f l))) (hf2 : ∀ l, l < 16 → f l ≤ 24) : ∀ k n b mx l, l + k = 16 → k < n → mx ≤ 24 → fX6_guilty_l17 w n m (nI p) b (nI mx) (nI l) = some (gst f k l b mx) := by
  intro k
  induction k with
  | zero =>
    intro n b mx l h1 h2 h3
    obtain ⟨n, rfl⟩ : ∃ n', n = n' + 1 := ⟨n - 1, by omega⟩
    show fX6_guilty_b17 w (fX6_guilty_l17 w n) m (nI p) b (nI mx) (nI l) = _
    unfold fX6_guilty_b17
    rw [if_pos (show (16 : Int32) ≤ nI l from nI_le (a := 16) (by omega) (by omega))]
    rfl
  | succ k ih =>
    intro n b mx l h1 h2 h3
    obtain ⟨n, rfl⟩ : ∃ n', n = n' + 1 := ⟨n - 1, by omega⟩
    show fX6_guilty_b17 w (fX6_guilty_l17 w n) m (nI p) b (nI mx) (nI l) = _
    unfold fX6_guilty_b17 fX6_guilty_b48 gst
    have h24 := hf2 l (by omega)
    rw [if_neg (show ¬ (16 : Int32) ≤ nI l from nI_ge (b := 16) (by omega) (by decide)), hf l (by omega), bd_s, nI_1]
    by_cases e : mx < f l
    · rw [if_pos (by rw [i_lt (by omega) (by omega)]; exact e), if_neg (by omega)]; exact ih n (nI l) (f l) (l + 1) (by omega) (by omega) (by omega)
    · rw [if_neg (by rw [i_lt (by omega) (by omega)]; exact e), if_pos (by omega)]; exact ih n b mx (l + 1) (by omega) (by omega) (by omega)
theorem q_guilty (h : PicsR w x m np) (p : Int32) : ∃ v, fX5_guilty x p w = some v ∧ fX6_guilty m p w = some v := by
  unfold fX5_guilty fX5_guilty_b18 fX6_guilty
  rcases pic_cases h p with ⟨q, a, hq, rfl, e1, e2, hR, -⟩ | ⟨e1, e2⟩
  · have hle : ∀ l, l < 16 → cntf (fun o => hb (zI w 1 a 4 o) l) 24 0 0 ≤ 24 := fun l _ => by
      have := cntf_le (fun o => hb (zI w 1 a 4 o) l) 24 0 0
      omega
    have hc : fX1_guiltyLock a w = some _ := l_cgl w a (fun l => cntf (fun o => hb (zI w 1 a 4 o) l) 24 0 0) (fun l _ => e_ctl w a l) hle 16 1000 (-1) 0 0 rfl (by decide) (by decide)
    have hm : fX6_guilty_l17 w 1000 m (nI q) (-1) 0 0 = some _ := l_mgl q (fun l => cntf (fun o => hb (zI w 1 a 4 o) l) 24 0 0) (fun l hl => e_mweight h hq hR hl) hle 16 1000 (-1) 0 0 rfl (by decide) (by decide)
    rw [e1, e2, bd_s, bd_s, oc_s, bi_t, if_neg (show ¬ (1 : Int32) = 0 by decide), hc, hm]
    exact ⟨_, rfl, rfl⟩
  · rw [e1, e2]; exact ⟨-1, rfl, rfl⟩
theorem q_look (h : PicsR w x m np) (p y z : Int32) : ∃ v, fX5_look x p y z w = some v ∧ fX6_look m p y z w = some v := by
  unfold fX5_look fX5_look_b101 fX6_look fX5_rowAt fX5_rowAt_b19
  rcases pt_cases h p y with ⟨q, a, t, r, hq, ht, rfl, rfl, e1, e2, e3, hR, hi, hr, hrr, hm⟩ | ⟨e1, e3⟩
  · have h8 := h.1
    obtain ⟨-, -, ⟨n, hn, en'⟩, -⟩ := hm
    rw [e1, e3, bd_s, bd_s, oc_s, e2, bd_s, bd_s, oc_s, bi_t, if_neg (show ¬ (1 : Int32) = 0 by decide), i_24, ckp_ix _ (by omega) (by decide), cl_nI (by omega), en', e_lies _ _ (by omega), bd_s, ckp_ix _ (by omega) (by decide), ckp_ix _ (by omega) (by decide), ckp_ix _ (by omega) (by decide), ckp_ix _ (by omega) (by decide), ckp_ix _ (by omega) (by decide)]
    have hc6 : zI w 2 r 6 0 = nI n := by rw [hrr.2.2.2.2.2.1, en']
    rcases inn_cases (x := z - 10) (N := n) (by omega) with ⟨e, j, hj, ej⟩ | ⟨e, eo⟩
    · have ez : z = nI (j + 10) := by
        have : z = (z - 10) + 10 := by simp
        rw [this, ej]; exact nI_add j 10
      subst ez
      rw [e, bi_t, if_neg (show ¬ (1 : Int32) = 0 by decide)]
      rw [if_neg (show ¬ nI (j + 10) = 0 by rw [q0, i_eq (by omega) (by omega)]; omega), if_neg (show ¬ nI (j + 10) = 1 by rw [q1, i_eq (by omega) (by omega)]; omega), if_neg (show ¬ nI (j + 10) = 2 by rw [q2, i_eq (by omega) (by omega)]; omega), if_neg (show ¬ nI (j + 10) = 3 by rw [q3, i_eq (by omega) (by omega)]; omega), if_neg (show ¬ nI (j + 10) = 4 by rw [q4, i_eq (by omega) (by omega)]; omega), if_pos (show (10 : Int32) ≤ nI (j + 10) from nI_le (a := 10) (by omega) (by omega)), ej]
      have ei : 12 * nI (24 * q + t) + nI (j + 10) - 10 = nI (12 * (24 * q + t) + j) := by
        rw [q12, pk_mul, nI_add, show (10 : Int32) = nI 10 from rfl, pk_sub (by omega)]
        congr 1
      rw [ei, ckp_ix _ (by omega) (by decide), cl_nI (by omega)]
      unfold fX2_callAt fX2_callAt_b22 fX2_callAt_b12
      rw [if_neg (show ¬ nI j < 0 from nI_pos (by omega)), hc6, if_pos (by rw [i_lt (by omega) (by omega)]; exact hj), ckp_ix _ (by omega) (by decide), cl_nI (by omega), bd_s]
      refine ⟨_, rfl, ?_⟩
      congr 1
      symm
      refine hrr.2.2.2.2.2.2 j ?_
      unfold mma
      rw [en', cl_nI (by omega)]
      exact hj
    · rw [e, bi_f, if_pos rfl, hrr.2.1, hrr.2.2.1, hrr.2.2.2.1, hrr.2.2.2.2.1, hc6]
      have hcall : (if (10 : Int32) ≤ z then bd (fX2_callAt r (z - 10) w) (fun y => some y) else some (-1)) = some (-1 : Int32) := by
        unfold fX2_callAt fX2_callAt_b12 fX2_callAt_b22
        by_cases e10 : (10 : Int32) ≤ z
        · rw [if_pos e10]
          by_cases e0 : z - 10 < 0
          · rw [if_pos e0]; rfl
          · rw [if_neg e0, hc6, if_neg (i_nlt (eo.resolve_left e0))]; rfl
        · rw [if_neg e10]
      rw [hcall]
      by_cases c0 : z = 0
      · rw [if_pos c0]; exact ⟨_, rfl, rfl⟩
      rw [if_neg c0]
      by_cases c1 : z = 1
      · rw [if_pos c1]; exact ⟨_, rfl, rfl⟩
      rw [if_neg c1]
      by_cases c2 : z = 2
      · rw [if_pos c2]; exact ⟨_, rfl, rfl⟩
      rw [if_neg c2]
      by_cases c3 : z = 3
      · rw [if_pos c3]; exact ⟨_, rfl, rfl⟩
      rw [if_neg c3]
      by_cases c4 : z = 4
      · rw [if_pos c4]; exact ⟨_, rfl, rfl⟩
      rw [if_neg c4]
      exact ⟨_, rfl, rfl⟩
  · rw [e3]
    rcases e1 with e1 | ⟨a, e1, e2⟩
    · rw [e1]; exact ⟨-1, rfl, rfl⟩
    · rw [e1, bd_s, oc_s, e2]; exact ⟨-1, rfl, rfl⟩
end ZQA
