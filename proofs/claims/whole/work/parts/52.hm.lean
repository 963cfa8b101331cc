/-! PURE LAYER: the reference's heaps -/
def S30 (m : Nat) (c a k _ : Nat) : Prop := c = 6 ∧ a = m ∧ (k = 29 ∨ k = 30)
def smf (lo : Nat → Nat) : Nat → Nat
  | 0 => 0
  | k + 1 => smf lo k + lo k
theorem smf_upd (lo : Nat → Nat) (t v : Nat) (h : v < lo t) : ∀ k, (k ≤ t → smf (fun z => if z = t then v else lo z) k = smf lo k) ∧ (t < k → smf (fun z => if z = t then v else lo z) k < smf lo k)
  | 0 => ⟨fun _ => rfl, fun q => by omega⟩
  | k + 1 => by
    have ih := smf_upd lo t v h k
    unfold smf
    constructor
    · intro q
      rw [if_neg (show ¬ k = t by omega)]
      have := ih.1 (by omega)
      omega
    · intro q
      by_cases e : k = t
      · rw [if_pos e]
        have := ih.1 (by omega)
        subst e
        omega
      · rw [if_neg e]
        have := ih.2 (by omega)
        omega
section ZHM
variable {w : Wd} {m p d : Nat}
theorem mis_fr {v : Wd} (h : Fr (S30 m) w v) : mis v m p = mis w m p := by
  funext t
  unfold mis
  rw [h.1 6 m 7 _ (by unfold S30; omega)]
theorem mca_fr {v : Wd} (h : Fr (S30 m) w v) (j : Nat) : mca v m j = mca w m j := by
  funext t
  unfold mca
  rw [h.1 6 m 13 _ (by unfold S30; omega)]
theorem mma_fr {v : Wd} (h : Fr (S30 m) w v) (j : Nat) : mma v m j = mma w m j := by
  unfold mma
  rw [h.1 6 m 12 _ (by unfold S30; omega)]
theorem dst_fr {v : Wd} (h : Fr (S30 m) w v) (j k : Nat) : dst v m j k = dst w m j k := by
  unfold dst
  rw [mca_fr h, mca_fr h, mma_fr h, mma_fr h]
def Aho (w : Wd) (m p d : Nat) (v : Wd) (lo : Nat → Nat) : Prop := Fr (S30 m) w v ∧ (∀ t, t < 24 → zI v 6 m 30 t = nI (lo t)) ∧ ∀ t, t < 24 → lo t ≤ t ∧ Rch (Nea w m p d) t (lo t)
def Jho (w : Wd) (m p d S0 : Nat) (v : Wd) (f : Bool) (t u : Nat) : Prop := ∃ lo, Aho w m p d v lo ∧ smf lo 24 ≤ S0 ∧ (f = true → smf lo 24 < S0) ∧ (f = false → ∀ t' u', t' < 24 → u' < 24 → (t' < t ∨ (t' = t ∧ u' < u)) → Nea w m p d t' u' → lo t' ≤ lo u')
/-- every row that is there has at most twelve calls -/
def MOk (w : Wd) (m p : Nat) : Prop := ∀ t, t < 24 → mis w m p t = true → ∃ n, n ≤ 12 ∧ zI w 6 m 12 (24 * p + t) = nI n
theorem l_h42 (hp : p < 8) (hd : d ≤ 24) (hM : MOk w m p) (S0 t : Nat) (ht : t < 24) (rec23 : Nat → Int32 → Int32 → Int32 → Wd → Option Wd) (rec32 : Nat → Int32 → Int32 → Int32 → Int32 → Wd → Option Wd) : ∀ k n u v f, u + k = 24 → k < n → Jho w m p d S0 v f t u → ∃ v' f', Jho w m p d S0 v' f' (t + 1) 0 ∧ fX6_hangs_l42 rec23 rec32 n m (nI p) (nI d) (bi f) (nI t) (nI u) v = rec32 m (nI p) (nI d) (bi f') (nI (t + 1)) v' := by
  intro k
  induction k with
  | zero =>
    intro n u v f h1 h2 hJ
    obtain ⟨n, rfl⟩ : ∃ n', n = n' + 1 := ⟨n - 1, by omega⟩
    refine ⟨v, f, ?_, ?_⟩
    · obtain ⟨lo, hA, hs, hs2, hc⟩ := hJ
      exact ⟨lo, hA, hs, hs2, fun hf t' u' h3 h4 h5 => hc hf t' u' h3 h4 (by omega)⟩
    · show fX6_hangs_b42 rec23 rec32 (fX6_hangs_l42 rec23 rec32 n) m (nI p) (nI d) (bi f) (nI t) (nI u) v = _
      unfold fX6_hangs_b42
      rw [if_pos (show (24 : Int32) ≤ nI u from nI_le (a := 24) (by omega) (by omega)), nI_1]
  | succ k ih =>
    intro n u v f h1 h2 hJ
    obtain ⟨n, rfl⟩ : ∃ n', n = n' + 1 := ⟨n - 1, by omega⟩
    obtain ⟨lo, hA, hs, hs2, hc⟩ := hJ
    obtain ⟨hF, hL, hlo⟩ := hA
    have skip : ∀ v1, Fr (S30 m) w v1 → (∀ t, t < 24 → zI v1 6 m 30 t = nI (lo t)) → (Nea w m p d t u → lo t ≤ lo u) → ∃ v' f', Jho w m p d S0 v' f' (t + 1) 0 ∧ fX6_hangs_l42 rec23 rec32 n m (nI p) (nI d) (bi f) (nI t) (nI (u + 1)) v1 = rec32 m (nI p) (nI d) (bi f') (nI (t + 1)) v' := by
      intro v1 hF1 hL1 hno
      refine ih n (u + 1) v1 f (by omega) (by omega) ⟨lo, ⟨hF1, hL1, hlo⟩, hs, hs2, fun hf t' u' h3 h4 h5 hN => ?_⟩
      by_cases e : t' = t ∧ u' = u
      · rw [e.1, e.2] at hN ⊢; exact hno hN
      · exact hc hf t' u' h3 h4 (by omega) hN
    have hlt := (hlo t ht).1
    have hlu := (hlo u (by omega)).1
    show ∃ v' f', _ ∧ fX6_hangs_b42 rec23 rec32 (fX6_hangs_l42 rec23 rec32 n) m (nI p) (nI d) (bi f) (nI t) (nI u) v = _
    unfold fX6_hangs_b42 fX6_hangs_b137
    rw [if_neg (show ¬ (24 : Int32) ≤ nI u from nI_ge (b := 24) (by omega) (by decide)), ckp_ix _ (show u < 24 by omega) (by decide), ckp_ix _ ht (by decide), cl_nI (by omega), cl_nI (by omega), hL t ht, hL u (by omega), nI_1]
    by_cases e : lo t ≤ lo u
    · rw [if_pos (by rw [i_le (by omega) (by omega)]; exact e)]
      exact skip v hF hL (fun _ => e)
    rw [if_neg (by rw [i_le (by omega) (by omega)]; exact e), i_24, i_24, ckp_ix _ (by omega) (by decide), ckp_ix _ (by omega) (by decide), cl_nI (by omega), cl_nI (by omega), hF.1 6 m 7 _ (by unfold S30; omega), hF.1 6 m 7 _ (by unfold S30; omega)]
    by_cases e1 : zI w 6 m 7 (24 * p + t) = 0
    · rw [if_pos e1]
      exact skip v hF hL (fun q => by have := q.2.2.1; simp [mis, e1] at this)
    have hi1 : mis w m p t = true := by simp [mis, e1]
    rw [if_neg e1]
    by_cases e2 : zI w 6 m 7 (24 * p + u) = 0
    · rw [if_pos e2]
      exact skip v hF hL (fun q => by have := q.2.2.2.1; simp [mis, e2] at this)
    have hi2 : mis w m p u = true := by simp [mis, e2]
    rw [if_neg e2]
    obtain ⟨n1, hn1, en1⟩ := hM t ht hi1
    obtain ⟨n2, hn2, en2⟩ := hM u (by omega) hi2
    obtain ⟨v1, hF1, hv1⟩ := e_mdist (w := v) (m := m) (j := 24 * p + t) (k := 24 * p + u) (by omega) (by omega) hn1 hn2 (by rw [hF.1 6 m 12 _ (by unfold S30; omega)]; exact en1) (by rw [hF.1 6 m 12 _ (by unfold S30; omega)]; exact en2)
    have hF1' : Fr (S30 m) w v1 := hF.trans (hF1.mono (fun c a k j q => ⟨q.1, q.2.1, Or.inl q.2.2⟩))
    have hL1 : ∀ t, t < 24 → zI v1 6 m 30 t = nI (lo t) := fun t ht => by rw [hF1.1 6 m 30 _ (by unfold S29; omega)]; exact hL t ht
    have hdl := dst_lt w m (24 * p + t) (24 * p + u) hn1 hn2 en1 en2
    rw [hv1, bd2_s, dst_fr hF]
    by_cases ed : dst w m (24 * p + t) (24 * p + u) ≤ d
    · rw [if_pos (by rw [i_le (by omega) (by omega)]; exact ed), ckp_ix _ (show u < 24 by omega) (by decide), ckp_ix _ ht (by decide), lt_e, hL1 u (by omega)]
      have hN : Nea w m p d t u := ⟨ht, by omega, hi1, hi2, ed⟩
      have hsm := (smf_upd lo t (lo u) (by omega) 24).2 ht
      refine ih n (u + 1) (sI v1 6 m 30 t (nI (lo u))) true (by omega) (by omega) ⟨fun z => if z = t then lo u else lo z, ⟨hF1'.set _ ⟨rfl, rfl, Or.inr rfl⟩, ?_, ?_⟩, ?_, ?_, ?_⟩
      · intro z hz
        show zI (sI v1 6 m 30 t (nI (lo u))) 6 m 30 z = nI (if z = t then lo u else lo z)
        rw [zI_sI]
        by_cases q : z = t
        · rw [if_pos ⟨rfl, rfl, rfl, q⟩, if_pos q]
        · rw [if_neg (fun y => q y.2.2.2), if_neg q]; exact hL1 z hz
      · intro z hz
        show (if z = t then lo u else lo z) ≤ z ∧ Rch (Nea w m p d) z (if z = t then lo u else lo z)
        by_cases q : z = t
        · rw [if_pos q, q]
          exact ⟨by omega, ((Rch.refl t).tail hN).trans (hlo u (by omega)).2⟩
        · rw [if_neg q]; exact hlo z hz
      · omega
      · intro _; omega
      · intro q; cases q
    · rw [if_neg (by rw [i_le (by omega) (by omega)]; exact ed)]
      exact skip v1 hF1' hL1 (fun q => absurd q.2.2.2.2 ed)
theorem l_h32 (hp : p < 8) (hd : d ≤ 24) (hM : MOk w m p) (S0 : Nat) (rec23 : Nat → Int32 → Int32 → Int32 → Wd → Option Wd) : ∀ k n t v f, t + k = 24 → k < n → Jho w m p d S0 v f t 0 → ∃ v' f', Jho w m p d S0 v' f' 24 0 ∧ fX6_hangs_l32 rec23 n m (nI p) (nI d) (bi f) (nI t) v = rec23 m (nI p) (nI d) (bi f') v' := by
  intro k
  induction k with
  | zero =>
    intro n t v f h1 h2 hJ
    obtain ⟨n, rfl⟩ : ∃ n', n = n' + 1 := ⟨n - 1, by omega⟩
    refine ⟨v, f, ?_, ?_⟩
    · rw [show 24 = t by omega]; exact hJ
    · show fX6_hangs_b32 rec23 (fX6_hangs_l32 rec23 n) m (nI p) (nI d) (bi f) (nI t) v = _
      unfold fX6_hangs_b32
      rw [if_pos (show (24 : Int32) ≤ nI t from nI_le (a := 24) (by omega) (by omega))]
  | succ k ih =>
    intro n t v f h1 h2 hJ
    obtain ⟨n, rfl⟩ : ∃ n', n = n' + 1 := ⟨n - 1, by omega⟩
    obtain ⟨v1, f1, hJ1, e1⟩ := l_h42 hp hd hM S0 t (by omega) rec23 (fX6_hangs_l32 rec23 n) 24 1000 0 v f rfl (by decide) hJ
    obtain ⟨v2, f2, hJ2, e2⟩ := ih n (t + 1) v1 f1 (by omega) (by omega) hJ1
    refine ⟨v2, f2, hJ2, ?_⟩
    show fX6_hangs_b32 rec23 (fX6_hangs_l32 rec23 n) m (nI p) (nI d) (bi f) (nI t) v = _
    unfold fX6_hangs_b32
    rw [if_neg (show ¬ (24 : Int32) ≤ nI t from nI_ge (b := 24) (by omega) (by decide)), ← e2, ← e1]
    rfl
theorem l_h23 (hp : p < 8) (hd : d ≤ 24) (hM : MOk w m p) : ∀ s n v lo, Aho w m p d v lo → smf lo 24 ≤ s → s + 1 < n → ∃ v' lo', Aho w m p d v' lo' ∧ (∀ t u, Nea w m p d t u → lo' t ≤ lo' u) ∧ fX6_hangs_l23 n m (nI p) (nI d) 1 v = some v' := by
  intro s
  induction s with
  | zero =>
    intro n v lo hA hs hn
    obtain ⟨n, rfl⟩ : ∃ n', n = n' + 1 + 1 := ⟨n - 2, by omega⟩
    obtain ⟨v1, f1, ⟨lo1, hA1, hs1, hs2, hc⟩, e1⟩ := l_h32 hp hd hM (smf lo 24) (fX6_hangs_l23 (n + 1)) 24 1000 0 v false rfl (by decide) ⟨lo, hA, Nat.le_refl _, (fun q => by cases q), (fun _ t' u' h1 h2 h3 => by omega)⟩
    cases f1 with
    | true => have := hs2 rfl; omega
    | false =>
      refine ⟨v1, lo1, hA1, fun t u hN => hc rfl t u hN.1 hN.2.1 (Or.inl hN.1) hN, ?_⟩
      show fX6_hangs_b23 (fX6_hangs_l23 (n + 1)) m (nI p) (nI d) 1 v = _
      unfold fX6_hangs_b23
      rw [if_neg (show ¬ (1 : Int32) = 0 by decide)]
      exact e1
  | succ s ih =>
    intro n v lo hA hs hn
    obtain ⟨n, rfl⟩ : ∃ n', n = n' + 1 + 1 := ⟨n - 2, by omega⟩
    obtain ⟨v1, f1, ⟨lo1, hA1, hs1, hs2, hc⟩, e1⟩ := l_h32 hp hd hM (smf lo 24) (fX6_hangs_l23 (n + 1)) 24 1000 0 v false rfl (by decide) ⟨lo, hA, Nat.le_refl _, (fun q => by cases q), (fun _ t' u' h1 h2 h3 => by omega)⟩
    have e0 : fX6_hangs_l23 (n + 1 + 1) m (nI p) (nI d) 1 v = fX6_hangs_l23 (n + 1) m (nI p) (nI d) (bi f1) v1 := by
      show fX6_hangs_b23 (fX6_hangs_l23 (n + 1)) m (nI p) (nI d) 1 v = _
      unfold fX6_hangs_b23
      rw [if_neg (show ¬ (1 : Int32) = 0 by decide)]
      exact e1
    rw [e0]
    cases f1 with
    | true =>
      have := hs2 rfl
      exact ih (n + 1) v1 lo1 hA1 (by omega) (by omega)
    | false => exact ⟨v1, lo1, hA1, fun t u hN => hc rfl t u hN.1 hN.2.1 (Or.inl hN.1) hN, rfl⟩
theorem l_h2 (hp : p < 8) (hd : d ≤ 24) (hM : MOk w m p) : ∀ k n t v, t + k = 24 → k < n → Fr (S30 m) w v → (∀ u, u < t → zI v 6 m 30 u = nI u) → ∃ v' lo', Aho w m p d v' lo' ∧ (∀ t u, Nea w m p d t u → lo' t ≤ lo' u) ∧ fX6_hangs_l2 n m (nI p) (nI d) (nI t) v = some v' := by
  intro k
  induction k with
  | zero =>
    intro n t v h1 h2 hF hL
    obtain ⟨n, rfl⟩ : ∃ n', n = n' + 1 := ⟨n - 1, by omega⟩
    obtain ⟨v', lo', g1, g2, g3⟩ := l_h23 hp hd hM 300 1000 v (fun t => t) ⟨hF, fun u hu => hL u (by omega), fun t _ => ⟨Nat.le_refl _, Rch.refl t⟩⟩ (by decide) (by decide)
    refine ⟨v', lo', g1, g2, ?_⟩
    show fX6_hangs_b2 (fX6_hangs_l2 n) m (nI p) (nI d) (nI t) v = _
    unfold fX6_hangs_b2
    rw [if_pos (show (24 : Int32) ≤ nI t from nI_le (a := 24) (by omega) (by omega))]
    exact g3
  | succ k ih =>
    intro n t v h1 h2 hF hL
    obtain ⟨n, rfl⟩ : ∃ n', n = n' + 1 := ⟨n - 1, by omega⟩
    obtain ⟨v', lo', g1, g2, g3⟩ := ih n (t + 1) (sI v 6 m 30 t (nI t)) (by omega) (by omega) (hF.set _ ⟨rfl, rfl, Or.inr rfl⟩) (fun u hu => by
      rw [zI_sI]
      by_cases q : u = t
      · rw [if_pos ⟨rfl, rfl, rfl, q⟩, q]
      · rw [if_neg (fun y => q y.2.2.2)]; exact hL u (by omega))
    refine ⟨v', lo', g1, g2, ?_⟩
    show fX6_hangs_b2 (fX6_hangs_l2 n) m (nI p) (nI d) (nI t) v = _
    unfold fX6_hangs_b2
    rw [if_neg (show ¬ (24 : Int32) ≤ nI t from nI_ge (b := 24) (by omega) (by decide)), ckp_ix _ (by omega) (by decide), cl_nI (by omega), lt_e, nI_1]
    exact g3
theorem e_hangs (hp : p < 8) (hd : d ≤ 24) (hM : MOk w m p) : ∃ v' lo', Aho w m p d v' lo' ∧ (∀ t u, t < 24 → u < 24 → Rch (Nea w m p d) t u → lo' t ≤ u) ∧ fX6_hangs m (nI p) (nI d) w = some v' := by
  obtain ⟨v', lo', g1, g2, g3⟩ := l_h2 hp hd hM 24 1000 0 w rfl (by decide) (Fr.refl w) (fun u hu => by omega)
  refine ⟨v', lo', g1, fun t u ht hu hr => ?_, g3⟩
  have := hr (fun z => z < 24 ∧ lo' t ≤ lo' z) ⟨ht, Nat.le_refl _⟩ (fun x y hx he => ⟨he.2.1, Nat.le_trans hx.2 (g2 x y he)⟩)
  exact Nat.le_trans this.2 (g1.2.2 u hu).1
theorem l_chp {a : Nat} (hR : PRows w a m p) (hD : PDst w a m p) (hd : d ≤ 24) (lo : Nat → Nat) (h1 : ∀ t, t < 24 → lo t ≤ t ∧ Rch (Nea w m p d) t (lo t)) (h2 : ∀ t u, t < 24 → u < 24 → Rch (Nea w m p d) t u → lo t ≤ u) : ∀ k n c h t, t + k = 24 → k < n → c + k ≤ 100 → (∀ u, u < 32 → (hb h u = true ↔ u < 24 ∧ ∃ s, s < t ∧ mis w m p s = true ∧ Rch (Nea w m p d) s u)) → fX1_countHeaps_l7 w n a (nI d) (nI c) h (nI t) = some (nI (cntf (fun t => mis w m p t && decide (lo t = t)) k t c)) := by
  intro k
  induction k with
  | zero =>
    intro n c h t e1 e2 e3 hh
    obtain ⟨n, rfl⟩ : ∃ n', n = n' + 1 := ⟨n - 1, by omega⟩
    show fX1_countHeaps_b7 w (fX1_countHeaps_l7 w n) a (nI d) (nI c) h (nI t) = _
    unfold fX1_countHeaps_b7
    rw [if_pos (show (24 : Int32) ≤ nI t from nI_le (a := 24) (by omega) (by omega))]
    rfl
  | succ k ih =>
    intro n c h t e1 e2 e3 hh
    obtain ⟨n, rfl⟩ : ∃ n', n = n' + 1 := ⟨n - 1, by omega⟩
    show fX1_countHeaps_b7 w (fX1_countHeaps_l7 w n) a (nI d) (nI c) h (nI t) = _
    unfold fX1_countHeaps_b7 fX1_countHeaps_b46 cntf
    rw [if_neg (show ¬ (24 : Int32) ≤ nI t from nI_ge (b := 24) (by omega) (by decide)), ckp_ix _ (by omega) (by decide), cl_nI (by omega), lt_e, nI_1, nI_1]
    cases hi : mis w m p t with
    | false =>
      rw [hR.no (by omega) hi, oc_n, if_neg (by simp)]
      refine ih n c h (t + 1) (by omega) (by omega) (by omega) (fun u hu => ?_)
      rw [hh u hu]
      constructor
      · rintro ⟨q, s, h3, h4⟩; exact ⟨q, s, by omega, h4⟩
      · rintro ⟨q, s, h3, h4⟩
        refine ⟨q, s, ?_, h4⟩
        by_cases z : s = t
        · subst z; rw [hi] at h4; cases h4.1
        · omega
    | true =>
      obtain ⟨r, hr, -, -⟩ := hR.row (by omega) hi
      rw [hr, oc_s, e_hasBit, bd_s]
      cases hb' : hb h t with
      | true =>
        rw [bi_t, if_neg (show ¬ (1 : Int32) = 0 by decide)]
        obtain ⟨-, s, h3, h4, h5⟩ := (hh t (by omega)).mp hb'
        have := h2 t s (by omega) (by omega) (h5.symm (fun x y q => q.symm))
        rw [if_neg (by simp; omega)]
        refine ih n c h (t + 1) (by omega) (by omega) (by omega) (fun u hu => ?_)
        rw [hh u hu]
        constructor
        · rintro ⟨q, s, h3, h4⟩; exact ⟨q, s, by omega, h4⟩
        · rintro ⟨q, s', h3', h4'⟩
          by_cases z : s' = t
          · subst z; exact ⟨q, s, h3, h4, h5.trans h4'.2⟩
          · exact ⟨q, s', by omega, h4'⟩
      | false =>
        rw [bi_f, if_pos rfl]
        have hlo : lo t = t := by
          have h3 := h1 t (by omega)
          by_cases z : lo t = t
          · exact z
          · exfalso
            have h4 : mis w m p (lo t) = true := h3.2 (fun z => mis w m p z = true) hi (fun x y _ q => q.2.2.2.1)
            have := (hh t (by omega)).mpr ⟨by omega, lo t, by omega, h4, h3.2.symm (fun x y q => q.symm)⟩
            rw [hb'] at this; cases this
        obtain ⟨v, ev, hv⟩ := e_heap hR hD hd t (by omega) hi
        rw [if_pos (by simp [hlo]), ev, bd_s]
        refine ih n (c + 1) (h ||| v) (t + 1) (by omega) (by omega) (by omega) (fun u hu => ?_)
        rw [hb_or hu, Bool.or_eq_true, hh u hu, hv u hu]
        constructor
        · rintro (⟨q, s, h3, h4⟩ | ⟨q, h3⟩)
          · exact ⟨q, s, by omega, h4⟩
          · exact ⟨q, t, by omega, hi, h3⟩
        · rintro ⟨q, s, h3, h4, h5⟩
          by_cases z : s = t
          · subst z; exact Or.inr ⟨q, h5⟩
          · exact Or.inl ⟨q, s, by omega, h4, h5⟩
theorem l_mhp (hp : p < 8) (lo : Nat → Nat) (v : Wd) (hA : Aho w m p d v lo) : ∀ k n c t, t + k = 24 → k < n → c + k ≤ 100 → fX6_heaps_l31 n m (nI p) (nI c) (nI t) v = some (nI (cntf (fun t => mis w m p t && decide (lo t = t)) k t c), v) := by
  intro k
  induction k with
  | zero =>
    intro n c t e1 e2 e3
    obtain ⟨n, rfl⟩ : ∃ n', n = n' + 1 := ⟨n - 1, by omega⟩
    show fX6_heaps_b31 (fX6_heaps_l31 n) m (nI p) (nI c) (nI t) v = _
    unfold fX6_heaps_b31
    rw [if_pos (show (24 : Int32) ≤ nI t from nI_le (a := 24) (by omega) (by omega))]
    rfl
  | succ k ih =>
    intro n c t e1 e2 e3
    obtain ⟨n, rfl⟩ : ∃ n', n = n' + 1 := ⟨n - 1, by omega⟩
    show fX6_heaps_b31 (fX6_heaps_l31 n) m (nI p) (nI c) (nI t) v = _
    unfold fX6_heaps_b31 fX6_heaps_b70 fX6_heaps_b71 cntf
    have hl := (hA.2.2 t (by omega)).1
    rw [if_neg (show ¬ (24 : Int32) ≤ nI t from nI_ge (b := 24) (by omega) (by decide)), i_24, ckp_ix _ (by omega) (by decide), cl_nI (by omega), ckp_ix _ (show t < 24 by omega) (by decide), cl_nI (by omega), nI_1, nI_1, show nI c + 0 = nI c from nI_add c 0, hA.1.1 6 m 7 _ (by unfold S30; omega), hA.2.1 t (by omega)]
    by_cases e : zI w 6 m 7 (24 * p + t) = 0
    · rw [if_pos e, if_neg (show ¬ (mis w m p t && decide (lo t = t)) = true by simp [mis, e])]
      exact ih n c (t + 1) (by omega) (by omega) (by omega)
    · rw [if_neg e]
      by_cases e2 : lo t = t
      · rw [if_pos (by rw [e2]), if_pos (show (mis w m p t && decide (lo t = t)) = true by simp [mis, e, e2])]
        exact ih n (c + 1) (t + 1) (by omega) (by omega) (by omega)
      · rw [if_neg (by rw [i_eq (by omega) (by omega)]; exact e2), if_neg (show ¬ (mis w m p t && decide (lo t = t)) = true by simp [e2])]
        exact ih n c (t + 1) (by omega) (by omega) (by omega)
end ZHM
theorem e_lies24 (x : Int32) (w : Wd) : fX6_lies x 0 24 w = some (bi (inn x 25)) := e_lies x w (n := 25) (by decide)
section ZHQ
variable {w : Wd} {x m np : Nat}
theorem PRows.mok {a q : Nat} (h : PRows w a m q) : MOk w m q := fun t ht hi => by
  obtain ⟨r, -, -, hm⟩ := h.row ht hi
  exact hm.2.2.1
theorem q_distance (h : PicsR w x m np) (p y z : Int32) : ∃ v w', fX5_distance x p y z w = some v ∧ fX6_distance m p y z w = some (v, w') ∧ Fr (S30 m) w w' := by
  have h8 := h.1
  unfold fX5_distance fX5_distance_b30 fX6_distance fX6_distance_b37 fX6_distance_b38
  rcases pt_cases h p y with ⟨p, a, t, r, hp, ht, rfl, rfl, e1, e2, e3, hR1, hi1, hr1, hrr1, hm1⟩ | ⟨e1, e3⟩
  · rcases pt_cases h (nI p) z with ⟨q, b, u, r', hq, hu, epq, rfl, g1, g2, g3, hR2, hi2, hr2, hrr2, hm2⟩ | ⟨g1, g3⟩
    · have ett : p = q := by rw [i_eq (by omega) (by omega)] at epq; exact epq
      subst ett
      have eab : a = b := by rw [e1] at g1; exact Option.some.inj (Option.some.inj g1)
      subst eab
      obtain ⟨-, -, ⟨n1, hn1, en1⟩, -⟩ := hm1
      obtain ⟨-, -, ⟨n2, hn2, en2⟩, -⟩ := hm2
      obtain ⟨v1, hF1, hv1⟩ := e_mdist (w := w) (m := m) (j := 24 * p + t) (k := 24 * p + u) (by omega) (by omega) hn1 hn2 en1 en2
      rw [e1, bd_s, oc_s, e2, bd_s, oc_s, g2, bd_s, oc_s, e_cdist t u ht hu, bd_s, e3, bd_s, bi_t, if_neg (show ¬ (1 : Int32) = 0 by decide), g3, bd_s, bi_t, if_neg (show ¬ (1 : Int32) = 0 by decide), i_24, i_24, hv1, bd2_s, hR1.2.2.2.2.1 t u ht hu hi1 hi2]
      exact ⟨_, v1, rfl, rfl, hF1.mono (fun c a k j q => ⟨q.1, q.2.1, Or.inl q.2.2⟩)⟩
    · refine ⟨-1, w, ?_, ?_, Fr.refl w⟩
      · rw [e1, bd_s, oc_s, e2, bd_s, oc_s]
        rcases g1 with g1 | ⟨b, g1, g2⟩
        · rw [e1] at g1; cases g1
        · have eab : a = b := by rw [e1] at g1; exact Option.some.inj (Option.some.inj g1)
          subst eab
          rw [g2]; rfl
      · rw [e3, g3]; rfl
  · refine ⟨-1, w, ?_, ?_, Fr.refl w⟩
    · rcases e1 with e1 | ⟨a, e1, e2⟩
      · rw [e1]; rfl
      · rw [e1, bd_s, oc_s, e2]; rfl
    · rw [e3]; rfl
theorem q_heap (h : PicsR w x m np) (p d y : Int32) : ∃ v w', fX5_heap x p d y w = some v ∧ fX6_heap m p d y w = some (v, w') ∧ Fr (S30 m) w w' := by
  have h8 := h.1
  unfold fX5_heap fX5_heap_b28 fX6_heap fX6_heap_b19
  rcases pt_cases h p y with ⟨p, a, t, r, hp, ht, rfl, rfl, e1, e2, e3, hR, hi, hr, hrr, hm⟩ | ⟨e1, e3⟩
  · rw [e1, bd_s, oc_s, e2, bd_s, oc_s, e3, bd_s, bi_t, if_neg (show ¬ (1 : Int32) = 0 by decide), e_width, bd_s, e_lies24, bd_s]
    rcases inn_cases (x := d) (N := 25) (by decide) with ⟨e, d, hd, rfl⟩ | ⟨e, -⟩
    · obtain ⟨v, ev, hv⟩ := e_heap hR.2.1 hR.2.2.2.2.1 (show d ≤ 24 by omega) t ht hi
      obtain ⟨w', lo, hA, hmin, ew⟩ := e_hangs (w := w) (m := m) (p := p) (d := d) (by omega) (by omega) hR.2.1.mok
      have hl := hA.2.2 t ht
      have hf : fnd (hb v) 24 0 = some (lo t) := fnd_is ((hv (lo t) (by omega)).mpr ⟨by omega, hl.2⟩) 24 0 (by omega) (by omega) (fun u _ hu => by
        cases q : hb v u with
        | false => rfl
        | true =>
          have := hmin t u ht (by omega) ((hv u (by omega)).mp q).2
          omega)
      rw [e, bi_t, if_neg (show ¬ (1 : Int32) = 0 by decide), if_neg (show ¬ (1 : Int32) = 0 by decide), ev, bd_s, e_lof, bd_s, hf, ew, bd_s, ckp_ix _ ht (by decide), cl_nI (by omega), hA.2.1 t ht]
      exact ⟨_, w', rfl, rfl, hA.1⟩
    · rw [e]; exact ⟨-1, w, rfl, rfl, Fr.refl w⟩
  · refine ⟨-1, w, ?_, ?_, Fr.refl w⟩
    · rcases e1 with e1 | ⟨a, e1, e2⟩
      · rw [e1]; rfl
      · rw [e1, bd_s, oc_s, e2]; rfl
    · rw [e3]; rfl
theorem q_heaps (h : PicsR w x m np) (p d : Int32) : ∃ v w', fX5_heaps x p d w = some v ∧ fX6_heaps m p d w = some (v, w') ∧ Fr (S30 m) w w' := by
  have h8 := h.1
  unfold fX5_heaps fX5_heaps_b17 fX5_heaps_b26 fX6_heaps fX6_heaps_b18
  rcases pic_cases h p with ⟨p, a, hp, rfl, e1, e2, hR, -⟩ | ⟨e1, e2⟩
  · rw [e1, bd_s, oc_s, e2, bd_s, bi_t, if_neg (show ¬ (1 : Int32) = 0 by decide), e_width, bd_s, e_lies24, bd_s]
    rcases inn_cases (x := d) (N := 25) (by decide) with ⟨e, d, hd, rfl⟩ | ⟨e, -⟩
    · obtain ⟨w', lo, hA, hmin, ew⟩ := e_hangs (w := w) (m := m) (p := p) (d := d) (by omega) (by omega) hR.2.1.mok
      have hc : fX1_countHeaps a (nI d) w = some _ := l_chp hR.2.1 hR.2.2.2.2.1 (show d ≤ 24 by omega) lo hA.2.2 hmin 24 1000 0 0 0 rfl (by decide) (by decide) (fun u hu => by
        rw [hb_zero hu]
        constructor
        · intro q; cases q
        · rintro ⟨-, s, h3, -⟩; omega)
      have hm : fX6_heaps_l31 1000 m (nI p) 0 0 w' = some _ := l_mhp (by omega) lo w' hA 24 1000 0 0 rfl (by decide) (by decide)
      rw [e, bi_t, if_neg (show ¬ (1 : Int32) = 0 by decide), if_neg (show ¬ (1 : Int32) = 0 by decide), hc, bd_s, ew, bd_s, hm]
      exact ⟨_, w', rfl, rfl, hA.1⟩
    · rw [e]; exact ⟨-1, w, rfl, rfl, Fr.refl w⟩
  · rw [e1, e2]; exact ⟨-1, w, rfl, rfl, Fr.refl w⟩
end ZHQ
