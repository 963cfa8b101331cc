/-! PURE LAYER: what binds the class's picture to the reference's -/
def edd (f g : Nat → Int32) : Nat → Nat → Nat
  | 0, j => j
  | i + 1, 0 => i + 1
  | i + 1, j + 1 => min (edd f g i j + (if f i = g j then 0 else 1)) (1 + min (edd f g i (j + 1)) (edd f g (i + 1) j))
termination_by i j => i + j
def mma (w : Wd) (m k : Nat) : Nat := (zI w 6 m 12 k).toNatClampNeg
def mca (w : Wd) (m k i : Nat) : Int32 := zI w 6 m 13 (12 * k + i)
def dst (w : Wd) (m j k : Nat) : Nat := edd (mca w m j) (mca w m k) (mma w m j) (mma w m k)
def nxp (w : Wd) (m p t : Nat) : Option Nat := if mis w m p t = true then sNx (mis w m p) (mhe w m p) (mwa w m p) t else none
/-- what a row of the reference holds -/
def MRow (w : Wd) (m k : Nat) : Prop := (∃ h, h < 65536 ∧ zI w 6 m 10 k = nI h) ∧ wok (zI w 6 m 11 k) ∧ (∃ n, n ≤ 12 ∧ zI w 6 m 12 k = nI n) ∧ (∃ c, c < 10000 ∧ zI w 6 m 9 k = nI c)
def RowR (w : Wd) (r m k t : Nat) : Prop := zI w 2 r 1 0 = nI t ∧ zI w 2 r 2 0 = zI w 6 m 8 k ∧ zI w 2 r 3 0 = zI w 6 m 9 k ∧ zI w 2 r 4 0 = zI w 6 m 10 k ∧ zI w 2 r 5 0 = zI w 6 m 11 k ∧ zI w 2 r 6 0 = zI w 6 m 12 k ∧ ∀ i, i < mma w m k → zI w 2 r 0 i = mca w m k i
def PRows (w : Wd) (a m p : Nat) : Prop := ∀ t, t < 24 → (mis w m p t = true ∧ ∃ r, zR w 1 a 1 t = some r ∧ RowR w r m (24 * p + t) t ∧ MRow w m (24 * p + t)) ∨ (mis w m p t = false ∧ zR w 1 a 1 t = none)
def PHold (w : Wd) (a m p : Nat) : Prop := ∀ l, l < 16 → zI w 1 a 2 l = en (sHol (mis w m p) (mhe w m p) l)
def PChn (w : Wd) (a m p : Nat) : Prop := (∀ o t, o < 24 → t < 24 → hb (zI w 1 a 3 o) t = (mis w m p o && scm (nxp w m p) t 25 (some o))) ∧ ∀ o l, o < 24 → l < 16 → hb (zI w 1 a 4 o) l = (mis w m p o && swt (nxp w m p) (mwa w m p) l 25 (some o))
def PDst (w : Wd) (a m p : Nat) : Prop := ∀ t u, t < 24 → u < 24 → mis w m p t = true → mis w m p u = true → zI w 1 a 5 (24 * t + u) = nI (dst w m (24 * p + t) (24 * p + u))
def PCnt (w : Wd) (a m p : Nat) : Prop := zI w 1 a 8 0 = nI (cntf (mis w m p) 24 0 0) ∧ zI w 1 a 9 0 = nI (cntf (fun t => mis w m p t && !decide (mwa w m p t = -1)) 24 0 0) ∧ zI w 1 a 10 0 = nI (cntf (fun l => (sHol (mis w m p) (mhe w m p) l).isSome) 16 0 0)
def PicR (w : Wd) (a m p : Nat) : Prop := (zI w 1 a 0 0 = zI w 6 m 5 p ∧ zI w 1 a 7 0 = zI w 6 m 6 p) ∧ PRows w a m p ∧ PHold w a m p ∧ PChn w a m p ∧ PDst w a m p ∧ PCnt w a m p
/-- the class's pictures and the reference's -/
def PicsR (w : Wd) (x m np : Nat) : Prop := np ≤ 8 ∧ zI w 5 x 3 0 = nI np ∧ zI w 6 m 2 0 = nI np ∧ (∀ p, p < np → ∃ a, zR w 5 x 1 p = some a ∧ PicR w a m p ∧ ∃ k, k < 10000 ∧ zI w 6 m 5 p = nI k) ∧ ∀ p, np ≤ p → p < 8 → zR w 5 x 1 p = none
section ZPR
variable {w : Wd} {a m p : Nat}
theorem mis_z (t : Nat) : mis w m p t = !decide (zI w 6 m 7 (24 * p + t) = 0) := rfl
theorem nxp_lt {t u : Nat} (h : nxp w m p t = some u) : u < 24 ∧ mis w m p u = true := by
  unfold nxp at h
  by_cases e : mis w m p t = true
  · rw [if_pos e] at h; exact sNx_lt h
  · rw [if_neg e] at h; cases h
theorem nxp_no {t : Nat} (h : mis w m p t = false) : nxp w m p t = none := by
  unfold nxp
  rw [if_neg (by rw [h]; decide)]
theorem PRows.row (h : PRows w a m p) {t : Nat} (ht : t < 24) (hi : mis w m p t = true) : ∃ r, zR w 1 a 1 t = some r ∧ RowR w r m (24 * p + t) t ∧ MRow w m (24 * p + t) := by
  rcases h t ht with q | q
  · exact q.2
  · rw [hi] at q; cases q.1
theorem PRows.no (h : PRows w a m p) {t : Nat} (ht : t < 24) (hi : mis w m p t = false) : zR w 1 a 1 t = none := by
  rcases h t ht with q | q
  · rw [hi] at q; cases q.1
  · exact q.2
theorem m_next (hp : p < 8) (h : PRows w a m p) : ∀ t, t < 24 → mis w m p t = true → fX6_next m (nI p) (nI t) w = some (en (nxp w m p t)) := by
  intro t ht hi
  obtain ⟨r, -, -, hm⟩ := h.row ht hi
  rw [e_mnext w m p t hp ht hm.2.1]
  unfold nxp
  rw [if_pos hi]
theorem c_await (h : PRows w a m p) (hh : PHold w a m p) : ∀ t, t < 24 → fX1_awaitedBy a (nI t) w = some (en (nxp w m p t)) := by
  intro t ht
  unfold fX1_awaitedBy fX1_awaitedBy_b22
  rw [e_rowOf, inn_nI (by omega), decide_eq_true ht, if_pos rfl, cl_nI (by omega), bd_s]
  by_cases hi : mis w m p t = true
  · obtain ⟨r, hr, hR, hm⟩ := h.row ht hi
    rw [hr, oc_s, e_holderOf, bd_s, hR.2.2.2.2.1]
    unfold nxp sNx
    rw [if_pos hi]
    have hw : mwa w m p t = zI w 6 m 11 (24 * p + t) := rfl
    rcases hm.2.1 with e | ⟨l, hl, e⟩
    · rw [hw, e, if_pos rfl]; rfl
    · rw [hw, e, if_neg (m1_ne (by omega)), inn_nI (by omega), decide_eq_true hl, if_pos rfl, cl_nI (by omega), hh l hl]
  · simp only [Bool.not_eq_true] at hi
    rw [h.no ht hi, oc_n, nxp_no hi]; rfl
end ZPR
section ZPU
variable {w : Wd} {x m np : Nat}
/-- a picture of both sides, or of none -/
theorem pic_cases (h : PicsR w x m np) (p : Int32) : (∃ q a, q < np ∧ p = nI q ∧ fX5_pictureAt x p w = some (some a) ∧ fX6_isPicture m p w = some (bi true) ∧ PicR w a m q ∧ zR w 5 x 1 q = some a) ∨ (fX5_pictureAt x p w = some none ∧ fX6_isPicture m p w = some (bi false)) := by
  obtain ⟨h8, h1, h2, h3, h4⟩ := h
  rw [e_pictureAt x p w h1 h8, e_isPicture m p w h2 h8]
  rcases inn_cases (x := p) (N := np) (by omega) with ⟨e, q, hq, rfl⟩ | ⟨e, -⟩
  · obtain ⟨a, ha, hR, -⟩ := h3 q hq
    exact Or.inl ⟨q, a, hq, rfl, by rw [e, if_pos rfl, cl_nI (by omega), ha], by rw [e], hR, ha⟩
  · exact Or.inr ⟨by rw [e]; rfl, by rw [e]⟩
theorem q_torn (h : PicsR w x m np) (p : Int32) : ∃ v, fX5_torn x p w = some v ∧ fX6_torn m p w = some v := by
  unfold fX5_torn fX5_torn_b18 fX6_torn fX6_torn_b18
  rcases pic_cases h p with ⟨q, a, hq, rfl, e1, e2, hR, -⟩ | ⟨e1, e2⟩
  · have := h.1
    rw [e1, e2, bd_s, bd_s, oc_s, bi_t, if_neg (by decide), ckp_ix _ (show q < 8 by omega) (by decide), cl_nI (by omega), hR.1.2]
    exact ⟨_, rfl, rfl⟩
  · rw [e1, e2]; exact ⟨-1, rfl, rfl⟩
theorem q_holder (h : PicsR w x m np) (p l : Int32) : ∃ v, fX5_holder x p l w = some v ∧ fX6_holder m p l w = some v := by
  unfold fX5_holder fX5_holder_b19 fX6_holder fX6_holder_b27 fX6_holder_b28
  rcases pic_cases h p with ⟨q, a, hq, rfl, e1, e2, hR, -⟩ | ⟨e1, e2⟩
  · have := h.1
    rw [e1, e2, bd_s, bd_s, oc_s, bi_t, if_neg (by decide), e_holderOf, bd_s, e_lies15, bd_s]
    rcases inn_cases (x := l) (N := 16) (by decide) with ⟨e, l, hl, rfl⟩ | ⟨e, -⟩
    · rw [e, if_pos rfl, bi_t, if_neg (by decide), e_mholder w m q l (by omega), bd_s, cl_nI (by omega), hR.2.2.1 l hl]
      exact ⟨_, rfl, rfl⟩
    · rw [e]; exact ⟨-1, rfl, rfl⟩
  · rw [e1, e2]; exact ⟨-1, rfl, rfl⟩
theorem q_rings (h : PicsR w x m np) (p : Int32) : ∃ v, fX5_rings x p w = some v ∧ fX6_rings m p w = some v := by
  unfold fX5_rings fX5_rings_b18 fX6_rings
  rcases pic_cases h p with ⟨q, a, hq, rfl, e1, e2, hR, -⟩ | ⟨e1, e2⟩
  · have h8 := h.1
    have hq8 : q < 8 := by omega
    have hA := c_await hR.2.1 hR.2.2.1
    have hn1 : ∀ t u, nxp w m q t = some u → u < 24 := fun t u e => (nxp_lt e).1
    have hN := m_next hq8 hR.2.1
    have hn : ∀ t u, nxp w m q t = some u → u < 24 ∧ mis w m q u = true := fun t u e => nxp_lt e
    have hc := l_crings (fun t => srz (nxp w m q) t 24 1 t) (fun t ht => e_size hA hn1 t ht) (fun t _ => srz_le _ t) 24 1000 0 0 rfl (by decide) (by decide)
    have hm := l_mrings (is := mis w m q) (fun t _ => rfl) hq8 (fun t => srz (nxp w m q) t 24 1 t) (fun t ht hi => e_lowest hN hn t ht hi) 24 1000 0 0 rfl (by decide) (by decide)
    have hcc : fX1_countRings a w = some (nI (cntf (fun t => decide (0 < srz (nxp w m q) t 24 1 t)) 24 0 0)) := hc
    have hmm : fX6_rings_l14 w 1000 m (nI q) 0 0 = some (nI (cntf (fun t => mis w m q t && decide (0 < srz (nxp w m q) t 24 1 t)) 24 0 0)) := hm
    rw [e1, e2, bd_s, bd_s, oc_s, bi_t, if_neg (by decide), hcc, bd_s, hmm]
    refine ⟨_, rfl, ?_⟩
    congr 2
    apply cntf_cong
    intro t _ _
    cases hi : mis w m q t with
    | true => simp
    | false => rw [srz_none (nxp_no hi)]; simp
  · rw [e1, e2]; exact ⟨-1, rfl, rfl⟩
theorem q_ring (h : PicsR w x m np) (p r i : Int32) : ∃ v, fX5_ring x p r i w = some v ∧ fX6_ring m p r i w = some v := by
  unfold fX5_ring fX5_ring_b23 fX6_ring fX6_ring_b16
  rcases pic_cases h p with ⟨q, a, hq, rfl, e1, e2, hR, -⟩ | ⟨e1, e2⟩
  · have h8 := h.1
    have hq8 : q < 8 := by omega
    have hA := c_await hR.2.1 hR.2.2.1
    have hn1 : ∀ t u, nxp w m q t = some u → u < 24 := fun t u e => (nxp_lt e).1
    have hN := m_next hq8 hR.2.1
    have hn : ∀ t u, nxp w m q t = some u → u < 24 ∧ mis w m q u = true := fun t u e => nxp_lt e
    have hc : fX1_threadOfRing a r i w = _ := l_tring hA hn1 r i 24 1000 0 0 rfl (by decide) (by decide)
    rw [e1, e2, bd_s, bd_s, oc_s, bi_t, if_neg (by decide), hc, bd_s]
    refine ⟨_, rfl, ?_⟩
    by_cases hr : r < 0
    · rw [if_pos hr, rgs_neg hr 24 0 0 (by decide)]
    · rw [if_neg hr]
      by_cases hi : i < 0
      · have hi' : ¬ (0 : Int32) ≤ i := by
          rw [Int32.le_iff_toInt_le]
          rw [Int32.lt_iff_toInt_lt] at hi
          omega
        rw [if_neg hi']
        have hf : ∀ N, inn i N = false := fun N => by
          unfold inn
          apply decide_eq_false
          rw [Int32.lt_iff_toInt_lt] at hi
          have : (0 : Int32).toInt = 0 := by decide
          omega
        have : ∀ k t c, rgs (fun t => srz (nxp w m q) t 24 1 t) (fun t => if inn i (srz (nxp w m q) t 24 1 t) then en (itn (nxp w m q) i.toNatClampNeg (some t)) else -1) r k t c = -1 := by
          intro k
          induction k with
          | zero => intro t c; rfl
          | succ k ih =>
            intro t c
            unfold rgs
            rw [ih, ih, hf]
            simp
        rw [this]
      · have hi' : (0 : Int32) ≤ i := by
          rw [Int32.le_iff_toInt_le]
          rw [Int32.lt_iff_toInt_lt] at hi
          omega
        rw [if_pos hi']
        exact l_mring (is := mis w m q) (fun t _ => rfl) hq8 hN hn (fun t ht => nxp_no ht) r i hi 24 1000 0 0 rfl (by decide) (by decide)
  · rw [e1, e2]; exact ⟨-1, rfl, rfl⟩
end ZPU
