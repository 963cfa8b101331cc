/-! PURE LAYER: feed, meter -/
def bt (x s : Int32) : Int32 := vp_nar .byte (((x >>> (s &&& 31)) : Int32).toInt8.toInt32)
def wr1 (c a L : Nat) (x s : Int32) (v : Wd) : Wd := sI (sI v c a 0 L (bt x s)) c a 1 0 (nI (L + 1))
def ap4 (c a L : Nat) (x : Int32) (v : Wd) : Wd := wr1 c a (L + 3) x 0 (wr1 c a (L + 2) x 8 (wr1 c a (L + 1) x 16 (wr1 c a L x 24 v)))
def gb (x : Int32) (q : Nat) : Int32 := if q = 0 then bt x 24 else if q = 1 then bt x 16 else if q = 2 then bt x 8 else bt x 0
def STt (c a : Nat) (c' a' k _ : Nat) : Prop := c' = c ∧ a' = a ∧ (k = 0 ∨ k = 1)
theorem wr1_l (c a L : Nat) (x s : Int32) (v : Wd) : zI (wr1 c a L x s v) c a 1 0 = nI (L + 1) := zI_sIs _ _ _ _ _ _
theorem wr1_at (c a L : Nat) (x s : Int32) (v : Wd) (j : Nat) : zI (wr1 c a L x s v) c a 0 j = if j = L then bt x s else zI v c a 0 j := by
  unfold wr1
  rw [zI_sIn (by omega), zI_sI]
  by_cases e : j = L
  · rw [if_pos ⟨rfl, rfl, rfl, e⟩, if_pos e]
  · rw [if_neg (fun q => e q.2.2.2), if_neg e]
theorem wr1_fr (c a L : Nat) (x s : Int32) (v : Wd) : Fr (STt c a) v (wr1 c a L x s v) := ((Fr.refl v).set _ ⟨rfl, rfl, Or.inl rfl⟩).set _ ⟨rfl, rfl, Or.inr rfl⟩
theorem ap4_l (c a L : Nat) (x : Int32) (v : Wd) : zI (ap4 c a L x v) c a 1 0 = nI (L + 4) := wr1_l _ _ _ _ _ _
theorem ap4_fr (c a L : Nat) (x : Int32) (v : Wd) : Fr (STt c a) v (ap4 c a L x v) := (((wr1_fr _ _ _ _ _ _).trans (wr1_fr _ _ _ _ _ _)).trans (wr1_fr _ _ _ _ _ _)).trans (wr1_fr _ _ _ _ _ _)
theorem ap4_at (c a L : Nat) (x : Int32) (v : Wd) (j : Nat) : zI (ap4 c a L x v) c a 0 j = if L ≤ j ∧ j < L + 4 then gb x (j - L) else zI v c a 0 j := by
  unfold ap4
  rw [wr1_at, wr1_at, wr1_at, wr1_at]
  by_cases e : L ≤ j ∧ j < L + 4
  · rw [if_pos e]
    unfold gb
    rcases (show j = L ∨ j = L + 1 ∨ j = L + 2 ∨ j = L + 3 by omega) with q | q | q | q
    · rw [if_neg (by omega), if_neg (by omega), if_neg (by omega), if_pos q, if_pos (by omega)]
    · rw [if_neg (by omega), if_neg (by omega), if_pos q, if_neg (by omega), if_pos (by omega)]
    · rw [if_neg (by omega), if_pos q, if_neg (by omega), if_neg (by omega), if_pos (by omega)]
    · rw [if_pos q, if_neg (by omega), if_neg (by omega), if_neg (by omega)]
  · rw [if_neg e, if_neg (by omega), if_neg (by omega), if_neg (by omega), if_neg (by omega)]
theorem c_ap1 {a L : Nat} {v : Wd} (x s : Int32) (n : Nat) (hs : ¬ s < 0) (hl : zI v 4 a 1 0 = nI L) (hL : L < 300) : fX4_append_l3 (n + 1) a x s v = fX4_append_l3 n a x (s + (-8)) (wr1 4 a L x s v) := by
  show fX4_append_b3 (fX4_append_l3 n) a x s v = _
  unfold fX4_append_b3
  rw [if_neg hs, hl, if_neg (show ¬ (300 : Int32) ≤ nI L from nI_ge (b := 300) (by omega) (by decide)), ckp_ix _ hL (by decide), cl_nI (by omega), lt_e, lt_e, zI_sIn (by omega), hl, nI_1]
  rfl
theorem e_append {a L : Nat} {v : Wd} (x : Int32) (hl : zI v 4 a 1 0 = nI L) (hL : L + 4 ≤ 300) : fX4_append a x v = some (ap4 4 a L x v) := by
  unfold fX4_append
  rw [c_ap1 x 24 999 (by decide) hl (by omega), c_ap1 x _ 998 (by decide) (wr1_l _ _ _ _ _ _) (by omega), c_ap1 x _ 997 (by decide) (wr1_l _ _ _ _ _ _) (by omega), c_ap1 x _ 996 (by decide) (wr1_l _ _ _ _ _ _) (by omega)]
  show fX4_append_b3 (fX4_append_l3 995) a x _ _ = _
  unfold fX4_append_b3 fX4_append_b46
  rw [if_pos (by decide)]
  rfl
theorem m_ap1 {a L : Nat} {v : Wd} (x s : Int32) (n : Nat) (hs : ¬ s < 0) (hl : zI v 6 a 1 0 = nI L) (hL : L < 300) : fX6_push_l3 (n + 1) a x s v = fX6_push_l3 n a x (s + (-8)) (wr1 6 a L x s v) := by
  show fX6_push_b3 (fX6_push_l3 n) a x s v = _
  unfold fX6_push_b3
  rw [if_neg hs, hl, ckp_ix _ hL (by decide), cl_nI (by omega), lt_e, lt_e, zI_sIn (by omega), hl, nI_1]
  rfl
theorem e_push {a L : Nat} {v : Wd} (x : Int32) (hl : zI v 6 a 1 0 = nI L) (hL : L + 4 ≤ 300) : fX6_push a x v = some (ap4 6 a L x v) := by
  unfold fX6_push
  rw [m_ap1 x 24 999 (by decide) hl (by omega), m_ap1 x _ 998 (by decide) (wr1_l _ _ _ _ _ _) (by omega), m_ap1 x _ 997 (by decide) (wr1_l _ _ _ _ _ _) (by omega), m_ap1 x _ 996 (by decide) (wr1_l _ _ _ _ _ _) (by omega)]
  show fX6_push_b3 (fX6_push_l3 995) a x _ _ = _
  unfold fX6_push_b3
  rw [if_pos (by decide)]
  rfl
/-- the two tapes -/
def TapR (w : Wd) (tp m : Nat) : Prop := ∃ L, L ≤ 300 ∧ zI w 4 tp 1 0 = nI L ∧ zI w 6 m 1 0 = nI L ∧ ∀ j, j < L → zI w 4 tp 0 j = zI w 6 m 0 j
def ap20 (c a L : Nat) (x1 x2 x3 x4 x5 : Int32) (v : Wd) : Wd := ap4 c a (L + 4 + 4 + 4 + 4) x5 (ap4 c a (L + 4 + 4 + 4) x4 (ap4 c a (L + 4 + 4) x3 (ap4 c a (L + 4) x2 (ap4 c a L x1 v))))
theorem ap20_fr (c a L : Nat) (x1 x2 x3 x4 x5 : Int32) (v : Wd) : Fr (STt c a) v (ap20 c a L x1 x2 x3 x4 x5 v) := ((((ap4_fr _ _ _ _ _).trans (ap4_fr _ _ _ _ _)).trans (ap4_fr _ _ _ _ _)).trans (ap4_fr _ _ _ _ _)).trans (ap4_fr _ _ _ _ _)
def STm (tp m : Nat) (c a k j : Nat) : Prop := STt 4 tp c a k j ∨ STt 6 m c a k j
theorem q_feed {w : Wd} {x m tp : Nat} (ht : zR w 5 x 0 0 = some tp) (hT : TapR w tp m) (x1 x2 x3 x4 x5 : Int32) : ∃ v w1 w2, fX5_feed x x1 x2 x3 x4 x5 w = some (v, w1) ∧ fX6_feed m x1 x2 x3 x4 x5 w1 = some (v, w2) ∧ Fr (STm tp m) w w2 ∧ TapR w2 tp m := by
  obtain ⟨L, hL, h1, h2, h3⟩ := hT
  unfold fX5_feed fX6_feed
  have hr : ∀ {v : Wd}, Fr (STt 4 tp) w v → zR v 5 x 0 0 = some tp := fun h => by rw [h.2.1]; exact ht
  rw [lt_e, ht, nn_s, h1]
  by_cases e : L ≤ 280
  · rw [if_pos (show nI L ≤ (280 : Int32) from nI_le (b := 280) (by omega) (by decide)), lt_e, nn_s, e_append x1 h1 (by omega), bd_s, lt_e, hr (ap4_fr 4 tp _ _ _), nn_s, e_append x2 (ap4_l _ _ _ _ _) (by omega), bd_s, lt_e, hr ((ap4_fr 4 tp _ _ _).trans (ap4_fr 4 tp _ _ _)), nn_s, e_append x3 (ap4_l _ _ _ _ _) (by omega), bd_s, lt_e, hr (((ap4_fr 4 tp _ _ _).trans (ap4_fr 4 tp _ _ _)).trans (ap4_fr 4 tp _ _ _)), nn_s, e_append x4 (ap4_l _ _ _ _ _) (by omega), bd_s, lt_e, hr ((((ap4_fr 4 tp _ _ _).trans (ap4_fr 4 tp _ _ _)).trans (ap4_fr 4 tp _ _ _)).trans (ap4_fr 4 tp _ _ _)), nn_s, e_append x5 (ap4_l _ _ _ _ _) (by omega), bd_s, lt_e, hr (((((ap4_fr 4 tp _ _ _).trans (ap4_fr 4 tp _ _ _)).trans (ap4_fr 4 tp _ _ _)).trans (ap4_fr 4 tp _ _ _)).trans (ap4_fr 4 tp _ _ _)), nn_s, ap4_l]
    refine ⟨_, _, ap20 6 m L x1 x2 x3 x4 x5 (ap20 4 tp L x1 x2 x3 x4 x5 w), rfl, ?_, ?_, L + 4 + 4 + 4 + 4 + 4, by omega, ?_, ap4_l _ _ _ _ _, ?_⟩
    · have e6 : zI (ap20 4 tp L x1 x2 x3 x4 x5 w) 6 m 1 0 = nI L := by
        rw [(ap20_fr 4 tp L x1 x2 x3 x4 x5 w).1 6 m 1 0 (fun q => by have := q.1; omega)]; exact h2
      show (if zI (ap20 4 tp L x1 x2 x3 x4 x5 w) 6 m 1 0 + 20 ≤ 300 then bd (fX6_push m x1 (ap20 4 tp L x1 x2 x3 x4 x5 w)) _ else _) = _
      rw [e6, show nI L + 20 = nI (L + 20) from nI_add L 20, if_pos (show nI (L + 20) ≤ (300 : Int32) from nI_le (b := 300) (by omega) (by decide)), e_push x1 e6 (by omega), bd_s, e_push x2 (ap4_l _ _ _ _ _) (by omega), bd_s, e_push x3 (ap4_l _ _ _ _ _) (by omega), bd_s, e_push x4 (ap4_l _ _ _ _ _) (by omega), bd_s, e_push x5 (ap4_l _ _ _ _ _) (by omega), bd_s, ap4_l]
      rfl
    · exact ((ap20_fr 4 tp L x1 x2 x3 x4 x5 w).mono (fun c a k j q => Or.inl q)).trans ((ap20_fr 6 m L x1 x2 x3 x4 x5 _).mono (fun c a k j q => Or.inr q))
    · rw [(ap20_fr 6 m L x1 x2 x3 x4 x5 _).1 4 tp 1 0 (fun q => by have := q.1; omega)]
      exact ap4_l _ _ _ _ _
    · intro j hj
      rw [(ap20_fr 6 m L x1 x2 x3 x4 x5 _).1 4 tp 0 j (fun q => by have := q.1; omega)]
      unfold ap20
      rw [ap4_at, ap4_at, ap4_at, ap4_at, ap4_at, ap4_at, ap4_at, ap4_at, ap4_at, ap4_at]
      have e6 : zI (ap20 4 tp L x1 x2 x3 x4 x5 w) 6 m 0 j = zI w 6 m 0 j := (ap20_fr 4 tp L x1 x2 x3 x4 x5 w).1 6 m 0 j (fun q => by have := q.1; omega)
      unfold ap20 at e6
      rw [e6]
      by_cases c : j < L
      · rw [h3 j c]
      · have : ∀ (y z : Int32), (if L ≤ j ∧ j < L + 4 then gb x1 (j - L) else y) = (if L ≤ j ∧ j < L + 4 then gb x1 (j - L) else z) ∨ ¬ (L ≤ j ∧ j < L + 4) := by
          intro y z
          by_cases q : L ≤ j ∧ j < L + 4
          · left; rw [if_pos q, if_pos q]
          · right; exact q
        by_cases q5 : L + 4 + 4 + 4 + 4 ≤ j ∧ j < L + 4 + 4 + 4 + 4 + 4
        · rw [if_pos q5, if_pos q5]
        rw [if_neg q5, if_neg q5]
        by_cases q4 : L + 4 + 4 + 4 ≤ j ∧ j < L + 4 + 4 + 4 + 4
        · rw [if_pos q4, if_pos q4]
        rw [if_neg q4, if_neg q4]
        by_cases q3 : L + 4 + 4 ≤ j ∧ j < L + 4 + 4 + 4
        · rw [if_pos q3, if_pos q3]
        rw [if_neg q3, if_neg q3]
        by_cases q2 : L + 4 ≤ j ∧ j < L + 4 + 4
        · rw [if_pos q2, if_pos q2]
        rw [if_neg q2, if_neg q2, if_pos (by omega), if_pos (by omega)]
  · rw [if_neg (show ¬ nI L ≤ (280 : Int32) from nI_ge (a := 280) (by omega) (by omega))]
    refine ⟨_, w, w, rfl, ?_, Fr.refl w, L, hL, h1, h2, h3⟩
    rw [h2, show nI L + 20 = nI (L + 20) from nI_add L 20, if_neg (show ¬ nI (L + 20) ≤ (300 : Int32) from nI_ge (a := 300) (by omega) (by omega))]
def SMe (x m : Nat) (c a k _ : Nat) : Prop := (c = 5 ∧ a = x ∧ (k = 4 ∨ k = 5)) ∨ (c = 6 ∧ a = m ∧ (k = 3 ∨ k = 4))
theorem q_meter {w : Wd} {x m : Nat} (h4 : zI w 5 x 4 0 = zI w 6 m 3 0) (h5 : zI w 5 x 5 0 = zI w 6 m 4 0) (hR : ∃ R, (0 < R ∧ R ≤ 10000) ∧ zI w 6 m 3 0 = nI R) (y z : Int32) : ∃ v w1 w2, fX5_meter x y z w = some (v, w1) ∧ fX6_meter m y z w1 = some (v, w2) ∧ Fr (SMe x m) w w2 ∧ zI w2 5 x 4 0 = zI w2 6 m 3 0 ∧ zI w2 5 x 5 0 = zI w2 6 m 4 0 ∧ ∃ R, (0 < R ∧ R ≤ 10000) ∧ zI w2 6 m 3 0 = nI R := by
  unfold fX5_meter fX5_meter_b22 fX6_meter fX6_meter_b21 fX6_lies fX6_lies_b14 fX6_lies_b15
  by_cases c1 : y < 2
  · rw [if_pos c1]
    refine ⟨0, w, w, rfl, ?_, Fr.refl w, h4, h5, hR⟩
    rw [if_pos c1]; rfl
  rw [if_neg c1]
  by_cases c2 : 10000 < y
  · rw [if_pos c2]
    refine ⟨0, w, w, rfl, ?_, Fr.refl w, h4, h5, hR⟩
    rw [if_neg c1, if_pos c2]; rfl
  rw [if_neg c2]
  by_cases c3 : z < 0
  · rw [if_pos c3]
    refine ⟨0, w, w, rfl, ?_, Fr.refl w, h4, h5, hR⟩
    rw [if_neg c1, if_neg c2, ckp_1, bd_s, if_neg (by decide), if_pos c3]; rfl
  rw [if_neg c3]
  by_cases c4 : z ≤ 100
  · rw [if_pos c4]
    have c4' : ¬ (100 : Int32) < z := i_nlt c4
    refine ⟨1, _, sI (sI (sI (sI w 5 x 4 0 y) 5 x 5 0 z) 6 m 3 0 y) 6 m 4 0 z, rfl, ?_, ?_, ?_, ?_, ?_⟩
    · rw [if_neg c1, if_neg c2, ckp_1, bd_s, if_neg (by decide), if_neg c3, if_neg c4', bd_s, if_neg (by decide)]; rfl
    · exact ((((Fr.refl w).set _ (Or.inl ⟨rfl, rfl, Or.inl rfl⟩)).set _ (Or.inl ⟨rfl, rfl, Or.inr rfl⟩)).set _ (Or.inr ⟨rfl, rfl, Or.inl rfl⟩)).set _ (Or.inr ⟨rfl, rfl, Or.inr rfl⟩)
    · simp [zI_sI]
    · simp [zI_sI]
    · obtain ⟨j, hj, rfl⟩ := nI_of (x := y) (fun q => c1 (by
        rw [Int32.lt_iff_toInt_lt] at q ⊢
        have e0 : (0 : Int32).toInt = 0 := by decide
        have e2 : (2 : Int32).toInt = 2 := by decide
        omega))
      refine ⟨j, ?_, by simp [zI_sI]⟩
      have a1 : ¬ j < 2 := fun q => c1 (nI_lt (b := 2) q (by decide))
      have a2 : ¬ 10000 < j := fun q => c2 (nI_lt (a := 10000) q hj)
      omega
  · rw [if_neg c4]
    have c4' : (100 : Int32) < z := by
      rw [Int32.le_iff_toInt_le] at c4
      rw [Int32.lt_iff_toInt_lt]
      omega
    refine ⟨0, w, w, rfl, ?_, Fr.refl w, h4, h5, hR⟩
    rw [if_neg c1, if_neg c2, ckp_1, bd_s, if_neg (by decide), if_neg c3, if_pos c4']; rfl
