/-! PURE LAYER: work -/
theorem xor_sg (x y : Int32) : (0 ≤ x ^^^ y) = ((decide (x.toInt < 0) ^^ decide (y.toInt < 0)) = false) := by
  apply propext
  have e : (x ^^^ y).toInt = (x.toBitVec ^^^ y.toBitVec).toInt := rfl
  have h : (x.toBitVec ^^^ y.toBitVec).msb = (x.toBitVec.msb ^^ y.toBitVec.msb) := BitVec.msb_xor
  rw [BitVec.msb_eq_toInt, BitVec.msb_eq_toInt, BitVec.msb_eq_toInt] at h
  have e1 : x.toBitVec.toInt = x.toInt := rfl
  have e2 : y.toBitVec.toInt = y.toInt := rfl
  rw [e1, e2] at h
  rw [← h, Int32.le_iff_toInt_le, e]
  have e0 : (0 : Int32).toInt = 0 := by decide
  rw [e0, decide_eq_false_iff_not]
  omega
theorem modA {a b d R : Nat} (hR : 0 < R) (h : b = a + d) : (b % R + R - a % R) % R = d % R := by
  have h1 := Nat.div_add_mod a R
  have h2 := Nat.div_add_mod (a % R + d) R
  have h3 := Nat.mod_lt a hR
  have e : b % R = (a % R + d) % R := by rw [h, ← Nat.mod_add_mod]
  rw [e]
  have h4 : (a % R + d) % R + R - a % R + R * ((a % R + d) / R) = d + R := by omega
  have h5 : ((a % R + d) % R + R - a % R + R * ((a % R + d) / R)) % R = ((a % R + d) % R + R - a % R) % R := Nat.add_mul_mod_self_left _ _ _
  rw [← h5, h4, Nat.add_mod_right]
theorem modB {a b c R : Nat} (hR : 0 < R) (h : a = b + c) : (b % R + R - a % R) % R = if c % R = 0 then 0 else R - c % R := by
  have h3 := Nat.mod_lt a hR
  have h6 := Nat.mod_lt c hR
  have h7 := Nat.mod_lt (b % R + R - a % R) hR
  have e : a % R = (b % R + c) % R := by rw [h, ← Nat.mod_add_mod]
  have h2 := Nat.div_add_mod (b % R + c) R
  have h8 : (b % R + R - a % R + c) % R = 0 := by
    have : b % R + R - a % R + c = R + R * ((b % R + c) / R) := by omega
    rw [this, Nat.add_mul_mod_self_left, Nat.mod_self]
  rw [Nat.add_mod] at h8
  have h9 : (b % R + R - a % R) % R + c % R = 0 ∨ (b % R + R - a % R) % R + c % R = R := by
    by_cases q : (b % R + R - a % R) % R + c % R < R
    · rw [Nat.mod_eq_of_lt q] at h8; exact Or.inl h8
    · rw [Nat.mod_eq_sub_mod (by omega), Nat.mod_eq_of_lt (by omega)] at h8
      right; omega
  split <;> omega
theorem nI_sa {x y z : Nat} (h : y ≤ x + z) : nI x - nI y + nI z = nI (x + z - y) := by
  rw [← pk_sub h, ← nI_add, Int32.sub_eq_add_neg, Int32.sub_eq_add_neg, Int32.add_assoc, Int32.add_comm (-nI y), ← Int32.add_assoc]
theorem divneg {c R : Nat} (hc : c < 20000) (h0 : 0 < R) (hR : R < 20000) : (nI 0 - nI c) / nI R = nI 0 - nI (c / R) := by
  have hq : c / R < 20000 := Nat.lt_of_le_of_lt (Nat.div_le_self c R) hc
  apply Int32.toInt_inj.mp
  rw [Int32.toInt_div, pk_sub_toInt (by decide) (by omega), pk_sub_toInt (by decide) (by omega), nI_toInt (by omega)]
  have e : ((0 : Nat) : Int) - (c : Int) = -(c : Int) := by omega
  have e2 : ((0 : Nat) : Int) - ((c / R : Nat) : Int) = -((c / R : Nat) : Int) := by omega
  rw [e, e2, Int.neg_tdiv, show ((c : Int).tdiv (R : Int)) = ((c / R : Nat) : Int) from rfl]
  obtain ⟨u, hu⟩ : ∃ u, c / R = u := ⟨_, rfl⟩
  rw [hu] at hq ⊢
  apply Int.bmod_eq_of_le
  · omega
  · omega
theorem e_fmod {a b R : Nat} (w : Wd) (ha : a < 10000) (hb : b < 10000) (h0 : 0 < R) (hR : R ≤ 10000) : fJ9_floorMod_7cf53 (nI b - nI a) (nI R) w = some (nI ((b % R + R - a % R) % R)) := by
  unfold fJ9_floorMod_7cf53 fJ9_floorMod_7cf53_b18
  rw [ckp_t _ (nI_ne0 h0 (by omega))]
  have hRt : (nI R).toInt = R := nI_toInt (by omega)
  by_cases e : a ≤ b
  · rw [pk_sub e, if_pos, pk_rem (by omega) h0 (by omega), modA (d := b - a) h0 (by omega)]
    rw [xor_sg, hRt, nI_toInt (by omega)]
    have h1 : ¬ ((b - a : Nat) : Int) < 0 := by omega
    have h2 : ¬ (R : Int) < 0 := by omega
    rw [decide_eq_false h1, decide_eq_false h2]
    rfl
  · have hx : nI b - nI a = nI 0 - nI (a - b) := by
      apply Int32.toInt_inj.mp
      rw [pk_sub_toInt (by omega) (by omega), pk_sub_toInt (by omega) (by omega)]
      omega
    have hq : (a - b) / R < 20000 := Nat.lt_of_le_of_lt (Nat.div_le_self _ R) (by omega)
    have hdm := Nat.div_add_mod (a - b) R
    have hml := Nat.mod_lt (a - b) h0
    have hmu : (a - b) / R * R = R * ((a - b) / R) := Nat.mul_comm _ _
    have hr : (nI 0 - nI (a - b)) - (nI 0 - nI (a - b)) / nI R * nI R = nI ((a - b) / R * R) - nI (a - b) := by
      rw [divneg (by omega) h0 (by omega), Int32.sub_mul, pk_mul, pk_mul, Nat.zero_mul]
      generalize nI (a - b) = A
      generalize nI ((a - b) / R * R) = B
      generalize nI 0 = Z
      rw [Int32.sub_eq_add_neg, Int32.sub_eq_add_neg, Int32.sub_eq_add_neg, Int32.sub_eq_add_neg, Int32.neg_add, Int32.sub_eq_add_neg, Int32.neg_neg]
      rw [Int32.add_comm Z, Int32.add_assoc, ← Int32.add_assoc Z, Int32.add_right_neg, Int32.zero_add, Int32.add_comm]
    rw [if_neg, hx, hr, modB (c := a - b) h0 (by omega)]
    · by_cases ez : (a - b) % R = 0
      · have : (a - b) / R * R = a - b := by omega
        rw [this, Int32.sub_self, if_pos rfl, if_pos ez]; rfl
      · rw [if_neg, if_neg ez, nI_sa (by omega)]
        · congr 2; omega
        · intro q
          have q2 : nI ((a - b) / R * R) = nI (a - b) := by
            have := congrArg (· + nI (a - b)) q
            simpa using this
          rw [i_eq (by omega) (by omega)] at q2
          omega
    · rw [xor_sg, hRt, pk_sub_toInt (by omega) (by omega)]
      have h1 : ((b : Nat) : Int) - (a : Int) < 0 := by omega
      have h2 : ¬ (R : Int) < 0 := by omega
      rw [decide_eq_true h1, decide_eq_false h2]
      decide
theorem m_least {a b R : Nat} (ha : a < 10000) (hb : b < 10000) (h0 : 0 < R) (hR : R ≤ 10000) : (nI b - nI b / nI R * nI R - (nI a - nI a / nI R * nI R) + nI R) - (nI b - nI b / nI R * nI R - (nI a - nI a / nI R * nI R) + nI R) / nI R * nI R = nI ((b % R + R - a % R) % R) := by
  have h1 := Nat.mod_lt a h0
  have h2 := Nat.mod_lt b h0
  rw [pk_rem (by omega) h0 (by omega), pk_rem (by omega) h0 (by omega), nI_sa (by omega), pk_rem (by omega) h0 (by omega)]
theorem wk_end {w : Wd} {x m : Nat} (h4 : zI w 5 x 4 0 = zI w 6 m 3 0) (z y n : Int32) : ∃ v, fX5_workBetween_b85 w x z y n = some v ∧ fX6_work_b147 w m z y n = some v := by
  unfold fX5_workBetween_b85 fX5_workBetween_b112 fX5_workBetween_b136 fX6_work_b147 fX6_work_b187 fX6_work_b209
  rw [h4]
  by_cases c2 : z = 2
  · subst c2
    exact ⟨n, rfl, rfl⟩
  rw [if_neg c2, if_neg c2]
  by_cases c0 : z = 0
  · subst c0
    by_cases n0 : n = 0
    · rw [if_pos n0, if_pos n0]; exact ⟨-1, rfl, rfl⟩
    · rw [if_neg n0, if_neg n0]; exact ⟨y, rfl, rfl⟩
  rw [if_neg c0, if_neg c0]
  by_cases c1 : z = 1
  · subst c1
    by_cases n0 : n = 0
    · rw [if_pos n0, if_pos n0]; exact ⟨-1, rfl, rfl⟩
    · rw [if_neg n0, if_neg n0]; exact ⟨_, rfl, rfl⟩
  rw [if_neg c1]
  refine ⟨-1, ?_, rfl⟩
  by_cases n0 : n = 0
  · rw [if_pos n0]
  rw [if_neg n0]
  by_cases l0 : z < 0
  · rw [if_pos l0]
  rw [if_neg l0]
  by_cases l2 : z ≤ 2
  · exfalso
    obtain ⟨j, hj, rfl⟩ := nI_of2 (M := 2) (n := 2) (by decide) l0 l2
    have : j = 0 ∨ j = 1 ∨ j = 2 := by omega
    rcases this with rfl | rfl | rfl
    · exact c0 rfl
    · exact c1 rfl
    · exact c2 rfl
  · rw [if_neg l2]
section ZQD
variable {w : Wd} {x m np : Nat}
theorem e_wkb (h4 : zI w 5 x 4 0 = zI w 6 m 3 0) (h5 : zI w 5 x 5 0 = zI w 6 m 4 0) {R : Nat} (hR : 0 < R ∧ R ≤ 10000) (hR' : zI w 6 m 3 0 = nI R) {A B a b t rA rB : Nat} (hA : A < 8) (hB : B < 8) (ht : t < 24) (pA : PicR w a m A) (pB : PicR w b m B) (zA' : zR w 1 a 1 t = some rA) (zB' : zR w 1 b 1 t = some rB) (RA : RowR w rA m (24 * A + t) t) (RB : RowR w rB m (24 * B + t) t) (MA : MRow w m (24 * A + t)) (MB : MRow w m (24 * B + t)) (x2 x3 z : Int32) (hx : (x2 + x3) - nI A = nI B) : ∃ v, fX5_workBetween x a b (nI t) z w = some v ∧ fX6_work_b45 w m (nI t) x2 x3 z (nI A) = some v := by
  obtain ⟨-, -, -, ⟨ca, hca, ea⟩⟩ := MA
  obtain ⟨-, -, -, ⟨cb, hcb, eb⟩⟩ := MB
  have k1 : fX1_rowOf a (nI t) w = some (some rA) := by
    rw [e_rowOf, inn_nI (by omega), decide_eq_true ht, if_pos rfl, cl_nI (by omega), zA']
  have k2 : fX1_rowOf b (nI t) w = some (some rB) := by
    rw [e_rowOf, inn_nI (by omega), decide_eq_true ht, if_pos rfl, cl_nI (by omega), zB']
  unfold fX5_workBetween fX6_work_b45
  rw [k1, k2, bd_s, bd_s, oc_s, oc_s, RA.2.2.1, RB.2.2.1, ea, eb, h4, h5, hR', e_fmod w hca hcb hR.1 hR.2, bd_s, pA.1.1, pB.1.1, hx, i_24, i_24, cl_nI (by omega), cl_nI (by omega), cl_nI (by omega), cl_nI (by omega), ea, eb, m_least hca hcb hR.1 hR.2]
  rw [ckp_ix _ (by omega) (by decide), ckp_ix _ (by omega) (by decide), ckp_ix _ (by omega) (by decide), ckp_ix _ (by omega) (by decide)]
  simp only [ckp_t _ (nI_ne0 hR.1 (show R < 2147483648 by omega))]
  by_cases e : nI ((cb % R + R - ca % R) % R) ≤ zI w 6 m 4 0 * (zI w 6 m 5 B - zI w 6 m 5 A)
  · rw [if_pos e, if_pos e]
    exact wk_end h4 _ _ _
  · rw [if_neg e, if_neg e]
    exact wk_end h4 _ _ _
theorem q_work (h : PicsR w x m np) (h4 : zI w 5 x 4 0 = zI w 6 m 3 0) (h5 : zI w 5 x 5 0 = zI w 6 m 4 0) {R : Nat} (hR : 0 < R ∧ R ≤ 10000) (hR' : zI w 6 m 3 0 = nI R) (y p q z : Int32) : ∃ v, fX5_work x y p q z w = some v ∧ fX6_work m y p q z w = some v := by
  have h8 := h.1
  have hb : ∀ (a1 a2 : Nat), (fX1_rowOf a1 y w = some none ∨ fX1_rowOf a2 y w = some none) → fX5_workBetween x a1 a2 y z w = some (-1) := by
    intro a1 a2 ho
    unfold fX5_workBetween fX5_workBetween_b24
    rcases ho with e | e
    · rw [e, bd_s, e_rowOf, bd_s, oc_n]
    · rw [e, e_rowOf, bd_s, bd_s]
      cases (if inn y 24 = true then zR w 1 a1 1 y.toNatClampNeg else none) <;> rfl
  unfold fX5_work fX5_work_b29 fX5_work_b69 fX6_work fX6_work_b23
  rcases pt_cases h p y with ⟨p, a, t, r, hp, ht, rfl, rfl, e1, e2, e3, hR1, hi1, hr1, hrr1, hm1⟩ | ⟨e1, e3⟩
  · rcases pt_cases h q (nI t) with ⟨q, b, t', r', hq, ht', rfl, et, g1, g2, g3, hR2, hi2, hr2, hrr2, hm2⟩ | ⟨g1, g3⟩
    · have ett : t = t' := by rw [i_eq (by omega) (by omega)] at et; exact et
      subst ett
      rw [e1, g1, bd_s, bd_s, oc_s, oc_s, e3, g3, bd_s, bi_t, if_neg (show ¬ (1 : Int32) = 0 by decide), bd_s, if_neg (show ¬ (1 : Int32) = 0 by decide)]
      by_cases epq : nI p = nI q
      · rw [if_pos epq, if_pos epq]; exact ⟨-1, rfl, rfl⟩
      rw [if_neg epq, if_neg epq, hR1.1.1, hR2.1.1, ckp_ix _ (show p < 8 by omega) (by decide), ckp_ix _ (show q < 8 by omega) (by decide), cl_nI (by omega), cl_nI (by omega)]
      by_cases et : zI w 6 m 5 q ≤ zI w 6 m 5 p
      · rw [if_pos et, if_pos et]
        obtain ⟨v, hv1, hv2⟩ := e_wkb h4 h5 hR hR' (A := q) (B := p) (by omega) (by omega) ht hR2 hR1 hr2 hr1 hrr2 hrr1 hm2 hm1 (nI p) (nI q) z (by rw [nI_add, pk_sub (by omega)]; congr 1; omega)
        rw [hv1]
        exact ⟨v, rfl, hv2⟩
      · rw [if_neg et, if_neg et]
        obtain ⟨v, hv1, hv2⟩ := e_wkb h4 h5 hR hR' (A := p) (B := q) (by omega) (by omega) ht hR1 hR2 hr1 hr2 hrr1 hrr2 hm1 hm2 (nI p) (nI q) z (by rw [nI_add, pk_sub (by omega)]; congr 1; omega)
        rw [hv1]
        exact ⟨v, rfl, hv2⟩
    · rw [e1, e3, g3, bd_s, bd_s, bi_t, if_neg (show ¬ (1 : Int32) = 0 by decide), bd_s, bi_f, if_pos rfl]
      refine ⟨-1, ?_, rfl⟩
      rcases g1 with g1 | ⟨b, g1, g2⟩
      · rw [g1]; rfl
      · rw [g1, bd_s, oc_s, oc_s]
        split
        · rfl
        · rw [hb b a (Or.inl g2), hb a b (Or.inr g2)]
          split <;> rfl
  · rw [e3, bd_s, bi_f, if_pos rfl]
    refine ⟨-1, ?_, rfl⟩
    rcases e1 with e1 | ⟨a, e1, e2⟩
    · rw [e1, bd_s]
      rw [e_pictureAt x q w h.2.1 h8]
      rfl
    · rw [e1, bd_s, e_pictureAt x q w h.2.1 h8, bd_s, oc_s]
      cases (if inn q np = true then zR w 5 x 1 q.toNatClampNeg else none) with
      | none => rfl
      | some b =>
        rw [oc_s]
        split
        · rfl
        · rw [hb b a (Or.inr e2), hb a b (Or.inl e2)]
          split <;> rfl
end ZQD
