/-! PURE LAYER: the class measures -/
theorem e_min (a b : Nat) (ha : a < 1000) (hb : b < 1000) (w : Wd) : fJ9_min_7cf53 (nI a) (nI b) w = some (nI (min a b)) := by
  unfold fJ9_min_7cf53 fJ9_min_7cf53_b10
  by_cases e : b < a
  · rw [if_pos (by rw [i_lt (by omega) (by omega)]; exact e), Nat.min_eq_right (by omega)]
  · rw [if_neg (by rw [i_lt (by omega) (by omega)]; exact e), Nat.min_eq_left (by omega)]
def S6 (a : Nat) (c a' k _ : Nat) : Prop := c = 1 ∧ a' = a ∧ k = 6
section ZKD
variable {w : Wd} {a r s nr ns : Nat}
theorem l_d42 (hr : nr ≤ 12) (hs : ns ≤ 12) (h2 : zI w 2 s 6 0 = nI ns) {i : Nat} (hi : i < nr) (rec22 : Nat → Nat → Nat → Int32 → Wd → Option (Int32 × Wd)) : ∀ k fu j v, j + k = ns → k < fu → Fr (S6 a) w v → (∀ z, z ≤ ns → zI v 1 a 6 z = nI (if z ≤ j then edd (zI w 2 r 0) (zI w 2 s 0) (i + 1) z else edd (zI w 2 r 0) (zI w 2 s 0) i z)) → ∃ v', Fr (S6 a) w v' ∧ (∀ z, z ≤ ns → zI v' 1 a 6 z = nI (edd (zI w 2 r 0) (zI w 2 s 0) (i + 1) z)) ∧ fX2_distanceTo_l42 rec22 fu r s a (nI (i + 1)) (nI (edd (zI w 2 r 0) (zI w 2 s 0) i j)) (nI (j + 1)) v = rec22 r s a (nI (i + 1 + 1)) v' := by
  intro k
  induction k with
  | zero =>
    intro fu j v h3 h4 hF hV
    obtain ⟨fu, rfl⟩ : ∃ f', fu = f' + 1 := ⟨fu - 1, by omega⟩
    refine ⟨v, hF, fun z hz => by rw [hV z hz, if_pos (by omega)], ?_⟩
    show fX2_distanceTo_b42 rec22 (fX2_distanceTo_l42 rec22 fu) r s a (nI (i + 1)) _ (nI (j + 1)) v = _
    unfold fX2_distanceTo_b42
    rw [hF.1 2 s 6 0 (by unfold S6; omega), h2, if_pos (nI_lt (by omega) (by omega)), nI_1]
  | succ k ih =>
    intro fu j v h3 h4 hF hV
    obtain ⟨fu, rfl⟩ : ∃ f', fu = f' + 1 := ⟨fu - 1, by omega⟩
    have b1 := edd_le (zI w 2 r 0) (zI w 2 s 0) i j
    have b2 := edd_le (zI w 2 r 0) (zI w 2 s 0) i (j + 1)
    have b3 := edd_le (zI w 2 r 0) (zI w 2 s 0) (i + 1) j
    have v1 := hV (j + 1) (by omega)
    have v0 := hV j (by omega)
    rw [if_neg (by omega)] at v1
    rw [if_pos (by omega)] at v0
    have key : ∀ y, y = edd (zI w 2 r 0) (zI w 2 s 0) i j + (if zI w 2 r 0 i = zI w 2 s 0 j then 0 else 1) → fX2_distanceTo_b80 rec22 (fX2_distanceTo_l42 rec22 fu) r s a (nI (i + 1)) (nI (j + 1)) (nI y) v = fX2_distanceTo_l42 rec22 fu r s a (nI (i + 1)) (nI (edd (zI w 2 r 0) (zI w 2 s 0) i (j + 1))) (nI (j + 1 + 1)) (sI v 1 a 6 (j + 1) (nI (edd (zI w 2 r 0) (zI w 2 s 0) (i + 1) (j + 1)))) := by
      intro y hy
      have hy2 : y ≤ i + j + 1 := by split at hy <;> omega
      unfold fX2_distanceTo_b80
      rw [ckp_ix _ (by omega) (by decide), nI_pred, ckp_ix _ (by omega) (by decide), cl_nI (by omega), cl_nI (by omega), v1, v0, e_min _ _ (by omega) (by omega), bd_s, nI_1, e_min _ _ (by omega) (by omega), bd_s, ckp_ix _ (by omega) (by decide), lt_e, nI_1]
      rw [edd, ← hy, Nat.add_comm 1]
    show ∃ v', _ ∧ _ ∧ fX2_distanceTo_b42 rec22 (fX2_distanceTo_l42 rec22 fu) r s a (nI (i + 1)) _ (nI (j + 1)) v = _
    unfold fX2_distanceTo_b42
    rw [hF.1 2 s 6 0 (by unfold S6; omega), h2, if_neg (nI_nlt (by omega) (by omega)), nI_pred, nI_pred, ckp_ix _ (by omega) (by decide), ckp_ix _ (by omega) (by decide), cl_nI (by omega), cl_nI (by omega), hF.1 2 r 0 i (by unfold S6; omega), hF.1 2 s 0 j (by unfold S6; omega)]
    have go := ih fu (j + 1) (sI v 1 a 6 (j + 1) (nI (edd (zI w 2 r 0) (zI w 2 s 0) (i + 1) (j + 1)))) (by omega) (by omega) (hF.set _ ⟨rfl, rfl, rfl⟩) (fun z hz => by
      by_cases q : z = j + 1
      · rw [q, zI_sIs, if_pos (Nat.le_refl _)]
      · rw [zI_sIn (by omega), hV z hz]
        by_cases q2 : z ≤ j
        · rw [if_pos q2, if_pos (by omega)]
        · rw [if_neg q2, if_neg (by omega)])
    by_cases e : zI w 2 r 0 i = zI w 2 s 0 j
    · rw [if_pos e, key _ (by rw [if_pos e]; rfl)]
      exact go
    · rw [if_neg e, nI_1, key _ (by rw [if_neg e])]
      exact go
theorem l_d22 (hr : nr ≤ 12) (hs : ns ≤ 12) (h1 : zI w 2 r 6 0 = nI nr) (h2 : zI w 2 s 6 0 = nI ns) : ∀ k fu i v, i + k = nr → k < fu → Fr (S6 a) w v → (∀ z, z ≤ ns → zI v 1 a 6 z = nI (edd (zI w 2 r 0) (zI w 2 s 0) i z)) → ∃ v', Fr (S6 a) w v' ∧ fX2_distanceTo_l22 fu r s a (nI (i + 1)) v = some (nI (edd (zI w 2 r 0) (zI w 2 s 0) nr ns), v') := by
  intro k
  induction k with
  | zero =>
    intro fu i v h3 h4 hF hV
    obtain ⟨fu, rfl⟩ : ∃ f', fu = f' + 1 := ⟨fu - 1, by omega⟩
    refine ⟨v, hF, ?_⟩
    show fX2_distanceTo_b22 (fX2_distanceTo_l22 fu) r s a (nI (i + 1)) v = _
    unfold fX2_distanceTo_b22
    rw [hF.1 2 r 6 0 (by unfold S6; omega), hF.1 2 s 6 0 (by unfold S6; omega), h1, h2, if_pos (nI_lt (by omega) (by omega)), ckp_ix _ (by omega) (by decide), cl_nI (by omega), hV ns (Nat.le_refl _), show i = nr by omega]
  | succ k ih =>
    intro fu i v h3 h4 hF hV
    obtain ⟨fu, rfl⟩ : ∃ f', fu = f' + 1 := ⟨fu - 1, by omega⟩
    show ∃ v', _ ∧ fX2_distanceTo_b22 (fX2_distanceTo_l22 fu) r s a (nI (i + 1)) v = _
    unfold fX2_distanceTo_b22
    rw [hF.1 2 r 6 0 (by unfold S6; omega), h1, if_neg (nI_nlt (by omega) (by omega)), ckp_t _ (by decide), ckp_t _ (by decide), lt_e, show (0 : Int32).toNatClampNeg = 0 from rfl, hV 0 (by omega)]
    obtain ⟨v2, F2, V2, E2⟩ := l_d42 (r := r) hr hs h2 (i := i) (by omega) (fX2_distanceTo_l22 fu) ns 1000 0 (sI v 1 a 6 0 (nI (i + 1))) (by omega) (by omega) (hF.set _ ⟨rfl, rfl, rfl⟩) (fun z hz => by
      by_cases q : z = 0
      · rw [q, zI_sIs, if_pos (Nat.le_refl _), edd]
      · rw [zI_sIn (by omega), hV z hz, if_neg (by omega)])
    rw [show fX2_distanceTo_l42 (fX2_distanceTo_l22 fu) 1000 r s a (nI (i + 1)) (nI (edd (zI w 2 r 0) (zI w 2 s 0) i 0)) 1 (sI v 1 a 6 0 (nI (i + 1))) = _ from E2]
    exact ih fu (i + 1) v2 (by omega) (by omega) F2 V2
theorem l_d2 (hr : nr ≤ 12) (hs : ns ≤ 12) (h1 : zI w 2 r 6 0 = nI nr) (h2 : zI w 2 s 6 0 = nI ns) : ∀ k fu j v, j + k = ns + 1 → k < fu → Fr (S6 a) w v → (∀ z, z < j → zI v 1 a 6 z = nI z) → ∃ v', Fr (S6 a) w v' ∧ fX2_distanceTo_l2 fu r s a (nI j) v = some (nI (edd (zI w 2 r 0) (zI w 2 s 0) nr ns), v') := by
  intro k
  induction k with
  | zero =>
    intro fu j v h3 h4 hF hV
    obtain ⟨fu, rfl⟩ : ∃ f', fu = f' + 1 := ⟨fu - 1, by omega⟩
    show ∃ v', _ ∧ fX2_distanceTo_b2 (fX2_distanceTo_l2 fu) r s a (nI j) v = _
    unfold fX2_distanceTo_b2
    rw [hF.1 2 s 6 0 (by unfold S6; omega), h2, if_pos (nI_lt (by omega) (by omega))]
    exact l_d22 hr hs h1 h2 nr 1000 0 v (by omega) (by omega) hF (fun z hz => by rw [hV z (by omega), edd])
  | succ k ih =>
    intro fu j v h3 h4 hF hV
    obtain ⟨fu, rfl⟩ : ∃ f', fu = f' + 1 := ⟨fu - 1, by omega⟩
    show ∃ v', _ ∧ fX2_distanceTo_b2 (fX2_distanceTo_l2 fu) r s a (nI j) v = _
    unfold fX2_distanceTo_b2
    rw [hF.1 2 s 6 0 (by unfold S6; omega), h2, if_neg (nI_nlt (by omega) (by omega)), ckp_ix _ (by omega) (by decide), cl_nI (by omega), lt_e, nI_1]
    exact ih fu (j + 1) _ (by omega) (by omega) (hF.set _ ⟨rfl, rfl, rfl⟩) (fun z hz => by
      by_cases q : z = j
      · rw [q, zI_sIs]
      · rw [zI_sIn (by omega)]; exact hV z (by omega))
theorem e_dist (hr : nr ≤ 12) (hs : ns ≤ 12) (h1 : zI w 2 r 6 0 = nI nr) (h2 : zI w 2 s 6 0 = nI ns) : ∃ v', Fr (S6 a) w v' ∧ fX2_distanceTo r s a w = some (nI (edd (zI w 2 r 0) (zI w 2 s 0) nr ns), v') := l_d2 hr hs h1 h2 (ns + 1) 1000 0 w (by omega) (by omega) (Fr.refl w) (fun z hz => by omega)
end ZKD
def ed (d e : RD) : Nat := edd (dCa d) (dCa e) (dMn d) (dMn e)
theorem ed_sym (d e : RD) : ed d e = ed e d := edd_sym _ _ _ _
theorem ed_le {d e : RD} (hd : dMn d ≤ 12) (he : dMn e ≤ 12) : ed d e ≤ 24 := by
  have := edd_le (dCa d) (dCa e) (dMn d) (dMn e)
  unfold ed
  omega
/-- the rows that a picture of the class has -/
def PRow (v : Wd) (a : Nat) (R : RS) : Prop := ∀ t, t < 24 → (R t = none ∧ zR v 1 a 1 t = none) ∨ ∃ d r, R t = some d ∧ zR v 1 a 1 t = some r ∧ r < zS v ∧ RowC v r t d
def ROK (R : RS) : Prop := ∀ t d, R t = some d → t < 24 ∧ RDok d
def S56 (a : Nat) (c a' k _ : Nat) : Prop := c = 1 ∧ a' = a ∧ (k = 5 ∨ k = 6)
theorem RowC.fr {v v' : Wd} {r t : Nat} {d : RD} (h : RowC v r t d) (g : ∀ k j, zI v' 2 r k j = zI v 2 r k j) : RowC v' r t d := by
  unfold RowC
  simp only [g]
  exact h
section ZMF
variable {w : Wd} {a r t : Nat} {R : RS} {dr : RD}
theorem e_rdist {s u : Nat} {d : RD} (h1 : RowC w r t dr) (h2 : RowC w s u d) (hd : dMn dr ≤ 12) (hd2 : dMn d ≤ 12) : ∃ v', Fr (S6 a) w v' ∧ fX2_distanceTo r s a w = some (nI (ed dr d), v') := by
  obtain ⟨v', F, E⟩ := e_dist (a := a) hd hd2 h1.2.2.2.2.2.1 h2.2.2.2.2.2.1
  refine ⟨v', F, E.trans ?_⟩
  rw [show edd (zI w 2 r 0) (zI w 2 s 0) (dMn dr) (dMn d) = ed dr d from edd_cong _ _ h1.2.2.2.2.2.2 h2.2.2.2.2.2.2]
theorem l_mf (hR : PRow w a R) (hok : ROK R) (ht : t < 24) (hn : R t = none) (h1 : RowC w r t dr) (hd : dMn dr ≤ 12) : ∀ k fu u v, u + k = 24 → k < fu → Fr (S56 a) w v → (∀ x d, x < u → R x = some d → zI v 1 a 5 (24 * t + x) = nI (ed dr d) ∧ zI v 1 a 5 (24 * x + t) = nI (ed d dr)) → (∀ x y, x < 24 → y < 24 → ((x ≠ t ∧ y ≠ t) ∨ (x = t ∧ y = t)) → zI v 1 a 5 (24 * x + y) = zI w 1 a 5 (24 * x + y)) → ∃ v', Fr (S56 a) w v' ∧ (∀ x d, x < 24 → R x = some d → zI v' 1 a 5 (24 * t + x) = nI (ed dr d) ∧ zI v' 1 a 5 (24 * x + t) = nI (ed d dr)) ∧ (∀ x y, x < 24 → y < 24 → ((x ≠ t ∧ y ≠ t) ∨ (x = t ∧ y = t)) → zI v' 1 a 5 (24 * x + y) = zI w 1 a 5 (24 * x + y)) ∧ fX1_measureFrom_l11 fu a r a 24 (nI u) v = some v' := by
  intro k
  induction k with
  | zero =>
    intro fu u v h3 h4 hF hV hW
    obtain ⟨fu, rfl⟩ : ∃ f', fu = f' + 1 := ⟨fu - 1, by omega⟩
    refine ⟨v, hF, fun x d hx e => hV x d (by omega) e, hW, ?_⟩
    show fX1_measureFrom_b11 (fX1_measureFrom_l11 fu) a r a 24 (nI u) v = _
    unfold fX1_measureFrom_b11
    rw [if_pos (show (24 : Int32) ≤ nI u from nI_le (a := 24) (by omega) (by omega))]
  | succ k ih =>
    intro fu u v h3 h4 hF hV hW
    obtain ⟨fu, rfl⟩ : ∃ f', fu = f' + 1 := ⟨fu - 1, by omega⟩
    show ∃ v', _ ∧ _ ∧ _ ∧ fX1_measureFrom_b11 (fX1_measureFrom_l11 fu) a r a 24 (nI u) v = _
    unfold fX1_measureFrom_b11 fX1_measureFrom_b81
    rw [if_neg (show ¬ (24 : Int32) ≤ nI u from nI_ge (b := 24) (by omega) (by decide)), ckp_ix _ (by omega) (by decide), cl_nI (by omega), lt_e, hF.2.1]
    rcases hR u (by omega) with ⟨q1, q2⟩ | ⟨d, s, q1, q2, q3, q4⟩
    · rw [q2, oc_n, nI_1]
      exact ih fu (u + 1) v (by omega) (by omega) hF (fun x d hx e => by
        by_cases z : x = u
        · rw [z, q1] at e; cases e
        · exact hV x d (by omega) e) hW
    · have hut : u ≠ t := fun z => by rw [z, hn] at q1; cases q1
      have g2 : ∀ b k j, zI v 2 b k j = zI w 2 b k j := fun b k j => hF.1 2 b k j (by unfold S56; omega)
      have hd2 := (hok u d q1).2.2.2.2
      obtain ⟨v2, F2, E2⟩ := e_rdist (w := v) (a := a) (h1.fr (g2 r)) (q4.fr (g2 s)) hd hd2
      have g3 : ∀ b k j, zI v2 2 b k j = zI w 2 b k j := fun b k j => (F2.1 2 b k j (by unfold S6; omega)).trans (g2 b k j)
      have hle := ed_le hd hd2
      rw [q2, oc_s, E2, bd2_s, g3, g3, h1.1, q4.1, q24, pk_mul, nI_add, ckp_ix _ (show t * 24 + u < 576 by omega) (by decide), lowb _ (by omega), cl_nI (by omega), lt_e, zI_sIn (by omega), zI_sIn (by omega), g3, g3, h1.1, q4.1, pk_mul, nI_add, ckp_ix _ (show u * 24 + t < 576 by omega) (by decide), cl_nI (by omega), lt_e, nI_1]
      refine ih fu (u + 1) _ (by omega) (by omega) (((hF.trans (F2.mono (fun c a' k j z => ⟨z.1, z.2.1, Or.inr z.2.2⟩))).set _ ⟨rfl, rfl, Or.inl rfl⟩).set _ ⟨rfl, rfl, Or.inl rfl⟩) ?_ ?_
      · intro x e hx hxe
        have hx24 := (hok x e hxe).1
        have hxt : x ≠ t := fun z => by rw [z, hn] at hxe; cases hxe
        by_cases z : x = u
        · subst z
          rw [q1] at hxe
          cases hxe
          refine ⟨?_, ?_⟩
          · rw [zI_sIn (by omega), show 24 * t + x = t * 24 + x by omega, zI_sIs]
          · rw [show 24 * x + t = x * 24 + t by omega, zI_sIs, ed_sym]
        · have := hV x e (by omega) hxe
          refine ⟨?_, ?_⟩
          · rw [zI_sIn (by omega), zI_sIn (by omega), F2.1 1 a 5 _ (by unfold S6; omega)]; exact this.1
          · rw [zI_sIn (by omega), zI_sIn (by omega), F2.1 1 a 5 _ (by unfold S6; omega)]; exact this.2
      · intro x y hx hy hxy
        rw [zI_sIn (by omega), zI_sIn (by omega), F2.1 1 a 5 _ (by unfold S6; omega)]
        exact hW x y hx hy hxy
end ZMF
