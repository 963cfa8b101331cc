/-! PURE LAYER: the law -/
section ZLA
variable {xs : Nat → Int32} {n : Nat} {w : Wd} {x m tp lo np : Nat} {Rs : Nat → RS} {tk : Nat → Nat} {tn : Nat → Int32}
theorem ix_k {i k : Nat} {y : Int32} (hy : y = nI k) (h : i + k < n) (hn : n ≤ 3072) : ix (nI i + y) n = true := by
  rw [hy, nI_add]; exact ix_nI h (by omega)
set_option maxHeartbeats 4000000 in
theorem law_step (h : Inv w x m tp lo np Rs tk tn) (rec18 : Nat → Nat → Int32 → Wd → Option Unit) {i : Nat} (hn : n ≤ 3072) (hi : i + 6 ≤ n) : ∃ w' np' Rs' tk' tn', Inv w' x m tp lo np' Rs' tk' tn' ∧ fL_law_b18 xs n rec18 x m (nI i) w = fL_law_b808 xs n rec18 x m (nI i) w' := by
  have k0 : ix (nI i) n = true := ix_nI (by omega) (by omega)
  have k1 : ix (nI i + 1) n = true := ix_k (k := 1) rfl (by omega) hn
  have k2 : ix (nI i + 2) n = true := ix_k (k := 2) rfl (by omega) hn
  have k3 : ix (nI i + 3) n = true := ix_k (k := 3) rfl (by omega) hn
  have k4 : ix (nI i + 4) n = true := ix_k (k := 4) rfl (by omega) hn
  have k5 : ix (nI i + 5) n = true := ix_k (k := 5) rfl (by omega) hn
  have hP := h.pics
  have hM := h.2.2.2.2.2.1
  obtain ⟨L, t1, t2, t3, t4⟩ := h.2.2.2.2.1
  unfold fL_law_b18
  rw [if_neg (show ¬ Int32.ofNat n - 6 < nI i by
    rw [show Int32.ofNat n - 6 = nI (n - 6) from pk_sub (a := n) (b := 6) (by omega)]
    exact nI_nlt (by omega) (by omega)), ckp_t _ k0]
  generalize xs (nI i).toNatClampNeg &&& 31 = g
  by_cases c0 : g = 0
  · obtain ⟨v, w1, w', e1, e2, F, T⟩ := q_feed h.2.2.2.1.1 h.2.2.2.2.1 (xs (nI i + 1).toNatClampNeg) (xs (nI i + 2).toNatClampNeg) (xs (nI i + 3).toNatClampNeg) (xs (nI i + 4).toNatClampNeg) (xs (nI i + 5).toNatClampNeg)
    rw [if_pos c0, ckp_t _ k1, ckp_t _ k2, ckp_t _ k3, ckp_t _ k4, ckp_t _ k5, e1, bd2_s, ckp_t _ k1, ckp_t _ k2, ckp_t _ k3, ckp_t _ k4, ckp_t _ k5, e2, bd2_s, if_pos rfl]
    refine ⟨w', np, Rs, tk, tn, h.q (F.mono (fun c a k j q => ?_)) T (hM.keep (fun k hk => F.1 5 x k 0 (by unfold STm STt; omega)) (fun k hk => F.1 6 m k 0 (by unfold STm STt; omega))), rfl⟩
    rcases q with q | q
    · exact Or.inl q.1
    · exact Or.inr (Or.inr ⟨q.1, by have := q.2.2; omega⟩)
  rw [if_neg c0]
  by_cases c1 : g = 1
  · obtain ⟨v, w1, w', np', Rs', tk', tn', e1, e2, h'⟩ := q_picture h (xs (nI i + 1).toNatClampNeg)
    rw [if_pos c1, ckp_t _ k1, e1, bd2_s, ckp_t _ k1, e2, bd2_s, if_pos rfl]
    exact ⟨w', np', Rs', tk', tn', h', rfl⟩
  rw [if_neg c1]
  by_cases c2 : g = 2
  · obtain ⟨v, e1, e2⟩ := q_torn hP (xs (nI i + 1).toNatClampNeg)
    rw [if_pos c2, ckp_t _ k1, e1, bd_s, ckp_t _ k1, e2, bd_s, if_pos rfl]
    exact ⟨w, np, Rs, tk, tn, h, rfl⟩
  rw [if_neg c2]
  by_cases c3 : g = 3
  · obtain ⟨v, e1, e2⟩ := q_look hP (xs (nI i + 1).toNatClampNeg) (xs (nI i + 2).toNatClampNeg) (xs (nI i + 3).toNatClampNeg)
    rw [if_pos c3, ckp_t _ k1, ckp_t _ k2, ckp_t _ k3, e1, bd_s, ckp_t _ k1, ckp_t _ k2, ckp_t _ k3, e2, bd_s, if_pos rfl]
    exact ⟨w, np, Rs, tk, tn, h, rfl⟩
  rw [if_neg c3]
  by_cases c4 : g = 4
  · obtain ⟨v, e1, e2⟩ := q_holder hP (xs (nI i + 1).toNatClampNeg) (xs (nI i + 2).toNatClampNeg)
    rw [if_pos c4, ckp_t _ k1, ckp_t _ k2, e1, bd_s, ckp_t _ k1, ckp_t _ k2, e2, bd_s, if_pos rfl]
    exact ⟨w, np, Rs, tk, tn, h, rfl⟩
  rw [if_neg c4]
  by_cases c5 : g = 5
  · obtain ⟨v, e1, e2⟩ := q_rings hP (xs (nI i + 1).toNatClampNeg)
    rw [if_pos c5, ckp_t _ k1, e1, bd_s, ckp_t _ k1, e2, bd_s, if_pos rfl]
    exact ⟨w, np, Rs, tk, tn, h, rfl⟩
  rw [if_neg c5]
  by_cases c6 : g = 6
  · obtain ⟨v, e1, e2⟩ := q_ring hP (xs (nI i + 1).toNatClampNeg) (xs (nI i + 2).toNatClampNeg) (xs (nI i + 3).toNatClampNeg)
    rw [if_pos c6, ckp_t _ k1, ckp_t _ k2, ckp_t _ k3, e1, bd_s, ckp_t _ k1, ckp_t _ k2, ckp_t _ k3, e2, bd_s, if_pos rfl]
    exact ⟨w, np, Rs, tk, tn, h, rfl⟩
  rw [if_neg c6]
  by_cases c7 : g = 7
  · obtain ⟨v, e1, e2⟩ := q_foot hP (xs (nI i + 1).toNatClampNeg) (xs (nI i + 2).toNatClampNeg)
    rw [if_pos c7, ckp_t _ k1, ckp_t _ k2, e1, bd_s, ckp_t _ k1, ckp_t _ k2, e2, bd_s, if_pos rfl]
    exact ⟨w, np, Rs, tk, tn, h, rfl⟩
  rw [if_neg c7]
  by_cases c8 : g = 8
  · obtain ⟨v, e1, e2⟩ := q_through hP (xs (nI i + 1).toNatClampNeg) (xs (nI i + 2).toNatClampNeg)
    rw [if_pos c8, ckp_t _ k1, ckp_t _ k2, e1, bd_s, ckp_t _ k1, ckp_t _ k2, e2, bd_s, if_pos rfl]
    exact ⟨w, np, Rs, tk, tn, h, rfl⟩
  rw [if_neg c8]
  by_cases c9 : g = 9
  · obtain ⟨v, e1, e2⟩ := q_weight hP (xs (nI i + 1).toNatClampNeg) (xs (nI i + 2).toNatClampNeg)
    rw [if_pos c9, ckp_t _ k1, ckp_t _ k2, e1, bd_s, ckp_t _ k1, ckp_t _ k2, e2, bd_s, if_pos rfl]
    exact ⟨w, np, Rs, tk, tn, h, rfl⟩
  rw [if_neg c9]
  by_cases c10 : g = 10
  · obtain ⟨v, e1, e2⟩ := q_guilty hP (xs (nI i + 1).toNatClampNeg)
    rw [if_pos c10, ckp_t _ k1, e1, bd_s, ckp_t _ k1, e2, bd_s, if_pos rfl]
    exact ⟨w, np, Rs, tk, tn, h, rfl⟩
  rw [if_neg c10]
  by_cases c11 : g = 11
  · obtain ⟨v, e1, e2⟩ := q_stuck hP (xs (nI i + 1).toNatClampNeg)
    rw [if_pos c11, ckp_t _ k1, e1, bd_s, ckp_t _ k1, e2, bd_s, if_pos rfl]
    exact ⟨w, np, Rs, tk, tn, h, rfl⟩
  rw [if_neg c11]
  by_cases c12 : g = 12
  · obtain ⟨v, w', e1, e2, F⟩ := q_broken hP h.2.2.2.1.2 h.lor (xs (nI i + 1).toNatClampNeg)
    rw [if_pos c12, ckp_t _ k1, e1, bd_s, ckp_t _ k1, e2, bd2_s, if_pos rfl]
    exact ⟨w', np, Rs, tk, tn, h.scr F (fun c a k j q => ⟨q.1, by have := q.2.2; omega⟩), rfl⟩
  rw [if_neg c12]
  by_cases c13 : g = 13
  · obtain ⟨v, w1, w', e1, e2, F, M1, M2, M3⟩ := q_meter hM.1 hM.2.1 hM.2.2 (xs (nI i + 1).toNatClampNeg) (xs (nI i + 2).toNatClampNeg)
    rw [if_pos c13, ckp_t _ k1, ckp_t _ k2, e1, bd2_s, ckp_t _ k1, ckp_t _ k2, e2, bd2_s, if_pos rfl]
    refine ⟨w', np, Rs, tk, tn, h.q (F.mono (fun c a k j q => ?_)) (h.2.2.2.2.1.keep (fun k j => F.1 4 tp k j (by unfold SMe; omega)) (fun k j hk => F.1 6 m k j (by unfold SMe; omega))) ⟨M1, M2, M3⟩, rfl⟩
    rcases q with q | q
    · exact Or.inr (Or.inl ⟨q.1, q.2.2⟩)
    · exact Or.inr (Or.inr ⟨q.1, by have := q.2.2; omega⟩)
  rw [if_neg c13]
  by_cases c14 : g = 14
  · obtain ⟨R, hR, hR'⟩ := hM.2.2
    obtain ⟨v, e1, e2⟩ := q_work hP hM.1 hM.2.1 hR hR' (xs (nI i + 1).toNatClampNeg) (xs (nI i + 2).toNatClampNeg) (xs (nI i + 3).toNatClampNeg) (xs (nI i + 4).toNatClampNeg)
    rw [if_pos c14, ckp_t _ k1, ckp_t _ k2, ckp_t _ k3, ckp_t _ k4, e1, bd_s, ckp_t _ k1, ckp_t _ k2, ckp_t _ k3, ckp_t _ k4, e2, bd_s, if_pos rfl]
    exact ⟨w, np, Rs, tk, tn, h, rfl⟩
  rw [if_neg c14]
  by_cases c15 : g = 15
  · obtain ⟨v, w', e1, e2, F⟩ := q_distance hP (xs (nI i + 1).toNatClampNeg) (xs (nI i + 2).toNatClampNeg) (xs (nI i + 3).toNatClampNeg)
    rw [if_pos c15, ckp_t _ k1, ckp_t _ k2, ckp_t _ k3, e1, bd_s, ckp_t _ k1, ckp_t _ k2, ckp_t _ k3, e2, bd2_s, if_pos rfl]
    exact ⟨w', np, Rs, tk, tn, h.scr F (fun c a k j q => ⟨q.1, by have := q.2.2; omega⟩), rfl⟩
  rw [if_neg c15]
  by_cases c16 : g = 16
  · obtain ⟨v, w', e1, e2, F⟩ := q_heaps hP (xs (nI i + 1).toNatClampNeg) (xs (nI i + 2).toNatClampNeg)
    rw [if_pos c16, ckp_t _ k1, ckp_t _ k2, e1, bd_s, ckp_t _ k1, ckp_t _ k2, e2, bd2_s, if_pos rfl]
    exact ⟨w', np, Rs, tk, tn, h.scr F (fun c a k j q => ⟨q.1, by have := q.2.2; omega⟩), rfl⟩
  rw [if_neg c16]
  by_cases c17 : g = 17
  · obtain ⟨v, w', e1, e2, F⟩ := q_heap hP (xs (nI i + 1).toNatClampNeg) (xs (nI i + 2).toNatClampNeg) (xs (nI i + 3).toNatClampNeg)
    rw [if_pos c17, ckp_t _ k1, ckp_t _ k2, ckp_t _ k3, e1, bd_s, ckp_t _ k1, ckp_t _ k2, ckp_t _ k3, e2, bd2_s, if_pos rfl]
    exact ⟨w', np, Rs, tk, tn, h.scr F (fun c a k j q => ⟨q.1, by have := q.2.2; omega⟩), rfl⟩
  rw [if_neg c17]
  by_cases c18 : g = 18
  · obtain ⟨v, e1, e2⟩ := q_order hP (xs (nI i + 1).toNatClampNeg)
    rw [if_pos c18, ckp_t _ k1, e1, bd_s, ckp_t _ k1, e2, bd_s, if_pos rfl]
    exact ⟨w, np, Rs, tk, tn, h, rfl⟩
  rw [if_neg c18]
  by_cases c19 : g = 19
  · obtain ⟨v, e1, e2⟩ := q_count hP h.2.2.2.1.1 (t2.trans t3.symm) hM.1 hM.2.1 (xs (nI i + 1).toNatClampNeg) (xs (nI i + 2).toNatClampNeg)
    rw [if_pos c19, ckp_t _ k1, ckp_t _ k2, e1, bd_s, ckp_t _ k1, ckp_t _ k2, e2, bd_s, if_pos rfl]
    exact ⟨w, np, Rs, tk, tn, h, rfl⟩
  rw [if_neg c19]
  exact ⟨w, np, Rs, tk, tn, h, rfl⟩
theorem law_end (rec18 : Nat → Nat → Int32 → Wd → Option Unit) {i : Nat} (hn : n ≤ 3072) (hi3 : i ≤ 3072) (hi : ¬ i + 6 ≤ n) : fL_law_b18 xs n rec18 x m (nI i) w = some () := by
  unfold fL_law_b18
  by_cases c : 6 ≤ n
  · rw [if_pos (show Int32.ofNat n - 6 < nI i by
      rw [show Int32.ofNat n - 6 = nI (n - 6) from pk_sub (a := n) (b := 6) c]
      exact nI_lt (by omega) (by omega))]
  · rw [if_pos (show Int32.ofNat n - 6 < nI i by
      have h1 : nI n - nI 6 < 0 := pk_sneg (by decide) (by omega)
      have h2 : (nI i).toInt = i := nI_toInt (by omega)
      have h3 : (nI n - nI 6) = Int32.ofNat n - 6 := rfl
      rw [h3] at h1
      rw [Int32.lt_iff_toInt_lt] at h1 ⊢
      have e0 : (0 : Int32).toInt = 0 := by decide
      omega)]
theorem l_law (hn : n ≤ 3072) : ∀ k fu i w np Rs tk tn, n < i + 6 * k + 6 → k < fu → i ≤ 3072 → Inv w x m tp lo np Rs tk tn → fL_law_l18 xs n fu x m (nI i) w = some () := by
  intro k
  induction k with
  | zero =>
    intro fu i w np Rs tk tn h1 h2 h3 h
    obtain ⟨fu, rfl⟩ : ∃ f', fu = f' + 1 := ⟨fu - 1, by omega⟩
    exact law_end (fL_law_l18 xs n fu) hn h3 (by omega)
  | succ k ih =>
    intro fu i w np Rs tk tn h1 h2 h3 h
    obtain ⟨fu, rfl⟩ : ∃ f', fu = f' + 1 := ⟨fu - 1, by omega⟩
    by_cases hi : i + 6 ≤ n
    · obtain ⟨w', np', Rs', tk', tn', h', e⟩ := law_step (xs := xs) h (fL_law_l18 xs n fu) hn hi
      show fL_law_b18 xs n (fL_law_l18 xs n fu) x m (nI i) w = _
      rw [e]
      unfold fL_law_b808
      rw [show nI i + 6 = nI (i + 6) from nI_add i 6]
      exact ih fu (i + 6) w' np' Rs' tk' tn' (by omega) (by omega) (by omega) h'
    · exact law_end (fL_law_l18 xs n fu) hn h3 hi
end ZLA
/-! the start -/
theorem szs_no {A : Nat → Nat → Bool} (hA : ∀ l b, A l b = false) (s : Nat) : ¬ szs A s < 16 := fun h => by
  obtain ⟨b, -, -, q, -⟩ := szs_ex h
  rw [hA] at q; cases q
theorem brs_no {A : Nat → Nat → Bool} (hA : ∀ l b, A l b = false) : ∀ k s g, (brs A k s 0 g).1 = 0
  | 0, _, _ => rfl
  | k + 1, s, g => by
    unfold brs
    rw [if_neg (fun q => szs_no hA s q.1)]
    exact brs_no hA k (s + 1) g
theorem x6_o {w : Wd} {c a k j : Nat} (h : ¬ (c = 6 ∧ a = zS w)) : zI (nwX6 w) c a k j = zI w c a k j := if_neg h
theorem x6_s (w : Wd) (k j : Nat) : zI (nwX6 w) 6 (zS w) k j = if k = 3 then 10000 else if k = 4 then 10 else 0 := if_pos ⟨rfl, rfl⟩
theorem x6_R {w : Wd} {c a k j : Nat} (h : ¬ (c = 6 ∧ a = zS w)) : zR (nwX6 w) c a k j = zR w c a k j := if_neg h
theorem x5_s (w : Wd) (k j : Nat) : zI (nwX5 w) 5 (zS w) k j = if k = 4 then 10000 else if k = 5 then 10 else 0 := if_pos ⟨rfl, rfl⟩
theorem x5_R (w : Wd) (k j : Nat) : zR (nwX5 w) 5 (zS w) k j = if k = 0 then some (zS w + 1) else if k = 2 then some (zS w + 4) else none := if_pos ⟨rfl, rfl⟩
theorem x5_z (sz : Nat) {c a k j : Nat} (h : ¬ (c = 5 ∧ a = sz)) : zI (nwX5 (w00 sz)) c a k j = 0 := by
  refine Eq.trans (show zI (nwX5 (w00 sz)) c a k j = zI (nwX0 (bump (nwX4 (bump (w00 sz))))) c a k j from if_neg h) ?_
  show (if c = 0 ∧ a = zS (bump (nwX4 (bump (w00 sz)))) then (0 : Int32) else (if c = 4 ∧ a = zS (bump (w00 sz)) then (0 : Int32) else 0)) = 0
  rw [ite_self, ite_self]
theorem inv_start (sz : Nat) : Inv (nwX6 (nwX5 (w00 sz))) sz (zS (nwX5 (w00 sz))) (sz + 1) (sz + 4) 0 (fun _ => R0) (fun _ => 0) (fun _ => 0) := by
  have hA : ∀ l b, pA (fun _ => R0) 0 l b = false := fun l b => rfl
  have h5 : ∀ k j, zI (nwX6 (nwX5 (w00 sz))) 5 sz k j = if k = 4 then 10000 else if k = 5 then 10 else 0 := fun k j => by
    rw [x6_o (by omega)]; exact x5_s (w00 sz) k j
  have r5 : ∀ k j, zR (nwX6 (nwX5 (w00 sz))) 5 sz k j = if k = 0 then some (sz + 1) else if k = 2 then some (sz + 4) else none := fun k j => by
    rw [x6_R (by omega)]; exact x5_R (w00 sz) k j
  have z0 : ∀ c a k j, c ≠ 5 → c ≠ 6 → zI (nwX6 (nwX5 (w00 sz))) c a k j = 0 := fun c a k j q1 q2 => by
    rw [x6_o (fun z => q2 z.1), x5_z sz (fun z => q1 z.1)]
  refine ⟨⟨by omega, ?_, ?_⟩, fun p hp => by omega, fun p _ _ => ?_, ⟨?_, ?_⟩, ⟨0, by omega, ?_, ?_, fun j hj => by omega⟩, ⟨?_, ?_, 10000, by decide, ?_⟩, ⟨fun l b hl hb' => ?_, ?_, ?_, fun j hj => ?_⟩⟩
  · rw [h5]; rfl
  · rw [x6_s]; rfl
  · rw [r5]; rfl
  · rw [r5]; rfl
  · rw [r5]; rfl
  · rw [z0 _ _ _ _ (by decide) (by decide)]; rfl
  · rw [x6_s]; rfl
  · rw [h5, x6_s]; rfl
  · rw [h5, x6_s]; rfl
  · rw [x6_s]; rfl
  · rw [z0 _ _ _ _ (by decide) (by decide), hb_zero (by omega), hA]
  · rw [brs_no hA]; omega
  · rw [brs_no hA, z0 _ _ _ _ (by decide) (by decide)]; rfl
  · rw [brs_no hA] at hj; omega
theorem law_pure (xs : Nat → Int32) (n : Nat) (hn : n ≤ 3072) (sz : Nat) : fL_law xs n (w00 sz) = some () := by
  unfold fL_law
  rw [lt_e, lt_e, lt_e, lt_e]
  exact l_law (xs := xs) hn 512 513 0 _ 0 _ _ _ (by omega) (by decide) (by omega) (inv_start sz)
