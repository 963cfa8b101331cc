/-! PURE LAYER: a picture comes, both sides -/
section ZQP
variable {w : Wd} {x m tp lo np : Nat} {Rs : Nat → RS} {tk : Nat → Nat} {tn : Nat → Int32}
theorem tkn_cut (hnp : np ≤ 8) (k : Nat) : (fnd (tkn np tk k) 8 0).isSome = (fnd (tkn np tk k) np 0).isSome := by
  have h := fnd_app (tkn np tk k) np (8 - np)
  rw [show np + (8 - np) = 8 by omega] at h
  rw [h]
  have : fnd (fun t => tkn np tk k (np + t)) (8 - np) 0 = none := by
    cases e : fnd (fun t => tkn np tk k (np + t)) (8 - np) 0 with
    | none => rfl
    | some u =>
      have := (fnd_lt e).2.2
      unfold tkn at this
      rw [decide_eq_false (show ¬ np + u < np by omega), Bool.false_and] at this
      cases this
  rw [this]
  exact Bool.or_false _
theorem pA_up (R : RS) : pA (fun p => if p = np then R else Rs p) (np + 1) = fun l b => pA Rs np l b || (fnd (pah R l b) 24 0).isSome := by
  funext l b
  unfold pA
  rw [show 24 * (np + 1) = 24 * np + 24 by omega, fnd_app]
  congr 1
  · congr 1
    refine fnd_cong (fun j _ hj => ?_)
    dsimp only
    rw [if_neg (show ¬ j / 24 = np by omega)]
  · congr 1
    refine fnd_cong (fun t _ ht => ?_)
    dsimp only
    rw [if_pos (show (24 * np + t) / 24 = np by omega), show (24 * np + t) % 24 = t by omega]
/-- refused, or no picture: nothing of the bond changes -/
theorem Inv.no (h : Inv w x m tp lo np Rs tk tn) {w1 w2 : Wd} (F1 : Fr (S4t tp) w w1) (F2 : Fr (SM0 m np) w1 w2) (t1 : zI w1 4 tp 1 0 = nI 0) (t2 : zI w2 6 m 1 0 = nI 0) : Inv w2 x m tp lo np Rs tk tn := by
  refine h.q ((F1.mono (fun c a k j q => Or.inl q.1)).trans (F2.mono (fun c a k j q => Or.inr (Or.inr ⟨q.1, by have := q.2.2; omega⟩)))) ⟨0, by omega, ?_, t2, fun j hj => by omega⟩ ?_
  · rw [F2.1 4 tp 1 0 (by unfold SM0; omega)]; exact t1
  · refine h.2.2.2.2.2.1.keep (fun k hk => ?_) (fun k hk => ?_)
    · rw [F2.1 5 x k 0 (by unfold SM0; omega), F1.1 5 x k 0 (by unfold S4t; omega)]
    · rw [F2.1 6 m k 0 (by unfold SM0; omega), F1.1 6 m k 0 (by unfold S4t; omega)]
theorem q_picture (h : Inv w x m tp lo np Rs tk tn) (y : Int32) : ∃ v w1 w2 np' Rs' tk' tn', fX5_picture x y w = some (v, w1) ∧ fX6_picture m y w1 = some (v, w2) ∧ Inv w2 x m tp lo np' Rs' tk' tn' := by
  obtain ⟨⟨a1, a2, a3⟩, a4, a5, ⟨a6, a7⟩, ⟨L, l1, l2, l3, l4⟩, a9, a10⟩ := id h
  -- refused
  have refuse : (y < 0 ∨ nI L < y ∨ np = 8) → ∃ v w1 w2 np' Rs' tk' tn', fX5_picture x y w = some (v, w1) ∧ fX6_picture m y w1 = some (v, w2) ∧ Inv w2 x m tp lo np' Rs' tk' tn' := by
    intro hr
    refine ⟨-1, w, w, np, Rs, tk, tn, ?_, ?_, h⟩
    · unfold fX5_picture fX5_picture_b24
      by_cases c1 : y < 0
      · rw [if_pos c1]
      rw [if_neg c1, lt_e, a6, nn_s, l2]
      by_cases c2 : nI L < y
      · rw [if_pos c2]
      rw [if_neg c2, a2, (hr.resolve_left c1).resolve_left c2, if_neg (show ¬ nI 8 < (8 : Int32) by decide)]
    · unfold fX6_picture fX6_picture_b21
      by_cases c3 : np = 8
      · rw [a3, c3, if_pos (show nI 8 = (8 : Int32) from rfl)]
      rw [a3, if_neg (show ¬ nI np = (8 : Int32) from fun q => c3 ((nI_eq (b := 8) (by omega) (by decide)).mp q))]
      by_cases c1 : y < 0
      · rw [if_pos c1]
      rw [if_neg c1, l3, if_neg (show ¬ y ≤ nI L from fun q => by
        have q2 := (hr.resolve_left c1).resolve_right c3
        exact i_nlt q q2)]
  by_cases c1 : y < 0
  · exact refuse (Or.inl c1)
  obtain ⟨n, hn31, rfl⟩ := nI_of c1
  by_cases c2 : L < n
  · exact refuse (Or.inr (Or.inl (nI_lt c2 hn31)))
  by_cases c3 : np = 8
  · exact refuse (Or.inr (Or.inr c3))
  have hnp : np < 8 := by omega
  have hn : n ≤ L := by omega
  obtain ⟨w30, F1, T1, X1, P1, E1⟩ := c_pre (n := n) a6 l2 l1 hn a2 hnp
  have f30 : ∀ c a k j, ¬ c = 4 → zI w30 c a k j = zI w c a k j := fun c a k j q => F1.1 c a k j (fun z => q z.1)
  have tape : ∀ v : Wd, (∀ j, zI v 6 m 0 j = zI w 6 m 0 j) → ∀ j, j < n → zI v 6 m 0 j &&& 255 = nI (txw w tp j) := fun v hv j hj => by
    rw [hv j, ← l4 j (by omega)]; exact (txw_ok w tp j).2
  rcases e : sHd (txw w tp) n with ⟨i, o⟩
  rw [e] at P1 E1
  cases o with
  | none =>
    rw [en_none, if_pos pmm] at E1
    obtain ⟨w2, F2, T2, N2, -⟩ := m_pre (v := w30) (m := m) (np := np) (tx := txw w tp) (by rw [f30 6 m 2 0 (by omega)]; exact a3) hnp (by rw [f30 6 m 1 0 (by omega)]; exact l3) l1 hn (fun j => (txw_ok w tp j).1) (tape w30 (fun j => f30 6 m 0 j (by omega)))
    exact ⟨_, w30, w2, np, Rs, tk, tn, E1, N2 (by rw [e]), h.no F1 F2 T1 T2⟩
  | some k =>
    obtain ⟨hi, hk, hend⟩ := sHd_ok e
    have ht30 : fX5_isTickTaken x (nI k) w30 = some (bi (fnd (tkn np tk k) 8 0).isSome) := by
      refine c_taken (v := w30) (tk := tk) hk (fun p hp => ?_) (fun p h1 h2 => by rw [F1.2.1]; exact a5 p h1 h2) 8 1000 0 rfl (by decide)
      obtain ⟨⟨a, q1, q2⟩, -, -, q5⟩ := a4 p hp
      exact ⟨q5, a, by rw [F1.2.1]; exact q1, by rw [f30 1 a 0 0 (by omega)]; exact q2.1⟩
    rw [en_some, if_neg (m1_ne (by omega)), ht30, bd_s, tkn_cut a1] at E1
    have mtk : ∀ v2 : Wd, (∀ p, p < np → zI v2 6 m 5 p = zI w 6 m 5 p) → zI v2 6 m 5 np = nI k → fX6_picture_l117 1000 m (nI np) 0 v2 = if (fnd (tkn np tk k) np 0).isSome = true then some (-2, v2) else fX6_picture_l148 1000 m (nI np) 0 v2 := fun v2 g1 g2 =>
      l_mtk (v := v2) hnp hk (fun p hp => ⟨by rw [g1 p hp]; exact (a4 p hp).2.1.1, (a4 p hp).2.2.2⟩) g2 np 1000 0 (by omega) (by omega)
    by_cases c : (fnd (tkn np tk k) np 0).isSome = true
    · rw [c, bi_t, if_neg n10] at E1
      obtain ⟨w2, F2, T2, -, N2⟩ := m_pre (v := w30) (m := m) (np := np) (tx := txw w tp) (by rw [f30 6 m 2 0 (by omega)]; exact a3) hnp (by rw [f30 6 m 1 0 (by omega)]; exact l3) l1 hn (fun j => (txw_ok w tp j).1) (tape w30 (fun j => f30 6 m 0 j (by omega)))
      obtain ⟨n1, n2, n3, n4, n5⟩ := N2 k (by rw [e])
      rw [mtk w2 (fun p hp => by rw [F2.1 6 m 5 p (by unfold SM0; omega), f30 6 m 5 p (by omega)]) n4, if_pos c] at n5
      exact ⟨_, w30, w2, np, Rs, tk, tn, E1, n5, h.no F1 F2 T1 T2⟩
    · have c' : (fnd (tkn np tk k) np 0).isSome = false := by simpa using c
      rw [c', bi_f, if_pos p00] at E1
      obtain ⟨w1, G1, C1, r1, z1, lo1, ok1, E2⟩ := c_tail (w := w30) (x := x) (tp := tp) (lo := lo) (np := np) (tx := txw w tp) (n := n) (i := i) (k := k) (A := pA Rs np) (by rw [F1.2.1]; exact a6) (by rw [F1.2.1]; exact a7) (by rw [f30 5 x 3 0 (by omega)]; exact a2) hnp X1 (P1 k rfl) hi (fun l b hl hb' => by rw [f30 0 lo 0 l (by omega)]; exact a10.1 l b hl hb')
      rw [E2] at E1
      have hz : zS w30 = zS w := F1.2.2.2
      rw [hz] at G1 C1 r1
      have g1 : ∀ c a k j, ¬ SPt x tp lo np (zS w) c a k j → ¬ c = 4 → zI w1 c a k j = zI w c a k j := fun c a k j q1 q2 => (G1.1 c a k j q1).trans (f30 c a k j q2)
      have gR : ∀ c a k j, ¬ SPt x tp lo np (zS w) c a k j → zR w1 c a k j = zR w c a k j := fun c a k j q1 => (G1.2.1 c a k j q1).trans (by rw [F1.2.1])
      have g6 : ∀ k j, zI w1 6 m k j = zI w 6 m k j := fun k j => g1 6 m k j (by unfold SPt SA; omega) (by omega)
      obtain ⟨w2, F2, T2, -, N2⟩ := m_pre (v := w1) (m := m) (np := np) (tx := txw w tp) (by rw [g6]; exact a3) hnp (by rw [g6]; exact l3) l1 hn (fun j => (txw_ok w tp j).1) (tape w1 (fun j => g6 0 j))
      obtain ⟨n1, n2, n3, n4, n5⟩ := N2 k (by rw [e])
      rw [mtk w2 (fun p hp => by rw [F2.1 6 m 5 p (by unfold SM0; omega), g6]) n4, if_neg c] at n5
      rw [e] at n3
      obtain ⟨w3, F3, M3, z3, E3⟩ := m_rest n1 hnp (by rw [F2.1 6 m 2 0 (by unfold SM0; omega), g6]; exact a3) n2 n3 hi hend n4
      rw [E3] at n5
      have g3 : ∀ c a k j, ¬ c = 6 → zI w3 c a k j = zI w1 c a k j := fun c a k j q => by
        rw [F3.1 c a k j (fun z => q z.1), F2.1 c a k j (fun z => q z.1)]
      have r3 : zR w3 = zR w1 := F3.2.1.trans F2.2.1
      have s3 : zS w3 = zS w1 := F3.2.2.2.trans F2.2.2.2
      have hle : zS w ≤ zS w1 := by rw [← hz]; exact G1.2.2
      refine ⟨_, w1, w3, np + 1, fun p => if p = np then (sRws (txw w tp) n 25 i R0).2 else Rs p, fun p => if p = np then k else tk p, fun p => if p = np then (sRws (txw w tp) n 25 i R0).1 else tn p, E1, n5, ⟨by omega, ?_, z3⟩, fun p hp => ?_, fun p h1 h2 => ?_, ⟨?_, ?_⟩, ⟨0, by omega, ?_, ?_, fun j hj => by omega⟩, ?_, ?_⟩
      · rw [g3 5 x 3 0 (by omega)]; exact z1
      · dsimp only
        by_cases q : p = np
        · subst q
          rw [if_pos rfl, if_pos rfl, if_pos rfl, r3]
          exact ⟨⟨zS w, r1, C1.keep (fun k j => g3 1 _ k j (by omega)) (fun k j => by rw [r3]) (fun r _ k j => g3 2 r k j (by omega)) (by omega)⟩, M3, ok1, hk⟩
        · rw [if_neg q, if_neg q, if_neg q, r3]
          obtain ⟨⟨a, q1, q2⟩, q3, q4, q5⟩ := a4 p (by omega)
          have ha := q2.2.2.2.2
          refine ⟨⟨a, ?_, q2.keep (fun k j => ?_) (fun k j => ?_) (fun r hr k j => ?_) (by omega)⟩, q3.keep q4 ?_ ?_ (fun k t h1 h2 h3 => ?_) (fun j hj => ?_), q4, q5⟩
          · rw [gR 5 x 1 p (by unfold SPt SA; omega)]; exact q1
          · rw [g3 1 a k j (by omega), g1 1 a k j (by unfold SPt SA; omega) (by omega)]
          · rw [r3, gR 1 a k j (by unfold SPt SA; omega)]
          · rw [g3 2 r k j (by omega), g1 2 r k j (by unfold SPt SA; omega) (by omega)]
          · rw [F3.1 6 m 5 p (by unfold SM1; omega), F2.1 6 m 5 p (by unfold SM0; omega), g6]
          · rw [F3.1 6 m 6 p (by unfold SM1; omega), F2.1 6 m 6 p (by unfold SM0; omega), g6]
          · rw [F3.1 6 m k _ (by unfold SM1; omega), F2.1 6 m k _ (by unfold SM0; omega), g6]
          · rw [F3.1 6 m 13 _ (by unfold SM1; omega), F2.1 6 m 13 _ (by unfold SM0; omega), g6]
      · rw [r3, gR 5 x 1 p (by unfold SPt SA; omega)]; exact a5 p (by omega) h2
      · rw [r3, gR 5 x 0 0 (by unfold SPt SA; omega)]; exact a6
      · rw [r3, gR 5 x 2 0 (by unfold SPt SA; omega)]; exact a7
      · rw [g3 4 tp 1 0 (by omega), G1.1 4 tp 1 0 (by unfold SPt SA; omega)]; exact T1
      · rw [F3.1 6 m 1 0 (by unfold SM1; omega)]; exact T2
      · refine a9.keep (fun k hk => ?_) (fun k hk => ?_)
        · rw [g3 5 x k 0 (by omega), g1 5 x k 0 (by unfold SPt SA; omega) (by omega)]
        · rw [F3.1 6 m k 0 (by unfold SM1; omega), F2.1 6 m k 0 (by unfold SM0; omega), g6]
      · rw [pA_up]
        exact lo1.keep (fun k j => g3 0 lo k j (by omega))
end ZQP
