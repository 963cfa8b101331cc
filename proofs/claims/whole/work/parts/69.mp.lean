/-! PURE LAYER: a picture comes: the class's first part, and the reference -/
def txw (w : Wd) (tp j : Nat) : Nat := (zI w 4 tp 0 j &&& 255).toNatClampNeg
theorem txw_ok (w : Wd) (tp j : Nat) : txw w tp j < 256 ∧ zI w 4 tp 0 j &&& 255 = nI (txw w tp j) := by
  obtain ⟨q, h1, h2⟩ := pk_andE (zI w 4 tp 0 j) (m := 255) 8 (by decide)
  unfold txw
  rw [h2, cl_nI (by omega)]
  exact ⟨h1, rfl⟩
def S4t (tp : Nat) (c a k _ : Nat) : Prop := c = 4 ∧ a = tp ∧ 1 ≤ k
theorem c_pre {w : Wd} {x tp np L n : Nat} (h0 : zR w 5 x 0 0 = some tp) (hL : zI w 4 tp 1 0 = nI L) (h300 : L ≤ 300) (hn : n ≤ L) (h3 : zI w 5 x 3 0 = nI np) (hnp : np < 8) : ∃ w30, Fr (S4t tp) w w30 ∧ zI w30 4 tp 1 0 = nI 0 ∧ TxC w30 tp (txw w tp) n ∧ (∀ k, (sHd (txw w tp) n).2 = some k → zI w30 4 tp 3 0 = nI (sHd (txw w tp) n).1) ∧ fX5_picture x (nI n) w = (if en (sHd (txw w tp) n).2 = -1 then some (-2, w30) else bd (fX5_isTickTaken x (en (sHd (txw w tp) n).2) w30) (fun y => if y = 0 then picT x (en (sHd (txw w tp) n).2) w30 else some (-2, w30))) := by
  unfold fX5_picture fX5_picture_b24 fX5_picture_b55 fX4_openText
  rw [if_neg (nI_pos (by omega)), lt_e, h0, nn_s, hL, if_neg (nI_nlt (by omega) (by omega)), h3, if_pos (show nI np < (8 : Int32) from nI_lt (b := 8) hnp (by decide)), lt_e, nn_s, show (300 : Int32) = nI 300 from rfl, e_min _ _ (by omega) (by omega), bd_s, lt_e, lt_e, lt_e, bd_s, lt_e, Nat.min_eq_left (by omega)]
  have F1 : Fr (S4t tp) w (sI (sI (sI w 4 tp 2 0 (nI n)) 4 tp 3 0 0) 4 tp 1 0 0) := (((Fr.refl w).set _ ⟨rfl, rfl, by omega⟩).set _ ⟨rfl, rfl, by omega⟩).set _ ⟨rfl, rfl, by omega⟩
  have T1 : TxC (sI (sI (sI w 4 tp 2 0 (nI n)) 4 tp 3 0 0) 4 tp 1 0 0) tp (txw w tp) n := by
    refine ⟨?_, by omega, fun j => (txw_ok w tp j).1, fun j _ => ?_⟩
    · rw [zI_sIn (by omega), zI_sIn (by omega), zI_sIs]
    · rw [zI_sIn (by omega), zI_sIn (by omega), zI_sIn (by omega)]; exact (txw_ok w tp j).2
  obtain ⟨w30, F2, A2, E2⟩ := c_head T1 (by rw [zI_sIn (by omega), zI_sIs]; rfl)
  rw [F1.2.1, h0, nn_s, E2, bd2_s]
  refine ⟨w30, F1.trans (F2.mono (fun c a k j q => ⟨q.1, q.2.1, by have := q.2.2; omega⟩)), ?_, T1.fr (F2.mono (SA_SRd tp 0)), A2, rfl⟩
  rw [F2.1 4 tp 1 0 (by unfold SA; omega), zI_sIs]; rfl
def SM0 (m np : Nat) (c a k j : Nat) : Prop := c = 6 ∧ a = m ∧ (k = 1 ∨ (14 ≤ k ∧ k ≤ 17) ∨ (k = 5 ∧ j = np))
section ZMP
variable {v : Wd} {m np L n : Nat} {tx : Nat → Nat}
theorem m_pre (h2 : zI v 6 m 2 0 = nI np) (hnp : np < 8) (hL : zI v 6 m 1 0 = nI L) (h300 : L ≤ 300) (hn : n ≤ L) (hx : ∀ j, tx j < 256) (ht : ∀ j, j < n → zI v 6 m 0 j &&& 255 = nI (tx j)) : ∃ v1, Fr (SM0 m np) v v1 ∧ zI v1 6 m 1 0 = nI 0 ∧ ((sHd tx n).2 = none → fX6_picture m (nI n) v = some (-2, v1)) ∧ ∀ k, (sHd tx n).2 = some k → TxM v1 m tx n ∧ zI v1 6 m 16 0 = -1 ∧ zI v1 6 m 14 0 = nI (sHd tx n).1 ∧ zI v1 6 m 5 np = nI k ∧ fX6_picture m (nI n) v = fX6_picture_l117 1000 m (nI np) 0 v1 := by
  unfold fX6_picture fX6_picture_b21 fX6_picture_b112 fX6_picture_b115
  rw [h2, if_neg (show ¬ nI np = (8 : Int32) from fun q => by have := (nI_eq (b := 8) (by omega) (by decide)).mp q; omega), if_neg (nI_pos (by omega)), hL, if_pos (nI_le hn (by omega)), lt_e, lt_e, lt_e, lt_e]
  generalize hv3 : sI (sI (sI (sI v 6 m 1 0 0) 6 m 15 0 (nI n)) 6 m 14 0 0) 6 m 16 0 (-1) = v3
  have F3 : Fr (SM0 m np) v v3 := by
    subst hv3
    exact ((((Fr.refl v).set _ ⟨rfl, rfl, by omega⟩).set _ ⟨rfl, rfl, by omega⟩).set _ ⟨rfl, rfl, by omega⟩).set _ ⟨rfl, rfl, by omega⟩
  have c1 : zI v3 6 m 1 0 = nI 0 := by subst hv3; rw [zI_sIn (by omega), zI_sIn (by omega), zI_sIn (by omega), zI_sIs]; rfl
  have c2 : zI v3 6 m 2 0 = nI np := by subst hv3; rw [zI_sIn (by omega), zI_sIn (by omega), zI_sIn (by omega), zI_sIn (by omega)]; exact h2
  have c14 : zI v3 6 m 14 0 = nI 0 := by subst hv3; rw [zI_sIn (by omega), zI_sIs]; rfl
  have c16 : zI v3 6 m 16 0 = -1 := by subst hv3; rw [zI_sIs]
  have T3 : TxM v3 m tx n := by
    refine ⟨?_, by omega, hx, fun j hj => ?_⟩
    · subst hv3; rw [zI_sIn (by omega), zI_sIn (by omega), zI_sIs]
    · subst hv3; rw [zI_sIn (by omega), zI_sIn (by omega), zI_sIn (by omega), zI_sIn (by omega)]; exact ht j hj
  rw [m_here T3 c14 (by omega), bd_s]
  unfold sHd
  by_cases c : isC tx n 116 0 = true
  · have h1 : 1 ≤ n := (isC_lt c).1
    rw [if_pos ((chM_iff hx (x := 116) (c := 116) rfl (by decide) (by decide)).mpr c), if_pos c, lt_e, c14, nI_1]
    have F4 : Fr (SNm m) v3 (sI v3 6 m 14 0 (nI (0 + 1))) := (Fr.refl v3).set _ ⟨rfl, rfl, by omega⟩
    obtain ⟨v5, y, F5, P5, -, E5⟩ := m_num (i := 1) (d := 4) (mx := 9999) (xd := 4) (xm := 9999) (T3.fr (F4.mono (SNm_SMp m))) rfl rfl (by decide) (by decide) (by decide) (by rw [zI_sIn (by omega)]; exact c16) (zI_sIs _ _ _ _ _ _) h1
    have G5 := F4.trans F5
    have T6 : TxM (sI v5 6 m 5 np y) m tx n := by
      have := T3.fr (G5.mono (SNm_SMp m))
      refine ⟨?_, this.2.1, hx, fun j hj => ?_⟩
      · rw [zI_sIn (by omega)]; exact this.1
      · rw [zI_sIn (by omega)]; exact this.2.2.2 j hj
    have F6 : Fr (SM0 m np) v (sI v5 6 m 5 np y) := (F3.trans (G5.mono (fun c a k j q => ⟨q.1, q.2.1, by have := q.2.2; omega⟩))).set _ ⟨rfl, rfl, by omega⟩
    have d1 : zI (sI v5 6 m 5 np y) 6 m 1 0 = nI 0 := by rw [zI_sIn (by omega), G5.1 6 m 1 0 (by unfold SNm; omega)]; exact c1
    rw [E5, bd2_s, c2, ckp_ix _ hnp (by decide), cl_nI (by omega), lt_e]
    rcases e : nmb tx n 4 9999 1 with ⟨j, o⟩
    rw [e] at P5
    cases o with
    | none =>
      obtain ⟨⟨b1, b2⟩, -⟩ := P5
      rw [pb_n, if_neg (show ¬ zI (sI v5 6 m 5 np y) 6 m 16 0 = -1 by rw [zI_sIn (by omega), b1]; exact m1_ne (by omega))]
      exact ⟨_, F6, d1, fun _ => rfl, fun k q => (by cases q)⟩
    | some u =>
      obtain ⟨⟨b1, b2⟩, b3, rfl⟩ := P5
      have A6 : zI (sI v5 6 m 5 np (nI u)) 6 m 14 0 = nI j := by rw [zI_sIn (by omega)]; exact b3
      have B6 : zI (sI v5 6 m 5 np (nI u)) 6 m 16 0 = -1 := by rw [zI_sIn (by omega)]; exact b1
      rw [pb_s, if_pos B6, T6.1, A6]
      have good : sEnd tx n j = true → ∃ v1, Fr (SM0 m np) v v1 ∧ zI v1 6 m 1 0 = nI 0 ∧ ((if sEnd tx n j = true then (j, some u) else (j, none) : Nat × Option Nat).2 = none → fX6_picture_l117 1000 m (nI np) 0 (sI v5 6 m 5 np (nI u)) = some (-2, v1)) ∧ ∀ k, (if sEnd tx n j = true then (j, some u) else (j, none) : Nat × Option Nat).2 = some k → TxM v1 m tx n ∧ zI v1 6 m 16 0 = -1 ∧ zI v1 6 m 14 0 = nI (if sEnd tx n j = true then (j, some u) else (j, none) : Nat × Option Nat).1 ∧ zI v1 6 m 5 np = nI k ∧ fX6_picture_l117 1000 m (nI np) 0 (sI v5 6 m 5 np (nI u)) = fX6_picture_l117 1000 m (nI np) 0 v1 := by
        intro z
        rw [if_pos z]
        exact ⟨_, F6, d1, fun q => (by cases q), fun k q => (by cases q; exact ⟨T6, B6, A6, zI_sIs _ _ _ _ _ _, rfl⟩)⟩
      by_cases e2 : j < n
      · rw [if_neg (nI_ge e2 (by omega)), m_here T6 A6 (by omega), bd_s]
        by_cases q : isC tx n 59 j = true
        · rw [if_pos ((chM_iff hx (x := 59) (c := 59) rfl (by decide) (by decide)).mpr q)]
          exact good (decide_eq_true (Or.inr (isC_lt q).2))
        · rw [if_neg (fun z => q ((chM_iff hx (x := 59) (c := 59) rfl (by decide) (by decide)).mp z)), if_neg (show ¬ sEnd tx n j = true from fun z => by
            rcases of_decide_eq_true z with z | z
            · omega
            · exact q (decide_eq_true ⟨e2, z⟩))]
          exact ⟨_, F6, d1, fun _ => rfl, fun k q => (by cases q)⟩
      · rw [if_pos (nI_le (by omega) (by omega))]
        exact good (decide_eq_true (Or.inl (by omega)))
  · rw [if_neg (fun z => c ((chM_iff hx (x := 116) (c := 116) rfl (by decide) (by decide)).mp z)), if_neg c]
    exact ⟨v3, F3, c1, fun _ => rfl, fun k q => (by cases q)⟩
theorem l_mtk {tk : Nat → Nat} {k : Nat} (hnp : np < 8) (hk : k < 10000) (h5 : ∀ p, p < np → zI v 6 m 5 p = nI (tk p) ∧ tk p < 10000) (h5n : zI v 6 m 5 np = nI k) : ∀ kk fu q, q + kk = np → kk < fu → fX6_picture_l117 fu m (nI np) (nI q) v = if (fnd (tkn np tk k) kk q).isSome = true then some (-2, v) else fX6_picture_l148 1000 m (nI np) 0 v := by
  intro kk
  induction kk with
  | zero =>
    intro fu q h3 h4
    obtain ⟨fu, rfl⟩ : ∃ f', fu = f' + 1 := ⟨fu - 1, by omega⟩
    show fX6_picture_b117 (fX6_picture_l117 fu) m (nI np) (nI q) v = _
    unfold fX6_picture_b117
    rw [if_pos (nI_le (by omega) (by omega))]
    rfl
  | succ kk ih =>
    intro fu q h3 h4
    obtain ⟨fu, rfl⟩ : ∃ f', fu = f' + 1 := ⟨fu - 1, by omega⟩
    show fX6_picture_b117 (fX6_picture_l117 fu) m (nI np) (nI q) v = _
    unfold fX6_picture_b117 fnd
    obtain ⟨b1, b2⟩ := h5 q (by omega)
    rw [if_neg (nI_ge (by omega) (by omega)), ckp_ix _ (by omega) (by decide), ckp_ix _ hnp (by decide), cl_nI (by omega), cl_nI (by omega), b1, h5n, nI_1, ih fu (q + 1) (by omega) (by omega)]
    by_cases e : tk q = k
    · rw [if_pos (show nI (tk q) = nI k by rw [e]), if_pos (show tkn np tk k q = true by unfold tkn; rw [decide_eq_true (show q < np by omega), decide_eq_true e]; rfl)]; rfl
    · rw [if_neg (show ¬ nI (tk q) = nI k by rw [i_eq (by omega) (by omega)]; exact e), if_neg (show ¬ tkn np tk k q = true by unfold tkn; rw [decide_eq_false e, Bool.and_false]; decide)]
theorem l_mcl {w : Wd} (hnp : np < 8) : ∀ kk fu t v, t + kk = 24 → kk < fu → Fr (S7 m np) w v → (∀ u, u < t → zI v 6 m 7 (24 * np + u) = 0) → ∃ v', Fr (S7 m np) w v' ∧ MRw v' m np R0 ∧ fX6_picture_l148 fu m (nI np) (nI t) v = fX6_picture_l172 1000 m (nI np) v' := by
  intro kk
  induction kk with
  | zero =>
    intro fu t v h3 h4 hF hV
    obtain ⟨fu, rfl⟩ : ∃ f', fu = f' + 1 := ⟨fu - 1, by omega⟩
    refine ⟨v, hF, fun u hu => Or.inl ⟨rfl, ?_⟩, ?_⟩
    · unfold mis; rw [hV u (by omega)]; rfl
    · show fX6_picture_b148 (fX6_picture_l148 fu) m (nI np) (nI t) v = _
      unfold fX6_picture_b148
      rw [if_pos (show (24 : Int32) ≤ nI t from nI_le (a := 24) (by omega) (by omega))]
  | succ kk ih =>
    intro fu t v h3 h4 hF hV
    obtain ⟨fu, rfl⟩ : ∃ f', fu = f' + 1 := ⟨fu - 1, by omega⟩
    show ∃ v', _ ∧ _ ∧ fX6_picture_b148 (fX6_picture_l148 fu) m (nI np) (nI t) v = _
    unfold fX6_picture_b148
    rw [if_neg (show ¬ (24 : Int32) ≤ nI t from nI_ge (b := 24) (by omega) (by decide)), i_24, ckp_ix _ (by omega) (by decide), cl_nI (by omega), lt_e, nI_1, show vp_nar .boolean 0 = 0 from rfl]
    refine ih fu (t + 1) _ (by omega) (by omega) (hF.set _ ⟨rfl, rfl, Or.inl (by omega)⟩) (fun u hu => ?_)
    by_cases q : u = t
    · rw [q, zI_sIs]
    · rw [zI_sIn (by omega)]; exact hV u (by omega)
def SM1 (m np : Nat) (c a k j : Nat) : Prop := c = 6 ∧ a = m ∧ (k = 2 ∨ (k = 6 ∧ j = np) ∨ k = 14 ∨ (16 ≤ k ∧ k ≤ 24) ∨ (7 ≤ k ∧ k ≤ 12 ∧ 24 * np ≤ j ∧ j < 24 * np + 24) ∨ (k = 13 ∧ 288 * np ≤ j ∧ j < 288 * np + 288))
theorem m_rest (hT : TxM v m tx n) (hnp : np < 8) (h2 : zI v 6 m 2 0 = nI np) {i k : Nat} (hd : zI v 6 m 16 0 = -1) (ha : zI v 6 m 14 0 = nI i) (hi : i ≤ n) (he : sEnd tx n i = true) (h5 : zI v 6 m 5 np = nI k) : ∃ v', Fr (SM1 m np) v v' ∧ MPic v' m np (sRws tx n 25 i R0).2 k (sRws tx n 25 i R0).1 ∧ zI v' 6 m 2 0 = nI (np + 1) ∧ fX6_picture_l148 1000 m (nI np) 0 v = some (nI np, v') := by
  obtain ⟨v1, F1, M1, E1⟩ := l_mcl (w := v) (m := m) hnp 24 1000 0 v rfl (by decide) (Fr.refl v) (fun u hu => by omega)
  have hT1 : TxM v1 m tx n := hT.frs (F1.mono (fun _ _ _ _ q => Or.inr q))
  have g1 : ∀ k' j, k' ≤ 6 ∨ 14 ≤ k' → zI v1 6 m k' j = zI v 6 m k' j := fun k' j h => F1.1 6 m k' j (by unfold S7; omega)
  obtain ⟨v2, F2, M2, B2, E2⟩ := l_mws hT1 hnp 25 1000 i R0 v1 (by rw [cntf_no 24 0 0 (fun u _ _ => pIs_0 rfl)]) (by decide) (Fr.refl v1) M1 R0_ok (by rw [g1 16 0 (by omega)]; exact hd) (by rw [g1 14 0 (by omega)]; exact ha) hi he
  have g2 : ∀ k' j, k' ≤ 6 ∨ k' = 15 → zI v2 6 m k' j = zI v1 6 m k' j := fun k' j h => F2.1 6 m k' j (by unfold SMs SMp S7; omega)
  rw [show fX6_picture_l148 1000 m (nI np) 0 v = _ from E1, E2]
  unfold fX6_picture_b212
  rw [ckp_ix _ hnp (by decide), cl_nI (by omega), lt_e, lt_e, zI_sIn (by omega), g2 2 0 (by omega), g1 2 0 (by omega), h2, nI_1, B2]
  refine ⟨_, ?_, ⟨?_, ?_, ?_⟩, zI_sIs _ _ _ _ _ _, rfl⟩
  · refine (((F1.mono (fun c a k j q => ?_)).trans (F2.mono (fun c a k j q => ?_))).set _ ⟨rfl, rfl, by omega⟩).set _ ⟨rfl, rfl, by omega⟩
    · obtain ⟨q1, q2, q3⟩ := q
      exact ⟨q1, q2, by omega⟩
    · rcases q with ⟨q1, q2, q3⟩ | ⟨q1, q2, q3⟩
      · exact ⟨q1, q2, by omega⟩
      · exact ⟨q1, q2, by omega⟩
  · rw [zI_sIn (by omega), zI_sIn (by omega), g2 5 np (by omega), g1 5 np (by omega)]; exact h5
  · rw [zI_sIn (by omega), zI_sIs]
  · intro t ht
    have g : ∀ k' j, 7 ≤ k' → zI (sI (sI v2 6 m 6 np (sRws tx n 25 i R0).1) 6 m 2 0 (nI (np + 1))) 6 m k' j = zI v2 6 m k' j := fun k' j h => by rw [zI_sIn (by omega), zI_sIn (by omega)]
    unfold mis RowA mca
    rw [g 7 _ (by omega), g 8 _ (by omega), g 9 _ (by omega), g 10 _ (by omega), g 11 _ (by omega), g 12 _ (by omega)]
    rcases M2 t ht with q | ⟨d, q1, q2, q3⟩
    · exact Or.inl q
    · exact Or.inr ⟨d, q1, q2, q3.1, q3.2.1, q3.2.2.1, q3.2.2.2.1, q3.2.2.2.2.1, fun j hj => by rw [g 13 _ (by omega)]; exact q3.2.2.2.2.2 j hj⟩
end ZMP
