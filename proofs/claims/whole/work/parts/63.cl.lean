/-! PURE LAYER: all rows of a text, as the class reads them -/
def sRws (tx : Nat → Nat) (n : Nat) : Nat → Nat → RS → Int32 × RS
  | 0, _, R => (-1, R)
  | k + 1, i, R => if isC tx n 59 i = true then (match sRow tx n R (i + 1) with
    | (j, none) => (nI j, R)
    | (j, some (t, d)) => sRws tx n k j (upR R t d)) else (-1, R)
theorem ROK_up {R : RS} {t : Nat} {d : RD} (h : ROK R) (ht : t < 24) (hd : RDok d) : ROK (upR R t d) := by
  intro u e q
  by_cases z : u = t
  · subst z; rw [upR_s] at q; cases q; exact ⟨ht, hd⟩
  · rw [upR_n z] at q; exact h u e q
theorem PQ.fw {S : Nat → Nat → Nat → Nat → Prop} {v v' : Wd} {a : Nat} {R : RS} (h : PQ v a R) (hF : Fw S v v') (hS : ∀ c a' k j, S c a' k j → c ≠ 1 ∧ (c = 2 → zS v ≤ a')) : PQ v' a R := by
  have g1 : ∀ k j, zI v' 1 a k j = zI v 1 a k j := fun k j => hF.1 1 a k j (fun q => (hS _ _ _ _ q).1 rfl)
  have r1 : ∀ k j, zR v' 1 a k j = zR v 1 a k j := fun k j => hF.2.1 1 a k j (fun q => (hS _ _ _ _ q).1 rfl)
  have g2 : ∀ s, s < zS v → ∀ k j, zI v' 2 s k j = zI v 2 s k j := fun s hs k j => hF.1 2 s k j (fun q => by have := (hS _ _ _ _ q).2 rfl; omega)
  refine ⟨fun t ht => ?_, fun l hl => ?_, ⟨fun t u d e ht hu q1 q2 q3 => ?_, fun t ht => ?_⟩, ?_, ?_, ?_⟩
  · rw [r1]
    rcases h.1 t ht with q | ⟨d, s, q1, q2, q3, q4⟩
    · exact Or.inl q
    · exact Or.inr ⟨d, s, q1, q2, Nat.lt_of_lt_of_le q3 hF.2.2, q4.fr (g2 s q3)⟩
  · rw [g1]; exact h.2.1 l hl
  · rw [g1]; exact h.2.2.1.1 t u d e ht hu q1 q2 q3
  · rw [g1]; exact h.2.2.1.2 t ht
  · rw [g1]; exact h.2.2.2.1
  · rw [g1]; exact h.2.2.2.2.1
  · rw [g1]; exact h.2.2.2.2.2
def RC0 (v : Wd) (rr tp a : Nat) (tx : Nat → Nat) (n : Nat) : Prop := TxC v tp tx n ∧ zR v 3 rr 0 0 = some tp ∧ zR v 3 rr 1 0 = some a
theorem RC_of {v : Wd} {rr tp a : Nat} {tx : Nat → Nat} {n : Nat} {R : RS} (h : RC0 v rr tp a tx n) (hQ : PQ v a R) : RC v rr tp a tx n R := by
  refine ⟨h.1, h.2.1, h.2.2, fun t ht => ?_, hQ.2.1⟩
  rcases hQ.1 t ht with ⟨q1, q2⟩ | ⟨d, s, q1, q2, -, -⟩
  · rw [q2, pIs_0 q1]; rfl
  · rw [q2, pIs_1 q1]; rfl
def SL (tp a z : Nat) (c a' k j : Nat) : Prop := SA tp c a' k j ∨ (c = 2 ∧ z ≤ a') ∨ (c = 1 ∧ a' = a ∧ k ≠ 0 ∧ k ≠ 3 ∧ k ≠ 4)
theorem RC0.fw {v v' : Wd} {rr tp a z : Nat} {tx : Nat → Nat} {n : Nat} (h : RC0 v rr tp a tx n) (hF : Fw (SL tp a z) v v') : RC0 v' rr tp a tx n := by
  refine ⟨⟨?_, h.1.2.1, h.1.2.2.1, fun j hj => ?_⟩, ?_, ?_⟩
  · rw [hF.1 4 tp 2 0 (by unfold SL SA; omega)]; exact h.1.1
  · rw [hF.1 4 tp 0 j (by unfold SL SA; omega)]; exact h.1.2.2.2 j hj
  · rw [hF.2.1 3 rr 0 0 (by unfold SL SA; omega)]; exact h.2.1
  · rw [hF.2.1 3 rr 1 0 (by unfold SL SA; omega)]; exact h.2.2
theorem n2_I (w : Wd) (c a k j : Nat) : zI (nwX2 w) c a k j = if c = 2 ∧ a = zS w then (if k = 1 ∨ k = 5 then -1 else 0) else zI w c a k j := rfl
theorem n2_R (w : Wd) (c a k j : Nat) : zR (nwX2 w) c a k j = if c = 2 ∧ a = zS w then none else zR w c a k j := rfl
theorem n2_S (w : Wd) : zS (nwX2 w) = zS w + 2 := rfl
theorem n2_fw (w : Wd) : Fw (fun c a _ _ => c = 2 ∧ zS w ≤ a) w (nwX2 w) := by
  refine ⟨fun c a k j h => ?_, fun c a k j h => ?_, by rw [n2_S]; omega⟩
  · rw [n2_I, if_neg (fun q => h ⟨q.1, by omega⟩)]
  · rw [n2_R, if_neg (fun q => h ⟨q.1, by omega⟩)]
section ZRL
variable {w : Wd} {rr tp a z : Nat} {tx : Nat → Nat} {n : Nat}
theorem l_rws (h0 : RC0 w rr tp a tx n) (hz : z ≤ zS w) : ∀ k fu c i R v, c + k = 25 → k < fu → Fw (SL tp a z) w v → PQ v a R → ROK R → zI v 1 a 7 0 = -1 → zI v 4 tp 3 0 = nI i → i ≤ n → ∃ v', Fw (SL tp a z) w v' ∧ PQ v' a (sRws tx n k i R).2 ∧ ROK (sRws tx n k i R).2 ∧ zI v' 1 a 7 0 = (sRws tx n k i R).1 ∧ fX3_readRows_l2 fu rr (nI c) v = some v' := by
  intro k
  induction k with
  | zero =>
    intro fu c i R v h1 h2 hF hQ hok h7 ha hi
    obtain ⟨fu, rfl⟩ : ∃ f', fu = f' + 1 := ⟨fu - 1, by omega⟩
    show ∃ v', _ ∧ _ ∧ _ ∧ _ ∧ fX3_readRows_b2 (fX3_readRows_l2 fu) rr (nI c) v = _
    unfold fX3_readRows_b2 fX3_readRows_b65 sRws
    rw [if_pos (show (24 : Int32) < nI c from nI_lt (a := 24) (by omega) (by omega))]
    exact ⟨v, hF, hQ, hok, h7, rfl⟩
  | succ k ih =>
    intro fu c i R v h1 h2 hF hQ hok h7 ha hi
    obtain ⟨fu, rfl⟩ : ∃ f', fu = f' + 1 := ⟨fu - 1, by omega⟩
    have h0v := h0.fw hF
    have hzv : z ≤ zS v := Nat.le_trans hz hF.2.2
    show ∃ v', _ ∧ _ ∧ _ ∧ _ ∧ fX3_readRows_b2 (fX3_readRows_l2 fu) rr (nI c) v = _
    unfold fX3_readRows_b2 fX3_readRows_b65 sRws
    rw [if_neg (show ¬ (24 : Int32) < nI c from nI_nlt (a := 24) (by omega) (by decide)), lt_e, h0v.2.1, nn_s]
    by_cases e : isC tx n 59 i = true
    · have hi1 : i + 1 ≤ n := (isC_lt e).1
      rw [if_pos e, c_take_t h0v.1 ha (x := 59) (c := 59) rfl (by decide) e, bd2_s, if_neg n10, lt_e, lt_e]
      have F1 : Fw (SA tp) v (sI v 4 tp 3 0 (nI (i + 1))) := (Fw.refl v).setI _ ⟨rfl, rfl, rfl⟩
      have F2 : Fw (fun c a' k j => SA tp c a' k j ∨ (c = 2 ∧ zS v ≤ a')) v (nwX2 (sI v 4 tp 3 0 (nI (i + 1)))) := (F1.mono (fun _ _ _ _ q => Or.inl q)).trans ((n2_fw _).mono (fun _ _ _ _ q => Or.inr q))
      have sub1 : ∀ c a' k j, (SA tp c a' k j ∨ (c = 2 ∧ zS v ≤ a')) → SL tp a z c a' k j := fun c a' k j q => q.elim Or.inl (fun q => Or.inr (Or.inl ⟨q.1, by omega⟩))
      have dis1 : ∀ c a' k j, (SA tp c a' k j ∨ (c = 2 ∧ zS v ≤ a')) → c ≠ 1 ∧ (c = 2 → zS v ≤ a') := fun c a' k j q => q.elim (fun q => ⟨by have := q.1; omega, fun y => by have := q.1; omega⟩) (fun q => ⟨by omega, fun _ => q.2⟩)
      have Q2 := hQ.fw F2 dis1
      have G2 := hF.trans (F2.mono sub1)
      have a2 : zI (nwX2 (sI v 4 tp 3 0 (nI (i + 1)))) 4 tp 3 0 = nI (i + 1) := by rw [n2_I, if_neg (by omega), zI_sIs]
      have hs2 : ∀ k, zI (nwX2 (sI v 4 tp 3 0 (nI (i + 1)))) 2 (zS (sI v 4 tp 3 0 (nI (i + 1)))) k 0 = if k = 1 ∨ k = 5 then -1 else 0 := fun k => by rw [n2_I, if_pos ⟨rfl, rfl⟩]
      obtain ⟨v3, F3, A3, B3, E3⟩ := c_row (RC_of (h0.fw G2) Q2) (hs2 4) (hs2 5) (hs2 6) a2 hi1
      have hk := sRow_ok (tx := tx) (n := n) (R := R) hi1
      rw [E3, bd2_s]
      have G3w : Fw (fun c a' k j => SA tp c a' k j ∨ (c = 2 ∧ zS v ≤ a')) v v3 := F2.trans (F3.w.mono (fun c a' k j q => q.elim Or.inl (fun q => Or.inr ⟨q.1, by have := q.2; rw [zS_sI] at this; omega⟩)))
      have G3 := hF.trans (G3w.mono sub1)
      have Q3 := hQ.fw G3w dis1
      have h03 := h0.fw G3
      have h73 : zI v3 1 a 7 0 = -1 := by rw [G3w.1 1 a 7 0 (by unfold SA; omega)]; exact h7
      rcases e3 : sRow tx n R (i + 1) with ⟨j, o⟩
      rw [e3] at A3 B3 hk
      cases o with
      | none =>
        rw [show bi ((j, none) : Nat × Option (Nat × RD)).2.isSome = 0 from rfl, if_pos p00, lt_e, lt_e, h03.2.1, nn_s, h03.2.2, nn_s, lt_e, A3]
        refine ⟨_, G3.setI _ (Or.inr (Or.inr ⟨rfl, rfl, by decide, by decide, by decide⟩)), ?_, hok, zI_sIs _ _ _ _ _ _, rfl⟩
        have g1 : ∀ k j', k ≠ 7 → zI (sI v3 1 a 7 0 (nI j)) 1 a k j' = zI v3 1 a k j' := fun k j' q => zI_sIn (by omega)
        refine ⟨fun t ht => ?_, fun l hl => ?_, ⟨fun t u d e ht hu q1 q2 q3 => ?_, fun t ht => ?_⟩, ?_, ?_, ?_⟩
        · rcases Q3.1 t ht with q | ⟨d, s, q1, q2, q3, q4⟩
          · exact Or.inl q
          · exact Or.inr ⟨d, s, q1, q2, q3, q4.fr (fun k j' => zI_sIn (by omega))⟩
        · rw [g1 _ _ (by decide)]; exact Q3.2.1 l hl
        · rw [g1 _ _ (by decide)]; exact Q3.2.2.1.1 t u d e ht hu q1 q2 q3
        · rw [g1 _ _ (by decide)]; exact Q3.2.2.1.2 t ht
        · rw [g1 _ _ (by decide)]; exact Q3.2.2.2.1
        · rw [g1 _ _ (by decide)]; exact Q3.2.2.2.2.1
        · rw [g1 _ _ (by decide)]; exact Q3.2.2.2.2.2
      | some q =>
        obtain ⟨t, d⟩ := q
        obtain ⟨k1, k2, k3, k4, k5⟩ := hk.2 t d rfl
        have hr : zS (sI v 4 tp 3 0 (nI (i + 1))) < zS v3 := by rw [F3.2.2.2, n2_S]; omega
        obtain ⟨v4, F4, z4, Q4, E4⟩ := e_keep Q3 hok k1 k2 (B3 t d rfl) k3 hr k4
        rw [show bi ((j, some (t, d)) : Nat × Option (Nat × RD)).2.isSome = 1 from rfl, if_neg n10, lt_e, h03.2.2, nn_s, E4, bd_s, nI_1]
        have G4 := G3.trans (F4.mono (fun c a' k j q => Or.inr (Or.inr ⟨q.1, q.2.1, by have := q.2.2; omega, by have := q.2.2; omega, by have := q.2.2; omega⟩)))
        exact ih fu (c + 1) j (upR R t d) v4 (by omega) (by omega) G4 Q4 (ROK_up hok k1 k3) (by rw [F4.1 1 a 7 0 (by unfold SP; omega)]; exact h73) (by rw [F4.1 4 tp 3 0 (by unfold SP; omega)]; exact A3) hk.1
    · rw [if_neg e, c_take_f h0v.1 ha hi (x := 59) (c := 59) rfl (by decide) e, bd2_s, if_pos p00]
      exact ⟨v, hF, hQ, hok, h7, rfl⟩
end ZRL
