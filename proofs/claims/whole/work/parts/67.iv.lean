/-! PURE LAYER: what binds the two sides from call to call -/
theorem scm_cong {f g : Nat → Option Nat} {P : Nat → Prop} (h : ∀ u, P u → f u = g u) (hP : ∀ u v, P u → f u = some v → P v) (t : Nat) : ∀ k o, (∀ u, o = some u → P u) → scm f t k o = scm g t k o
  | 0, _, _ => rfl
  | k + 1, none, _ => rfl
  | k + 1, some v, ho => by
    unfold scm
    have hv := ho v rfl
    rw [← h v hv, scm_cong h hP t k (f v) (fun u e => hP v u hv e)]
theorem swt_cong {f g : Nat → Option Nat} {P : Nat → Prop} {wa wb : Nat → Int32} (h : ∀ u, P u → f u = g u) (hP : ∀ u v, P u → f u = some v → P v) (hw : ∀ u, P u → wa u = wb u) (l : Nat) : ∀ k o, (∀ u, o = some u → P u) → swt f wa l k o = swt g wb l k o
  | 0, _, _ => rfl
  | k + 1, none, _ => rfl
  | k + 1, some v, ho => by
    unfold swt
    have hv := ho v rfl
    rw [← h v hv, hw v hv, swt_cong h hP hw l k (f v) (fun u e => hP v u hv e)]
def CPic (v : Wd) (a : Nat) (R : RS) (tk : Nat) (tn : Int32) : Prop := zI v 1 a 0 0 = nI tk ∧ zI v 1 a 7 0 = tn ∧ PQ v a R ∧ PCh v a R ∧ a < zS v
def MPic (v : Wd) (m p : Nat) (R : RS) (tk : Nat) (tn : Int32) : Prop := zI v 6 m 5 p = nI tk ∧ zI v 6 m 6 p = tn ∧ MRw v m p R
section ZPO
variable {v : Wd} {a m p : Nat} {R : RS}
theorem MRw.wa (h : MRw v m p R) {t : Nat} (ht : t < 24) (hi : pIs R t = true) : mwa v m p t = pWa R t := by
  rcases h t ht with ⟨q1, -⟩ | ⟨d, q1, -, q3⟩
  · rw [pIs_0 q1] at hi; cases hi
  · unfold pWa; rw [q1]; exact q3.2.2.2.1
theorem MRw.nx (h : MRw v m p R) {t : Nat} (ht : t < 24) : nxp v m p t = pNx R t := by
  unfold nxp pNx
  rw [h.is ht]
  by_cases e : pIs R t = true
  · rw [if_pos e, if_pos e]
    unfold sNx
    rw [h.wa ht e, h.hol]; rfl
  · rw [if_neg e, if_neg e]
theorem mma_of {k : Nat} {d : RD} (h : RowA v m k d) (hd : dMn d ≤ 12) : mma v m k = dMn d := by
  unfold mma
  rw [h.2.2.2.2.1, cl_nI (by omega)]
theorem PicR_of {tk : Nat} {tn : Int32} (hC : CPic v a R tk tn) (hM : MPic v m p R tk tn) (hok : ROK R) : PicR v a m p := by
  obtain ⟨c0, c7, cQ, cC, -⟩ := hC
  obtain ⟨m5, m6, mM⟩ := hM
  refine ⟨⟨by rw [c0, m5], by rw [c7, m6]⟩, ?_, ?_, ⟨?_, ?_⟩, ?_, ?_, ?_, ?_⟩
  · intro t ht
    rcases mM t ht with ⟨q1, q2⟩ | ⟨d, q1, q2, q3⟩
    · rcases cQ.1 t ht with ⟨z1, z2⟩ | ⟨e, r, z1, -⟩
      · exact Or.inr ⟨q2, z2⟩
      · rw [q1] at z1; cases z1
    · rcases cQ.1 t ht with ⟨z1, z2⟩ | ⟨e, r, z1, z2, -, z4⟩
      · rw [q1] at z1; cases z1
      · rw [q1] at z1
        cases z1
        obtain ⟨o1, o2, o3, o4⟩ := (hok t d q1).2
        refine Or.inl ⟨q2, r, z2, ⟨z4.1, ?_, ?_, ?_, ?_, ?_, ?_⟩, ?_, ?_, ?_, ?_⟩
        · rw [z4.2.1, q3.1]
        · rw [z4.2.2.1, q3.2.1]
        · rw [z4.2.2.2.1, q3.2.2.1]
        · rw [z4.2.2.2.2.1, q3.2.2.2.1]
        · rw [z4.2.2.2.2.2.1, q3.2.2.2.2.1]
        · intro i hi
          rw [mma_of q3 o4] at hi
          rw [z4.2.2.2.2.2.2 i hi, q3.2.2.2.2.2 i hi]
        · rw [q3.2.2.1]; exact o2
        · rw [q3.2.2.2.1]; exact o3
        · exact ⟨_, o4, q3.2.2.2.2.1⟩
        · exact ⟨_, o1, q3.2.1⟩
  · intro l hl
    rw [mM.hol]; exact cQ.2.1 l hl
  · intro o t ho ht
    rw [cC.1 o t ho ht, mM.is ho]
    cases e : pIs R o with
    | false => rw [Bool.false_and, Bool.false_and]
    | true =>
      rw [Bool.true_and, Bool.true_and]
      exact scm_cong (P := fun u => u < 24) (fun u hu => (mM.nx hu).symm) (fun u z _ q => (pNx_lt q).1) t 25 (some o) (fun u q => by cases q; exact ho)
  · intro o l ho hl
    rw [cC.2 o l ho hl, mM.is ho]
    cases e : pIs R o with
    | false => rw [Bool.false_and, Bool.false_and]
    | true =>
      rw [Bool.true_and, Bool.true_and]
      exact swt_cong (P := fun u => u < 24 ∧ pIs R u = true) (fun u hu => (mM.nx hu.1).symm) (fun u z _ q => pNx_lt q) (fun u hu => (mM.wa hu.1 hu.2).symm) l 25 (some o) (fun u q => by cases q; exact ⟨ho, e⟩)
  · intro t u ht hu hit hiu
    rcases mM t ht with ⟨q1, q2⟩ | ⟨d, q1, q2, q3⟩
    · rw [q2] at hit; cases hit
    rcases mM u hu with ⟨z1, z2⟩ | ⟨e, z1, z2, z3⟩
    · rw [z2] at hiu; cases hiu
    have o4 := (hok t d q1).2.2.2.2
    have p4 := (hok u e z1).2.2.2.2
    have ed1 : dst v m (24 * p + t) (24 * p + u) = ed d e := by
      unfold dst ed
      rw [mma_of q3 o4, mma_of z3 p4]
      exact edd_cong _ _ (fun i hi => q3.2.2.2.2.2 i hi) (fun i hi => z3.2.2.2.2.2 i hi)
    rw [ed1]
    by_cases c : t = u
    · subst c
      rw [q1] at z1
      cases z1
      rw [cQ.2.2.1.2 t ht, show ed d d = 0 from edd_self _ _]; rfl
    · exact cQ.2.2.1.1 t u d e ht hu q1 z1 c
  · rw [cQ.2.2.2.1]
    congr 1
    exact cntf_cong (fun u _ hu => (mM.is (by omega)).symm)
  · rw [cQ.2.2.2.2.1]
    congr 1
    refine cntf_cong (fun u _ hu => ?_)
    show (pIs R u && !decide (pWa R u = -1)) = (mis v m p u && !decide (mwa v m p u = -1))
    rw [mM.is (by omega)]
    cases e : pIs R u with
    | false => rw [Bool.false_and, Bool.false_and]
    | true => rw [mM.wa (by omega) e]
  · rw [cQ.2.2.2.2.2]
    congr 1
    refine cntf_cong (fun u _ hu => ?_)
    show (pHol R u).isSome = (sHol (mis v m p) (mhe v m p) u).isSome
    rw [mM.hol]
end ZPO
def pA (Rs : Nat → RS) (np l b : Nat) : Bool := (fnd (fun j => pah (Rs (j / 24)) l b (j % 24)) (24 * np) 0).isSome
def LoP (w : Wd) (lo : Nat) (A : Nat → Nat → Bool) : Prop := BhA w lo A ∧ RgR w lo (brs A 16 0 0 (fun _ => 0)).1 (brs A 16 0 0 (fun _ => 0)).2
def InvP (w : Wd) (x m np : Nat) (Rs : Nat → RS) (tk : Nat → Nat) (tn : Nat → Int32) : Prop := ∀ p, p < np → (∃ a, zR w 5 x 1 p = some a ∧ CPic w a (Rs p) (tk p) (tn p)) ∧ MPic w m p (Rs p) (tk p) (tn p) ∧ ROK (Rs p) ∧ tk p < 10000
def InvM (w : Wd) (x m : Nat) : Prop := zI w 5 x 4 0 = zI w 6 m 3 0 ∧ zI w 5 x 5 0 = zI w 6 m 4 0 ∧ ∃ R, (0 < R ∧ R ≤ 10000) ∧ zI w 6 m 3 0 = nI R
def Inv (w : Wd) (x m tp lo np : Nat) (Rs : Nat → RS) (tk : Nat → Nat) (tn : Nat → Int32) : Prop :=
  (np ≤ 8 ∧ zI w 5 x 3 0 = nI np ∧ zI w 6 m 2 0 = nI np) ∧ InvP w x m np Rs tk tn ∧ (∀ p, np ≤ p → p < 8 → zR w 5 x 1 p = none) ∧ (zR w 5 x 0 0 = some tp ∧ zR w 5 x 2 0 = some lo) ∧ TapR w tp m ∧ InvM w x m ∧ LoP w lo (pA Rs np)
section ZIV
variable {w : Wd} {x m tp lo np : Nat} {Rs : Nat → RS} {tk : Nat → Nat} {tn : Nat → Int32}
theorem Inv.pics (h : Inv w x m tp lo np Rs tk tn) : PicsR w x m np := by
  refine ⟨h.1.1, h.1.2.1, h.1.2.2, fun p hp => ?_, h.2.2.1⟩
  obtain ⟨⟨a, e1, e2⟩, e3, e4, e5⟩ := h.2.1 p hp
  exact ⟨a, e1, PicR_of e2 e3 e4, tk p, e5, e3.1⟩
theorem ahd_pA (h : ∀ p, p < np → MRw w m p (Rs p)) : Ahd w m (24 * np) = pA Rs np := by
  funext l b
  unfold Ahd pA
  congr 1
  refine fnd_cong (fun j _ hj => ?_)
  have hM := h (j / 24) (by omega)
  have e : 24 * (j / 24) + j % 24 = j := by omega
  show ahj w m l b j = pah (Rs (j / 24)) l b (j % 24)
  unfold ahj pah
  have hi := hM.is (show j % 24 < 24 by omega)
  have hi2 : mis w m (j / 24) (j % 24) = !decide (zI w 6 m 7 j = 0) := by unfold mis; rw [e]
  rw [← hi2, hi]
  cases z : pIs (Rs (j / 24)) (j % 24) with
  | false => rw [Bool.false_and, Bool.false_and]
  | true =>
    have hw := hM.wa (show j % 24 < 24 by omega) z
    have hw2 : zI w 6 m 11 j = pWa (Rs (j / 24)) (j % 24) := by rw [← hw]; unfold mwa; rw [e]
    have hh2 : zI w 6 m 10 j = pHe (Rs (j / 24)) (j % 24) := by
      rcases hM (j % 24) (by omega) with ⟨q1, -⟩ | ⟨d, q1, -, q3⟩
      · rw [pIs_0 q1] at z; cases z
      · unfold pHe
        rw [q1]
        show _ = dHe d
        rw [← q3.2.2.1, e]
    rw [hw2, hh2]
theorem Inv.lor (h : Inv w x m tp lo np Rs tk tn) : LoR w lo m np := by
  unfold LoR
  rw [ahd_pA (fun p hp => (h.2.1 p hp).2.1.2.2)]
  exact h.2.2.2.2.2.2
end ZIV
/-! what keeps a picture -/
section ZKE
variable {w w' : Wd} {a m p : Nat} {R : RS} {tk : Nat} {tn : Int32}
theorem CPic.keep (h : CPic w a R tk tn) (h1 : ∀ k j, zI w' 1 a k j = zI w 1 a k j) (h2 : ∀ k j, zR w' 1 a k j = zR w 1 a k j) (h3 : ∀ r, r < zS w → ∀ k j, zI w' 2 r k j = zI w 2 r k j) (h4 : zS w ≤ zS w') : CPic w' a R tk tn := by
  obtain ⟨c0, c7, cQ, cC, ca⟩ := h
  refine ⟨by rw [h1]; exact c0, by rw [h1]; exact c7, ⟨fun t ht => ?_, fun l hl => ?_, ⟨fun t u d e ht hu q1 q2 q3 => ?_, fun t ht => ?_⟩, ?_, ?_, ?_⟩, ⟨fun o t ho ht => ?_, fun o l ho hl => ?_⟩, by omega⟩
  · rw [h2]
    rcases cQ.1 t ht with q | ⟨d, s, q1, q2, q3, q4⟩
    · exact Or.inl q
    · exact Or.inr ⟨d, s, q1, q2, by omega, q4.fr (h3 s q3)⟩
  · rw [h1]; exact cQ.2.1 l hl
  · rw [h1]; exact cQ.2.2.1.1 t u d e ht hu q1 q2 q3
  · rw [h1]; exact cQ.2.2.1.2 t ht
  · rw [h1]; exact cQ.2.2.2.1
  · rw [h1]; exact cQ.2.2.2.2.1
  · rw [h1]; exact cQ.2.2.2.2.2
  · rw [h1]; exact cC.1 o t ho ht
  · rw [h1]; exact cC.2 o l ho hl
theorem MRw.keep (h : MRw w m p R) (hok : ROK R) (h1 : ∀ k t, 7 ≤ k → k ≤ 12 → t < 24 → zI w' 6 m k (24 * p + t) = zI w 6 m k (24 * p + t)) (h2 : ∀ j, j < 288 → zI w' 6 m 13 (288 * p + j) = zI w 6 m 13 (288 * p + j)) : MRw w' m p R := by
  intro t ht
  unfold mis RowA mca
  rw [h1 7 t (by omega) (by omega) ht, h1 8 t (by omega) (by omega) ht, h1 9 t (by omega) (by omega) ht, h1 10 t (by omega) (by omega) ht, h1 11 t (by omega) (by omega) ht, h1 12 t (by omega) (by omega) ht]
  rcases h t ht with q | ⟨d, q1, q2, q3⟩
  · exact Or.inl q
  · refine Or.inr ⟨d, q1, q2, q3.1, q3.2.1, q3.2.2.1, q3.2.2.2.1, q3.2.2.2.2.1, fun j hj => ?_⟩
    have := (hok t d q1).2.2.2.2
    have e := h2 (12 * t + j) (by omega)
    rw [show 288 * p + (12 * t + j) = 12 * (24 * p + t) + j by omega] at e
    rw [e]
    exact q3.2.2.2.2.2 j hj
theorem MPic.keep (h : MPic w m p R tk tn) (hok : ROK R) (h5 : zI w' 6 m 5 p = zI w 6 m 5 p) (h6 : zI w' 6 m 6 p = zI w 6 m 6 p) (h1 : ∀ k t, 7 ≤ k → k ≤ 12 → t < 24 → zI w' 6 m k (24 * p + t) = zI w 6 m k (24 * p + t)) (h2 : ∀ j, j < 288 → zI w' 6 m 13 (288 * p + j) = zI w 6 m 13 (288 * p + j)) : MPic w' m p R tk tn := ⟨by rw [h5]; exact h.1, by rw [h6]; exact h.2.1, h.2.2.keep hok h1 h2⟩
theorem LoP.keep {lo : Nat} {A : Nat → Nat → Bool} (h : LoP w lo A) (h1 : ∀ k j, zI w' 0 lo k j = zI w 0 lo k j) : LoP w' lo A := by
  refine ⟨fun l b hl hb' => by rw [h1]; exact h.1 l b hl hb', h.2.1, by rw [h1]; exact h.2.2.1, fun j hj => by rw [h1]; exact h.2.2.2 j hj⟩
end ZKE
/-- what calls other than a picture that comes may change -/
def SQ (np : Nat) (c _ k j : Nat) : Prop := c = 4 ∨ (c = 5 ∧ (k = 4 ∨ k = 5)) ∨ (c = 6 ∧ (k ≤ 1 ∨ k = 3 ∨ k = 4 ∨ 14 ≤ k ∨ (k = 5 ∧ np ≤ j)))
section ZIQ
variable {w w' : Wd} {x m tp lo np : Nat} {Rs : Nat → RS} {tk : Nat → Nat} {tn : Nat → Int32}
theorem Inv.q (h : Inv w x m tp lo np Rs tk tn) (hF : Fr (SQ np) w w') (hT : TapR w' tp m) (hM : InvM w' x m) : Inv w' x m tp lo np Rs tk tn := by
  obtain ⟨⟨a1, a2, a3⟩, a4, a5, ⟨a6, a7⟩, -, -, a10⟩ := h
  have g : ∀ c a k j, ¬ SQ np c a k j → zI w' c a k j = zI w c a k j := hF.1
  refine ⟨⟨a1, ?_, ?_⟩, fun p hp => ?_, ?_, ⟨?_, ?_⟩, hT, hM, ?_⟩
  · rw [g 5 x 3 0 (by unfold SQ; omega)]; exact a2
  · rw [g 6 m 2 0 (by unfold SQ; omega)]; exact a3
  · obtain ⟨⟨a, e1, e2⟩, e3, e4, e5⟩ := a4 p hp
    refine ⟨⟨a, by rw [hF.2.1]; exact e1, e2.keep (fun k j => g 1 a k j (by unfold SQ; omega)) (fun k j => by rw [hF.2.1]) (fun r _ k j => g 2 r k j (by unfold SQ; omega)) (by rw [hF.2.2.2]; exact Nat.le_refl _)⟩, e3.keep e4 (g 6 m 5 p (by unfold SQ; omega)) (g 6 m 6 p (by unfold SQ; omega)) (fun k t h1 h2 _ => g 6 m k _ (by unfold SQ; omega)) (fun j _ => g 6 m 13 _ (by unfold SQ; omega)), e4, e5⟩
  · rw [hF.2.1]; exact a5
  · rw [hF.2.1]; exact a6
  · rw [hF.2.1]; exact a7
  · exact a10.keep (fun k j => g 0 lo k j (by unfold SQ; omega))
theorem TapR.keep (h : TapR w tp m) (h1 : ∀ k j, zI w' 4 tp k j = zI w 4 tp k j) (h2 : ∀ k j, k ≤ 1 → zI w' 6 m k j = zI w 6 m k j) : TapR w' tp m := by
  obtain ⟨L, a, b, c, d⟩ := h
  exact ⟨L, a, by rw [h1]; exact b, by rw [h2 _ _ (by omega)]; exact c, fun j hj => by rw [h1, h2 _ _ (by omega)]; exact d j hj⟩
theorem InvM.keep (h : InvM w x m) (h1 : ∀ k, k = 4 ∨ k = 5 → zI w' 5 x k 0 = zI w 5 x k 0) (h2 : ∀ k, k = 3 ∨ k = 4 → zI w' 6 m k 0 = zI w 6 m k 0) : InvM w' x m := by
  obtain ⟨a, b, c⟩ := h
  refine ⟨?_, ?_, ?_⟩
  · rw [h1 4 (by omega), h2 3 (by omega)]; exact a
  · rw [h1 5 (by omega), h2 4 (by omega)]; exact b
  · rw [h2 3 (by omega)]; exact c
/-- the reference's own scratch -/
theorem Inv.scr (h : Inv w x m tp lo np Rs tk tn) {S : Nat → Nat → Nat → Nat → Prop} (hF : Fr S w w') (hS : ∀ c a k j, S c a k j → c = 6 ∧ 14 ≤ k) : Inv w' x m tp lo np Rs tk tn := by
  have g : ∀ c a k j, ¬ (c = 6 ∧ 14 ≤ k) → zI w' c a k j = zI w c a k j := fun c a k j q => hF.1 c a k j (fun z => q (hS c a k j z))
  refine h.q (hF.mono (fun c a k j z => Or.inr (Or.inr ⟨(hS c a k j z).1, by have := (hS c a k j z).2; omega⟩))) (h.2.2.2.2.1.keep (fun k j => g 4 tp k j (by omega)) (fun k j hk => g 6 m k j (by omega))) (h.2.2.2.2.2.1.keep (fun k hk => g 5 x k 0 (by omega)) (fun k hk => g 6 m k 0 (by omega)))
end ZIQ
