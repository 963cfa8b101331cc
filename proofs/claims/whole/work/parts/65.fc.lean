/-! PURE LAYER: the class follows chains -/
def pNx (R : RS) (t : Nat) : Option Nat := if pIs R t = true then sNx (pIs R) (pHe R) (pWa R) t else none
theorem pNx_lt {R : RS} {t u : Nat} (h : pNx R t = some u) : u < 24 ∧ pIs R u = true := by
  unfold pNx at h
  by_cases e : pIs R t = true
  · rw [if_pos e] at h; exact sNx_lt h
  · rw [if_neg e] at h; cases h
theorem itn_s (nx : Nat → Option Nat) : ∀ k o, itn nx (k + 1) o = (itn nx k o).bind nx
  | 0, _ => rfl
  | k + 1, o => itn_s nx k (o.bind nx)
theorem scm_iff (nx : Nat → Option Nat) (t : Nat) : ∀ k o, scm nx t k o = true ↔ ∃ i, i < k ∧ itn nx i o = some t
  | 0, o => by simp [scm]
  | k + 1, none => by
    constructor
    · intro h; cases h
    · rintro ⟨i, -, h⟩; rw [itn_none] at h; cases h
  | k + 1, some v => by
    unfold scm
    by_cases e : v = t
    · rw [if_pos e]
      exact ⟨fun _ => ⟨0, by omega, by rw [e]; rfl⟩, fun _ => rfl⟩
    · rw [if_neg e, scm_iff nx t k (nx v)]
      constructor
      · rintro ⟨i, h1, h2⟩; exact ⟨i + 1, by omega, h2⟩
      · rintro ⟨i, h1, h2⟩
        cases i with
        | zero => cases h2; exact absurd rfl e
        | succ i => exact ⟨i, by omega, h2⟩
theorem swt_iff (nx : Nat → Option Nat) (wa : Nat → Int32) (l : Nat) : ∀ k o, swt nx wa l k o = true ↔ ∃ i u, i < k ∧ itn nx i o = some u ∧ wa u = nI l
  | 0, o => by simp [swt]
  | k + 1, none => by
    constructor
    · intro h; cases h
    · rintro ⟨i, u, -, h, -⟩; rw [itn_none] at h; cases h
  | k + 1, some v => by
    unfold swt
    rw [Bool.or_eq_true, decide_eq_true_eq, swt_iff nx wa l k (nx v)]
    constructor
    · rintro (h | ⟨i, u, h1, h2, h3⟩)
      · exact ⟨0, v, by omega, rfl, h⟩
      · exact ⟨i + 1, u, by omega, h2, h3⟩
    · rintro ⟨i, u, h1, h2, h3⟩
      cases i with
      | zero => cases h2; exact Or.inl h3
      | succ i => exact Or.inr ⟨i, u, by omega, h2, h3⟩
section ZFC
variable {w v : Wd} {a : Nat} {R : RS}
theorem c_aw (hQ : PQ v a R) (hok : ROK R) : ∀ t, t < 24 → fX1_awaitedBy a (nI t) v = some (en (pNx R t)) := by
  intro t ht
  unfold fX1_awaitedBy fX1_awaitedBy_b22
  rw [e_rowOf, inn_nI (by omega), decide_eq_true ht, if_pos rfl, cl_nI (by omega), bd_s]
  unfold pNx sNx
  rcases hQ.1 t ht with ⟨q1, q2⟩ | ⟨d, r, q1, q2, -, q4⟩
  · rw [q2, oc_n, pIs_0 q1]; rfl
  · have hw : pWa R t = dWa d := by unfold pWa; rw [q1]
    rw [q2, oc_s, e_holderOf, bd_s, q4.2.2.2.2.1, pIs_1 q1, if_pos rfl, hw]
    rcases (hok t d q1).2.2.2.1 with e | ⟨l, hl, e⟩
    · rw [e, if_pos rfl]; rfl
    · rw [e, if_neg (m1_ne (by omega)), inn_nI (by omega), decide_eq_true hl, if_pos rfl, cl_nI (by omega), hQ.2.1 l hl]; rfl
def S34 (a : Nat) (c a' k _ : Nat) : Prop := c = 1 ∧ a' = a ∧ (k = 3 ∨ k = 4)
def S34t (a t : Nat) (c a' k j : Nat) : Prop := c = 1 ∧ a' = a ∧ (k = 3 ∨ k = 4) ∧ j = t
theorem S34t_S34 (a t c a' k j : Nat) (h : S34t a t c a' k j) : S34 a c a' k j := ⟨h.1, h.2.1, h.2.2.1⟩
theorem PQ.f34 (h : PQ w a R) (hF : Fr (S34 a) w v) : PQ v a R := by
  have g1 : ∀ k j, k ≠ 3 → k ≠ 4 → zI v 1 a k j = zI w 1 a k j := fun k j q1 q2 => hF.1 1 a k j (by unfold S34; omega)
  have g2 : ∀ s k j, zI v 2 s k j = zI w 2 s k j := fun s k j => hF.1 2 s k j (by unfold S34; omega)
  refine ⟨fun t ht => ?_, fun l hl => ?_, ⟨fun t u d e ht hu q1 q2 q3 => ?_, fun t ht => ?_⟩, ?_, ?_, ?_⟩
  · rw [hF.2.1, hF.2.2.2]
    rcases h.1 t ht with q | ⟨d, s, q1, q2, q3, q4⟩
    · exact Or.inl q
    · exact Or.inr ⟨d, s, q1, q2, q3, q4.fr (g2 s)⟩
  · rw [g1 _ _ (by decide) (by decide)]; exact h.2.1 l hl
  · rw [g1 _ _ (by decide) (by decide)]; exact h.2.2.1.1 t u d e ht hu q1 q2 q3
  · rw [g1 _ _ (by decide) (by decide)]; exact h.2.2.1.2 t ht
  · rw [g1 _ _ (by decide) (by decide)]; exact h.2.2.2.1
  · rw [g1 _ _ (by decide) (by decide)]; exact h.2.2.2.2.1
  · rw [g1 _ _ (by decide) (by decide)]; exact h.2.2.2.2.2
/-- what a chain's bits say after s steps -/
def CI (R : RS) (t s : Nat) (x y : Int32) : Prop := (∀ b, b < 32 → (hb x b = true ↔ ∃ i, i < s ∧ itn (pNx R) i (some t) = some b)) ∧ (∀ b, b < 32 → (hb y b = true ↔ ∃ i u, i < s ∧ itn (pNx R) i (some t) = some u ∧ pWa R u = nI b)) ∧ cntf (fun b => decide (b < 24) && hb x b) 24 0 0 = s
def CF (R : RS) (t : Nat) (x y : Int32) : Prop := (∀ b, b < 24 → hb x b = scm (pNx R) b 25 (some t)) ∧ ∀ l, l < 16 → hb y l = swt (pNx R) (pWa R) l 25 (some t)
theorem itn_24 {t : Nat} (ht : t < 24) (hi : pIs R t = true) : ∀ i u, itn (pNx R) i (some t) = some u → u < 24 ∧ pIs R u = true := by
  intro i
  cases i with
  | zero => intro u h; cases h; exact ⟨ht, hi⟩
  | succ i =>
    intro u h
    rw [itn_s] at h
    cases e : itn (pNx R) i (some t) with
    | none => rw [e] at h; cases h
    | some z => rw [e] at h; exact pNx_lt h
theorem CI.fin {t s : Nat} {x y : Int32} (h : CI R t s x y) (ht : t < 24) (hi : pIs R t = true) (h0 : 0 < s) (hs : s ≤ 24) (hc : ∀ b b', b < 24 → hb x b = true → pNx R b = some b' → hb x b' = true) : CF R t x y := by
  have all : ∀ i b, itn (pNx R) i (some t) = some b → hb x b = true := by
    intro i
    induction i with
    | zero => intro b q; exact (h.1 b (by have := (itn_24 ht hi 0 b q).1; omega)).mpr ⟨0, h0, q⟩
    | succ i ih =>
      intro b q
      rw [itn_s] at q
      cases e : itn (pNx R) i (some t) with
      | none => rw [e] at q; cases q
      | some z => rw [e] at q; exact hc z b (itn_24 ht hi i z e).1 (ih z e) q
  refine ⟨fun b hb' => ?_, fun l hl => ?_⟩
  · rw [Bool.eq_iff_iff, scm_iff, h.1 b (by omega)]
    constructor
    · rintro ⟨i, q1, q2⟩; exact ⟨i, by omega, q2⟩
    · rintro ⟨i, q1, q2⟩; exact (h.1 b (by omega)).mp (all i b q2)
  · rw [Bool.eq_iff_iff, swt_iff, h.2.1 l (by omega)]
    constructor
    · rintro ⟨i, u, q1, q2, q3⟩; exact ⟨i, u, by omega, q2, q3⟩
    · rintro ⟨i, u, q1, q2, q3⟩
      obtain ⟨i', q4, q5⟩ := (h.1 u (by have := (itn_24 ht hi i u q2).1; omega)).mp (all i u q2)
      exact ⟨i', u, q4, q5, q3⟩
def rowp (w : Wd) (a : Nat) (o : Option Nat) : Option Nat := o.bind (fun u => zR w 1 a 1 u)
theorem l_fc (hQ : PQ w a R) (hok : ROK R) {t : Nat} (ht : t < 24) (hi : pIs R t = true) : ∀ k fu s v, s + k = 24 → k < fu → Fr (S34t a t) w v → CI R t s (zI v 1 a 3 t) (zI v 1 a 4 t) → ∃ v', Fr (S34t a t) w v' ∧ CF R t (zI v' 1 a 3 t) (zI v' 1 a 4 t) ∧ fX1_followChainOf_l9 fu a (nI t) (rowp w a (itn (pNx R) s (some t))) (nI s) v = some v' := by
  intro k
  induction k with
  | zero =>
    intro fu s v h1 h2 hF hC
    obtain ⟨fu, rfl⟩ : ∃ f', fu = f' + 1 := ⟨fu - 1, by omega⟩
    refine ⟨v, hF, hC.fin ht hi (by omega) (by omega) (fun b b' hb1 hb2 hb3 => ?_), ?_⟩
    · have := cntf_all 24 0 0 (hC.2.2.trans (show s = 0 + 24 by omega)) b' (by omega) (by have := (pNx_lt hb3).1; omega)
      rw [Bool.and_eq_true] at this
      exact this.2
    · show fX1_followChainOf_b9 (fX1_followChainOf_l9 fu) a (nI t) _ (nI s) v = _
      unfold fX1_followChainOf_b9 fX1_followChainOf_b82
      rw [if_pos (show (24 : Int32) ≤ nI s from nI_le (a := 24) (by omega) (by omega))]
  | succ k ih =>
    intro fu s v h1 h2 hF hC
    obtain ⟨fu, rfl⟩ : ∃ f', fu = f' + 1 := ⟨fu - 1, by omega⟩
    show ∃ v', _ ∧ _ ∧ fX1_followChainOf_b9 (fX1_followChainOf_l9 fu) a (nI t) _ (nI s) v = _
    unfold fX1_followChainOf_b9 fX1_followChainOf_b82
    rw [if_neg (show ¬ (24 : Int32) ≤ nI s from nI_ge (b := 24) (by omega) (by decide))]
    cases eo : itn (pNx R) s (some t) with
    | none =>
      refine ⟨v, hF, hC.fin ht hi ?_ (by omega) (fun b b' hb1 hb2 hb3 => ?_), rfl⟩
      · cases s with
        | zero => cases eo
        | succ s => omega
      · obtain ⟨i, q1, q2⟩ := (hC.1 b (by omega)).mp hb2
        have q3 : itn (pNx R) (i + 1) (some t) = some b' := by rw [itn_s, q2]; exact hb3
        refine (hC.1 b' (by have := (pNx_lt hb3).1; omega)).mpr ⟨i + 1, ?_, q3⟩
        by_cases q : i + 1 = s
        · rw [q, eo] at q3; cases q3
        · omega
    | some u =>
      obtain ⟨hu, hui⟩ := itn_24 ht hi s u eo
      rcases hQ.1 u hu with ⟨q1, -⟩ | ⟨d, r, q1, q2, -, q4⟩
      · rw [pIs_0 q1] at hui; cases hui
      have g2 : ∀ k j, zI v 2 r k j = zI w 2 r k j := fun k j => hF.1 2 r k j (by unfold S34t; omega)
      rw [show rowp w a (some u) = some r from q2, oc_s, ckp_ix _ ht (by decide), cl_nI (by omega), g2 1 0, q4.1, e_hasBit, bd_s]
      by_cases c : hb (zI v 1 a 3 t) u = true
      · rw [c, bi_t, if_neg n10]
        refine ⟨v, hF, hC.fin ht hi ?_ (by omega) (fun b b' hb1 hb2 hb3 => ?_), rfl⟩
        · obtain ⟨i, z1, -⟩ := (hC.1 u (by omega)).mp c; omega
        · obtain ⟨i, z1, z2⟩ := (hC.1 b (by omega)).mp hb2
          have z3 : itn (pNx R) (i + 1) (some t) = some b' := by rw [itn_s, z2]; exact hb3
          by_cases q : i + 1 = s
          · rw [q, eo] at z3; cases z3; exact c
          · exact (hC.1 b' (by have := (pNx_lt hb3).1; omega)).mpr ⟨i + 1, by omega, z3⟩
      · have c' : hb (zI v 1 a 3 t) u = false := by simpa using c
        have hwu : pWa R u = dWa d := by unfold pWa; rw [q1]
        rw [c', bi_f, if_pos p00, ckp_ix _ ht (by decide), ckp_ix _ ht (by decide), lt_e, ckp_ix _ ht (by decide)]
        -- the lock's bit
        have hy : ∃ y, (∀ v0 : Wd, zI v0 2 r 5 0 = dWa d → fX2_waitsAtBit r v0 = some y) ∧ ∀ b, b < 32 → (hb y b = true ↔ dWa d = nI b) := by
          rcases (hok u d q1).2.2.2.1 with e | ⟨l, hl, e⟩
          · refine ⟨0, fun v0 h0 => ?_, fun b hb' => ?_⟩
            · unfold fX2_waitsAtBit fX2_waitsAtBit_b17
              rw [e_isWaiting, bd_s, h0, e]; rfl
            · rw [hb_zero hb', e]
              exact ⟨fun z => (by cases z), fun z => absurd z.symm (m1_ne (by omega))⟩
          · refine ⟨1 <<< (nI l &&& 31), fun v0 h0 => ?_, fun b hb' => ?_⟩
            · unfold fX2_waitsAtBit fX2_waitsAtBit_b17
              rw [e_isWaiting, bd_s, h0, e, show bi (!decide (nI l = -1)) = 1 by rw [decide_eq_false (m1_ne (by omega))]; rfl, if_neg n10]
            · rw [hb_one hb' (by omega), decide_eq_true_eq, e, i_eq (by omega) (by omega)]
              exact eq_comm
        obtain ⟨y, hy1, hy2⟩ := hy
        rw [hy1 _ (by rw [zI_sIn (by omega), g2]; exact q4.2.2.2.2.1), bd_s, ckp_ix _ ht (by decide), lt_e, zI_sIn (w := v) (show ¬ (1 = 1 ∧ a = a ∧ 4 = 3 ∧ t = t) by omega)]
        generalize hv2 : sI (sI v 1 a 3 t (zI v 1 a 3 t ||| 1 <<< (nI u &&& 31))) 1 a 4 t (zI v 1 a 4 t ||| y) = v2
        have F2 : Fr (S34t a t) w v2 := by
          subst hv2
          exact (hF.set _ ⟨rfl, rfl, Or.inl rfl, rfl⟩).set _ ⟨rfl, rfl, Or.inr rfl, rfl⟩
        have x2 : zI v2 1 a 3 t = zI v 1 a 3 t ||| 1 <<< (nI u &&& 31) := by subst hv2; rw [zI_sIn (by omega), zI_sIs]
        have y2 : zI v2 1 a 4 t = zI v 1 a 4 t ||| y := by subst hv2; rw [zI_sIs]
        have Q2 := hQ.f34 (F2.mono (S34t_S34 a t))
        rw [F2.1 2 r 1 0 (by unfold S34t; omega), q4.1, c_aw Q2 hok u hu, bd_s, e_rowOf, bd_s, nI_1]
        have er : (if inn (en (pNx R u)) 24 = true then zR v2 1 a 1 (en (pNx R u)).toNatClampNeg else none) = rowp w a (itn (pNx R) (s + 1) (some t)) := by
          rw [itn_s, eo]
          show _ = rowp w a (pNx R u)
          cases en1 : pNx R u with
          | none => rfl
          | some u' =>
            have := (pNx_lt en1).1
            rw [en_some, inn_nI (by omega), decide_eq_true this, if_pos rfl, cl_nI (by omega), F2.2.1]; rfl
        rw [er]
        refine ih fu (s + 1) v2 (by omega) (by omega) F2 ⟨fun b hb' => ?_, fun b hb' => ?_, ?_⟩
        · rw [x2, hb_set hb' (by omega), Bool.or_eq_true, decide_eq_true_eq, hC.1 b hb']
          constructor
          · rintro (⟨i, z1, z2⟩ | z)
            · exact ⟨i, by omega, z2⟩
            · exact ⟨s, by omega, by rw [z]; exact eo⟩
          · rintro ⟨i, z1, z2⟩
            by_cases q : i = s
            · rw [q, eo] at z2; cases z2; exact Or.inr rfl
            · exact Or.inl ⟨i, by omega, z2⟩
        · rw [y2, hb_or hb', Bool.or_eq_true, hC.2.1 b hb', hy2 b hb', ← hwu]
          constructor
          · rintro (⟨i, z, z1, z2, z3⟩ | z)
            · exact ⟨i, z, by omega, z2, z3⟩
            · exact ⟨s, u, by omega, eo, z⟩
          · rintro ⟨i, z, z1, z2, z3⟩
            by_cases q : i = s
            · rw [q, eo] at z2; cases z2; exact Or.inr z3
            · exact Or.inl ⟨i, z, by omega, z2, z3⟩
        · rw [x2]
          refine (cntf_one (v := u) (P := fun b => decide (b < 24) && hb (zI v 1 a 3 t) b) (by rw [c', Bool.and_false]) (by rw [hb_set (by omega) (by omega), decide_eq_true hu]; simp) 24 0 0 (fun z hz => ?_) (by omega) (by omega)).trans (by rw [hC.2.2])
          by_cases z24 : z < 24
          · rw [hb_set (by omega) (by omega), decide_eq_false hz, Bool.or_false]
          · rw [decide_eq_false z24, Bool.false_and, Bool.false_and]
theorem e_fc (hQ : PQ w a R) (hok : ROK R) {t : Nat} (ht : t < 24) (h3 : zI w 1 a 3 t = 0) (h4 : zI w 1 a 4 t = 0) : ∃ v', Fr (S34t a t) w v' ∧ (∀ b, b < 24 → hb (zI v' 1 a 3 t) b = (pIs R t && scm (pNx R) b 25 (some t))) ∧ (∀ l, l < 16 → hb (zI v' 1 a 4 t) l = (pIs R t && swt (pNx R) (pWa R) l 25 (some t))) ∧ fX1_followChainOf a (nI t) w = some v' := by
  unfold fX1_followChainOf
  rw [ckp_ix _ ht (by decide), lt_e, cl_nI (by omega)]
  cases hi : pIs R t with
  | true =>
    have hC : CI R t 0 (zI w 1 a 3 t) (zI w 1 a 4 t) := by
      rw [h3, h4]
      refine ⟨fun b hb' => ?_, fun b hb' => ?_, ?_⟩
      · rw [hb_zero hb']; exact ⟨fun z => (by cases z), fun ⟨i, z, _⟩ => by omega⟩
      · rw [hb_zero hb']; exact ⟨fun z => (by cases z), fun ⟨i, u, z, _⟩ => by omega⟩
      · exact cntf_no 24 0 0 (fun u _ hu => by rw [hb_zero (by omega), Bool.and_false])
    obtain ⟨v', F, C, E⟩ := l_fc hQ hok ht hi 24 1000 0 w rfl (by decide) (Fr.refl w) hC
    refine ⟨v', F, fun b hb' => ?_, fun l hl => ?_, E⟩
    · rw [Bool.true_and]; exact C.1 b hb'
    · rw [Bool.true_and]; exact C.2 l hl
  | false =>
    rcases hQ.1 t ht with ⟨q1, q2⟩ | ⟨d, r, q1, -⟩
    · rw [q2]
      refine ⟨w, Fr.refl w, fun b hb' => ?_, fun l hl => ?_, rfl⟩
      · rw [h3, hb_zero (by omega)]; rfl
      · rw [h4, hb_zero (by omega)]; rfl
    · rw [pIs_1 q1] at hi; cases hi
def PCh (v : Wd) (a : Nat) (R : RS) : Prop := (∀ o t, o < 24 → t < 24 → hb (zI v 1 a 3 o) t = (pIs R o && scm (pNx R) t 25 (some o))) ∧ ∀ o l, o < 24 → l < 16 → hb (zI v 1 a 4 o) l = (pIs R o && swt (pNx R) (pWa R) l 25 (some o))
theorem l_fcs (hQ : PQ w a R) (hok : ROK R) (h0 : ∀ t, t < 24 → zI w 1 a 3 t = 0 ∧ zI w 1 a 4 t = 0) : ∀ k fu t v, t + k = 24 → k < fu → Fr (S34 a) w v → (∀ o, t ≤ o → o < 24 → zI v 1 a 3 o = 0 ∧ zI v 1 a 4 o = 0) → (∀ o b, o < t → b < 24 → hb (zI v 1 a 3 o) b = (pIs R o && scm (pNx R) b 25 (some o))) → (∀ o l, o < t → l < 16 → hb (zI v 1 a 4 o) l = (pIs R o && swt (pNx R) (pWa R) l 25 (some o))) → ∃ v', Fr (S34 a) w v' ∧ PCh v' a R ∧ fX1_followChains_l2 fu a (nI t) v = some v' := by
  intro k
  induction k with
  | zero =>
    intro fu t v h1 h2 hF h3 h4 h5
    obtain ⟨fu, rfl⟩ : ∃ f', fu = f' + 1 := ⟨fu - 1, by omega⟩
    refine ⟨v, hF, ⟨fun o b ho hb' => h4 o b (by omega) hb', fun o l ho hl => h5 o l (by omega) hl⟩, ?_⟩
    show fX1_followChains_b2 (fX1_followChains_l2 fu) a (nI t) v = _
    unfold fX1_followChains_b2
    rw [if_pos (show (24 : Int32) ≤ nI t from nI_le (a := 24) (by omega) (by omega))]
  | succ k ih =>
    intro fu t v h1 h2 hF h3 h4 h5
    obtain ⟨fu, rfl⟩ : ∃ f', fu = f' + 1 := ⟨fu - 1, by omega⟩
    show ∃ v', _ ∧ _ ∧ fX1_followChains_b2 (fX1_followChains_l2 fu) a (nI t) v = _
    unfold fX1_followChains_b2
    obtain ⟨v2, F2, C2, D2, E2⟩ := e_fc (hQ.f34 hF) hok (show t < 24 by omega) (h3 t (by omega) (by omega)).1 (h3 t (by omega) (by omega)).2
    rw [if_neg (show ¬ (24 : Int32) ≤ nI t from nI_ge (b := 24) (by omega) (by decide)), E2, bd_s, nI_1]
    have g : ∀ k o, o ≠ t → zI v2 1 a k o = zI v 1 a k o := fun k o ho => F2.1 1 a k o (by unfold S34t; omega)
    refine ih fu (t + 1) v2 (by omega) (by omega) (hF.trans (F2.mono (S34t_S34 a t))) (fun o ho1 ho2 => ?_) (fun o b ho hb' => ?_) (fun o l ho hl => ?_)
    · rw [g 3 o (by omega), g 4 o (by omega)]; exact h3 o (by omega) ho2
    · by_cases q : o = t
      · subst q; exact C2 b hb'
      · rw [g 3 o q]; exact h4 o b (by omega) hb'
    · by_cases q : o = t
      · subst q; exact D2 l hl
      · rw [g 4 o q]; exact h5 o l (by omega) hl
theorem e_fcs (hQ : PQ w a R) (hok : ROK R) (h0 : ∀ t, t < 24 → zI w 1 a 3 t = 0 ∧ zI w 1 a 4 t = 0) : ∃ v', Fr (S34 a) w v' ∧ PCh v' a R ∧ fX1_followChains a w = some v' := l_fcs hQ hok h0 24 1000 0 w rfl (by decide) (Fr.refl w) (fun o _ ho => h0 o ho) (fun o b ho => by omega) (fun o l ho => by omega)
end ZFC
