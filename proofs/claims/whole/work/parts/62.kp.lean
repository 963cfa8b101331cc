/-! PURE LAYER: the class keeps a row -/
def Fw (S : Nat → Nat → Nat → Nat → Prop) (w w' : Wd) : Prop := (∀ c a k j, ¬ S c a k j → zI w' c a k j = zI w c a k j) ∧ (∀ c a k j, ¬ S c a k j → zR w' c a k j = zR w c a k j) ∧ zS w ≤ zS w'
theorem Fw.refl {S : Nat → Nat → Nat → Nat → Prop} (w : Wd) : Fw S w w := ⟨fun _ _ _ _ _ => rfl, fun _ _ _ _ _ => rfl, Nat.le_refl _⟩
theorem Fw.trans {S : Nat → Nat → Nat → Nat → Prop} {u v w : Wd} (h : Fw S u v) (g : Fw S v w) : Fw S u w := ⟨fun c a k j n => (g.1 c a k j n).trans (h.1 c a k j n), fun c a k j n => (g.2.1 c a k j n).trans (h.2.1 c a k j n), Nat.le_trans h.2.2 g.2.2⟩
theorem Fw.mono {S T : Nat → Nat → Nat → Nat → Prop} {u v : Wd} (h : Fw S u v) (hST : ∀ c a k j, S c a k j → T c a k j) : Fw T u v := ⟨fun c a k j n => h.1 c a k j (fun q => n (hST c a k j q)), fun c a k j n => h.2.1 c a k j (fun q => n (hST c a k j q)), h.2.2⟩
theorem Fr.w {S : Nat → Nat → Nat → Nat → Prop} {u v : Wd} (h : Fr S u v) : Fw S u v := ⟨h.1, fun _ _ _ _ _ => by rw [h.2.1], by rw [h.2.2.2]; exact Nat.le_refl _⟩
theorem Fw.setI {S : Nat → Nat → Nat → Nat → Prop} {u v : Wd} (h : Fw S u v) {c a k j : Nat} (x : Int32) (hS : S c a k j) : Fw S u (sI v c a k j x) := h.trans (((Fr.refl v).set x hS).w)
theorem Fw.setR {S : Nat → Nat → Nat → Nat → Prop} {u v : Wd} (h : Fw S u v) {c a k j : Nat} (x : Option Nat) (hS : S c a k j) : Fw S u (sR v c a k j x) := by
  refine h.trans ⟨fun _ _ _ _ _ => rfl, fun c' a' k' j' n => ?_, Nat.le_refl _⟩
  rw [zR_sR, if_neg]
  intro ⟨h1, h2, h3, h4⟩
  subst h1 h2 h3 h4
  exact n hS
theorem zR_sRs (w : Wd) (c a k j : Nat) (v : Option Nat) : zR (sR w c a k j v) c a k j = v := by rw [zR_sR, if_pos ⟨rfl, rfl, rfl, rfl⟩]
theorem zR_sRn {w : Wd} {c a k j c' a' k' j' : Nat} {v : Option Nat} (h : ¬ (c' = c ∧ a' = a ∧ k' = k ∧ j' = j)) : zR (sR w c a k j v) c' a' k' j' = zR w c' a' k' j' := by rw [zR_sR, if_neg h]
def upR (R : RS) (t : Nat) (d : RD) : RS := fun u => if u = t then some d else R u
theorem upR_s (R : RS) (t : Nat) (d : RD) : upR R t d t = some d := if_pos rfl
theorem upR_n {R : RS} {t u : Nat} {d : RD} (h : u ≠ t) : upR R t d u = R u := if_neg h
theorem pIs_s (R : RS) (t : Nat) (d : RD) : pIs (upR R t d) t = true := by unfold pIs; rw [upR_s]; rfl
theorem pIs_n {R : RS} {t u : Nat} {d : RD} (h : u ≠ t) : pIs (upR R t d) u = pIs R u := by unfold pIs; rw [upR_n h]
theorem pHe_s (R : RS) (t : Nat) (d : RD) : pHe (upR R t d) t = dHe d := by unfold pHe; rw [upR_s]
theorem pHe_n {R : RS} {t u : Nat} {d : RD} (h : u ≠ t) : pHe (upR R t d) u = pHe R u := by unfold pHe; rw [upR_n h]
theorem pWa_s (R : RS) (t : Nat) (d : RD) : pWa (upR R t d) t = dWa d := by unfold pWa; rw [upR_s]
theorem pWa_n {R : RS} {t u : Nat} {d : RD} (h : u ≠ t) : pWa (upR R t d) u = pWa R u := by unfold pWa; rw [upR_n h]
theorem pIs_0 {R : RS} {t : Nat} (h : R t = none) : pIs R t = false := by unfold pIs; rw [h]; rfl
theorem pIs_1 {R : RS} {t : Nat} {d : RD} (h : R t = some d) : pIs R t = true := by unfold pIs; rw [h]; rfl
theorem fnd_only {P : Nat → Bool} {t : Nat} (ht : t < 24) (h1 : P t = true) (h2 : ∀ u, u < 24 → u ≠ t → P u = false) : fnd P 24 0 = some t := by
  cases e : fnd P 24 0 with
  | none => rw [fnd_no e t (by omega) (by omega)] at h1; cases h1
  | some u =>
    have := fnd_lt e
    by_cases q : u = t
    · rw [q]
    · rw [h2 u (by omega) q] at this; exact absurd this.2.2 (by decide)
theorem pHol_up {R : RS} {t : Nat} {d : RD} (ht : t < 24) (hn : R t = none) (l : Nat) (hf : hb (dHe d) l = true → pHol R l = none) : pHol (upR R t d) l = if hb (dHe d) l = true then some t else pHol R l := by
  unfold pHol sHol
  by_cases c : hb (dHe d) l = true
  · rw [if_pos c]
    refine fnd_only ht (by rw [pIs_s, pHe_s, c]; rfl) (fun u hu hut => ?_)
    rw [pIs_n hut, pHe_n hut]
    exact fnd_no (show fnd (fun t => pIs R t && hb (pHe R t) l) 24 0 = none from hf c) u (by omega) (by omega)
  · rw [if_neg c]
    refine fnd_cong (fun u _ _ => ?_)
    by_cases q : u = t
    · subst q
      rw [pIs_s, pHe_s, pIs_0 hn]
      simpa using c
    · rw [pIs_n q, pHe_n q]
theorem cntf_sum {P H Q : Nat → Bool} : ∀ k t c c', (∀ u, t ≤ u → u < t + k → Q u = (P u || H u) ∧ (P u && H u) = false) → cntf Q k t (c + c') = cntf P k t c + cntf H k t c'
  | 0, _, _, _, _ => rfl
  | k + 1, t, c, c', h => by
    unfold cntf
    have h0 := h t (Nat.le_refl _) (by omega)
    have ih := fun c c' => cntf_sum (P := P) (H := H) (Q := Q) k (t + 1) c c' (fun u h1 h2 => h u (by omega) (by omega))
    rw [h0.1]
    cases hp : P t with
    | true =>
      cases hh : H t with
      | true => rw [hp, hh] at h0; exact absurd h0.2 (by decide)
      | false =>
        rw [if_pos (show (true || false) = true from rfl), if_pos rfl, if_neg (show ¬ false = true by decide), ← ih]
        congr 1
        omega
    | false =>
      cases hh : H t with
      | true =>
        rw [if_pos (show (false || true) = true from rfl), if_neg (show ¬ false = true by decide), if_pos rfl, ← ih]
        congr 1
      | false =>
        rw [if_neg (show ¬ (false || false) = true by decide), if_neg (show ¬ false = true by decide), if_neg (show ¬ false = true by decide), ← ih]
def PHl (v : Wd) (a : Nat) (R : RS) : Prop := ∀ l, l < 16 → zI v 1 a 2 l = en (pHol R l)
def PDs (v : Wd) (a : Nat) (R : RS) : Prop := (∀ t u d e, t < 24 → u < 24 → R t = some d → R u = some e → t ≠ u → zI v 1 a 5 (24 * t + u) = nI (ed d e)) ∧ ∀ t, t < 24 → zI v 1 a 5 (24 * t + t) = 0
def PCn (v : Wd) (a : Nat) (R : RS) : Prop := zI v 1 a 8 0 = nI (cntf (pIs R) 24 0 0) ∧ zI v 1 a 9 0 = nI (cntf (fun t => pIs R t && !decide (pWa R t = -1)) 24 0 0) ∧ zI v 1 a 10 0 = nI (cntf (fun l => (pHol R l).isSome) 16 0 0)
def PQ (v : Wd) (a : Nat) (R : RS) : Prop := PRow v a R ∧ PHl v a R ∧ PDs v a R ∧ PCn v a R
def SP (a : Nat) (c a' k _ : Nat) : Prop := c = 1 ∧ a' = a ∧ (k = 1 ∨ k = 2 ∨ k = 5 ∨ k = 6 ∨ k = 8 ∨ k = 9 ∨ k = 10)
def S2A (a : Nat) (c a' k _ : Nat) : Prop := c = 1 ∧ a' = a ∧ (k = 2 ∨ k = 10)
section ZKP
variable {v : Wd} {a r t : Nat} {R : RS} {d : RD}
theorem l_kh {w : Wd} (h1 : RowC w r t d) : ∀ k fu l c v, l + k = 16 → k < fu → c + k ≤ 100 → Fr (S2A a) w v → (∀ z, z < 16 → zI v 1 a 2 z = if z < l ∧ hb (dHe d) z = true then nI t else zI w 1 a 2 z) → zI v 1 a 10 0 = nI c → ∃ v', Fr (S2A a) w v' ∧ (∀ z, z < 16 → zI v' 1 a 2 z = if hb (dHe d) z = true then nI t else zI w 1 a 2 z) ∧ zI v' 1 a 10 0 = nI (cntf (hb (dHe d)) k l c) ∧ fX1_keep_l55 fu a r (nI l) v = some v' := by
  intro k
  induction k with
  | zero =>
    intro fu l c v h3 h4 h5 hF hV hc
    obtain ⟨fu, rfl⟩ : ∃ f', fu = f' + 1 := ⟨fu - 1, by omega⟩
    refine ⟨v, hF, fun z hz => ?_, hc, ?_⟩
    · rw [hV z hz]
      by_cases q : hb (dHe d) z = true
      · rw [if_pos ⟨by omega, q⟩, if_pos q]
      · rw [if_neg (fun y => q y.2), if_neg q]
    · show fX1_keep_b55 (fX1_keep_l55 fu) a r (nI l) v = _
      unfold fX1_keep_b55
      rw [if_pos (show (16 : Int32) ≤ nI l from nI_le (a := 16) (by omega) (by omega))]
  | succ k ih =>
    intro fu l c v h3 h4 h5 hF hV hc
    obtain ⟨fu, rfl⟩ : ∃ f', fu = f' + 1 := ⟨fu - 1, by omega⟩
    show ∃ v', _ ∧ _ ∧ _ ∧ fX1_keep_b55 (fX1_keep_l55 fu) a r (nI l) v = _
    unfold fX1_keep_b55 fX1_keep_b89 cntf
    have g : ∀ k j, zI v 2 r k j = zI w 2 r k j := fun k j => hF.1 2 r k j (by unfold S2A; omega)
    rw [if_neg (show ¬ (16 : Int32) ≤ nI l from nI_ge (b := 16) (by omega) (by decide)), e_holds, bd_s, g 4 0, h1.2.2.2.1]
    by_cases e : hb (dHe d) l = true
    · rw [if_pos e, e, bi_t, if_neg n10, ckp_ix _ (by omega) (by decide), cl_nI (by omega), lt_e, lt_e, zI_sIn (by omega), hc, nI_1, nI_1, g 1 0, h1.1]
      refine ih fu (l + 1) (c + 1) _ (by omega) (by omega) (by omega) ((hF.set _ ⟨rfl, rfl, Or.inl rfl⟩).set _ ⟨rfl, rfl, Or.inr rfl⟩) (fun z hz => ?_) (zI_sIs _ _ _ _ _ _)
      rw [zI_sIn (by omega)]
      by_cases q : z = l
      · rw [q, zI_sIs, if_pos ⟨by omega, e⟩]
      · rw [zI_sIn (by omega), hV z hz]
        by_cases q2 : z < l ∧ hb (dHe d) z = true
        · rw [if_pos q2, if_pos ⟨by omega, q2.2⟩]
        · rw [if_neg q2, if_neg (fun y => q2 ⟨by omega, y.2⟩)]
    · have e' : hb (dHe d) l = false := by simpa using e
      rw [if_neg e, e', bi_f, if_pos p00, nI_1]
      refine ih fu (l + 1) c v (by omega) (by omega) (by omega) hF (fun z hz => ?_) hc
      rw [hV z hz]
      by_cases q2 : z < l ∧ hb (dHe d) z = true
      · rw [if_pos q2, if_pos ⟨by omega, q2.2⟩]
      · rw [if_neg q2, if_neg (fun y => q2 ⟨by
          by_cases q : z = l
          · subst q; exact absurd y.2 e
          · omega, y.2⟩)]
theorem e_keep (hQ : PQ v a R) (hok : ROK R) (ht : t < 24) (hn : R t = none) (h1 : RowC v r t d) (hd : RDok d) (hr : r < zS v) (hf : ∀ l, l < 16 → hb (dHe d) l = true → pHol R l = none) : ∃ v', Fw (SP a) v v' ∧ zS v' = zS v ∧ PQ v' a (upR R t d) ∧ fX1_keep a r v = some v' := by
  obtain ⟨v1, F1, D1, W1, E1⟩ := l_mf hQ.1 hok ht hn h1 hd.2.2.2 24 1000 0 v rfl (by decide) (Fr.refl v) (fun x d hx => by omega) (fun _ _ _ _ _ => rfl)
  have g1 : ∀ b k j, zI v1 2 b k j = zI v 2 b k j := fun b k j => F1.1 2 b k j (by unfold S56; omega)
  have p1 : ∀ k j, k ≠ 5 → k ≠ 6 → zI v1 1 a k j = zI v 1 a k j := fun k j q1 q2 => F1.1 1 a k j (by unfold S56; omega)
  -- the two counters, then the holders
  have hct := cntf_le (pIs R) 24 0 0
  have hcw := cntf_le (fun t => pIs R t && !decide (pWa R t = -1)) 24 0 0
  have hch := cntf_le (fun l => (pHol R l).isSome) 16 0 0
  have main : ∀ v4, Fw (SP a) v v4 → zS v4 = zS v → (∀ b k j, zI v4 2 b k j = zI v 2 b k j) → (∀ j, zR v4 1 a 1 j = if j = t then some r else zR v 1 a 1 j) → (∀ j, zI v4 1 a 5 j = zI v1 1 a 5 j) → (∀ j, zI v4 1 a 2 j = zI v 1 a 2 j) → zI v4 1 a 10 0 = zI v 1 a 10 0 → zI v4 1 a 8 0 = nI (cntf (pIs (upR R t d)) 24 0 0) → zI v4 1 a 9 0 = nI (cntf (fun u => pIs (upR R t d) u && !decide (pWa (upR R t d) u = -1)) 24 0 0) → ∃ v', Fw (SP a) v v' ∧ zS v' = zS v ∧ PQ v' a (upR R t d) ∧ fX1_keep_b53 a r v4 = some v' := by
    intro v4 F4 z4 g4 r4 d4 h4 c4 t4 w4
    obtain ⟨v5, F5, H5, C5, E5⟩ := l_kh (w := v4) (a := a) (h1.fr (g4 r)) 16 1000 0 (cntf (fun l => (pHol R l).isSome) 16 0 0) v4 rfl (by decide) (by omega) (Fr.refl v4) (fun z hz => by rw [if_neg (by omega)]) (by rw [c4]; exact hQ.2.2.2.2.2)
    have k5 : ∀ k j, k ≠ 2 → k ≠ 10 → zI v5 1 a k j = zI v4 1 a k j := fun k j q1 q2 => F5.1 1 a k j (by unfold S2A; omega)
    have g5 : ∀ b k j, zI v5 2 b k j = zI v 2 b k j := fun b k j => (F5.1 2 b k j (by unfold S2A; omega)).trans (g4 b k j)
    have hol : ∀ l, l < 16 → pHol (upR R t d) l = if hb (dHe d) l = true then some t else pHol R l := fun l hl => pHol_up ht hn l (hf l hl)
    refine ⟨v5, F4.trans (F5.w.mono (fun c a' k j q => ⟨q.1, q.2.1, by have := q.2.2; omega⟩)), F5.2.2.2.trans z4, ⟨?_, ?_, ⟨?_, ?_⟩, ?_, ?_, ?_⟩, E5⟩
    · intro u hu
      rw [F5.2.1, F5.2.2.2, z4, r4]
      by_cases q : u = t
      · subst q
        rw [if_pos rfl, upR_s]
        exact Or.inr ⟨d, r, rfl, rfl, hr, h1.fr (g5 r)⟩
      · rw [if_neg q, upR_n q]
        rcases hQ.1 u hu with q1 | ⟨e, s, q1, q2, q3, q4⟩
        · exact Or.inl q1
        · exact Or.inr ⟨e, s, q1, q2, q3, q4.fr (g5 s)⟩
    · intro l hl
      rw [H5 l hl, hol l hl, h4, hQ.2.1 l hl]
      by_cases q : hb (dHe d) l = true
      · rw [if_pos q, if_pos q]; rfl
      · rw [if_neg q, if_neg q]
    · intro x y e f hx hy ex ey hxy
      rw [k5 5 _ (by decide) (by decide), d4]
      by_cases q1 : x = t
      · subst q1
        rw [upR_s] at ex
        rw [upR_n (fun z => hxy z.symm)] at ey
        cases ex
        exact (D1 y f hy ey).1
      · rw [upR_n q1] at ex
        by_cases q2 : y = t
        · subst q2
          rw [upR_s] at ey
          cases ey
          exact (D1 x e hx ex).2
        · rw [upR_n q2] at ey
          rw [W1 x y hx hy (Or.inl ⟨q1, q2⟩)]
          exact hQ.2.2.1.1 x y e f hx hy ex ey hxy
    · intro x hx
      rw [k5 5 _ (by decide) (by decide), d4, W1 x x hx hx (by
        by_cases q1 : x = t
        · exact Or.inr ⟨q1, q1⟩
        · exact Or.inl ⟨q1, q1⟩)]
      exact hQ.2.2.1.2 x hx
    · rw [k5 8 _ (by decide) (by decide)]; exact t4
    · rw [k5 9 _ (by decide) (by decide)]; exact w4
    · rw [C5]
      congr 1
      have := cntf_sum (P := fun l => (pHol R l).isSome) (H := hb (dHe d)) (Q := fun l => (pHol (upR R t d) l).isSome) 16 0 0 0 (fun l _ hl => by
        have hl' : l < 16 := by omega
        rw [hol l hl']
        by_cases q : hb (dHe d) l = true
        · rw [if_pos q, hf l hl' q, q]; exact ⟨rfl, rfl⟩
        · rw [if_neg q]
          have q' : hb (dHe d) l = false := by simpa using q
          rw [q', Bool.or_false, Bool.and_false]; exact ⟨rfl, rfl⟩)
      rw [show (0 : Nat) + 0 = 0 from rfl] at this
      rw [this, cntf_add (hb (dHe d))]
  have e8 : cntf (pIs (upR R t d)) 24 0 0 = cntf (pIs R) 24 0 0 + 1 := cntf_one (v := t) (pIs_0 hn) (pIs_s R t d) 24 0 0 (fun u hu => (pIs_n hu).symm) (by omega) (by omega)
  unfold fX1_keep
  rw [h1.1, e_isThread, bd_s, inn_nI (by omega), decide_eq_true ht, bi_t, if_neg n10]
  rw [show fX1_measureFrom a r v = some v1 from E1, bd_s, g1 r 1 0, h1.1, ckp_ix _ ht (by decide), cl_nI (by omega), lt_e, lt_e, zI_sR, p1 8 0 (by decide) (by decide), hQ.2.2.2.1, nI_1, e_isWaiting, bd_s, zI_sIn (by omega), zI_sR, g1 r 5 0, h1.2.2.2.2.1]
  have F3 : Fw (SP a) v (sI (sR v1 1 a 1 t (some r)) 1 a 8 0 (nI (cntf (pIs R) 24 0 0 + 1))) := ((F1.w.mono (fun c a' k j q => ⟨q.1, q.2.1, by have := q.2.2; omega⟩)).setR _ ⟨rfl, rfl, Or.inl rfl⟩).setI _ ⟨rfl, rfl, by omega⟩
  have R3 : ∀ j, zR (sR v1 1 a 1 t (some r)) 1 a 1 j = if j = t then some r else zR v 1 a 1 j := fun j => by
    by_cases q : j = t
    · rw [q, zR_sRs, if_pos rfl]
    · rw [zR_sRn (by omega), if_neg q, F1.2.1]
  by_cases ew : dWa d = -1
  · rw [ew, show bi (!decide ((-1 : Int32) = -1)) = 0 from rfl, if_pos p00]
    refine main _ F3 F1.2.2.2 (fun b k j => by rw [zI_sIn (by omega)]; exact g1 b k j) R3 (fun j => by rw [zI_sIn (by omega)]; rfl) (fun j => by rw [zI_sIn (by omega)]; exact p1 2 j (by decide) (by decide)) (by rw [zI_sIn (by omega)]; exact p1 10 0 (by decide) (by decide)) (by rw [zI_sIs, e8]) ?_
    rw [zI_sIn (by omega)]
    refine Eq.trans (p1 9 0 (by decide) (by decide)) (hQ.2.2.2.2.1.trans ?_)
    congr 1
    apply cntf_cong
    intro u _ _
    by_cases q : u = t
    · subst q; rw [pIs_0 hn, pIs_s, pWa_s, ew]; rfl
    · rw [pIs_n q, pWa_n q]
  · rw [show bi (!decide (dWa d = -1)) = 1 by rw [decide_eq_false ew]; rfl, if_neg n10, lt_e, zI_sIn (by omega), zI_sR, p1 9 0 (by decide) (by decide), hQ.2.2.2.2.1, nI_1]
    refine main _ (F3.setI _ ⟨rfl, rfl, by omega⟩) F1.2.2.2 (fun b k j => by rw [zI_sIn (by omega), zI_sIn (by omega)]; exact g1 b k j) R3 (fun j => by rw [zI_sIn (by omega), zI_sIn (by omega)]; rfl) (fun j => by rw [zI_sIn (by omega), zI_sIn (by omega)]; exact p1 2 j (by decide) (by decide)) (by rw [zI_sIn (by omega), zI_sIn (by omega)]; exact p1 10 0 (by decide) (by decide)) (by rw [zI_sIn (by omega), zI_sIs, e8]) ?_
    rw [zI_sIs]
    congr 1
    exact (cntf_one (v := t) (by rw [pIs_0 hn]; rfl) (by rw [pIs_s, pWa_s, decide_eq_false ew]; rfl) 24 0 0 (fun u hu => by rw [pIs_n hu, pWa_n hu]) (by omega) (by omega)).symm
end ZKP
