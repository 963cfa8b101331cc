/-! the words, the classes' tables, the typed world -/
def TBG : List Cond := lw_tbl.filter goodWord
def zNst (w : Cond) : Bool := match w with
  | .fieldLinkNest _ _ _ _ _ _ => true
  | .methodLinkNest _ _ _ _ => true
  | _ => false
def TBN : List Cond := lw_tbl.filter zNst
abbrev DD : Type := va_G × (Nat → ClassId)
abbrev GT : Type := Nat → Option va_E
abbrev Wd : Type := (Nat → Nat → Nat → Nat → Int32) × (Nat → Nat → Nat → Nat → Option Nat) × (Nat → Nat → Nat → Nat) × (Nat → Nat → Bool) × Nat
def zI (w : Wd) : Nat → Nat → Nat → Nat → Int32 := w.1
def zR (w : Wd) : Nat → Nat → Nat → Nat → Option Nat := w.2.1
def zA (w : Wd) : Nat → Nat → Nat → Nat := w.2.2.1
def zL (w : Wd) : Nat → Nat → Bool := w.2.2.2.1
def zS (w : Wd) : Nat := w.2.2.2.2
def sI (w : Wd) (c a k j : Nat) (v : Int32) : Wd := (fun c' a' k' j' => if c' = c ∧ a' = a ∧ k' = k ∧ j' = j then v else w.1 c' a' k' j', w.2)
def sR (w : Wd) (c a k j : Nat) (r : Option Nat) : Wd := (w.1, fun c' a' k' j' => if c' = c ∧ a' = a ∧ k' = k ∧ j' = j then r else w.2.1 c' a' k' j', w.2.2)
def kdT : List (List Nat) := [[2, 2, 2, 0], [0, 5, 2, 2, 2, 3, 2, 0, 0, 0, 0], [3, 0, 0, 0, 0, 0, 0], [1, 1], [3, 0, 0, 0], [1, 6, 1, 0, 0, 0], [3, 0, 0, 0, 0, 2, 2, 4, 2, 2, 2, 2, 2, 3, 0, 0, 0, 0, 0, 0, 0, 0, 0, 0, 3, 2, 2, 2, 0, 2, 2]]
def alT : List (List Nat) := [[16, 16, 16, 0], [0, 24, 16, 24, 24, 576, 13, 0, 0, 0, 0], [12, 0, 0, 0, 0, 0, 0], [0, 0], [300, 0, 0, 0], [0, 8, 0, 0, 0, 0], [300, 0, 0, 0, 0, 8, 8, 192, 192, 192, 192, 192, 192, 2304, 0, 0, 0, 0, 0, 0, 0, 0, 0, 0, 12, 16, 16, 16, 0, 169, 24]]
def kd (c k : Nat) : Nat := (kdT.getD c []).getD k 0
def al (c k : Nat) : Nat := (alT.getD c []).getD k 0
def nF (c : Nat) : Nat := (kdT.getD c []).length
def tg (c k : Nat) : Nat := if c = 1 then 2 else if c = 3 then (if k = 0 then 4 else 1) else if k = 0 then 4 else if k = 1 then 1 else 0
def zCl (c : Nat) : vw_C := (vwCl[c]?).getD ("", fun _ => ("", "", "", false), 0)
def RR (c : Nat) : String := (zCl c).1
def TT (c : Nat) : u_T := (zCl c).2.1
def TYs (c : Nat) : Nat → FieldType := if c = 0 then tyX0 else if c = 1 then tyX1 else if c = 2 then tyX2 else if c = 3 then tyX3 else if c = 4 then tyX4 else if c = 5 then tyX5 else tyX6
theorem zc7 {P : Nat → Prop} (h0 : P 0) (h1 : P 1) (h2 : P 2) (h3 : P 3) (h4 : P 4) (h5 : P 5) (h6 : P 6) : ∀ c, c < 7 → P c := by
  intro c hc
  rcases (show c = 0 ∨ c = 1 ∨ c = 2 ∨ c = 3 ∨ c = 4 ∨ c = 5 ∨ c = 6 by omega) with rfl | rfl | rfl | rfl | rfl | rfl | rfl <;> assumption
theorem zCl_ok : ∀ c, c < 7 → vwCl[c]? = some (RR c, TT c, nF c) := zc7 rfl rfl rfl rfl rfl rfl rfl
theorem zTy_ok : ∀ c, c < 7 → ∀ k, k < nF c → parseFieldDescriptor (TT c k).2.2.1 = some (TYs c k) := zc7 tyX0_ok tyX1_ok tyX2_ok tyX3_ok tyX4_ok tyX5_ok tyX6_ok
theorem zNm_ok : ∀ c, c < 7 → ∀ a, a < nF c → ∀ b, b < nF c → a ≠ b → (TT c a).2.1 ≠ (TT c b).2.1 := zc7 nmX0 nmX1 nmX2 nmX3 nmX4 nmX5 nmX6
theorem zIn_ok : ∀ c, c < 7 → ∀ w ∈ u_ws (RR c) (TT c) (nF c), w ∈ TBG := zc7 (by decide +kernel) (by decide +kernel) (by decide +kernel) (by decide +kernel) (by decide +kernel) (by decide +kernel) (by decide +kernel)
theorem zKd0 : ∀ c, c < 7 → ∀ k, k < nF c → kd c k = 0 → TYs c k = .int := by decide +kernel
theorem zOwn : ∀ c, c < 7 → ∀ k, k < nF c → (TT c k).1 = RR c := by decide +kernel
def fv (w : Wd) (c a k : Nat) : Value := if kd c k = 0 then .int (w.1 c a k 0) else if kd c k = 1 then va_rf (w.2.1 c a k 0) else .ref (w.2.2.1 c a k)
def fl (w : Wd) (c a : Nat) : List Value := (List.range (nF c)).map (fv w c a)
def cyN (k : Nat) : Nat := if k = 2 then 0 else if k = 3 then 1 else if k = 4 then 2 else if k = 5 then 3 else 4
def cn (D : DD) (w : Wd) (c a k : Nat) : va_E := if kd c k < 5 then .inl (D.2 (cyN (kd c k)), al c k, .inl (w.1 c a k)) else .inl (D.2 (cyN (kd c k)), al c k, .inr (.inr (.inr (.inr (w.2.1 c a k)))))
def Rp (D : DD) (w : Wd) (G : GT) (sz : Nat) : Prop :=
  (∀ c a, w.2.2.2.1 c a = true → c < 7 ∧ G a = some (.inr (c, fl w c a))) ∧
  (∀ c a k, w.2.2.2.1 c a = true → k < nF c → 2 ≤ kd c k → G (w.2.2.1 c a k) = some (cn D w c a k)) ∧
  (∀ c a k c' a' k', w.2.2.2.1 c a = true → w.2.2.2.1 c' a' = true → k < nF c → 2 ≤ kd c k → k' < nF c' → 2 ≤ kd c' k' → w.2.2.1 c a k = w.2.2.1 c' a' k' → c = c' ∧ a = a' ∧ k = k') ∧
  (∀ c a k j b, w.2.2.2.1 c a = true → w.2.1 c a k j = some b → w.2.2.2.1 (tg c k) b = true) ∧ sz = w.2.2.2.2
def gset (G : GT) (a : Nat) (e : va_E) : GT := fun b => if b = a then some e else G b
theorem gset_s (G : GT) (a : Nat) (e : va_E) : gset G a e a = some e := by simp [gset]
theorem gset_n (G : GT) {a b : Nat} (e : va_E) (h : b ≠ a) : gset G a e b = G b := by simp [gset, h]
theorem fl_len (w : Wd) (c a : Nat) : (fl w c a).length = nF c := by simp [fl]
theorem fl_at (w : Wd) {c : Nat} (a : Nat) {k : Nat} (h : k < nF c) : (fl w c a)[k]? = some (fv w c a k) := by simp [fl, h]
theorem cn_inl (D : DD) (w : Wd) (c a k : Nat) : ∃ y, cn D w c a k = .inl y := by unfold cn; split <;> exact ⟨_, rfl⟩
theorem Rp_cls {D : DD} {w : Wd} {G : GT} {sz : Nat} (h : Rp D w G sz) {c c' a : Nat} (h1 : w.2.2.2.1 c a = true) (h2 : w.2.2.2.1 c' a = true) : c = c' := by
  have e := (h.1 c a h1).2.symm.trans (h.1 c' a h2).2
  simp only [Option.some.injEq, Sum.inr.injEq, Prod.mk.injEq] at e
  exact e.1
theorem Rp_nar {D : DD} {w : Wd} {G : GT} {sz : Nat} (h : Rp D w G sz) {c c' a b k : Nat} (h1 : w.2.2.2.1 c a = true) (h2 : w.2.2.2.1 c' b = true) (hk : k < nF c') (hd : 2 ≤ kd c' k) : w.2.2.1 c' b k ≠ a := by
  intro e
  have e1 := (h.1 c a h1).2
  have e2 := h.2.1 c' b k h2 hk hd
  rw [e, e1] at e2
  obtain ⟨y, hy⟩ := cn_inl D w c' b k
  rw [hy] at e2
  cases e2
theorem Rp_putI {D : DD} {w : Wd} {G : GT} {sz : Nat} (h : Rp D w G sz) {c a k : Nat} (hl : w.2.2.2.1 c a = true) (hk : k < nF c) (hd : kd c k = 0) (v : Int32) : Rp D (sI w c a k 0 v) (gset G a (.inr (c, (fl w c a).set k (.int v)))) sz := by
  refine ⟨fun c' a' h' => ⟨(h.1 c' a' h').1, ?_⟩, fun c' a' k' h' hk' hd' => ?_, h.2.2.1, h.2.2.2.1, h.2.2.2.2⟩
  · by_cases e : a' = a
    · subst e
      have ec := Rp_cls h hl h'
      subst ec
      rw [gset_s]
      congr 3
      apply List.ext_getElem?
      intro i
      by_cases hi : i < nF c
      · rw [fl_at _ _ hi]
        by_cases hik : i = k
        · subst hik
          rw [List.getElem?_set_self (by rw [fl_len]; exact hi)]
          simp [fv, hd, sI]
        · rw [List.getElem?_set_ne (Ne.symm hik), fl_at _ _ hi]
          simp [fv, sI, hik]
      · rw [List.getElem?_eq_none (by rw [List.length_set, fl_len]; omega), List.getElem?_eq_none (by rw [fl_len]; omega)]
    · rw [gset_n _ _ e, (h.1 c' a' h').2]
      congr 3
      apply List.map_congr_left
      intro i _
      simp [fv, sI, e]
  · show gset G a _ (w.2.2.1 c' a' k') = _
    rw [gset_n _ _ (Rp_nar h hl h' hk' hd'), h.2.1 c' a' k' h' hk' hd']
    congr 1
    have hne : ¬ (c' = c ∧ k' = k) := by rintro ⟨rfl, rfl⟩; omega
    have hf : (sI w c a k 0 v).1 c' a' k' = w.1 c' a' k' := by
      funext j
      show (if c' = c ∧ a' = a ∧ k' = k ∧ j = 0 then v else w.1 c' a' k' j) = _
      rw [if_neg (fun q => hne ⟨q.1, q.2.2.1⟩)]
    unfold cn
    rw [hf]
    rfl
theorem Rp_putA {D : DD} {w : Wd} {G : GT} {sz : Nat} (h : Rp D w G sz) {c a k : Nat} (hl : w.2.2.2.1 c a = true) (hk : k < nF c) (hd : 2 ≤ kd c k) (hd5 : kd c k < 5) (j : Nat) (v : Int32) : Rp D (sI w c a k j v) (gset G (w.2.2.1 c a k) (.inl (D.2 (cyN (kd c k)), al c k, .inl (upd (w.1 c a k) j v)))) sz := by
  refine ⟨fun c' a' h' => ⟨(h.1 c' a' h').1, ?_⟩, fun c' a' k' h' hk' hd' => ?_, h.2.2.1, h.2.2.2.1, h.2.2.2.2⟩
  · rw [gset_n _ _ (fun e => Rp_nar h h' hl hk hd e.symm), (h.1 c' a' h').2]
    congr 3
    apply List.map_congr_left
    intro i hi
    have hf : kd c' i = 0 → (sI w c a k j v).1 c' a' i 0 = w.1 c' a' i 0 := by
      intro h0
      show (if c' = c ∧ a' = a ∧ i = k ∧ 0 = j then v else _) = _
      rw [if_neg]
      rintro ⟨rfl, -, rfl, -⟩
      omega
    unfold fv
    by_cases h0 : kd c' i = 0
    · rw [if_pos h0, if_pos h0, hf h0]
    · rw [if_neg h0, if_neg h0]
      rfl
  · show gset G _ _ (w.2.2.1 c' a' k') = _
    by_cases e : w.2.2.1 c' a' k' = w.2.2.1 c a k
    · obtain ⟨rfl, rfl, rfl⟩ := h.2.2.1 _ _ _ _ _ _ h' hl hk' hd' hk hd e
      rw [gset_s]
      unfold cn
      rw [if_pos hd5]
      congr 5
      funext i
      show upd _ j v i = if c' = c' ∧ a' = a' ∧ k' = k' ∧ i = j then v else _
      simp [upd]
    · rw [gset_n _ _ e, h.2.1 c' a' k' h' hk' hd']
      congr 1
      have hf : (sI w c a k j v).1 c' a' k' = w.1 c' a' k' := by
        funext i
        show (if c' = c ∧ a' = a ∧ k' = k ∧ i = j then v else w.1 c' a' k' i) = _
        rw [if_neg]
        rintro ⟨rfl, rfl, rfl, -⟩
        exact e rfl
      unfold cn
      rw [hf]
      rfl
theorem Rp_putR {D : DD} {w : Wd} {G : GT} {sz : Nat} (h : Rp D w G sz) {c a k : Nat} (hl : w.2.2.2.1 c a = true) (hk : k < nF c) (hd5 : 5 ≤ kd c k) (j : Nat) (b : Nat) (hb : w.2.2.2.1 (tg c k) b = true) : Rp D (sR w c a k j (some b)) (gset G (w.2.2.1 c a k) (.inl (D.2 (cyN (kd c k)), al c k, .inr (.inr (.inr (.inr (va_up (w.2.1 c a k) j (some b)))))))) sz := by
  have hd : 2 ≤ kd c k := by omega
  refine ⟨fun c' a' h' => ⟨(h.1 c' a' h').1, ?_⟩, fun c' a' k' h' hk' hd' => ?_, h.2.2.1, fun c' a' k' j' b' h' hb' => ?_, h.2.2.2.2⟩
  · rw [gset_n _ _ (fun e => Rp_nar h h' hl hk hd e.symm), (h.1 c' a' h').2]
    congr 3
    apply List.map_congr_left
    intro i hi
    have hf : kd c' i = 1 → (sR w c a k j (some b)).2.1 c' a' i 0 = w.2.1 c' a' i 0 := by
      intro h0
      show (if c' = c ∧ a' = a ∧ i = k ∧ 0 = j then some b else _) = _
      rw [if_neg]
      rintro ⟨rfl, -, rfl, -⟩
      omega
    unfold fv
    by_cases h0 : kd c' i = 0
    · rw [if_pos h0, if_pos h0]
      rfl
    · rw [if_neg h0, if_neg h0]
      by_cases h1 : kd c' i = 1
      · rw [if_pos h1, if_pos h1, hf h1]
      · rw [if_neg h1, if_neg h1]
        rfl
  · show gset G _ _ (w.2.2.1 c' a' k') = _
    by_cases e : w.2.2.1 c' a' k' = w.2.2.1 c a k
    · obtain ⟨rfl, rfl, rfl⟩ := h.2.2.1 _ _ _ _ _ _ h' hl hk' hd' hk hd e
      rw [gset_s]
      unfold cn
      rw [if_neg (by omega)]
      congr 8
      funext i
      show va_up _ j (some b) i = if c' = c' ∧ a' = a' ∧ k' = k' ∧ i = j then some b else _
      simp [va_up]
    · rw [gset_n _ _ e, h.2.1 c' a' k' h' hk' hd']
      congr 1
      have hf : (sR w c a k j (some b)).2.1 c' a' k' = w.2.1 c' a' k' := by
        funext i
        show (if c' = c ∧ a' = a ∧ k' = k ∧ i = j then some b else w.2.1 c' a' k' i) = _
        rw [if_neg]
        rintro ⟨rfl, rfl, rfl, -⟩
        exact e rfl
      unfold cn
      rw [hf]
      rfl
  · have hb'' : (if c' = c ∧ a' = a ∧ k' = k ∧ j' = j then some b else w.2.1 c' a' k' j') = some b' := hb'
    by_cases q : c' = c ∧ a' = a ∧ k' = k ∧ j' = j
    · rw [if_pos q] at hb''
      cases hb''
      obtain ⟨rfl, rfl, rfl, rfl⟩ := q
      exact hb
    · rw [if_neg q] at hb''
      exact h.2.2.2.1 c' a' k' j' b' h' hb''
