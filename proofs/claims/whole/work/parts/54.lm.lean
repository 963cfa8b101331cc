/-! PURE LAYER: broken orders of locks: the search, as the reference does it -/
theorem fnd_snoc (P : Nat → Bool) : ∀ k t, fnd P (k + 1) t = match fnd P k t with
    | some u => some u
    | none => if P (t + k) = true then some (t + k) else none
  | 0, t => rfl
  | k + 1, t => by
    show (if P t = true then some t else fnd P (k + 1) (t + 1)) = match (if P t = true then some t else fnd P k (t + 1)) with
      | some u => some u
      | none => if P (t + (k + 1)) = true then some (t + (k + 1)) else none
    by_cases e : P t = true
    · rw [if_pos e, if_pos e]
    · rw [if_neg e, if_neg e, fnd_snoc P k (t + 1), show t + 1 + k = t + (k + 1) by omega]
theorem fnd_sn (P : Nat → Bool) (k : Nat) : (fnd P (k + 1) 0).isSome = ((fnd P k 0).isSome || P k) := by
  rw [fnd_snoc]
  cases fnd P k 0 with
  | some u => rfl
  | none =>
    show (if P (0 + k) = true then some (0 + k) else none).isSome = (false || P k)
    rw [Nat.zero_add]
    cases P k <;> rfl
theorem dec_nI {a b : Nat} (ha : a < 2147483648) (hb : b < 2147483648) : decide (nI a = nI b) = decide (a = b) := decide_eq_decide.mpr (by rw [i_eq ha hb])
/-- row j of the reference says that l is ahead of b -/
def ahj (w : Wd) (m l b j : Nat) : Bool := !decide (zI w 6 m 7 j = 0) && (decide (zI w 6 m 11 j = nI b) && (hb (zI w 6 m 10 j) l && !decide (l = b)))
def Ahd (w : Wd) (m N l b : Nat) : Bool := (fnd (ahj w m l b) N 0).isSome
theorem Ahd_s (w : Wd) (m N l b : Nat) : Ahd w m (N + 1) l b = (Ahd w m N l b || ahj w m l b N) := fnd_sn _ _
def SMk (m : Nat) (c a k _ : Nat) : Prop := c = 6 ∧ a = m ∧ 25 ≤ k ∧ k ≤ 28
def BmA (v : Wd) (m : Nat) (A : Nat → Nat → Bool) : Prop := ∀ l b, l < 16 → b < 16 → hb (zI v 6 m 25 l) b = A l b
section ZLM
variable {w : Wd} {m : Nat}
theorem l_ah5 {j b0 : Nat} (hj : j < 192) (hb0 : b0 < 16) (e7 : ¬ zI w 6 m 7 j = 0) (e11 : zI w 6 m 11 j = nI b0) (rec23 : Nat → Int32 → Wd → Option Wd) : ∀ k f l v, l + k = 16 → k < f → Fr (SMk m) w v → (∀ z b, z < 16 → b < 16 → hb (zI v 6 m 25 z) b = if z < l then Ahd w m (j + 1) z b else Ahd w m j z b) → ∃ v', Fr (SMk m) w v' ∧ BmA v' m (Ahd w m (j + 1)) ∧ fX6_aheads_l58 rec23 f m (nI j) (nI l) v = rec23 m (nI (j + 1)) v' := by
  intro k
  induction k with
  | zero =>
    intro f l v h1 h2 hF hB
    obtain ⟨f, rfl⟩ : ∃ n', f = n' + 1 := ⟨f - 1, by omega⟩
    refine ⟨v, hF, fun z b hz hb' => by rw [hB z b hz hb', if_pos (by omega)], ?_⟩
    show fX6_aheads_b58 rec23 (fX6_aheads_l58 rec23 f) m (nI j) (nI l) v = _
    unfold fX6_aheads_b58 fX6_aheads_b111
    rw [if_pos (show (16 : Int32) ≤ nI l from nI_le (a := 16) (by omega) (by omega)), nI_1]
  | succ k ih =>
    intro f l v h1 h2 hF hB
    obtain ⟨f, rfl⟩ : ∃ n', f = n' + 1 := ⟨f - 1, by omega⟩
    show ∃ v', _ ∧ _ ∧ fX6_aheads_b58 rec23 (fX6_aheads_l58 rec23 f) m (nI j) (nI l) v = _
    unfold fX6_aheads_b58 fX6_aheads_b105
    rw [if_neg (show ¬ (16 : Int32) ≤ nI l from nI_ge (b := 16) (by omega) (by decide)), ckp_ix _ hj (by decide), ckp_ix _ hj (by decide), ckp_ix _ hj (by decide), ckp_ix _ (show l < 16 by omega) (by decide), ckp_ix _ (show l < 16 by omega) (by decide), cl_nI (by omega), cl_nI (by omega), hF.1 6 m 11 j (by unfold SMk; omega), hF.1 6 m 10 j (by unfold SMk; omega), e11, nI_1, lt_e]
    have step : ∀ v1, Fr (SMk m) w v1 → (∀ z, z < 16 → z ≠ l → zI v1 6 m 25 z = zI v 6 m 25 z) → (∀ b, b < 16 → hb (zI v1 6 m 25 l) b = (Ahd w m j l b || ahj w m l b j)) → ∃ v', Fr (SMk m) w v' ∧ BmA v' m (Ahd w m (j + 1)) ∧ fX6_aheads_l58 rec23 f m (nI j) (nI (l + 1)) v1 = rec23 m (nI (j + 1)) v' := by
      intro v1 hF1 hz1 hl1
      refine ih f (l + 1) v1 (by omega) (by omega) hF1 (fun z b hz hb' => ?_)
      by_cases q : z = l
      · rw [q, if_pos (by omega), hl1 b hb', Ahd_s]
      · rw [hz1 z hz q, hB z b hz hb']
        by_cases q2 : z < l
        · rw [if_pos q2, if_pos (by omega)]
        · rw [if_neg q2, if_neg (by omega)]
    have hvl : ∀ b, b < 16 → hb (zI v 6 m 25 l) b = Ahd w m j l b := fun b hb' => by rw [hB l b (by omega) hb', if_neg (Nat.lt_irrefl l)]
    by_cases e1 : l = b0
    · rw [if_pos (by rw [e1])]
      refine step v hF (fun _ _ _ => rfl) (fun b hb' => ?_)
      rw [hvl b hb']
      have : ahj w m l b j = false := by
        unfold ahj
        rw [e11, dec_nI (by omega) (by omega)]
        by_cases q : b0 = b
        · subst q; subst e1; simp
        · simp [q]
      rw [this, Bool.or_false]
    · rw [if_neg (by rw [i_eq (by omega) (by omega)]; exact e1)]
      by_cases e2 : hb (zI w 6 m 10 j) l = true
      · rw [if_pos (by rw [hb_1]; exact e2)]
        refine step _ (hF.set _ ⟨rfl, rfl, by omega, by omega⟩) (fun z _ hz => zI_sIn (by omega)) (fun b hb' => ?_)
        rw [zI_sIs, hb_set (by omega) (by omega), hvl b hb']
        have : ahj w m l b j = decide (b = b0) := by
          unfold ahj
          rw [e11, dec_nI (by omega) (by omega), e2, decide_eq_false e7]
          by_cases q : b0 = b
          · subst q; simp [e1]
          · simp [q]; omega
        rw [this]
      · rw [if_neg (by rw [hb_1]; exact e2)]
        simp only [Bool.not_eq_true] at e2
        refine step v hF (fun _ _ _ => rfl) (fun b hb' => ?_)
        rw [hvl b hb']
        have : ahj w m l b j = false := by
          unfold ahj; rw [e2]; simp
        rw [this, Bool.or_false]
theorem l_ah2 {np : Nat} (h8 : np ≤ 8) (hnp : zI w 6 m 2 0 = nI np) (hW : ∀ j, j < 24 * np → ¬ zI w 6 m 7 j = 0 → wok (zI w 6 m 11 j)) : ∀ k f j v, j + k = 24 * np → k < f → Fr (SMk m) w v → BmA v m (Ahd w m j) → ∃ v', Fr (SMk m) w v' ∧ BmA v' m (Ahd w m (24 * np)) ∧ fX6_aheads_l23 f m (nI j) v = some v' := by
  intro k
  induction k with
  | zero =>
    intro f j v h1 h2 hF hB
    obtain ⟨f, rfl⟩ : ∃ n', f = n' + 1 := ⟨f - 1, by omega⟩
    have hj : j = 24 * np := by omega
    subst hj
    refine ⟨v, hF, hB, ?_⟩
    show fX6_aheads_b23 (fX6_aheads_l23 f) m (nI (24 * np)) v = _
    unfold fX6_aheads_b23
    rw [hF.1 6 m 2 0 (by unfold SMk; omega), hnp, q24, pk_mul, if_pos (by rw [i_le (by omega) (by omega)]; omega)]
  | succ k ih =>
    intro f j v h1 h2 hF hB
    obtain ⟨f, rfl⟩ : ∃ n', f = n' + 1 := ⟨f - 1, by omega⟩
    show ∃ v', _ ∧ _ ∧ fX6_aheads_b23 (fX6_aheads_l23 f) m (nI j) v = _
    unfold fX6_aheads_b23 fX6_aheads_b111
    rw [hF.1 6 m 2 0 (by unfold SMk; omega), hnp, q24, pk_mul, if_neg (by rw [i_le (by omega) (by omega)]; omega), ckp_ix _ (show j < 192 by omega) (by decide), ckp_ix _ (show j < 192 by omega) (by decide), cl_nI (by omega), hF.1 6 m 7 j (by unfold SMk; omega), hF.1 6 m 11 j (by unfold SMk; omega), nI_1]
    have skip : (∀ l b, b < 16 → ahj w m l b j = false) → ∃ v', Fr (SMk m) w v' ∧ BmA v' m (Ahd w m (24 * np)) ∧ fX6_aheads_l23 f m (nI (j + 1)) v = some v' := by
      intro hno
      exact ih f (j + 1) v (by omega) (by omega) hF (fun l b hl hb' => by rw [hB l b hl hb', Ahd_s, hno l b hb', Bool.or_false])
    by_cases e7 : zI w 6 m 7 j = 0
    · rw [if_pos e7]
      exact skip (fun l b _ => by unfold ahj; simp [e7])
    rw [if_neg e7]
    rcases hW j (by omega) e7 with e | ⟨b0, hb0, e⟩
    · rw [if_pos e]
      exact skip (fun l b hb' => by
        unfold ahj
        rw [e]
        have : ¬ (-1 : Int32) = nI b := fun q => m1_ne (by omega) q.symm
        simp [this])
    · rw [if_neg (by rw [e]; exact m1_ne (by omega))]
      obtain ⟨v1, g1, g2, g3⟩ := l_ah5 (show j < 192 by omega) hb0 e7 e (fX6_aheads_l23 f) 16 1000 0 v rfl (by decide) hF (fun z b hz hb' => by rw [if_neg (by omega)]; exact hB z b hz hb')
      obtain ⟨v2, k1, k2, k3⟩ := ih f (j + 1) v1 (by omega) (by omega) g1 g2
      exact ⟨v2, k1, k2, g3.trans k3⟩
theorem l_ah0 {np : Nat} (h8 : np ≤ 8) (hnp : zI w 6 m 2 0 = nI np) (hW : ∀ j, j < 24 * np → ¬ zI w 6 m 7 j = 0 → wok (zI w 6 m 11 j)) : ∀ k f l v, l + k = 16 → k < f → Fr (SMk m) w v → (∀ z, z < l → zI v 6 m 25 z = 0) → ∃ v', Fr (SMk m) w v' ∧ BmA v' m (Ahd w m (24 * np)) ∧ fX6_aheads_l2 f m (nI l) v = some v' := by
  intro k
  induction k with
  | zero =>
    intro f l v h1 h2 hF hB
    obtain ⟨f, rfl⟩ : ∃ n', f = n' + 1 := ⟨f - 1, by omega⟩
    show ∃ v', _ ∧ _ ∧ fX6_aheads_b2 (fX6_aheads_l2 f) m (nI l) v = _
    unfold fX6_aheads_b2
    rw [if_pos (show (16 : Int32) ≤ nI l from nI_le (a := 16) (by omega) (by omega))]
    exact l_ah2 h8 hnp hW (24 * np) 1000 0 v (by omega) (by omega) hF (fun l b hl hb' => by rw [hB l (by omega), hb_zero (by omega)]; rfl)
  | succ k ih =>
    intro f l v h1 h2 hF hB
    obtain ⟨f, rfl⟩ : ∃ n', f = n' + 1 := ⟨f - 1, by omega⟩
    show ∃ v', _ ∧ _ ∧ fX6_aheads_b2 (fX6_aheads_l2 f) m (nI l) v = _
    unfold fX6_aheads_b2
    rw [if_neg (show ¬ (16 : Int32) ≤ nI l from nI_ge (b := 16) (by omega) (by decide)), ckp_ix _ (show l < 16 by omega) (by decide), cl_nI (by omega), lt_e, nI_1]
    refine ih f (l + 1) _ (by omega) (by omega) (hF.set _ ⟨rfl, rfl, by omega, by omega⟩) (fun z hz => ?_)
    rw [zI_sI]
    by_cases q : z = l
    · rw [if_pos ⟨rfl, rfl, rfl, q⟩]
    · rw [if_neg (fun y => q y.2.2.2)]; exact hB z (by omega)
theorem e_aheads {np : Nat} (h8 : np ≤ 8) (hnp : zI w 6 m 2 0 = nI np) (hW : ∀ j, j < 24 * np → ¬ zI w 6 m 7 j = 0 → wok (zI w 6 m 11 j)) : ∃ v', Fr (SMk m) w v' ∧ BmA v' m (Ahd w m (24 * np)) ∧ fX6_aheads m w = some v' := l_ah0 h8 hnp hW 16 1000 0 w rfl (by decide) (Fr.refl w) (fun z hz => by omega)
end ZLM
/-! measures -/
def S26 (m : Nat) (c a k _ : Nat) : Prop := c = 6 ∧ a = m ∧ k = 26
def FA0 (v : Wd) (m : Nat) (A : Nat → Nat → Bool) (s n : Nat) : Prop := ∀ z, z < 16 → zI v 6 m 26 z = nI ((wbk A s n z).getD 100)
def bst (c : Nat) : Nat := if c = 16 then 100 else c + 1
section ZLS
variable {w : Wd} {m : Nat} {A : Nat → Nat → Bool} {s : Nat}
theorem l_m92 (hA : BmA w m A) (hs : s < 16) {n l : Nat} (hn : n < 16) (hl : l < 16) (v : Wd) (hF : Fr (S26 m) w v) (hV : ∀ z, z < 16 → zI v 6 m 26 z = nI (if z < l then (wbk A s (n + 1) z).getD 100 else (wbk A s n z).getD 100)) (rec27 : Nat → Int32 → Int32 → Int32 → Wd → Option (Int32 × Wd)) (rec38 : Nat → Int32 → Int32 → Int32 → Int32 → Wd → Option (Int32 × Wd)) (x2 : Int32) : ∀ k f b c, b + k = 16 → k < f → s < b → fX6_measures_l92 rec27 rec38 f m (nI s) x2 (nI (n + 1)) (nI l) (bi c) (nI b) v = fX6_measures_b151 rec27 rec38 m (nI s) x2 (nI (n + 1)) (nI l) (bi (c || (decide (1 ≤ n) && (fnd (fun b => A l b && decide (wbk A s n b = some n)) k b).isSome))) v := by
  intro k
  induction k with
  | zero =>
    intro f b c h1 h2 h3
    obtain ⟨f, rfl⟩ : ∃ n', f = n' + 1 := ⟨f - 1, by omega⟩
    show fX6_measures_b92 rec27 rec38 (fX6_measures_l92 rec27 rec38 f) m (nI s) x2 (nI (n + 1)) (nI l) (bi c) (nI b) v = _
    unfold fX6_measures_b92
    rw [if_pos (show (16 : Int32) ≤ nI b from nI_le (a := 16) (by omega) (by omega))]
    simp [fnd]
  | succ k ih =>
    intro f b c h1 h2 h3
    obtain ⟨f, rfl⟩ : ∃ n', f = n' + 1 := ⟨f - 1, by omega⟩
    show fX6_measures_b92 rec27 rec38 (fX6_measures_l92 rec27 rec38 f) m (nI s) x2 (nI (n + 1)) (nI l) (bi c) (nI b) v = _
    unfold fX6_measures_b92
    rw [if_neg (show ¬ (16 : Int32) ≤ nI b from nI_ge (b := 16) (by omega) (by decide))]
    by_cases e1 : 1 ≤ n
    · rw [if_neg (show ¬ nI (n + 1) ≤ 1 from nI_ge (a := 1) (by omega) (by omega)), decide_eq_true e1, Bool.true_and]
      unfold fX6_measures_b138 fX6_measures_b142 fX6_measures_b143
      have hfar : (zI v 6 m 26 b = nI (n + 1) - 1) ↔ wbk A s n b = some n := by
        rw [hV b (by omega), nI_pred]
        have hle : ∀ q, (wbk A s q b).getD 100 < 1000 ∨ q ≥ 1000 := by
          intro q
          cases e : wbk A s q b with
          | none => left; show 100 < 1000; omega
          | some d => have := (wbk_src e).2.1; show d < 1000 ∨ _; omega
        have h4 := hle n
        have h5 := hle (n + 1)
        rw [show (nI (if b < l then (wbk A s (n + 1) b).getD 100 else (wbk A s n b).getD 100) = nI n) = ((if b < l then (wbk A s (n + 1) b).getD 100 else (wbk A s n b).getD 100) = n) from i_eq (by split <;> omega) (by omega)]
        cases e : wbk A s n b with
        | some d =>
          rw [wbk_one n b d e]
          show ((if b < l then d else d) = n) ↔ _
          rw [ite_self]
          constructor
          · intro q; rw [q]
          · intro q; exact Option.some.inj q
        | none =>
          constructor
          · intro q
            exfalso
            by_cases q2 : b < l
            · rw [if_pos q2] at q
              cases e3 : wbk A s (n + 1) b with
              | none => rw [e3] at q; have : 100 = n := q; omega
              | some d =>
                rw [e3] at q
                have hd : d = n := q
                have h6 := (wbk_src e3).2.2.2.2.1
                rw [hd, e] at h6; cases h6
            · rw [if_neg q2] at q; have : 100 = n := q; omega
          · intro q; cases q
      have ih' := fun c => ih f (b + 1) c (by omega) (by omega) (by omega)
      simp only [decide_eq_true e1, Bool.true_and] at ih'
      rw [ckp_ix _ hl (by decide), ckp_ix _ (show b < 16 by omega) (by decide), cl_nI (by omega), cl_nI (by omega), hF.1 6 m 25 l (by unfold S26; omega), nI_1]
      show _ = fX6_measures_b151 rec27 rec38 m (nI s) x2 (nI (n + 1)) (nI l) (bi (c || (if (A l b && decide (wbk A s n b = some n)) = true then some b else fnd _ k (b + 1)).isSome)) v
      cases c with
      | true =>
        rw [bi_t, if_neg (show ¬ (1 : Int32) = 0 by decide), ← bi_t, ih' true]
        rfl
      | false =>
        rw [bi_f, if_pos rfl]
        by_cases ea : A l b = true
        · rw [if_pos (by rw [hb_1, hA l b hl (by omega)]; exact ea)]
          by_cases ew : wbk A s n b = some n
          · rw [if_pos (hfar.mpr ew), ← bi_t, ih' true, if_pos (by simp [ea, ew])]
            rfl
          · rw [if_neg (fun q => ew (hfar.mp q)), ← bi_f, ih' false, if_neg (by simp [ew])]
        · rw [if_neg (by rw [hb_1, hA l b hl (by omega)]; exact ea), ← bi_f, ih' false, if_neg (by simp [ea])]
    · rw [if_pos (show nI (n + 1) ≤ 1 from nI_le (b := 1) (by omega) (by decide)), decide_eq_false e1]
      simp
theorem l_m38 (hA : BmA w m A) (hs : s < 16) {n : Nat} (hn : n < 16) (rec27 : Nat → Int32 → Int32 → Int32 → Wd → Option (Int32 × Wd)) (x2 : Int32) : ∀ k f l v, l + k = 16 → k < f → s < l → Fr (S26 m) w v → (∀ z, z < 16 → zI v 6 m 26 z = nI (if z < l then (wbk A s (n + 1) z).getD 100 else (wbk A s n z).getD 100)) → ∃ v', Fr (S26 m) w v' ∧ FA0 v' m A s (n + 1) ∧ fX6_measures_l38 rec27 f m (nI s) x2 (nI (n + 1)) (nI l) v = rec27 m (nI s) x2 (nI (n + 2)) v' := by
  intro k
  induction k with
  | zero =>
    intro f l v h1 h2 h3 hF hV
    obtain ⟨f, rfl⟩ : ∃ n', f = n' + 1 := ⟨f - 1, by omega⟩
    refine ⟨v, hF, fun z hz => by rw [hV z hz, if_pos (by omega)], ?_⟩
    show fX6_measures_b38 rec27 (fX6_measures_l38 rec27 f) m (nI s) x2 (nI (n + 1)) (nI l) v = _
    unfold fX6_measures_b38
    rw [if_pos (show (16 : Int32) ≤ nI l from nI_le (a := 16) (by omega) (by omega)), nI_1]
  | succ k ih =>
    intro f l v h1 h2 h3 hF hV
    obtain ⟨f, rfl⟩ : ∃ n', f = n' + 1 := ⟨f - 1, by omega⟩
    show ∃ v', _ ∧ _ ∧ fX6_measures_b38 rec27 (fX6_measures_l38 rec27 f) m (nI s) x2 (nI (n + 1)) (nI l) v = _
    have hvl := hV l (by omega)
    rw [if_neg (Nat.lt_irrefl l)] at hvl
    have skip : wbk A s (n + 1) l = wbk A s n l → ∃ v', Fr (S26 m) w v' ∧ FA0 v' m A s (n + 1) ∧ fX6_measures_l38 rec27 f m (nI s) x2 (nI (n + 1)) (nI (l + 1)) v = rec27 m (nI s) x2 (nI (n + 2)) v' := by
      intro hsk
      refine ih f (l + 1) v (by omega) (by omega) (by omega) hF (fun z hz => ?_)
      rw [hV z hz]
      by_cases q : z = l
      · rw [q, if_neg (Nat.lt_irrefl l), if_pos (Nat.lt_succ_self l), hsk]
      · by_cases q2 : z < l
        · rw [if_pos q2, if_pos (by omega)]
        · rw [if_neg q2, if_neg (by omega)]
    have hend : ∀ c : Bool, c = (fnd (fun b => A l b && rch A s n b) 16 0).isSome → wbk A s n l = none → ∃ v', Fr (S26 m) w v' ∧ FA0 v' m A s (n + 1) ∧ fX6_measures_b151 rec27 (fX6_measures_l38 rec27 f) m (nI s) x2 (nI (n + 1)) (nI l) (bi c) v = rec27 m (nI s) x2 (nI (n + 2)) v' := by
      intro c hc ew
      have hS := wbk_s (A := A) (s := s) n l
      rw [ew] at hS
      dsimp only at hS
      rw [← hc, decide_eq_true h3, decide_eq_true (show l < 16 by omega)] at hS
      unfold fX6_measures_b151 fX6_measures_b164
      rw [nI_1, ckp_ix _ (show l < 16 by omega) (by decide), cl_nI (by omega), lt_e]
      cases c with
      | false =>
        rw [bi_f, if_pos rfl]
        rw [if_neg (by decide)] at hS
        exact skip (by rw [hS, ew])
      | true =>
        rw [bi_t, if_neg (show ¬ (1 : Int32) = 0 by decide)]
        rw [if_pos (by decide)] at hS
        refine ih f (l + 1) _ (by omega) (by omega) (by omega) (hF.set _ ⟨rfl, rfl, rfl⟩) (fun z hz => ?_)
        rw [zI_sI]
        by_cases q : z = l
        · rw [if_pos ⟨rfl, rfl, rfl, q⟩, q, if_pos (Nat.lt_succ_self l), hS]; rfl
        · rw [if_neg (fun y => q y.2.2.2), hV z hz]
          by_cases q2 : z < l
          · rw [if_pos q2, if_pos (by omega)]
          · rw [if_neg q2, if_neg (by omega)]
    unfold fX6_measures_b38 fX6_measures_b84 fX6_measures_b85
    rw [if_neg (show ¬ (16 : Int32) ≤ nI l from nI_ge (b := 16) (by omega) (by decide)), ckp_ix _ (show l < 16 by omega) (by decide), ckp_ix _ (show l < 16 by omega) (by decide), cl_nI (by omega), hvl, hF.1 6 m 25 l (by unfold S26; omega), nI_1 s]
    cases ew : wbk A s n l with
    | some d =>
      have hd := wbk_src ew
      rw [if_neg (show ¬ (100 : Int32) ≤ nI ((some d).getD 100) from nI_ge (b := 100) (show d < 100 by omega) (by decide))]
      unfold fX6_measures_b164
      rw [nI_1]
      exact skip (by rw [ew]; exact wbk_one n l d ew)
    | none =>
      rw [if_pos (show (100 : Int32) ≤ nI ((none : Option Nat).getD 100) by decide)]
      by_cases e1 : n = 0
      · subst e1
        have hany : (fnd (fun b => A l b && rch A s 0 b) 16 0).isSome = A l s := by
          cases ea : A l s with
          | true => exact fnd_some (P := fun b => A l b && rch A s 0 b) (u := s) (by simp [ea, rch]) 16 0 (by omega) (by omega)
          | false =>
            cases ef : fnd (fun b => A l b && rch A s 0 b) 16 0 with
            | none => rfl
            | some b =>
              have hb2 := (fnd_lt ef).2.2
              simp only [Bool.and_eq_true, rch, if_true, decide_eq_true_iff] at hb2
              rw [hb2.2, ea] at hb2
              cases hb2.1
        rw [if_pos (show nI (0 + 1) = 1 from rfl)]
        have h92 := fun c => l_m92 hA hs (show 0 < 16 by omega) (show l < 16 by omega) v hF hV rec27 (fX6_measures_l38 rec27 f) x2 (15 - s) 1000 (s + 1) c (by omega) (by omega) (by omega)
        simp only [show decide (1 ≤ 0) = false from rfl, Bool.false_and, Bool.or_false] at h92
        by_cases ea : A l s = true
        · rw [if_pos (by rw [hb_1, hA l s (by omega) hs]; exact ea), ← bi_t, h92 true]
          exact hend true (by rw [hany, ea]) ew
        · rw [if_neg (by rw [hb_1, hA l s (by omega) hs]; exact ea), ← bi_f, h92 false]
          simp only [Bool.not_eq_true] at ea
          exact hend false (by rw [hany, ea]) ew
      · rw [if_neg (show ¬ nI (n + 1) = 1 by rw [q1, i_eq (by omega) (by omega)]; omega)]
        have h92 := l_m92 hA hs hn (show l < 16 by omega) v hF hV rec27 (fX6_measures_l38 rec27 f) x2 (15 - s) 1000 (s + 1) false (by omega) (by omega) (by omega)
        rw [← bi_f, h92]
        refine hend _ ?_ ew
        rw [Bool.false_or, decide_eq_true (show 1 ≤ n by omega), Bool.true_and]
        have : (fun b => A l b && rch A s n b) = (fun b => A l b && decide (wbk A s n b = some n)) := by
          funext b
          unfold rch
          rw [if_neg e1]
        rw [this, fnd_16 hs (fun u hu => by
          have : ¬ wbk A s n u = some n := fun q => by have := (wbk_src q).2.2.1; omega
          simp [this])]
theorem l_m27 (hA : BmA w m A) (hs : s < 16) (x2 : Int32) : ∀ k f n v, n + k = 16 → k < f → Fr (S26 m) w v → FA0 v m A s n → ∃ v', Fr (S26 m) w v' ∧ FA0 v' m A s 16 ∧ fX6_measures_l27 f m (nI s) x2 (nI (n + 1)) v = fX6_measures_l180 1000 m (nI s) x2 (nI (s + 1)) v' := by
  intro k
  induction k with
  | zero =>
    intro f n v h1 h2 hF hV
    obtain ⟨f, rfl⟩ : ∃ n', f = n' + 1 := ⟨f - 1, by omega⟩
    refine ⟨v, hF, by rw [show 16 = n by omega]; exact hV, ?_⟩
    show fX6_measures_b27 (fX6_measures_l27 f) m (nI s) x2 (nI (n + 1)) v = _
    unfold fX6_measures_b27
    rw [if_pos (show (16 : Int32) < nI (n + 1) from nI_lt (a := 16) (by omega) (by omega)), nI_1]
  | succ k ih =>
    intro f n v h1 h2 hF hV
    obtain ⟨f, rfl⟩ : ∃ n', f = n' + 1 := ⟨f - 1, by omega⟩
    obtain ⟨v1, g1, g2, g3⟩ := l_m38 hA hs (show n < 16 by omega) (fX6_measures_l27 f) x2 (15 - s) 1000 (s + 1) v (by omega) (by omega) (by omega) hF (fun z hz => by
      rw [hV z hz]
      by_cases q : z < s + 1
      · have e1 : wbk A s n z = none := by
          cases q3 : wbk A s n z with
          | none => rfl
          | some d => have := (wbk_src q3).2.2.1; omega
        have e2 : wbk A s (n + 1) z = none := by
          cases q3 : wbk A s (n + 1) z with
          | none => rfl
          | some d => have := (wbk_src q3).2.2.1; omega
        rw [if_pos q, e1, e2]
      · rw [if_neg q])
    obtain ⟨v2, k1, k2, k3⟩ := ih f (n + 1) v1 (by omega) (by omega) g1 g2
    refine ⟨v2, k1, k2, ?_⟩
    show fX6_measures_b27 (fX6_measures_l27 f) m (nI s) x2 (nI (n + 1)) v = _
    unfold fX6_measures_b27
    rw [if_neg (show ¬ (16 : Int32) < nI (n + 1) from nI_nlt (a := 16) (by omega) (by decide)), nI_1, g3]
    exact k3
theorem l_m18 (hA : BmA w m A) (hs : s < 16) (v : Wd) (hF : Fr (S26 m) w v) (hV : FA0 v m A s 16) : ∀ k f l c, l + k = 16 → k < f → c ≤ 16 → fX6_measures_l180 f m (nI s) (nI (bst c)) (nI l) v = some (nI (bst (szc A s k l c)), v) := by
  intro k
  induction k with
  | zero =>
    intro f l c h1 h2 h3
    obtain ⟨f, rfl⟩ : ∃ n', f = n' + 1 := ⟨f - 1, by omega⟩
    show fX6_measures_b180 (fX6_measures_l180 f) m (nI s) (nI (bst c)) (nI l) v = _
    unfold fX6_measures_b180
    rw [if_pos (show (16 : Int32) ≤ nI l from nI_le (a := 16) (by omega) (by omega))]
    rfl
  | succ k ih =>
    intro f l c h1 h2 h3
    obtain ⟨f, rfl⟩ : ∃ n', f = n' + 1 := ⟨f - 1, by omega⟩
    show fX6_measures_b180 (fX6_measures_l180 f) m (nI s) (nI (bst c)) (nI l) v = _
    unfold fX6_measures_b180 fX6_measures_b221 szc
    rw [if_neg (show ¬ (16 : Int32) ≤ nI l from nI_ge (b := 16) (by omega) (by decide)), ckp_ix _ hs (by decide), ckp_ix _ (show l < 16 by omega) (by decide), ckp_ix _ (show l < 16 by omega) (by decide), cl_nI (by omega), cl_nI (by omega), hF.1 6 m 25 s (by unfold S26; omega), hV l (by omega), nI_1, nI_1, wbk_15]
    have hbc : bst c ≤ 100 := by unfold bst; split <;> omega
    by_cases ea : A s l = true
    · rw [if_pos (by rw [hb_1, hA s l hs (by omega)]; exact ea), if_pos ea]
      cases ew : wbk A s 15 l with
      | none =>
        show (if nI (bst c) ≤ nI (100 + 1) then _ else _) = some (nI (bst (szc A s k (l + 1) (min c 16))), v)
        rw [if_pos (by rw [i_le (by omega) (by omega)]; omega), Nat.min_eq_left h3]
        exact ih f (l + 1) c (by omega) (by omega) h3
      | some d =>
        have hd := (wbk_src ew).2.1
        show (if nI (bst c) ≤ nI (d + 1) then _ else fX6_measures_l180 f m (nI s) (nI (d + 1)) (nI (l + 1)) v) = some (nI (bst (szc A s k (l + 1) (min c d))), v)
        have hbd : bst d = d + 1 := by unfold bst; rw [if_neg (by omega)]
        have hiff : bst c ≤ d + 1 ↔ c ≤ d := by
          unfold bst
          split
          · constructor <;> intro _ <;> omega
          · constructor <;> intro _ <;> omega
        by_cases e : c ≤ d
        · rw [if_pos (by rw [i_le (by omega) (by omega)]; exact hiff.mpr e), Nat.min_eq_left e]
          exact ih f (l + 1) c (by omega) (by omega) h3
        · rw [if_neg (by rw [i_le (by omega) (by omega)]; exact fun q => e (hiff.mp q)), Nat.min_eq_right (by omega), ← hbd]
          exact ih f (l + 1) d (by omega) (by omega) (by omega)
    · rw [if_neg (by rw [hb_1, hA s l hs (by omega)]; exact ea), if_neg ea]
      exact ih f (l + 1) c (by omega) (by omega) h3
theorem l_m2 (hA : BmA w m A) (hs : s < 16) : ∀ k f l v, l + k = 16 → k < f → Fr (S26 m) w v → (∀ z, z < l → zI v 6 m 26 z = 100) → ∃ v', Fr (S26 m) w v' ∧ FA0 v' m A s 16 ∧ fX6_measures_l2 f m (nI s) (nI l) v = some (nI (bst (szs A s)), v') := by
  intro k
  induction k with
  | zero =>
    intro f l v h1 h2 hF hV
    obtain ⟨f, rfl⟩ : ∃ n', f = n' + 1 := ⟨f - 1, by omega⟩
    obtain ⟨v1, g1, g2, g3⟩ := l_m27 hA hs 100 16 1000 0 v rfl (by decide) hF (fun z hz => hV z (by omega))
    refine ⟨v1, g1, g2, ?_⟩
    show fX6_measures_b2 (fX6_measures_l2 f) m (nI s) (nI l) v = _
    unfold fX6_measures_b2
    rw [if_pos (show (16 : Int32) ≤ nI l from nI_le (a := 16) (by omega) (by omega))]
    refine Eq.trans g3 ?_
    exact l_m18 hA hs v1 g1 g2 (15 - s) 1000 (s + 1) 16 (by omega) (by omega) (Nat.le_refl _)
  | succ k ih =>
    intro f l v h1 h2 hF hV
    obtain ⟨f, rfl⟩ : ∃ n', f = n' + 1 := ⟨f - 1, by omega⟩
    show ∃ v', _ ∧ _ ∧ fX6_measures_b2 (fX6_measures_l2 f) m (nI s) (nI l) v = _
    unfold fX6_measures_b2
    rw [if_neg (show ¬ (16 : Int32) ≤ nI l from nI_ge (b := 16) (by omega) (by decide)), ckp_ix _ (show l < 16 by omega) (by decide), cl_nI (by omega), lt_e, nI_1]
    refine ih f (l + 1) _ (by omega) (by omega) (hF.set _ ⟨rfl, rfl, rfl⟩) (fun z hz => ?_)
    rw [zI_sI]
    by_cases q : z = l
    · rw [if_pos ⟨rfl, rfl, rfl, q⟩]
    · rw [if_neg (fun y => q y.2.2.2)]; exact hV z (by omega)
theorem e_meas (hA : BmA w m A) (hs : s < 16) : ∃ v', Fr (S26 m) w v' ∧ FA0 v' m A s 16 ∧ fX6_measures m (nI s) w = some (nI (bst (szs A s)), v') := l_m2 hA hs 16 1000 0 w rfl (by decide) (Fr.refl w) (fun z hz => by omega)
theorem l_b66 (hA : BmA w m A) (hs : s < 16) {n i a : Nat} (hn : n ≤ 16) (hi : i < n) (ha : a < 16) (hV : FA0 w m A s 16) (rec12 : Nat → Int32 → Wd → Option Wd) (rec45 : Nat → Int32 → Int32 → Int32 → Int32 → Wd → Option Wd) : ∀ k f to, s + k < 16 → k < f → fX6_breaks_l66 rec12 rec45 f m (nI s) (nI n) (nI a) (nI i) (nI to) (nI (s + k)) w = rec45 m (nI s) (nI n) (nI ((fnd (fun l => A a l && decide (wbk A s 15 l = some (n - 1 - i))) k (s + 1)).getD to)) (nI (i + 1)) w := by
  intro k
  induction k with
  | zero =>
    intro f to h1 h2
    obtain ⟨f, rfl⟩ : ∃ n', f = n' + 1 := ⟨f - 1, by omega⟩
    show fX6_breaks_b66 rec12 rec45 (fX6_breaks_l66 rec12 rec45 f) m (nI s) (nI n) (nI a) (nI i) (nI to) (nI (s + 0)) w = _
    unfold fX6_breaks_b66
    rw [if_pos (by rw [i_le (by omega) (by omega)]; omega), nI_1]
    rfl
  | succ k ih =>
    intro f to h1 h2
    obtain ⟨f, rfl⟩ : ∃ n', f = n' + 1 := ⟨f - 1, by omega⟩
    show fX6_breaks_b66 rec12 rec45 (fX6_breaks_l66 rec12 rec45 f) m (nI s) (nI n) (nI a) (nI i) (nI to) (nI (s + (k + 1))) w = _
    unfold fX6_breaks_b66 fX6_breaks_b107
    rw [if_neg (by rw [i_le (by omega) (by omega)]; omega), ckp_ix _ ha (by decide), ckp_ix _ (show s + (k + 1) < 16 by omega) (by decide), cl_nI (by omega), cl_nI (by omega), hV _ h1, nI_s1 (by omega), pk_sub (by omega), show nI (s + (k + 1)) + (-1) = nI (s + k) from pk_m1 (s + k), wbk_15, fnd_snoc, show s + 1 + k = s + (k + 1) by omega]
    have hle : (wbk A s 15 (s + (k + 1))).getD 100 ≤ 100 := by
      cases e : wbk A s 15 (s + (k + 1)) with
      | none => exact Nat.le_refl _
      | some d => have := (wbk_src e).2.1; show d ≤ 100; omega
    have hiff : (nI ((wbk A s 15 (s + (k + 1))).getD 100) = nI (n - 1 - i)) ↔ wbk A s 15 (s + (k + 1)) = some (n - 1 - i) := by
      rw [show (nI ((wbk A s 15 (s + (k + 1))).getD 100) = nI (n - 1 - i)) = ((wbk A s 15 (s + (k + 1))).getD 100 = n - 1 - i) from i_eq (by omega) (by omega)]
      cases e : wbk A s 15 (s + (k + 1)) with
      | none =>
        constructor
        · intro q; have : 100 = n - 1 - i := q; omega
        · intro q; cases q
      | some d =>
        constructor
        · intro q; have : d = n - 1 - i := q; rw [this]
        · intro q; exact Option.some.inj q
    have hfin : ∀ to', (P : Bool) → (P = true → to' = s + (k + 1)) → (P = false → to' = to) → (fnd (fun l => A a l && decide (wbk A s 15 l = some (n - 1 - i))) k (s + 1)).getD to' = ((match fnd (fun l => A a l && decide (wbk A s 15 l = some (n - 1 - i))) k (s + 1) with
      | some u => some u
      | none => if P = true then some (s + (k + 1)) else none).getD to) := by
      intro to' P h3 h4
      cases fnd (fun l => A a l && decide (wbk A s 15 l = some (n - 1 - i))) k (s + 1) with
      | some u => rfl
      | none =>
        cases P with
        | true => rw [h3 rfl, if_pos rfl]; rfl
        | false => rw [h4 rfl, if_neg (by decide)]
    by_cases ea : A a (s + (k + 1)) = true
    · rw [if_pos (by rw [hb_1, hA a _ ha h1]; exact ea)]
      by_cases ew : wbk A s 15 (s + (k + 1)) = some (n - 1 - i)
      · rw [if_pos (hiff.mpr ew), ih f (s + (k + 1)) (by omega) (by omega), hfin (s + (k + 1)) (A a (s + (k + 1)) && decide (wbk A s 15 (s + (k + 1)) = some (n - 1 - i))) (fun _ => rfl) (fun q => by simp [ea, ew] at q)]
      · rw [if_neg (fun q => ew (hiff.mp q)), ih f to (by omega) (by omega), hfin to (A a (s + (k + 1)) && decide (wbk A s 15 (s + (k + 1)) = some (n - 1 - i))) (fun q => by simp [ew] at q) (fun _ => rfl)]
    · rw [if_neg (by rw [hb_1, hA a _ ha h1]; exact ea), ih f to (by omega) (by omega), hfin to (A a (s + (k + 1)) && decide (wbk A s 15 (s + (k + 1)) = some (n - 1 - i))) (fun q => by simp [ea] at q) (fun _ => rfl)]
theorem l_b45 (hA : BmA w m A) (hs : s < 16) {n : Nat} (hn : n = szs A s + 1) (hz : szs A s < 16) (rec12 : Nat → Int32 → Wd → Option Wd) : ∀ k f i v a, i + k = n → k < f → Fr (SMk m) w v → BmA v m A → FA0 v m A s 16 → (i < n → a = rgn A s n i) → (∀ j, j < i → zI v 6 m 27 j = nI (rgn A s n j)) → zI v 6 m 28 0 = nI n → ∃ v', Fr (SMk m) w v' ∧ BmA v' m A ∧ (∀ j, j < n → zI v' 6 m 27 j = nI (rgn A s n j)) ∧ zI v' 6 m 28 0 = nI n ∧ fX6_breaks_l45 rec12 f m (nI s) (nI n) (nI a) (nI i) v = rec12 m (nI (s + 1)) v' := by
  intro k
  induction k with
  | zero =>
    intro f i v a h1 h2 hF hB hV ha hG hL
    obtain ⟨f, rfl⟩ : ∃ n', f = n' + 1 := ⟨f - 1, by omega⟩
    refine ⟨v, hF, hB, fun j hj => hG j (by omega), hL, ?_⟩
    show fX6_breaks_b45 rec12 (fX6_breaks_l45 rec12 f) m (nI s) (nI n) (nI a) (nI i) v = _
    unfold fX6_breaks_b45 fX6_breaks_b122
    rw [if_pos (by rw [i_le (by omega) (by omega)]; omega), nI_1]
  | succ k ih =>
    intro f i v a h1 h2 hF hB hV ha hG hL
    obtain ⟨f, rfl⟩ : ∃ n', f = n' + 1 := ⟨f - 1, by omega⟩
    have ha' := ha (by omega)
    have ha16 : a < 16 := by
      rw [ha']
      cases i with
      | zero => exact hs
      | succ i =>
        obtain ⟨l', -, e2', -, h4', -⟩ := rgn_ex hn hz i (by omega)
        rw [e2']; exact h4'
    have hF1 : Fr (SMk m) w (sI v 6 m 27 i (nI a)) := hF.set _ ⟨rfl, rfl, by omega, by omega⟩
    have hB1 : BmA (sI v 6 m 27 i (nI a)) m A := fun l b hl hb' => by rw [zI_sIn (by omega)]; exact hB l b hl hb'
    have hV1 : FA0 (sI v 6 m 27 i (nI a)) m A s 16 := fun z hz => by rw [zI_sIn (by omega)]; exact hV z hz
    have h66 := l_b66 hB1 hs (n := n) (i := i) (a := a) (by omega) (by omega) ha16 hV1 rec12 (fX6_breaks_l45 rec12 f) (15 - s) 1000 0 (by omega) (by omega)
    rw [show s + (15 - s) = 15 by omega] at h66
    obtain ⟨v', k1, k2, k3, k4, k5⟩ := ih f (i + 1) (sI v 6 m 27 i (nI a)) ((fnd (fun l => A a l && decide (wbk A s 15 l = some (n - 1 - i))) (15 - s) (s + 1)).getD 0) (by omega) (by omega) hF1 hB1 hV1 (fun _ => by rw [ha']; rfl) (fun j hj => by
      rw [zI_sI]
      by_cases q : j = i
      · rw [if_pos ⟨rfl, rfl, rfl, q⟩, q, ha']
      · rw [if_neg (fun y => q y.2.2.2)]; exact hG j (by omega)) (by rw [zI_sIn (by omega)]; exact hL)
    refine ⟨v', k1, k2, k3, k4, ?_⟩
    show fX6_breaks_b45 rec12 (fX6_breaks_l45 rec12 f) m (nI s) (nI n) (nI a) (nI i) v = _
    unfold fX6_breaks_b45
    rw [if_neg (by rw [i_le (by omega) (by omega)]; omega), ckp_ix _ (show i < 16 by omega) (by decide), cl_nI (by omega), lt_e]
    exact h66.trans k5
end ZLS
def RmR (v : Wd) (m : Nat) (r : Nat) (g : Nat → Nat) : Prop := r ≤ 16 ∧ zI v 6 m 28 0 = nI (if r = 0 then 100 else r) ∧ ∀ j, j < r → zI v 6 m 27 j = nI (g j)
section ZLT
variable {w : Wd} {m : Nat} {A : Nat → Nat → Bool}
theorem l_b12 : ∀ k f s v r g, s + k = 16 → k < f → Fr (SMk m) w v → BmA v m A → RmR v m r g → ∃ v', Fr (SMk m) w v' ∧ RmR v' m (brs A k s r g).1 (brs A k s r g).2 ∧ fX6_breaks_l12 f m (nI s) v = some v' := by
  intro k
  induction k with
  | zero =>
    intro f s v r g h1 h2 hF hB hG
    obtain ⟨f, rfl⟩ : ∃ n', f = n' + 1 := ⟨f - 1, by omega⟩
    refine ⟨v, hF, hG, ?_⟩
    show fX6_breaks_b12 (fX6_breaks_l12 f) m (nI s) v = _
    unfold fX6_breaks_b12
    rw [if_pos (show (16 : Int32) ≤ nI s from nI_le (a := 16) (by omega) (by omega))]
  | succ k ih =>
    intro f s v r g h1 h2 hF hB hG
    obtain ⟨f, rfl⟩ : ∃ n', f = n' + 1 := ⟨f - 1, by omega⟩
    show ∃ v', _ ∧ _ ∧ fX6_breaks_b12 (fX6_breaks_l12 f) m (nI s) v = _
    obtain ⟨v1, g1, g2, g3⟩ := e_meas hB (show s < 16 by omega)
    have hF1 : Fr (SMk m) w v1 := hF.trans (g1.mono (fun c a k j q => ⟨q.1, q.2.1, by have := q.2.2; omega, by have := q.2.2; omega⟩))
    have hB1 : BmA v1 m A := fun l b hl hb' => by rw [g1.1 6 m 25 l (by unfold S26; omega)]; exact hB l b hl hb'
    have hG1 : RmR v1 m r g := ⟨hG.1, by rw [g1.1 6 m 28 0 (by unfold S26; omega)]; exact hG.2.1, fun j hj => by rw [g1.1 6 m 27 j (by unfold S26; omega)]; exact hG.2.2 j hj⟩
    have hle := szs_le (A := A) (s := s)
    have hr16 := hG.1
    unfold fX6_breaks_b12 fX6_breaks_b122 brs
    rw [if_neg (show ¬ (16 : Int32) ≤ nI s from nI_ge (b := 16) (by omega) (by decide)), g3, bd2_s, hG1.2.1, nI_1]
    have hb1 : bst (szs A s) ≤ 100 := by unfold bst; split <;> omega
    have hr1 : (if r = 0 then 100 else r) ≤ 100 := by split <;> omega
    by_cases hc : szs A s < 16 ∧ (r = 0 ∨ szs A s + 1 < r)
    · rw [if_pos hc, if_pos (by
        rw [i_lt (by omega) (by omega)]
        unfold bst
        rw [if_neg (by omega)]
        split <;> omega), lt_e]
      have hbe : bst (szs A s) = szs A s + 1 := by unfold bst; rw [if_neg (by omega)]
      rw [hbe]
      obtain ⟨v2, k1, k2, k3, k4, k5⟩ := l_b45 (A := A) (s := s) (w := sI v1 6 m 28 0 (nI (szs A s + 1))) (m := m) (fun l b hl hb' => by rw [zI_sIn (by omega)]; exact hB1 l b hl hb') (by omega) rfl hc.1 (fX6_breaks_l12 f) (szs A s + 1) 1000 0 (sI v1 6 m 28 0 (nI (szs A s + 1))) s (by omega) (by omega) (Fr.refl _) (fun l b hl hb' => by rw [zI_sIn (by omega)]; exact hB1 l b hl hb') (fun z hz => by rw [zI_sIn (by omega)]; exact g2 z hz) (fun _ => rfl) (fun j hj => by omega) (zI_sIs _ _ _ _ _ _)
      obtain ⟨v3, j1, j2, j3⟩ := ih f (s + 1) v2 (szs A s + 1) (rgn A s (szs A s + 1)) (by omega) (by omega) ((hF1.set _ ⟨rfl, rfl, by omega, by omega⟩).trans k1) k2 ⟨by omega, by rw [k4, if_neg (by omega)], k3⟩
      exact ⟨v3, j1, j2, Eq.trans k5 j3⟩
    · rw [if_neg hc, if_neg (by
        rw [i_lt (by omega) (by omega)]
        unfold bst
        split <;> split <;> omega)]
      exact ih f (s + 1) v1 r g (by omega) (by omega) hF1 hB1 hG1
theorem e_breaks {np : Nat} (h8 : np ≤ 8) (hnp : zI w 6 m 2 0 = nI np) (hW : ∀ j, j < 24 * np → ¬ zI w 6 m 7 j = 0 → wok (zI w 6 m 11 j)) : ∃ v', Fr (SMk m) w v' ∧ RmR v' m (brs (Ahd w m (24 * np)) 16 0 0 (fun _ => 0)).1 (brs (Ahd w m (24 * np)) 16 0 0 (fun _ => 0)).2 ∧ fX6_breaks m w = some v' := by
  obtain ⟨v1, g1, g2, g3⟩ := e_aheads h8 hnp hW
  unfold fX6_breaks
  rw [g3, bd_s, lt_e]
  exact l_b12 16 1000 0 _ 0 (fun _ => 0) rfl (by decide) (g1.set _ ⟨rfl, rfl, by omega, by omega⟩) (fun l b hl hb' => by rw [zI_sIn (by omega)]; exact g2 l b hl hb') ⟨by omega, zI_sIs _ _ _ _ _ _, fun j hj => by omega⟩
end ZLT
/-- the class's lock order and the reference's -/
def LoR (w : Wd) (lo m np : Nat) : Prop := BhA w lo (Ahd w m (24 * np)) ∧ RgR w lo (brs (Ahd w m (24 * np)) 16 0 0 (fun _ => 0)).1 (brs (Ahd w m (24 * np)) 16 0 0 (fun _ => 0)).2
theorem PicsR.wok {w : Wd} {x m np : Nat} (h : PicsR w x m np) : ∀ j, j < 24 * np → ¬ zI w 6 m 7 j = 0 → wok (zI w 6 m 11 j) := by
  intro j hj hz
  obtain ⟨a, -, hR, -⟩ := h.2.2.2.1 (j / 24) (by omega)
  have hi : mis w m (j / 24) (j % 24) = true := by
    unfold mis
    rw [show 24 * (j / 24) + j % 24 = j by omega]
    simp [hz]
  obtain ⟨r, -, -, hm⟩ := hR.2.1.row (by omega) hi
  have := hm.2.1
  rw [show 24 * (j / 24) + j % 24 = j by omega] at this
  exact this
theorem q_broken {w : Wd} {x m np lo : Nat} (h : PicsR w x m np) (hlo : zR w 5 x 2 0 = some lo) (hL : LoR w lo m np) (i : Int32) : ∃ v w', fX5_broken x i w = some v ∧ fX6_broken m i w = some (v, w') ∧ Fr (SMk m) w w' := by
  obtain ⟨w', hF, hG, ew⟩ := e_breaks h.1 h.2.2.1 h.wok
  have hC := hL.2
  generalize (brs (Ahd w m (24 * np)) 16 0 0 (fun _ => 0)).1 = r at hG hC
  generalize (brs (Ahd w m (24 * np)) 16 0 0 (fun _ => 0)).2 = g at hG hC
  obtain ⟨hr, c1, c2⟩ := hC
  obtain ⟨-, m1, m2⟩ := hG
  unfold fX5_broken fX0_lockOfRing fX0_lockOfRing_b12 fX0_lockOfRing_b22 fX6_broken fX6_broken_b36 fX6_broken_b37
  rw [lt_e, hlo, nn_s, ew, bd_s, c1, m1]
  by_cases r0 : r = 0
  · rw [if_pos r0, if_pos (show (100 : Int32) ≤ nI 100 by decide), r0]
    refine ⟨-1, w', ?_, rfl, hF⟩
    by_cases e : i < 0
    · rw [if_pos e]; rfl
    · rw [if_neg e, if_neg (show ¬ i < nI 0 from e)]; rfl
  · rw [if_neg r0, if_neg (show ¬ (100 : Int32) ≤ nI r from nI_ge (b := 100) (by omega) (by decide)), e_lies _ _ (by omega), bd_s]
    rcases inn_cases (x := i) (N := r) (by omega) with ⟨e, j, hj, rfl⟩ | ⟨e, h1⟩
    · rw [e, bi_t, if_neg (show ¬ (1 : Int32) = 0 by decide), if_neg (nI_pos (by omega)), if_pos (by rw [i_lt (by omega) (by omega)]; exact hj), ckp_ix _ (show j < 16 by omega) (by decide), ckp_ix _ (show j < 16 by omega) (by decide), cl_nI (by omega), c2 j hj, m2 j hj]
      exact ⟨_, w', rfl, rfl, hF⟩
    · rw [e, bi_f, if_pos rfl]
      refine ⟨-1, w', ?_, rfl, hF⟩
      by_cases e0 : i < 0
      · rw [if_pos e0]; rfl
      · rw [if_neg e0, if_neg (i_nlt (h1.resolve_left e0))]; rfl
