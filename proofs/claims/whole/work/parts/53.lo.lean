/-! PURE LAYER: broken orders of locks: the search, as the class does it -/
theorem fnd_skip {P : Nat → Bool} : ∀ k1 k2 t, (∀ u, t ≤ u → u < t + k1 → P u = false) → fnd P (k1 + k2) t = fnd P k2 (t + k1)
  | 0, k2, t, _ => by rw [Nat.zero_add]; rfl
  | k1 + 1, k2, t, h => by
    rw [show k1 + 1 + k2 = (k1 + k2) + 1 by omega]
    show (if P t = true then some t else fnd P (k1 + k2) (t + 1)) = _
    rw [h t (Nat.le_refl _) (by omega), if_neg (by decide), fnd_skip k1 k2 (t + 1) (fun u h1 h2 => h u (by omega) (by omega)), show t + 1 + k1 = t + (k1 + 1) by omega]
theorem fnd_16 {P : Nat → Bool} {s : Nat} (hs : s < 16) (h : ∀ u, u < s + 1 → P u = false) : fnd P 16 0 = fnd P (15 - s) (s + 1) := by
  have := fnd_skip (P := P) (s + 1) (15 - s) 0 (fun u _ hu => h u (by omega))
  rw [show s + 1 + (15 - s) = 16 by omega, Nat.zero_add] at this
  exact this
theorem fnd_some {P : Nat → Bool} {u : Nat} (hu : P u = true) : ∀ k t, t ≤ u → u < t + k → (fnd P k t).isSome = true
  | 0, t, h1, h2 => by omega
  | k + 1, t, h1, h2 => by
    unfold fnd
    by_cases e : P t = true
    · rw [if_pos e]; rfl
    · rw [if_neg e]
      refine fnd_some hu k (t + 1) ?_ (by omega)
      by_cases q : t = u
      · subst q; exact absurd hu e
      · omega
def wbk (A : Nat → Nat → Bool) (s : Nat) : Nat → Nat → Option Nat
  | 0, _ => none
  | n + 1, l => match wbk A s n l with
    | some d => some d
    | none => if (decide (s < l) && decide (l < 16) && (fnd (fun b => A l b && (if n = 0 then decide (b = s) else decide (wbk A s n b = some n))) 16 0).isSome) = true then some (n + 1) else none
def rch (A : Nat → Nat → Bool) (s n b : Nat) : Bool := if n = 0 then decide (b = s) else decide (wbk A s n b = some n)
section ZWB
variable {A : Nat → Nat → Bool} {s : Nat}
theorem wbk_s (n l : Nat) : wbk A s (n + 1) l = match wbk A s n l with
    | some d => some d
    | none => if (decide (s < l) && decide (l < 16) && (fnd (fun b => A l b && rch A s n b) 16 0).isSome) = true then some (n + 1) else none := rfl
theorem wbk_one (n l d : Nat) (h : wbk A s n l = some d) : wbk A s (n + 1) l = some d := by
  rw [wbk_s, h]
theorem wbk_mono {n l d : Nat} (h : wbk A s n l = some d) : ∀ k, wbk A s (n + k) l = some d
  | 0 => h
  | k + 1 => wbk_one (n + k) l d (wbk_mono h k)
theorem wbk_src : ∀ {n l d : Nat}, wbk A s n l = some d → 1 ≤ d ∧ d ≤ n ∧ s < l ∧ l < 16 ∧ wbk A s d l = some d ∧ ∃ b, b < 16 ∧ A l b = true ∧ rch A s (d - 1) b = true
  | 0, l, d, h => by cases h
  | n + 1, l, d, h => by
    have h' := h
    rw [wbk_s] at h
    cases e : wbk A s n l with
    | some d' =>
      rw [e] at h
      have hd : d' = d := Option.some.inj h
      subst hd
      have := wbk_src e
      exact ⟨this.1, by omega, this.2.2.1, this.2.2.2.1, this.2.2.2.2⟩
    | none =>
      rw [e] at h
      dsimp only at h
      by_cases q : (decide (s < l) && decide (l < 16) && (fnd (fun b => A l b && rch A s n b) 16 0).isSome) = true
      · rw [if_pos q] at h
        have hd : n + 1 = d := Option.some.inj h
        subst hd
        simp only [Bool.and_eq_true, decide_eq_true_iff] at q
        cases ef : fnd (fun b => A l b && rch A s n b) 16 0 with
        | none => rw [ef] at q; cases q.2
        | some b =>
          have hb := fnd_lt ef
          have hb2 := hb.2.2
          simp only [Bool.and_eq_true] at hb2
          exact ⟨by omega, by omega, q.1.1, q.1.2, h', b, by omega, hb2.1, hb2.2⟩
      · rw [if_neg q] at h; cases h
theorem wbk_stop {n : Nat} (h : ∀ b, b < 16 → rch A s n b = false) : ∀ k l, wbk A s (n + k) l = wbk A s n l
  | 0, _ => rfl
  | k + 1, l => by
    show wbk A s (n + k + 1) l = _
    rw [wbk_s, wbk_stop h k l]
    cases e : wbk A s n l with
    | some d => rfl
    | none =>
      dsimp only
      rw [if_neg]
      simp only [Bool.and_eq_true, decide_eq_true_iff]
      rintro ⟨⟨h1, h2⟩, h3⟩
      cases ef : fnd (fun b => A l b && rch A s (n + k) b) 16 0 with
      | none => rw [ef] at h3; cases h3
      | some b =>
        have hb := fnd_lt ef
        have hb2 := hb.2.2
        simp only [Bool.and_eq_true] at hb2
        cases k with
        | zero => rw [Nat.add_zero, h b (by omega)] at hb2; cases hb2.2
        | succ k =>
          have h4 := hb2.2
          unfold rch at h4
          rw [if_neg (by omega), decide_eq_true_iff, wbk_stop h (k + 1) b] at h4
          have := wbk_src h4
          omega
theorem rch_lt {n b : Nat} (hs : s < 16) (h : rch A s n b = true) : b < 16 := by
  unfold rch at h
  by_cases e : n = 0
  · rw [if_pos e, decide_eq_true_iff] at h; omega
  · rw [if_neg e, decide_eq_true_iff] at h; exact (wbk_src h).2.2.2.1
/-- no way needs sixteen steps -/
theorem cntf_lt {P Q : Nat → Bool} {v : Nat} (hP : P v = false) (hQ : Q v = true) (h : ∀ u, P u = true → Q u = true) : ∀ k t c, t ≤ v → v < t + k → cntf P k t c + 1 ≤ cntf Q k t c := by
  have hle : ∀ k t c c', c ≤ c' → cntf P k t c ≤ cntf Q k t c' := by
    intro k
    induction k with
    | zero => intro t c c' h1; exact h1
    | succ k ih =>
      intro t c c' h1
      unfold cntf
      apply ih
      by_cases e : P t = true
      · rw [if_pos e, if_pos (h t e)]; omega
      · rw [if_neg e]; split <;> omega
  intro k
  induction k with
  | zero => intro t c h1 h2; omega
  | succ k ih =>
    intro t c h1 h2
    unfold cntf
    by_cases q : t = v
    · subst q
      rw [hP, hQ, if_pos rfl, if_neg (by decide), cntf_add Q]
      have := hle k (t + 1) c c (Nat.le_refl _)
      rw [cntf_add Q k (t + 1) c] at this
      omega
    · by_cases e : P t = true
      · rw [if_pos e, if_pos (h t e)]; exact ih (t + 1) (c + 1) (by omega) (by omega)
      · rw [if_neg e]
        have := ih (t + 1) c (by omega) (by omega)
        split
        · have h3 := cntf_add Q k (t + 1) (c + 1)
          have h4 := cntf_add Q k (t + 1) c
          omega
        · exact this
theorem wbk_cnt : ∀ n b, rch A s (n + 1) b = true → n + 1 ≤ cntf (fun l => (wbk A s (n + 1) l).isSome) 16 0 0
  | 0, b, h => by
    unfold rch at h
    rw [if_neg (by omega), decide_eq_true_iff] at h
    have hb := wbk_src h
    have := cntf_lt (P := fun _ => false) (Q := fun l => (wbk A s (0 + 1) l).isSome) (v := b) rfl (by show (wbk A s (0 + 1) b).isSome = true; rw [h]; rfl) (fun u q => by cases q) 16 0 0 (by omega) (by omega)
    omega
  | n + 1, b, h => by
    have h' := h
    unfold rch at h
    rw [if_neg (by omega), decide_eq_true_iff] at h
    have hb := wbk_src h
    obtain ⟨c, hc, -, hr⟩ := hb.2.2.2.2.2
    have ih := wbk_cnt n c hr
    have hn : wbk A s (n + 1) b = none := by
      cases e : wbk A s (n + 1) b with
      | none => rfl
      | some d =>
        have h1 := wbk_one (n + 1) b d e
        rw [h] at h1
        have h2 := wbk_src e
        have h3 : n + 1 + 1 = d := Option.some.inj h1
        omega
    have := cntf_lt (P := fun l => (wbk A s (n + 1) l).isSome) (Q := fun l => (wbk A s (n + 1 + 1) l).isSome) (v := b) (by show (wbk A s (n + 1) b).isSome = false; rw [hn]; rfl) (by show (wbk A s (n + 1 + 1) b).isSome = true; rw [h]; rfl) (fun u q => by
      cases e : wbk A s (n + 1) u with
      | none => rw [e] at q; cases q
      | some d => rw [wbk_one (n + 1) u d e]; rfl) 16 0 0 (by omega) (by omega)
    omega
theorem wbk_15 (l : Nat) : wbk A s 16 l = wbk A s 15 l := by
  have h16 : ∀ b, rch A s 16 b = false := by
    intro b
    cases e : rch A s 16 b with
    | false => rfl
    | true =>
      exfalso
      have h1 := wbk_cnt 15 b e
      have h2 := cntf_le (fun l => (wbk A s (15 + 1) l).isSome) 16 0 0
      have h3 := cntf_all 16 0 0 (show cntf (fun l => (wbk A s (15 + 1) l).isSome) 16 0 0 = 0 + 16 by omega) 0 (by omega) (by omega)
      cases q : wbk A s (15 + 1) 0 with
      | none => rw [q] at h3; cases h3
      | some d => have := (wbk_src q).2.2.1; omega
  cases e : wbk A s 15 l with
  | some d => exact wbk_one 15 l d e
  | none =>
    cases e2 : wbk A s 16 l with
    | none => rfl
    | some d =>
      exfalso
      have h1 := wbk_src e2
      by_cases q : d ≤ 15
      · have := wbk_mono h1.2.2.2.2.1 (15 - d)
        rw [show d + (15 - d) = 15 by omega, e] at this
        cases this
      · have hd : d = 16 := by omega
        subst hd
        have h2 := h16 l
        unfold rch at h2
        rw [if_neg (by omega), decide_eq_false_iff_not] at h2
        exact h2 e2
/-- the size of the ring from s, less one; 16: none -/
def szc (A : Nat → Nat → Bool) (s : Nat) : Nat → Nat → Nat → Nat
  | 0, _, c => c
  | k + 1, l, c => szc A s k (l + 1) (if A s l = true then min c ((wbk A s 15 l).getD 16) else c)
def szs (A : Nat → Nat → Bool) (s : Nat) : Nat := szc A s (15 - s) (s + 1) 16
theorem szc_ex : ∀ k l c, c ≤ 16 → szc A s k l c ≤ 16 ∧ (szc A s k l c = c ∨ ∃ b, l ≤ b ∧ b < l + k ∧ A s b = true ∧ wbk A s 15 b = some (szc A s k l c))
  | 0, l, c, h => ⟨h, Or.inl rfl⟩
  | k + 1, l, c, h => by
    unfold szc
    have hz : (if A s l = true then min c ((wbk A s 15 l).getD 16) else c) = c ∨ (A s l = true ∧ wbk A s 15 l = some (if A s l = true then min c ((wbk A s 15 l).getD 16) else c)) := by
      by_cases q : A s l = true
      · rw [if_pos q]
        cases w : wbk A s 15 l with
        | none => left; exact Nat.min_eq_left h
        | some d =>
          by_cases q2 : c ≤ d
          · left; exact Nat.min_eq_left q2
          · right; exact ⟨q, congrArg some (Nat.min_eq_right (by omega : d ≤ c)).symm⟩
      · rw [if_neg q]; exact Or.inl rfl
    have hz16 : (if A s l = true then min c ((wbk A s 15 l).getD 16) else c) ≤ 16 := by
      split
      · exact Nat.le_trans (Nat.min_le_left _ _) h
      · exact h
    generalize (if A s l = true then min c ((wbk A s 15 l).getD 16) else c) = z at hz hz16 ⊢
    obtain ⟨i1, i2⟩ := szc_ex k (l + 1) z hz16
    refine ⟨i1, ?_⟩
    rcases i2 with e | ⟨b, h1, h2, h3, h4⟩
    · rw [e]
      rcases hz with e2 | ⟨h1, h2⟩
      · exact Or.inl e2
      · exact Or.inr ⟨l, by omega, by omega, h1, h2⟩
    · exact Or.inr ⟨b, by omega, by omega, h3, h4⟩
theorem szs_le : szs A s ≤ 16 := (szc_ex _ _ 16 (Nat.le_refl _)).1
theorem szs_ex (h : szs A s < 16) : ∃ b, s < b ∧ b < 16 ∧ A s b = true ∧ wbk A s 15 b = some (szs A s) := by
  have := (szc_ex (A := A) (s := s) (15 - s) (s + 1) 16 (Nat.le_refl _)).2
  rcases this with e | ⟨b, h1, h2, h3, h4⟩
  · have : szs A s = 16 := e
    omega
  · have h5 := wbk_src h4
    exact ⟨b, by omega, h5.2.2.2.1, h3, h4⟩
/-- the ring of size n from s -/
def rgn (A : Nat → Nat → Bool) (s n : Nat) : Nat → Nat
  | 0 => s
  | i + 1 => (fnd (fun l => A (rgn A s n i) l && decide (wbk A s 15 l = some (n - 1 - i))) (15 - s) (s + 1)).getD 0
theorem rgn_ex {n : Nat} (hn : n = szs A s + 1) (h : szs A s < 16) : ∀ i, i + 1 < n → ∃ l, fnd (fun l => A (rgn A s n i) l && decide (wbk A s 15 l = some (n - 1 - i))) (15 - s) (s + 1) = some l ∧ rgn A s n (i + 1) = l ∧ s < l ∧ l < 16 ∧ wbk A s 15 l = some (n - 1 - i) := by
  intro i
  induction i with
  | zero =>
    intro hi
    obtain ⟨b, h1, h2, h3, h4⟩ := szs_ex h
    have hP : (fun l => A (rgn A s n 0) l && decide (wbk A s 15 l = some (n - 1 - 0))) b = true := by
      show (A s b && decide (wbk A s 15 b = some (n - 1 - 0))) = true
      rw [h3, h4, show n - 1 - 0 = szs A s by omega]
      simp
    have hs := fnd_some (P := fun l => A (rgn A s n 0) l && decide (wbk A s 15 l = some (n - 1 - 0))) (u := b) hP (15 - s) (s + 1) (by omega) (by omega)
    cases e : fnd (fun l => A (rgn A s n 0) l && decide (wbk A s 15 l = some (n - 1 - 0))) (15 - s) (s + 1) with
    | none => rw [e] at hs; cases hs
    | some l =>
      have hl := fnd_lt e
      have hl2 := hl.2.2
      simp only [Bool.and_eq_true, decide_eq_true_iff] at hl2
      refine ⟨l, rfl, ?_, by omega, by omega, hl2.2⟩
      show (fnd (fun l => A (rgn A s n 0) l && decide (wbk A s 15 l = some (n - 1 - 0))) (15 - s) (s + 1)).getD 0 = l
      rw [e]; rfl
  | succ i ih =>
    intro hi
    obtain ⟨l, -, e2, h1, h2, h3⟩ := ih (by omega)
    obtain ⟨b, hb, hAb, hr⟩ := (wbk_src h3).2.2.2.2.2
    have hb15 : wbk A s 15 b = some (n - 1 - (i + 1)) ∧ s < b := by
      unfold rch at hr
      rw [if_neg (by omega), decide_eq_true_iff] at hr
      have := wbk_mono hr (15 - (n - 1 - i - 1))
      have h5 := szs_le (A := A) (s := s)
      rw [show n - 1 - i - 1 + (15 - (n - 1 - i - 1)) = 15 by omega] at this
      exact ⟨by rw [this]; congr 1, (wbk_src hr).2.2.1⟩
    have hP : (fun l => A (rgn A s n (i + 1)) l && decide (wbk A s 15 l = some (n - 1 - (i + 1)))) b = true := by
      show (A (rgn A s n (i + 1)) b && decide (wbk A s 15 b = some (n - 1 - (i + 1)))) = true
      rw [e2, hAb, hb15.1]
      simp
    have hs := fnd_some (P := fun l => A (rgn A s n (i + 1)) l && decide (wbk A s 15 l = some (n - 1 - (i + 1)))) (u := b) hP (15 - s) (s + 1) (by omega) (by omega)
    cases e : fnd (fun l => A (rgn A s n (i + 1)) l && decide (wbk A s 15 l = some (n - 1 - (i + 1)))) (15 - s) (s + 1) with
    | none => rw [e] at hs; cases hs
    | some l =>
      have hl := fnd_lt e
      have hl2 := hl.2.2
      simp only [Bool.and_eq_true, decide_eq_true_iff] at hl2
      refine ⟨l, rfl, ?_, by omega, by omega, hl2.2⟩
      show (fnd (fun l => A (rgn A s n (i + 1)) l && decide (wbk A s 15 l = some (n - 1 - (i + 1)))) (15 - s) (s + 1)).getD 0 = l
      rw [e]; rfl
/-- the whole search: the size found so far, and the ring -/
def brs (A : Nat → Nat → Bool) : Nat → Nat → Nat → (Nat → Nat) → Nat × (Nat → Nat)
  | 0, _, r, g => (r, g)
  | k + 1, s, r, g => if szs A s < 16 ∧ (r = 0 ∨ szs A s + 1 < r) then brs A k (s + 1) (szs A s + 1) (rgn A s (szs A s + 1)) else brs A k (s + 1) r g
end ZWB
/-! the class's loops -/
def S01 (lo : Nat) (c a k _ : Nat) : Prop := c = 0 ∧ a = lo ∧ k = 1
def S03 (lo : Nat) (c a k _ : Nat) : Prop := c = 0 ∧ a = lo ∧ (k = 1 ∨ k = 2 ∨ k = 3)
/-- the bits of the class's array are A's -/
def BhA (w : Wd) (lo : Nat) (A : Nat → Nat → Bool) : Prop := ∀ l b, l < 16 → b < 16 → hb (zI w 0 lo 0 l) b = A l b
def WBa (v : Wd) (lo : Nat) (A : Nat → Nat → Bool) (s n : Nat) : Prop := ∀ l, l < 16 → zI v 0 lo 1 l = nI (if l = s then 0 else (wbk A s n l).getD 16)
def rbt (A : Nat → Nat → Bool) (s n : Nat) (x : Int32) : Prop := ∀ b, b < 32 → hb x b = rch A s n b
section ZLC
variable {w : Wd} {lo : Nat} {A : Nat → Nat → Bool}
theorem and_nz (x y : Int32) : (x &&& y = 0) ↔ ∀ b, b < 32 → ¬ (hb x b = true ∧ hb y b = true) := by
  constructor
  · intro h b hb' ⟨h1, h2⟩
    have := hb_and hb' x y
    rw [h, hb_zero hb', h1, h2] at this
    cases this
  · intro h
    apply hb_ext
    intro b hb'
    rw [hb_and hb', hb_zero hb']
    have := h b hb'
    cases h1 : hb x b with
    | false => rfl
    | true =>
      cases h2 : hb y b with
      | false => rfl
      | true => exact absurd ⟨h1, h2⟩ this
theorem l_sbk (hA : BhA w lo A) {s n : Nat} (hs : s < 16) (hn : n < 15) (rx : Int32) (hr : rbt A s n rx) : ∀ k f l v x, l + k = 16 → k < f → s < l → Fr (S01 lo) w v → (∀ z, z < 16 → zI v 0 lo 1 z = nI (if z = s then 0 else if z < l then (wbk A s (n + 1) z).getD 16 else (wbk A s n z).getD 16)) → (∀ b, b < 32 → hb x b = (decide (b < l) && rch A s (n + 1) b)) → ∃ v' x', Fr (S01 lo) w v' ∧ WBa v' lo A s (n + 1) ∧ rbt A s (n + 1) x' ∧ fX0_stepBack_l8 f lo rx (nI (n + 1)) x (nI l) v = some (x', v') := by
  intro k
  induction k with
  | zero =>
    intro f l v x h1 h2 h3 hF hW hX
    obtain ⟨f, rfl⟩ : ∃ n', f = n' + 1 := ⟨f - 1, by omega⟩
    refine ⟨v, x, hF, ?_, ?_, ?_⟩
    · intro z hz
      rw [hW z hz, if_pos (show z < l by omega)]
    · intro b hb'
      rw [hX b hb']
      cases e : rch A s (n + 1) b with
      | false => simp
      | true => have := rch_lt hs e; simp; omega
    · show fX0_stepBack_b8 (fX0_stepBack_l8 f) lo rx (nI (n + 1)) x (nI l) v = _
      unfold fX0_stepBack_b8
      rw [if_pos (show (16 : Int32) ≤ nI l from nI_le (a := 16) (by omega) (by omega))]
  | succ k ih =>
    intro f l v x h1 h2 h3 hF hW hX
    obtain ⟨f, rfl⟩ : ∃ n', f = n' + 1 := ⟨f - 1, by omega⟩
    show ∃ v' x', _ ∧ _ ∧ _ ∧ fX0_stepBack_b8 (fX0_stepBack_l8 f) lo rx (nI (n + 1)) x (nI l) v = _
    unfold fX0_stepBack_b8 fX0_stepBack_b56
    have hwl := hW l (by omega)
    rw [if_neg (show ¬ l = s by omega), if_neg (Nat.lt_irrefl l)] at hwl
    rw [if_neg (show ¬ (16 : Int32) ≤ nI l from nI_ge (b := 16) (by omega) (by decide)), ckp_ix _ (by omega) (by decide), ckp_ix _ (by omega) (by decide), ckp_ix _ (by omega) (by decide), cl_nI (by omega), hwl, nI_1, hF.1 0 lo 0 l (by unfold S01; omega)]
    have hany : (zI w 0 lo 0 l &&& rx = 0) ↔ (fnd (fun b => A l b && rch A s n b) 16 0).isSome = false := by
      rw [and_nz]
      constructor
      · intro h
        cases ef : fnd (fun b => A l b && rch A s n b) 16 0 with
        | none => rfl
        | some b =>
          exfalso
          have hb1 := fnd_lt ef
          have hb2 := hb1.2.2
          simp only [Bool.and_eq_true] at hb2
          exact h b (by omega) ⟨by rw [hA l b (by omega) (by omega)]; exact hb2.1, by rw [hr b (by omega)]; exact hb2.2⟩
      · intro h b hb' ⟨g1, g2⟩
        rw [hr b hb'] at g2
        have hb16 := rch_lt hs g2
        rw [hA l b (by omega) hb16] at g1
        have := fnd_some (P := fun b => A l b && rch A s n b) (u := b) (by simp [g1, g2]) 16 0 (by omega) (by omega)
        rw [h] at this; cases this
    have skip : wbk A s (n + 1) l = wbk A s n l → ∃ v' x', Fr (S01 lo) w v' ∧ WBa v' lo A s (n + 1) ∧ rbt A s (n + 1) x' ∧ fX0_stepBack_l8 f lo rx (nI (n + 1)) x (nI (l + 1)) v = some (x', v') := by
      intro hsk
      refine ih f (l + 1) v x (by omega) (by omega) (by omega) hF ?_ ?_
      · intro z hz
        rw [hW z hz]
        by_cases q : z = s
        · rw [if_pos q, if_pos q]
        · rw [if_neg q, if_neg q]
          by_cases q2 : z = l
          · rw [q2, if_neg (Nat.lt_irrefl l), if_pos (Nat.lt_succ_self l), hsk]
          · by_cases q3 : z < l
            · rw [if_pos q3, if_pos (by omega)]
            · rw [if_neg q3, if_neg (by omega)]
      · intro b hb'
        rw [hX b hb']
        by_cases q2 : b = l
        · subst q2
          have hf : rch A s (n + 1) b = false := by
            unfold rch
            rw [if_neg (by omega), decide_eq_false_iff_not, hsk]
            intro q
            have := (wbk_src q).2.1
            omega
          rw [hf]; simp
        · have : decide (b < l) = decide (b < l + 1) := by
            apply decide_eq_decide.mpr; omega
          rw [this]
    cases ew : wbk A s n l with
    | some d =>
      have hd := wbk_src ew
      rw [ew] at skip
      rw [if_neg (show ¬ nI ((some d).getD 16) = 16 by show ¬ nI d = nI 16; rw [i_eq (by omega) (by omega)]; omega)]
      exact skip (wbk_one n l d ew)
    | none =>
      rw [if_pos (show nI ((none : Option Nat).getD 16) = 16 from rfl)]
      have hS := wbk_s (A := A) (s := s) n l
      rw [ew] at hS
      dsimp only at hS
      by_cases ea : zI w 0 lo 0 l &&& rx = 0
      · rw [if_pos ea]
        rw [hany.mp ea, Bool.and_false, if_neg (by decide)] at hS
        exact skip (by rw [hS, ew])
      · rw [if_neg ea, lt_e]
        have hs1 : (fnd (fun b => A l b && rch A s n b) 16 0).isSome = true := by
          cases q : (fnd (fun b => A l b && rch A s n b) 16 0).isSome with
          | true => rfl
          | false => exact absurd (hany.mpr q) ea
        rw [hs1, decide_eq_true h3, decide_eq_true (show l < 16 by omega), if_pos (show (true && true && true) = true from rfl)] at hS
        refine ih f (l + 1) (sI v 0 lo 1 l (nI (n + 1))) (x ||| (1 <<< (nI l &&& 31))) (by omega) (by omega) (by omega) (hF.set _ ⟨rfl, rfl, rfl⟩) ?_ ?_
        · intro z hz
          rw [zI_sI]
          by_cases q2 : z = l
          · rw [if_pos ⟨rfl, rfl, rfl, q2⟩, if_neg (show ¬ z = s by omega), if_pos (show z < l + 1 by omega), q2, hS]
            rfl
          · rw [if_neg (fun y => q2 y.2.2.2), hW z hz]
            by_cases q : z = s
            · rw [if_pos q, if_pos q]
            · rw [if_neg q, if_neg q]
              by_cases q3 : z < l
              · rw [if_pos q3, if_pos (by omega)]
              · rw [if_neg q3, if_neg (by omega)]
        · intro b hb'
          rw [hb_set hb' (by omega), hX b hb']
          by_cases q2 : b = l
          · subst q2
            have hf : rch A s (n + 1) b = true := by
              unfold rch
              rw [if_neg (by omega), decide_eq_true_iff, hS]
            rw [hf]; simp
          · have : decide (b < l) = decide (b < l + 1) := by
              apply decide_eq_decide.mpr; omega
            rw [this, decide_eq_false q2, Bool.or_false]
theorem l_mwb (hA : BhA w lo A) {s : Nat} (hs : s < 16) : ∀ k f n v x, n + 1 + k = 16 → k < f → Fr (S01 lo) w v → WBa v lo A s n → rbt A s n x → ∃ v', Fr (S01 lo) w v' ∧ WBa v' lo A s 15 ∧ fX0_measureWaysBack_l35 f lo (nI s) x (nI (n + 1)) v = some v' := by
  intro k
  induction k with
  | zero =>
    intro f n v x h1 h2 hF hW hX
    obtain ⟨f, rfl⟩ : ∃ n', f = n' + 1 := ⟨f - 1, by omega⟩
    refine ⟨v, hF, by rw [show 15 = n by omega]; exact hW, ?_⟩
    show fX0_measureWaysBack_b35 (fX0_measureWaysBack_l35 f) lo (nI s) x (nI (n + 1)) v = _
    unfold fX0_measureWaysBack_b35 fX0_measureWaysBack_b59
    rw [if_pos (show (16 : Int32) ≤ nI (n + 1) from nI_le (a := 16) (by omega) (by omega))]
  | succ k ih =>
    intro f n v x h1 h2 hF hW hX
    obtain ⟨f, rfl⟩ : ∃ n', f = n' + 1 := ⟨f - 1, by omega⟩
    show ∃ v', _ ∧ _ ∧ fX0_measureWaysBack_b35 (fX0_measureWaysBack_l35 f) lo (nI s) x (nI (n + 1)) v = _
    unfold fX0_measureWaysBack_b35 fX0_measureWaysBack_b59 fX0_stepBack
    rw [if_neg (show ¬ (16 : Int32) ≤ nI (n + 1) from nI_ge (b := 16) (by omega) (by decide))]
    by_cases e : x = 0
    · rw [if_pos e]
      refine ⟨v, hF, ?_, rfl⟩
      have hst := wbk_stop (A := A) (s := s) (n := n) (fun b hb' => by rw [← hX b (by omega), e, hb_zero (by omega)]) (15 - n)
      intro z hz
      have := hst z
      rw [show n + (15 - n) = 15 by omega] at this
      rw [this]
      exact hW z hz
    · rw [if_neg e, nI_1, nI_1]
      obtain ⟨v1, x1, g1, g2, g3, g4⟩ := l_sbk hA hs (show n < 15 by omega) x hX (15 - s) 1000 (s + 1) v 0 (by omega) (by omega) (by omega) hF (fun z hz => by
        rw [hW z hz]
        by_cases q : z = s
        · rw [if_pos q, if_pos q]
        · rw [if_neg q, if_neg q]
          by_cases q2 : z < s + 1
          · rw [if_pos q2]
            have e1 : wbk A s n z = none := by
              cases q3 : wbk A s n z with
              | none => rfl
              | some d => have := (wbk_src q3).2.2.1; omega
            have e2 : wbk A s (n + 1) z = none := by
              cases q3 : wbk A s (n + 1) z with
              | none => rfl
              | some d => have := (wbk_src q3).2.2.1; omega
            rw [e1, e2]
          · rw [if_neg q2]) (fun b hb' => by
        rw [hb_zero hb']
        by_cases q2 : b < s + 1
        · have hf : rch A s (n + 1) b = false := by
            unfold rch
            rw [if_neg (by omega), decide_eq_false_iff_not]
            intro q
            have := (wbk_src q).2.2.1
            omega
          rw [hf]; simp
        · rw [decide_eq_false q2]; rfl)
      rw [g4, bd2_s]
      exact ih f (n + 1) v1 x1 (by omega) (by omega) g1 g2 g3
theorem l_mw2 (hA : BhA w lo A) {s : Nat} (hs : s < 16) : ∀ k f l v, l + k = 16 → k < f → Fr (S01 lo) w v → (∀ z, z < l → zI v 0 lo 1 z = 16) → ∃ v', Fr (S01 lo) w v' ∧ WBa v' lo A s 15 ∧ fX0_measureWaysBack_l2 f lo (nI s) (nI l) v = some v' := by
  intro k
  induction k with
  | zero =>
    intro f l v h1 h2 hF hW
    obtain ⟨f, rfl⟩ : ∃ n', f = n' + 1 := ⟨f - 1, by omega⟩
    show ∃ v', _ ∧ _ ∧ fX0_measureWaysBack_b2 (fX0_measureWaysBack_l2 f) lo (nI s) (nI l) v = _
    unfold fX0_measureWaysBack_b2
    rw [if_pos (show (16 : Int32) ≤ nI l from nI_le (a := 16) (by omega) (by omega)), ckp_ix _ hs (by decide), cl_nI (by omega), lt_e]
    refine l_mwb hA hs 15 1000 0 (sI v 0 lo 1 s 0) _ rfl (by decide) (hF.set _ ⟨rfl, rfl, rfl⟩) ?_ ?_
    · intro z hz
      rw [zI_sI]
      by_cases q : z = s
      · rw [if_pos ⟨rfl, rfl, rfl, q⟩, if_pos q]; rfl
      · rw [if_neg (fun y => q y.2.2.2), if_neg q]
        exact hW z (by omega)
    · intro b hb'
      rw [hb_one hb' (by omega)]
      unfold rch
      rw [if_pos rfl]
  | succ k ih =>
    intro f l v h1 h2 hF hW
    obtain ⟨f, rfl⟩ : ∃ n', f = n' + 1 := ⟨f - 1, by omega⟩
    show ∃ v', _ ∧ _ ∧ fX0_measureWaysBack_b2 (fX0_measureWaysBack_l2 f) lo (nI s) (nI l) v = _
    unfold fX0_measureWaysBack_b2
    rw [if_neg (show ¬ (16 : Int32) ≤ nI l from nI_ge (b := 16) (by omega) (by decide)), ckp_ix _ (show l < 16 by omega) (by decide), cl_nI (by omega), lt_e, nI_1]
    refine ih f (l + 1) _ (by omega) (by omega) (hF.set _ ⟨rfl, rfl, rfl⟩) (fun z hz => ?_)
    rw [zI_sI]
    by_cases q : z = l
    · rw [if_pos ⟨rfl, rfl, rfl, q⟩]
    · rw [if_neg (fun y => q y.2.2.2)]; exact hW z (by omega)
theorem l_szc (hA : BhA w lo A) {s : Nat} (hs : s < 16) (hW : WBa w lo A s 15) : ∀ k f l c, l + k = 16 → k < f → s < l → c ≤ 16 → fX0_sizeOfRingFrom_l7 w f lo (nI s) (nI c) (nI l) = some (nI (szc A s k l c + 1)) := by
  intro k
  induction k with
  | zero =>
    intro f l c h1 h2 h3 h4
    obtain ⟨f, rfl⟩ : ∃ n', f = n' + 1 := ⟨f - 1, by omega⟩
    show fX0_sizeOfRingFrom_b7 w (fX0_sizeOfRingFrom_l7 w f) lo (nI s) (nI c) (nI l) = _
    unfold fX0_sizeOfRingFrom_b7
    rw [if_pos (show (16 : Int32) ≤ nI l from nI_le (a := 16) (by omega) (by omega)), nI_1]
    rfl
  | succ k ih =>
    intro f l c h1 h2 h3 h4
    obtain ⟨f, rfl⟩ : ∃ n', f = n' + 1 := ⟨f - 1, by omega⟩
    show fX0_sizeOfRingFrom_b7 w (fX0_sizeOfRingFrom_l7 w f) lo (nI s) (nI c) (nI l) = _
    unfold fX0_sizeOfRingFrom_b7 fX0_sizeOfRingFrom_b37 szc
    rw [if_neg (show ¬ (16 : Int32) ≤ nI l from nI_ge (b := 16) (by omega) (by decide)), ckp_ix _ hs (by decide), ckp_ix _ (show l < 16 by omega) (by decide), cl_nI (by omega), cl_nI (by omega), e_hasBit, bd_s, hA s l hs (by omega), nI_1, hW l (by omega), if_neg (show ¬ l = s by omega)]
    cases A s l with
    | false =>
      rw [bi_f, if_pos rfl, if_neg (by decide)]
      exact ih f (l + 1) c (by omega) (by omega) (by omega) h4
    | true =>
      have hle : (wbk A s 15 l).getD 16 ≤ 16 := by
        cases e : wbk A s 15 l with
        | none => exact Nat.le_refl _
        | some d => have := (wbk_src e).2.1; show d ≤ 16; omega
      rw [bi_t, if_neg (show ¬ (1 : Int32) = 0 by decide), if_pos rfl]
      unfold fJ9_min_7cf53 fJ9_min_7cf53_b10
      by_cases e : (wbk A s 15 l).getD 16 < c
      · rw [if_pos (by rw [i_lt (by omega) (by omega)]; exact e), bd_s, Nat.min_eq_right (by omega)]
        exact ih f (l + 1) _ (by omega) (by omega) (by omega) hle
      · rw [if_neg (by rw [i_lt (by omega) (by omega)]; exact e), bd_s, Nat.min_eq_left (by omega)]
        exact ih f (l + 1) c (by omega) (by omega) (by omega) h4
theorem l_lwb (hA : BhA w lo A) {fr st : Nat} (hf : fr < 16) (hst : st < 16) (V : Nat → Nat) (hV : ∀ l, l < 16 → zI w 0 lo 1 l = nI (V l) ∧ V l ≤ 16) : ∀ k f l, l + k = 16 → k < f → fX0_lowestBehind_l2 w f lo (nI fr) (nI st) (nI l) = some (nI ((fnd (fun l => A fr l && decide (V l = st)) k l).getD fr)) := by
  intro k
  induction k with
  | zero =>
    intro f l h1 h2
    obtain ⟨f, rfl⟩ : ∃ n', f = n' + 1 := ⟨f - 1, by omega⟩
    show fX0_lowestBehind_b2 w (fX0_lowestBehind_l2 w f) lo (nI fr) (nI st) (nI l) = _
    unfold fX0_lowestBehind_b2
    rw [if_pos (show (16 : Int32) ≤ nI l from nI_le (a := 16) (by omega) (by omega))]
    rfl
  | succ k ih =>
    intro f l h1 h2
    obtain ⟨f, rfl⟩ : ∃ n', f = n' + 1 := ⟨f - 1, by omega⟩
    show fX0_lowestBehind_b2 w (fX0_lowestBehind_l2 w f) lo (nI fr) (nI st) (nI l) = _
    unfold fX0_lowestBehind_b2 fX0_lowestBehind_b33 fnd
    have hv := hV l (by omega)
    rw [if_neg (show ¬ (16 : Int32) ≤ nI l from nI_ge (b := 16) (by omega) (by decide)), ckp_ix _ hf (by decide), ckp_ix _ (show l < 16 by omega) (by decide), cl_nI (by omega), cl_nI (by omega), e_hasBit, bd_s, hA fr l hf (by omega), nI_1, hv.1]
    cases A fr l with
    | false =>
      rw [bi_f, if_pos rfl, if_neg (by simp)]
      exact ih f (l + 1) (by omega) (by omega)
    | true =>
      rw [bi_t, if_neg (show ¬ (1 : Int32) = 0 by decide)]
      by_cases e : V l = st
      · rw [if_pos (by rw [e]), if_pos (by simp [e])]; rfl
      · rw [if_neg (by rw [i_eq (by omega) (by omega)]; exact e), if_neg (by simp [e])]
        exact ih f (l + 1) (by omega) (by omega)
theorem l_kpr (hA : BhA w lo A) {s n : Nat} (hs : s < 16) (hn : n = szs A s + 1) (hz : szs A s < 16) : ∀ k f i v, i + 1 + k = n → k < f → Fr (S03 lo) w v → WBa v lo A s 15 → (∀ j, j ≤ i → zI v 0 lo 2 j = nI (rgn A s n j)) → ∃ v', Fr (S03 lo) w v' ∧ (∀ j, j < n → zI v' 0 lo 2 j = nI (rgn A s n j)) ∧ zI v' 0 lo 3 0 = nI n ∧ fX0_keepRing_l12 f lo (nI n) (nI (rgn A s n i)) (nI (i + 1)) v = some v' := by
  intro k
  induction k with
  | zero =>
    intro f i v h1 h2 hF hW hG
    obtain ⟨f, rfl⟩ : ∃ n', f = n' + 1 := ⟨f - 1, by omega⟩
    show ∃ v', _ ∧ _ ∧ _ ∧ fX0_keepRing_b12 (fX0_keepRing_l12 f) lo (nI n) (nI (rgn A s n i)) (nI (i + 1)) v = _
    unfold fX0_keepRing_b12
    rw [if_pos (by rw [i_le (by omega) (by omega)]; omega), lt_e]
    refine ⟨_, hF.set _ ⟨rfl, rfl, Or.inr (Or.inr rfl)⟩, fun j hj => ?_, zI_sIs _ _ _ _ _ _, rfl⟩
    rw [zI_sIn (by omega)]
    exact hG j (by omega)
  | succ k ih =>
    intro f i v h1 h2 hF hW hG
    obtain ⟨f, rfl⟩ : ∃ n', f = n' + 1 := ⟨f - 1, by omega⟩
    show ∃ v', _ ∧ _ ∧ _ ∧ fX0_keepRing_b12 (fX0_keepRing_l12 f) lo (nI n) (nI (rgn A s n i)) (nI (i + 1)) v = _
    unfold fX0_keepRing_b12
    obtain ⟨l, e1, e2, h3, h4, h5⟩ := rgn_ex hn hz i (by omega)
    have hfr : rgn A s n i < 16 := by
      cases i with
      | zero => exact hs
      | succ i =>
        obtain ⟨l', -, e2', -, h4', -⟩ := rgn_ex hn hz i (by omega)
        rw [e2']; exact h4'
    have hA' : BhA v lo A := fun l b hl hb' => by rw [hF.1 0 lo 0 l (by unfold S03; omega)]; exact hA l b hl hb'
    have hlb : fX0_lowestBehind lo (nI (rgn A s n i)) (nI n - nI (i + 1)) v = some (nI l) := by
      rw [pk_sub (by omega)]
      have := l_lwb (w := v) hA' hfr (show n - (i + 1) < 16 by omega) (fun l => if l = s then 0 else (wbk A s 15 l).getD 16) (fun l hl => ⟨hW l hl, by
        show (if l = s then 0 else (wbk A s 15 l).getD 16) ≤ 16
        split
        · omega
        · cases e : wbk A s 15 l with
          | none => exact Nat.le_refl _
          | some d => have := (wbk_src e).2.1; show d ≤ 16; omega⟩) 16 1000 0 rfl (by decide)
      refine Eq.trans this ?_
      have hsk : fnd (fun l => A (rgn A s n i) l && decide ((if l = s then 0 else (wbk A s 15 l).getD 16) = n - (i + 1))) 16 0 = some l := by
        rw [fnd_16 (s := s) (by omega) (fun u hu => by
          by_cases q : u = s
          · rw [if_pos q, decide_eq_false (show ¬ 0 = n - (i + 1) by omega)]; simp
          · have : wbk A s 15 u = none := by
              cases e : wbk A s 15 u with
              | none => rfl
              | some d => have := (wbk_src e).2.2.1; omega
            rw [if_neg q, this]
            rw [decide_eq_false (show ¬ (none : Option Nat).getD 16 = n - (i + 1) by show ¬ 16 = _; omega)]; simp)]
        rw [← e1]
        apply fnd_cong
        intro u h6 h7
        rw [if_neg (show ¬ u = s by omega)]
        congr 1
        apply decide_eq_decide.mpr
        cases e : wbk A s 15 u with
        | none =>
          constructor
          · intro q; have : 16 = n - (i + 1) := q; omega
          · intro q; cases q
        | some d =>
          constructor
          · intro q; have : d = n - (i + 1) := q; rw [this]; congr 1; omega
          · intro q; show d = _; have := Option.some.inj q; omega
      rw [hsk]; rfl
    rw [if_neg (by rw [i_le (by omega) (by omega)]; omega), hlb, bd_s, ckp_ix _ (by omega) (by decide), cl_nI (by omega), lt_e, nI_1, ← e2]
    refine ih f (i + 1) _ (by omega) (by omega) (hF.set _ ⟨rfl, rfl, Or.inr (Or.inl rfl)⟩) (fun z hz' => ?_) (fun j hj => ?_)
    · rw [zI_sIn (by omega)]; exact hW z hz'
    · rw [zI_sI]
      by_cases q : j = i + 1
      · rw [if_pos ⟨rfl, rfl, rfl, q⟩, q]
      · rw [if_neg (fun y => q y.2.2.2)]; exact hG j (by omega)
/-- what the class holds of the search -/
def RgR (v : Wd) (lo : Nat) (r : Nat) (g : Nat → Nat) : Prop := r ≤ 16 ∧ zI v 0 lo 3 0 = nI r ∧ ∀ j, j < r → zI v 0 lo 2 j = nI (g j)
theorem l_fr (hA : BhA w lo A) : ∀ k f s v r g, s + k = 16 → k < f → Fr (S03 lo) w v → RgR v lo r g → ∃ v', Fr (S03 lo) w v' ∧ RgR v' lo (brs A k s r g).1 (brs A k s r g).2 ∧ fX0_findRing_l7 f lo (nI s) v = some v' := by
  intro k
  induction k with
  | zero =>
    intro f s v r g h1 h2 hF hG
    obtain ⟨f, rfl⟩ : ∃ n', f = n' + 1 := ⟨f - 1, by omega⟩
    refine ⟨v, hF, hG, ?_⟩
    show fX0_findRing_b7 (fX0_findRing_l7 f) lo (nI s) v = _
    unfold fX0_findRing_b7
    rw [if_pos (show (16 : Int32) ≤ nI s from nI_le (a := 16) (by omega) (by omega))]
  | succ k ih =>
    intro f s v r g h1 h2 hF hG
    obtain ⟨f, rfl⟩ : ∃ n', f = n' + 1 := ⟨f - 1, by omega⟩
    show ∃ v', _ ∧ _ ∧ fX0_findRing_b7 (fX0_findRing_l7 f) lo (nI s) v = _
    have hAv : BhA v lo A := fun l b hl hb' => by rw [hF.1 0 lo 0 l (by unfold S03; omega)]; exact hA l b hl hb'
    obtain ⟨v1, g1, g2, g3⟩ := l_mw2 hAv (show s < 16 by omega) 16 1000 0 v rfl (by decide) (Fr.refl v) (fun z hz => by omega)
    have hF1 : Fr (S03 lo) w v1 := hF.trans (g1.mono (fun c a k j q => ⟨q.1, q.2.1, Or.inl q.2.2⟩))
    have hA1 : BhA v1 lo A := fun l b hl hb' => by rw [hF1.1 0 lo 0 l (by unfold S03; omega)]; exact hA l b hl hb'
    have hG1 : RgR v1 lo r g := ⟨hG.1, by rw [g1.1 0 lo 3 0 (by unfold S01; omega)]; exact hG.2.1, fun j hj => by rw [g1.1 0 lo 2 j (by unfold S01; omega)]; exact hG.2.2 j hj⟩
    have hsz : fX0_sizeOfRingFrom lo (nI s) v1 = some (nI (szs A s + 1)) := by
      have := l_szc hA1 (show s < 16 by omega) g2 (15 - s) 1000 (s + 1) 16 (by omega) (by omega) (by omega) (Nat.le_refl _)
      unfold fX0_sizeOfRingFrom
      rw [nI_1]
      exact this
    have e2 : fX0_measureWaysBack lo (nI s) v = some v1 := g3
    have hle := szs_le (A := A) (s := s)
    unfold fX0_findRing_b7 fX0_findRing_b45 fX0_findRing_b51
    rw [if_neg (show ¬ (16 : Int32) ≤ nI s from nI_ge (b := 16) (by omega) (by decide)), e2, bd_s, hsz, bd_s, hG1.2.1, nI_1]
    have hkeep : szs A s < 16 ∧ (r = 0 ∨ szs A s + 1 < r) → ∃ v', Fr (S03 lo) w v' ∧ RgR v' lo (brs A (k + 1) s r g).1 (brs A (k + 1) s r g).2 ∧ bd (fX0_keepRing lo (nI s) (nI (szs A s + 1)) v1) (fun w_2 => fX0_findRing_l7 f lo (nI (s + 1)) w_2) = some v' := by
      intro hc
      unfold brs fX0_keepRing
      rw [if_pos hc, show (0 : Int32) = nI 0 from rfl, ckp_ix _ (by decide) (by decide), cl_nI (by decide), lt_e]
      obtain ⟨v2, k1, k2, k3, k4⟩ := l_kpr hA (show s < 16 by omega) rfl hc.1 (szs A s) 1000 0 (sI v1 0 lo 2 0 (nI s)) (by omega) (by omega) (hF1.set _ ⟨rfl, rfl, Or.inr (Or.inl rfl)⟩) (fun z hz => by rw [zI_sIn (by omega)]; exact g2 z hz) (fun j hj => by
        have : j = 0 := by omega
        subst this
        rw [zI_sIs]; rfl)
      have k4' : fX0_keepRing_l12 1000 lo (nI (szs A s + 1)) (nI s) 1 (sI v1 0 lo 2 0 (nI s)) = some v2 := k4
      rw [k4', bd_s]
      exact ih f (s + 1) v2 _ _ (by omega) (by omega) k1 ⟨by omega, k3, k2⟩
    have hskip : ¬ (szs A s < 16 ∧ (r = 0 ∨ szs A s + 1 < r)) → ∃ v', Fr (S03 lo) w v' ∧ RgR v' lo (brs A (k + 1) s r g).1 (brs A (k + 1) s r g).2 ∧ fX0_findRing_l7 f lo (nI (s + 1)) v1 = some v' := by
      intro hc
      unfold brs
      rw [if_neg hc]
      exact ih f (s + 1) v1 r g (by omega) (by omega) hF1 hG1
    have hr16 := hG.1
    by_cases c1 : szs A s < 16
    · rw [if_neg (show ¬ (16 : Int32) < nI (szs A s + 1) from nI_nlt (a := 16) (by omega) (by decide))]
      by_cases c2 : r = 0
      · rw [if_pos (by rw [c2]; rfl)]
        exact hkeep ⟨c1, Or.inl c2⟩
      · rw [if_neg (nI_ne0 (by omega) (by omega))]
        by_cases c3 : r ≤ szs A s + 1
        · rw [if_pos (by rw [i_le (by omega) (by omega)]; exact c3)]
          exact hskip (by omega)
        · rw [if_neg (by rw [i_le (by omega) (by omega)]; exact c3)]
          exact hkeep ⟨c1, Or.inr (by omega)⟩
    · rw [if_pos (show (16 : Int32) < nI (szs A s + 1) from nI_lt (a := 16) (by omega) (by omega))]
      exact hskip (by omega)
theorem e_findRing (hA : BhA w lo A) : ∃ v', Fr (S03 lo) w v' ∧ RgR v' lo (brs A 16 0 0 (fun _ => 0)).1 (brs A 16 0 0 (fun _ => 0)).2 ∧ fX0_findRing lo w = some v' := by
  unfold fX0_findRing
  rw [lt_e]
  have hF : Fr (S03 lo) w (sI w 0 lo 3 0 0) := (Fr.refl w).set _ ⟨rfl, rfl, Or.inr (Or.inr rfl)⟩
  exact l_fr hA 16 1000 0 _ 0 (fun _ => 0) rfl (by decide) hF ⟨by omega, zI_sIs _ _ _ _ _ _, fun j hj => by omega⟩
end ZLC
