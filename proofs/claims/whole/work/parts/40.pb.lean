/-! PURE LAYER: basics -/
theorem lt_e {α β : Type} (a : α) (f : α → β) : lt' a f = f a := rfl
theorem bd_s {α β : Type} (a : α) (f : α → Option β) : bd (some a) f = f a := rfl
theorem bd2_s {α β : Type} (a : α) (w : Wd) (f : α → Wd → Option β) : bd2 (some (a, w)) f = f a w := rfl
theorem nn_s {α : Type} (a : Nat) (f : Nat → Option α) : nn (some a) f = f a := rfl
theorem zI_sI (w : Wd) (c a k j : Nat) (v : Int32) (c' a' k' j' : Nat) : zI (sI w c a k j v) c' a' k' j' = if c' = c ∧ a' = a ∧ k' = k ∧ j' = j then v else zI w c' a' k' j' := rfl
theorem zR_sI (w : Wd) (c a k j : Nat) (v : Int32) : zR (sI w c a k j v) = zR w := rfl
theorem zL_sI (w : Wd) (c a k j : Nat) (v : Int32) : zL (sI w c a k j v) = zL w := rfl
theorem zS_sI (w : Wd) (c a k j : Nat) (v : Int32) : zS (sI w c a k j v) = zS w := rfl
theorem zA_sI (w : Wd) (c a k j : Nat) (v : Int32) : zA (sI w c a k j v) = zA w := rfl
theorem zI_sR (w : Wd) (c a k j : Nat) (v : Option Nat) : zI (sR w c a k j v) = zI w := rfl
theorem zR_sR (w : Wd) (c a k j : Nat) (v : Option Nat) (c' a' k' j' : Nat) : zR (sR w c a k j v) c' a' k' j' = if c' = c ∧ a' = a ∧ k' = k ∧ j' = j then v else zR w c' a' k' j' := rfl
theorem zL_sR (w : Wd) (c a k j : Nat) (v : Option Nat) : zL (sR w c a k j v) = zL w := rfl
theorem zS_sR (w : Wd) (c a k j : Nat) (v : Option Nat) : zS (sR w c a k j v) = zS w := rfl
theorem ix_nI {t N : Nat} (h : t < N) (hN : N < 2147483648) : ix (nI t) N = true := by
  unfold ix
  exact decide_eq_true (vp_in_nI h hN)
theorem ckp_ix {α : Type} {t N : Nat} (X : Option α) (h : t < N) (hN : N < 2147483648) : ckp (ix (nI t) N = true) X = X := ckp_t X (ix_nI h hN)
theorem ckp_0 {α : Type} (X : Option α) : ckp ((0 : Int32) = 0 ∨ (0 : Int32) = 1) X = X := rfl
theorem ckp_1 {α : Type} (X : Option α) : ckp ((1 : Int32) = 0 ∨ (1 : Int32) = 1) X = X := rfl
theorem cl_nI {t : Nat} (h : t < 2147483648) : (nI t).toNatClampNeg = t := nI_clamp h
theorem i_lt {a b : Nat} (ha : a < 2147483648) (hb : b < 2147483648) : (nI a < nI b) = (a < b) := propext (nI_ltI ha hb)
theorem i_le {a b : Nat} (ha : a < 2147483648) (hb : b < 2147483648) : (nI a ≤ nI b) = (a ≤ b) := propext (nI_leI ha hb)
theorem i_eq {a b : Nat} (ha : a < 2147483648) (hb : b < 2147483648) : (nI a = nI b) = (a = b) := propext (nI_eq ha hb)
theorem m1_ne {a : Nat} (ha : a < 2147483648) : nI a ≠ -1 := fun h => by
  have := congrArg Int32.toInt h
  rw [nI_toInt ha] at this
  have h2 : (-1 : Int32).toInt = -1 := by decide
  omega
theorem i_eqm1 {a : Nat} (ha : a < 2147483648) : (nI a = -1) = False := eq_false (m1_ne ha)
theorem m1_lt {a : Nat} (ha : a < 2147483648) : ((-1 : Int32) < nI a) = True := by
  apply eq_true
  rw [Int32.lt_iff_toInt_lt, nI_toInt ha]
  have h2 : (-1 : Int32).toInt = -1 := by decide
  omega
theorem nI_lt_m1 {a : Nat} (ha : a < 2147483648) : (nI a < (-1 : Int32)) = False := by
  apply eq_false
  rw [Int32.lt_iff_toInt_lt, nI_toInt ha]
  have h2 : (-1 : Int32).toInt = -1 := by decide
  omega
theorem nI_le_m1 {a : Nat} (ha : a < 2147483648) : (nI a ≤ (-1 : Int32)) = False := by
  apply eq_false
  rw [Int32.le_iff_toInt_le, nI_toInt ha]
  have h2 : (-1 : Int32).toInt = -1 := by decide
  omega
theorem q0 : (0 : Int32) = nI 0 := rfl
theorem q1 : (1 : Int32) = nI 1 := rfl
theorem q2 : (2 : Int32) = nI 2 := rfl
theorem q3 : (3 : Int32) = nI 3 := rfl
theorem q4 : (4 : Int32) = nI 4 := rfl
theorem q8 : (8 : Int32) = nI 8 := rfl
theorem q12 : (12 : Int32) = nI 12 := rfl
theorem q16 : (16 : Int32) = nI 16 := rfl
theorem q24 : (24 : Int32) = nI 24 := rfl
/-- a boolean as an int -/
def bi (b : Bool) : Int32 := if b then 1 else 0
theorem bi_t : bi true = 1 := rfl
theorem bi_f : bi false = 0 := rfl
theorem ckp_bi {α : Type} (b : Bool) (X : Option α) : ckp ((bi b : Int32) = 0 ∨ (bi b : Int32) = 1) X = X := by cases b <;> rfl
theorem bi_0 (b : Bool) : (bi b = 0) = (b = false) := by cases b <;> decide
theorem bi_1 (b : Bool) : (bi b = 1) = (b = true) := by cases b <;> decide
/-- an int seen as an index below N, or outside -/
def inn (x : Int32) (N : Nat) : Bool := decide (0 ≤ x.toInt ∧ x.toInt < N)
theorem inn_nI {t N : Nat} (h : t < 2147483648) : inn (nI t) N = decide (t < N) := by
  unfold inn
  rw [nI_toInt h]
  congr 1
  apply propext
  constructor
  · intro q; omega
  · intro q; omega
theorem inn_cases {x : Int32} {N : Nat} (hN : N < 2147483648) : (inn x N = true ∧ ∃ t, t < N ∧ x = nI t) ∨ (inn x N = false ∧ (x < 0 ∨ nI N ≤ x)) := by
  by_cases h : inn x N = true
  · left
    refine ⟨h, x.toInt.toNat, ?_, ?_⟩
    · have := of_decide_eq_true h; omega
    · have := of_decide_eq_true h
      have h2 : nI x.toInt.toNat = x := by
        apply Int32.toInt.inj
        rw [nI_toInt (by omega)]
        omega
      exact h2.symm
  · right
    have h' : inn x N = false := by cases q : inn x N <;> simp_all
    refine ⟨h', ?_⟩
    have := of_decide_eq_false h'
    rw [Int32.lt_iff_toInt_lt, Int32.le_iff_toInt_le, nI_toInt hN]
    have h0 : (0 : Int32).toInt = 0 := by decide
    omega
/-- small methods of the class -/
theorem e_isThread (x : Int32) (w : Wd) : fX5_isThread x w = some (bi (inn x 24)) := by
  unfold fX5_isThread fX5_isThread_b14 fX5_isThread_b15
  rcases inn_cases (x := x) (N := 24) (by decide) with ⟨h, t, ht, rfl⟩ | ⟨h, h1⟩
  · rw [h]
    simp (disch := omega) only [q0, q24, i_lt, i_le]
    rw [if_neg (by omega), if_neg (by omega)]
    rfl
  · rw [h]
    by_cases a : x < 0
    · rw [if_pos a]; rfl
    · rw [if_neg a, if_pos (show (24 : Int32) ≤ x from h1.resolve_left a)]; rfl
theorem e_isLock (x : Int32) (w : Wd) : fX5_isLock x w = some (bi (inn x 16)) := by
  unfold fX5_isLock fX5_isLock_b14 fX5_isLock_b15
  rcases inn_cases (x := x) (N := 16) (by decide) with ⟨h, t, ht, rfl⟩ | ⟨h, h1⟩
  · rw [h]
    simp (disch := omega) only [q0, q16, i_lt, i_le]
    rw [if_neg (by omega), if_neg (by omega)]
    rfl
  · rw [h]
    by_cases a : x < 0
    · rw [if_pos a]; rfl
    · rw [if_neg a, if_pos (show (16 : Int32) ≤ x from h1.resolve_left a)]; rfl
theorem e_rowOf (a : Nat) (x : Int32) (w : Wd) : fX1_rowOf a x w = some (if inn x 24 then zR w 1 a 1 x.toNatClampNeg else none) := by
  unfold fX1_rowOf fX1_rowOf_b17
  rw [e_isThread, bd_s]
  rcases inn_cases (x := x) (N := 24) (by decide) with ⟨h, t, ht, rfl⟩ | ⟨h, h1⟩
  · rw [h, bi_t, if_neg (by decide), ckp_ix _ ht (by decide), lt_e]
    rfl
  · rw [h]; rfl
theorem e_holderOf (a : Nat) (x : Int32) (w : Wd) : fX1_holderOf a x w = some (if inn x 16 then zI w 1 a 2 x.toNatClampNeg else -1) := by
  unfold fX1_holderOf fX1_holderOf_b17
  rw [e_isLock, bd_s]
  rcases inn_cases (x := x) (N := 16) (by decide) with ⟨h, t, ht, rfl⟩ | ⟨h, h1⟩
  · rw [h, bi_t, if_neg (by decide), ckp_ix _ ht (by decide)]
    rfl
  · rw [h]; rfl
theorem i_nlt {x y : Int32} (h : y ≤ x) : ¬ x < y := by
  rw [Int32.lt_iff_toInt_lt]
  rw [Int32.le_iff_toInt_le] at h
  omega
theorem e_pictureAt (a : Nat) (x : Int32) (w : Wd) {n : Nat} (hn : zI w 5 a 3 0 = nI n) (h8 : n ≤ 8) : fX5_pictureAt a x w = some (if inn x n then zR w 5 a 1 x.toNatClampNeg else none) := by
  unfold fX5_pictureAt fX5_pictureAt_b12 fX5_pictureAt_b22
  rw [hn]
  rcases inn_cases (x := x) (N := n) (by omega) with ⟨h, t, ht, rfl⟩ | ⟨h, h1⟩
  · rw [h]
    simp (disch := omega) only [q0, i_lt, i_le]
    rw [if_neg (by omega), if_pos ht, ckp_ix _ (show t < 8 by omega) (by decide)]
    rfl
  · rw [h]
    by_cases a : x < 0
    · rw [if_pos a]; rfl
    · rw [if_neg a, if_neg (i_nlt (h1.resolve_left a))]; rfl
theorem nI_s1 {n : Nat} (h : 0 < n) : nI n - 1 = nI (n - 1) := by
  obtain ⟨k, rfl⟩ : ∃ k, n = k + 1 := ⟨n - 1, by omega⟩
  exact nI_pred k
/-! the reference's small methods -/
theorem e_lies (x : Int32) (w : Wd) {n : Nat} (hn : n < 2147483648) : fX6_lies x 0 (nI n - 1) w = some (bi (inn x n)) := by
  unfold fX6_lies fX6_lies_b14 fX6_lies_b15
  rcases inn_cases (x := x) (N := n) hn with ⟨h, t, ht, rfl⟩ | ⟨h, h1⟩
  · rw [h, nI_s1 (n := n) (by omega)]
    simp (disch := omega) only [q0, i_lt]
    rw [if_neg (by omega), if_neg (by omega)]
    rfl
  · rw [h]
    by_cases a : x < 0
    · rw [if_pos a]; rfl
    · rw [if_neg a]
      by_cases h0 : n = 0
      · subst h0
        rw [show nI 0 - 1 = (-1 : Int32) from rfl]
        have : (-1 : Int32) < x := by
          rw [Int32.lt_iff_toInt_lt] at a ⊢
          have e0 : (0 : Int32).toInt = 0 := by decide
          have e1 : (-1 : Int32).toInt = -1 := by decide
          omega
        rw [if_pos this]; rfl
      · have h2 := h1.resolve_left a
        have : nI n - 1 < x := by
          rw [nI_s1 (n := n) (by omega)]
          rw [Int32.lt_iff_toInt_lt, nI_toInt (by omega)]
          rw [Int32.le_iff_toInt_le, nI_toInt hn] at h2
          omega
        rw [if_pos this]; rfl
theorem e_lies23 (x : Int32) (w : Wd) : fX6_lies x 0 23 w = some (bi (inn x 24)) := e_lies x w (n := 24) (by decide)
theorem e_lies15 (x : Int32) (w : Wd) : fX6_lies x 0 15 w = some (bi (inn x 16)) := e_lies x w (n := 16) (by decide)
theorem e_isPicture (a : Nat) (x : Int32) (w : Wd) {n : Nat} (hn : zI w 6 a 2 0 = nI n) (h8 : n ≤ 8) : fX6_isPicture a x w = some (bi (inn x n)) := by
  unfold fX6_isPicture
  rw [hn, e_lies x w (by omega), bd_s, ckp_bi]
theorem i_24 (p t : Nat) : 24 * nI p + nI t = nI (24 * p + t) := by rw [q24, pk_mul, nI_add]
theorem e_isThere (a : Nat) (x y : Int32) (w : Wd) {n : Nat} (hn : zI w 6 a 2 0 = nI n) (h8 : n ≤ 8) : fX6_isThere a x y w = some (bi (inn x n && (inn y 24 && !decide (zI w 6 a 7 (24 * x.toNatClampNeg + y.toNatClampNeg) = 0)))) := by
  unfold fX6_isThere fX6_isThere_b36 fX6_isThere_b37
  rw [e_isPicture a x w hn h8, bd_s]
  rcases inn_cases (x := x) (N := n) (by omega) with ⟨h, p, hp, rfl⟩ | ⟨h, h1⟩
  · rw [h, bi_t, if_neg (by decide), e_lies23, bd_s]
    rcases inn_cases (x := y) (N := 24) (by decide) with ⟨h2, t, ht, rfl⟩ | ⟨h2, h3⟩
    · rw [h2, bi_t, if_neg (by decide), i_24, ckp_ix _ (by omega) (by decide), cl_nI (by omega), cl_nI (by omega), cl_nI (by omega)]
      by_cases e : zI w 6 a 7 (24 * p + t) = 0
      · rw [if_pos e, e]; rfl
      · rw [if_neg e]; simp only [e]; rfl
    · rw [h2]; rfl
  · rw [h]; rfl
