/-! PURE LAYER: the text of a picture, as both sides read it -/
def isC (tx : Nat → Nat) (n c i : Nat) : Bool := decide (i < n ∧ tx i = c)
def inR (tx : Nat → Nat) (n lo hi i : Nat) : Bool := decide (i < n ∧ lo ≤ tx i ∧ tx i ≤ hi)
def chC (tx : Nat → Nat) (n i : Nat) : Int32 := if i < n then nI (tx i) else -1
def chM (tx : Nat → Nat) (n i : Nat) : Int32 := if i < n then nI (tx i) else 0
def sEnd (tx : Nat → Nat) (n i : Nat) : Bool := decide (n ≤ i ∨ tx i = 59)
def pb {α β : Type} (x : Nat × Option α) (f : Nat → α → Nat × Option β) : Nat × Option β := match x with
  | (j, none) => (j, none)
  | (j, some a) => f j a
theorem pb_n {α β : Type} (j : Nat) (f : Nat → α → Nat × Option β) : pb (j, none) f = (j, none) := rfl
theorem pb_s {α β : Type} (j : Nat) (a : α) (f : Nat → α → Nat × Option β) : pb (j, some a) f = f j a := rfl
def nfin (tx : Nat → Nat) (n mx st i v : Nat) (b : Bool) : Nat × Option Nat := if b = false ∨ inR tx n 48 57 i = true then (i, none) else if mx < v then (st, none) else (i, some v)
def nml (tx : Nat → Nat) (n mx st : Nat) : Nat → Nat → Nat → Bool → Nat × Option Nat
  | 0, i, v, b => nfin tx n mx st i v b
  | k + 1, i, v, b => if inR tx n 48 57 i = true then nml tx n mx st k (i + 1) (v * 10 + tx i - 48) true else nfin tx n mx st i v b
def nmb (tx : Nat → Nat) (n d mx i : Nat) : Nat × Option Nat := nml tx n mx i d i 0 false
theorem inR_lt {tx : Nat → Nat} {n lo hi i : Nat} (h : inR tx n lo hi i = true) : i < n ∧ lo ≤ tx i ∧ tx i ≤ hi := of_decide_eq_true h
theorem isC_lt {tx : Nat → Nat} {n c i : Nat} (h : isC tx n c i = true) : i < n ∧ tx i = c := of_decide_eq_true h
theorem nml_ok {tx : Nat → Nat} {n mx st : Nat} (hst : st ≤ n) : ∀ k i v b, i ≤ n → (nml tx n mx st k i v b).1 ≤ n ∧ ∀ u, (nml tx n mx st k i v b).2 = some u → u ≤ mx := by
  have hf : ∀ i v b, i ≤ n → (nfin tx n mx st i v b).1 ≤ n ∧ ∀ u, (nfin tx n mx st i v b).2 = some u → u ≤ mx := by
    intro i v b hi
    unfold nfin
    by_cases c : b = false ∨ inR tx n 48 57 i = true
    · rw [if_pos c]; exact ⟨hi, fun u h => by cases h⟩
    · rw [if_neg c]
      by_cases c2 : mx < v
      · rw [if_pos c2]; exact ⟨hst, fun u h => by cases h⟩
      · rw [if_neg c2]; exact ⟨hi, fun u h => by cases h; omega⟩
  intro k
  induction k with
  | zero => intro i v b hi; exact hf i v b hi
  | succ k ih =>
    intro i v b hi
    unfold nml
    by_cases c : inR tx n 48 57 i = true
    · rw [if_pos c]; exact ih _ _ _ (by have := inR_lt c; omega)
    · rw [if_neg c]; exact hf i v b hi
theorem nmb_ok {tx : Nat → Nat} {n d mx i : Nat} (hi : i ≤ n) : (nmb tx n d mx i).1 ≤ n ∧ ∀ u, (nmb tx n d mx i).2 = some u → u ≤ mx := nml_ok hi d i 0 false hi
/-- a row's data: state, counter, held, waits, how many calls, the calls -/
abbrev RD : Type := Nat × Nat × Int32 × Int32 × Nat × (Nat → Int32)
def dHe (r : RD) : Int32 := r.2.2.1
def dWa (r : RD) : Int32 := r.2.2.2.1
def dMn (r : RD) : Nat := r.2.2.2.2.1
def dCa (r : RD) : Nat → Int32 := r.2.2.2.2.2
abbrev RS : Type := Nat → Option RD
def pIs (R : RS) (t : Nat) : Bool := (R t).isSome
def pHe (R : RS) (t : Nat) : Int32 := match R t with
  | none => 0
  | some r => dHe r
def pWa (R : RS) (t : Nat) : Int32 := match R t with
  | none => -1
  | some r => dWa r
def pHol (R : RS) (l : Nat) : Option Nat := sHol (pIs R) (pHe R) l
section ZSP
variable (tx : Nat → Nat) (n : Nat)
def sThr (R : RS) (i : Nat) : Nat × Option Nat := pb (nmb tx n 2 23 i) fun j t => if pIs R t = true then (i, none) else (j, some t)
def sSt (i : Nat) : Nat × Option Nat := if isC tx n 82 i = true then (i + 1, some 0) else if isC tx n 87 i = true then (i + 1, some 1) else if isC tx n 83 i = true then (i + 1, some 2) else if isC tx n 70 i = true then (i + 1, some 3) else (i, none)
def sLk (R : RS) (he : Int32) (i : Nat) : Nat × Option Int32 := pb (nmb tx n 2 15 i) fun j l => if hb he l = true ∨ (pHol R l).isSome = true then (i, none) else (j, some (he ||| (1 <<< (nI l &&& 31))))
def sLks (R : RS) : Nat → Int32 → Nat → Nat × Option Int32
  | 0, he, i => (i, some he)
  | k + 1, he, i => if isC tx n 44 i = true then pb (sLk tx n R he (i + 1)) fun j he' => sLks R k he' j else (i, some he)
def sHe (R : RS) (i : Nat) : Nat × Option Int32 := if isC tx n 104 i = true then pb (sLk tx n R 0 (i + 1)) fun j he => sLks tx n R 3 he j else (i, some 0)
def must (st : Nat) : Bool := decide (st = 1 ∨ st = 2)
def sWt (st i : Nat) : Nat × Option Int32 := if must st = true then (if isC tx n 119 i = true then pb (nmb tx n 2 15 (i + 1)) fun j l => (j, some (nI l)) else (i, none)) else (i, some (-1))
def lct : Nat → Nat → Nat
  | 0, _ => 0
  | k + 1, i => if inR tx n 97 122 i = true then lct k (i + 1) + 1 else 0
def sCl (i : Nat) : Nat × Option (Nat × (Nat → Int32)) := if isC tx n 99 i = true then (if lct tx n 12 (i + 1) = 0 then (i + 1, none) else (i + 1 + lct tx n 12 (i + 1), some (lct tx n 12 (i + 1), fun j => nI (tx (i + 1 + j))))) else (i, some (0, fun _ => 0))
def s7 (t st ct : Nat) (he wa : Int32) (mn : Nat) (ca : Nat → Int32) (i : Nat) : Nat × Option (Nat × RD) := if sEnd tx n i = true then (i, some (t, st, ct, he, wa, mn, ca)) else (i, none)
def s6 (t st ct : Nat) (he wa : Int32) (i : Nat) : Nat × Option (Nat × RD) := pb (sCl tx n i) fun j c => s7 tx n t st ct he wa c.1 c.2 j
def s5 (t st ct : Nat) (he : Int32) (i : Nat) : Nat × Option (Nat × RD) := pb (sWt tx n st i) fun j wa => s6 tx n t st ct he wa j
def s4 (R : RS) (t st ct i : Nat) : Nat × Option (Nat × RD) := pb (sHe tx n R i) fun j he => s5 tx n t st ct he j
def s3 (R : RS) (t st i : Nat) : Nat × Option (Nat × RD) := pb (nmb tx n 4 9999 i) fun j ct => s4 tx n R t st ct j
def s2 (R : RS) (t i : Nat) : Nat × Option (Nat × RD) := pb (sSt tx n i) fun j st => s3 tx n R t st j
def sRow (R : RS) (i : Nat) : Nat × Option (Nat × RD) := pb (sThr tx n R i) fun j t => s2 tx n R t j
end ZSP
/-! what a row that stands holds -/
def RDok (r : RD) : Prop := r.2.1 < 10000 ∧ (∃ h, h < 65536 ∧ dHe r = nI h) ∧ wok (dWa r) ∧ dMn r ≤ 12
section ZOK
variable {tx : Nat → Nat} {n : Nat}
theorem lct_le : ∀ k i, lct tx n k i ≤ k ∧ (i ≤ n → i + lct tx n k i ≤ n)
  | 0, i => ⟨Nat.le_refl _, fun h => h⟩
  | k + 1, i => by
    unfold lct
    by_cases c : inR tx n 97 122 i = true
    · rw [if_pos c]
      have h := lct_le k (i + 1)
      have h2 := inR_lt c
      exact ⟨by omega, fun _ => by have := h.2 (by omega); omega⟩
    · rw [if_neg c]; exact ⟨by omega, fun h => h⟩
theorem pb_le {α β : Type} {x : Nat × Option α} {f : Nat → α → Nat × Option β} {n : Nat} (h : x.1 ≤ n) (hf : ∀ j a, x = (j, some a) → j ≤ n → (f j a).1 ≤ n) : (pb x f).1 ≤ n := by
  obtain ⟨j, o⟩ := x
  cases o with
  | none => exact h
  | some a => exact hf j a rfl h
theorem pb_inv {α β : Type} {x : Nat × Option α} {f : Nat → α → Nat × Option β} {b : β} (h : (pb x f).2 = some b) : ∃ j a, x = (j, some a) ∧ (f j a).2 = some b := by
  obtain ⟨j, o⟩ := x
  cases o with
  | none => cases h
  | some a => exact ⟨j, a, rfl, h⟩
theorem sThr_le {R : RS} {i : Nat} (hi : i ≤ n) : (sThr tx n R i).1 ≤ n := by
  unfold sThr
  refine pb_le (nmb_ok hi).1 (fun j t _ hj => ?_)
  by_cases c : pIs R t = true
  · rw [if_pos c]; exact hi
  · rw [if_neg c]; exact hj
theorem sThr_ok {R : RS} {i t : Nat} (hi : i ≤ n) (h : (sThr tx n R i).2 = some t) : t < 24 ∧ R t = none := by
  obtain ⟨j, u, e, h2⟩ := pb_inv h
  have hu := (nmb_ok (tx := tx) (d := 2) (mx := 23) hi).2 u (by rw [e])
  by_cases c : pIs R u = true
  · rw [if_pos c] at h2; cases h2
  · rw [if_neg c] at h2
    cases h2
    refine ⟨by omega, ?_⟩
    unfold pIs at c
    cases q : R t with
    | none => rfl
    | some r => rw [q] at c; exact absurd rfl c
theorem sSt_le {i : Nat} (hi : i ≤ n) : (sSt tx n i).1 ≤ n := by
  unfold sSt
  by_cases c1 : isC tx n 82 i = true
  · rw [if_pos c1]; exact (isC_lt c1).1
  rw [if_neg c1]
  by_cases c2 : isC tx n 87 i = true
  · rw [if_pos c2]; exact (isC_lt c2).1
  rw [if_neg c2]
  by_cases c3 : isC tx n 83 i = true
  · rw [if_pos c3]; exact (isC_lt c3).1
  rw [if_neg c3]
  by_cases c4 : isC tx n 70 i = true
  · rw [if_pos c4]; exact (isC_lt c4).1
  rw [if_neg c4]; exact hi
theorem sLk_le {R : RS} {he : Int32} {i : Nat} (hi : i ≤ n) : (sLk tx n R he i).1 ≤ n := by
  unfold sLk
  refine pb_le (nmb_ok hi).1 (fun j t _ hj => ?_)
  by_cases c : hb he t = true ∨ (pHol R t).isSome = true
  · rw [if_pos c]; exact hi
  · rw [if_neg c]; exact hj
theorem nI_or (a b : Nat) (ha : a < 65536) (hb : b < 65536) : nI a ||| nI b = nI (a ||| b) := by
  have h : a ||| b < 2 ^ 16 := Nat.or_lt_two_pow (show a < 2 ^ 16 from ha) (show b < 2 ^ 16 from hb)
  apply Int32.toBitVec.inj
  apply BitVec.eq_of_toNat_eq
  rw [Int32.toBitVec_or, BitVec.toNat_or, pk_tn (by omega), pk_tn (by omega), pk_tn (by omega)]
theorem one_shl : ∀ l, l < 16 → ∃ h, h < 65536 ∧ (1 : Int32) <<< (nI l &&& 31) = nI h := by
  intro l hl
  refine ⟨1 * 2 ^ l, ?_, ?_⟩
  · have : 2 ^ l ≤ 2 ^ 15 := Nat.pow_le_pow_right (by decide) (by omega)
    omega
  · rw [and31 (by omega)]
    refine pk_shlN (n := 1) (nI l) l (sm32 l (by omega)) ?_
    have : 2 ^ l ≤ 2 ^ 15 := Nat.pow_le_pow_right (by decide) (by omega)
    omega
theorem sLk_he {R : RS} {he he' : Int32} {i : Nat} (hi : i ≤ n) (h : ∃ h, h < 65536 ∧ he = nI h) (e : (sLk tx n R he i).2 = some he') : ∃ h, h < 65536 ∧ he' = nI h := by
  obtain ⟨j, l, e1, h2⟩ := pb_inv e
  have hl := (nmb_ok (tx := tx) (d := 2) (mx := 15) hi).2 l (by rw [e1])
  by_cases c : hb he l = true ∨ (pHol R l).isSome = true
  · rw [if_pos c] at h2; cases h2
  · rw [if_neg c] at h2
    cases h2
    obtain ⟨a, ha, rfl⟩ := h
    obtain ⟨b, hb', e2⟩ := one_shl l (by omega)
    rw [e2, nI_or a b ha hb']
    exact ⟨_, Nat.or_lt_two_pow (n := 16) ha hb', rfl⟩
/-- every held lock of a row that is being read is free in the picture, or was there before -/
theorem sLk_fr {R : RS} {he he' : Int32} {i : Nat} (hi : i ≤ n) (h : ∀ l, l < 16 → hb he l = true → pHol R l = none) (e : (sLk tx n R he i).2 = some he') : ∀ l, l < 16 → hb he' l = true → pHol R l = none := by
  obtain ⟨j, l, e1, h2⟩ := pb_inv e
  have hl := (nmb_ok (tx := tx) (d := 2) (mx := 15) hi).2 l (by rw [e1])
  by_cases c : hb he l = true ∨ (pHol R l).isSome = true
  · rw [if_pos c] at h2; cases h2
  · rw [if_neg c] at h2
    cases h2
    intro u hu q
    rw [hb_set (by omega) (by omega)] at q
    simp only [Bool.or_eq_true, decide_eq_true_eq] at q
    rcases q with q | q
    · exact h u hu q
    · subst q
      cases z : pHol R u with
      | none => rfl
      | some y => rw [z] at c; exact absurd (Or.inr rfl) c
theorem sLks_ok {R : RS} : ∀ k he i, i ≤ n → (∃ h, h < 65536 ∧ he = nI h) → (∀ l, l < 16 → hb he l = true → pHol R l = none) → (sLks tx n R k he i).1 ≤ n ∧ ∀ he', (sLks tx n R k he i).2 = some he' → (∃ h, h < 65536 ∧ he' = nI h) ∧ ∀ l, l < 16 → hb he' l = true → pHol R l = none
  | 0, he, i, hi, h1, h2 => ⟨hi, fun he' e => by cases e; exact ⟨h1, h2⟩⟩
  | k + 1, he, i, hi, h1, h2 => by
    unfold sLks
    by_cases c : isC tx n 44 i = true
    · rw [if_pos c]
      have hi1 : i + 1 ≤ n := (isC_lt c).1
      refine ⟨pb_le (sLk_le hi1) (fun j a e hj => (sLks_ok k a j hj (sLk_he hi1 h1 (by rw [e])) (sLk_fr hi1 h2 (by rw [e]))).1), fun he' e => ?_⟩
      obtain ⟨j, a, e1, e2⟩ := pb_inv e
      have hj : j ≤ n := by have := sLk_le (tx := tx) (n := n) (R := R) (he := he) hi1; rw [e1] at this; exact this
      exact (sLks_ok k a j hj (sLk_he hi1 h1 (by rw [e1])) (sLk_fr hi1 h2 (by rw [e1]))).2 he' e2
    · rw [if_neg c]; exact ⟨hi, fun he' e => by cases e; exact ⟨h1, h2⟩⟩
theorem sHe_ok {R : RS} {i : Nat} (hi : i ≤ n) : (sHe tx n R i).1 ≤ n ∧ ∀ he', (sHe tx n R i).2 = some he' → (∃ h, h < 65536 ∧ he' = nI h) ∧ ∀ l, l < 16 → hb he' l = true → pHol R l = none := by
  have h0 : ∀ l, l < 16 → hb 0 l = true → pHol R l = none := fun l hl q => by rw [hb_zero (by omega)] at q; cases q
  have h1 : ∃ h, h < 65536 ∧ (0 : Int32) = nI h := ⟨0, by decide, rfl⟩
  unfold sHe
  by_cases c : isC tx n 104 i = true
  · rw [if_pos c]
    have hi1 : i + 1 ≤ n := (isC_lt c).1
    refine ⟨pb_le (sLk_le hi1) (fun j a e hj => (sLks_ok 3 a j hj (sLk_he hi1 h1 (by rw [e])) (sLk_fr hi1 h0 (by rw [e]))).1), fun he' e => ?_⟩
    obtain ⟨j, a, e1, e2⟩ := pb_inv e
    have hj : j ≤ n := by have := sLk_le (tx := tx) (n := n) (R := R) (he := 0) hi1; rw [e1] at this; exact this
    exact (sLks_ok 3 a j hj (sLk_he hi1 h1 (by rw [e1])) (sLk_fr hi1 h0 (by rw [e1]))).2 he' e2
  · rw [if_neg c]; exact ⟨hi, fun he' e => by cases e; exact ⟨h1, h0⟩⟩
theorem sWt_ok {st i : Nat} (hi : i ≤ n) : (sWt tx n st i).1 ≤ n ∧ ∀ wa, (sWt tx n st i).2 = some wa → wok wa := by
  unfold sWt
  by_cases c : must st = true
  · rw [if_pos c]
    by_cases c2 : isC tx n 119 i = true
    · rw [if_pos c2]
      have hi1 : i + 1 ≤ n := (isC_lt c2).1
      refine ⟨pb_le (nmb_ok hi1).1 (fun j a _ hj => hj), fun wa e => ?_⟩
      obtain ⟨j, a, e1, e2⟩ := pb_inv e
      have ha := (nmb_ok (tx := tx) (d := 2) (mx := 15) hi1).2 a (by rw [e1])
      cases e2
      exact Or.inr ⟨a, by omega, rfl⟩
    · rw [if_neg c2]; exact ⟨hi, fun wa e => by cases e⟩
  · rw [if_neg c]; exact ⟨hi, fun wa e => by cases e; exact Or.inl rfl⟩
theorem sCl_ok {i : Nat} (hi : i ≤ n) : (sCl tx n i).1 ≤ n ∧ ∀ c, (sCl tx n i).2 = some c → c.1 ≤ 12 := by
  unfold sCl
  by_cases c : isC tx n 99 i = true
  · rw [if_pos c]
    have hi1 : i + 1 ≤ n := (isC_lt c).1
    have h := lct_le (tx := tx) (n := n) 12 (i + 1)
    by_cases c2 : lct tx n 12 (i + 1) = 0
    · rw [if_pos c2]; exact ⟨hi1, fun c e => by cases e⟩
    · rw [if_neg c2]; exact ⟨h.2 hi1, fun c e => by cases e; exact h.1⟩
  · rw [if_neg c]; exact ⟨hi, fun c e => by cases e; exact Nat.zero_le _⟩
theorem s7_le {t st ct : Nat} {he wa : Int32} {mn : Nat} {ca : Nat → Int32} {i : Nat} (hi : i ≤ n) : (s7 tx n t st ct he wa mn ca i).1 ≤ n := by
  unfold s7
  by_cases c : sEnd tx n i = true
  · rw [if_pos c]; exact hi
  · rw [if_neg c]; exact hi
theorem sRow_ok {R : RS} {i : Nat} (hi : i ≤ n) : (sRow tx n R i).1 ≤ n ∧ ∀ t r, (sRow tx n R i).2 = some (t, r) → t < 24 ∧ R t = none ∧ RDok r ∧ (∀ l, l < 16 → hb (dHe r) l = true → pHol R l = none) ∧ sEnd tx n (sRow tx n R i).1 = true := by
  have p1 : ∀ {j : Nat} {t : Nat}, sThr tx n R i = (j, some t) → j ≤ n ∧ t < 24 ∧ R t = none := fun {j t} e => by
    have h1 := sThr_le (tx := tx) (n := n) (R := R) hi
    have h2 := sThr_ok (tx := tx) (n := n) (R := R) (t := t) hi (by rw [e])
    rw [e] at h1
    exact ⟨h1, h2⟩
  have p2 : ∀ {i j : Nat} {t : Nat}, i ≤ n → sSt tx n i = (j, some t) → j ≤ n := fun {i j t} hi e => by
    have h1 := sSt_le (tx := tx) (n := n) hi
    rw [e] at h1; exact h1
  have p3 : ∀ {i j : Nat} {c : Nat}, i ≤ n → nmb tx n 4 9999 i = (j, some c) → j ≤ n ∧ c ≤ 9999 := fun {i j c} hi e => by
    have h1 := nmb_ok (tx := tx) (n := n) (d := 4) (mx := 9999) hi
    rw [e] at h1; exact ⟨h1.1, h1.2 c rfl⟩
  have p4 : ∀ {i j : Nat} {he : Int32}, i ≤ n → sHe tx n R i = (j, some he) → j ≤ n ∧ (∃ h, h < 65536 ∧ he = nI h) ∧ ∀ l, l < 16 → hb he l = true → pHol R l = none := fun {i j he} hi e => by
    have h1 := sHe_ok (tx := tx) (n := n) (R := R) hi
    rw [e] at h1; exact ⟨h1.1, h1.2 he rfl⟩
  have p5 : ∀ {i j st : Nat} {wa : Int32}, i ≤ n → sWt tx n st i = (j, some wa) → j ≤ n ∧ wok wa := fun {i j st wa} hi e => by
    have h1 := sWt_ok (tx := tx) (n := n) (st := st) hi
    rw [e] at h1; exact ⟨h1.1, h1.2 wa rfl⟩
  have p6 : ∀ {i j : Nat} {c : Nat × (Nat → Int32)}, i ≤ n → sCl tx n i = (j, some c) → j ≤ n ∧ c.1 ≤ 12 := fun {i j c} hi e => by
    have h1 := sCl_ok (tx := tx) (n := n) hi
    rw [e] at h1; exact ⟨h1.1, h1.2 c rfl⟩
  refine ⟨?_, ?_⟩
  · refine pb_le (sThr_le hi) (fun j t e hj => ?_)
    refine pb_le (sSt_le hj) (fun j2 st _ hj2 => ?_)
    refine pb_le (nmb_ok hj2).1 (fun j3 ct _ hj3 => ?_)
    refine pb_le (sHe_ok hj3).1 (fun j4 he _ hj4 => ?_)
    refine pb_le (sWt_ok hj4).1 (fun j5 wa _ hj5 => ?_)
    exact pb_le (sCl_ok hj5).1 (fun j6 c _ hj6 => s7_le hj6)
  · intro t r h
    obtain ⟨i1, t', e1, h1⟩ := pb_inv h
    obtain ⟨i2, st, e2, h2⟩ := pb_inv h1
    obtain ⟨i3, ct, e3, h3⟩ := pb_inv h2
    obtain ⟨i4, he, e4, h4⟩ := pb_inv h3
    obtain ⟨i5, wa, e5, h5⟩ := pb_inv h4
    obtain ⟨i6, c, e6, h6⟩ := pb_inv h5
    have a1 := p1 e1
    have a2 := p2 a1.1 e2
    have a3 := p3 a2 e3
    have a4 := p4 a3.1 e4
    have a5 := p5 a4.1 e5
    have a6 := p6 a5.1 e6
    have e : sRow tx n R i = s7 tx n t' st ct he wa c.1 c.2 i6 := by
      unfold sRow
      rw [e1, pb_s]; unfold s2
      rw [e2, pb_s]; unfold s3
      rw [e3, pb_s]; unfold s4
      rw [e4, pb_s]; unfold s5
      rw [e5, pb_s]; unfold s6
      rw [e6, pb_s]
    rw [e]
    unfold s7 at h6 ⊢
    by_cases z : sEnd tx n i6 = true
    · rw [if_pos z] at h6 ⊢
      cases h6
      exact ⟨a1.2.1, a1.2.2, ⟨by show ct < 10000; omega, a4.2.1, a5.2, a6.2⟩, a4.2.2, z⟩
    · rw [if_neg z] at h6; cases h6
end ZOK
