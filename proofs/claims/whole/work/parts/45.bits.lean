/-! PURE LAYER: bits of an int -/
theorem and31 {u : Nat} (h : u < 32) : nI u &&& 31 = nI u := by
  rw [pk_andN (n := u) (by omega) 5 (by decide)]
  congr 1
  omega
theorem sm32 : ∀ u, u < 32 → ((nI u).toBitVec.smod 32).toNat = u := by decide
theorem hb_bv {u : Nat} (h : u < 32) (x : Int32) : hb x u = x.toBitVec.getLsbD u := by
  have e2 : (x >>> nI u).toBitVec = x.toBitVec.sshiftRight u := by
    rw [Int32.toBitVec_shiftRight]
    unfold BitVec.sshiftRight'
    rw [sm32 u h]
  unfold hb
  rw [and31 h, pk_and _ 1 (by decide), e2]
  have e3 : (x.toBitVec.sshiftRight u).getLsbD 0 = x.toBitVec.getLsbD u := by
    rw [BitVec.getLsbD_sshiftRight]
    simp [h]
  rw [← e3]
  have e4 : (x.toBitVec.sshiftRight u).getLsbD 0 = decide ((x.toBitVec.sshiftRight u).toNat % 2 = 1) := by
    unfold BitVec.getLsbD
    rw [Nat.testBit_zero]
  rw [e4]
  have h2 : (x.toBitVec.sshiftRight u).toNat % 2 ^ 1 = 0 ∨ (x.toBitVec.sshiftRight u).toNat % 2 ^ 1 = 1 := by omega
  rcases h2 with h2 | h2
  · rw [h2]
    have : ¬ (x.toBitVec.sshiftRight u).toNat % 2 = 1 := by omega
    simp [this]; decide
  · rw [h2]
    have : (x.toBitVec.sshiftRight u).toNat % 2 = 1 := by omega
    simp [this]; decide
theorem hb_or {u : Nat} (h : u < 32) (x y : Int32) : hb (x ||| y) u = (hb x u || hb y u) := by
  rw [hb_bv h, hb_bv h, hb_bv h, Int32.toBitVec_or, BitVec.getLsbD_or]
theorem hb_and {u : Nat} (h : u < 32) (x y : Int32) : hb (x &&& y) u = (hb x u && hb y u) := by
  rw [hb_bv h, hb_bv h, hb_bv h, Int32.toBitVec_and, BitVec.getLsbD_and]
theorem hb_m1 {u : Nat} (h : u < 32) : hb (-1) u = true := by
  have : ∀ u, u < 32 → hb (-1) u = true := by decide
  exact this u h
theorem hb_not {u : Nat} (h : u < 32) (y : Int32) : hb (y ^^^ (-1)) u = !hb y u := by
  have := hb_m1 h
  rw [hb_bv h] at this
  rw [hb_bv h, hb_bv h, Int32.toBitVec_xor, BitVec.getLsbD_xor, this]
  simp
theorem hb_zero {u : Nat} (h : u < 32) : hb 0 u = false := by
  have : ∀ u, u < 32 → hb 0 u = false := by decide
  exact this u h
theorem hb_one {u v : Nat} (h : u < 32) (hv : v < 32) : hb (1 <<< (nI v &&& 31)) u = decide (u = v) := by
  have e : ((1 : Int32) <<< nI v).toBitVec = (1 : Int32).toBitVec <<< v := by
    rw [Int32.toBitVec_shiftLeft, BitVec.shiftLeft_eq', sm32 v hv]
  rw [hb_bv h, and31 hv, e, BitVec.getLsbD_shiftLeft]
  by_cases q : u = v
  · subst q
    simp [h]
  · by_cases q2 : u < v
    · simp [q2, q]
    · have : (1 : Int32).toBitVec.getLsbD (u - v) = false := by
        have : ∀ d, d < 32 → d ≠ 0 → (1 : Int32).toBitVec.getLsbD d = false := by decide
        exact this (u - v) (by omega) (by omega)
      simp [q]
      omega
theorem hb_ext {x y : Int32} (h : ∀ u, u < 32 → hb x u = hb y u) : x = y := by
  apply Int32.toBitVec.inj
  apply BitVec.eq_of_getLsbD_eq
  intro i hi
  rw [← hb_bv hi, ← hb_bv hi]
  exact h i hi
/-- a set bit -/
theorem hb_set {u v : Nat} (h : u < 32) (hv : v < 32) (x : Int32) : hb (x ||| (1 <<< (nI v &&& 31))) u = (hb x u || decide (u = v)) := by
  rw [hb_or h, hb_one h hv]
theorem cntf_all {P : Nat → Bool} : ∀ k t c, cntf P k t c = c + k → ∀ u, t ≤ u → u < t + k → P u = true
  | 0, _, _, _, u, h1, h2 => by omega
  | k + 1, t, c, h, u, h1, h2 => by
    unfold cntf at h
    by_cases e : P t = true
    · rw [if_pos e] at h
      by_cases q : u = t
      · rw [q]; exact e
      · exact cntf_all k (t + 1) (c + 1) (by omega) u (by omega) (by omega)
    · rw [if_neg e] at h
      have := cntf_le P k (t + 1) c
      omega
theorem cntf_add (P : Nat → Bool) : ∀ k t c, cntf P k t c = c + cntf P k t 0
  | 0, _, _ => rfl
  | k + 1, t, c => by
    unfold cntf
    rw [cntf_add P k (t + 1) (if P t = true then c + 1 else c), cntf_add P k (t + 1) (if P t = true then 0 + 1 else 0)]
    split <;> omega
/-- one more -/
theorem cntf_one {P Q : Nat → Bool} {v : Nat} (hP : P v = false) (hQ : Q v = true) : ∀ k t c, (∀ u, u ≠ v → P u = Q u) → t ≤ v → v < t + k → cntf Q k t c = cntf P k t c + 1
  | 0, t, c, _, h1, h2 => by omega
  | k + 1, t, c, h, h1, h2 => by
    unfold cntf
    by_cases q : t = v
    · subst q
      rw [hP, hQ, if_pos rfl, if_neg (by decide), cntf_add Q, cntf_add P k (t + 1) c, cntf_cong (P := Q) (Q := P) (fun u h3 h4 => (h u (by omega)).symm)]
      omega
    · rw [h t q]
      exact cntf_one hP hQ k (t + 1) _ h (by omega) (by omega)
