/-! PURE LAYER: the class reads a row -/
theorem n10 : ¬ ((1 : Int32) = 0) := by decide
theorem p00 : (0 : Int32) = 0 := rfl
theorem pmm : (-1 : Int32) = -1 := rfl
def TxC (v : Wd) (tp : Nat) (tx : Nat → Nat) (n : Nat) : Prop := zI v 4 tp 2 0 = nI n ∧ n ≤ 300 ∧ (∀ j, tx j < 256) ∧ ∀ j, j < n → zI v 4 tp 0 j &&& 255 = nI (tx j)
def SA (tp : Nat) (c a k _ : Nat) : Prop := c = 4 ∧ a = tp ∧ k = 3
def SK (tp r kk : Nat) (c a k j : Nat) : Prop := SA tp c a k j ∨ (c = 2 ∧ a = r ∧ k = kk)
def SRd (tp r : Nat) (c a k j : Nat) : Prop := SA tp c a k j ∨ (c = 2 ∧ a = r)
theorem SA_SRd (tp r c a k j : Nat) (h : SA tp c a k j) : SRd tp r c a k j := Or.inl h
theorem SK_SRd (tp r kk c a k j : Nat) (h : SK tp r kk c a k j) : SRd tp r c a k j := h.imp id (fun q => ⟨q.1, q.2.1⟩)
theorem TxC.fr {v v' : Wd} {tp r : Nat} {tx : Nat → Nat} {n : Nat} (h : TxC v tp tx n) (hF : Fr (SRd tp r) v v') : TxC v' tp tx n := by
  refine ⟨?_, h.2.1, h.2.2.1, fun j hj => ?_⟩
  · rw [hF.1 4 tp 2 0 (by unfold SRd SA; omega)]; exact h.1
  · rw [hF.1 4 tp 0 j (by unfold SRd SA; omega)]; exact h.2.2.2 j hj
section ZCH
variable {tx : Nat → Nat} {n i : Nat}
theorem chC_lt (h : i < n) : chC tx n i = nI (tx i) := if_pos h
theorem chC_ge (h : ¬ i < n) : chC tx n i = -1 := if_neg h
theorem chM_lt (h : i < n) : chM tx n i = nI (tx i) := if_pos h
theorem chM_ge (h : ¬ i < n) : chM tx n i = 0 := if_neg h
theorem chC_eq (hx : ∀ j, tx j < 256) {c : Nat} (hc : c < 256) : (chC tx n i = nI c) = (isC tx n c i = true) := by
  unfold isC
  have := hx i
  by_cases h : i < n
  · rw [chC_lt h, i_eq (by omega) (by omega)]
    simp [h]
  · rw [chC_ge h]
    have : ¬ (-1 : Int32) = nI c := fun q => m1_ne (by omega) q.symm
    simp [h, this]
theorem chM_eq (hx : ∀ j, tx j < 256) {c : Nat} (h0 : 0 < c) (hc : c < 256) : (chM tx n i = nI c) = (isC tx n c i = true) := by
  unfold isC
  have := hx i
  by_cases h : i < n
  · rw [chM_lt h, i_eq (by omega) (by omega)]
    simp [h]
  · rw [chM_ge h]
    have : ¬ (0 : Int32) = nI c := fun q => nI_ne0 h0 (by omega) q.symm
    simp [h, this]
theorem rng_f {lo hi : Nat} (h : ¬ (i < n ∧ lo ≤ tx i ∧ tx i ≤ hi)) : inR tx n lo hi i = false := decide_eq_false h
theorem rng_t {lo hi : Nat} (h : i < n ∧ lo ≤ tx i ∧ tx i ≤ hi) : inR tx n lo hi i = true := decide_eq_true h
theorem c_isDigit (hx : ∀ j, tx j < 256) (v : Wd) : fX5_isDigit (chC tx n i) v = some (bi (inR tx n 48 57 i)) := by
  unfold fX5_isDigit fX5_isDigit_b16 fX5_isDigit_b17
  have := hx i
  by_cases h : i < n
  · rw [chC_lt h]
    by_cases c1 : tx i < 48
    · rw [if_pos (show nI (tx i) < (48 : Int32) from nI_lt (b := 48) c1 (by decide)), rng_f (by omega)]; rfl
    · rw [if_neg (show ¬ nI (tx i) < (48 : Int32) from nI_nlt (b := 48) (by omega) (by omega))]
      by_cases c2 : 57 < tx i
      · rw [if_pos (show (57 : Int32) < nI (tx i) from nI_lt (a := 57) c2 (by omega)), rng_f (by omega)]; rfl
      · rw [if_neg (show ¬ (57 : Int32) < nI (tx i) from nI_nlt (a := 57) (by omega) (by decide)), rng_t (by omega)]; rfl
  · rw [chC_ge h, rng_f (by omega)]; rfl
theorem c_isLetter (hx : ∀ j, tx j < 256) (v : Wd) : fX5_isLetter (chC tx n i) v = some (bi (inR tx n 97 122 i)) := by
  unfold fX5_isLetter fX5_isLetter_b16 fX5_isLetter_b17
  have := hx i
  by_cases h : i < n
  · rw [chC_lt h]
    by_cases c1 : tx i < 97
    · rw [if_pos (show nI (tx i) < (97 : Int32) from nI_lt (b := 97) c1 (by decide)), rng_f (by omega)]; rfl
    · rw [if_neg (show ¬ nI (tx i) < (97 : Int32) from nI_nlt (b := 97) (by omega) (by omega))]
      by_cases c2 : 122 < tx i
      · rw [if_pos (show (122 : Int32) < nI (tx i) from nI_lt (a := 122) c2 (by omega)), rng_f (by omega)]; rfl
      · rw [if_neg (show ¬ (122 : Int32) < nI (tx i) from nI_nlt (a := 122) (by omega) (by decide)), rng_t (by omega)]; rfl
  · rw [chC_ge h, rng_f (by omega)]; rfl
theorem m_lies (hx : ∀ j, tx j < 256) {lo hi : Nat} (h0 : 0 < lo) (h1 : lo < 256) (h2 : hi < 256) (v : Wd) : fX6_lies (chM tx n i) (nI lo) (nI hi) v = some (bi (inR tx n lo hi i)) := by
  unfold fX6_lies fX6_lies_b14 fX6_lies_b15
  have := hx i
  by_cases h : i < n
  · rw [chM_lt h]
    by_cases c1 : tx i < lo
    · rw [if_pos (nI_lt c1 (by omega)), rng_f (by omega)]; rfl
    · rw [if_neg (nI_nlt (by omega) (by omega))]
      by_cases c2 : hi < tx i
      · rw [if_pos (nI_lt c2 (by omega)), rng_f (by omega)]; rfl
      · rw [if_neg (nI_nlt (by omega) (by omega)), rng_t (by omega)]; rfl
  · rw [chM_ge h, if_pos (show (0 : Int32) < nI lo from nI_lt (a := 0) h0 (by omega)), rng_f (by omega)]; rfl
end ZCH
section ZCN
variable {v : Wd} {tp : Nat} {tx : Nat → Nat} {n i : Nat}
theorem c_next (hT : TxC v tp tx n) (ha : zI v 4 tp 3 0 = nI i) (hi : i ≤ n) : fX4_next tp v = some (chC tx n i) := by
  have hn := hT.2.1
  unfold fX4_next fX4_next_b18 fX4_next_b35
  rw [ha, hT.1, if_neg (nI_pos (by omega))]
  by_cases h : i < n
  · rw [if_pos (by rw [i_lt (by omega) (by omega)]; exact h), ckp_ix _ (by omega) (by decide), cl_nI (by omega), hT.2.2.2 i h, chC_lt h]
  · rw [if_neg (by rw [i_lt (by omega) (by omega)]; exact h), chC_ge h]
theorem c_take_t (hT : TxC v tp tx n) (ha : zI v 4 tp 3 0 = nI i) {x : Int32} {c : Nat} (hx : x = nI c) (hc : c < 256) (h : isC tx n c i = true) : fX4_take tp x v = some (1, sI v 4 tp 3 0 (nI (i + 1))) := by
  unfold fX4_take
  rw [c_next hT ha (Nat.le_of_lt (isC_lt h).1), bd_s, if_pos (by rw [hx, chC_eq hT.2.2.1 hc]; exact h), lt_e, ckp_1, ha, nI_1]
theorem c_take_f (hT : TxC v tp tx n) (ha : zI v 4 tp 3 0 = nI i) (hi : i ≤ n) {x : Int32} {c : Nat} (hx : x = nI c) (hc : c < 256) (h : ¬ isC tx n c i = true) : fX4_take tp x v = some (0, v) := by
  unfold fX4_take
  rw [c_next hT ha hi, bd_s, if_neg (by rw [hx, chC_eq hT.2.2.1 hc]; exact h), ckp_0]
theorem c_end (hT : TxC v tp tx n) (ha : zI v 4 tp 3 0 = nI i) (hi : i ≤ n) : fX4_isAtEndOfPart tp v = some (bi (sEnd tx n i)) := by
  unfold fX4_isAtEndOfPart fX4_isAtEndOfPart_b16 fX4_isAtEndOfPart_b21
  have hx := hT.2.2.1 i
  rw [c_next hT ha hi, bd_s]
  unfold sEnd
  by_cases h : i < n
  · rw [chC_lt h, if_neg (m1_ne (by omega))]
    by_cases e : tx i = 59
    · rw [e, if_pos (show nI 59 = (59 : Int32) from rfl)]
      simp [bi, ckp]
    · rw [if_neg (show ¬ nI (tx i) = (59 : Int32) from fun q => e ((nI_eq (b := 59) (by omega) (by decide)).mp q))]
      simp [bi, ckp, e, show ¬ n ≤ i by omega]
  · rw [chC_ge h, if_pos rfl]
    simp [bi, ckp, show n ≤ i by omega]
end ZCN
theorem q10 : (10 : Int32) = nI 10 := rfl
section ZTN
variable {w : Wd} {tp : Nat} {tx : Nat → Nat} {n : Nat}
theorem SA_1 {w v : Wd} {tp : Nat} (h : Fr (SA tp) w v) (y : Int32) : Fr (SA tp) w (sI v 4 tp 3 0 y) := h.set _ ⟨rfl, rfl, rfl⟩
theorem c_n58 (hT : TxC w tp tx n) {mx st x c i : Nat} (hmx : mx < 10000) (hst : st ≤ n) (hx : x < 10000) (hc : c ≤ 4) {v : Wd} (hF : Fr (SA tp) w v) (ha : zI v 4 tp 3 0 = nI i) (hi : i ≤ n) : ∃ v', Fr (SA tp) w v' ∧ zI v' 4 tp 3 0 = nI (nfin tx n mx st i x (decide (0 < c))).1 ∧ fX4_takeNumber_b58 tp (nI mx) (nI st) (nI x) (nI c) v = some (en (nfin tx n mx st i x (decide (0 < c))).2, v') := by
  have hT' := hT.fr (hF.mono (SA_SRd tp 0))
  unfold fX4_takeNumber_b58 fX4_takeNumber_b73 fX4_takeNumber_b91 nfin
  by_cases c0 : c = 0
  · subst c0
    rw [if_pos (show nI 0 = 0 from rfl), if_pos (Or.inl (by decide))]
    exact ⟨v, hF, ha, rfl⟩
  rw [if_neg (nI_ne0 (by omega) (by omega)), c_next hT' ha hi, bd_s, c_isDigit hT.2.2.1, bd_s]
  by_cases d : inR tx n 48 57 i = true
  · rw [if_pos (Or.inr d), d, bi_t, if_neg n10]
    exact ⟨v, hF, ha, rfl⟩
  rw [if_neg (by simp [d]; omega)]
  simp only [Bool.not_eq_true] at d
  rw [d, bi_f, if_pos p00]
  by_cases e : mx < x
  · rw [if_neg (nI_ge e (by omega)), if_pos e]
    exact ⟨_, SA_1 hF _, zI_sIs _ _ _ _ _ _, rfl⟩
  · rw [if_pos (nI_le (by omega) (by omega)), if_neg e]
    exact ⟨v, hF, ha, rfl⟩
theorem l_tn (hT : TxC w tp tx n) {mx st d : Nat} (hmx : mx < 10000) (hst : st ≤ n) (hd : d ≤ 4) : ∀ k f c i x v, c + k = d → k < f → Fr (SA tp) w v → zI v 4 tp 3 0 = nI i → i ≤ n → x < 10 ^ c → ∃ v', Fr (SA tp) w v' ∧ zI v' 4 tp 3 0 = nI (nml tx n mx st k i x (decide (0 < c))).1 ∧ fX4_takeNumber_l11 f tp (nI d) (nI mx) (nI st) (nI x) (nI c) v = some (en (nml tx n mx st k i x (decide (0 < c))).2, v') := by
  have hp : ∀ c, c ≤ 4 → 10 ^ c ≤ 10000 := fun c hc => Nat.pow_le_pow_right (n := 10) (j := 4) (by decide) hc
  intro k
  induction k with
  | zero =>
    intro f c i x v h1 h2 hF ha hi hx
    obtain ⟨f, rfl⟩ : ∃ f', f = f' + 1 := ⟨f - 1, by omega⟩
    have := hp c (by omega)
    show ∃ v', _ ∧ _ ∧ fX4_takeNumber_b11 (fX4_takeNumber_l11 f) tp (nI d) (nI mx) (nI st) (nI x) (nI c) v = _
    unfold fX4_takeNumber_b11
    rw [if_pos (nI_le (by omega) (by omega))]
    exact c_n58 hT hmx hst (by omega) (by omega) hF ha hi
  | succ k ih =>
    intro f c i x v h1 h2 hF ha hi hx
    obtain ⟨f, rfl⟩ : ∃ f', f = f' + 1 := ⟨f - 1, by omega⟩
    have hc := hp c (by omega)
    have hT' := hT.fr (hF.mono (SA_SRd tp 0))
    show ∃ v', _ ∧ _ ∧ fX4_takeNumber_b11 (fX4_takeNumber_l11 f) tp (nI d) (nI mx) (nI st) (nI x) (nI c) v = _
    unfold fX4_takeNumber_b11 nml
    rw [if_neg (nI_ge (by omega) (by omega)), c_next hT' ha hi, bd_s, c_isDigit hT.2.2.1, bd_s, bd_s]
    by_cases e : inR tx n 48 57 i = true
    · rw [if_pos e, e, bi_t, if_neg n10, lt_e, ha, nI_1, nI_1]
      have hr := inR_lt e
      rw [chC_lt hr.1, q10, pk_mul, nI_add, show (48 : Int32) = nI 48 from rfl, pk_sub (by omega)]
      have := ih f (c + 1) (i + 1) (x * 10 + tx i - 48) _ (by omega) (by omega) (SA_1 hF (nI (i + 1))) (zI_sIs _ _ _ _ _ _) (by omega) (by rw [Nat.pow_succ]; omega)
      rw [show decide (0 < c + 1) = true by simp] at this
      exact this
    · rw [if_neg e]
      simp only [Bool.not_eq_true] at e
      rw [e, bi_f, if_pos p00]
      exact c_n58 hT hmx hst (by omega) (by omega) hF ha hi
theorem c_num (hT : TxC w tp tx n) {i d mx : Nat} {xd xm : Int32} (ed : xd = nI d) (em : xm = nI mx) (hd : d ≤ 4) (hmx : mx < 10000) (ha : zI w 4 tp 3 0 = nI i) (hi : i ≤ n) : ∃ v', Fr (SA tp) w v' ∧ zI v' 4 tp 3 0 = nI (nmb tx n d mx i).1 ∧ fX4_takeNumber tp xd xm w = some (en (nmb tx n d mx i).2, v') := by
  subst ed em
  unfold fX4_takeNumber
  rw [ha]
  exact l_tn hT hmx hi hd d 1000 0 i 0 w (by omega) (by omega) (Fr.refl w) ha hi (by decide)
end ZTN
/-- what the reader of a row needs of the world -/
def RC (v : Wd) (rr tp a : Nat) (tx : Nat → Nat) (n : Nat) (R : RS) : Prop := TxC v tp tx n ∧ zR v 3 rr 0 0 = some tp ∧ zR v 3 rr 1 0 = some a ∧ (∀ t, t < 24 → (zR v 1 a 1 t).isSome = pIs R t) ∧ ∀ l, l < 16 → zI v 1 a 2 l = en (pHol R l)
theorem RC.fr {v v' : Wd} {rr tp a r : Nat} {tx : Nat → Nat} {n : Nat} {R : RS} (h : RC v rr tp a tx n R) (hF : Fr (SRd tp r) v v') : RC v' rr tp a tx n R := by
  refine ⟨h.1.fr hF, ?_, ?_, ?_, ?_⟩
  · rw [hF.2.1]; exact h.2.1
  · rw [hF.2.1]; exact h.2.2.1
  · rw [hF.2.1]; exact h.2.2.2.1
  · intro l hl
    rw [hF.1 1 a 2 l (by unfold SRd SA; omega)]
    exact h.2.2.2.2 l hl
section ZCR
variable {v : Wd} {rr tp a r : Nat} {tx : Nat → Nat} {n : Nat} {R : RS} {i : Nat}
theorem SK_set {w v : Wd} {tp r kk j : Nat} (h : Fr (SK tp r kk) w v) (y : Int32) : Fr (SK tp r kk) w (sI v 2 r kk j y) := h.set _ (Or.inr ⟨rfl, rfl, rfl⟩)
theorem SK_at {w v : Wd} {tp r kk : Nat} (h : Fr (SK tp r kk) w v) (y : Int32) : Fr (SK tp r kk) w (sI v 4 tp 3 0 y) := h.set _ (Or.inl ⟨rfl, rfl, rfl⟩)
theorem SA_SK {w v : Wd} {tp : Nat} (r kk : Nat) (h : Fr (SA tp) w v) : Fr (SK tp r kk) w v := h.mono (fun _ _ _ _ q => Or.inl q)
theorem c_thr (h : RC v rr tp a tx n R) (ha : zI v 4 tp 3 0 = nI i) (hi : i ≤ n) : ∃ v', Fr (SK tp r 1) v v' ∧ zI v' 4 tp 3 0 = nI (sThr tx n R i).1 ∧ (∀ t, (sThr tx n R i).2 = some t → zI v' 2 r 1 0 = nI t) ∧ fX3_readThread rr r v = some (bi (sThr tx n R i).2.isSome, v') := by
  obtain ⟨v1, F1, A1, E1⟩ := c_num (d := 2) (mx := 23) (xd := 2) (xm := 23) h.1 rfl rfl (by decide) (by decide) ha hi
  have hok := nmb_ok (tx := tx) (n := n) (d := 2) (mx := 23) hi
  unfold fX3_readThread fX3_readThread_b48 fX3_readThread_b61 fX4_tearAt
  rw [lt_e, h.2.1, nn_s, lt_e, nn_s, E1, bd2_s, lt_e, lt_e, lt_e, zR_sI, zI_sIs, F1.2.1, h.2.1, h.2.2.1, nn_s, nn_s, e_rowOf, bd_s, zR_sI, F1.2.1, ha]
  unfold sThr
  rcases e : nmb tx n 2 23 i with ⟨j, o⟩
  rw [e] at A1 hok
  cases o with
  | none =>
    rw [pb_n, en_none, show inn (-1) 24 = false from rfl, if_neg (show ¬ (false = true) by decide), oc_n, if_pos pmm]
    refine ⟨_, SK_set (SA_SK r 1 F1) (-1), ?_, fun t q => (by cases q), rfl⟩
    rw [zI_sIn (by omega)]; exact A1
  | some t =>
    have ht : t ≤ 23 := hok.2 t rfl
    rw [pb_s, en_some, inn_nI (by omega), decide_eq_true (show t < 24 by omega), if_pos rfl, cl_nI (by omega)]
    have hq := h.2.2.2.1 t (by omega)
    by_cases c : pIs R t = true
    · rw [c] at hq
      obtain ⟨q, eq⟩ := Option.isSome_iff_exists.mp hq
      rw [if_pos c, eq, oc_s, lt_e, bd2_s, lt_e, zI_sIs, if_pos pmm]
      refine ⟨_, SK_set (SK_at (SK_set (SA_SK r 1 F1) (nI t)) (nI i)) (-1), ?_, fun t q => (by cases q), rfl⟩
      rw [zI_sIn (by omega), zI_sIs]
    · have hz : zR v 1 a 1 t = none := by
        cases z : zR v 1 a 1 t with
        | none => rfl
        | some q => rw [z] at hq; exact absurd hq.symm c
      rw [if_neg c, hz, oc_n, if_neg (m1_ne (by omega))]
      refine ⟨_, SK_set (SA_SK r 1 F1) (nI t), ?_, fun u q => by cases q; exact zI_sIs _ _ _ _ _ _, rfl⟩
      rw [zI_sIn (by omega)]; exact A1
theorem c_st (h : RC v rr tp a tx n R) (ha : zI v 4 tp 3 0 = nI i) (hi : i ≤ n) : ∃ v', Fr (SK tp r 2) v v' ∧ zI v' 4 tp 3 0 = nI (sSt tx n i).1 ∧ (∀ t, (sSt tx n i).2 = some t → zI v' 2 r 2 0 = nI t) ∧ fX3_readState rr r v = some (bi (sSt tx n i).2.isSome, v') := by
  have hz : ∀ y : Int32, zR (sI v 4 tp 3 0 y) 3 rr 0 0 = some tp := fun y => h.2.1
  have fin : ∀ (y : Int32), Fr (SK tp r 2) v (sI (sI v 4 tp 3 0 (nI (i + 1))) 2 r 2 0 y) ∧ zI (sI (sI v 4 tp 3 0 (nI (i + 1))) 2 r 2 0 y) 4 tp 3 0 = nI (i + 1) ∧ zI (sI (sI v 4 tp 3 0 (nI (i + 1))) 2 r 2 0 y) 2 r 2 0 = y := fun y => ⟨SK_set (SK_at (Fr.refl v) _) y, by rw [zI_sIn (by omega), zI_sIs], zI_sIs _ _ _ _ _ _⟩
  unfold fX3_readState fX3_readState_b82 sSt
  rw [lt_e, h.2.1, nn_s]
  by_cases c1 : isC tx n 82 i = true
  · rw [c_take_t h.1 ha (x := 82) (c := 82) rfl (by decide) c1, bd2_s, if_neg n10, lt_e, ckp_1, if_pos c1]
    exact ⟨_, (fin 0).1, (fin 0).2.1, fun t q => by cases q; exact (fin 0).2.2, rfl⟩
  rw [c_take_f h.1 ha hi (x := 82) (c := 82) rfl (by decide) c1, bd2_s, if_pos p00, if_neg c1, lt_e, h.2.1, nn_s]
  by_cases c2 : isC tx n 87 i = true
  · rw [c_take_t h.1 ha (x := 87) (c := 87) rfl (by decide) c2, bd2_s, if_neg n10, lt_e, ckp_1, if_pos c2]
    exact ⟨_, (fin 1).1, (fin 1).2.1, fun t q => by cases q; exact (fin 1).2.2, rfl⟩
  rw [c_take_f h.1 ha hi (x := 87) (c := 87) rfl (by decide) c2, bd2_s, if_pos p00, if_neg c2, lt_e, h.2.1, nn_s]
  by_cases c3 : isC tx n 83 i = true
  · rw [c_take_t h.1 ha (x := 83) (c := 83) rfl (by decide) c3, bd2_s, if_neg n10, lt_e, ckp_1, if_pos c3]
    exact ⟨_, (fin 2).1, (fin 2).2.1, fun t q => by cases q; exact (fin 2).2.2, rfl⟩
  rw [c_take_f h.1 ha hi (x := 83) (c := 83) rfl (by decide) c3, bd2_s, if_pos p00, if_neg c3, lt_e, h.2.1, nn_s]
  by_cases c4 : isC tx n 70 i = true
  · rw [c_take_t h.1 ha (x := 70) (c := 70) rfl (by decide) c4, bd2_s, if_neg n10, lt_e, ckp_1, if_pos c4]
    exact ⟨_, (fin 3).1, (fin 3).2.1, fun t q => by cases q; exact (fin 3).2.2, rfl⟩
  rw [c_take_f h.1 ha hi (x := 70) (c := 70) rfl (by decide) c4, bd2_s, if_pos p00, if_neg c4]
  exact ⟨v, Fr.refl v, ha, fun t q => (by cases q), rfl⟩
theorem c_ct (h : RC v rr tp a tx n R) (ha : zI v 4 tp 3 0 = nI i) (hi : i ≤ n) : ∃ v', Fr (SK tp r 3) v v' ∧ zI v' 4 tp 3 0 = nI (nmb tx n 4 9999 i).1 ∧ (∀ t, (nmb tx n 4 9999 i).2 = some t → zI v' 2 r 3 0 = nI t) ∧ fX3_readCounter rr r v = some (bi (nmb tx n 4 9999 i).2.isSome, v') := by
  obtain ⟨v1, F1, A1, E1⟩ := c_num (d := 4) (mx := 9999) (xd := 4) (xm := 9999) h.1 rfl rfl (by decide) (by decide) ha hi
  have hok := nmb_ok (tx := tx) (n := n) (d := 4) (mx := 9999) hi
  unfold fX3_readCounter fX3_readCounter_b28
  rw [lt_e, h.2.1, nn_s, E1, bd2_s, lt_e, zI_sIs]
  rcases e : nmb tx n 4 9999 i with ⟨j, o⟩
  rw [e] at A1 hok
  cases o with
  | none =>
    rw [en_none, if_pos pmm]
    refine ⟨_, SK_set (SA_SK r 3 F1) (-1), ?_, fun t q => (by cases q), rfl⟩
    rw [zI_sIn (by omega)]; exact A1
  | some t =>
    have ht : t ≤ 9999 := hok.2 t rfl
    rw [en_some, if_neg (m1_ne (by omega))]
    refine ⟨_, SK_set (SA_SK r 3 F1) (nI t), ?_, fun u q => by cases q; exact zI_sIs _ _ _ _ _ _, rfl⟩
    rw [zI_sIn (by omega)]; exact A1
theorem c_lk (h : RC v rr tp a tx n R) {he : Int32} (hh : zI v 2 r 4 0 = he) (ha : zI v 4 tp 3 0 = nI i) (hi : i ≤ n) : ∃ v', Fr (SK tp r 4) v v' ∧ zI v' 4 tp 3 0 = nI (sLk tx n R he i).1 ∧ (∀ t, (sLk tx n R he i).2 = some t → zI v' 2 r 4 0 = t) ∧ fX3_readHeldLock rr r v = some (bi (sLk tx n R he i).2.isSome, v') := by
  obtain ⟨v1, F1, A1, E1⟩ := c_num (d := 2) (mx := 15) (xd := 2) (xm := 15) h.1 rfl rfl (by decide) (by decide) ha hi
  have hok := nmb_ok (tx := tx) (n := n) (d := 2) (mx := 15) hi
  have h1 := h.fr (r := r) (F1.mono (SA_SRd tp r))
  have hh1 : zI v1 2 r 4 0 = he := by rw [F1.1 2 r 4 0 (by unfold SA; omega)]; exact hh
  unfold fX3_readHeldLock fX3_readHeldLock_b44 fX3_readHeldLock_b53 fX4_tearAt
  rw [lt_e, h.2.1, nn_s, lt_e, nn_s, E1, bd2_s, ha]
  unfold sLk
  rcases e : nmb tx n 2 15 i with ⟨j, o⟩
  rw [e] at A1 hok
  cases o with
  | none =>
    rw [pb_n, en_none, if_pos pmm, if_pos pmm]
    exact ⟨_, SA_SK r 4 F1, A1, fun t q => (by cases q), rfl⟩
  | some l =>
    have hl : l ≤ 15 := hok.2 l rfl
    rw [pb_s, en_some, if_neg (m1_ne (by omega)), e_holds, bd_s, hh1]
    have tear : ∃ v', Fr (SK tp r 4) v v' ∧ zI v' 4 tp 3 0 = nI ((i, none) : Nat × Option Int32).1 ∧ (∀ t, ((i, none) : Nat × Option Int32).2 = some t → zI v' 2 r 4 0 = t) ∧ lt' (zR v1 3 rr 0 0) (fun u_1 => nn u_1 (fun b_5 => bd2 (lt' (sI v1 4 b_5 3 0 (nI i)) (fun w_1 => some ((-1 : Int32), w_1))) (fun y_8 w_9 => if y_8 = -1 then ckp ((0 : Int32) = 0 ∨ (0 : Int32) = 1) (some ((0 : Int32), w_9)) else lt' (sI w_9 2 r 4 0 (zI w_9 2 r 4 0 ||| 1 <<< (y_8 &&& 31))) (fun w_2 => ckp ((1 : Int32) = 0 ∨ (1 : Int32) = 1) (some ((1 : Int32), w_2)))))) = some (bi ((i, none) : Nat × Option Int32).2.isSome, v') := by
      rw [lt_e, h1.2.1, nn_s, lt_e, bd2_s, if_pos pmm]
      exact ⟨_, SK_at (SA_SK r 4 F1) (nI i), zI_sIs _ _ _ _ _ _, fun t q => (by cases q), rfl⟩
    by_cases c1 : hb he l = true
    · rw [if_pos (Or.inl c1), c1, bi_t, if_neg n10]
      exact tear
    · have c1' : hb he l = false := by simpa using c1
      rw [c1', bi_f, if_pos p00, lt_e, h1.2.2.1, nn_s, e_holderOf, bd_s, inn_nI (by omega), decide_eq_true (show l < 16 by omega), if_pos rfl, cl_nI (by omega), h1.2.2.2.2 l (by omega)]
      cases z : pHol R l with
      | none =>
        rw [en_none, if_pos pmm, if_neg (m1_ne (by omega)), lt_e, ckp_1, if_neg (by simp)]
        refine ⟨_, SK_set (SA_SK r 4 F1) _, ?_, fun t q => by cases q; exact zI_sIs _ _ _ _ _ _, rfl⟩
        rw [zI_sIn (by omega)]; exact A1
      | some u =>
        have hu := (sHol_lt (show sHol (pIs R) (pHe R) l = some u from z)).1
        rw [en_some, if_neg (m1_ne (by omega)), if_pos (show false = true ∨ (some u).isSome = true from Or.inr rfl)]
        exact tear
end ZCR
