/-! PURE LAYER: the reference reads: a number, locks, calls -/
def TxM (v : Wd) (m : Nat) (tx : Nat → Nat) (n : Nat) : Prop := zI v 6 m 15 0 = nI n ∧ n ≤ 300 ∧ (∀ j, tx j < 256) ∧ ∀ j, j < n → zI v 6 m 0 j &&& 255 = nI (tx j)
def SMp (m : Nat) (c a k _ : Nat) : Prop := c = 6 ∧ a = m ∧ (k = 14 ∨ (16 ≤ k ∧ k ≤ 24))
theorem TxM.fr {v v' : Wd} {m : Nat} {tx : Nat → Nat} {n : Nat} (h : TxM v m tx n) (hF : Fr (SMp m) v v') : TxM v' m tx n := by
  refine ⟨?_, h.2.1, h.2.2.1, fun j hj => ?_⟩
  · rw [hF.1 6 m 15 0 (by unfold SMp; omega)]; exact h.1
  · rw [hF.1 6 m 0 j (by unfold SMp; omega)]; exact h.2.2.2 j hj
theorem chM_iff {tx : Nat → Nat} {n i : Nat} (hx : ∀ j, tx j < 256) {x : Int32} {c : Nat} (e : x = nI c) (h0 : 0 < c) (hc : c < 256) : chM tx n i = x ↔ isC tx n c i = true := by
  rw [e, chM_eq hx h0 hc]
section ZMH
variable {v : Wd} {m : Nat} {tx : Nat → Nat} {n i : Nat}
theorem m_here (hT : TxM v m tx n) (ha : zI v 6 m 14 0 = nI i) (hi : i ≤ 400) : fX6_here m v = some (chM tx n i) := by
  have hn := hT.2.1
  unfold fX6_here fX6_here_b28
  rw [ha, hT.1]
  by_cases h : i < n
  · rw [if_neg (nI_ge h (by omega)), ckp_ix _ (by omega) (by decide), cl_nI (by omega), hT.2.2.2 i h, chM_lt h]
  · rw [if_pos (nI_le (by omega) (by omega)), chM_ge h]
theorem m_sees (hT : TxM v m tx n) (ha : zI v 6 m 14 0 = nI i) (hi : i ≤ 400) : fX6_seesDigit m v = some (bi (inR tx n 48 57 i)) := by
  unfold fX6_seesDigit
  rw [m_here hT ha hi, bd_s, show (48 : Int32) = nI 48 from rfl, show (57 : Int32) = nI 57 from rfl, m_lies hT.2.2.1 (by decide) (by decide) (by decide), bd_s, ckp_bi]
theorem m_tear (x : Int32) (hb : zI v 6 m 16 0 = -1) : fX6_tears m x v = some (sI v 6 m 16 0 x) := by
  unfold fX6_tears fX6_tears_b13
  rw [if_pos hb, lt_e]
theorem m_torn (x : Int32) (hb : ¬ zI v 6 m 16 0 = -1) : fX6_tears m x v = some v := by
  unfold fX6_tears fX6_tears_b13
  rw [if_neg hb]
end ZMH
/-- a number's end -/
def MNp (v' : Wd) (m : Nat) (y : Int32) (n : Nat) (res : Nat × Option Nat) : Prop := match res with
  | (j, none) => (zI v' 6 m 16 0 = nI j ∧ j ≤ n) ∧ ∃ i, i ≤ n ∧ zI v' 6 m 14 0 = nI i
  | (j, some u) => (zI v' 6 m 16 0 = -1 ∧ j ≤ n) ∧ zI v' 6 m 14 0 = nI j ∧ y = nI u
def SNm (m : Nat) (c a k _ : Nat) : Prop := c = 6 ∧ a = m ∧ (k = 14 ∨ k = 16 ∨ k = 17)
theorem SNm_SMp (m c a k j : Nat) (h : SNm m c a k j) : SMp m c a k j := ⟨h.1, h.2.1, by have := h.2.2; omega⟩
section ZMN
variable {w : Wd} {m : Nat} {tx : Nat → Nat} {n : Nat}
theorem m_n87 {mx st i x : Nat} (hmx : mx < 10000) (hst : st ≤ n) (hn : n ≤ 300) (hx : x < 10000) (d : ¬ inR tx n 48 57 i = true) {v : Wd} (hF : Fr (SNm m) w v) (hb : zI v 6 m 16 0 = -1) (h17 : zI v 6 m 17 0 = nI st) (ha : zI v 6 m 14 0 = nI i) (hi : i ≤ n) : ∃ v' y, Fr (SNm m) w v' ∧ MNp v' m y n (nfin tx n mx st i x true) ∧ zI v' 6 m 17 0 = nI st ∧ fX6_number_b87 m (nI mx) (nI x) v = some (y, v') := by
  unfold fX6_number_b87 fX6_number_b108 nfin
  rw [if_pos hb, if_neg (by simp [d])]
  by_cases e : mx < x
  · rw [if_neg (nI_ge e (by omega)), if_pos e, h17, m_tear _ hb, bd_s]
    refine ⟨_, _, hF.set _ ⟨rfl, rfl, by omega⟩, ⟨⟨zI_sIs _ _ _ _ _ _, hst⟩, i, hi, ?_⟩, ?_, rfl⟩
    · rw [zI_sIn (by omega)]; exact ha
    · rw [zI_sIn (by omega)]; exact h17
  · rw [if_pos (nI_le (by omega) (by omega)), if_neg e]
    exact ⟨v, _, hF, ⟨⟨hb, hi⟩, ha, rfl⟩, h17, rfl⟩
theorem m_nend {f d mx : Nat} {x : Int32} {v : Wd} (hb : ¬ zI v 6 m 16 0 = -1) : fX6_number_l25 (f + 1) m (nI d) (nI mx) x v = some (x, v) := by
  show fX6_number_b25 (fX6_number_l25 f) m (nI d) (nI mx) x v = _
  unfold fX6_number_b25 fX6_number_b87 fX6_number_b108
  rw [if_neg hb, if_neg hb]
theorem l_mn (hT : TxM w m tx n) {mx st d : Nat} (hmx : mx < 10000) (hst : st ≤ n) (hd : d ≤ 4) (hd0 : 0 < d) : ∀ k f c i x v, c + k = d → k + 1 < f → i = st + c → Fr (SNm m) w v → zI v 6 m 16 0 = -1 → zI v 6 m 17 0 = nI st → zI v 6 m 14 0 = nI i → i ≤ n → x < 10 ^ c → (0 < c ∨ inR tx n 48 57 i = true) → ∃ v' y, Fr (SNm m) w v' ∧ MNp v' m y n (nml tx n mx st k i x (decide (0 < c))) ∧ zI v' 6 m 17 0 = nI st ∧ fX6_number_l25 f m (nI d) (nI mx) (nI x) v = some (y, v') := by
  have hp : ∀ c, c ≤ 4 → 10 ^ c ≤ 10000 := fun c hc => Nat.pow_le_pow_right (n := 10) (j := 4) (by decide) hc
  have hn := hT.2.1
  intro k
  induction k with
  | zero =>
    intro f c i x v h1 h2 hic hF hb h17 ha hi hx hdg
    obtain ⟨f, rfl⟩ : ∃ f', f = f' + 1 + 1 := ⟨f - 2, by omega⟩
    have hc := hp c (by omega)
    have hT' := hT.fr (hF.mono (SNm_SMp m))
    show ∃ v' y, _ ∧ _ ∧ _ ∧ fX6_number_b25 (fX6_number_l25 (f + 1)) m (nI d) (nI mx) (nI x) v = _
    unfold fX6_number_b25 fX6_number_b61 nml
    rw [if_pos hb, m_sees hT' ha (by omega), bd_s, decide_eq_true (show 0 < c by omega)]
    by_cases e : inR tx n 48 57 i = true
    · have hr := inR_lt e
      have en' : nfin tx n mx st i x true = (i, none) := if_pos (Or.inr e)
      rw [en', e, bi_t, if_neg n10, ha, h17, nI_add, if_pos (by rw [hic, show c = d by omega]), m_tear _ hb, bd_s, m_here (hT'.fr ((Fr.refl v).set _ ⟨rfl, rfl, by omega⟩)) (by rw [zI_sIn (by omega)]; exact ha) (by omega), bd_s, lt_e, m_nend (by rw [zI_sIn (by omega), zI_sIs]; exact m1_ne (by omega))]
      refine ⟨_, _, (hF.set _ ⟨rfl, rfl, by omega⟩).set _ ⟨rfl, rfl, by omega⟩, ⟨⟨?_, hi⟩, i + 1, hr.1, ?_⟩, ?_, rfl⟩
      · rw [zI_sIn (by omega), zI_sIs]
      · rw [zI_sIs, zI_sIn (by omega), ha, nI_1]
      · rw [zI_sIn (by omega), zI_sIn (by omega)]; exact h17
    · have e' : inR tx n 48 57 i = false := by simpa using e
      rw [e', bi_f, if_pos p00]
      exact m_n87 hmx hst hn (by omega) e hF hb h17 ha hi
  | succ k ih =>
    intro f c i x v h1 h2 hic hF hb h17 ha hi hx hdg
    obtain ⟨f, rfl⟩ : ∃ f', f = f' + 1 := ⟨f - 1, by omega⟩
    have hc := hp c (by omega)
    have hT' := hT.fr (hF.mono (SNm_SMp m))
    show ∃ v' y, _ ∧ _ ∧ _ ∧ fX6_number_b25 (fX6_number_l25 f) m (nI d) (nI mx) (nI x) v = _
    unfold fX6_number_b25 fX6_number_b61 nml
    rw [if_pos hb, m_sees hT' ha (by omega), bd_s]
    by_cases e : inR tx n 48 57 i = true
    · have hr := inR_lt e
      rw [if_pos e, e, bi_t, if_neg n10, ha, h17, nI_add, if_neg (by rw [i_eq (by omega) (by omega)]; omega), m_here hT' ha (by omega), bd_s, lt_e, chM_lt hr.1, q10, pk_mul, nI_add, show (48 : Int32) = nI 48 from rfl, pk_sub (by omega), nI_1, Nat.mul_comm 10 x]
      have := ih f (c + 1) (i + 1) (x * 10 + tx i - 48) (sI v 6 m 14 0 (nI (i + 1))) (by omega) (by omega) (by omega) (hF.set _ ⟨rfl, rfl, by omega⟩) (by rw [zI_sIn (by omega)]; exact hb) (by rw [zI_sIn (by omega)]; exact h17) (zI_sIs _ _ _ _ _ _) (by omega) (by rw [Nat.pow_succ]; omega) (Or.inl (by omega))
      rw [show decide (0 < c + 1) = true by simp] at this
      exact this
    · have e' : inR tx n 48 57 i = false := by simpa using e
      rw [if_neg e, e', bi_f, if_pos p00, decide_eq_true (show 0 < c from hdg.resolve_right e)]
      exact m_n87 hmx hst hn (by omega) e hF hb h17 ha hi
theorem m_num (hT : TxM w m tx n) {i d mx : Nat} {xd xm : Int32} (ed : xd = nI d) (em : xm = nI mx) (hd : d ≤ 4) (hd0 : 0 < d) (hmx : mx < 10000) (hb : zI w 6 m 16 0 = -1) (ha : zI w 6 m 14 0 = nI i) (hi : i ≤ n) : ∃ v' y, Fr (SNm m) w v' ∧ MNp v' m y n (nmb tx n d mx i) ∧ zI v' 6 m 17 0 = nI i ∧ fX6_number m xd xm w = some (y, v') := by
  subst ed em
  have hn := hT.2.1
  unfold fX6_number
  rw [lt_e, ha]
  have F1 : Fr (SNm m) w (sI w 6 m 17 0 (nI i)) := (Fr.refl w).set _ ⟨rfl, rfl, by omega⟩
  have A1 : zI (sI w 6 m 17 0 (nI i)) 6 m 14 0 = nI i := by rw [zI_sIn (by omega)]; exact ha
  have B1 : zI (sI w 6 m 17 0 (nI i)) 6 m 16 0 = -1 := by rw [zI_sIn (by omega)]; exact hb
  rw [m_sees (hT.fr (F1.mono (SNm_SMp m))) A1 (by omega), bd_s]
  by_cases e : inR tx n 48 57 i = true
  · rw [e, bi_t, if_neg n10]
    exact l_mn hT hmx hi hd hd0 d 1000 0 i 0 _ (by omega) (by omega) (by omega) F1 B1 (zI_sIs _ _ _ _ _ _) A1 hi (by decide) (Or.inr e)
  · have e' : inR tx n 48 57 i = false := by simpa using e
    have en' : nmb tx n d mx i = (i, none) := by
      obtain ⟨d, rfl⟩ : ∃ d', d = d' + 1 := ⟨d - 1, by omega⟩
      show (if inR tx n 48 57 i = true then _ else _) = _
      rw [if_neg e]
      exact if_pos (Or.inl rfl)
    rw [en', e', bi_f, if_pos p00, A1, m_tear _ B1, bd_s, m_nend (by rw [zI_sIs]; exact m1_ne (by omega))]
    refine ⟨_, _, F1.set _ ⟨rfl, rfl, by omega⟩, ⟨⟨zI_sIs _ _ _ _ _ _, hi⟩, i, hi, ?_⟩, ?_, rfl⟩
    · rw [zI_sIn (by omega)]; exact A1
    · rw [zI_sIn (by omega), zI_sIs]
end ZMN
/-- the reference's rows of picture p -/
def RowA (v : Wd) (m k : Nat) (d : RD) : Prop := zI v 6 m 8 k = nI d.1 ∧ zI v 6 m 9 k = nI d.2.1 ∧ zI v 6 m 10 k = dHe d ∧ zI v 6 m 11 k = dWa d ∧ zI v 6 m 12 k = nI (dMn d) ∧ ∀ j, j < dMn d → mca v m k j = dCa d j
def MRw (v : Wd) (m p : Nat) (R : RS) : Prop := ∀ t, t < 24 → (R t = none ∧ mis v m p t = false) ∨ ∃ d, R t = some d ∧ mis v m p t = true ∧ RowA v m (24 * p + t) d
theorem MRw.is {v : Wd} {m p : Nat} {R : RS} (h : MRw v m p R) {t : Nat} (ht : t < 24) : mis v m p t = pIs R t := by
  unfold pIs
  rcases h t ht with ⟨a, b⟩ | ⟨d, a, b, c⟩
  · rw [a, b]; rfl
  · rw [a, b]; rfl
theorem MRw.hol {v : Wd} {m p : Nat} {R : RS} (h : MRw v m p R) (l : Nat) : sHol (mis v m p) (mhe v m p) l = pHol R l := by
  unfold pHol sHol
  refine fnd_cong (fun t _ ht => ?_)
  rcases h t (by omega) with ⟨a, b⟩ | ⟨d, a, b, c⟩
  · rw [b, show pIs R t = false by unfold pIs; rw [a]; rfl, Bool.false_and, Bool.false_and]
  · rw [b, show pIs R t = true by unfold pIs; rw [a]; rfl, show pHe R t = dHe d by unfold pHe; rw [a], show mhe v m p t = dHe d from c.2.2.1]
theorem MRw.fr {v v' : Wd} {m p : Nat} {R : RS} (h : MRw v m p R) (hF : Fr (SMp m) v v') : MRw v' m p R := by
  have g : ∀ k j, 7 ≤ k → k ≤ 13 → zI v' 6 m k j = zI v 6 m k j := fun k j h1 h2 => hF.1 6 m k j (by unfold SMp; omega)
  intro t ht
  unfold mis RowA mca
  rw [g 7 _ (by omega) (by omega), g 8 _ (by omega) (by omega), g 9 _ (by omega) (by omega), g 10 _ (by omega) (by omega), g 11 _ (by omega) (by omega), g 12 _ (by omega) (by omega)]
  rcases h t ht with q | ⟨d, a, b, c⟩
  · exact Or.inl q
  · refine Or.inr ⟨d, a, b, c.1, c.2.1, c.2.2.1, c.2.2.2.1, c.2.2.2.2.1, fun j hj => ?_⟩
    rw [g 13 _ (by omega) (by omega)]
    exact c.2.2.2.2.2 j hj
def SLm (m : Nat) (c a k _ : Nat) : Prop := c = 6 ∧ a = m ∧ (k = 14 ∨ k = 16 ∨ k = 17 ∨ k = 21)
theorem SLm_SMp (m c a k j : Nat) (h : SLm m c a k j) : SMp m c a k j := ⟨h.1, h.2.1, by have := h.2.2; omega⟩
theorem SNm_SLm (m c a k j : Nat) (h : SNm m c a k j) : SLm m c a k j := ⟨h.1, h.2.1, by have := h.2.2; omega⟩
/-- the end of the locks -/
def MLp (v' : Wd) (m : Nat) (tx : Nat → Nat) (n : Nat) (res : Nat × Option Int32) : Prop := match res with
  | (j, none) => zI v' 6 m 16 0 = nI j ∧ j ≤ n
  | (j, some he) => j ≤ n ∧ ((zI v' 6 m 16 0 = -1 ∧ zI v' 6 m 14 0 = nI j ∧ zI v' 6 m 21 0 = he) ∨ (isC tx n 44 j = true ∧ zI v' 6 m 16 0 = nI j))
section ZML
variable {w : Wd} {m p : Nat} {tx : Nat → Nat} {n : Nat} {R : RS}
theorem m_lend {f : Nat} {c x : Int32} {v : Wd} (hb : ¬ zI v 6 m 16 0 = -1) : fX6_readLocks_l4 (f + 1) m (nI p) c x v = some v := by
  show fX6_readLocks_b4 (fX6_readLocks_l4 f) m (nI p) c x v = _
  unfold fX6_readLocks_b4 fX6_readLocks_b122
  by_cases e : x = 0
  · rw [if_pos e]
  · rw [if_neg e, if_neg hb]
theorem l_ml (hT : TxM w m tx n) (hR : MRw w m p R) (hp : p < 8) : ∀ k f c v he i, c + k = 3 → k + 2 < f → Fr (SLm m) w v → zI v 6 m 16 0 = -1 → zI v 6 m 21 0 = he → zI v 6 m 14 0 = nI i → i < n → ∃ v', Fr (SLm m) w v' ∧ MLp v' m tx n (pb (sLk tx n R he (i + 1)) fun j he' => sLks tx n R k he' j) ∧ fX6_readLocks_l4 f m (nI p) (nI c) 1 v = some v' := by
  have hn := hT.2.1
  intro k
  induction k with
  | zero =>
    intro f c v he i h1 h2 hF hd hh ha hi
    obtain ⟨f, rfl⟩ : ∃ f', f = f' + 1 + 1 := ⟨f - 2, by omega⟩
    have F1 : Fr (SLm m) w (sI v 6 m 14 0 (nI (i + 1))) := hF.set _ ⟨rfl, rfl, by omega⟩
    obtain ⟨v2, y, F2, P2, S2, E2⟩ := m_num (d := 2) (mx := 15) (xd := 2) (xm := 15) (hT.fr (F1.mono (SLm_SMp m))) rfl rfl (by decide) (by decide) (by decide) (by rw [zI_sIn (by omega)]; exact hd) (zI_sIs _ _ _ _ _ _) (show i + 1 ≤ n by omega)
    have F3 := F1.trans (F2.mono (SNm_SLm m))
    have hh2 : zI v2 6 m 21 0 = he := by rw [F2.1 6 m 21 0 (by unfold SNm; omega), zI_sIn (by omega)]; exact hh
    have hok := nmb_ok (tx := tx) (n := n) (d := 2) (mx := 15) (show i + 1 ≤ n by omega)
    show ∃ v', _ ∧ _ ∧ fX6_readLocks_b4 (fX6_readLocks_l4 (f + 1)) m (nI p) (nI c) 1 v = _
    unfold fX6_readLocks_b4
    rw [if_neg n10, if_pos hd, lt_e, ha, nI_1, E2, bd2_s]
    unfold sLk
    rcases e : nmb tx n 2 15 (i + 1) with ⟨j, o⟩
    rw [e] at P2 hok
    cases o with
    | none =>
      obtain ⟨⟨b1, b2⟩, -⟩ := P2
      rw [pb_n, pb_n, if_neg (by rw [b1]; exact m1_ne (by omega))]
      exact ⟨v2, F3, ⟨b1, b2⟩, rfl⟩
    | some l =>
      have hl : l ≤ 15 := hok.2 l rfl
      obtain ⟨⟨b1, b2⟩, b3, rfl⟩ := P2
      obtain ⟨hv, ehv, hbv⟩ := e_hby (w := v2) (m := m) p hp
      have hcd : ((hv ||| he) >>> (nI l &&& 31) &&& 1 = 1) ↔ (hb he l = true ∨ (pHol R l).isSome = true) := by
        rw [hb_1, hb_or (by omega), hbv l (by omega), (hR.fr (F3.mono (SLm_SMp m))).hol, Bool.or_eq_true]
        exact Or.comm
      rw [pb_s, if_pos b1, ehv, bd_s, hh2]
      by_cases c1 : hb he l = true ∨ (pHol R l).isSome = true
      · rw [if_pos c1, pb_n, if_pos (hcd.mpr c1), S2, m_tear _ b1, bd_s]
        unfold fX6_readLocks_b71 fX6_readLocks_b101 fX6_readLocks_b119
        rw [lt_e, m_here (hT.fr ((F3.set (c := 6) (a := m) (k := 16) (j := 0) (nI (i + 1)) ⟨rfl, rfl, by omega⟩).set (c := 6) (a := m) (k := 21) (j := 0) _ ⟨rfl, rfl, by omega⟩ |>.mono (SLm_SMp m))) (by rw [zI_sIn (by omega), zI_sIn (by omega)]; exact b3) (by omega), bd_s]
        have bad : ¬ zI (sI (sI v2 6 m 16 0 (nI (i + 1))) 6 m 21 0 (zI (sI v2 6 m 16 0 (nI (i + 1))) 6 m 21 0 ||| 1 <<< (nI l &&& 31))) 6 m 16 0 = -1 := by rw [zI_sIn (by omega), zI_sIs]; exact m1_ne (by omega)
        refine ⟨_, (F3.set (c := 6) (a := m) (k := 16) (j := 0) (nI (i + 1)) ⟨rfl, rfl, by omega⟩).set (c := 6) (a := m) (k := 21) (j := 0) (zI (sI v2 6 m 16 0 (nI (i + 1))) 6 m 21 0 ||| 1 <<< (nI l &&& 31)) ⟨rfl, rfl, by omega⟩, ⟨by rw [zI_sIn (by omega), zI_sIs], by omega⟩, ?_⟩
        by_cases c2 : chM tx n j = 44
        · rw [if_pos c2, if_neg n10]
          by_cases c3 : nI c + 1 = 4
          · rw [if_pos c3, m_torn _ bad, bd_s, m_lend bad]
          · rw [if_neg c3, m_lend bad]
        · rw [if_neg c2, if_pos p00, m_lend bad]
      · rw [if_neg c1, pb_s, if_neg (fun q => c1 (hcd.mp q))]
        unfold fX6_readLocks_b71 fX6_readLocks_b101 fX6_readLocks_b119 sLks
        have F4 : Fr (SLm m) w (sI v2 6 m 21 0 (he ||| 1 <<< (nI l &&& 31))) := F3.set _ ⟨rfl, rfl, by omega⟩
        have A4 : zI (sI v2 6 m 21 0 (he ||| 1 <<< (nI l &&& 31))) 6 m 14 0 = nI j := by rw [zI_sIn (by omega)]; exact b3
        have B4 : zI (sI v2 6 m 21 0 (he ||| 1 <<< (nI l &&& 31))) 6 m 16 0 = -1 := by rw [zI_sIn (by omega)]; exact b1
        rw [lt_e, hh2, m_here (hT.fr (F4.mono (SLm_SMp m))) A4 (by omega), bd_s]
        by_cases c2 : isC tx n 44 j = true
        · rw [if_pos ((chM_iff hT.2.2.1 (x := 44) (c := 44) rfl (by decide) (by decide)).mpr c2), if_neg n10, nI_1, if_pos (show nI (c + 1) = (4 : Int32) by rw [show c + 1 = 4 by omega]; rfl), A4, m_tear _ B4, bd_s, m_lend (by rw [zI_sIs]; exact m1_ne (by omega))]
          exact ⟨_, F4.set _ ⟨rfl, rfl, by omega⟩, ⟨b2, Or.inr ⟨c2, zI_sIs _ _ _ _ _ _⟩⟩, rfl⟩
        · rw [if_neg (fun q => c2 ((chM_iff hT.2.2.1 (x := 44) (c := 44) rfl (by decide) (by decide)).mp q)), if_pos p00]
          refine ⟨_, F4, ⟨b2, Or.inl ⟨B4, A4, zI_sIs _ _ _ _ _ _⟩⟩, ?_⟩
          show fX6_readLocks_b4 (fX6_readLocks_l4 f) m (nI p) _ 0 _ = _
          unfold fX6_readLocks_b4 fX6_readLocks_b122
          rw [if_pos p00]
  | succ k ih =>
    intro f c v he i h1 h2 hF hd hh ha hi
    obtain ⟨f, rfl⟩ : ∃ f', f = f' + 1 + 1 := ⟨f - 2, by omega⟩
    have F1 : Fr (SLm m) w (sI v 6 m 14 0 (nI (i + 1))) := hF.set _ ⟨rfl, rfl, by omega⟩
    obtain ⟨v2, y, F2, P2, S2, E2⟩ := m_num (d := 2) (mx := 15) (xd := 2) (xm := 15) (hT.fr (F1.mono (SLm_SMp m))) rfl rfl (by decide) (by decide) (by decide) (by rw [zI_sIn (by omega)]; exact hd) (zI_sIs _ _ _ _ _ _) (show i + 1 ≤ n by omega)
    have F3 := F1.trans (F2.mono (SNm_SLm m))
    have hh2 : zI v2 6 m 21 0 = he := by rw [F2.1 6 m 21 0 (by unfold SNm; omega), zI_sIn (by omega)]; exact hh
    have hok := nmb_ok (tx := tx) (n := n) (d := 2) (mx := 15) (show i + 1 ≤ n by omega)
    show ∃ v', _ ∧ _ ∧ fX6_readLocks_b4 (fX6_readLocks_l4 (f + 1)) m (nI p) (nI c) 1 v = _
    unfold fX6_readLocks_b4
    rw [if_neg n10, if_pos hd, lt_e, ha, nI_1, E2, bd2_s]
    unfold sLk
    rcases e : nmb tx n 2 15 (i + 1) with ⟨j, o⟩
    rw [e] at P2 hok
    cases o with
    | none =>
      obtain ⟨⟨b1, b2⟩, -⟩ := P2
      rw [pb_n, pb_n, if_neg (by rw [b1]; exact m1_ne (by omega))]
      exact ⟨v2, F3, ⟨b1, b2⟩, rfl⟩
    | some l =>
      have hl : l ≤ 15 := hok.2 l rfl
      obtain ⟨⟨b1, b2⟩, b3, rfl⟩ := P2
      obtain ⟨hv, ehv, hbv⟩ := e_hby (w := v2) (m := m) p hp
      have hcd : ((hv ||| he) >>> (nI l &&& 31) &&& 1 = 1) ↔ (hb he l = true ∨ (pHol R l).isSome = true) := by
        rw [hb_1, hb_or (by omega), hbv l (by omega), (hR.fr (F3.mono (SLm_SMp m))).hol, Bool.or_eq_true]
        exact Or.comm
      rw [pb_s, if_pos b1, ehv, bd_s, hh2]
      by_cases c1 : hb he l = true ∨ (pHol R l).isSome = true
      · rw [if_pos c1, pb_n, if_pos (hcd.mpr c1), S2, m_tear _ b1, bd_s]
        unfold fX6_readLocks_b71 fX6_readLocks_b101 fX6_readLocks_b119
        rw [lt_e, m_here (hT.fr ((F3.set (c := 6) (a := m) (k := 16) (j := 0) (nI (i + 1)) ⟨rfl, rfl, by omega⟩).set (c := 6) (a := m) (k := 21) (j := 0) _ ⟨rfl, rfl, by omega⟩ |>.mono (SLm_SMp m))) (by rw [zI_sIn (by omega), zI_sIn (by omega)]; exact b3) (by omega), bd_s]
        have bad : ¬ zI (sI (sI v2 6 m 16 0 (nI (i + 1))) 6 m 21 0 (zI (sI v2 6 m 16 0 (nI (i + 1))) 6 m 21 0 ||| 1 <<< (nI l &&& 31))) 6 m 16 0 = -1 := by rw [zI_sIn (by omega), zI_sIs]; exact m1_ne (by omega)
        refine ⟨_, (F3.set (c := 6) (a := m) (k := 16) (j := 0) (nI (i + 1)) ⟨rfl, rfl, by omega⟩).set (c := 6) (a := m) (k := 21) (j := 0) (zI (sI v2 6 m 16 0 (nI (i + 1))) 6 m 21 0 ||| 1 <<< (nI l &&& 31)) ⟨rfl, rfl, by omega⟩, ⟨by rw [zI_sIn (by omega), zI_sIs], by omega⟩, ?_⟩
        by_cases c2 : chM tx n j = 44
        · rw [if_pos c2, if_neg n10]
          by_cases c3 : nI c + 1 = 4
          · rw [if_pos c3, m_torn _ bad, bd_s, m_lend bad]
          · rw [if_neg c3, m_lend bad]
        · rw [if_neg c2, if_pos p00, m_lend bad]
      · rw [if_neg c1, pb_s, if_neg (fun q => c1 (hcd.mp q))]
        unfold fX6_readLocks_b71 fX6_readLocks_b101 fX6_readLocks_b119 sLks
        have F4 : Fr (SLm m) w (sI v2 6 m 21 0 (he ||| 1 <<< (nI l &&& 31))) := F3.set _ ⟨rfl, rfl, by omega⟩
        have A4 : zI (sI v2 6 m 21 0 (he ||| 1 <<< (nI l &&& 31))) 6 m 14 0 = nI j := by rw [zI_sIn (by omega)]; exact b3
        have B4 : zI (sI v2 6 m 21 0 (he ||| 1 <<< (nI l &&& 31))) 6 m 16 0 = -1 := by rw [zI_sIn (by omega)]; exact b1
        rw [lt_e, hh2, m_here (hT.fr (F4.mono (SLm_SMp m))) A4 (by omega), bd_s]
        by_cases c2 : isC tx n 44 j = true
        · rw [if_pos c2, if_pos ((chM_iff hT.2.2.1 (x := 44) (c := 44) rfl (by decide) (by decide)).mpr c2), if_neg n10, nI_1, if_neg (show ¬ nI (c + 1) = (4 : Int32) from fun q => by have := (nI_eq (b := 4) (by omega) (by decide)).mp q; omega)]
          exact ih (f + 1) (c + 1) _ _ j (by omega) (by omega) F4 B4 (zI_sIs _ _ _ _ _ _) A4 (isC_lt c2).1
        · rw [if_neg c2, if_neg (fun q => c2 ((chM_iff hT.2.2.1 (x := 44) (c := 44) rfl (by decide) (by decide)).mp q)), if_pos p00]
          refine ⟨_, F4, ⟨b2, Or.inl ⟨B4, A4, zI_sIs _ _ _ _ _ _⟩⟩, ?_⟩
          show fX6_readLocks_b4 (fX6_readLocks_l4 f) m (nI p) _ 0 _ = _
          unfold fX6_readLocks_b4 fX6_readLocks_b122
          rw [if_pos p00]
end ZML
