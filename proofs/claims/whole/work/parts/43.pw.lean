/-! PURE LAYER: through, weight, guilty: loops of both sides -/
def scm (nx : Nat → Option Nat) (t : Nat) : Nat → Option Nat → Bool
  | 0, _ => false
  | _ + 1, none => false
  | k + 1, some v => if v = t then true else scm nx t k (nx v)
def swt (nx : Nat → Option Nat) (wa : Nat → Int32) (l : Nat) : Nat → Option Nat → Bool
  | 0, _ => false
  | _ + 1, none => false
  | k + 1, some v => decide (wa v = nI l) || swt nx wa l k (nx v)
theorem l_ctt (w : Wd) (a t : Nat) (ht : t < 24) : ∀ k n c o, o + k = 24 → k < n → c + k ≤ 100 → fX1_countThroughThread_l4 w n a (nI t) (nI c) (nI o) = some (nI (cntf (fun o => !decide (o = t) && hb (zI w 1 a 3 o) t) k o c)) := by
  intro k
  induction k with
  | zero =>
    intro n c o h1 h2 h3
    obtain ⟨n, rfl⟩ : ∃ n', n = n' + 1 := ⟨n - 1, by omega⟩
    show fX1_countThroughThread_b4 w (fX1_countThroughThread_l4 w n) a (nI t) (nI c) (nI o) = _
    unfold fX1_countThroughThread_b4
    rw [if_pos (show (24 : Int32) ≤ nI o from nI_le (a := 24) (by omega) (by omega))]
    rfl
  | succ k ih =>
    intro n c o h1 h2 h3
    obtain ⟨n, rfl⟩ : ∃ n', n = n' + 1 := ⟨n - 1, by omega⟩
    show fX1_countThroughThread_b4 w (fX1_countThroughThread_l4 w n) a (nI t) (nI c) (nI o) = _
    unfold fX1_countThroughThread_b4 fX1_countThroughThread_b31
    rw [if_neg (show ¬ (24 : Int32) ≤ nI o from nI_ge (b := 24) (by omega) (by decide)), nI_1, nI_1]
    show _ = some (nI (cntf _ k (o + 1) (if (!decide (o = t) && hb (zI w 1 a 3 o) t) = true then c + 1 else c)))
    by_cases e : o = t
    · rw [if_pos (by rw [e]), if_neg (by simp [e])]
      exact ih n c (o + 1) (by omega) (by omega) (by omega)
    · rw [if_neg (by rw [i_eq (by omega) (by omega)]; exact e), ckp_ix _ (by omega) (by decide), cl_nI (by omega), e_hasBit, bd_s]
      by_cases e2 : hb (zI w 1 a 3 o) t = true
      · rw [e2, bi_t, if_neg (show ¬ (1 : Int32) = 0 by decide), if_pos (by simp [e])]
        exact ih n (c + 1) (o + 1) (by omega) (by omega) (by omega)
      · simp only [Bool.not_eq_true] at e2
        rw [e2, bi_f, if_pos rfl, if_neg (by simp)]
        exact ih n c (o + 1) (by omega) (by omega) (by omega)
theorem l_ctl (w : Wd) (a l : Nat) : ∀ k n c o, o + k = 24 → k < n → c + k ≤ 100 → fX1_countThroughLock_l14 w n (nI l) (nI c) a 24 (nI o) = some (nI (cntf (fun o => hb (zI w 1 a 4 o) l) k o c)) := by
  intro k
  induction k with
  | zero =>
    intro n c o h1 h2 h3
    obtain ⟨n, rfl⟩ : ∃ n', n = n' + 1 := ⟨n - 1, by omega⟩
    show fX1_countThroughLock_b14 w (fX1_countThroughLock_l14 w n) (nI l) (nI c) a 24 (nI o) = _
    unfold fX1_countThroughLock_b14
    rw [if_pos (show (24 : Int32) ≤ nI o from nI_le (a := 24) (by omega) (by omega))]
    rfl
  | succ k ih =>
    intro n c o h1 h2 h3
    obtain ⟨n, rfl⟩ : ∃ n', n = n' + 1 := ⟨n - 1, by omega⟩
    show fX1_countThroughLock_b14 w (fX1_countThroughLock_l14 w n) (nI l) (nI c) a 24 (nI o) = _
    unfold fX1_countThroughLock_b14 fX1_countThroughLock_b39
    rw [if_neg (show ¬ (24 : Int32) ≤ nI o from nI_ge (b := 24) (by omega) (by decide)), nI_1, nI_1, ckp_ix _ (by omega) (by decide), cl_nI (by omega), e_hasBit, bd_s]
    show _ = some (nI (cntf _ k (o + 1) (if hb (zI w 1 a 4 o) l = true then c + 1 else c)))
    by_cases e2 : hb (zI w 1 a 4 o) l = true
    · rw [e2, bi_t, if_neg (show ¬ (1 : Int32) = 0 by decide), if_pos rfl]
      exact ih n (c + 1) (o + 1) (by omega) (by omega) (by omega)
    · simp only [Bool.not_eq_true] at e2
      rw [e2, bi_f, if_pos rfl, if_neg (by simp)]
      exact ih n c (o + 1) (by omega) (by omega) (by omega)
theorem e_ctl (w : Wd) (a l : Nat) : fX1_countThroughLock a (nI l) w = some (nI (cntf (fun o => hb (zI w 1 a 4 o) l) 24 0 0)) := l_ctl w a l 24 1000 0 0 rfl (by decide) (by decide)
theorem cntf_le (P : Nat → Bool) : ∀ k t c, cntf P k t c ≤ c + k
  | 0, _, _ => Nat.le_refl _
  | k + 1, t, c => by
    unfold cntf
    have := cntf_le P k (t + 1) (if P t = true then c + 1 else c)
    split at this
    · rename_i h; rw [if_pos h]; omega
    · rename_i h; rw [if_neg h]; omega
/-- the first of the greatest -/
def gst (f : Nat → Nat) : Nat → Nat → Int32 → Nat → Int32
  | 0, _, b, _ => b
  | k + 1, l, b, mx => if f l ≤ mx then gst f k (l + 1) b mx else gst f k (l + 1) (nI l) (f l)
theorem gst_cong {f g : Nat → Nat} : ∀ {k l : Nat} {b : Int32} {mx : Nat}, (∀ u, l ≤ u → u < l + k → f u = g u) → gst f k l b mx = gst g k l b mx
  | 0, _, _, _, _ => rfl
  | k + 1, l, b, mx, h => by
    unfold gst
    rw [h l (Nat.le_refl _) (by omega), gst_cong (fun u h1 h2 => h u (by omega) (by omega)), gst_cong (fun u h1 h2 => h u (by omega) (by omega))]
theorem l_cgl (w : Wd) (a : Nat) (f : Nat → Nat) (hf : ∀ l, l < 16 → fX1_countThroughLock a (nI l) w = some (nI (f l))) (hf2 : ∀ l, l < 16 → f l ≤ 24) : ∀ k n b mx l, l + k = 16 → k < n → mx ≤ 24 → fX1_guiltyLock_l6 w n a b (nI mx) (nI l) = some (gst f k l b mx) := by
  intro k
  induction k with
  | zero =>
    intro n b mx l h1 h2 h3
    obtain ⟨n, rfl⟩ : ∃ n', n = n' + 1 := ⟨n - 1, by omega⟩
    show fX1_guiltyLock_b6 w (fX1_guiltyLock_l6 w n) a b (nI mx) (nI l) = _
    unfold fX1_guiltyLock_b6
    rw [if_pos (show (16 : Int32) ≤ nI l from nI_le (a := 16) (by omega) (by omega))]
    rfl
  | succ k ih =>
    intro n b mx l h1 h2 h3
    obtain ⟨n, rfl⟩ : ∃ n', n = n' + 1 := ⟨n - 1, by omega⟩
    show fX1_guiltyLock_b6 w (fX1_guiltyLock_l6 w n) a b (nI mx) (nI l) = _
    unfold fX1_guiltyLock_b6 fX1_guiltyLock_b30 gst
    have h24 := hf2 l (by omega)
    rw [if_neg (show ¬ (16 : Int32) ≤ nI l from nI_ge (b := 16) (by omega) (by decide)), hf l (by omega), bd_s, nI_1]
    by_cases e : f l ≤ mx
    · rw [if_pos (by rw [i_le (by omega) (by omega)]; exact e), if_pos e]
      exact ih n b mx (l + 1) (by omega) (by omega) h3
    · rw [if_neg (by rw [i_le (by omega) (by omega)]; exact e), if_neg e]
      exact ih n (nI l) (f l) (l + 1) (by omega) (by omega) h24
section ZM2
variable {w : Wd} {m p : Nat} {is : Nat → Bool} {nx : Nat → Option Nat}
theorem l_comes (hN : ∀ t, t < 24 → is t = true → fX6_next m (nI p) (nI t) w = some (en (nx t))) (hn : ∀ t u, nx t = some u → u < 24 ∧ is u = true) (t : Nat) (ht : t < 24) : ∀ k n i o, i + k = 25 → k < n → (∀ u, o = some u → u < 24 ∧ is u = true) → fX6_comes_l6 w n m (nI p) (nI t) (en o) (nI i) = some (bi (scm nx t k o)) := by
  intro k
  induction k with
  | zero =>
    intro n i o h1 h2 ho
    obtain ⟨n, rfl⟩ : ∃ n', n = n' + 1 := ⟨n - 1, by omega⟩
    show fX6_comes_b6 w (fX6_comes_l6 w n) m (nI p) (nI t) (en o) (nI i) = _
    unfold fX6_comes_b6 fX6_comes_b42
    rw [if_pos (show (24 : Int32) < nI i from nI_lt (a := 24) (by omega) (by omega))]
    rfl
  | succ k ih =>
    intro n i o h1 h2 ho
    obtain ⟨n, rfl⟩ : ∃ n', n = n' + 1 := ⟨n - 1, by omega⟩
    show fX6_comes_b6 w (fX6_comes_l6 w n) m (nI p) (nI t) (en o) (nI i) = _
    unfold fX6_comes_b6 fX6_comes_b42
    rw [if_neg (show ¬ (24 : Int32) < nI i from nI_nlt (a := 24) (by omega) (by decide))]
    cases o with
    | none => rfl
    | some u =>
      have hu := ho u rfl
      show (if nI u = -1 then _ else if nI u = nI t then _ else _) = some (bi (if u = t then true else scm nx t k (nx u)))
      rw [if_neg (m1_ne (by omega))]
      by_cases e : u = t
      · rw [if_pos (by rw [e]), if_pos e]; rfl
      · rw [if_neg (by rw [i_eq (by omega) (by omega)]; exact e), if_neg e, show en (some u) = nI u from rfl, hN u hu.1 hu.2, bd_s, nI_1]
        exact ih n (i + 1) (nx u) (by omega) (by omega) (fun v hv => hn u v hv)
theorem e_comes (hN : ∀ t, t < 24 → is t = true → fX6_next m (nI p) (nI t) w = some (en (nx t))) (hn : ∀ t u, nx t = some u → u < 24 ∧ is u = true) (o t : Nat) (ho : o < 24) (hi : is o = true) (ht : t < 24) : fX6_comes m (nI p) (nI o) (nI t) w = some (bi (scm nx t 25 (some o))) := l_comes hN hn t ht 25 1000 0 (some o) rfl (by decide) (fun u hu => by cases hu; exact ⟨ho, hi⟩)
theorem l_mthr (hz : ∀ t, t < 24 → is t = !decide (zI w 6 m 7 (24 * p + t) = 0)) (hp : p < 8) (hN : ∀ t, t < 24 → is t = true → fX6_next m (nI p) (nI t) w = some (en (nx t))) (hn : ∀ t u, nx t = some u → u < 24 ∧ is u = true) (t : Nat) (ht : t < 24) : ∀ k n c o, o + k = 24 → k < n → c + k ≤ 100 → fX6_through_l16 w n m (nI p) (nI t) (nI c) (nI o) = some (nI (cntf (fun o => !decide (o = t) && (is o && scm nx t 25 (some o))) k o c)) := by
  intro k
  induction k with
  | zero =>
    intro n c o h1 h2 h3
    obtain ⟨n, rfl⟩ : ∃ n', n = n' + 1 := ⟨n - 1, by omega⟩
    show fX6_through_b16 w (fX6_through_l16 w n) m (nI p) (nI t) (nI c) (nI o) = _
    unfold fX6_through_b16
    rw [if_pos (show (24 : Int32) ≤ nI o from nI_le (a := 24) (by omega) (by omega))]
    rfl
  | succ k ih =>
    intro n c o h1 h2 h3
    obtain ⟨n, rfl⟩ : ∃ n', n = n' + 1 := ⟨n - 1, by omega⟩
    show fX6_through_b16 w (fX6_through_l16 w n) m (nI p) (nI t) (nI c) (nI o) = _
    unfold fX6_through_b16 fX6_through_b60 fX6_through_b61
    rw [if_neg (show ¬ (24 : Int32) ≤ nI o from nI_ge (b := 24) (by omega) (by decide)), nI_1, show nI c + 0 = nI c from nI_add c 0, nI_1]
    show _ = some (nI (cntf _ k (o + 1) (if (!decide (o = t) && (is o && scm nx t 25 (some o))) = true then c + 1 else c)))
    by_cases e : o = t
    · rw [if_pos (by rw [e]), if_neg (by simp [e])]
      exact ih n c (o + 1) (by omega) (by omega) (by omega)
    · rw [if_neg (by rw [i_eq (by omega) (by omega)]; exact e), i_24, ckp_ix _ (by omega) (by decide), cl_nI (by omega)]
      have hz' := hz o (by omega)
      by_cases e0 : zI w 6 m 7 (24 * p + o) = 0
      · have hi : is o = false := by rw [hz']; simp [e0]
        rw [if_pos e0, hi, if_neg (by simp)]
        exact ih n c (o + 1) (by omega) (by omega) (by omega)
      · have hi : is o = true := by rw [hz']; simp [e0]
        rw [if_neg e0, e_comes hN hn o t (by omega) hi ht, bd_s, hi]
        by_cases e2 : scm nx t 25 (some o) = true
        · rw [e2, bi_t, if_neg (show ¬ (1 : Int32) = 0 by decide), if_pos (by simp [e])]
          exact ih n (c + 1) (o + 1) (by omega) (by omega) (by omega)
        · simp only [Bool.not_eq_true] at e2
          rw [e2, bi_f, if_pos rfl, if_neg (by simp)]
          exact ih n c (o + 1) (by omega) (by omega) (by omega)
theorem l_mw40 (wa : Nat → Int32) (hwa : ∀ t, zI w 6 m 11 (24 * p + t) = wa t) (hp : p < 8) (hN : ∀ t, t < 24 → is t = true → fX6_next m (nI p) (nI t) w = some (en (nx t))) (hn : ∀ t u, nx t = some u → u < 24 ∧ is u = true) (l : Nat) (rec5 : Nat → Int32 → Int32 → Int32 → Int32 → Option Int32) (x3 x4 : Int32) : ∀ k n i b o, i + k = 25 → k < n → (∀ u, o = some u → u < 24 ∧ is u = true) → fX6_weightOf_l40 w rec5 n m (nI p) (nI l) x3 x4 (bi b) (en o) (nI i) = fX6_weightOf_b96 w rec5 m (nI p) (nI l) x3 x4 (bi (b || swt nx wa l k o)) := by
  intro k
  induction k with
  | zero =>
    intro n i b o h1 h2 ho
    obtain ⟨n, rfl⟩ : ∃ n', n = n' + 1 := ⟨n - 1, by omega⟩
    show fX6_weightOf_b40 w rec5 (fX6_weightOf_l40 w rec5 n) m (nI p) (nI l) x3 x4 (bi b) (en o) (nI i) = _
    unfold fX6_weightOf_b40
    rw [if_pos (show (24 : Int32) < nI i from nI_lt (a := 24) (by omega) (by omega))]
    simp [swt]
  | succ k ih =>
    intro n i b o h1 h2 ho
    obtain ⟨n, rfl⟩ : ∃ n', n = n' + 1 := ⟨n - 1, by omega⟩
    show fX6_weightOf_b40 w rec5 (fX6_weightOf_l40 w rec5 n) m (nI p) (nI l) x3 x4 (bi b) (en o) (nI i) = _
    unfold fX6_weightOf_b40 fX6_weightOf_b74 fX6_weightOf_b79
    rw [if_neg (show ¬ (24 : Int32) < nI i from nI_nlt (a := 24) (by omega) (by decide))]
    cases o with
    | none => rw [if_pos (show en none = -1 from rfl)]; simp [swt]
    | some u =>
      have hu := ho u rfl
      rw [show en (some u) = nI u from rfl, if_neg (m1_ne (by omega)), i_24, ckp_ix _ (by omega) (by decide), cl_nI (by omega), hN u hu.1 hu.2, bd_s, bd_s, hwa u, nI_1]
      have key : ∀ c : Bool, fX6_weightOf_l40 w rec5 n m (nI p) (nI l) x3 x4 (bi c) (en (nx u)) (nI (i + 1)) = fX6_weightOf_b96 w rec5 m (nI p) (nI l) x3 x4 (bi (c || swt nx wa l k (nx u))) := fun c => ih n (i + 1) c (nx u) (by omega) (by omega) (fun v hv => hn u v hv)
      show _ = fX6_weightOf_b96 w rec5 m (nI p) (nI l) x3 x4 (bi (b || (decide (wa u = nI l) || swt nx wa l k (nx u))))
      cases b with
      | true => exact key true
      | false =>
        rw [show bi false = 0 from rfl, if_pos rfl]
        by_cases e : wa u = nI l
        · rw [if_pos e, decide_eq_true e]; exact key true
        · rw [if_neg e, decide_eq_false e]; exact key false
theorem l_mwt (wa : Nat → Int32) (hwa : ∀ t, zI w 6 m 11 (24 * p + t) = wa t) (hz : ∀ t, t < 24 → is t = !decide (zI w 6 m 7 (24 * p + t) = 0)) (hp : p < 8) (hN : ∀ t, t < 24 → is t = true → fX6_next m (nI p) (nI t) w = some (en (nx t))) (hn : ∀ t u, nx t = some u → u < 24 ∧ is u = true) (l : Nat) : ∀ k n c o, o + k = 24 → k < n → c + k ≤ 100 → fX6_weightOf_l5 w n m (nI p) (nI l) (nI c) (nI o) = some (nI (cntf (fun o => is o && swt nx wa l 25 (some o)) k o c)) := by
  intro k
  induction k with
  | zero =>
    intro n c o h1 h2 h3
    obtain ⟨n, rfl⟩ : ∃ n', n = n' + 1 := ⟨n - 1, by omega⟩
    show fX6_weightOf_b5 w (fX6_weightOf_l5 w n) m (nI p) (nI l) (nI c) (nI o) = _
    unfold fX6_weightOf_b5
    rw [if_pos (show (24 : Int32) ≤ nI o from nI_le (a := 24) (by omega) (by omega))]
    rfl
  | succ k ih =>
    intro n c o h1 h2 h3
    obtain ⟨n, rfl⟩ : ∃ n', n = n' + 1 := ⟨n - 1, by omega⟩
    show fX6_weightOf_b5 w (fX6_weightOf_l5 w n) m (nI p) (nI l) (nI c) (nI o) = _
    unfold fX6_weightOf_b5 fX6_weightOf_b109
    rw [if_neg (show ¬ (24 : Int32) ≤ nI o from nI_ge (b := 24) (by omega) (by decide)), i_24, ckp_ix _ (by omega) (by decide), cl_nI (by omega), nI_1]
    show _ = some (nI (cntf _ k (o + 1) (if (is o && swt nx wa l 25 (some o)) = true then c + 1 else c)))
    have hz' := hz o (by omega)
    by_cases e0 : zI w 6 m 7 (24 * p + o) = 0
    · have hi : is o = false := by rw [hz']; simp [e0]
      rw [if_pos e0, hi, if_neg (by simp)]
      exact ih n c (o + 1) (by omega) (by omega) (by omega)
    · have hi : is o = true := by rw [hz']; simp [e0]
      have h40 := l_mw40 wa hwa hp hN hn l (fX6_weightOf_l5 w n) (nI c) (nI o) 25 1000 0 false (some o) rfl (by decide) (fun u hu => by cases hu; exact ⟨by omega, hi⟩)
      rw [if_neg e0, hi]
      refine Eq.trans h40 ?_
      unfold fX6_weightOf_b96 fX6_weightOf_b107 fX6_weightOf_b109
      rw [nI_1, show nI c + 0 = nI c from nI_add c 0, nI_1, Bool.false_or]
      by_cases e2 : swt nx wa l 25 (some o) = true
      · rw [e2, bi_t, if_neg (show ¬ (1 : Int32) = 0 by decide), if_pos (by simp)]
        exact ih n (c + 1) (o + 1) (by omega) (by omega) (by omega)
      · simp only [Bool.not_eq_true] at e2
        rw [e2, bi_f, if_pos rfl, if_neg (by simp)]
        exact ih n c (o + 1) (by omega) (by omega) (by omega)
end ZM2
