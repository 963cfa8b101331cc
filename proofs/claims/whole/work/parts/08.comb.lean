/-! the combinators of the functional texts, and their inversions -/
def ckp {α : Type} (c : Prop) [Decidable c] (t : Option α) : Option α := if c then t else none
theorem ckp_inv {α : Type} {c : Prop} [Decidable c] {t : Option α} {r : α} (h : ckp c t = some r) : c ∧ t = some r := by
  unfold ckp at h
  by_cases q : c
  · rw [if_pos q] at h; exact ⟨q, h⟩
  · rw [if_neg q] at h; cases h
theorem ckp_t {α : Type} {c : Prop} [Decidable c] (t : Option α) (h : c) : ckp c t = t := if_pos h
def nn {α : Type} (r : Option Nat) (f : Nat → Option α) : Option α := match r with
  | none => none
  | some a => f a
theorem nn_inv {α : Type} {r : Option Nat} {f : Nat → Option α} {q : α} (h : nn r f = some q) : ∃ a, r = some a ∧ f a = some q := by
  cases r with
  | none => cases h
  | some a => exact ⟨a, rfl, h⟩
def oc {α : Type} (r : Option Nat) (t : Option α) (f : Nat → Option α) : Option α := match r with
  | none => t
  | some a => f a
def lt' {α β : Type} (a : α) (f : α → β) : β := f a
theorem lt_inv {α β : Type} {a : α} {f : α → β} {b : β} (h : lt' a f = b) : ∃ y, y = a ∧ f y = b := ⟨a, rfl, h⟩
def bd {α β : Type} (o : Option α) (f : α → Option β) : Option β := match o with
  | none => none
  | some a => f a
theorem bd_inv {α β : Type} {o : Option α} {f : α → Option β} {b : β} (h : bd o f = some b) : ∃ a, o = some a ∧ f a = some b := by
  cases o with
  | none => cases h
  | some a => exact ⟨a, rfl, h⟩
def bd2 {α β : Type} (o : Option (α × Wd)) (f : α → Wd → Option β) : Option β := match o with
  | none => none
  | some (a, w) => f a w
theorem bd2_inv {α β : Type} {o : Option (α × Wd)} {f : α → Wd → Option β} {b : β} (h : bd2 o f = some b) : ∃ a w, o = some (a, w) ∧ f a w = some b := by
  cases o with
  | none => cases h
  | some q => obtain ⟨a, w⟩ := q; exact ⟨a, w, rfl, h⟩
def WF (w : Wd) : Prop := ∀ c a, zL w c a = true → a < zS w
def mo (w w' : Wd) : Prop := WF w → WF w' ∧ ∀ c a, zL w c a = true → zL w' c a = true ∧ ∀ k, zA w' c a k = zA w c a k
theorem mo_rf (w : Wd) : mo w w := fun h => ⟨h, fun _ _ q => ⟨q, fun _ => rfl⟩⟩
theorem mo.tr {w1 w2 w3 : Wd} (h1 : mo w1 w2) (h2 : mo w2 w3) : mo w1 w3 := fun h => ⟨(h2 (h1 h).1).1, fun c a q => ⟨((h2 (h1 h).1).2 c a ((h1 h).2 c a q).1).1, fun k => (((h2 (h1 h).1).2 c a ((h1 h).2 c a q).1).2 k).trans (((h1 h).2 c a q).2 k)⟩⟩
theorem mo.sI {w1 w2 : Wd} (h : mo w1 w2) (c a k j : Nat) (v : Int32) : mo w1 (sI w2 c a k j v) := h
theorem mo.sR {w1 w2 : Wd} (h : mo w1 w2) (c a k j : Nat) (v : Option Nat) : mo w1 (sR w2 c a k j v) := h
def lsub : List (Option Value) → List (Option Value) → Prop
  | [], [] => True
  | a :: as, b :: bs => (a = none ∨ a = b) ∧ lsub as bs
  | _, _ => False
theorem lsub_len : ∀ {L' L : List (Option Value)}, lsub L' L → L'.length = L.length
  | [], [], _ => rfl
  | _ :: _, [], h => h.elim
  | [], _ :: _, h => h.elim
  | _ :: _, _ :: _, h => by simp [lsub_len h.2]
theorem lsub_at : ∀ {L' L : List (Option Value)}, lsub L' L → ∀ (i : Nat) (v : Value), L'[i]? = some (some v) → L[i]? = some (some v)
  | [], [], _, i, v, hi => by simp at hi
  | _ :: _, [], h, _, _, _ => h.elim
  | [], _ :: _, h, _, _, _ => h.elim
  | a :: as, b :: bs, h, 0, v, hi => by
    simp only [List.getElem?_cons_zero, Option.some.injEq] at hi ⊢
    rcases h.1 with q | q
    · rw [q] at hi; cases hi
    · rw [← q]; exact hi
  | a :: as, b :: bs, h, i + 1, v, hi => by
    simp only [List.getElem?_cons_succ] at hi ⊢
    exact lsub_at h.2 i v hi
section ZX
variable {x : CT} {cc : ByteArray} {own : String} {rm : Room} {ret : Option FieldType} {pc pc' : Nat} {L L' : List (Option Value)} {st : List Value} {P : GT → Nat → Prop} {cs ss : Nat} {w : Wd}
theorem V.sb (h : lsub L' L) (k : V x pc L' st P cs ss) : V x pc L st P cs ss := V.sub (lsub_len h) (lsub_at h) k
theorem v_liv {c a : Nat} (hl : zL w c a = true) (k : (∀ kf j b, zR w c a kf j = some b → zL w (tg c kf) b = true) → V x pc L st (Rp (xD x) w) cs ss) : V x pc L st (Rp (xD x) w) cs ss := by
  obtain ⟨p, l, e, R, s, m, args, below, meth, c, Q, D, A, nL⟩ := x
  intro G sz H locs ls a1
  exact k (fun kf j b h => a1.2.2.2.1 _ _ kf j b hl h) G sz H locs ls a1
theorem v_wf (k : WF w → V x pc L st (Rp (xD x) w) cs ss) : V x pc L st (Rp (xD x) w) cs ss := by
  obtain ⟨p, l, e, R, s, m, args, below, meth, c, Q, D, A, nL⟩ := x
  intro G sz H locs ls a1 a2 a3
  refine k (fun c' a' h => ?_) G sz H locs ls a1 a2 a3
  have h1 := (a3 a' _ (a1.1 c' a' h).2).lt
  have h2 : sz = zS w := a1.2.2.2.2
  have h3 : a' < H.size := h1
  omega
end ZX
theorem sw_out {x : Int32} {lo hi : Int} (h : ∀ i : Int, lo ≤ i → i ≤ hi → x ≠ Int32.ofInt i) : x.toInt < lo ∨ hi < x.toInt := by
  rcases Int.lt_or_le x.toInt lo with q | q
  · exact Or.inl q
  · rcases Int.lt_or_le hi x.toInt with q2 | q2
    · exact Or.inr q2
    · exact absurd (Int32.ofInt_toInt x).symm (h x.toInt q q2)
