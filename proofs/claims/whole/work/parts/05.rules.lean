/-! the judgement V over typed worlds, and a rule an instruction -/
def TYA (D : DD) : List (ClassId × FieldType) := [(D.2 0, .int), (D.2 1, .byte), (D.2 2, .boolean), (D.2 3, .object "StuckHands$Row"), (D.2 4, .object "StuckHands$Picture")]
def KB (D : DD) (U : State) : Prop := va_K D.1 vwCl (TYA D) U ∧ (∀ w ∈ TBN, va_Nw w U) ∧ va_AO "StuckHands$Row" U ∧ va_AO "StuckHands$Picture" U
theorem KB.warm {D : DD} {s U : State} (hW : s.WarmedH U.vm) (h : KB D s) : KB D U := by
  refine ⟨h.1.moved hW.alike, fun w hw => ?_, h.2.2.1.moved hW.alike, h.2.2.2.moved hW.alike⟩
  have h1 := h.2.1 w hw
  have h2 := (List.mem_filter.mp hw).2
  cases w <;> first | (exact va_Nw.warmF hW h1) | (exact va_Nw.warmM hW h1) | (simp [zNst] at h2)
theorem KB.same {D : DD} {u U : State} (e : u.vm = U.vm) (h : KB D u) : KB D U := by
  have ha : u.vm.Alike U.vm := by rw [e]; exact Vm.Alike.refl _
  refine ⟨h.1.moved ha, fun w hw => ?_, h.2.2.1.moved ha, h.2.2.2.moved ha⟩
  have h1 := h.2.1 w hw
  have h2 := (List.mem_filter.mp hw).2
  cases w <;> first | (exact va_Nw.same rfl e h1) | (simp [zNst] at h2)
def GP (D : DD) (G : GT) (H : Heap) : Prop := ∀ a e, G a = some e → va_at D.1 vwCl (a, e) H
def LH (ls : Array Slot) (nL : Nat) (L : List (Option Value)) : Prop := ls.size = nL ∧ lv_wf ls ∧ (∀ (i : Nat) (v : Value), L[i]? = some (some v) → ls[i]? = some (.val v) ∧ v.category = 1) ∧ L.length ≤ nL
abbrev CT : Type := Program × Launch × Env × Room × State × MethodId × Array Value × List Frame × Method × Code × (State → Prop) × DD × (Nat → Prop) × Nat
def xD (x : CT) : DD := x.2.2.2.2.2.2.2.2.2.2.2.1
def xl (x : CT) : Launch := x.2.1
def V (x : CT) (pc : Nat) (L : List (Option Value)) (st : List Value) (P : GT → Nat → Prop) (cs ss : Nat) : Prop :=
  match x with
  | (p, l, e, R, s, m, args, below, meth, c, Q, D, A, nL) => ∀ (G : GT) (sz : Nat) (H : Heap) (locs : List Loc) (ls : Array Slot), P G sz → H.size = sz → GP D G H → (∀ a e, G a = some e → A a) → va_S A s.heap H locs → LH ls nL L → W p l e R s m args below meth c H locs cs ss Q (F0 m pc ls st)
def CX (x : CT) (cc : ByteArray) (own : String) (rm : Room) (ret : Option FieldType) : Prop :=
  match x with
  | (p, l, e, R, s, m, args, below, meth, c, Q, D, A, nL) => p.tables.exec = Jvm.exec ∧ c.code = cc ∧ c.maxLocals = nL ∧ s.vm.findClass own = some m.cls ∧ (∀ w ∈ TBG, w.before args s = true) ∧ KB D s ∧ (∀ q, s.heap.size ≤ q → A q) ∧ meth.locks = false ∧ meth.sig.returnType = ret ∧ R = rm
theorem LH.put {ls : Array Slot} {nL i : Nat} {L : List (Option Value)} {v : Value} (h : LH ls nL L) (hv : v.category = 1) : ∀ ls' : Array Slot, lv_has ls' nL ((i, v) :: ((List.range L.length).filterMap (fun j => (L[j]?.join).map (fun v => (j, v)))).filter (fun q => !(q.1 == i) && !(q.1 + 1 == i && q.2.category == 2))) → LH ls' nL (L.set i (some v)) := by
  intro ls' h'
  refine ⟨h'.1, h'.2.1, fun j u hj => ?_, by rw [List.length_set]; exact h.2.2.2⟩
  by_cases e : j = i
  · subst e
    have hlt : j < L.length := by
      have := (List.getElem?_eq_some_iff.mp hj).1
      rwa [List.length_set] at this
    rw [List.getElem?_set_self hlt] at hj
    cases hj
    exact ⟨h'.2.2 (j, v) List.mem_cons_self, hv⟩
  · rw [List.getElem?_set_ne (Ne.symm e)] at hj
    have hlt : j < L.length := (List.getElem?_eq_some_iff.mp hj).1
    have hc := (h.2.2.1 j u hj).2
    refine ⟨h'.2.2 (j, u) (List.mem_cons_of_mem _ (List.mem_filter.mpr ⟨List.mem_filterMap.mpr ⟨j, List.mem_range.mpr hlt, ?_⟩, ?_⟩)), hc⟩
    · rw [hj]; rfl
    · simp [e, hc]
theorem LH.has {ls : Array Slot} {nL : Nat} {L : List (Option Value)} (h : LH ls nL L) : lv_has ls nL ((List.range L.length).filterMap (fun j => (L[j]?.join).map (fun v => (j, v)))) := by
  refine ⟨h.1, h.2.1, fun q hq => ?_⟩
  obtain ⟨j, -, hj⟩ := List.mem_filterMap.mp hq
  cases hL : L[j]? with
  | none => rw [hL] at hj; cases hj
  | some o =>
    cases o with
    | none => rw [hL] at hj; cases hj
    | some v =>
      rw [hL] at hj
      cases hj
      exact (h.2.2.1 j v hL).1
section ZV
variable {x : CT} {cc : ByteArray} {own : String} {rm : Room} {ret : Option FieldType} {pc pc' : Nat} {L : List (Option Value)} {st : List Value} {P : GT → Nat → Prop} {cs ss : Nat}
theorem V.imp {P' : GT → Nat → Prop} (h : ∀ G sz, P G sz → P' G sz) (k : V x pc L st P' cs ss) : V x pc L st P cs ss := by
  obtain ⟨p, l, e, R, s, m, args, below, meth, c, Q, D, A, nL⟩ := x
  exact fun G sz H locs ls hP => k G sz H locs ls (h G sz hP)
theorem V.wide {cs' ss' : Nat} (h1 : cs ≤ cs') (h2 : ss ≤ ss') (k : V x pc L st P cs' ss') : V x pc L st P cs ss := by
  obtain ⟨p, l, e, R, s, m, args, below, meth, c, Q, D, A, nL⟩ := x
  exact fun G sz H locs ls a1 a2 a3 a4 a5 a6 => W.widen h1 h2 (k G sz H locs ls a1 a2 a3 a4 a5 a6)
theorem V.sub {L' : List (Option Value)} (hn : L'.length = L.length) (h : ∀ (i : Nat) (v : Value), L'[i]? = some (some v) → L[i]? = some (some v)) (k : V x pc L' st P cs ss) : V x pc L st P cs ss := by
  obtain ⟨p, l, e, R, s, m, args, below, meth, c, Q, D, A, nL⟩ := x
  exact fun G sz H locs ls a1 a2 a3 a4 a5 a6 => k G sz H locs ls a1 a2 a3 a4 a5 ⟨a6.1, a6.2.1, fun i v hi => a6.2.2.1 i v (h i v hi), by rw [hn]; exact a6.2.2.2⟩

theorem v_iconst (hx : CX x cc own rm ret) {n : Int} {v : Int32} (d : decode cc pc = .ok (.iconst n, 1)) (hv : Int32.ofInt n = v) (hp : pc + 1 = pc') (k : V x pc' L (.int v :: st) P cs ss) : V x pc L (st) P cs ss := by
  obtain ⟨p, l, e, R, s, m, args, below, meth, c, Q, D, A, nL⟩ := x
  obtain ⟨hx, hb, hml, hown, hts, hK, hA, hlk, hr, hR⟩ := hx
  subst hp
  intro G sz H locs ls a1 a2 a3 a4 a5 a6
  exact lv_iconst hx hb d hv (k G sz H locs ls a1 a2 a3 a4 a5 a6)
theorem v_bipush (hx : CX x cc own rm ret) {n : Int} {v : Int32} (d : decode cc pc = .ok (.bipush n, 2)) (hv : (Int8.ofInt n).toInt32 = v) (hp : pc + 2 = pc') (k : V x pc' L (.int v :: st) P cs ss) : V x pc L (st) P cs ss := by
  obtain ⟨p, l, e, R, s, m, args, below, meth, c, Q, D, A, nL⟩ := x
  obtain ⟨hx, hb, hml, hown, hts, hK, hA, hlk, hr, hR⟩ := hx
  subst hp
  intro G sz H locs ls a1 a2 a3 a4 a5 a6
  exact lv_bipush hx hb d hv (k G sz H locs ls a1 a2 a3 a4 a5 a6)
theorem v_sipush (hx : CX x cc own rm ret) {n : Int} {v : Int32} (d : decode cc pc = .ok (.sipush n, 3)) (hv : (Int16.ofInt n).toInt32 = v) (hp : pc + 3 = pc') (k : V x pc' L (.int v :: st) P cs ss) : V x pc L (st) P cs ss := by
  obtain ⟨p, l, e, R, s, m, args, below, meth, c, Q, D, A, nL⟩ := x
  obtain ⟨hx, hb, hml, hown, hts, hK, hA, hlk, hr, hR⟩ := hx
  subst hp
  intro G sz H locs ls a1 a2 a3 a4 a5 a6
  exact lv_sipush hx hb d hv (k G sz H locs ls a1 a2 a3 a4 a5 a6)
theorem v_null (hx : CX x cc own rm ret) (d : decode cc pc = .ok (.aconst_null, 1)) (hp : pc + 1 = pc') (k : V x pc' L (va_rf none :: st) P cs ss) : V x pc L (st) P cs ss := by
  obtain ⟨p, l, e, R, s, m, args, below, meth, c, Q, D, A, nL⟩ := x
  obtain ⟨hx, hb, hml, hown, hts, hK, hA, hlk, hr, hR⟩ := hx
  subst hp
  intro G sz H locs ls a1 a2 a3 a4 a5 a6
  exact lv_null hx hb d (k G sz H locs ls a1 a2 a3 a4 a5 a6)
theorem v_iload_n (hx : CX x cc own rm ret) {i : Fin 4} {v : Int32} (d : decode cc pc = .ok (.iload_n i, 1)) (hl : L[(i : Nat)]? = some (some (.int v))) (hp : pc + 1 = pc') (k : V x pc' L (.int v :: st) P cs ss) : V x pc L (st) P cs ss := by
  obtain ⟨p, l, e, R, s, m, args, below, meth, c, Q, D, A, nL⟩ := x
  obtain ⟨hx, hb, hml, hown, hts, hK, hA, hlk, hr, hR⟩ := hx
  subst hp
  intro G sz H locs ls a1 a2 a3 a4 a5 a6
  exact lv_iload_n hx hb d rfl (a6.2.2.1 _ _ hl).1 (k G sz H locs ls a1 a2 a3 a4 a5 a6)
theorem v_iload (hx : CX x cc own rm ret) {i : Nat} {v : Int32} (d : decode cc pc = .ok (.iload i, 2)) (hl : L[i]? = some (some (.int v))) (hp : pc + 2 = pc') (k : V x pc' L (.int v :: st) P cs ss) : V x pc L (st) P cs ss := by
  obtain ⟨p, l, e, R, s, m, args, below, meth, c, Q, D, A, nL⟩ := x
  obtain ⟨hx, hb, hml, hown, hts, hK, hA, hlk, hr, hR⟩ := hx
  subst hp
  intro G sz H locs ls a1 a2 a3 a4 a5 a6
  exact lv_iload hx hb d (a6.2.2.1 _ _ hl).1 (k G sz H locs ls a1 a2 a3 a4 a5 a6)
theorem v_aload_n (hx : CX x cc own rm ret) {i : Fin 4} {v : Nat} (d : decode cc pc = .ok (.aload_n i, 1)) (hl : L[(i : Nat)]? = some (some (.ref v))) (hp : pc + 1 = pc') (k : V x pc' L (.ref v :: st) P cs ss) : V x pc L (st) P cs ss := by
  obtain ⟨p, l, e, R, s, m, args, below, meth, c, Q, D, A, nL⟩ := x
  obtain ⟨hx, hb, hml, hown, hts, hK, hA, hlk, hr, hR⟩ := hx
  subst hp
  intro G sz H locs ls a1 a2 a3 a4 a5 a6
  exact lv_aload_n hx hb d rfl (a6.2.2.1 _ _ hl).1 (k G sz H locs ls a1 a2 a3 a4 a5 a6)
theorem v_aload (hx : CX x cc own rm ret) {i : Nat} {v : Nat} (d : decode cc pc = .ok (.aload i, 2)) (hl : L[i]? = some (some (.ref v))) (hp : pc + 2 = pc') (k : V x pc' L (.ref v :: st) P cs ss) : V x pc L (st) P cs ss := by
  obtain ⟨p, l, e, R, s, m, args, below, meth, c, Q, D, A, nL⟩ := x
  obtain ⟨hx, hb, hml, hown, hts, hK, hA, hlk, hr, hR⟩ := hx
  subst hp
  intro G sz H locs ls a1 a2 a3 a4 a5 a6
  exact lv_aload hx hb d (a6.2.2.1 _ _ hl).1 (k G sz H locs ls a1 a2 a3 a4 a5 a6)
theorem v_aloadq_n (hx : CX x cc own rm ret) {i : Fin 4} {r : Option Nat} (d : decode cc pc = .ok (.aload_n i, 1)) (hl : L[(i : Nat)]? = some (some (va_rf r))) (hp : pc + 1 = pc') (k : V x pc' L (va_rf r :: st) P cs ss) : V x pc L (st) P cs ss := by
  obtain ⟨p, l, e, R, s, m, args, below, meth, c, Q, D, A, nL⟩ := x
  obtain ⟨hx, hb, hml, hown, hts, hK, hA, hlk, hr, hR⟩ := hx
  subst hp
  intro G sz H locs ls a1 a2 a3 a4 a5 a6
  cases r with
  | none => exact lv_aload_nN hx hb d rfl (a6.2.2.1 _ _ hl).1 (k G sz H locs ls a1 a2 a3 a4 a5 a6)
  | some v => exact lv_aload_n hx hb d rfl (a6.2.2.1 _ _ hl).1 (k G sz H locs ls a1 a2 a3 a4 a5 a6)
theorem v_aloadq (hx : CX x cc own rm ret) {i : Nat} {r : Option Nat} (d : decode cc pc = .ok (.aload i, 2)) (hl : L[i]? = some (some (va_rf r))) (hp : pc + 2 = pc') (k : V x pc' L (va_rf r :: st) P cs ss) : V x pc L (st) P cs ss := by
  obtain ⟨p, l, e, R, s, m, args, below, meth, c, Q, D, A, nL⟩ := x
  obtain ⟨hx, hb, hml, hown, hts, hK, hA, hlk, hr, hR⟩ := hx
  subst hp
  intro G sz H locs ls a1 a2 a3 a4 a5 a6
  cases r with
  | none => exact lv_aloadN hx hb d (a6.2.2.1 _ _ hl).1 (k G sz H locs ls a1 a2 a3 a4 a5 a6)
  | some v => exact lv_aload hx hb d (a6.2.2.1 _ _ hl).1 (k G sz H locs ls a1 a2 a3 a4 a5 a6)
theorem v_istore_n (hx : CX x cc own rm ret) {i : Fin 4} {v : Int32} (d : decode cc pc = .ok (.istore_n i, 1)) (hp : pc + 1 = pc') {L' : List (Option Value)} (hL : L.set (i : Nat) (some (.int v)) = L') (hn : (i : Nat) < L.length) (k : V x pc' L' st P cs ss) : V x pc L (.int v :: st) P cs ss := by
  obtain ⟨p, l, e, R, s, m, args, below, meth, c, Q, D, A, nL⟩ := x
  obtain ⟨hx, hb, hml, hown, hts, hK, hA, hlk, hr, hR⟩ := hx
  subst hp
  intro G sz H locs ls a1 a2 a3 a4 a5 a6
  subst hL
  exact lv_istore_n hx hb d rfl a6.has (Nat.lt_of_lt_of_le hn a6.2.2.2) rfl (fun ls1 h1 => k G sz H locs ls1 a1 a2 a3 a4 a5 (a6.put rfl ls1 h1))
theorem v_istore (hx : CX x cc own rm ret) {i : Nat} {v : Int32} (d : decode cc pc = .ok (.istore i, 2)) (hp : pc + 2 = pc') {L' : List (Option Value)} (hL : L.set i (some (.int v)) = L') (hn : i < L.length) (k : V x pc' L' st P cs ss) : V x pc L (.int v :: st) P cs ss := by
  obtain ⟨p, l, e, R, s, m, args, below, meth, c, Q, D, A, nL⟩ := x
  obtain ⟨hx, hb, hml, hown, hts, hK, hA, hlk, hr, hR⟩ := hx
  subst hp
  intro G sz H locs ls a1 a2 a3 a4 a5 a6
  subst hL
  exact lv_istore hx hb d a6.has (Nat.lt_of_lt_of_le hn a6.2.2.2) rfl (fun ls1 h1 => k G sz H locs ls1 a1 a2 a3 a4 a5 (a6.put rfl ls1 h1))
theorem v_astore_n (hx : CX x cc own rm ret) {i : Fin 4} {v : Nat} (d : decode cc pc = .ok (.astore_n i, 1)) (hp : pc + 1 = pc') {L' : List (Option Value)} (hL : L.set (i : Nat) (some (.ref v)) = L') (hn : (i : Nat) < L.length) (k : V x pc' L' st P cs ss) : V x pc L (.ref v :: st) P cs ss := by
  obtain ⟨p, l, e, R, s, m, args, below, meth, c, Q, D, A, nL⟩ := x
  obtain ⟨hx, hb, hml, hown, hts, hK, hA, hlk, hr, hR⟩ := hx
  subst hp
  intro G sz H locs ls a1 a2 a3 a4 a5 a6
  subst hL
  exact lv_astore_n hx hb d rfl a6.has (Nat.lt_of_lt_of_le hn a6.2.2.2) rfl (fun ls1 h1 => k G sz H locs ls1 a1 a2 a3 a4 a5 (a6.put rfl ls1 h1))
theorem v_astore (hx : CX x cc own rm ret) {i : Nat} {v : Nat} (d : decode cc pc = .ok (.astore i, 2)) (hp : pc + 2 = pc') {L' : List (Option Value)} (hL : L.set i (some (.ref v)) = L') (hn : i < L.length) (k : V x pc' L' st P cs ss) : V x pc L (.ref v :: st) P cs ss := by
  obtain ⟨p, l, e, R, s, m, args, below, meth, c, Q, D, A, nL⟩ := x
  obtain ⟨hx, hb, hml, hown, hts, hK, hA, hlk, hr, hR⟩ := hx
  subst hp
  intro G sz H locs ls a1 a2 a3 a4 a5 a6
  subst hL
  exact lv_astore hx hb d a6.has (Nat.lt_of_lt_of_le hn a6.2.2.2) rfl (fun ls1 h1 => k G sz H locs ls1 a1 a2 a3 a4 a5 (a6.put rfl ls1 h1))
theorem v_astoreq_n (hx : CX x cc own rm ret) {i : Fin 4} {v : Option Nat} (d : decode cc pc = .ok (.astore_n i, 1)) (hp : pc + 1 = pc') {L' : List (Option Value)} (hL : L.set (i : Nat) (some (va_rf v)) = L') (hn : (i : Nat) < L.length) (k : V x pc' L' st P cs ss) : V x pc L (va_rf v :: st) P cs ss := by
  obtain ⟨p, l, e, R, s, m, args, below, meth, c, Q, D, A, nL⟩ := x
  obtain ⟨hx, hb, hml, hown, hts, hK, hA, hlk, hr, hR⟩ := hx
  subst hp
  intro G sz H locs ls a1 a2 a3 a4 a5 a6
  subst hL
  cases v with
  | none => exact lv_astore_nN hx hb d rfl a6.has (Nat.lt_of_lt_of_le hn a6.2.2.2) rfl (fun ls1 h1 => k G sz H locs ls1 a1 a2 a3 a4 a5 (a6.put rfl ls1 h1))
  | some v => exact lv_astore_n hx hb d rfl a6.has (Nat.lt_of_lt_of_le hn a6.2.2.2) rfl (fun ls1 h1 => k G sz H locs ls1 a1 a2 a3 a4 a5 (a6.put rfl ls1 h1))
theorem v_astoreq (hx : CX x cc own rm ret) {i : Nat} {v : Option Nat} (d : decode cc pc = .ok (.astore i, 2)) (hp : pc + 2 = pc') {L' : List (Option Value)} (hL : L.set i (some (va_rf v)) = L') (hn : i < L.length) (k : V x pc' L' st P cs ss) : V x pc L (va_rf v :: st) P cs ss := by
  obtain ⟨p, l, e, R, s, m, args, below, meth, c, Q, D, A, nL⟩ := x
  obtain ⟨hx, hb, hml, hown, hts, hK, hA, hlk, hr, hR⟩ := hx
  subst hp
  intro G sz H locs ls a1 a2 a3 a4 a5 a6
  subst hL
  cases v with
  | none => exact lv_astoreN hx hb d a6.has (Nat.lt_of_lt_of_le hn a6.2.2.2) rfl (fun ls1 h1 => k G sz H locs ls1 a1 a2 a3 a4 a5 (a6.put rfl ls1 h1))
  | some v => exact lv_astore hx hb d a6.has (Nat.lt_of_lt_of_le hn a6.2.2.2) rfl (fun ls1 h1 => k G sz H locs ls1 a1 a2 a3 a4 a5 (a6.put rfl ls1 h1))
theorem v_iinc (hx : CX x cc own rm ret) {i : Nat} {n : Int} {v w0 : Int32} (d : decode cc pc = .ok (.iinc i n, 3)) (hp : pc + 3 = pc') (hl : L[i]? = some (some (.int v))) (hv : v + Int32.ofInt n = w0) {L' : List (Option Value)} (hL : L.set i (some (.int w0)) = L') (k : V x pc' L' st P cs ss) : V x pc L st P cs ss := by
  obtain ⟨p, l, e, R, s, m, args, below, meth, c, Q, D, A, nL⟩ := x
  obtain ⟨hx, hb, hml, hown, hts, hK, hA, hlk, hr, hR⟩ := hx
  subst hp
  intro G sz H locs ls a1 a2 a3 a4 a5 a6
  subst hL
  have hn : i < L.length := (List.getElem?_eq_some_iff.mp hl).1
  obtain ⟨k0, hk0⟩ : ∃ k0 : Nat, ((List.range L.length).filterMap (fun j => (L[j]?.join).map (fun v => (j, v))))[k0]? = some (i, .int v) := List.getElem?_of_mem (List.mem_filterMap.mpr ⟨i, List.mem_range.mpr hn, by rw [hl]; rfl⟩)
  exact lv_iinc hx hb d a6.has hk0 hv (Nat.lt_of_lt_of_le hn a6.2.2.2) rfl (fun ls1 h1 => k G sz H locs ls1 a1 a2 a3 a4 a5 (a6.put rfl ls1 h1))
theorem v_iadd (hx : CX x cc own rm ret) {a b : Int32} (d : decode cc pc = .ok (.iadd, 1)) (hp : pc + 1 = pc') (k : V x pc' L (.int (a + b) :: st) P cs ss) : V x pc L (.int b :: .int a :: st) P cs ss := by
  obtain ⟨p, l, e, R, s, m, args, below, meth, c, Q, D, A, nL⟩ := x
  obtain ⟨hx, hb, hml, hown, hts, hK, hA, hlk, hr, hR⟩ := hx
  subst hp
  intro G sz H locs ls a1 a2 a3 a4 a5 a6
  exact lv_iadd hx hb d (k G sz H locs ls a1 a2 a3 a4 a5 a6)
theorem v_isub (hx : CX x cc own rm ret) {a b : Int32} (d : decode cc pc = .ok (.isub, 1)) (hp : pc + 1 = pc') (k : V x pc' L (.int (a - b) :: st) P cs ss) : V x pc L (.int b :: .int a :: st) P cs ss := by
  obtain ⟨p, l, e, R, s, m, args, below, meth, c, Q, D, A, nL⟩ := x
  obtain ⟨hx, hb, hml, hown, hts, hK, hA, hlk, hr, hR⟩ := hx
  subst hp
  intro G sz H locs ls a1 a2 a3 a4 a5 a6
  exact lv_isub hx hb d (k G sz H locs ls a1 a2 a3 a4 a5 a6)
theorem v_imul (hx : CX x cc own rm ret) {a b : Int32} (d : decode cc pc = .ok (.imul, 1)) (hp : pc + 1 = pc') (k : V x pc' L (.int (a * b) :: st) P cs ss) : V x pc L (.int b :: .int a :: st) P cs ss := by
  obtain ⟨p, l, e, R, s, m, args, below, meth, c, Q, D, A, nL⟩ := x
  obtain ⟨hx, hb, hml, hown, hts, hK, hA, hlk, hr, hR⟩ := hx
  subst hp
  intro G sz H locs ls a1 a2 a3 a4 a5 a6
  exact lv_imul hx hb d (k G sz H locs ls a1 a2 a3 a4 a5 a6)
theorem v_iand (hx : CX x cc own rm ret) {a b : Int32} (d : decode cc pc = .ok (.iand, 1)) (hp : pc + 1 = pc') (k : V x pc' L (.int (a &&& b) :: st) P cs ss) : V x pc L (.int b :: .int a :: st) P cs ss := by
  obtain ⟨p, l, e, R, s, m, args, below, meth, c, Q, D, A, nL⟩ := x
  obtain ⟨hx, hb, hml, hown, hts, hK, hA, hlk, hr, hR⟩ := hx
  subst hp
  intro G sz H locs ls a1 a2 a3 a4 a5 a6
  exact lv_iand hx hb d (k G sz H locs ls a1 a2 a3 a4 a5 a6)
theorem v_ior (hx : CX x cc own rm ret) {a b : Int32} (d : decode cc pc = .ok (.ior, 1)) (hp : pc + 1 = pc') (k : V x pc' L (.int (a ||| b) :: st) P cs ss) : V x pc L (.int b :: .int a :: st) P cs ss := by
  obtain ⟨p, l, e, R, s, m, args, below, meth, c, Q, D, A, nL⟩ := x
  obtain ⟨hx, hb, hml, hown, hts, hK, hA, hlk, hr, hR⟩ := hx
  subst hp
  intro G sz H locs ls a1 a2 a3 a4 a5 a6
  exact lv_ior hx hb d (k G sz H locs ls a1 a2 a3 a4 a5 a6)
theorem v_ixor (hx : CX x cc own rm ret) {a b : Int32} (d : decode cc pc = .ok (.ixor, 1)) (hp : pc + 1 = pc') (k : V x pc' L (.int (a ^^^ b) :: st) P cs ss) : V x pc L (.int b :: .int a :: st) P cs ss := by
  obtain ⟨p, l, e, R, s, m, args, below, meth, c, Q, D, A, nL⟩ := x
  obtain ⟨hx, hb, hml, hown, hts, hK, hA, hlk, hr, hR⟩ := hx
  subst hp
  intro G sz H locs ls a1 a2 a3 a4 a5 a6
  exact lv_ixor hx hb d (k G sz H locs ls a1 a2 a3 a4 a5 a6)
theorem v_ishl (hx : CX x cc own rm ret) {a b : Int32} (d : decode cc pc = .ok (.ishl, 1)) (hp : pc + 1 = pc') (k : V x pc' L (.int (a <<< (b &&& 31)) :: st) P cs ss) : V x pc L (.int b :: .int a :: st) P cs ss := by
  obtain ⟨p, l, e, R, s, m, args, below, meth, c, Q, D, A, nL⟩ := x
  obtain ⟨hx, hb, hml, hown, hts, hK, hA, hlk, hr, hR⟩ := hx
  subst hp
  intro G sz H locs ls a1 a2 a3 a4 a5 a6
  exact lv_ishl hx hb d (k G sz H locs ls a1 a2 a3 a4 a5 a6)
theorem v_ishr (hx : CX x cc own rm ret) {a b : Int32} (d : decode cc pc = .ok (.ishr, 1)) (hp : pc + 1 = pc') (k : V x pc' L (.int (a >>> (b &&& 31)) :: st) P cs ss) : V x pc L (.int b :: .int a :: st) P cs ss := by
  obtain ⟨p, l, e, R, s, m, args, below, meth, c, Q, D, A, nL⟩ := x
  obtain ⟨hx, hb, hml, hown, hts, hK, hA, hlk, hr, hR⟩ := hx
  subst hp
  intro G sz H locs ls a1 a2 a3 a4 a5 a6
  exact lv_ishr hx hb d (k G sz H locs ls a1 a2 a3 a4 a5 a6)
theorem v_idiv (hx : CX x cc own rm ret) {a b : Int32} (d : decode cc pc = .ok (.idiv, 1)) (hne : ¬ b = 0) (hp : pc + 1 = pc') (k : V x pc' L (.int (a / b) :: st) P cs ss) : V x pc L (.int b :: .int a :: st) P cs ss := by
  obtain ⟨p, l, e, R, s, m, args, below, meth, c, Q, D, A, nL⟩ := x
  obtain ⟨hx, hb, hml, hown, hts, hK, hA, hlk, hr, hR⟩ := hx
  subst hp
  intro G sz H locs ls a1 a2 a3 a4 a5 a6
  exact lv_idiv hx hb d hne (k G sz H locs ls a1 a2 a3 a4 a5 a6)
theorem v_irem (hx : CX x cc own rm ret) {a b : Int32} (d : decode cc pc = .ok (.irem, 1)) (hne : ¬ b = 0) (hp : pc + 1 = pc') (k : V x pc' L (.int (a - a / b * b) :: st) P cs ss) : V x pc L (.int b :: .int a :: st) P cs ss := by
  obtain ⟨p, l, e, R, s, m, args, below, meth, c, Q, D, A, nL⟩ := x
  obtain ⟨hx, hb, hml, hown, hts, hK, hA, hlk, hr, hR⟩ := hx
  subst hp
  intro G sz H locs ls a1 a2 a3 a4 a5 a6
  exact lv_irem hx hb d hne (k G sz H locs ls a1 a2 a3 a4 a5 a6)
theorem v_i2b (hx : CX x cc own rm ret) {a : Int32} (d : decode cc pc = .ok (.i2b, 1)) (hp : pc + 1 = pc') (k : V x pc' L (.int a.toInt8.toInt32 :: st) P cs ss) : V x pc L (.int a :: st) P cs ss := by
  obtain ⟨p, l, e, R, s, m, args, below, meth, c, Q, D, A, nL⟩ := x
  obtain ⟨hx, hb, hml, hown, hts, hK, hA, hlk, hr, hR⟩ := hx
  subst hp
  intro G sz H locs ls a1 a2 a3 a4 a5 a6
  exact lv_i2b hx hb d rfl (k G sz H locs ls a1 a2 a3 a4 a5 a6)
theorem v_dup (hx : CX x cc own rm ret) {v : Value} (d : decode cc pc = .ok (.dup, 1)) (hc : v.category = 1) (hp : pc + 1 = pc') (k : V x pc' L (v :: v :: st) P cs ss) : V x pc L (v :: st) P cs ss := by
  obtain ⟨p, l, e, R, s, m, args, below, meth, c, Q, D, A, nL⟩ := x
  obtain ⟨hx, hb, hml, hown, hts, hK, hA, hlk, hr, hR⟩ := hx
  subst hp
  intro G sz H locs ls a1 a2 a3 a4 a5 a6
  exact lv_dup hx hb d hc (k G sz H locs ls a1 a2 a3 a4 a5 a6)
theorem v_dup2 (hx : CX x cc own rm ret) {v u : Value} (d : decode cc pc = .ok (.dup2, 1)) (hc : v.category = 1) (hd : u.category = 1) (hp : pc + 1 = pc') (k : V x pc' L (v :: u :: v :: u :: st) P cs ss) : V x pc L (v :: u :: st) P cs ss := by
  obtain ⟨p, l, e, R, s, m, args, below, meth, c, Q, D, A, nL⟩ := x
  obtain ⟨hx, hb, hml, hown, hts, hK, hA, hlk, hr, hR⟩ := hx
  subst hp
  intro G sz H locs ls a1 a2 a3 a4 a5 a6
  exact lv_dup2_11 hx hb d hc hd (k G sz H locs ls a1 a2 a3 a4 a5 a6)
theorem v_icmp_eq (hx : CX x cc own rm ret) {a b : Int32} {off : Int} {tgt : Nat} (d : decode cc pc = .ok (.if_icmp .eq off, 3)) (ht : (pc : Int) + off = (tgt : Int)) (hp : pc + 3 = pc') (kt : a = b → V x tgt L st P cs ss) (kf : ¬ (a = b) → V x pc' L st P cs ss) : V x pc L (.int b :: .int a :: st) P cs ss := by
  obtain ⟨p, l, e, R, s, m, args, below, meth, c, Q, D, A, nL⟩ := x
  obtain ⟨hx, hb, hml, hown, hts, hK, hA, hlk, hr, hR⟩ := hx
  subst hp
  intro G sz H locs ls a1 a2 a3 a4 a5 a6
  exact lv_icmp_eq hx hb d ht (fun q => kt q G sz H locs ls a1 a2 a3 a4 a5 a6) (fun q => kf q G sz H locs ls a1 a2 a3 a4 a5 a6)
theorem v_if_eq (hx : CX x cc own rm ret) {a : Int32} {off : Int} {tgt : Nat} (d : decode cc pc = .ok (.ifCond .eq off, 3)) (ht : (pc : Int) + off = (tgt : Int)) (hp : pc + 3 = pc') (kt : a = 0 → V x tgt L st P cs ss) (kf : ¬ (a = 0) → V x pc' L st P cs ss) : V x pc L (.int a :: st) P cs ss := by
  obtain ⟨p, l, e, R, s, m, args, below, meth, c, Q, D, A, nL⟩ := x
  obtain ⟨hx, hb, hml, hown, hts, hK, hA, hlk, hr, hR⟩ := hx
  subst hp
  intro G sz H locs ls a1 a2 a3 a4 a5 a6
  exact lv_if_eq hx hb d ht (fun q => kt q G sz H locs ls a1 a2 a3 a4 a5 a6) (fun q => kf q G sz H locs ls a1 a2 a3 a4 a5 a6)
theorem v_icmp_ne (hx : CX x cc own rm ret) {a b : Int32} {off : Int} {tgt : Nat} (d : decode cc pc = .ok (.if_icmp .ne off, 3)) (ht : (pc : Int) + off = (tgt : Int)) (hp : pc + 3 = pc') (kt : ¬ a = b → V x tgt L st P cs ss) (kf : a = b → V x pc' L st P cs ss) : V x pc L (.int b :: .int a :: st) P cs ss := by
  obtain ⟨p, l, e, R, s, m, args, below, meth, c, Q, D, A, nL⟩ := x
  obtain ⟨hx, hb, hml, hown, hts, hK, hA, hlk, hr, hR⟩ := hx
  subst hp
  intro G sz H locs ls a1 a2 a3 a4 a5 a6
  exact lv_icmp_ne hx hb d ht (fun q => kt q G sz H locs ls a1 a2 a3 a4 a5 a6) (fun q => kf q G sz H locs ls a1 a2 a3 a4 a5 a6)
theorem v_if_ne (hx : CX x cc own rm ret) {a : Int32} {off : Int} {tgt : Nat} (d : decode cc pc = .ok (.ifCond .ne off, 3)) (ht : (pc : Int) + off = (tgt : Int)) (hp : pc + 3 = pc') (kt : ¬ a = 0 → V x tgt L st P cs ss) (kf : a = 0 → V x pc' L st P cs ss) : V x pc L (.int a :: st) P cs ss := by
  obtain ⟨p, l, e, R, s, m, args, below, meth, c, Q, D, A, nL⟩ := x
  obtain ⟨hx, hb, hml, hown, hts, hK, hA, hlk, hr, hR⟩ := hx
  subst hp
  intro G sz H locs ls a1 a2 a3 a4 a5 a6
  exact lv_if_ne hx hb d ht (fun q => kt q G sz H locs ls a1 a2 a3 a4 a5 a6) (fun q => kf q G sz H locs ls a1 a2 a3 a4 a5 a6)
theorem v_icmp_lt (hx : CX x cc own rm ret) {a b : Int32} {off : Int} {tgt : Nat} (d : decode cc pc = .ok (.if_icmp .lt off, 3)) (ht : (pc : Int) + off = (tgt : Int)) (hp : pc + 3 = pc') (kt : a < b → V x tgt L st P cs ss) (kf : ¬ (a < b) → V x pc' L st P cs ss) : V x pc L (.int b :: .int a :: st) P cs ss := by
  obtain ⟨p, l, e, R, s, m, args, below, meth, c, Q, D, A, nL⟩ := x
  obtain ⟨hx, hb, hml, hown, hts, hK, hA, hlk, hr, hR⟩ := hx
  subst hp
  intro G sz H locs ls a1 a2 a3 a4 a5 a6
  exact lv_icmp_lt hx hb d ht (fun q => kt q G sz H locs ls a1 a2 a3 a4 a5 a6) (fun q => kf q G sz H locs ls a1 a2 a3 a4 a5 a6)
theorem v_if_lt (hx : CX x cc own rm ret) {a : Int32} {off : Int} {tgt : Nat} (d : decode cc pc = .ok (.ifCond .lt off, 3)) (ht : (pc : Int) + off = (tgt : Int)) (hp : pc + 3 = pc') (kt : a < 0 → V x tgt L st P cs ss) (kf : ¬ (a < 0) → V x pc' L st P cs ss) : V x pc L (.int a :: st) P cs ss := by
  obtain ⟨p, l, e, R, s, m, args, below, meth, c, Q, D, A, nL⟩ := x
  obtain ⟨hx, hb, hml, hown, hts, hK, hA, hlk, hr, hR⟩ := hx
  subst hp
  intro G sz H locs ls a1 a2 a3 a4 a5 a6
  exact lv_if_lt hx hb d ht (fun q => kt q G sz H locs ls a1 a2 a3 a4 a5 a6) (fun q => kf q G sz H locs ls a1 a2 a3 a4 a5 a6)
theorem v_icmp_ge (hx : CX x cc own rm ret) {a b : Int32} {off : Int} {tgt : Nat} (d : decode cc pc = .ok (.if_icmp .ge off, 3)) (ht : (pc : Int) + off = (tgt : Int)) (hp : pc + 3 = pc') (kt : b ≤ a → V x tgt L st P cs ss) (kf : ¬ (b ≤ a) → V x pc' L st P cs ss) : V x pc L (.int b :: .int a :: st) P cs ss := by
  obtain ⟨p, l, e, R, s, m, args, below, meth, c, Q, D, A, nL⟩ := x
  obtain ⟨hx, hb, hml, hown, hts, hK, hA, hlk, hr, hR⟩ := hx
  subst hp
  intro G sz H locs ls a1 a2 a3 a4 a5 a6
  exact lv_icmp_ge hx hb d ht (fun q => kt q G sz H locs ls a1 a2 a3 a4 a5 a6) (fun q => kf q G sz H locs ls a1 a2 a3 a4 a5 a6)
theorem v_if_ge (hx : CX x cc own rm ret) {a : Int32} {off : Int} {tgt : Nat} (d : decode cc pc = .ok (.ifCond .ge off, 3)) (ht : (pc : Int) + off = (tgt : Int)) (hp : pc + 3 = pc') (kt : 0 ≤ a → V x tgt L st P cs ss) (kf : ¬ (0 ≤ a) → V x pc' L st P cs ss) : V x pc L (.int a :: st) P cs ss := by
  obtain ⟨p, l, e, R, s, m, args, below, meth, c, Q, D, A, nL⟩ := x
  obtain ⟨hx, hb, hml, hown, hts, hK, hA, hlk, hr, hR⟩ := hx
  subst hp
  intro G sz H locs ls a1 a2 a3 a4 a5 a6
  exact lv_if_ge hx hb d ht (fun q => kt q G sz H locs ls a1 a2 a3 a4 a5 a6) (fun q => kf q G sz H locs ls a1 a2 a3 a4 a5 a6)
theorem v_icmp_gt (hx : CX x cc own rm ret) {a b : Int32} {off : Int} {tgt : Nat} (d : decode cc pc = .ok (.if_icmp .gt off, 3)) (ht : (pc : Int) + off = (tgt : Int)) (hp : pc + 3 = pc') (kt : b < a → V x tgt L st P cs ss) (kf : ¬ (b < a) → V x pc' L st P cs ss) : V x pc L (.int b :: .int a :: st) P cs ss := by
  obtain ⟨p, l, e, R, s, m, args, below, meth, c, Q, D, A, nL⟩ := x
  obtain ⟨hx, hb, hml, hown, hts, hK, hA, hlk, hr, hR⟩ := hx
  subst hp
  intro G sz H locs ls a1 a2 a3 a4 a5 a6
  exact lv_icmp_gt hx hb d ht (fun q => kt q G sz H locs ls a1 a2 a3 a4 a5 a6) (fun q => kf q G sz H locs ls a1 a2 a3 a4 a5 a6)
theorem v_if_gt (hx : CX x cc own rm ret) {a : Int32} {off : Int} {tgt : Nat} (d : decode cc pc = .ok (.ifCond .gt off, 3)) (ht : (pc : Int) + off = (tgt : Int)) (hp : pc + 3 = pc') (kt : 0 < a → V x tgt L st P cs ss) (kf : ¬ (0 < a) → V x pc' L st P cs ss) : V x pc L (.int a :: st) P cs ss := by
  obtain ⟨p, l, e, R, s, m, args, below, meth, c, Q, D, A, nL⟩ := x
  obtain ⟨hx, hb, hml, hown, hts, hK, hA, hlk, hr, hR⟩ := hx
  subst hp
  intro G sz H locs ls a1 a2 a3 a4 a5 a6
  exact lv_if_gt hx hb d ht (fun q => kt q G sz H locs ls a1 a2 a3 a4 a5 a6) (fun q => kf q G sz H locs ls a1 a2 a3 a4 a5 a6)
theorem v_icmp_le (hx : CX x cc own rm ret) {a b : Int32} {off : Int} {tgt : Nat} (d : decode cc pc = .ok (.if_icmp .le off, 3)) (ht : (pc : Int) + off = (tgt : Int)) (hp : pc + 3 = pc') (kt : a ≤ b → V x tgt L st P cs ss) (kf : ¬ (a ≤ b) → V x pc' L st P cs ss) : V x pc L (.int b :: .int a :: st) P cs ss := by
  obtain ⟨p, l, e, R, s, m, args, below, meth, c, Q, D, A, nL⟩ := x
  obtain ⟨hx, hb, hml, hown, hts, hK, hA, hlk, hr, hR⟩ := hx
  subst hp
  intro G sz H locs ls a1 a2 a3 a4 a5 a6
  exact lv_icmp_le hx hb d ht (fun q => kt q G sz H locs ls a1 a2 a3 a4 a5 a6) (fun q => kf q G sz H locs ls a1 a2 a3 a4 a5 a6)
theorem v_if_le (hx : CX x cc own rm ret) {a : Int32} {off : Int} {tgt : Nat} (d : decode cc pc = .ok (.ifCond .le off, 3)) (ht : (pc : Int) + off = (tgt : Int)) (hp : pc + 3 = pc') (kt : a ≤ 0 → V x tgt L st P cs ss) (kf : ¬ (a ≤ 0) → V x pc' L st P cs ss) : V x pc L (.int a :: st) P cs ss := by
  obtain ⟨p, l, e, R, s, m, args, below, meth, c, Q, D, A, nL⟩ := x
  obtain ⟨hx, hb, hml, hown, hts, hK, hA, hlk, hr, hR⟩ := hx
  subst hp
  intro G sz H locs ls a1 a2 a3 a4 a5 a6
  exact lv_if_le hx hb d ht (fun q => kt q G sz H locs ls a1 a2 a3 a4 a5 a6) (fun q => kf q G sz H locs ls a1 a2 a3 a4 a5 a6)
theorem v_ifnull (hx : CX x cc own rm ret) {r : Option Nat} {off : Int} {tgt : Nat} (d : decode cc pc = .ok (.ifnull off, 3)) (ht : (pc : Int) + off = (tgt : Int)) (hp : pc + 3 = pc') (kt : r = none → V x tgt L st P cs ss) (kf : ∀ a, r = some a → V x pc' L st P cs ss) : V x pc L (va_rf r :: st) P cs ss := by
  obtain ⟨p, l, e, R, s, m, args, below, meth, c, Q, D, A, nL⟩ := x
  obtain ⟨hx, hb, hml, hown, hts, hK, hA, hlk, hr, hR⟩ := hx
  subst hp
  intro G sz H locs ls a1 a2 a3 a4 a5 a6
  cases r with
  | none => exact lv_ifnullN hx hb d ht (kt rfl G sz H locs ls a1 a2 a3 a4 a5 a6)
  | some a => exact lv_ifnull hx hb d (kf a rfl G sz H locs ls a1 a2 a3 a4 a5 a6)
theorem v_ifnonnull (hx : CX x cc own rm ret) {r : Option Nat} {off : Int} {tgt : Nat} (d : decode cc pc = .ok (.ifnonnull off, 3)) (ht : (pc : Int) + off = (tgt : Int)) (hp : pc + 3 = pc') (kt : ∀ a, r = some a → V x tgt L st P cs ss) (kf : r = none → V x pc' L st P cs ss) : V x pc L (va_rf r :: st) P cs ss := by
  obtain ⟨p, l, e, R, s, m, args, below, meth, c, Q, D, A, nL⟩ := x
  obtain ⟨hx, hb, hml, hown, hts, hK, hA, hlk, hr, hR⟩ := hx
  subst hp
  intro G sz H locs ls a1 a2 a3 a4 a5 a6
  cases r with
  | none => exact lv_ifnonnullN hx hb d (kf rfl G sz H locs ls a1 a2 a3 a4 a5 a6)
  | some a => exact lv_ifnonnull hx hb d ht (kt a rfl G sz H locs ls a1 a2 a3 a4 a5 a6)
theorem v_goto (hx : CX x cc own rm ret) {off : Int} {tgt : Nat} (d : decode cc pc = .ok (.goto off, 3)) (ht : (pc : Int) + off = (tgt : Int)) (k : V x tgt L st P cs ss) : V x pc L st P cs ss := by
  obtain ⟨p, l, e, R, s, m, args, below, meth, c, Q, D, A, nL⟩ := x
  obtain ⟨hx, hb, hml, hown, hts, hK, hA, hlk, hr, hR⟩ := hx
  intro G sz H locs ls a1 a2 a3 a4 a5 a6
  exact lv_goto hx hb d ht (k G sz H locs ls a1 a2 a3 a4 a5 a6)
theorem v_tblOut (hx : CX x cc own rm ret) {dflt lo hi : Int} {offs : Array Int} {len : Nat} {a : Int32} {tgt : Nat} (d : decode cc pc = .ok (.tableswitch dflt lo hi offs, len)) (h : a.toInt < lo ∨ hi < a.toInt) (ht : (pc : Int) + dflt = (tgt : Int)) (k : V x tgt L st P cs ss) : V x pc L (.int a :: st) P cs ss := by
  obtain ⟨p, l, e, R, s, m, args, below, meth, c, Q, D, A, nL⟩ := x
  obtain ⟨hx, hb, hml, hown, hts, hK, hA, hlk, hr, hR⟩ := hx
  intro G sz H locs ls a1 a2 a3 a4 a5 a6
  exact lv_tableOut hx hb d h ht (k G sz H locs ls a1 a2 a3 a4 a5 a6)
theorem v_tblIn (hx : CX x cc own rm ret) {dflt lo hi : Int} {offs : Array Int} {len : Nat} {a : Int32} {off : Int} {tgt : Nat} (d : decode cc pc = .ok (.tableswitch dflt lo hi offs, len)) (h1 : ¬ a.toInt < lo) (h2 : ¬ hi < a.toInt) (ho : offs[(a.toInt - lo).toNat]? = some off) (ht : (pc : Int) + off = (tgt : Int)) (k : V x tgt L st P cs ss) : V x pc L (.int a :: st) P cs ss := by
  obtain ⟨p, l, e, R, s, m, args, below, meth, c, Q, D, A, nL⟩ := x
  obtain ⟨hx, hb, hml, hown, hts, hK, hA, hlk, hr, hR⟩ := hx
  intro G sz H locs ls a1 a2 a3 a4 a5 a6
  exact lv_tableIn hx hb d h1 h2 ho ht (k G sz H locs ls a1 a2 a3 a4 a5 a6)
end ZV
