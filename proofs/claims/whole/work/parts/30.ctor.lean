/-! objects that are being made: the world beside raw cells -/
def dflt (c : Nat) : List Value := (List.range (nF c)).map (fun k => if kd c k = 0 then .int 0 else .null)
def bump (w : Wd) : Wd := (w.1, w.2.1, w.2.2.1, w.2.2.2.1, zS w + 1)
def mkO (w : Wd) (c q : Nat) (fI : Nat → Nat → Int32) (fR : Nat → Nat → Option Nat) (fA : Nat → Nat) : Wd := (fun c' a k j => if c' = c ∧ a = q then fI k j else w.1 c' a k j, fun c' a k j => if c' = c ∧ a = q then fR k j else w.2.1 c' a k j, fun c' a k => if c' = c ∧ a = q then fA k else w.2.2.1 c' a k, fun c' a => if c' = c ∧ a = q then true else w.2.2.2.1 c' a, zS w)
def FPf (w : Wd) (a : Nat) : Prop := (∀ c, w.2.2.2.1 c a = false) ∧ ∀ c b k, w.2.2.2.1 c b = true → k < nF c → 2 ≤ kd c k → w.2.2.1 c b k ≠ a
def RY (D : DD) (w : Wd) (X : va_W) (G : GT) (sz : Nat) : Prop := Rp D w G sz ∧ (∀ p ∈ X, G p.1 = some p.2 ∧ FPf w p.1) ∧ (X.map (fun p => p.1)).Nodup
theorem dflt_ok : ∀ c, c < 7 → ∀ j, j < nF c → defaultValue (TYs c j) = vp_V (dflt c) j := by decide +kernel
theorem Rp_bump {D : DD} {w : Wd} {G G' : GT} {sz : Nat} (h : Rp D w G sz) (hG : ∀ a e, G a = some e → G' a = some e) : Rp D (bump w) G' (sz + 1) :=
  ⟨fun c a hl => ⟨(h.1 c a hl).1, hG _ _ (h.1 c a hl).2⟩, fun c a k hl hk hd => hG _ _ (h.2.1 c a k hl hk hd), h.2.2.1, h.2.2.2.1, by rw [h.2.2.2.2]; rfl⟩
theorem gset_fresh {G : GT} {q : Nat} {e : va_E} (h : G q = none) : ∀ a e', G a = some e' → gset G q e a = some e' := by
  intro a e' ha
  by_cases c : a = q
  · subst c; rw [h] at ha; cases ha
  · rw [gset_n _ _ c]; exact ha
theorem GP_none {D : DD} {G : GT} {H : Heap} (h : GP D G H) : G H.size = none := by
  cases hg : G H.size with
  | none => rfl
  | some e => exact absurd (h _ _ hg).lt (Nat.lt_irrefl _)
theorem FP_fresh {D : DD} {w : Wd} {G : GT} {sz : Nat} (h : Rp D w G sz) {a : Nat} (ha : G a = none) : FPf w a := by
  refine ⟨fun c => ?_, fun c b k hl hk hd e => ?_⟩
  · cases q : w.2.2.2.1 c a with
    | false => rfl
    | true => have := (h.1 c a q).2; rw [ha] at this; cases this
  · have := h.2.1 c b k hl hk hd
    rw [e, ha] at this; cases this
theorem RY_push {D : DD} {w : Wd} {X : va_W} {G : GT} {sz : Nat} {e : va_E} (h : RY D w X G sz) (hn : G sz = none) : RY D (bump w) (X ++ [(sz, e)]) (gset G sz e) (sz + 1) := by
  refine ⟨Rp_bump h.1 (gset_fresh hn), fun p hp => ?_, ?_⟩
  · rcases List.mem_append.mp hp with q | q
    · exact ⟨gset_fresh hn _ _ (h.2.1 p q).1, (h.2.1 p q).2⟩
    · simp only [List.mem_singleton] at q
      subst q
      exact ⟨gset_s _ _ _, FP_fresh h.1 hn⟩
  · rw [List.map_append, List.nodup_append]
    refine ⟨h.2.2, by simp, fun a ha b hb => ?_⟩
    simp only [List.map_cons, List.map_nil, List.mem_singleton] at hb
    subst hb
    obtain ⟨p, hp, rfl⟩ := List.mem_map.mp ha
    intro e2
    have := (h.2.1 p hp).1
    rw [e2, hn] at this
    cases this
theorem nodup_set {X : va_W} {i : Nat} {q : Nat} {e e' : va_E} (hi : X[i]? = some (q, e)) (h : (X.map (fun p => p.1)).Nodup) : ((X.set i (q, e')).map (fun p => p.1)).Nodup := by
  have : (X.set i (q, e')).map (fun p => p.1) = X.map (fun p => p.1) := by
    rw [List.map_set]
    apply List.ext_getElem?
    intro j
    by_cases hj : j = i
    · subst hj
      have hl : j < X.length := (List.getElem?_eq_some_iff.mp hi).1
      rw [List.getElem?_set_self (by simpa using hl), List.getElem?_map, hi]
      rfl
    · rw [List.getElem?_set_ne (Ne.symm hj)]
  rw [this]; exact h
theorem RY_set {D : DD} {w : Wd} {X : va_W} {G : GT} {sz : Nat} {i q : Nat} {e e' : va_E} (h : RY D w X G sz) (hi : X[i]? = some (q, e)) : RY D w (X.set i (q, e')) (gset G q e') sz := by
  have hm := List.mem_of_getElem? hi
  have hf := (h.2.1 _ hm).2
  have hq : ∀ c a, w.2.2.2.1 c a = true → a ≠ q := fun c a hl e => by subst e; rw [hf.1 c] at hl; cases hl
  refine ⟨⟨fun c a hl => ⟨(h.1.1 c a hl).1, by rw [gset_n _ _ (hq c a hl)]; exact (h.1.1 c a hl).2⟩, fun c a k hl hk hd => by rw [gset_n _ _ (hf.2 c a k hl hk hd)]; exact h.1.2.1 c a k hl hk hd, h.1.2.2⟩, fun p hp => ?_, nodup_set hi h.2.2⟩
  obtain ⟨j, hj⟩ := List.getElem?_of_mem hp
  by_cases hji : j = i
  · subst hji
    rw [List.getElem?_set_self (List.getElem?_eq_some_iff.mp hi).1] at hj
    cases hj
    exact ⟨gset_s _ _ _, hf⟩
  · rw [List.getElem?_set_ne (Ne.symm hji)] at hj
    have hpm := List.mem_of_getElem? hj
    refine ⟨?_, (h.2.1 p hpm).2⟩
    rw [gset_n]
    · exact (h.2.1 p hpm).1
    · intro e2
      have h1 : (X.map (fun p => p.1))[j]? = some p.1 := by rw [List.getElem?_map, hj]; rfl
      have h2 : (X.map (fun p => p.1))[i]? = some q := by rw [List.getElem?_map, hi]; rfl
      rw [e2, ← h2] at h1
      have hlt : j < (X.map (fun p => p.1)).length := by simpa using (List.getElem?_eq_some_iff.mp hj).1
      exact hji ((List.getElem?_inj hlt h.2.2).mp h1)
/-- the object is whole: it comes into the world -/
theorem RY_done {D : DD} {w : Wd} {X : va_W} {G : GT} {sz c q : Nat} {fI : Nat → Nat → Int32} {fR : Nat → Nat → Option Nat} {fA : Nat → Nat} (h : RY D w X G sz) (hc : c < 7) (ho : (q, Sum.inr (c, fl (mkO w c q fI fR fA) c q)) ∈ X)
    (ha : ∀ k, k < nF c → 2 ≤ kd c k → (fA k, cn D (mkO w c q fI fR fA) c q k) ∈ X) (hinj : ∀ k, k < nF c → ∀ k', k' < nF c → 2 ≤ kd c k → 2 ≤ kd c k' → fA k = fA k' → k = k') (hr : ∀ k j b, fR k j = some b → w.2.2.2.1 (tg c k) b = true) : Rp D (mkO w c q fI fR fA) G sz := by
  have hf := (h.2.1 _ ho).2
  have hq : ∀ c' a, w.2.2.2.1 c' a = true → ¬ (c' = c ∧ a = q) := fun c' a hl e => by obtain ⟨rfl, rfl⟩ := e; rw [hf.1] at hl; cases hl
  have hL : ∀ c' a, (mkO w c q fI fR fA).2.2.2.1 c' a = true → (c' = c ∧ a = q) ∨ (w.2.2.2.1 c' a = true ∧ ¬ (c' = c ∧ a = q)) := by
    intro c' a hl
    have hl' : (if c' = c ∧ a = q then true else w.2.2.2.1 c' a) = true := hl
    by_cases e : c' = c ∧ a = q
    · exact Or.inl e
    · rw [if_neg e] at hl'; exact Or.inr ⟨hl', e⟩
  have eI : ∀ c' a, ¬ (c' = c ∧ a = q) → ∀ k, (mkO w c q fI fR fA).1 c' a k = w.1 c' a k := fun c' a e k => by funext j; exact if_neg e
  have eR : ∀ c' a, ¬ (c' = c ∧ a = q) → ∀ k, (mkO w c q fI fR fA).2.1 c' a k = w.2.1 c' a k := fun c' a e k => by funext j; exact if_neg e
  have eA : ∀ c' a, ¬ (c' = c ∧ a = q) → ∀ k, (mkO w c q fI fR fA).2.2.1 c' a k = w.2.2.1 c' a k := fun c' a e k => if_neg e
  have sA : ∀ k, (mkO w c q fI fR fA).2.2.1 c q k = fA k := fun k => if_pos ⟨rfl, rfl⟩
  refine ⟨fun c' a hl => ?_, fun c' a k hl hk hd => ?_, fun c1 a1 k1 c2 a2 k2 h1 h2 g1 g2 g3 g4 e => ?_, fun c' a k j b hl hb => ?_, h.1.2.2.2.2⟩
  · rcases hL c' a hl with ⟨rfl, rfl⟩ | ⟨hl', e⟩
    · exact ⟨hc, (h.2.1 _ ho).1⟩
    · refine ⟨(h.1.1 c' a hl').1, (h.1.1 c' a hl').2.trans ?_⟩
      congr 3
      apply List.map_congr_left
      intro k _
      unfold fv
      rw [eI c' a e, eR c' a e, eA c' a e]
  · rcases hL c' a hl with ⟨rfl, rfl⟩ | ⟨hl', e⟩
    · rw [sA]; exact (h.2.1 _ (ha k hk hd)).1
    · rw [eA c' a e, h.1.2.1 c' a k hl' hk hd]
      unfold cn
      rw [eI c' a e, eR c' a e]
  · rcases hL c1 a1 h1 with ⟨rfl, rfl⟩ | ⟨l1, n1⟩ <;> rcases hL c2 a2 h2 with ⟨rfl, rfl⟩ | ⟨l2, n2⟩
    · rw [sA, sA] at e; exact ⟨rfl, rfl, hinj _ g1 _ g3 g2 g4 e⟩
    · rw [sA, eA _ _ n2] at e; exact absurd e.symm ((h.2.1 _ (ha k1 g1 g2)).2.2 c2 a2 k2 l2 g3 g4)
    · rw [sA, eA _ _ n1] at e; exact absurd e ((h.2.1 _ (ha k2 g3 g4)).2.2 c1 a1 k1 l1 g1 g2)
    · rw [eA _ _ n1, eA _ _ n2] at e; exact h.1.2.2.1 _ _ _ _ _ _ l1 l2 g1 g2 g3 g4 e
  · have hup : ∀ c' b, w.2.2.2.1 c' b = true → (mkO w c q fI fR fA).2.2.2.1 c' b = true := by
      intro c' b hb
      show (if c' = c ∧ b = q then true else w.2.2.2.1 c' b) = true
      split
      · rfl
      · exact hb
    rcases hL c' a hl with ⟨rfl, rfl⟩ | ⟨hl', e⟩
    · have hb' : fR k j = some b := by rw [← hb]; exact (if_pos ⟨rfl, rfl⟩).symm
      exact hup _ _ (hr k j b hb')
    · rw [eR c' a e] at hb
      exact hup _ _ (h.1.2.2.2.1 c' a k j b hl' hb)
def RX (D : DD) (w : Wd) (c : Nat) : GT → Nat → Prop := RY D (bump w) [(zS w, .inr (c, dflt c))]
section ZY
variable {x : CT} {cc : ByteArray} {own : String} {rm : Room} {ret : Option FieldType} {pc pc' : Nat} {L : List (Option Value)} {st : List Value} {cs ss : Nat} {w : Wd} {X X' : va_W} {c q i k index : Nat} {fs fs' : List Value} {v : Value}
theorem RY_rp {D : DD} : ∀ G sz, Rp D w G sz → RY D w [] G sz := fun G sz h => ⟨h, fun p hp => absurd hp List.not_mem_nil, List.nodup_nil⟩
theorem RY_fst {D : DD} : ∀ G sz, RY D w X G sz → Rp D w G sz := fun G sz h => h.1
theorem GA_push {A : Nat → Prop} {G : GT} (h : ∀ a e, G a = some e → A a) {a : Nat} {e : va_E} (ha : A a) : ∀ b e', gset G a e b = some e' → A b := GA_set h ha
theorem v_newY (hx : CX x cc own rm ret) (hc : c < 7) (hw : Cond.classLink own index (RR c) ∈ TBG ∧ Cond.instantiable (RR c) (nF c) ∈ TBG ∧ Cond.initialized (RR c) ∈ TBG) (hroom : cs + 1 ≤ rm.cells ∧ ss + nF c ≤ rm.slots) (d : decode cc pc = .ok (.new index, 3)) (hp : pc + 3 = pc') (kk : V x pc' L (.ref (zS w) :: st) (RY (xD x) (bump w) (X ++ [(zS w, .inr (c, dflt c))])) (cs + 1) (ss + nF c)) : V x pc L st (RY (xD x) w X) cs ss := by
  obtain ⟨p, l, e, R, s, m, args, below, meth, c0, Q, D, A, nL⟩ := x
  obtain ⟨hx, hb, hml, hown, hts, hK, hA, hlk, hr, rfl⟩ := hx
  subst hp
  intro G sz H locs ls a1 a2 a3 a4 a5 a6
  have hz : sz = zS w := a1.1.2.2.2.2
  have hKn := hK.1.1 c _ (zCl_ok c hc)
  refine W.newcK hx hb hown (hts _ hw.1) (hts _ hw.2.1) (hts _ hw.2.2) rfl d hroom.1 hroom.2 hKn.2.1 rfl fun H1 kC hkC e1 z1 o1 => ?_
  have hnone : G H.size = none := GP_none a3
  have hat : va_at D.1 vwCl (H.size, .inr (c, dflt c)) H1 := ⟨_, zCl_ok c hc, (u_born (TYs c) hts (zIn_ok c hc) hKn hkC e1 (zTy_ok c hc)).to (dflt_ok c hc)⟩
  have hGP : GP D (gset G H.size (.inr (c, dflt c))) H1 := by
    intro b e' hbb
    by_cases qq : b = H.size
    · subst qq; rw [gset_s] at hbb; cases hbb; exact hat
    · rw [gset_n _ _ qq] at hbb
      exact (a3 b e' hbb).kept (o1 b (a3 b e' hbb).lt)
  have hRY : RY D (bump w) (X ++ [(zS w, .inr (c, dflt c))]) (gset G H.size (.inr (c, dflt c))) (sz + 1) := by
    have := RY_push (e := .inr (c, dflt c)) a1 (by rw [← a2]; exact hnone)
    rw [← hz, a2]; exact this
  have hgo := kk _ (sz + 1) H1 locs ls hRY (by rw [z1, a2]) hGP (GA_push a4 (hA _ a5.1)) ⟨Nat.le_trans a5.1 (by omega), fun y h1 h2 => (o1 y (Nat.lt_of_lt_of_le h1 a5.1)).trans (a5.2.1 y h1 h2), a5.2.2⟩ a6
  rw [← hz, ← a2] at hgo
  exact hgo
theorem v_new (hx : CX x cc own rm ret) (hc : c < 7) (hw : Cond.classLink own index (RR c) ∈ TBG ∧ Cond.instantiable (RR c) (nF c) ∈ TBG ∧ Cond.initialized (RR c) ∈ TBG) (hroom : cs + 1 ≤ rm.cells ∧ ss + nF c ≤ rm.slots) (d : decode cc pc = .ok (.new index, 3)) (hp : pc + 3 = pc') (kk : V x pc' L (.ref (zS w) :: st) (RX (xD x) w c) (cs + 1) (ss + nF c)) : V x pc L st (Rp (xD x) w) cs ss :=
  V.imp RY_rp (v_newY (X := []) hx hc hw hroom d hp kk)
theorem v_ynewa (hx : CX x cc own rm ret) {atype : ArrayType} {t n : Nat} {ty : FieldType} {nv : Int32} (hty : newarray.typeOf atype = ty) (ht : ∀ D : DD, (TYA D)[t]? = some (D.2 t, ty)) (hprim : ∀ U cA, va_RA U cA ty → U.vm.findClass ("[" ++ ty.toString) = some cA) (hdef : defaultValue ty = .int 0) (hword : Cond.arrayClass ty ∈ TBG) (hn : ¬ nv < 0) (hN : nv.toNatClampNeg = n) (hbytes : n * componentBytes ty ≤ 536870912) (hroom : cs + 1 ≤ rm.cells ∧ ss + n ≤ rm.slots) (d : decode cc pc = .ok (.newarray atype, 2)) (hp : pc + 2 = pc')
    (kk : V x pc' L (.ref (zS w) :: st) (RY (xD x) (bump w) (X ++ [(zS w, .inl ((xD x).2 t, n, .inl (fun _ => 0)))])) (cs + 1) (ss + n)) : V x pc L (.int nv :: st) (RY (xD x) w X) cs ss := by
  obtain ⟨p, l, e, R, s, m, args, below, meth, c0, Q, D, A, nL⟩ := x
  obtain ⟨hx, hb, hml, hown, hts, hK, hA, hlk, hr, rfl⟩ := hx
  subst hp
  subst hty
  intro G sz H locs ls a1 a2 a3 a4 a5 a6
  have hz : sz = zS w := a1.1.2.2.2.2
  refine va_newaK hx hb (hts _ hword) rfl d rfl hn hN hbytes hroom.1 hroom.2 rfl fun H1 cA e1 z1 o1 hAr hNm => ?_
  have hcA : cA = D.2 t := Option.some.inj (hNm.symm.trans (hprim _ _ (hK.1.2 t _ (ht D)).2))
  subst hcA
  have hnone : G H.size = none := GP_none a3
  have hat : va_at D.1 vwCl (H.size, .inl (D.2 t, n, .inl (fun _ => 0))) H1 := by
    show H1[H.size]? = some (vp_cell _ _)
    rw [e1, vp_cell_i, hdef]
  have hGP : GP D (gset G H.size (.inl (D.2 t, n, .inl (fun _ => 0)))) H1 := by
    intro b e' hbb
    by_cases qq : b = H.size
    · subst qq; rw [gset_s] at hbb; cases hbb; exact hat
    · rw [gset_n _ _ qq] at hbb
      exact (a3 b e' hbb).kept (o1 b (a3 b e' hbb).lt)
  have hRY : RY D (bump w) (X ++ [(zS w, .inl (D.2 t, n, .inl (fun _ => 0)))]) (gset G H.size (.inl (D.2 t, n, .inl (fun _ => 0)))) (sz + 1) := by
    have := RY_push (e := .inl (D.2 t, n, .inl (fun _ => 0))) a1 (by rw [← a2]; exact hnone)
    rw [← hz, a2]; exact this
  have hgo := kk _ (sz + 1) H1 locs ls hRY (by rw [z1, a2]) hGP (GA_push a4 (hA _ a5.1)) ⟨Nat.le_trans a5.1 (by omega), fun y h1 h2 => (o1 y (Nat.lt_of_lt_of_le h1 a5.1)).trans (a5.2.1 y h1 h2), a5.2.2⟩ a6
  rw [← hz, ← a2] at hgo
  exact hgo
theorem v_yanew (hx : CX x cc own rm ret) {t n : Nat} {C : String} {nv : Int32} (ht : ∀ D : DD, (TYA D)[t]? = some (D.2 t, .object C)) (hAO : ∀ D s, KB D s → va_AO C s) (hword : Cond.classLink own index C ∈ TBG) (hn : ¬ nv < 0) (hN : nv.toNatClampNeg = n) (hbytes : n * 4 ≤ 536870912) (hroom : cs + 1 ≤ rm.cells ∧ ss + n ≤ rm.slots) (d : decode cc pc = .ok (.anewarray index, 3)) (hp : pc + 3 = pc')
    (kk : V x pc' L (.ref (zS w) :: st) (RY (xD x) (bump w) (X ++ [(zS w, .inl ((xD x).2 t, n, .inr (.inr (.inr (.inr (fun _ => none))))))])) (cs + 1) (ss + n)) : V x pc L (.int nv :: st) (RY (xD x) w X) cs ss := by
  obtain ⟨p, l, e, R, s, m, args, below, meth, c0, Q, D, A, nL⟩ := x
  obtain ⟨hx, hb, hml, hown, hts, hK, hA, hlk, hr, rfl⟩ := hx
  subst hp
  subst hN
  intro G sz H locs ls a1 a2 a3 a4 a5 a6
  have hz : sz = zS w := a1.1.2.2.2.2
  refine W.anew hx hb hown (hts _ hword) (va_AO.use (hAO D s hK)) rfl d rfl hn hbytes hroom.1 hroom.2 fun cA kA comp f1 f2 f3 f4 => ?_
  generalize hH1 : H.push ({ cls := cA, slots := Array.replicate nv.toNatClampNeg .null, vm := .none } : Cell) = H1
  have z1 : H1.size = H.size + 1 := by rw [← hH1, Array.size_push]
  have e1 : H1[H.size]? = some (arrV cA nv.toNatClampNeg (fun _ => .null)) := by rw [← hH1, Array.getElem?_push_size, ← arrV_new]
  have o1 : ∀ q : Nat, q < H.size → H1[q]? = H[q]? := fun q hq => by rw [← hH1, Array.getElem?_push, if_neg (Nat.ne_of_lt hq)]
  obtain ⟨kA', comp', k1, k2, k3, k4⟩ := (hK.1.2 t _ (ht D)).2
  have hcA : cA = D.2 t := Option.some.inj (f1.symm.trans k4)
  subst hcA
  have hnone : G H.size = none := GP_none a3
  have hat : va_at D.1 vwCl (H.size, .inl (D.2 t, nv.toNatClampNeg, .inr (.inr (.inr (.inr (fun _ => none)))))) H1 := by
    show H1[H.size]? = some (vp_cell _ _)
    rw [e1, vp_cell_q]
    rfl
  have hGP : GP D (gset G H.size (.inl (D.2 t, nv.toNatClampNeg, .inr (.inr (.inr (.inr (fun _ => none))))))) H1 := by
    intro b e' hbb
    by_cases qq : b = H.size
    · subst qq; rw [gset_s] at hbb; cases hbb; exact hat
    · rw [gset_n _ _ qq] at hbb
      exact (a3 b e' hbb).kept (o1 b (a3 b e' hbb).lt)
  have hRY : RY D (bump w) (X ++ [(zS w, .inl (D.2 t, nv.toNatClampNeg, .inr (.inr (.inr (.inr (fun _ => none))))))]) (gset G H.size (.inl (D.2 t, nv.toNatClampNeg, .inr (.inr (.inr (.inr (fun _ => none))))))) (sz + 1) := by
    have := RY_push (e := .inl (D.2 t, nv.toNatClampNeg, .inr (.inr (.inr (.inr (fun _ => none)))))) a1 (by rw [← a2]; exact hnone)
    rw [← hz, a2]; exact this
  have hgo := kk _ (sz + 1) H1 locs ls hRY (by rw [z1, a2]) hGP (GA_push a4 (hA _ a5.1)) ⟨Nat.le_trans a5.1 (by omega), fun y h1 h2 => (o1 y (Nat.lt_of_lt_of_le h1 a5.1)).trans (a5.2.1 y h1 h2), a5.2.2⟩ a6
  rw [← hz, ← a2] at hgo
  exact hgo
def xI (x : CT) : Prop := x.2.2.2.2.2.2.2.2.1.name = "<init>"
theorem v_yput (hx : CX x cc own rm ret) (hin : xI x) (hi : X[i]? = some (q, .inr (c, fs))) (hc : c < 7) (hk : k < nF c) (hfl : Cond.fieldLink own index (RR c) (TT c k).2.1 (TT c k).2.2.1 ∈ TBG) (hdecl : RR c = own) (hn : narrow (TYs c k) v = v) (hfit : fits (TYs c k) v = true) (hl : k < fs.length) (hfs : fs.set k v = fs') (hX : X.set i (q, .inr (c, fs')) = X') (d : decode cc pc = .ok (.putfield index, 3)) (hp : pc + 3 = pc') (kk : V x pc' L st (RY (xD x) w X') cs ss) : V x pc L (v :: .ref q :: st) (RY (xD x) w X) cs ss := by
  obtain ⟨p, l, e, R, s, m, args, below, meth, c0, Q, D, A, nL⟩ := x
  obtain ⟨hx, hb, hml, hown, hts, hK, hA, hlk, hr, rfl⟩ := hx
  subst hp
  subst hfs
  subst hX
  intro G sz H locs ls a1 a2 a3 a4 a5 a6
  have hg := (a1.2.1 _ (List.mem_of_getElem? hi)).1
  have fin : ∀ (H1 : Heap) (locs1 : List Loc), H1.size = H.size → GP D (gset G q (.inr (c, fs.set k v))) H1 → va_S A s.heap H1 locs1 → W p l e R s m args below meth c0 H1 locs1 cs ss Q (F0 m (pc + 3) ls st) := fun H1 locs1 z g1 g2 => kk _ sz H1 locs1 ls (RY_set a1 hi) (z.trans a2) g1 (GA_set a4 (a4 _ _ hg)) g2 a6
  cases hfin : (TT c k).2.2.2 with
  | true => exact G_putF hx hb hown hts hK a3 a5 hg (a4 _ _ hg) hc hk hfl hfin hin hdecl hn hfit hl d fin
  | false => exact G_put hx hb hown hts hK a3 a5 hg (a4 _ _ hg) hc hk (Or.inl hfl) hfin hn hfit hl d fin
theorem v_yget (hx : CX x cc own rm ret) (hi : X[i]? = some (q, .inr (c, fs))) (hc : c < 7) (hk : k < nF c) (hfl : FL own index c k) (hv : fs[k]? = some v) (d : decode cc pc = .ok (.getfield index, 3)) (hp : pc + 3 = pc') (kk : V x pc' L (v :: st) (RY (xD x) w X) cs ss) : V x pc L (.ref q :: st) (RY (xD x) w X) cs ss := by
  obtain ⟨p, l, e, R, s, m, args, below, meth, c0, Q, D, A, nL⟩ := x
  obtain ⟨hx, hb, hml, hown, hts, hK, hA, hlk, hr, rfl⟩ := hx
  subst hp
  intro G sz H locs ls a1 a2 a3 a4 a5 a6
  exact G_get hx hb hown hts hK a3 (a1.2.1 _ (List.mem_of_getElem? hi)).1 hc hk hfl hv d (kk G sz H locs ls a1 a2 a3 a4 a5 a6)
theorem v_yiast (hx : CX x cc own rm ret) {n : Nat} {f : Nat → Int32} {j u : Int32} (hi : X[i]? = some (q, .inl ((xD x).2 0, n, .inl f))) (hin : ix j n = true) (hX : X.set i (q, .inl ((xD x).2 0, n, .inl (upd f j.toNatClampNeg u))) = X') (d : decode cc pc = .ok (.iastore, 1)) (hp : pc + 1 = pc') (kk : V x pc' L st (RY (xD x) w X') cs ss) : V x pc L (.int u :: .int j :: .ref q :: st) (RY (xD x) w X) cs ss := by
  obtain ⟨p, l, e, R, s, m, args, below, meth, c0, Q, D, A, nL⟩ := x
  obtain ⟨hx, hb, hml, hown, hts, hK, hA, hlk, hr, rfl⟩ := hx
  subst hp
  subst hX
  intro G sz H locs ls a1 a2 a3 a4 a5 a6
  have hg := (a1.2.1 _ (List.mem_of_getElem? hi)).1
  exact G_iast hx hb hK a3 a5 hg (a4 _ _ hg) (ix_in hin) d (fun H1 locs1 z g1 g2 => kk _ sz H1 locs1 ls (RY_set a1 hi) (z.trans a2) g1 (GA_set a4 (a4 _ _ hg)) g2 a6)
theorem v_obj {P : GT → Nat → Prop} {a : Nat} (hx : CX x cc own rm ret) (hl : Cond.methodLink own index objectInit ∈ TBG) (hi : Cond.instanceMethod objectInit ∈ TBG) (hco : Cond.code objectInit ⟨#[0xb1]⟩ 1 none ∈ TBG) (hroom : 1 ≤ rm.frames ∧ (st.map fun v => v.category).sum + 12 ≤ rm.locals) (d : decode cc pc = .ok (.invokespecial index, 3)) (hp : pc + 3 = pc') (kk : V x pc' L st P cs ss) : V x pc L (.ref a :: st) P cs ss := by
  obtain ⟨p, l, e, R, s, m, args, below, meth, c0, Q, D, A, nL⟩ := x
  obtain ⟨hx, hb, hml, hown, hts, hK, hA, hlk, hr, rfl⟩ := hx
  subst hp
  intro G sz H locs ls a1 a2 a3 a4 a5 a6
  refine W.objInit hx hb hown (hts _ hl) (hts _ hi) (hts _ hco) rfl (by rw [hml]; exact a6.1) rfl d hroom.1 (by show 2 * 0 + _ + 12 ≤ _; omega) ?_
  exact kk G sz H locs ls a1 a2 a3 a4 a5 a6
end ZY
section ZO3
variable {l : Launch} {y : MethodName} {cc : ByteArray} {maxL : Nat} {own : String} {rm : Room} {D : DD} {av : List Value} {G : GT} {sz : Nat} {w' : Wd} {P : GT → Nat → Prop} {ret : Option FieldType}
theorem MetV_ofVI (hP : P G sz) (hy : plainName y.cls = true) (ho : y.cls = own) (hyn : y.name = "<init>") (hav : ∀ v ∈ av, v.category = 1) (hlen : av.length ≤ maxL)
    (body : ∀ x : CT, CX x cc own rm ret → xI x → RV x rm w' → xD x = D → xl x = l → V x 0 (av.map some ++ List.replicate (maxL - av.length) none) [] P 0 0) : MetV l y (WS y cc maxL ret) rm D av G sz w' := by
  refine Met.ofW (cc := cc) (maxL := maxL) (ret := ret) hy rfl ?_
  intro p e s m args below meth c s₁ B hml hv
  obtain ⟨rfl, hsz, hGP, hK⟩ := hv
  have hts := atoms_spec (ws := WS y cc maxL ret) B.pre
  have hown : s.vm.findClass own = some m.cls := by rw [← ho]; exact findClass_of_methodNamed B.named
  have hin : meth.name = "<init>" := by rw [← hyn]; exact (name_of_methodNamed B.named B.method).1
  have V0 := body (p, l, e, (headSpec (WS y cc maxL ret) rm).room, s, m, av.toArray, below, meth, c, MQ below (QV D G sz w') av.toArray s rm.cells rm.slots (AA G sz), D, AA G sz, maxL) ⟨B.exec, B.bytes, hml, hown, fun w hw => hts w (List.mem_cons_of_mem _ hw), hK, fun q hq => Or.inr (by omega), B.notSynchronized, B.returns, rfl⟩ hin ⟨G, sz, rfl, rfl⟩ rfl rfl
  rw [lg_entry_eq]
  exact V0 G sz s.heap [] _ hP hsz hGP (fun a e h => Or.inl ⟨e, h⟩) va_S.rf (LH_entry hav hlen)
end ZO3
