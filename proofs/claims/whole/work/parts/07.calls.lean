/-! contracts over typed worlds, calls, returns -/
def AA (G : GT) (sz : Nat) : Nat → Prop := fun q => (∃ e, G q = some e) ∨ sz ≤ q
def BB (D : DD) (G : GT) (sz : Nat) (u : Wd × GT) (t : State) : Prop := Rp D u.1 u.2 (zS u.1) ∧ GP D u.2 t.heap ∧ t.heap.size = zS u.1 ∧ ∀ a e, u.2 a = some e → AA G sz a
abbrev PP (D : DD) (G : GT) (sz : Nat) : State → Prop := fun U => U.heap.size = sz ∧ GP D G U.heap ∧ KB D U
abbrev QI (D : DD) (G : GT) (sz : Nat) (r : Int32) (w' : Wd) : Array Value → State → Outcome → State → Prop := va_Qi (S := Wd × GT) (fun r' u => r' = r ∧ u.1 = w') (BB D G sz) (AA G sz)
abbrev QV (D : DD) (G : GT) (sz : Nat) (w' : Wd) : Array Value → State → Outcome → State → Prop := va_Qv (S := Wd × GT) (fun u => u.1 = w') (BB D G sz) (AA G sz)
abbrev QQ (D : DD) (G : GT) (sz cR : Nat) (r : Option Nat) (w' : Wd) : Array Value → State → Outcome → State → Prop := va_Qq (S := Wd × GT) (fun r' u => (r' = r ∧ u.1 = w') ∧ ∀ b, r = some b → zL w' cR b = true) (BB D G sz) (AA G sz)
abbrev WS (y : MethodName) (cc : ByteArray) (maxL : Nat) (ret : Option FieldType) : List Cond := Cond.code y cc maxL ret :: TBG
abbrev MetI (l : Launch) (y : MethodName) (ws : List Cond) (rm : Room) (D : DD) (av : List Value) (G : GT) (sz : Nat) (r : Int32) (w' : Wd) : Prop := Met l y ws rm (va_Pc av (PP D G sz)) (QI D G sz r w') rm.cells rm.slots (AA G sz)
abbrev MetV (l : Launch) (y : MethodName) (ws : List Cond) (rm : Room) (D : DD) (av : List Value) (G : GT) (sz : Nat) (w' : Wd) : Prop := Met l y ws rm (va_Pc av (PP D G sz)) (QV D G sz w') rm.cells rm.slots (AA G sz)
abbrev MetQ (l : Launch) (y : MethodName) (ws : List Cond) (rm : Room) (D : DD) (av : List Value) (G : GT) (sz cR : Nat) (r : Option Nat) (w' : Wd) : Prop := Met l y ws rm (va_Pc av (PP D G sz)) (QQ D G sz cR r w') rm.cells rm.slots (AA G sz)
def RI (x : CT) (rm : Room) (r : Int32) (w' : Wd) : Prop := match x with
  | (_, _, _, _, s, _, args, below, _, _, Q, D, A, _) => ∃ G sz, Q = MQ below (QI D G sz r w') args s rm.cells rm.slots (AA G sz) ∧ A = AA G sz
def RV (x : CT) (rm : Room) (w' : Wd) : Prop := match x with
  | (_, _, _, _, s, _, args, below, _, _, Q, D, A, _) => ∃ G sz, Q = MQ below (QV D G sz w') args s rm.cells rm.slots (AA G sz) ∧ A = AA G sz
def RQ (x : CT) (rm : Room) (cR : Nat) (r : Option Nat) (w' : Wd) : Prop := match x with
  | (_, _, _, _, s, _, args, below, _, _, Q, D, A, _) => ∃ G sz, Q = MQ below (QQ D G sz cR r w') args s rm.cells rm.slots (AA G sz) ∧ A = AA G sz
theorem lg_sl_1 : ∀ (av : List Value), (∀ v ∈ av, v.category = 1) → lg_sl av = av.map Slot.val
  | [], _ => rfl
  | v :: vs, h => by
    have h1 : v.category = 1 := h v List.mem_cons_self
    have h2 := lg_sl_1 vs (fun u hu => h u (List.mem_cons_of_mem _ hu))
    unfold lg_sl at h2 ⊢
    rw [List.flatMap_cons, h2, if_neg (by omega)]
    rfl
theorem LH_entry {av : List Value} {n : Nat} (h : ∀ v ∈ av, v.category = 1) (hn : av.length ≤ n) : LH ((lg_sl av ++ List.replicate (n - (lg_sl av).length) Slot.unset).toArray) n (av.map some ++ List.replicate (n - av.length) none) := by
  have e := lg_sl_1 av h
  have hl : (lg_sl av).length = av.length := by rw [e, List.length_map]
  have h0 := lv_entry av (n := n) (by rw [hl]; exact hn)
  refine ⟨h0.1, h0.2.1, fun i v hi => ?_, by simp; omega⟩
  have hlt : i < av.length := by
    rcases Nat.lt_or_ge i av.length with q | q
    · exact q
    · rw [List.getElem?_append_right (by simpa using q)] at hi
      have := List.eq_of_mem_replicate (List.mem_of_getElem? hi)
      cases this
  rw [List.getElem?_append_left (by simpa using hlt), List.getElem?_map, List.getElem?_eq_getElem hlt] at hi
  have hv : av[i] = v := by simpa using hi
  refine ⟨?_, by rw [← hv]; exact h _ (List.getElem_mem hlt)⟩
  rw [e, List.getElem?_toArray, List.getElem?_append_left (by simpa using hlt), List.getElem?_map, List.getElem?_eq_getElem hlt, ← hv]
  rfl
section ZO
variable {l : Launch} {y : MethodName} {cc : ByteArray} {maxL : Nat} {own : String} {rm : Room} {D : DD} {av : List Value} {G : GT} {sz : Nat} {r : Int32} {q : Option Nat} {w' : Wd} {P : GT → Nat → Prop} {ret : Option FieldType} {cR : Nat}
theorem MetI_ofV (hP : P G sz) (hy : plainName y.cls = true) (ho : y.cls = own) (hav : ∀ v ∈ av, v.category = 1) (hlen : av.length ≤ maxL)
    (body : ∀ x : CT, CX x cc own rm ret → RI x rm r w' → xD x = D → xl x = l → V x 0 (av.map some ++ List.replicate (maxL - av.length) none) [] P 0 0) : MetI l y (WS y cc maxL ret) rm D av G sz r w' := by
  refine Met.ofW (cc := cc) (maxL := maxL) (ret := ret) hy rfl ?_
  intro p e s m args below meth c s₁ B hml hv
  obtain ⟨rfl, hsz, hGP, hK⟩ := hv
  have hts := atoms_spec (ws := WS y cc maxL ret) B.pre
  have hown : s.vm.findClass own = some m.cls := by rw [← ho]; exact findClass_of_methodNamed B.named
  have V0 := body (p, l, e, (headSpec (WS y cc maxL ret) rm).room, s, m, av.toArray, below, meth, c, MQ below (QI D G sz r w') av.toArray s rm.cells rm.slots (AA G sz), D, AA G sz, maxL) ⟨B.exec, B.bytes, hml, hown, fun w hw => hts w (List.mem_cons_of_mem _ hw), hK, fun q hq => Or.inr (by omega), B.notSynchronized, B.returns, rfl⟩ ⟨G, sz, rfl, rfl⟩ rfl rfl
  rw [lg_entry_eq]
  exact V0 G sz s.heap [] _ hP hsz hGP (fun a e h => Or.inl ⟨e, h⟩) va_S.rf (LH_entry hav hlen)
theorem MetV_ofV (hP : P G sz) (hy : plainName y.cls = true) (ho : y.cls = own) (hav : ∀ v ∈ av, v.category = 1) (hlen : av.length ≤ maxL)
    (body : ∀ x : CT, CX x cc own rm ret → RV x rm w' → xD x = D → xl x = l → V x 0 (av.map some ++ List.replicate (maxL - av.length) none) [] P 0 0) : MetV l y (WS y cc maxL ret) rm D av G sz w' := by
  refine Met.ofW (cc := cc) (maxL := maxL) (ret := ret) hy rfl ?_
  intro p e s m args below meth c s₁ B hml hv
  obtain ⟨rfl, hsz, hGP, hK⟩ := hv
  have hts := atoms_spec (ws := WS y cc maxL ret) B.pre
  have hown : s.vm.findClass own = some m.cls := by rw [← ho]; exact findClass_of_methodNamed B.named
  have V0 := body (p, l, e, (headSpec (WS y cc maxL ret) rm).room, s, m, av.toArray, below, meth, c, MQ below (QV D G sz w') av.toArray s rm.cells rm.slots (AA G sz), D, AA G sz, maxL) ⟨B.exec, B.bytes, hml, hown, fun w hw => hts w (List.mem_cons_of_mem _ hw), hK, fun q hq => Or.inr (by omega), B.notSynchronized, B.returns, rfl⟩ ⟨G, sz, rfl, rfl⟩ rfl rfl
  rw [lg_entry_eq]
  exact V0 G sz s.heap [] _ hP hsz hGP (fun a e h => Or.inl ⟨e, h⟩) va_S.rf (LH_entry hav hlen)
theorem MetQ_ofV (hP : P G sz) (hy : plainName y.cls = true) (ho : y.cls = own) (hav : ∀ v ∈ av, v.category = 1) (hlen : av.length ≤ maxL)
    (body : ∀ x : CT, CX x cc own rm ret → RQ x rm cR q w' → xD x = D → xl x = l → V x 0 (av.map some ++ List.replicate (maxL - av.length) none) [] P 0 0) : MetQ l y (WS y cc maxL ret) rm D av G sz cR q w' := by
  refine Met.ofW (cc := cc) (maxL := maxL) (ret := ret) hy rfl ?_
  intro p e s m args below meth c s₁ B hml hv
  obtain ⟨rfl, hsz, hGP, hK⟩ := hv
  have hts := atoms_spec (ws := WS y cc maxL ret) B.pre
  have hown : s.vm.findClass own = some m.cls := by rw [← ho]; exact findClass_of_methodNamed B.named
  have V0 := body (p, l, e, (headSpec (WS y cc maxL ret) rm).room, s, m, av.toArray, below, meth, c, MQ below (QQ D G sz cR q w') av.toArray s rm.cells rm.slots (AA G sz), D, AA G sz, maxL) ⟨B.exec, B.bytes, hml, hown, fun w hw => hts w (List.mem_cons_of_mem _ hw), hK, fun q hq => Or.inr (by omega), B.notSynchronized, B.returns, rfl⟩ ⟨G, sz, rfl, rfl⟩ rfl rfl
  rw [lg_entry_eq]
  exact V0 G sz s.heap [] _ hP hsz hGP (fun a e h => Or.inl ⟨e, h⟩) va_S.rf (LH_entry hav hlen)
end ZO
section ZR
variable {x : CT} {cc : ByteArray} {own : String} {rm : Room} {ret : Option FieldType} {pc pc' : Nat} {L : List (Option Value)} {cs ss : Nat} {w w' : Wd} {r v : Int32} {q u : Option Nat}
theorem v_iret (hx : CX x cc own rm (some .int)) (hq : RI x rm r w') (h1 : cs ≤ rm.cells) (h2 : ss ≤ rm.slots) (d : decode cc pc = .ok (.ireturn, 1)) (he : some (v, w) = some (r, w')) : V x pc L [.int v] (Rp (xD x) w) cs ss := by
  obtain ⟨p, l, e, R, s, m, args, below, meth, c, Q, D, A, nL⟩ := x
  obtain ⟨hx, hb, hml, hown, hts, hK, hA, hlk, hr, hR⟩ := hx
  obtain ⟨G0, sz0, rfl, rfl⟩ := hq
  cases he
  intro G sz H locs ls a1 a2 a3 a4 a5 a6
  have e5 : sz = zS w := a1.2.2.2.2
  refine W.widen h1 h2 ?_
  exact W.iret hx hb hr (fun t ht hW => ⟨⟨_, (w, G), rfl, ⟨rfl, rfl⟩, by rw [← e5]; exact a1, by rw [ht]; exact a3, by rw [ht, a2, e5], a4⟩, a5.F ht⟩) a5.2.2 d
theorem v_zret (hx : CX x cc own rm (some .boolean)) (hq : RI x rm r w') (h1 : cs ≤ rm.cells) (h2 : ss ≤ rm.slots) (d : decode cc pc = .ok (.ireturn, 1)) (hv : v = 0 ∨ v = 1) (he : some (v, w) = some (r, w')) : V x pc L [.int v] (Rp (xD x) w) cs ss := by
  obtain ⟨p, l, e, R, s, m, args, below, meth, c, Q, D, A, nL⟩ := x
  obtain ⟨hx, hb, hml, hown, hts, hK, hA, hlk, hr, hR⟩ := hx
  obtain ⟨G0, sz0, rfl, rfl⟩ := hq
  cases he
  intro G sz H locs ls a1 a2 a3 a4 a5 a6
  have e5 : sz = zS w := a1.2.2.2.2
  refine W.widen h1 h2 ?_
  exact W.zret hx hb hr (by rcases hv with rfl | rfl <;> rfl) (fun t ht hW => ⟨⟨_, (w, G), rfl, ⟨rfl, rfl⟩, by rw [← e5]; exact a1, by rw [ht]; exact a3, by rw [ht, a2, e5], a4⟩, a5.F ht⟩) a5.2.2 d
theorem v_vret (hx : CX x cc own rm none) (hq : RV x rm w') (h1 : cs ≤ rm.cells) (h2 : ss ≤ rm.slots) (d : decode cc pc = .ok (.return_, 1)) (he : some w = some w') : V x pc L [] (Rp (xD x) w) cs ss := by
  obtain ⟨p, l, e, R, s, m, args, below, meth, c, Q, D, A, nL⟩ := x
  obtain ⟨hx, hb, hml, hown, hts, hK, hA, hlk, hr, hR⟩ := hx
  obtain ⟨G0, sz0, rfl, rfl⟩ := hq
  cases he
  intro G sz H locs ls a1 a2 a3 a4 a5 a6
  have e5 : sz = zS w := a1.2.2.2.2
  refine W.widen h1 h2 ?_
  exact W.vret hx hb hr (fun t ht hW => ⟨⟨(w, G), rfl, rfl, by rw [← e5]; exact a1, by rw [ht]; exact a3, by rw [ht, a2, e5], a4⟩, a5.F ht⟩) a5.2.2 d
theorem v_aret {C : String} {cR : Nat} (hx : CX x cc own rm (some (.object C))) (hq : RQ x rm cR q w') (h1 : cs ≤ rm.cells) (h2 : ss ≤ rm.slots) (d : decode cc pc = .ok (.areturn, 1)) (he : some (u, w) = some (q, w')) (hlv : ∀ b, u = some b → zL w cR b = true) : V x pc L [va_rf u] (Rp (xD x) w) cs ss := by
  obtain ⟨p, l, e, R, s, m, args, below, meth, c, Q, D, A, nL⟩ := x
  obtain ⟨hx, hb, hml, hown, hts, hK, hA, hlk, hr, hR⟩ := hx
  obtain ⟨G0, sz0, rfl, rfl⟩ := hq
  cases he
  intro G sz H locs ls a1 a2 a3 a4 a5 a6
  have e5 : sz = zS w := a1.2.2.2.2
  refine W.widen h1 h2 ?_
  exact W.aret hx hb hr (Or.inl ⟨C, rfl⟩) (va_rf_or _) (fun t ht hW => ⟨⟨_, (w, G), rfl, ⟨⟨rfl, rfl⟩, hlv⟩, by rw [← e5]; exact a1, by rw [ht]; exact a3, by rw [ht, a2, e5], a4⟩, a5.F ht⟩) a5.2.2 d
end ZR
/-! calls -/
def MY (y : MethodName) (C : String) (cc : ByteArray) (maxL : Nat) (ret : Option FieldType) (n : Nat) : Prop := Cond.instanceMethod y ∈ TBG ∧ Cond.selects C y y ∈ TBG ∧ Cond.initialized C ∈ TBG ∧ Cond.code y cc maxL ret ∈ TBG ∧ y.cls = C ∧ y.cls ≠ "java/lang/invoke/MethodHandle" ∧ y.cls ≠ "java/lang/invoke/VarHandle" ∧ (parseMethodDescriptor y.desc).map (fun d => d.parameters.length) = some n
def MS (y : MethodName) (cc : ByteArray) (maxL : Nat) (ret : Option FieldType) (n : Nat) : Prop := Cond.static y ∈ TBG ∧ Cond.initialized y.cls ∈ TBG ∧ Cond.code y cc maxL ret ∈ TBG ∧ y.cls ≠ "java/lang/invoke/MethodHandle" ∧ y.cls ≠ "java/lang/invoke/VarHandle" ∧ (parseMethodDescriptor y.desc).map (fun d => d.parameters.length) = some n
def ML (own : String) (index : Nat) (y : MethodName) : Prop := Cond.methodLink own index y ∈ TBG ∨ ∃ host, Cond.methodLinkNest own index y host ∈ TBN
theorem good_TB {ws : List Cond} (h : ∀ w ∈ ws, w ∈ TBG) : GoodIn TBG ws := fun w hw => ⟨h w hw, good_of_word (List.mem_filter.mp (h w hw)).2⟩
theorem WS_in {y : MethodName} {cc : ByteArray} {maxL : Nat} {ret : Option FieldType} (h : Cond.code y cc maxL ret ∈ TBG) : ∀ w ∈ WS y cc maxL ret, w ∈ TBG := fun w hw => by
  rcases List.mem_cons.mp hw with rfl | q
  · exact h
  · exact q
theorem PP_blind {D : DD} {av : List Value} {G : GT} {sz : Nat} : FrameBlind (va_Pc av (PP D G sz)) := fun a U g mk h => ⟨h.1, h.2.1, h.2.2.1, KB.same (u := U) rfl h.2.2.2⟩
section ZC
variable {p : Program} {l : Launch} {e : Env} {R : Room} {s : State} {m : MethodId} {args : Array Value} {below : List Frame} {meth : Method} {c : Code} {H : Heap} {locs : List Loc} {cells slots : Nat}
variable {y : MethodName} {bytes cc : ByteArray} {maxL nL n index : Nat} {ret : Option FieldType} {rmy : Room} {Qc : Array Value → State → Outcome → State → Prop} {own : String} {As rest : List Value} {D : DD} {G : GT} {sz pc : Nat} {ls : Array Slot} {st : List Value}
/-- a call of an object's method -/
theorem runV_any {C : String} {b ci : Nat} {fs : List Value} (hx : p.tables.exec = Jvm.exec) (hb : c.code = cc) (hml : c.maxLocals = nL) (hown : s.vm.findClass own = some m.cls) (hts : ∀ w ∈ TBG, w.before args s = true) (hK : KB D s) (a2 : H.size = sz) (a3 : GP D G H) (hls : ls.size = nL)
    (hM : Met l y (WS y bytes maxL ret) rmy (va_Pc (.ref b :: As) (PP D G sz)) Qc rmy.cells rmy.slots (AA G sz)) (hci : ci < 7) (hg : G b = some (.inr (ci, fs))) (hC : RR ci = C) (hy : MY y C bytes maxL ret n) (hln : ML own index y) (hroom : rmy.frames + 1 ≤ R.frames ∧ 8 + (maxL + 11) + rmy.locals ≤ R.locals) (hcs : cells + rmy.cells ≤ R.cells ∧ slots + rmy.slots ≤ R.slots) (hn : As.length = n) (hst : st = As.reverse ++ .ref b :: rest) (hcat : (rest.map fun v => v.category).sum ≤ 8) (d : decode cc pc = .ok (.invokevirtual index, 3)) :
    va_Run p l e R s m args below meth c H locs cells slots rmy.cells rmy.slots (F0 m pc ls st) rest (Qc (Value.ref b :: As).toArray) (AA G sz) := by
  obtain ⟨y1, y2, y3, y4, y5, y6, y7, y8⟩ := hy
  have hp : PreV s H C b (va_Pc (.ref b :: As) (PP D G sz)) As := ⟨PP_blind, by rw [← hC]; exact va_recv (q := (RR ci, TT ci, nF ci)) hK.1 (GP_one a3 hg) (zCl_ok ci hci) (q0 := 0) rfl, fun U hU hW => ⟨rfl, by rw [hU, a2], by rw [hU]; exact a3, hK.warm hW⟩⟩
  rcases hln with h | ⟨host, h⟩
  · refine va_runV ⟨hx, hb, hml, hown, hts⟩ hM (cwV n hts (good_TB ?_) rfl rfl rfl ⟨y5, y6, y7, y8⟩ hroom) hp rfl hn hls hst (lv_room hcat) d hcs
    intro w hw
    rcases List.mem_append.mp hw with q | q
    · simp only [List.mem_cons, List.not_mem_nil, or_false] at q
      rcases q with rfl | rfl | rfl | rfl <;> assumption
    · exact WS_in y4 w q
  · exact va_runVN ⟨hx, hb, hml, hown, hts⟩ hM ⟨va_cnB n hts (good_TB (WS_in y4)) rfl rfl rfl (hK.2.1 _ h) (by rw [y5]; exact hts _ y3) ⟨y6, y7, y8⟩ hroom, hts _ y1, hts _ y2⟩ hp rfl hn hls hst (lv_room hcat) d hcs
theorem runS_any (hx : p.tables.exec = Jvm.exec) (hb : c.code = cc) (hml : c.maxLocals = nL) (hown : s.vm.findClass own = some m.cls) (hts : ∀ w ∈ TBG, w.before args s = true) (hK : KB D s) (a2 : H.size = sz) (a3 : GP D G H) (hls : ls.size = nL)
    (hM : Met l y (WS y bytes maxL ret) rmy (va_Pc As (PP D G sz)) Qc rmy.cells rmy.slots (AA G sz)) (hy : MS y bytes maxL ret n) (hln : ML own index y) (hroom : rmy.frames + 1 ≤ R.frames ∧ 8 + (maxL + 11) + rmy.locals ≤ R.locals) (hcs : cells + rmy.cells ≤ R.cells ∧ slots + rmy.slots ≤ R.slots) (hn : As.length = n) (hst : st = As.reverse ++ rest) (hcat : (rest.map fun v => v.category).sum ≤ 8) (d : decode cc pc = .ok (.invokestatic index, 3)) :
    va_Run p l e R s m args below meth c H locs cells slots rmy.cells rmy.slots (F0 m pc ls st) rest (Qc As.toArray) (AA G sz) := by
  obtain ⟨y1, y2, y4, y6, y7, y8⟩ := hy
  have hp : PreS s H (va_Pc As (PP D G sz)) As := ⟨PP_blind, fun U hU hW => ⟨rfl, by rw [hU, a2], by rw [hU]; exact a3, hK.warm hW⟩⟩
  rcases hln with h | ⟨host, h⟩
  · exact va_runS ⟨hx, hb, hml, hown, hts⟩ hM ⟨callB_of n hts (good_TB (WS_in y4)) rfl rfl rfl (hts _ y2) (hts _ h) ⟨y6, y7, y8⟩ hroom, hts _ y1⟩ hp rfl hn hls hst (lv_room hcat) d hcs
  · exact va_runSN ⟨hx, hb, hml, hown, hts⟩ hM ⟨va_cnB n hts (good_TB (WS_in y4)) rfl rfl rfl (hK.2.1 _ h) (hts _ y2) ⟨y6, y7, y8⟩ hroom, hts _ y1, trivial⟩ hp rfl hn hls hst (lv_room hcat) d hcs
theorem runI_any {b : Nat} (hx : p.tables.exec = Jvm.exec) (hb : c.code = cc) (hml : c.maxLocals = nL) (hown : s.vm.findClass own = some m.cls) (hts : ∀ w ∈ TBG, w.before args s = true) (hK : KB D s) (a2 : H.size = sz) (a3 : GP D G H) (hls : ls.size = nL)
    (hM : Met l y (WS y bytes maxL none) rmy (va_Pc (.ref b :: As) (PP D G sz)) Qc rmy.cells rmy.slots (AA G sz)) (hy : Cond.instanceMethod y ∈ TBG ∧ Cond.initialized y.cls ∈ TBG ∧ Cond.code y bytes maxL none ∈ TBG ∧ y.name = "<init>" ∧ y.cls ≠ "java/lang/invoke/MethodHandle" ∧ y.cls ≠ "java/lang/invoke/VarHandle" ∧ (parseMethodDescriptor y.desc).map (fun d => d.parameters.length) = some n) (hln : ML own index y) (hroom : rmy.frames + 1 ≤ R.frames ∧ 8 + (maxL + 11) + rmy.locals ≤ R.locals) (hcs : cells + rmy.cells ≤ R.cells ∧ slots + rmy.slots ≤ R.slots) (hn : As.length = n) (hst : st = As.reverse ++ .ref b :: rest) (hcat : (rest.map fun v => v.category).sum ≤ 8) (d : decode cc pc = .ok (.invokespecial index, 3)) :
    va_Run p l e R s m args below meth c H locs cells slots rmy.cells rmy.slots (F0 m pc ls st) rest (Qc (Value.ref b :: As).toArray) (AA G sz) := by
  obtain ⟨y1, y2, y4, y5, y6, y7, y8⟩ := hy
  have hp : PreS s H (va_Pc (.ref b :: As) (PP D G sz)) (.ref b :: As) := ⟨PP_blind, fun U hU hW => ⟨rfl, by rw [hU, a2], by rw [hU]; exact a3, hK.warm hW⟩⟩
  rcases hln with h | ⟨host, h⟩
  · exact va_runI ⟨hx, hb, hml, hown, hts⟩ hM ⟨callB_of n hts (good_TB (WS_in y4)) rfl rfl rfl (hts _ y2) (hts _ h) ⟨y6, y7, y8⟩ hroom, y5, hts _ y1⟩ hp rfl hn hls hst (lv_room hcat) d hcs
  · exact va_runIN ⟨hx, hb, hml, hown, hts⟩ hM ⟨va_cnB n hts (good_TB (WS_in y4)) rfl rfl rfl (hK.2.1 _ h) (hts _ y2) ⟨y6, y7, y8⟩ hroom, y5, hts _ y1⟩ hp rfl hn hls hst (lv_room hcat) d hcs
end ZC
section ZK
variable {x : CT} {cc bytes : ByteArray} {own : String} {rm rmy : Room} {ret rety : Option FieldType} {pc pc' maxL n index ci b : Nat} {L : List (Option Value)} {st rest As : List Value} {cs ss : Nat} {w w' : Wd} {r : Int32} {q : Option Nat} {y : MethodName} {C : String} {P : GT → Nat → Prop}
theorem AA_to {A : Nat → Prop} {G : GT} {sz : Nat} {s : State} {H : Heap} {locs : List Loc} (a2 : H.size = sz) (a4 : ∀ a e, G a = some e → A a) (a5 : va_S A s.heap H locs) (hA : ∀ q, s.heap.size ≤ q → A q) : ∀ q, AA G sz q → A q := by
  intro q h
  rcases h with ⟨e, h⟩ | h
  · exact a4 q e h
  · exact hA q (by have := a5.1; omega)
theorem v_callVi (hx : CX x cc own rm ret) (hl : zL w ci b = true) (hM : ∀ G sz, Rp (xD x) w G sz → MetI (xl x) y (WS y bytes maxL rety) rmy (xD x) (.ref b :: As) G sz r w') (hC : RR ci = C) (hy : MY y C bytes maxL rety n) (hln : ML own index y) (hroom : rmy.frames + 1 ≤ rm.frames ∧ 8 + (maxL + 11) + rmy.locals ≤ rm.locals) (hcs : cs + rmy.cells ≤ rm.cells ∧ ss + rmy.slots ≤ rm.slots) (hn : As.length = n) (hst : st = As.reverse ++ .ref b :: rest) (hcat : (rest.map fun v => v.category).sum ≤ 8) (d : decode cc pc = .ok (.invokevirtual index, 3)) (hp : pc + 3 = pc')
    (k : V x pc' L (.int r :: rest) (Rp (xD x) w') (cs + rmy.cells) (ss + rmy.slots)) : V x pc L st (Rp (xD x) w) cs ss := by
  obtain ⟨p, l, e, R, s, m, args, below, meth, c, Q, D, A, nL⟩ := x
  obtain ⟨hx, hb, hml, hown, hts, hK, hA, hlk, hr, rfl⟩ := hx
  subst hp
  intro G sz H locs ls a1 a2 a3 a4 a5 a6
  have hAA := AA_to a2 a4 a5 hA
  refine va_calli (runV_any hx hb hml hown hts hK a2 a3 a6.1 (hM G sz a1) (a1.1 ci b hl).1 (a1.1 ci b hl).2 hC hy hln hroom hcs hn hst hcat d) a5 (fun q _ h => hAA q h) hAA (fun r' u t H1 locs1 ht hvm hw hB hz1 hk1 hS => ?_)
  obtain ⟨w1, G1⟩ := u
  obtain ⟨rfl, rfl⟩ := hw
  obtain ⟨b1, b2, b3, b4⟩ := hB
  subst ht
  exact k G1 (zS w1) t.heap locs1 ls b1 b3 b2 (fun a e h => hAA a (b4 a e h)) hS a6
theorem v_callVv (hx : CX x cc own rm ret) (hl : zL w ci b = true) (hM : ∀ G sz, Rp (xD x) w G sz → MetV (xl x) y (WS y bytes maxL rety) rmy (xD x) (.ref b :: As) G sz w') (hC : RR ci = C) (hy : MY y C bytes maxL rety n) (hln : ML own index y) (hroom : rmy.frames + 1 ≤ rm.frames ∧ 8 + (maxL + 11) + rmy.locals ≤ rm.locals) (hcs : cs + rmy.cells ≤ rm.cells ∧ ss + rmy.slots ≤ rm.slots) (hn : As.length = n) (hst : st = As.reverse ++ .ref b :: rest) (hcat : (rest.map fun v => v.category).sum ≤ 8) (d : decode cc pc = .ok (.invokevirtual index, 3)) (hp : pc + 3 = pc')
    (k : V x pc' L rest (Rp (xD x) w') (cs + rmy.cells) (ss + rmy.slots)) : V x pc L st (Rp (xD x) w) cs ss := by
  obtain ⟨p, l, e, R, s, m, args, below, meth, c, Q, D, A, nL⟩ := x
  obtain ⟨hx, hb, hml, hown, hts, hK, hA, hlk, hr, rfl⟩ := hx
  subst hp
  intro G sz H locs ls a1 a2 a3 a4 a5 a6
  have hAA := AA_to a2 a4 a5 hA
  refine va_callv (runV_any hx hb hml hown hts hK a2 a3 a6.1 (hM G sz a1) (a1.1 ci b hl).1 (a1.1 ci b hl).2 hC hy hln hroom hcs hn hst hcat d) a5 (fun q _ h => hAA q h) hAA (fun u t H1 locs1 ht hvm hw hB hz1 hk1 hS => ?_)
  obtain ⟨w1, G1⟩ := u
  obtain rfl := hw
  obtain ⟨b1, b2, b3, b4⟩ := hB
  subst ht
  exact k G1 (zS w1) t.heap locs1 ls b1 b3 b2 (fun a e h => hAA a (b4 a e h)) hS a6
theorem v_callVq {cR : Nat} (hx : CX x cc own rm ret) (hl : zL w ci b = true) (hM : ∀ G sz, Rp (xD x) w G sz → MetQ (xl x) y (WS y bytes maxL rety) rmy (xD x) (.ref b :: As) G sz cR q w') (hC : RR ci = C) (hy : MY y C bytes maxL rety n) (hln : ML own index y) (hroom : rmy.frames + 1 ≤ rm.frames ∧ 8 + (maxL + 11) + rmy.locals ≤ rm.locals) (hcs : cs + rmy.cells ≤ rm.cells ∧ ss + rmy.slots ≤ rm.slots) (hn : As.length = n) (hst : st = As.reverse ++ .ref b :: rest) (hcat : (rest.map fun v => v.category).sum ≤ 8) (d : decode cc pc = .ok (.invokevirtual index, 3)) (hp : pc + 3 = pc')
    (k : (∀ b, q = some b → zL w' cR b = true) → V x pc' L (va_rf q :: rest) (Rp (xD x) w') (cs + rmy.cells) (ss + rmy.slots)) : V x pc L st (Rp (xD x) w) cs ss := by
  obtain ⟨p, l, e, R, s, m, args, below, meth, c, Q, D, A, nL⟩ := x
  obtain ⟨hx, hb, hml, hown, hts, hK, hA, hlk, hr, rfl⟩ := hx
  subst hp
  intro G sz H locs ls a1 a2 a3 a4 a5 a6
  have hAA := AA_to a2 a4 a5 hA
  refine va_callq (runV_any hx hb hml hown hts hK a2 a3 a6.1 (hM G sz a1) (a1.1 ci b hl).1 (a1.1 ci b hl).2 hC hy hln hroom hcs hn hst hcat d) a5 (fun q _ h => hAA q h) hAA (fun r' u t H1 locs1 ht hvm hw hB hz1 hk1 hS => ?_)
  obtain ⟨w1, G1⟩ := u
  obtain ⟨⟨rfl, rfl⟩, hlv⟩ := hw
  obtain ⟨b1, b2, b3, b4⟩ := hB
  subst ht
  exact k hlv G1 (zS w1) t.heap locs1 ls b1 b3 b2 (fun a e h => hAA a (b4 a e h)) hS a6
theorem v_callSi (hx : CX x cc own rm ret) (hM : ∀ G sz, Rp (xD x) w G sz → MetI (xl x) y (WS y bytes maxL rety) rmy (xD x) As G sz r w') (hy : MS y bytes maxL rety n) (hln : ML own index y) (hroom : rmy.frames + 1 ≤ rm.frames ∧ 8 + (maxL + 11) + rmy.locals ≤ rm.locals) (hcs : cs + rmy.cells ≤ rm.cells ∧ ss + rmy.slots ≤ rm.slots) (hn : As.length = n) (hst : st = As.reverse ++ rest) (hcat : (rest.map fun v => v.category).sum ≤ 8) (d : decode cc pc = .ok (.invokestatic index, 3)) (hp : pc + 3 = pc')
    (k : V x pc' L (.int r :: rest) (Rp (xD x) w') (cs + rmy.cells) (ss + rmy.slots)) : V x pc L st (Rp (xD x) w) cs ss := by
  obtain ⟨p, l, e, R, s, m, args, below, meth, c, Q, D, A, nL⟩ := x
  obtain ⟨hx, hb, hml, hown, hts, hK, hA, hlk, hr, rfl⟩ := hx
  subst hp
  intro G sz H locs ls a1 a2 a3 a4 a5 a6
  have hAA := AA_to a2 a4 a5 hA
  refine va_calli (runS_any hx hb hml hown hts hK a2 a3 a6.1 (hM G sz a1) hy hln hroom hcs hn hst hcat d) a5 (fun q _ h => hAA q h) hAA (fun r' u t H1 locs1 ht hvm hw hB hz1 hk1 hS => ?_)
  obtain ⟨w1, G1⟩ := u
  obtain ⟨rfl, rfl⟩ := hw
  obtain ⟨b1, b2, b3, b4⟩ := hB
  subst ht
  exact k G1 (zS w1) t.heap locs1 ls b1 b3 b2 (fun a e h => hAA a (b4 a e h)) hS a6
theorem v_callIv (hx : CX x cc own rm ret) (hM : ∀ G sz, P G sz → MetV (xl x) y (WS y bytes maxL none) rmy (xD x) (.ref b :: As) G sz w') (hy : Cond.instanceMethod y ∈ TBG ∧ Cond.initialized y.cls ∈ TBG ∧ Cond.code y bytes maxL none ∈ TBG ∧ y.name = "<init>" ∧ y.cls ≠ "java/lang/invoke/MethodHandle" ∧ y.cls ≠ "java/lang/invoke/VarHandle" ∧ (parseMethodDescriptor y.desc).map (fun d => d.parameters.length) = some n) (hln : ML own index y) (hroom : rmy.frames + 1 ≤ rm.frames ∧ 8 + (maxL + 11) + rmy.locals ≤ rm.locals) (hcs : cs + rmy.cells ≤ rm.cells ∧ ss + rmy.slots ≤ rm.slots) (hn : As.length = n) (hst : st = As.reverse ++ .ref b :: rest) (hcat : (rest.map fun v => v.category).sum ≤ 8) (d : decode cc pc = .ok (.invokespecial index, 3)) (hp : pc + 3 = pc')
    (k : V x pc' L rest (Rp (xD x) w') (cs + rmy.cells) (ss + rmy.slots)) : V x pc L st P cs ss := by
  obtain ⟨p, l, e, R, s, m, args, below, meth, c, Q, D, A, nL⟩ := x
  obtain ⟨hx, hb, hml, hown, hts, hK, hA, hlk, hr, rfl⟩ := hx
  subst hp
  intro G sz H locs ls a1 a2 a3 a4 a5 a6
  have hAA := AA_to a2 a4 a5 hA
  refine va_callv (runI_any hx hb hml hown hts hK a2 a3 a6.1 (hM G sz a1) hy hln hroom hcs hn hst hcat d) a5 (fun q _ h => hAA q h) hAA (fun u t H1 locs1 ht hvm hw hB hz1 hk1 hS => ?_)
  obtain ⟨w1, G1⟩ := u
  obtain rfl := hw
  obtain ⟨b1, b2, b3, b4⟩ := hB
  subst ht
  exact k G1 (zS w1) t.heap locs1 ls b1 b3 b2 (fun a e h => hAA a (b4 a e h)) hS a6
end ZK
