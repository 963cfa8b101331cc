/-! memory: fields and arrays of the typed world -/
def FL (own : String) (index c k : Nat) : Prop := Cond.fieldLink own index (RR c) (TT c k).2.1 (TT c k).2.2.1 ∈ TBG ∨ ∃ host, Cond.fieldLinkNest own index (RR c) (TT c k).2.1 (TT c k).2.2.1 host ∈ TBN
def ix (i : Int32) (n : Nat) : Bool := decide (¬ (i < 0 ∨ n ≤ i.toNatClampNeg))
theorem ix_in {i : Int32} {n : Nat} (h : ix i n = true) : vp_in i n := by
  unfold ix at h
  unfold vp_in
  exact of_decide_eq_true h
theorem GP_one {D : DD} {G : GT} {H : Heap} (hP : GP D G H) {a : Nat} {e : va_E} (hg : G a = some e) : va_P D.1 vwCl [(a, e)] H := by
  intro i q hq
  match i, hq with
  | 0, hq => cases hq; exact hP a _ hg
  | i + 1, hq => simp at hq
theorem GP_set {D : DD} {G : GT} {H H1 : Heap} {a : Nat} {e : va_E} (hP : GP D G H) (oq : ∀ q : Nat, q ≠ a → H1[q]? = H[q]?) (h : va_at D.1 vwCl (a, e) H1) : GP D (gset G a e) H1 := by
  intro b e' hb
  by_cases q : b = a
  · subst q
    rw [gset_s] at hb
    cases hb
    exact h
  · rw [gset_n _ _ q] at hb
    exact (hP b e' hb).kept (oq b q)
section ZG
variable {p : Program} {l : Launch} {e : Env} {R : Room} {s : State} {m : MethodId} {args : Array Value} {below : List Frame} {meth : Method} {c : Code} {H : Heap} {locs : List Loc} {cells slots : Nat} {Q : State → Prop}
variable {cc : ByteArray} {pc : Nat} {ls : Array Slot} {rest : List Value} {D : DD} {G : GT} {A : Nat → Prop} {H0 : Heap} {own : String}
theorem G_get (hexec : p.tables.exec = Jvm.exec) (hb : c.code = cc) (hown : s.vm.findClass own = some m.cls) (hts : ∀ w ∈ TBG, w.before args s = true) (hK : KB D s) (hP : GP D G H) {ci a k index : Nat} {fs : List Value} {v : Value} (hg : G a = some (.inr (ci, fs))) (hci : ci < 7) (hk : k < nF ci) (hfl : FL own index ci k) (hv : fs[k]? = some v) (hdg : decode cc pc = .ok (.getfield index, 3))
    (kk : W p l e R s m args below meth c H locs cells slots Q (F0 m (pc + 3) ls (v :: rest))) : W p l e R s m args below meth c H locs cells slots Q (F0 m pc ls (.ref a :: rest)) := by
  have hsame : ∀ y, s.fieldFound? (TT ci k).1 (TT ci k).2.1 (TT ci k).2.2.1 = some y → s.fieldFound? (RR ci) (TT ci k).2.1 (TT ci k).2.2.1 = some y := fun y hy => by rw [zOwn ci hci k hk] at hy; exact hy
  rcases hfl with h | ⟨host, h⟩
  · exact va_get hexec hb hts (zIn_ok ci hci) hown hK.1 (GP_one hP hg) 0 rfl (zCl_ok ci hci) k hk (hts _ h) hsame hv hdg kk
  · exact va_getN hexec hb hts (zIn_ok ci hci) hown hK.1 (GP_one hP hg) 0 rfl (zCl_ok ci hci) k hk (va_Nw.use rfl (hK.2.1 _ h)) hsame hv hdg kk
theorem G_put (hexec : p.tables.exec = Jvm.exec) (hb : c.code = cc) (hown : s.vm.findClass own = some m.cls) (hts : ∀ w ∈ TBG, w.before args s = true) (hK : KB D s) (hP : GP D G H) (hS0 : va_S A H0 H locs) {ci a k index : Nat} {fs : List Value} {v : Value} (hg : G a = some (.inr (ci, fs))) (hAa : A a) (hci : ci < 7) (hk : k < nF ci) (hfl : FL own index ci k) (hfin : (TT ci k).2.2.2 = false) (hn : narrow (TYs ci k) v = v) (hfit : fits (TYs ci k) v = true) (hl : k < fs.length) (hdg : decode cc pc = .ok (.putfield index, 3))
    (kk : ∀ (H1 : Heap) (locs1 : List Loc), H1.size = H.size → GP D (gset G a (.inr (ci, fs.set k v))) H1 → va_S A H0 H1 locs1 → W p l e R s m args below meth c H1 locs1 cells slots Q (F0 m (pc + 3) ls rest)) : W p l e R s m args below meth c H locs cells slots Q (F0 m pc ls (v :: .ref a :: rest)) := by
  have hap := va_apart (own := own) hts (zIn_ok ci hci) (TYs ci) (zTy_ok ci hci) (zNm_ok ci hci) hK.1 (zCl_ok ci hci)
  obtain ⟨r, h1, cell, q1, q2, q3, q4⟩ := hP a _ hg
  have hr : r = (RR ci, TT ci, nF ci) := Option.some.inj (h1.symm.trans (zCl_ok ci hci))
  subst hr
  obtain ⟨hS, hfc, kC, hkC, hkind⟩ := hK.1.1 ci _ (zCl_ok ci hci)
  obtain ⟨cf, kf, fi, f, hi, hsl⟩ := hS k hk
  have hi2 : s.fieldFound? (RR ci) (TT ci k).2.1 (TT ci k).2.2.1 = some (cf, kf, fi, f) := by rw [← zOwn ci hci k hk]; exact hi
  have hlay := hts _ (zIn_ok ci hci _ (u_in_lay hk))
  unfold u_lay at hlay
  rw [if_neg (by rw [hfin]; decide)] at hlay
  have hst := (u_facts hfc hkC (u_lays hts (zIn_ok ci hci) hk) hi).1
  have h6 := u_store hfc hkC hkind hlay hi (zTy_ok ci hci k hk) hn hfit
  have fin : ∀ H' : Heap, H'[a]? = some (cell.setSlot f.slot v) → H'.size = H.size → (∀ q, q ≠ a → H'[q]? = H[q]?) → W p l e R s m args below meth c H' (locs ++ [⟨a, f.slot⟩]) cells slots Q (F0 m (pc + 3) ls rest) := by
    intro H' e1 e2 e3
    rw [hsl] at e1
    exact kk H' _ e2 (GP_set hP e3 ⟨_, zCl_ok ci hci, t_OB.to (V := updV (vp_V fs) k v) ⟨_, e1, q2, q3, t_set q4 hap hk v⟩ (fun j _ => vp_updV_set hl v j)⟩) (hS0.put e2 e3 hAa)
  rcases hfl with h | ⟨host, h⟩
  · exact W.putK hexec hb (f := f) ⟨hown, hts _ h, ⟨_, _, _, hi2⟩, hst⟩ (by rw [q2]; exact h6) q1 q3 (by rw [hsl]; exact k2_hasslot (q4 k hk)) rfl rfl hdg fin
  · exact va_WputK hexec hb (f := f) hown (va_Nw.use rfl (hK.2.1 _ h)) hi2 hst (by rw [q2]; exact h6) q1 q3 (by rw [hsl]; exact k2_hasslot (q4 k hk)) rfl rfl hdg fin
theorem G_putF (hexec : p.tables.exec = Jvm.exec) (hb : c.code = cc) (hown : s.vm.findClass own = some m.cls) (hts : ∀ w ∈ TBG, w.before args s = true) (hK : KB D s) (hP : GP D G H) (hS0 : va_S A H0 H locs) {ci a k index : Nat} {fs : List Value} {v : Value} (hg : G a = some (.inr (ci, fs))) (hAa : A a) (hci : ci < 7) (hk : k < nF ci) (hfl : Cond.fieldLink own index (RR ci) (TT ci k).2.1 (TT ci k).2.2.1 ∈ TBG) (hfin : (TT ci k).2.2.2 = true) (hin2 : meth.name = "<init>") (hdecl : RR ci = own) (hn : narrow (TYs ci k) v = v) (hfit : fits (TYs ci k) v = true) (hl : k < fs.length) (hdg : decode cc pc = .ok (.putfield index, 3))
    (kk : ∀ (H1 : Heap) (locs1 : List Loc), H1.size = H.size → GP D (gset G a (.inr (ci, fs.set k v))) H1 → va_S A H0 H1 locs1 → W p l e R s m args below meth c H1 locs1 cells slots Q (F0 m (pc + 3) ls rest)) : W p l e R s m args below meth c H locs cells slots Q (F0 m pc ls (v :: .ref a :: rest)) := by
  have hap := va_apart (own := own) hts (zIn_ok ci hci) (TYs ci) (zTy_ok ci hci) (zNm_ok ci hci) hK.1 (zCl_ok ci hci)
  obtain ⟨r, h1, cell, q1, q2, q3, q4⟩ := hP a _ hg
  have hr : r = (RR ci, TT ci, nF ci) := Option.some.inj (h1.symm.trans (zCl_ok ci hci))
  subst hr
  obtain ⟨hS, hfc, kC, hkC, hkind⟩ := hK.1.1 ci _ (zCl_ok ci hci)
  obtain ⟨cf, kf, fi, f, hi, hsl⟩ := hS k hk
  have hi2 : s.fieldFound? (RR ci) (TT ci k).2.1 (TT ci k).2.2.1 = some (cf, kf, fi, f) := by rw [← zOwn ci hci k hk]; exact hi
  have hlay := hts _ (zIn_ok ci hci _ (u_in_lay hk))
  unfold u_lay at hlay
  rw [if_pos hfin] at hlay
  have hst := (u_facts hfc hkC (u_lays hts (zIn_ok ci hci) hk) hi).1
  have hcf : m.cls = cf := by
    obtain ⟨_, _, c', _, _, _, -, -, hf', -, -, -, hown2, -⟩ := Cond.laysFinal_spec hlay
    have e1 : c' = cf := by have := hi.symm.trans hf'; simp at this; exact this.1.symm
    rw [zOwn ci hci k hk, hdecl] at hown2
    rw [← e1]; exact Option.some.inj (hown.symm.trans hown2)
  have h6 := u_fits hfc hkC hkind (Or.inr hlay) hi (zTy_ok ci hci k hk) hn hfit
  refine W.putFinK hexec hb hown (hts _ hfl) hi2 hst hcf hin2 (by rw [q2]; exact h6) q1 q3 (by rw [hsl]; exact k2_hasslot (q4 k hk)) rfl rfl hdg fun H' e1 e2 e3 => ?_
  rw [hsl] at e1 ⊢
  exact kk H' _ e2 (GP_set hP e3 ⟨_, zCl_ok ci hci, t_OB.to (V := updV (vp_V fs) k v) ⟨_, e1, q2, q3, t_set q4 hap hk v⟩ (fun j _ => vp_updV_set hl v j)⟩) (hS0.put e2 e3 hAa)
theorem G_iast (hexec : p.tables.exec = Jvm.exec) (hb : c.code = cc) (hK : KB D s) (hP : GP D G H) (hS : va_S A H0 H locs) {a n : Nat} {f : Nat → Int32} (hg : G a = some (.inl (D.2 0, n, .inl f))) (hAa : A a) {i x : Int32} (hin : vp_in i n) (hdg : decode cc pc = .ok (.iastore, 1))
    (kk : ∀ (H1 : Heap) (locs1 : List Loc), H1.size = H.size → GP D (gset G a (.inl (D.2 0, n, .inl (upd f i.toNatClampNeg x)))) H1 → va_S A H0 H1 locs1 → W p l e R s m args below meth c H1 locs1 cells slots Q (F0 m (pc + 1) ls rest)) : W p l e R s m args below meth c H locs cells slots Q (F0 m pc ls (.int x :: .int i :: .ref a :: rest)) := by
  refine W.iast hexec hb (hP a _ hg) ((hK.1.2 0 _ rfl).1 n (fun j => .int (f j))) (fun q => by cases q) (by show ¬ (i < 0 ∨ (arrV _ _ _).slots.size ≤ _); rw [arrV_size]; exact hin) rfl rfl hdg fun H1 e z oq => ?_
  refine kk H1 _ z (GP_set hP oq ?_) (hS.put z oq hAa)
  show H1[a]? = some (vp_cell _ _)
  rw [e, vp_cell_i, vp_cell_i, arrV_store]
  congr 2
  funext q
  by_cases hq : q = i.toNatClampNeg
  · subst hq
    simp [updV, upd]
  · simp [updV, upd, hq]
theorem G_bast (hexec : p.tables.exec = Jvm.exec) (hb : c.code = cc) (hK : KB D s) (hP : GP D G H) (hS : va_S A H0 H locs) {a n : Nat} {f : Nat → Int32} (hg : G a = some (.inl (D.2 1, n, .inl f))) (hAa : A a) {i x : Int32} (hin : vp_in i n) (hdg : decode cc pc = .ok (.bastore, 1))
    (kk : ∀ (H1 : Heap) (locs1 : List Loc), H1.size = H.size → GP D (gset G a (.inl (D.2 1, n, .inl (upd f i.toNatClampNeg (vp_nar .byte x))))) H1 → va_S A H0 H1 locs1 → W p l e R s m args below meth c H1 locs1 cells slots Q (F0 m (pc + 1) ls rest)) : W p l e R s m args below meth c H locs cells slots Q (F0 m pc ls (.int x :: .int i :: .ref a :: rest)) := by
  refine W.bast hexec hb (hP a _ hg) ((hK.1.2 1 _ rfl).1 n (fun j => .int (f j))) (fun q => by cases q) (by show ¬ (i < 0 ∨ (arrV _ _ _).slots.size ≤ _); rw [arrV_size]; exact hin) rfl rfl hdg fun H1 e z oq => ?_
  refine kk H1 _ z (GP_set hP oq ?_) (hS.put z oq hAa)
  show H1[a]? = some (vp_cell _ _)
  rw [e, vp_cell_i, vp_cell_i, arrV_store]
  congr 2
  funext q
  by_cases hq : q = i.toNatClampNeg
  · subst hq
    simp [updV, upd, vp_nar]
    try rfl
  · simp [updV, upd, hq]
theorem G_zast (hexec : p.tables.exec = Jvm.exec) (hb : c.code = cc) (hK : KB D s) (hP : GP D G H) (hS : va_S A H0 H locs) {a n : Nat} {f : Nat → Int32} (hg : G a = some (.inl (D.2 2, n, .inl f))) (hAa : A a) {i x : Int32} (hin : vp_in i n) (hdg : decode cc pc = .ok (.bastore, 1))
    (kk : ∀ (H1 : Heap) (locs1 : List Loc), H1.size = H.size → GP D (gset G a (.inl (D.2 2, n, .inl (upd f i.toNatClampNeg (vp_nar .boolean x))))) H1 → va_S A H0 H1 locs1 → W p l e R s m args below meth c H1 locs1 cells slots Q (F0 m (pc + 1) ls rest)) : W p l e R s m args below meth c H locs cells slots Q (F0 m pc ls (.int x :: .int i :: .ref a :: rest)) := by
  refine W.zast hexec hb (hP a _ hg) ((hK.1.2 2 _ rfl).1 n (fun j => .int (f j))) (fun q => by cases q) (by show ¬ (i < 0 ∨ (arrV _ _ _).slots.size ≤ _); rw [arrV_size]; exact hin) rfl rfl hdg fun H1 e z oq => ?_
  refine kk H1 _ z (GP_set hP oq ?_) (hS.put z oq hAa)
  show H1[a]? = some (vp_cell _ _)
  rw [e, vp_cell_i, vp_cell_i, arrV_store]
  congr 2
  funext q
  by_cases hq : q = i.toNatClampNeg
  · subst hq
    simp [updV, upd, vp_nar]
    try rfl
  · simp [updV, upd, hq]
theorem G_aast (hexec : p.tables.exec = Jvm.exec) (hb : c.code = cc) (hK : KB D s) (hP : GP D G H) (hS : va_S A H0 H locs) {a n v ci t0 : Nat} {fs : List Value} {f : Nat → Option Nat} (hg : G a = some (.inl (D.2 t0, n, .inr (.inr (.inr (.inr f)))))) (hAa : A a) (hci : ci < 7) (ht : (TYA D)[t0]? = some (D.2 t0, .object (RR ci))) (hv : G v = some (.inr (ci, fs))) {i : Int32} (hin : vp_in i n) (hdg : decode cc pc = .ok (.aastore, 1))
    (kk : ∀ (H1 : Heap) (locs1 : List Loc), H1.size = H.size → GP D (gset G a (.inl (D.2 t0, n, .inr (.inr (.inr (.inr (va_up f i.toNatClampNeg (some v)))))))) H1 → va_S A H0 H1 locs1 → W p l e R s m args below meth c H1 locs1 cells slots Q (F0 m (pc + 1) ls rest)) : W p l e R s m args below meth c H locs cells slots Q (F0 m pc ls (.ref v :: .int i :: .ref a :: rest)) := by
  have hlt : i.toNatClampNeg < n := Nat.not_le.mp fun q => hin (Or.inr q)
  have h0 : ¬ i < 0 := fun q => hin (Or.inl q)
  obtain ⟨r', hr', cellV, g1, g2, g3, -⟩ := hP v _ hv
  have hcls := (hK.1.1 ci _ (zCl_ok ci hci)).2
  obtain ⟨kA, comp, k1, k2, k3, -⟩ := (hK.1.2 t0 _ ht).2
  have hcomp : comp = D.1.1 ci := Option.some.inj (k3.symm.trans hcls.1)
  subst hcomp
  obtain ⟨kC, hkC, -⟩ := hcls.2
  refine W.aast hexec hb (hP a _ hg) (fun q h => by cases h) (fun h => by cases h) k1 k2 rfl hkC ⟨h0, by show _ < (arrV _ _ _).slots.size; rw [arrV_size]; exact hlt⟩ g1 (fun q h => by rw [g3] at h; cases h) (by rw [g2]; exact hkC) (by rw [g2]; exact va_assign hcls) rfl rfl hdg fun H1 e z oq => ?_
  refine kk H1 _ z (GP_set hP oq ?_) (hS.put z oq hAa)
  show H1[a]? = some (vp_cell _ _)
  rw [e, vp_cell_q, vp_cell_q, arrV_store]
  congr 2
  funext q
  by_cases hq : q = i.toNatClampNeg
  · subst hq
    simp [updV, va_up, va_rf]
  · simp [updV, va_up, hq]
end ZG
theorem GA_set {A : Nat → Prop} {G : GT} (h : ∀ a e, G a = some e → A a) {a : Nat} {e : va_E} (ha : A a) : ∀ b e', gset G a e b = some e' → A b := by
  intro b e' hb
  by_cases q : b = a
  · rw [q]; exact ha
  · rw [gset_n _ _ q] at hb; exact h b e' hb
section ZM
variable {x : CT} {cc : ByteArray} {own : String} {rm : Room} {ret : Option FieldType} {pc pc' : Nat} {L : List (Option Value)} {st : List Value} {cs ss : Nat} {w : Wd} {a ci k index : Nat}
theorem v_getV (hx : CX x cc own rm ret) (hl : zL w ci a = true) (hk : k < nF ci) (hfl : FL own index ci k) {v : Value} (hv : fv w ci a k = v) (d : decode cc pc = .ok (.getfield index, 3)) (hp : pc + 3 = pc') (kk : V x pc' L (v :: st) (Rp (xD x) w) cs ss) : V x pc L (.ref a :: st) (Rp (xD x) w) cs ss := by
  obtain ⟨p, l, e, R, s, m, args, below, meth, c, Q, D, A, nL⟩ := x
  obtain ⟨hx, hb, hml, hown, hts, hK, hA, hlk, hr, hR⟩ := hx
  subst hp
  intro G sz H locs ls a1 a2 a3 a4 a5 a6
  exact G_get hx hb hown hts hK a3 (a1.1 ci a hl).2 (a1.1 ci a hl).1 hk hfl (by rw [fl_at _ _ hk, hv]) d (kk G sz H locs ls a1 a2 a3 a4 a5 a6)
theorem v_getI (hx : CX x cc own rm ret) (hl : zL w ci a = true) (hk : k < nF ci) (hd : kd ci k = 0) (hfl : FL own index ci k) (d : decode cc pc = .ok (.getfield index, 3)) (hp : pc + 3 = pc') (kk : V x pc' L (.int (zI w ci a k 0) :: st) (Rp (xD x) w) cs ss) : V x pc L (.ref a :: st) (Rp (xD x) w) cs ss :=
  v_getV hx hl hk hfl (by unfold fv; rw [if_pos hd]; rfl) d hp kk
theorem v_getR (hx : CX x cc own rm ret) (hl : zL w ci a = true) (hk : k < nF ci) (hd : kd ci k = 1) (hfl : FL own index ci k) (d : decode cc pc = .ok (.getfield index, 3)) (hp : pc + 3 = pc') (kk : V x pc' L (va_rf (zR w ci a k 0) :: st) (Rp (xD x) w) cs ss) : V x pc L (.ref a :: st) (Rp (xD x) w) cs ss :=
  v_getV hx hl hk hfl (by unfold fv; rw [if_neg (by rw [hd]; decide), if_pos hd]; rfl) d hp kk
theorem v_getA (hx : CX x cc own rm ret) (hl : zL w ci a = true) (hk : k < nF ci) (hd : 2 ≤ kd ci k) (hfl : FL own index ci k) (d : decode cc pc = .ok (.getfield index, 3)) (hp : pc + 3 = pc') (kk : V x pc' L (.ref (zA w ci a k) :: st) (Rp (xD x) w) cs ss) : V x pc L (.ref a :: st) (Rp (xD x) w) cs ss :=
  v_getV hx hl hk hfl (by unfold fv; rw [if_neg (by omega), if_neg (by omega)]; rfl) d hp kk
theorem v_putI (hx : CX x cc own rm ret) (hl : zL w ci a = true) (hk : k < nF ci) (hd : kd ci k = 0) (hfin : (TT ci k).2.2.2 = false) (hfl : FL own index ci k) {v : Int32} (d : decode cc pc = .ok (.putfield index, 3)) (hp : pc + 3 = pc') (kk : V x pc' L st (Rp (xD x) (sI w ci a k 0 v)) cs ss) : V x pc L (.int v :: .ref a :: st) (Rp (xD x) w) cs ss := by
  obtain ⟨p, l, e, R, s, m, args, below, meth, c, Q, D, A, nL⟩ := x
  obtain ⟨hx, hb, hml, hown, hts, hK, hA, hlk, hr, hR⟩ := hx
  subst hp
  intro G sz H locs ls a1 a2 a3 a4 a5 a6
  have hc := (a1.1 ci a hl).1
  have hg := (a1.1 ci a hl).2
  have hty := zKd0 ci hc k hk hd
  refine G_put hx hb hown hts hK a3 a5 hg (a4 _ _ hg) hc hk hfl hfin (by rw [hty]; rfl) (by rw [hty]; rfl) (by rw [fl_len]; exact hk) d (fun H1 locs1 z g1 g2 => ?_)
  exact kk _ sz H1 locs1 ls (Rp_putI a1 hl hk hd v) (z.trans a2) g1 (GA_set a4 (a4 _ _ hg)) g2 a6
theorem cn_lo {D : DD} {w : Wd} {c a k t n : Nat} (hd : kd c k = t) (h5 : t < 5) (hn : al c k = n) : cn D w c a k = .inl (D.2 (cyN t), n, .inl (w.1 c a k)) := by
  subst hd; subst hn
  unfold cn
  rw [if_pos h5]
theorem cn_hi {D : DD} {w : Wd} {c a k t n : Nat} (hd : kd c k = t) (h5 : ¬ t < 5) (hn : al c k = n) : cn D w c a k = .inl (D.2 (cyN t), n, .inr (.inr (.inr (.inr (w.2.1 c a k))))) := by
  subst hd; subst hn
  unfold cn
  rw [if_neg h5]
variable {n : Nat} {i v : Int32}
theorem v_iald (hx : CX x cc own rm ret) (hl : zL w ci a = true) (hk : k < nF ci) (hd : kd ci k = 2) (hn : al ci k = n) (hin : ix i n = true) (d : decode cc pc = .ok (.iaload, 1)) (hp : pc + 1 = pc') (kk : V x pc' L (.int (zI w ci a k i.toNatClampNeg) :: st) (Rp (xD x) w) cs ss) : V x pc L (.int i :: .ref (zA w ci a k) :: st) (Rp (xD x) w) cs ss := by
  obtain ⟨p, l, e, R, s, m, args, below, meth, c, Q, D, A, nL⟩ := x
  obtain ⟨hx, hb, hml, hown, hts, hK, hA, hlk, hr, hR⟩ := hx
  subst hp
  intro G sz H locs ls a1 a2 a3 a4 a5 a6
  have hg := a1.2.1 ci a k hl hk (by omega)
  rw [cn_lo hd (by decide) hn] at hg
  exact va_iald hx hb hK.1 (GP_one a3 hg) 0 0 rfl rfl (ix_in hin) d (kk G sz H locs ls a1 a2 a3 a4 a5 a6)
theorem v_bald (hx : CX x cc own rm ret) (hl : zL w ci a = true) (hk : k < nF ci) (hd : kd ci k = 3) (hn : al ci k = n) (hin : ix i n = true) (d : decode cc pc = .ok (.baload, 1)) (hp : pc + 1 = pc') (kk : V x pc' L (.int (zI w ci a k i.toNatClampNeg) :: st) (Rp (xD x) w) cs ss) : V x pc L (.int i :: .ref (zA w ci a k) :: st) (Rp (xD x) w) cs ss := by
  obtain ⟨p, l, e, R, s, m, args, below, meth, c, Q, D, A, nL⟩ := x
  obtain ⟨hx, hb, hml, hown, hts, hK, hA, hlk, hr, hR⟩ := hx
  subst hp
  intro G sz H locs ls a1 a2 a3 a4 a5 a6
  have hg := a1.2.1 ci a k hl hk (by omega)
  rw [cn_lo hd (by decide) hn] at hg
  exact va_bald hx hb hK.1 (GP_one a3 hg) 0 1 rfl rfl (ix_in hin) d (kk G sz H locs ls a1 a2 a3 a4 a5 a6)
theorem v_zald (hx : CX x cc own rm ret) (hl : zL w ci a = true) (hk : k < nF ci) (hd : kd ci k = 4) (hn : al ci k = n) (hin : ix i n = true) (d : decode cc pc = .ok (.baload, 1)) (hp : pc + 1 = pc') (kk : V x pc' L (.int (zI w ci a k i.toNatClampNeg) :: st) (Rp (xD x) w) cs ss) : V x pc L (.int i :: .ref (zA w ci a k) :: st) (Rp (xD x) w) cs ss := by
  obtain ⟨p, l, e, R, s, m, args, below, meth, c, Q, D, A, nL⟩ := x
  obtain ⟨hx, hb, hml, hown, hts, hK, hA, hlk, hr, hR⟩ := hx
  subst hp
  intro G sz H locs ls a1 a2 a3 a4 a5 a6
  have hg := a1.2.1 ci a k hl hk (by omega)
  rw [cn_lo hd (by decide) hn] at hg
  exact va_zald hx hb hK.1 (GP_one a3 hg) 0 2 rfl rfl (ix_in hin) d (kk G sz H locs ls a1 a2 a3 a4 a5 a6)
theorem v_aald (hx : CX x cc own rm ret) (hl : zL w ci a = true) (hk : k < nF ci) (hd : kd ci k = 5 ∨ kd ci k = 6) (hn : al ci k = n) (hin : ix i n = true) (d : decode cc pc = .ok (.aaload, 1)) (hp : pc + 1 = pc') (kk : V x pc' L (va_rf (zR w ci a k i.toNatClampNeg) :: st) (Rp (xD x) w) cs ss) : V x pc L (.int i :: .ref (zA w ci a k) :: st) (Rp (xD x) w) cs ss := by
  obtain ⟨p, l, e, R, s, m, args, below, meth, c, Q, D, A, nL⟩ := x
  obtain ⟨hx, hb, hml, hown, hts, hK, hA, hlk, hr, hR⟩ := hx
  subst hp
  intro G sz H locs ls a1 a2 a3 a4 a5 a6
  have hg := a1.2.1 ci a k hl hk (by omega)
  rcases hd with hd | hd
  · rw [cn_hi hd (by decide) hn] at hg
    exact va_aldq hx hb hK.1 (GP_one a3 hg) 0 3 (C := "StuckHands$Row") rfl rfl (ix_in hin) d (kk G sz H locs ls a1 a2 a3 a4 a5 a6)
  · rw [cn_hi hd (by decide) hn] at hg
    exact va_aldq hx hb hK.1 (GP_one a3 hg) 0 4 (C := "StuckHands$Picture") rfl rfl (ix_in hin) d (kk G sz H locs ls a1 a2 a3 a4 a5 a6)
theorem v_alen (hx : CX x cc own rm ret) (hl : zL w ci a = true) (hk : k < nF ci) (hd : 2 ≤ kd ci k ∧ kd ci k ≤ 6) (hn : Int32.ofNat (al ci k) = v) (d : decode cc pc = .ok (.arraylength, 1)) (hp : pc + 1 = pc') (kk : V x pc' L (.int v :: st) (Rp (xD x) w) cs ss) : V x pc L (.ref (zA w ci a k) :: st) (Rp (xD x) w) cs ss := by
  obtain ⟨p, l, e, R, s, m, args, below, meth, c, Q, D, A, nL⟩ := x
  obtain ⟨hx, hb, hml, hown, hts, hK, hA, hlk, hr, hR⟩ := hx
  subst hp
  intro G sz H locs ls a1 a2 a3 a4 a5 a6
  have hg : G (zA w ci a k) = some (cn D w ci a k) := a1.2.1 ci a k hl hk hd.1
  have key : ∀ (t : Nat) (ty : FieldType) (q : vp_A), cn D w ci a k = .inl (D.2 t, q) → (TYA D)[t]? = some (D.2 t, ty) → q.1 = al ci k → W p l e R s m args below meth c H locs cs ss Q (F0 m pc ls (.ref (zA w ci a k) :: st)) := by
    intro t ty q h1 h2 h3
    rw [h1] at hg
    exact va_alen hx hb hK.1 (GP_one a3 hg) 0 t rfl h2 (by rw [h3]; exact hn) d (kk G sz H locs ls a1 a2 a3 a4 a5 a6)
  rcases (show kd ci k = 2 ∨ kd ci k = 3 ∨ kd ci k = 4 ∨ kd ci k = 5 ∨ kd ci k = 6 by omega) with h | h | h | h | h
  · exact key 0 _ _ (cn_lo h (by decide) rfl) rfl rfl
  · exact key 1 _ _ (cn_lo h (by decide) rfl) rfl rfl
  · exact key 2 _ _ (cn_lo h (by decide) rfl) rfl rfl
  · exact key 3 _ _ (cn_hi h (by decide) rfl) rfl rfl
  · exact key 4 _ _ (cn_hi h (by decide) rfl) rfl rfl
theorem v_iast (hx : CX x cc own rm ret) (hl : zL w ci a = true) (hk : k < nF ci) (hd : kd ci k = 2) (hn : al ci k = n) (hin : ix i n = true) (d : decode cc pc = .ok (.iastore, 1)) (hp : pc + 1 = pc') (kk : V x pc' L st (Rp (xD x) (sI w ci a k i.toNatClampNeg v)) cs ss) : V x pc L (.int v :: .int i :: .ref (zA w ci a k) :: st) (Rp (xD x) w) cs ss := by
  obtain ⟨p, l, e, R, s, m, args, below, meth, c, Q, D, A, nL⟩ := x
  obtain ⟨hx, hb, hml, hown, hts, hK, hA, hlk, hr, hR⟩ := hx
  subst hp
  intro G sz H locs ls a1 a2 a3 a4 a5 a6
  have hg := a1.2.1 ci a k hl hk (by omega)
  have hRp := Rp_putA a1 hl hk (by omega) (by omega) i.toNatClampNeg v
  rw [cn_lo hd (by decide) hn] at hg
  rw [hd, hn] at hRp
  refine G_iast hx hb hK a3 a5 hg (a4 _ _ hg) (ix_in hin) d (fun H1 locs1 z g1 g2 => ?_)
  exact kk _ sz H1 locs1 ls hRp (z.trans a2) g1 (GA_set a4 (a4 _ _ hg)) g2 a6
theorem v_bast (hx : CX x cc own rm ret) (hl : zL w ci a = true) (hk : k < nF ci) (hd : kd ci k = 3) (hn : al ci k = n) (hin : ix i n = true) (d : decode cc pc = .ok (.bastore, 1)) (hp : pc + 1 = pc') (kk : V x pc' L st (Rp (xD x) (sI w ci a k i.toNatClampNeg (vp_nar .byte v))) cs ss) : V x pc L (.int v :: .int i :: .ref (zA w ci a k) :: st) (Rp (xD x) w) cs ss := by
  obtain ⟨p, l, e, R, s, m, args, below, meth, c, Q, D, A, nL⟩ := x
  obtain ⟨hx, hb, hml, hown, hts, hK, hA, hlk, hr, hR⟩ := hx
  subst hp
  intro G sz H locs ls a1 a2 a3 a4 a5 a6
  have hg := a1.2.1 ci a k hl hk (by omega)
  have hRp := Rp_putA a1 hl hk (by omega) (by omega) i.toNatClampNeg (vp_nar .byte v)
  rw [cn_lo hd (by decide) hn] at hg
  rw [hd, hn] at hRp
  refine G_bast hx hb hK a3 a5 hg (a4 _ _ hg) (ix_in hin) d (fun H1 locs1 z g1 g2 => ?_)
  exact kk _ sz H1 locs1 ls hRp (z.trans a2) g1 (GA_set a4 (a4 _ _ hg)) g2 a6
theorem v_zast (hx : CX x cc own rm ret) (hl : zL w ci a = true) (hk : k < nF ci) (hd : kd ci k = 4) (hn : al ci k = n) (hin : ix i n = true) (d : decode cc pc = .ok (.bastore, 1)) (hp : pc + 1 = pc') (kk : V x pc' L st (Rp (xD x) (sI w ci a k i.toNatClampNeg (vp_nar .boolean v))) cs ss) : V x pc L (.int v :: .int i :: .ref (zA w ci a k) :: st) (Rp (xD x) w) cs ss := by
  obtain ⟨p, l, e, R, s, m, args, below, meth, c, Q, D, A, nL⟩ := x
  obtain ⟨hx, hb, hml, hown, hts, hK, hA, hlk, hr, hR⟩ := hx
  subst hp
  intro G sz H locs ls a1 a2 a3 a4 a5 a6
  have hg := a1.2.1 ci a k hl hk (by omega)
  have hRp := Rp_putA a1 hl hk (by omega) (by omega) i.toNatClampNeg (vp_nar .boolean v)
  rw [cn_lo hd (by decide) hn] at hg
  rw [hd, hn] at hRp
  refine G_zast hx hb hK a3 a5 hg (a4 _ _ hg) (ix_in hin) d (fun H1 locs1 z g1 g2 => ?_)
  exact kk _ sz H1 locs1 ls hRp (z.trans a2) g1 (GA_set a4 (a4 _ _ hg)) g2 a6
theorem v_aast (hx : CX x cc own rm ret) (hl : zL w ci a = true) (hk : k < nF ci) {t0 b : Nat} (hd : kd ci k = t0 + 2) (ht : (TYA (xD x))[t0]? = some ((xD x).2 t0, .object (RR (tg ci k)))) (hc0 : cyN (t0 + 2) = t0) (h5 : 5 ≤ t0 + 2) (hbl : zL w (tg ci k) b = true) (hn : al ci k = n) (hin : ix i n = true) (d : decode cc pc = .ok (.aastore, 1)) (hp : pc + 1 = pc') (kk : V x pc' L st (Rp (xD x) (sR w ci a k i.toNatClampNeg (some b))) cs ss) : V x pc L (.ref b :: .int i :: .ref (zA w ci a k) :: st) (Rp (xD x) w) cs ss := by
  obtain ⟨p, l, e, R, s, m, args, below, meth, c, Q, D, A, nL⟩ := x
  obtain ⟨hx, hb, hml, hown, hts, hK, hA, hlk, hr, hR⟩ := hx
  subst hp
  intro G sz H locs ls a1 a2 a3 a4 a5 a6
  have hg := a1.2.1 ci a k hl hk (by omega)
  have hRp := Rp_putR a1 hl hk (by omega) i.toNatClampNeg b hbl
  have hbg := a1.1 _ b hbl
  rw [cn_hi hd (by omega) hn, hc0] at hg
  rw [hd, hn, hc0] at hRp
  refine G_aast hx hb hK a3 a5 hg (a4 _ _ hg) hbg.1 ht hbg.2 (ix_in hin) d (fun H1 locs1 z g1 g2 => ?_)
  exact kk _ sz H1 locs1 ls hRp (z.trans a2) g1 (GA_set a4 (a4 _ _ hg)) g2 a6
end ZM
