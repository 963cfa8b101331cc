def flm (c : Nat) (fI : Nat → Nat → Int32) (fR : Nat → Nat → Option Nat) (fA : Nat → Nat) : List Value := (List.range (nF c)).map (fun k => if kd c k = 0 then .int (fI k 0) else if kd c k = 1 then va_rf (fR k 0) else .ref (fA k))
def cnm (D : DD) (c : Nat) (fI : Nat → Nat → Int32) (fR : Nat → Nat → Option Nat) (k : Nat) : va_E := if kd c k < 5 then .inl (D.2 (cyN (kd c k)), al c k, .inl (fI k)) else .inl (D.2 (cyN (kd c k)), al c k, .inr (.inr (.inr (.inr (fR k)))))
theorem RY_end {D : DD} {w : Wd} {X : va_W} {G : GT} {sz c q : Nat} {fI : Nat → Nat → Int32} {fR : Nat → Nat → Option Nat} {fA : Nat → Nat} (h : RY D w X G sz) (hc : c < 7) (ho : (q, Sum.inr (c, flm c fI fR fA)) ∈ X)
    (ha : ∀ k, k < nF c → 2 ≤ kd c k → (fA k, cnm D c fI fR k) ∈ X) (hinj : ∀ k, k < nF c → ∀ k', k' < nF c → 2 ≤ kd c k → 2 ≤ kd c k' → fA k = fA k' → k = k') (hr : ∀ k j b, fR k j = some b → w.2.2.2.1 (tg c k) b = true) : Rp D (mkO w c q fI fR fA) G sz := by
  have e1 : ∀ k, (mkO w c q fI fR fA).1 c q k = fI k := fun k => by funext j; exact if_pos ⟨rfl, rfl⟩
  have e2 : ∀ k, (mkO w c q fI fR fA).2.1 c q k = fR k := fun k => by funext j; exact if_pos ⟨rfl, rfl⟩
  have e3 : ∀ k, (mkO w c q fI fR fA).2.2.1 c q k = fA k := fun k => if_pos ⟨rfl, rfl⟩
  refine RY_done h hc ?_ (fun k hk hd => ?_) hinj hr
  · have : fl (mkO w c q fI fR fA) c q = flm c fI fR fA := by
      apply List.map_congr_left
      intro k _
      unfold fv
      rw [e1, e2, e3]
    rw [this]; exact ho
  · have : cn D (mkO w c q fI fR fA) c q k = cnm D c fI fR k := by
      unfold cn cnm
      rw [e1, e2]
    rw [this]; exact ha k hk hd
theorem WF_bump {w : Wd} (h : WF w) : WF (bump w) := fun c a q => Nat.lt_succ_of_lt (h c a q)
theorem WF_mkO {w : Wd} {c q : Nat} {fI : Nat → Nat → Int32} {fR : Nat → Nat → Option Nat} {fA : Nat → Nat} (h : WF w) (hq : q < zS w) : WF (mkO w c q fI fR fA) := by
  intro c' a hl
  have hl' : (if c' = c ∧ a = q then true else w.2.2.2.1 c' a) = true := hl
  show a < zS w
  by_cases e : c' = c ∧ a = q
  · rw [e.2]; exact hq
  · rw [if_neg e] at hl'; exact h c' a hl'
theorem mo_bump (w : Wd) : mo w (bump w) := fun h => ⟨WF_bump h, fun _ _ q => ⟨q, fun _ => rfl⟩⟩
theorem mo_mkO {w w1 : Wd} {c q : Nat} {fI : Nat → Nat → Int32} {fR : Nat → Nat → Option Nat} {fA : Nat → Nat} (h : mo w w1) (hq : q < zS w1) (hf : zS w ≤ q) : mo w (mkO w1 c q fI fR fA) := by
  intro hw
  refine ⟨WF_mkO (h hw).1 hq, fun c' a hl => ?_⟩
  have hlt := hw c' a hl
  have e : ¬ (c' = c ∧ a = q) := fun e => by omega
  refine ⟨?_, fun k => ?_⟩
  · show (if c' = c ∧ a = q then true else w1.2.2.2.1 c' a) = true
    rw [if_neg e]; exact ((h hw).2 c' a hl).1
  · show (if c' = c ∧ a = q then fA k else w1.2.2.1 c' a k) = _
    rw [if_neg e]; exact ((h hw).2 c' a hl).2 k
theorem lv_mkO (w : Wd) (c q : Nat) (fI : Nat → Nat → Int32) (fR : Nat → Nat → Option Nat) (fA : Nat → Nat) : zL (mkO w c q fI fR fA) c q = true := if_pos ⟨rfl, rfl⟩
def bmp (n : Nat) (w : Wd) : Wd := (w.1, w.2.1, w.2.2.1, w.2.2.2.1, zS w + n)
section ZY2
variable {x : CT} {cc : ByteArray} {own : String} {rm : Room} {ret : Option FieldType} {pc pc' : Nat} {L : List (Option Value)} {st : List Value} {cs ss : Nat} {w w' : Wd} {X X' : va_W} {index a : Nat}
theorem v_ynew2 (hx : CX x cc own rm ret) {atype : ArrayType} {t n : Nat} {ty : FieldType} {nv : Int32} (hw : bump w = w') (ha : zS w = a) (hX : X ++ [(a, .inl ((xD x).2 t, n, .inl (fun _ => 0)))] = X') (hty : newarray.typeOf atype = ty) (ht : ∀ D : DD, (TYA D)[t]? = some (D.2 t, ty)) (hprim : ∀ U cA, va_RA U cA ty → U.vm.findClass ("[" ++ ty.toString) = some cA) (hdef : defaultValue ty = .int 0) (hword : Cond.arrayClass ty ∈ TBG) (hn : ¬ nv < 0) (hN : nv.toNatClampNeg = n) (hbytes : n * componentBytes ty ≤ 536870912) (hroom : cs + 1 ≤ rm.cells ∧ ss + n ≤ rm.slots) (d : decode cc pc = .ok (.newarray atype, 2)) (hp : pc + 2 = pc')
    (kk : V x pc' L (.ref a :: st) (RY (xD x) w' X') (cs + 1) (ss + n)) : V x pc L (.int nv :: st) (RY (xD x) w X) cs ss := by
  subst hw; subst ha; subst hX
  exact v_ynewa hx hty ht hprim hdef hword hn hN hbytes hroom d hp kk
theorem v_yanew2 (hx : CX x cc own rm ret) {t n : Nat} {C : String} {nv : Int32} (hw : bump w = w') (ha : zS w = a) (hX : X ++ [(a, .inl ((xD x).2 t, n, .inr (.inr (.inr (.inr (fun _ => none))))))] = X') (ht : ∀ D : DD, (TYA D)[t]? = some (D.2 t, .object C)) (hAO : ∀ D s, KB D s → va_AO C s) (hword : Cond.classLink own index C ∈ TBG) (hn : ¬ nv < 0) (hN : nv.toNatClampNeg = n) (hbytes : n * 4 ≤ 536870912) (hroom : cs + 1 ≤ rm.cells ∧ ss + n ≤ rm.slots) (d : decode cc pc = .ok (.anewarray index, 3)) (hp : pc + 3 = pc')
    (kk : V x pc' L (.ref a :: st) (RY (xD x) w' X') (cs + 1) (ss + n)) : V x pc L (.int nv :: st) (RY (xD x) w X) cs ss := by
  subst hw; subst ha; subst hX
  exact v_yanew hx ht hAO hword hn hN hbytes hroom d hp kk
end ZY2
theorem mo_bmp (w : Wd) (n : Nat) : mo w (bmp n w) := fun h => ⟨fun c a q => Nat.lt_of_lt_of_le (h c a q) (Nat.le_add_right _ _), fun _ _ q => ⟨q, fun _ => rfl⟩⟩
theorem oi_1 : Cond.instanceMethod objectInit ∈ TBG := tb_in 69 (by decide +kernel) (by decide +kernel)
theorem oi_2 : Cond.code objectInit ⟨#[0xb1]⟩ 1 none ∈ TBG := tb_in 70 (by decide +kernel) (by decide +kernel)
theorem ac_byte : Cond.arrayClass .byte ∈ TBG := tb_in 92 (by decide +kernel) (by decide +kernel)
theorem ac_int : Cond.arrayClass .int ∈ TBG := tb_in 114 (by decide +kernel) (by decide +kernel)
theorem ac_boolean : Cond.arrayClass .boolean ∈ TBG := tb_in 707 (by decide +kernel) (by decide +kernel)
def nwX0 (w : Wd) : Wd := mkO (bmp 4 w) 0 (zS w) (fun _ _ => 0) (fun _ _ => none) (fun k => zS w + ([1, 2, 3, 0] : List Nat).getD k 0)
theorem mo_nwX0 (w : Wd) : mo w (nwX0 w) := mo_mkO (mo_bmp w 4) (by show zS w < zS w + 4; omega) (Nat.le_refl _)
theorem lv_nwX0 (w : Wd) : zL (nwX0 w) 0 (zS w) = true := lv_mkO _ _ _ _ _ _
def nwX1 (w : Wd) (x1 : Int32) : Wd := mkO (bmp 7 w) 1 (zS w) (fun k => if k = 0 then (fun _ => x1) else if k = 7 then (fun _ => -1) else if k = 2 then (fun j => if j < 16 then -1 else 0) else (fun _ => 0)) (fun _ _ => none) (fun k => zS w + ([0, 1, 2, 3, 4, 5, 6, 0, 0, 0, 0] : List Nat).getD k 0)
theorem mo_nwX1 (w : Wd) (x1 : Int32) : mo w (nwX1 w x1) := mo_mkO (mo_bmp w 7) (by show zS w < zS w + 7; omega) (Nat.le_refl _)
theorem lv_nwX1 (w : Wd) (x1 : Int32) : zL (nwX1 w x1) 1 (zS w) = true := lv_mkO _ _ _ _ _ _
def nwX2 (w : Wd) : Wd := mkO (bmp 2 w) 2 (zS w) (fun k _ => if k = 1 ∨ k = 5 then -1 else 0) (fun _ _ => none) (fun k => zS w + ([1, 0, 0, 0, 0, 0, 0] : List Nat).getD k 0)
theorem mo_nwX2 (w : Wd) : mo w (nwX2 w) := mo_mkO (mo_bmp w 2) (by show zS w < zS w + 2; omega) (Nat.le_refl _)
theorem lv_nwX2 (w : Wd) : zL (nwX2 w) 2 (zS w) = true := lv_mkO _ _ _ _ _ _
def nwX3 (w : Wd) (a1 : Nat) (a2 : Nat) : Wd := mkO (bmp 1 w) 3 (zS w) (fun _ _ => 0) (fun k _ => if k = 0 then some a1 else some a2) (fun k => zS w + ([0, 0] : List Nat).getD k 0)
theorem mo_nwX3 (w : Wd) (a1 : Nat) (a2 : Nat) : mo w (nwX3 w a1 a2) := mo_mkO (mo_bmp w 1) (by show zS w < zS w + 1; omega) (Nat.le_refl _)
theorem lv_nwX3 (w : Wd) (a1 : Nat) (a2 : Nat) : zL (nwX3 w a1 a2) 3 (zS w) = true := lv_mkO _ _ _ _ _ _
def nwX4 (w : Wd) : Wd := mkO (bmp 2 w) 4 (zS w) (fun _ _ => 0) (fun _ _ => none) (fun k => zS w + ([1, 0, 0, 0] : List Nat).getD k 0)
theorem mo_nwX4 (w : Wd) : mo w (nwX4 w) := mo_mkO (mo_bmp w 2) (by show zS w < zS w + 2; omega) (Nat.le_refl _)
theorem lv_nwX4 (w : Wd) : zL (nwX4 w) 4 (zS w) = true := lv_mkO _ _ _ _ _ _
def nwX6 (w : Wd) : Wd := mkO (bmp 17 w) 6 (zS w) (fun k _ => if k = 3 then 10000 else if k = 4 then 10 else 0) (fun _ _ => none) (fun k => zS w + ([1, 0, 0, 0, 0, 2, 3, 4, 5, 6, 7, 8, 9, 10, 0, 0, 0, 0, 0, 0, 0, 0, 0, 0, 11, 12, 13, 14, 0, 15, 16] : List Nat).getD k 0)
theorem mo_nwX6 (w : Wd) : mo w (nwX6 w) := mo_mkO (mo_bmp w 17) (by show zS w < zS w + 17; omega) (Nat.le_refl _)
theorem lv_nwX6 (w : Wd) : zL (nwX6 w) 6 (zS w) = true := lv_mkO _ _ _ _ _ _
theorem inj0 : ∀ k, k < 4 → ∀ k', k' < 4 → 2 ≤ kd 0 k → 2 ≤ kd 0 k' → ([1, 2, 3, 0] : List Nat).getD k 0 = ([1, 2, 3, 0] : List Nat).getD k' 0 → k = k' := by decide +kernel
theorem inj1 : ∀ k, k < 11 → ∀ k', k' < 11 → 2 ≤ kd 1 k → 2 ≤ kd 1 k' → ([0, 1, 2, 3, 4, 5, 6, 0, 0, 0, 0] : List Nat).getD k 0 = ([0, 1, 2, 3, 4, 5, 6, 0, 0, 0, 0] : List Nat).getD k' 0 → k = k' := by decide +kernel
theorem inj2 : ∀ k, k < 7 → ∀ k', k' < 7 → 2 ≤ kd 2 k → 2 ≤ kd 2 k' → ([1, 0, 0, 0, 0, 0, 0] : List Nat).getD k 0 = ([1, 0, 0, 0, 0, 0, 0] : List Nat).getD k' 0 → k = k' := by decide +kernel
theorem inj3 : ∀ k, k < 2 → ∀ k', k' < 2 → 2 ≤ kd 3 k → 2 ≤ kd 3 k' → ([0, 0] : List Nat).getD k 0 = ([0, 0] : List Nat).getD k' 0 → k = k' := by decide +kernel
theorem inj4 : ∀ k, k < 4 → ∀ k', k' < 4 → 2 ≤ kd 4 k → 2 ≤ kd 4 k' → ([1, 0, 0, 0] : List Nat).getD k 0 = ([1, 0, 0, 0] : List Nat).getD k' 0 → k = k' := by decide +kernel
theorem inj6 : ∀ k, k < 31 → ∀ k', k' < 31 → 2 ≤ kd 6 k → 2 ≤ kd 6 k' → ([1, 0, 0, 0, 0, 2, 3, 4, 5, 6, 7, 8, 9, 10, 0, 0, 0, 0, 0, 0, 0, 0, 0, 0, 11, 12, 13, 14, 0, 15, 16] : List Nat).getD k 0 = ([1, 0, 0, 0, 0, 2, 3, 4, 5, 6, 7, 8, 9, 10, 0, 0, 0, 0, 0, 0, 0, 0, 0, 0, 11, 12, 13, 14, 0, 15, 16] : List Nat).getD k' 0 → k = k' := by decide +kernel
set_option maxHeartbeats 8000000 in
theorem ctX0_init (l : Launch) (D : DD) (w : Wd) (G : GT) (sz : Nat) (hR : RX D w 0 G sz) : MetV l yX0_init (WS yX0_init cX0_init 1 none) rmX0_init D [.ref (zS w)] G sz (nwX0 w) := by
  refine MetV_ofVI (own := RX0) (P := RX D w 0) hR (by decide) rfl rfl (by simp [Value.category]) (Nat.le_of_ble_eq_true rfl) (fun x hx hin hq hD hl => ?_)
  subst hD
  unfold RX
  refine V.imp (P' := RY (xD x) (bmp 1 w) [(zS w, .inr (0, [.null, .null, .null, .int 0]))]) (fun G sz h => h) ?_
  refine v_aload_n (pc' := 1) hx dX0_init_0 rfl rfl ?_
  refine v_obj (pc' := 4) hx (tb_in 100 (by decide +kernel) (by decide +kernel)) oi_1 oi_2 ⟨by decide, by decide⟩ dX0_init_1 rfl ?_
  refine v_aload_n (pc' := 5) hx dX0_init_4 rfl rfl ?_
  refine v_bipush (pc' := 7) (v := 16) hx dX0_init_5 (by decide) rfl ?_
  refine v_ynew2 (pc' := 9) (w' := (bmp 2 w)) (a := zS w + 1) (X' := [(zS w, .inr (0, [.null, .null, .null, .int 0])), (zS w + 1, .inl ((xD x).2 0, 16, .inl (fun _ => 0)))]) (t := 0) (n := 16) (ty := .int) hx rfl rfl rfl rfl (fun _ => rfl) (fun _ _ h => h) rfl ac_int (by decide) (by decide) (by decide) ⟨by decide, by decide⟩ dX0_init_7 rfl ?_
  refine v_yput (pc' := 12) (i := 0) (c := 0) (k := 0) (fs' := [.ref (zS w + 1), .null, .null, .int 0]) (X' := [(zS w, .inr (0, [.ref (zS w + 1), .null, .null, .int 0])), (zS w + 1, .inl ((xD x).2 0, 16, .inl (fun _ => 0)))]) hx hin rfl (by decide) (by decide) (tb_in 101 (by decide +kernel) (by decide +kernel)) rfl rfl rfl (Nat.le_of_ble_eq_true rfl) rfl rfl dX0_init_9 rfl ?_
  refine v_aload_n (pc' := 13) hx dX0_init_12 rfl rfl ?_
  refine v_bipush (pc' := 15) (v := 16) hx dX0_init_13 (by decide) rfl ?_
  refine v_ynew2 (pc' := 17) (w' := (bmp 3 w)) (a := zS w + 2) (X' := [(zS w, .inr (0, [.ref (zS w + 1), .null, .null, .int 0])), (zS w + 1, .inl ((xD x).2 0, 16, .inl (fun _ => 0))), (zS w + 2, .inl ((xD x).2 0, 16, .inl (fun _ => 0)))]) (t := 0) (n := 16) (ty := .int) hx rfl rfl rfl rfl (fun _ => rfl) (fun _ _ h => h) rfl ac_int (by decide) (by decide) (by decide) ⟨by decide, by decide⟩ dX0_init_15 rfl ?_
  refine v_yput (pc' := 20) (i := 0) (c := 0) (k := 1) (fs' := [.ref (zS w + 1), .ref (zS w + 2), .null, .int 0]) (X' := [(zS w, .inr (0, [.ref (zS w + 1), .ref (zS w + 2), .null, .int 0])), (zS w + 1, .inl ((xD x).2 0, 16, .inl (fun _ => 0))), (zS w + 2, .inl ((xD x).2 0, 16, .inl (fun _ => 0)))]) hx hin rfl (by decide) (by decide) (tb_in 102 (by decide +kernel) (by decide +kernel)) rfl rfl rfl (Nat.le_of_ble_eq_true rfl) rfl rfl dX0_init_17 rfl ?_
  refine v_aload_n (pc' := 21) hx dX0_init_20 rfl rfl ?_
  refine v_bipush (pc' := 23) (v := 16) hx dX0_init_21 (by decide) rfl ?_
  refine v_ynew2 (pc' := 25) (w' := (bmp 4 w)) (a := zS w + 3) (X' := [(zS w, .inr (0, [.ref (zS w + 1), .ref (zS w + 2), .null, .int 0])), (zS w + 1, .inl ((xD x).2 0, 16, .inl (fun _ => 0))), (zS w + 2, .inl ((xD x).2 0, 16, .inl (fun _ => 0))), (zS w + 3, .inl ((xD x).2 0, 16, .inl (fun _ => 0)))]) (t := 0) (n := 16) (ty := .int) hx rfl rfl rfl rfl (fun _ => rfl) (fun _ _ h => h) rfl ac_int (by decide) (by decide) (by decide) ⟨by decide, by decide⟩ dX0_init_23 rfl ?_
  refine v_yput (pc' := 28) (i := 0) (c := 0) (k := 2) (fs' := [.ref (zS w + 1), .ref (zS w + 2), .ref (zS w + 3), .int 0]) (X' := [(zS w, .inr (0, [.ref (zS w + 1), .ref (zS w + 2), .ref (zS w + 3), .int 0])), (zS w + 1, .inl ((xD x).2 0, 16, .inl (fun _ => 0))), (zS w + 2, .inl ((xD x).2 0, 16, .inl (fun _ => 0))), (zS w + 3, .inl ((xD x).2 0, 16, .inl (fun _ => 0)))]) hx hin rfl (by decide) (by decide) (tb_in 103 (by decide +kernel) (by decide +kernel)) rfl rfl rfl (Nat.le_of_ble_eq_true rfl) rfl rfl dX0_init_25 rfl ?_
  refine V.imp (P' := Rp (xD x) (nwX0 w)) (fun G sz h => RY_end h (by decide) (List.mem_of_getElem? (i := 0) rfl) (fun k hk hd => ?_) (fun k hk k' hk' hd hd' e => ?_) (fun k j b hb => ?_)) ?_
  · have hk9 : k < 4 := hk
    rcases (show k = 0 ∨ k = 1 ∨ k = 2 ∨ k = 3 by omega) with rfl | rfl | rfl | rfl
    · exact List.mem_of_getElem? (i := 1) rfl
    · exact List.mem_of_getElem? (i := 2) rfl
    · exact List.mem_of_getElem? (i := 3) rfl
    · exact absurd hd (by decide)
  · have e9 := Nat.add_left_cancel e
    have hk9 : k < 4 := hk
    have hk8 : k' < 4 := hk'
    clear e
    revert hd hd' e9
    exact inj0 k hk9 k' hk8
  · cases hb
  exact v_vret hx hq (by decide) (by decide) dX0_init_28 rfl
set_option maxHeartbeats 8000000 in
theorem ctX2_init (l : Launch) (D : DD) (w : Wd) (G : GT) (sz : Nat) (hR : RX D w 2 G sz) : MetV l yX2_init (WS yX2_init cX2_init 1 none) rmX2_init D [.ref (zS w)] G sz (nwX2 w) := by
  refine MetV_ofVI (own := RX2) (P := RX D w 2) hR (by decide) rfl rfl (by simp [Value.category]) (Nat.le_of_ble_eq_true rfl) (fun x hx hin hq hD hl => ?_)
  subst hD
  unfold RX
  refine V.imp (P' := RY (xD x) (bmp 1 w) [(zS w, .inr (2, [.null, .int 0, .int 0, .int 0, .int 0, .int 0, .int 0]))]) (fun G sz h => h) ?_
  refine v_aload_n (pc' := 1) hx dX2_init_0 rfl rfl ?_
  refine v_obj (pc' := 4) hx (tb_in 255 (by decide +kernel) (by decide +kernel)) oi_1 oi_2 ⟨by decide, by decide⟩ dX2_init_1 rfl ?_
  refine v_aload_n (pc' := 5) hx dX2_init_4 rfl rfl ?_
  refine v_bipush (pc' := 7) (v := 12) hx dX2_init_5 (by decide) rfl ?_
  refine v_ynew2 (pc' := 9) (w' := (bmp 2 w)) (a := zS w + 1) (X' := [(zS w, .inr (2, [.null, .int 0, .int 0, .int 0, .int 0, .int 0, .int 0])), (zS w + 1, .inl ((xD x).2 1, 12, .inl (fun _ => 0)))]) (t := 1) (n := 12) (ty := .byte) hx rfl rfl rfl rfl (fun _ => rfl) (fun _ _ h => h) rfl ac_byte (by decide) (by decide) (by decide) ⟨by decide, by decide⟩ dX2_init_7 rfl ?_
  refine v_yput (pc' := 12) (i := 0) (c := 2) (k := 0) (fs' := [.ref (zS w + 1), .int 0, .int 0, .int 0, .int 0, .int 0, .int 0]) (X' := [(zS w, .inr (2, [.ref (zS w + 1), .int 0, .int 0, .int 0, .int 0, .int 0, .int 0])), (zS w + 1, .inl ((xD x).2 1, 12, .inl (fun _ => 0)))]) hx hin rfl (by decide) (by decide) (tb_in 256 (by decide +kernel) (by decide +kernel)) rfl rfl rfl (Nat.le_of_ble_eq_true rfl) rfl rfl dX2_init_9 rfl ?_
  refine v_aload_n (pc' := 13) hx dX2_init_12 rfl rfl ?_
  refine v_iconst (pc' := 14) (v := (-1)) hx dX2_init_13 (by decide) rfl ?_
  refine v_yput (pc' := 17) (i := 0) (c := 2) (k := 1) (fs' := [.ref (zS w + 1), .int (-1), .int 0, .int 0, .int 0, .int 0, .int 0]) (X' := [(zS w, .inr (2, [.ref (zS w + 1), .int (-1), .int 0, .int 0, .int 0, .int 0, .int 0])), (zS w + 1, .inl ((xD x).2 1, 12, .inl (fun _ => 0)))]) hx hin rfl (by decide) (by decide) (tb_in 257 (by decide +kernel) (by decide +kernel)) rfl rfl rfl (Nat.le_of_ble_eq_true rfl) rfl rfl dX2_init_14 rfl ?_
  refine v_aload_n (pc' := 18) hx dX2_init_17 rfl rfl ?_
  refine v_iconst (pc' := 19) (v := (-1)) hx dX2_init_18 (by decide) rfl ?_
  refine v_yput (pc' := 22) (i := 0) (c := 2) (k := 5) (fs' := [.ref (zS w + 1), .int (-1), .int 0, .int 0, .int 0, .int (-1), .int 0]) (X' := [(zS w, .inr (2, [.ref (zS w + 1), .int (-1), .int 0, .int 0, .int 0, .int (-1), .int 0])), (zS w + 1, .inl ((xD x).2 1, 12, .inl (fun _ => 0)))]) hx hin rfl (by decide) (by decide) (tb_in 269 (by decide +kernel) (by decide +kernel)) rfl rfl rfl (Nat.le_of_ble_eq_true rfl) rfl rfl dX2_init_19 rfl ?_
  refine V.imp (P' := Rp (xD x) (nwX2 w)) (fun G sz h => RY_end h (by decide) (List.mem_of_getElem? (i := 0) rfl) (fun k hk hd => ?_) (fun k hk k' hk' hd hd' e => ?_) (fun k j b hb => ?_)) ?_
  · have hk9 : k < 7 := hk
    rcases (show k = 0 ∨ k = 1 ∨ k = 2 ∨ k = 3 ∨ k = 4 ∨ k = 5 ∨ k = 6 by omega) with rfl | rfl | rfl | rfl | rfl | rfl | rfl
    · exact List.mem_of_getElem? (i := 1) rfl
    · exact absurd hd (by decide)
    · exact absurd hd (by decide)
    · exact absurd hd (by decide)
    · exact absurd hd (by decide)
    · exact absurd hd (by decide)
    · exact absurd hd (by decide)
  · have e9 := Nat.add_left_cancel e
    have hk9 : k < 7 := hk
    have hk8 : k' < 7 := hk'
    clear e
    revert hd hd' e9
    exact inj2 k hk9 k' hk8
  · cases hb
  exact v_vret hx hq (by decide) (by decide) dX2_init_22 rfl
set_option maxHeartbeats 8000000 in
theorem ctX3_init (l : Launch) (D : DD) (w : Wd) (G : GT) (sz : Nat) (hR : RX D w 3 G sz) (a1 : Nat) (a2 : Nat) (hl1 : zL w 4 a1 = true) (hl2 : zL w 1 a2 = true) : MetV l yX3_init (WS yX3_init cX3_init 3 none) rmX3_init D [.ref (zS w), .ref a1, .ref a2] G sz (nwX3 w a1 a2) := by
  refine MetV_ofVI (own := RX3) (P := RX D w 3) hR (by decide) rfl rfl (by simp [Value.category]) (Nat.le_of_ble_eq_true rfl) (fun x hx hin hq hD hl => ?_)
  subst hD
  unfold RX
  refine V.imp (P' := RY (xD x) (bmp 1 w) [(zS w, .inr (3, [.null, .null]))]) (fun G sz h => h) ?_
  refine v_aload_n (pc' := 1) hx dX3_init_0 rfl rfl ?_
  refine v_obj (pc' := 4) hx (tb_in 237 (by decide +kernel) (by decide +kernel)) oi_1 oi_2 ⟨by decide, by decide⟩ dX3_init_1 rfl ?_
  refine v_aload_n (pc' := 5) hx dX3_init_4 rfl rfl ?_
  refine v_aload_n (pc' := 6) hx dX3_init_5 rfl rfl ?_
  refine v_yput (pc' := 9) (i := 0) (c := 3) (k := 0) (fs' := [.ref a1, .null]) (X' := [(zS w, .inr (3, [.ref a1, .null]))]) hx hin rfl (by decide) (by decide) (tb_in 238 (by decide +kernel) (by decide +kernel)) rfl rfl rfl (Nat.le_of_ble_eq_true rfl) rfl rfl dX3_init_6 rfl ?_
  refine v_aload_n (pc' := 10) hx dX3_init_9 rfl rfl ?_
  refine v_aload_n (pc' := 11) hx dX3_init_10 rfl rfl ?_
  refine v_yput (pc' := 14) (i := 0) (c := 3) (k := 1) (fs' := [.ref a1, .ref a2]) (X' := [(zS w, .inr (3, [.ref a1, .ref a2]))]) hx hin rfl (by decide) (by decide) (tb_in 239 (by decide +kernel) (by decide +kernel)) rfl rfl rfl (Nat.le_of_ble_eq_true rfl) rfl rfl dX3_init_11 rfl ?_
  refine V.imp (P' := Rp (xD x) (nwX3 w a1 a2)) (fun G sz h => RY_end h (by decide) (List.mem_of_getElem? (i := 0) rfl) (fun k hk hd => ?_) (fun k hk k' hk' hd hd' e => ?_) (fun k j b hb => ?_)) ?_
  · have hk9 : k < 2 := hk
    rcases (show k = 0 ∨ k = 1 by omega) with rfl | rfl
    · exact absurd hd (by decide)
    · exact absurd hd (by decide)
  · have e9 := Nat.add_left_cancel e
    have hk9 : k < 2 := hk
    have hk8 : k' < 2 := hk'
    clear e
    revert hd hd' e9
    exact inj3 k hk9 k' hk8
  · by_cases e : k = 0
    · rw [if_pos e] at hb; cases hb; rw [e]; exact hl1
    · rw [if_neg e] at hb; cases hb; rw [show tg 3 k = 1 by simp [tg, e]]; exact hl2
  exact v_vret hx hq (by decide) (by decide) dX3_init_14 rfl
set_option maxHeartbeats 8000000 in
theorem ctX4_init (l : Launch) (D : DD) (w : Wd) (G : GT) (sz : Nat) (hR : RX D w 4 G sz) : MetV l yX4_init (WS yX4_init cX4_init 1 none) rmX4_init D [.ref (zS w)] G sz (nwX4 w) := by
  refine MetV_ofVI (own := RX4) (P := RX D w 4) hR (by decide) rfl rfl (by simp [Value.category]) (Nat.le_of_ble_eq_true rfl) (fun x hx hin hq hD hl => ?_)
  subst hD
  unfold RX
  refine V.imp (P' := RY (xD x) (bmp 1 w) [(zS w, .inr (4, [.null, .int 0, .int 0, .int 0]))]) (fun G sz h => h) ?_
  refine v_aload_n (pc' := 1) hx dX4_init_0 rfl rfl ?_
  refine v_obj (pc' := 4) hx (tb_in 76 (by decide +kernel) (by decide +kernel)) oi_1 oi_2 ⟨by decide, by decide⟩ dX4_init_1 rfl ?_
  refine v_aload_n (pc' := 5) hx dX4_init_4 rfl rfl ?_
  refine v_sipush (pc' := 8) (v := 300) hx dX4_init_5 (by decide) rfl ?_
  refine v_ynew2 (pc' := 10) (w' := (bmp 2 w)) (a := zS w + 1) (X' := [(zS w, .inr (4, [.null, .int 0, .int 0, .int 0])), (zS w + 1, .inl ((xD x).2 1, 300, .inl (fun _ => 0)))]) (t := 1) (n := 300) (ty := .byte) hx rfl rfl rfl rfl (fun _ => rfl) (fun _ _ h => h) rfl ac_byte (by decide) (by decide) (by decide) ⟨by decide, by decide⟩ dX4_init_8 rfl ?_
  refine v_yput (pc' := 13) (i := 0) (c := 4) (k := 0) (fs' := [.ref (zS w + 1), .int 0, .int 0, .int 0]) (X' := [(zS w, .inr (4, [.ref (zS w + 1), .int 0, .int 0, .int 0])), (zS w + 1, .inl ((xD x).2 1, 300, .inl (fun _ => 0)))]) hx hin rfl (by decide) (by decide) (tb_in 77 (by decide +kernel) (by decide +kernel)) rfl rfl rfl (Nat.le_of_ble_eq_true rfl) rfl rfl dX4_init_10 rfl ?_
  refine V.imp (P' := Rp (xD x) (nwX4 w)) (fun G sz h => RY_end h (by decide) (List.mem_of_getElem? (i := 0) rfl) (fun k hk hd => ?_) (fun k hk k' hk' hd hd' e => ?_) (fun k j b hb => ?_)) ?_
  · have hk9 : k < 4 := hk
    rcases (show k = 0 ∨ k = 1 ∨ k = 2 ∨ k = 3 by omega) with rfl | rfl | rfl | rfl
    · exact List.mem_of_getElem? (i := 1) rfl
    · exact absurd hd (by decide)
    · exact absurd hd (by decide)
    · exact absurd hd (by decide)
  · have e9 := Nat.add_left_cancel e
    have hk9 : k < 4 := hk
    have hk8 : k' < 4 := hk'
    clear e
    revert hd hd' e9
    exact inj4 k hk9 k' hk8
  · cases hb
  exact v_vret hx hq (by decide) (by decide) dX4_init_13 rfl
set_option maxHeartbeats 8000000 in
theorem ctX6_init (l : Launch) (D : DD) (w : Wd) (G : GT) (sz : Nat) (hR : RX D w 6 G sz) : MetV l yX6_init (WS yX6_init cX6_init 1 none) rmX6_init D [.ref (zS w)] G sz (nwX6 w) := by
  refine MetV_ofVI (own := RX6) (P := RX D w 6) hR (by decide) rfl rfl (by simp [Value.category]) (Nat.le_of_ble_eq_true rfl) (fun x hx hin hq hD hl => ?_)
  subst hD
  unfold RX
  refine V.imp (P' := RY (xD x) (bmp 1 w) [(zS w, .inr (6, [.null, .int 0, .int 0, .int 0, .int 0, .null, .null, .null, .null, .null, .null, .null, .null, .null, .int 0, .int 0, .int 0, .int 0, .int 0, .int 0, .int 0, .int 0, .int 0, .int 0, .null, .null, .null, .null, .int 0, .null, .null]))]) (fun G sz h => h) ?_
  refine v_aload_n (pc' := 1) hx dX6_init_0 rfl rfl ?_
  refine v_obj (pc' := 4) hx (tb_in 612 (by decide +kernel) (by decide +kernel)) oi_1 oi_2 ⟨by decide, by decide⟩ dX6_init_1 rfl ?_
  refine v_aload_n (pc' := 5) hx dX6_init_4 rfl rfl ?_
  refine v_sipush (pc' := 8) (v := 300) hx dX6_init_5 (by decide) rfl ?_
  refine v_ynew2 (pc' := 10) (w' := (bmp 2 w)) (a := zS w + 1) (X' := [(zS w, .inr (6, [.null, .int 0, .int 0, .int 0, .int 0, .null, .null, .null, .null, .null, .null, .null, .null, .null, .int 0, .int 0, .int 0, .int 0, .int 0, .int 0, .int 0, .int 0, .int 0, .int 0, .null, .null, .null, .null, .int 0, .null, .null])), (zS w + 1, .inl ((xD x).2 1, 300, .inl (fun _ => 0)))]) (t := 1) (n := 300) (ty := .byte) hx rfl rfl rfl rfl (fun _ => rfl) (fun _ _ h => h) rfl ac_byte (by decide) (by decide) (by decide) ⟨by decide, by decide⟩ dX6_init_8 rfl ?_
  refine v_yput (pc' := 13) (i := 0) (c := 6) (k := 0) (fs' := [.ref (zS w + 1), .int 0, .int 0, .int 0, .int 0, .null, .null, .null, .null, .null, .null, .null, .null, .null, .int 0, .int 0, .int 0, .int 0, .int 0, .int 0, .int 0, .int 0, .int 0, .int 0, .null, .null, .null, .null, .int 0, .null, .null]) (X' := [(zS w, .inr (6, [.ref (zS w + 1), .int 0, .int 0, .int 0, .int 0, .null, .null, .null, .null, .null, .null, .null, .null, .null, .int 0, .int 0, .int 0, .int 0, .int 0, .int 0, .int 0, .int 0, .int 0, .int 0, .null, .null, .null, .null, .int 0, .null, .null])), (zS w + 1, .inl ((xD x).2 1, 300, .inl (fun _ => 0)))]) hx hin rfl (by decide) (by decide) (tb_in 613 (by decide +kernel) (by decide +kernel)) rfl rfl rfl (Nat.le_of_ble_eq_true rfl) rfl rfl dX6_init_10 rfl ?_
  refine v_aload_n (pc' := 14) hx dX6_init_13 rfl rfl ?_
  refine v_sipush (pc' := 17) (v := 10000) hx dX6_init_14 (by decide) rfl ?_
  refine v_yput (pc' := 20) (i := 0) (c := 6) (k := 3) (fs' := [.ref (zS w + 1), .int 0, .int 0, .int 10000, .int 0, .null, .null, .null, .null, .null, .null, .null, .null, .null, .int 0, .int 0, .int 0, .int 0, .int 0, .int 0, .int 0, .int 0, .int 0, .int 0, .null, .null, .null, .null, .int 0, .null, .null]) (X' := [(zS w, .inr (6, [.ref (zS w + 1), .int 0, .int 0, .int 10000, .int 0, .null, .null, .null, .null, .null, .null, .null, .null, .null, .int 0, .int 0, .int 0, .int 0, .int 0, .int 0, .int 0, .int 0, .int 0, .int 0, .null, .null, .null, .null, .int 0, .null, .null])), (zS w + 1, .inl ((xD x).2 1, 300, .inl (fun _ => 0)))]) hx hin rfl (by decide) (by decide) (tb_in 616 (by decide +kernel) (by decide +kernel)) rfl rfl rfl (Nat.le_of_ble_eq_true rfl) rfl rfl dX6_init_17 rfl ?_
  refine v_aload_n (pc' := 21) hx dX6_init_20 rfl rfl ?_
  refine v_bipush (pc' := 23) (v := 10) hx dX6_init_21 (by decide) rfl ?_
  refine v_yput (pc' := 26) (i := 0) (c := 6) (k := 4) (fs' := [.ref (zS w + 1), .int 0, .int 0, .int 10000, .int 10, .null, .null, .null, .null, .null, .null, .null, .null, .null, .int 0, .int 0, .int 0, .int 0, .int 0, .int 0, .int 0, .int 0, .int 0, .int 0, .null, .null, .null, .null, .int 0, .null, .null]) (X' := [(zS w, .inr (6, [.ref (zS w + 1), .int 0, .int 0, .int 10000, .int 10, .null, .null, .null, .null, .null, .null, .null, .null, .null, .int 0, .int 0, .int 0, .int 0, .int 0, .int 0, .int 0, .int 0, .int 0, .int 0, .null, .null, .null, .null, .int 0, .null, .null])), (zS w + 1, .inl ((xD x).2 1, 300, .inl (fun _ => 0)))]) hx hin rfl (by decide) (by decide) (tb_in 617 (by decide +kernel) (by decide +kernel)) rfl rfl rfl (Nat.le_of_ble_eq_true rfl) rfl rfl dX6_init_23 rfl ?_
  refine v_aload_n (pc' := 27) hx dX6_init_26 rfl rfl ?_
  refine v_bipush (pc' := 29) (v := 8) hx dX6_init_27 (by decide) rfl ?_
  refine v_ynew2 (pc' := 31) (w' := (bmp 3 w)) (a := zS w + 2) (X' := [(zS w, .inr (6, [.ref (zS w + 1), .int 0, .int 0, .int 10000, .int 10, .null, .null, .null, .null, .null, .null, .null, .null, .null, .int 0, .int 0, .int 0, .int 0, .int 0, .int 0, .int 0, .int 0, .int 0, .int 0, .null, .null, .null, .null, .int 0, .null, .null])), (zS w + 1, .inl ((xD x).2 1, 300, .inl (fun _ => 0))), (zS w + 2, .inl ((xD x).2 0, 8, .inl (fun _ => 0)))]) (t := 0) (n := 8) (ty := .int) hx rfl rfl rfl rfl (fun _ => rfl) (fun _ _ h => h) rfl ac_int (by decide) (by decide) (by decide) ⟨by decide, by decide⟩ dX6_init_29 rfl ?_
  refine v_yput (pc' := 34) (i := 0) (c := 6) (k := 5) (fs' := [.ref (zS w + 1), .int 0, .int 0, .int 10000, .int 10, .ref (zS w + 2), .null, .null, .null, .null, .null, .null, .null, .null, .int 0, .int 0, .int 0, .int 0, .int 0, .int 0, .int 0, .int 0, .int 0, .int 0, .null, .null, .null, .null, .int 0, .null, .null]) (X' := [(zS w, .inr (6, [.ref (zS w + 1), .int 0, .int 0, .int 10000, .int 10, .ref (zS w + 2), .null, .null, .null, .null, .null, .null, .null, .null, .int 0, .int 0, .int 0, .int 0, .int 0, .int 0, .int 0, .int 0, .int 0, .int 0, .null, .null, .null, .null, .int 0, .null, .null])), (zS w + 1, .inl ((xD x).2 1, 300, .inl (fun _ => 0))), (zS w + 2, .inl ((xD x).2 0, 8, .inl (fun _ => 0)))]) hx hin rfl (by decide) (by decide) (tb_in 618 (by decide +kernel) (by decide +kernel)) rfl rfl rfl (Nat.le_of_ble_eq_true rfl) rfl rfl dX6_init_31 rfl ?_
  refine v_aload_n (pc' := 35) hx dX6_init_34 rfl rfl ?_
  refine v_bipush (pc' := 37) (v := 8) hx dX6_init_35 (by decide) rfl ?_
  refine v_ynew2 (pc' := 39) (w' := (bmp 4 w)) (a := zS w + 3) (X' := [(zS w, .inr (6, [.ref (zS w + 1), .int 0, .int 0, .int 10000, .int 10, .ref (zS w + 2), .null, .null, .null, .null, .null, .null, .null, .null, .int 0, .int 0, .int 0, .int 0, .int 0, .int 0, .int 0, .int 0, .int 0, .int 0, .null, .null, .null, .null, .int 0, .null, .null])), (zS w + 1, .inl ((xD x).2 1, 300, .inl (fun _ => 0))), (zS w + 2, .inl ((xD x).2 0, 8, .inl (fun _ => 0))), (zS w + 3, .inl ((xD x).2 0, 8, .inl (fun _ => 0)))]) (t := 0) (n := 8) (ty := .int) hx rfl rfl rfl rfl (fun _ => rfl) (fun _ _ h => h) rfl ac_int (by decide) (by decide) (by decide) ⟨by decide, by decide⟩ dX6_init_37 rfl ?_
  refine v_yput (pc' := 42) (i := 0) (c := 6) (k := 6) (fs' := [.ref (zS w + 1), .int 0, .int 0, .int 10000, .int 10, .ref (zS w + 2), .ref (zS w + 3), .null, .null, .null, .null, .null, .null, .null, .int 0, .int 0, .int 0, .int 0, .int 0, .int 0, .int 0, .int 0, .int 0, .int 0, .null, .null, .null, .null, .int 0, .null, .null]) (X' := [(zS w, .inr (6, [.ref (zS w + 1), .int 0, .int 0, .int 10000, .int 10, .ref (zS w + 2), .ref (zS w + 3), .null, .null, .null, .null, .null, .null, .null, .int 0, .int 0, .int 0, .int 0, .int 0, .int 0, .int 0, .int 0, .int 0, .int 0, .null, .null, .null, .null, .int 0, .null, .null])), (zS w + 1, .inl ((xD x).2 1, 300, .inl (fun _ => 0))), (zS w + 2, .inl ((xD x).2 0, 8, .inl (fun _ => 0))), (zS w + 3, .inl ((xD x).2 0, 8, .inl (fun _ => 0)))]) hx hin rfl (by decide) (by decide) (tb_in 619 (by decide +kernel) (by decide +kernel)) rfl rfl rfl (Nat.le_of_ble_eq_true rfl) rfl rfl dX6_init_39 rfl ?_
  refine v_aload_n (pc' := 43) hx dX6_init_42 rfl rfl ?_
  refine v_sipush (pc' := 46) (v := 192) hx dX6_init_43 (by decide) rfl ?_
  refine v_ynew2 (pc' := 48) (w' := (bmp 5 w)) (a := zS w + 4) (X' := [(zS w, .inr (6, [.ref (zS w + 1), .int 0, .int 0, .int 10000, .int 10, .ref (zS w + 2), .ref (zS w + 3), .null, .null, .null, .null, .null, .null, .null, .int 0, .int 0, .int 0, .int 0, .int 0, .int 0, .int 0, .int 0, .int 0, .int 0, .null, .null, .null, .null, .int 0, .null, .null])), (zS w + 1, .inl ((xD x).2 1, 300, .inl (fun _ => 0))), (zS w + 2, .inl ((xD x).2 0, 8, .inl (fun _ => 0))), (zS w + 3, .inl ((xD x).2 0, 8, .inl (fun _ => 0))), (zS w + 4, .inl ((xD x).2 2, 192, .inl (fun _ => 0)))]) (t := 2) (n := 192) (ty := .boolean) hx rfl rfl rfl rfl (fun _ => rfl) (fun _ _ h => h) rfl ac_boolean (by decide) (by decide) (by decide) ⟨by decide, by decide⟩ dX6_init_46 rfl ?_
  refine v_yput (pc' := 51) (i := 0) (c := 6) (k := 7) (fs' := [.ref (zS w + 1), .int 0, .int 0, .int 10000, .int 10, .ref (zS w + 2), .ref (zS w + 3), .ref (zS w + 4), .null, .null, .null, .null, .null, .null, .int 0, .int 0, .int 0, .int 0, .int 0, .int 0, .int 0, .int 0, .int 0, .int 0, .null, .null, .null, .null, .int 0, .null, .null]) (X' := [(zS w, .inr (6, [.ref (zS w + 1), .int 0, .int 0, .int 10000, .int 10, .ref (zS w + 2), .ref (zS w + 3), .ref (zS w + 4), .null, .null, .null, .null, .null, .null, .int 0, .int 0, .int 0, .int 0, .int 0, .int 0, .int 0, .int 0, .int 0, .int 0, .null, .null, .null, .null, .int 0, .null, .null])), (zS w + 1, .inl ((xD x).2 1, 300, .inl (fun _ => 0))), (zS w + 2, .inl ((xD x).2 0, 8, .inl (fun _ => 0))), (zS w + 3, .inl ((xD x).2 0, 8, .inl (fun _ => 0))), (zS w + 4, .inl ((xD x).2 2, 192, .inl (fun _ => 0)))]) hx hin rfl (by decide) (by decide) (tb_in 620 (by decide +kernel) (by decide +kernel)) rfl rfl rfl (Nat.le_of_ble_eq_true rfl) rfl rfl dX6_init_48 rfl ?_
  refine v_aload_n (pc' := 52) hx dX6_init_51 rfl rfl ?_
  refine v_sipush (pc' := 55) (v := 192) hx dX6_init_52 (by decide) rfl ?_
  refine v_ynew2 (pc' := 57) (w' := (bmp 6 w)) (a := zS w + 5) (X' := [(zS w, .inr (6, [.ref (zS w + 1), .int 0, .int 0, .int 10000, .int 10, .ref (zS w + 2), .ref (zS w + 3), .ref (zS w + 4), .null, .null, .null, .null, .null, .null, .int 0, .int 0, .int 0, .int 0, .int 0, .int 0, .int 0, .int 0, .int 0, .int 0, .null, .null, .null, .null, .int 0, .null, .null])), (zS w + 1, .inl ((xD x).2 1, 300, .inl (fun _ => 0))), (zS w + 2, .inl ((xD x).2 0, 8, .inl (fun _ => 0))), (zS w + 3, .inl ((xD x).2 0, 8, .inl (fun _ => 0))), (zS w + 4, .inl ((xD x).2 2, 192, .inl (fun _ => 0))), (zS w + 5, .inl ((xD x).2 0, 192, .inl (fun _ => 0)))]) (t := 0) (n := 192) (ty := .int) hx rfl rfl rfl rfl (fun _ => rfl) (fun _ _ h => h) rfl ac_int (by decide) (by decide) (by decide) ⟨by decide, by decide⟩ dX6_init_55 rfl ?_
  refine v_yput (pc' := 60) (i := 0) (c := 6) (k := 8) (fs' := [.ref (zS w + 1), .int 0, .int 0, .int 10000, .int 10, .ref (zS w + 2), .ref (zS w + 3), .ref (zS w + 4), .ref (zS w + 5), .null, .null, .null, .null, .null, .int 0, .int 0, .int 0, .int 0, .int 0, .int 0, .int 0, .int 0, .int 0, .int 0, .null, .null, .null, .null, .int 0, .null, .null]) (X' := [(zS w, .inr (6, [.ref (zS w + 1), .int 0, .int 0, .int 10000, .int 10, .ref (zS w + 2), .ref (zS w + 3), .ref (zS w + 4), .ref (zS w + 5), .null, .null, .null, .null, .null, .int 0, .int 0, .int 0, .int 0, .int 0, .int 0, .int 0, .int 0, .int 0, .int 0, .null, .null, .null, .null, .int 0, .null, .null])), (zS w + 1, .inl ((xD x).2 1, 300, .inl (fun _ => 0))), (zS w + 2, .inl ((xD x).2 0, 8, .inl (fun _ => 0))), (zS w + 3, .inl ((xD x).2 0, 8, .inl (fun _ => 0))), (zS w + 4, .inl ((xD x).2 2, 192, .inl (fun _ => 0))), (zS w + 5, .inl ((xD x).2 0, 192, .inl (fun _ => 0)))]) hx hin rfl (by decide) (by decide) (tb_in 621 (by decide +kernel) (by decide +kernel)) rfl rfl rfl (Nat.le_of_ble_eq_true rfl) rfl rfl dX6_init_57 rfl ?_
  refine v_aload_n (pc' := 61) hx dX6_init_60 rfl rfl ?_
  refine v_sipush (pc' := 64) (v := 192) hx dX6_init_61 (by decide) rfl ?_
  refine v_ynew2 (pc' := 66) (w' := (bmp 7 w)) (a := zS w + 6) (X' := [(zS w, .inr (6, [.ref (zS w + 1), .int 0, .int 0, .int 10000, .int 10, .ref (zS w + 2), .ref (zS w + 3), .ref (zS w + 4), .ref (zS w + 5), .null, .null, .null, .null, .null, .int 0, .int 0, .int 0, .int 0, .int 0, .int 0, .int 0, .int 0, .int 0, .int 0, .null, .null, .null, .null, .int 0, .null, .null])), (zS w + 1, .inl ((xD x).2 1, 300, .inl (fun _ => 0))), (zS w + 2, .inl ((xD x).2 0, 8, .inl (fun _ => 0))), (zS w + 3, .inl ((xD x).2 0, 8, .inl (fun _ => 0))), (zS w + 4, .inl ((xD x).2 2, 192, .inl (fun _ => 0))), (zS w + 5, .inl ((xD x).2 0, 192, .inl (fun _ => 0))), (zS w + 6, .inl ((xD x).2 0, 192, .inl (fun _ => 0)))]) (t := 0) (n := 192) (ty := .int) hx rfl rfl rfl rfl (fun _ => rfl) (fun _ _ h => h) rfl ac_int (by decide) (by decide) (by decide) ⟨by decide, by decide⟩ dX6_init_64 rfl ?_
  refine v_yput (pc' := 69) (i := 0) (c := 6) (k := 9) (fs' := [.ref (zS w + 1), .int 0, .int 0, .int 10000, .int 10, .ref (zS w + 2), .ref (zS w + 3), .ref (zS w + 4), .ref (zS w + 5), .ref (zS w + 6), .null, .null, .null, .null, .int 0, .int 0, .int 0, .int 0, .int 0, .int 0, .int 0, .int 0, .int 0, .int 0, .null, .null, .null, .null, .int 0, .null, .null]) (X' := [(zS w, .inr (6, [.ref (zS w + 1), .int 0, .int 0, .int 10000, .int 10, .ref (zS w + 2), .ref (zS w + 3), .ref (zS w + 4), .ref (zS w + 5), .ref (zS w + 6), .null, .null, .null, .null, .int 0, .int 0, .int 0, .int 0, .int 0, .int 0, .int 0, .int 0, .int 0, .int 0, .null, .null, .null, .null, .int 0, .null, .null])), (zS w + 1, .inl ((xD x).2 1, 300, .inl (fun _ => 0))), (zS w + 2, .inl ((xD x).2 0, 8, .inl (fun _ => 0))), (zS w + 3, .inl ((xD x).2 0, 8, .inl (fun _ => 0))), (zS w + 4, .inl ((xD x).2 2, 192, .inl (fun _ => 0))), (zS w + 5, .inl ((xD x).2 0, 192, .inl (fun _ => 0))), (zS w + 6, .inl ((xD x).2 0, 192, .inl (fun _ => 0)))]) hx hin rfl (by decide) (by decide) (tb_in 622 (by decide +kernel) (by decide +kernel)) rfl rfl rfl (Nat.le_of_ble_eq_true rfl) rfl rfl dX6_init_66 rfl ?_
  refine v_aload_n (pc' := 70) hx dX6_init_69 rfl rfl ?_
  refine v_sipush (pc' := 73) (v := 192) hx dX6_init_70 (by decide) rfl ?_
  refine v_ynew2 (pc' := 75) (w' := (bmp 8 w)) (a := zS w + 7) (X' := [(zS w, .inr (6, [.ref (zS w + 1), .int 0, .int 0, .int 10000, .int 10, .ref (zS w + 2), .ref (zS w + 3), .ref (zS w + 4), .ref (zS w + 5), .ref (zS w + 6), .null, .null, .null, .null, .int 0, .int 0, .int 0, .int 0, .int 0, .int 0, .int 0, .int 0, .int 0, .int 0, .null, .null, .null, .null, .int 0, .null, .null])), (zS w + 1, .inl ((xD x).2 1, 300, .inl (fun _ => 0))), (zS w + 2, .inl ((xD x).2 0, 8, .inl (fun _ => 0))), (zS w + 3, .inl ((xD x).2 0, 8, .inl (fun _ => 0))), (zS w + 4, .inl ((xD x).2 2, 192, .inl (fun _ => 0))), (zS w + 5, .inl ((xD x).2 0, 192, .inl (fun _ => 0))), (zS w + 6, .inl ((xD x).2 0, 192, .inl (fun _ => 0))), (zS w + 7, .inl ((xD x).2 0, 192, .inl (fun _ => 0)))]) (t := 0) (n := 192) (ty := .int) hx rfl rfl rfl rfl (fun _ => rfl) (fun _ _ h => h) rfl ac_int (by decide) (by decide) (by decide) ⟨by decide, by decide⟩ dX6_init_73 rfl ?_
  refine v_yput (pc' := 78) (i := 0) (c := 6) (k := 10) (fs' := [.ref (zS w + 1), .int 0, .int 0, .int 10000, .int 10, .ref (zS w + 2), .ref (zS w + 3), .ref (zS w + 4), .ref (zS w + 5), .ref (zS w + 6), .ref (zS w + 7), .null, .null, .null, .int 0, .int 0, .int 0, .int 0, .int 0, .int 0, .int 0, .int 0, .int 0, .int 0, .null, .null, .null, .null, .int 0, .null, .null]) (X' := [(zS w, .inr (6, [.ref (zS w + 1), .int 0, .int 0, .int 10000, .int 10, .ref (zS w + 2), .ref (zS w + 3), .ref (zS w + 4), .ref (zS w + 5), .ref (zS w + 6), .ref (zS w + 7), .null, .null, .null, .int 0, .int 0, .int 0, .int 0, .int 0, .int 0, .int 0, .int 0, .int 0, .int 0, .null, .null, .null, .null, .int 0, .null, .null])), (zS w + 1, .inl ((xD x).2 1, 300, .inl (fun _ => 0))), (zS w + 2, .inl ((xD x).2 0, 8, .inl (fun _ => 0))), (zS w + 3, .inl ((xD x).2 0, 8, .inl (fun _ => 0))), (zS w + 4, .inl ((xD x).2 2, 192, .inl (fun _ => 0))), (zS w + 5, .inl ((xD x).2 0, 192, .inl (fun _ => 0))), (zS w + 6, .inl ((xD x).2 0, 192, .inl (fun _ => 0))), (zS w + 7, .inl ((xD x).2 0, 192, .inl (fun _ => 0)))]) hx hin rfl (by decide) (by decide) (tb_in 623 (by decide +kernel) (by decide +kernel)) rfl rfl rfl (Nat.le_of_ble_eq_true rfl) rfl rfl dX6_init_75 rfl ?_
  refine v_aload_n (pc' := 79) hx dX6_init_78 rfl rfl ?_
  refine v_sipush (pc' := 82) (v := 192) hx dX6_init_79 (by decide) rfl ?_
  refine v_ynew2 (pc' := 84) (w' := (bmp 9 w)) (a := zS w + 8) (X' := [(zS w, .inr (6, [.ref (zS w + 1), .int 0, .int 0, .int 10000, .int 10, .ref (zS w + 2), .ref (zS w + 3), .ref (zS w + 4), .ref (zS w + 5), .ref (zS w + 6), .ref (zS w + 7), .null, .null, .null, .int 0, .int 0, .int 0, .int 0, .int 0, .int 0, .int 0, .int 0, .int 0, .int 0, .null, .null, .null, .null, .int 0, .null, .null])), (zS w + 1, .inl ((xD x).2 1, 300, .inl (fun _ => 0))), (zS w + 2, .inl ((xD x).2 0, 8, .inl (fun _ => 0))), (zS w + 3, .inl ((xD x).2 0, 8, .inl (fun _ => 0))), (zS w + 4, .inl ((xD x).2 2, 192, .inl (fun _ => 0))), (zS w + 5, .inl ((xD x).2 0, 192, .inl (fun _ => 0))), (zS w + 6, .inl ((xD x).2 0, 192, .inl (fun _ => 0))), (zS w + 7, .inl ((xD x).2 0, 192, .inl (fun _ => 0))), (zS w + 8, .inl ((xD x).2 0, 192, .inl (fun _ => 0)))]) (t := 0) (n := 192) (ty := .int) hx rfl rfl rfl rfl (fun _ => rfl) (fun _ _ h => h) rfl ac_int (by decide) (by decide) (by decide) ⟨by decide, by decide⟩ dX6_init_82 rfl ?_
  refine v_yput (pc' := 87) (i := 0) (c := 6) (k := 11) (fs' := [.ref (zS w + 1), .int 0, .int 0, .int 10000, .int 10, .ref (zS w + 2), .ref (zS w + 3), .ref (zS w + 4), .ref (zS w + 5), .ref (zS w + 6), .ref (zS w + 7), .ref (zS w + 8), .null, .null, .int 0, .int 0, .int 0, .int 0, .int 0, .int 0, .int 0, .int 0, .int 0, .int 0, .null, .null, .null, .null, .int 0, .null, .null]) (X' := [(zS w, .inr (6, [.ref (zS w + 1), .int 0, .int 0, .int 10000, .int 10, .ref (zS w + 2), .ref (zS w + 3), .ref (zS w + 4), .ref (zS w + 5), .ref (zS w + 6), .ref (zS w + 7), .ref (zS w + 8), .null, .null, .int 0, .int 0, .int 0, .int 0, .int 0, .int 0, .int 0, .int 0, .int 0, .int 0, .null, .null, .null, .null, .int 0, .null, .null])), (zS w + 1, .inl ((xD x).2 1, 300, .inl (fun _ => 0))), (zS w + 2, .inl ((xD x).2 0, 8, .inl (fun _ => 0))), (zS w + 3, .inl ((xD x).2 0, 8, .inl (fun _ => 0))), (zS w + 4, .inl ((xD x).2 2, 192, .inl (fun _ => 0))), (zS w + 5, .inl ((xD x).2 0, 192, .inl (fun _ => 0))), (zS w + 6, .inl ((xD x).2 0, 192, .inl (fun _ => 0))), (zS w + 7, .inl ((xD x).2 0, 192, .inl (fun _ => 0))), (zS w + 8, .inl ((xD x).2 0, 192, .inl (fun _ => 0)))]) hx hin rfl (by decide) (by decide) (tb_in 624 (by decide +kernel) (by decide +kernel)) rfl rfl rfl (Nat.le_of_ble_eq_true rfl) rfl rfl dX6_init_84 rfl ?_
  refine v_aload_n (pc' := 88) hx dX6_init_87 rfl rfl ?_
  refine v_sipush (pc' := 91) (v := 192) hx dX6_init_88 (by decide) rfl ?_
  refine v_ynew2 (pc' := 93) (w' := (bmp 10 w)) (a := zS w + 9) (X' := [(zS w, .inr (6, [.ref (zS w + 1), .int 0, .int 0, .int 10000, .int 10, .ref (zS w + 2), .ref (zS w + 3), .ref (zS w + 4), .ref (zS w + 5), .ref (zS w + 6), .ref (zS w + 7), .ref (zS w + 8), .null, .null, .int 0, .int 0, .int 0, .int 0, .int 0, .int 0, .int 0, .int 0, .int 0, .int 0, .null, .null, .null, .null, .int 0, .null, .null])), (zS w + 1, .inl ((xD x).2 1, 300, .inl (fun _ => 0))), (zS w + 2, .inl ((xD x).2 0, 8, .inl (fun _ => 0))), (zS w + 3, .inl ((xD x).2 0, 8, .inl (fun _ => 0))), (zS w + 4, .inl ((xD x).2 2, 192, .inl (fun _ => 0))), (zS w + 5, .inl ((xD x).2 0, 192, .inl (fun _ => 0))), (zS w + 6, .inl ((xD x).2 0, 192, .inl (fun _ => 0))), (zS w + 7, .inl ((xD x).2 0, 192, .inl (fun _ => 0))), (zS w + 8, .inl ((xD x).2 0, 192, .inl (fun _ => 0))), (zS w + 9, .inl ((xD x).2 0, 192, .inl (fun _ => 0)))]) (t := 0) (n := 192) (ty := .int) hx rfl rfl rfl rfl (fun _ => rfl) (fun _ _ h => h) rfl ac_int (by decide) (by decide) (by decide) ⟨by decide, by decide⟩ dX6_init_91 rfl ?_
  refine v_yput (pc' := 96) (i := 0) (c := 6) (k := 12) (fs' := [.ref (zS w + 1), .int 0, .int 0, .int 10000, .int 10, .ref (zS w + 2), .ref (zS w + 3), .ref (zS w + 4), .ref (zS w + 5), .ref (zS w + 6), .ref (zS w + 7), .ref (zS w + 8), .ref (zS w + 9), .null, .int 0, .int 0, .int 0, .int 0, .int 0, .int 0, .int 0, .int 0, .int 0, .int 0, .null, .null, .null, .null, .int 0, .null, .null]) (X' := [(zS w, .inr (6, [.ref (zS w + 1), .int 0, .int 0, .int 10000, .int 10, .ref (zS w + 2), .ref (zS w + 3), .ref (zS w + 4), .ref (zS w + 5), .ref (zS w + 6), .ref (zS w + 7), .ref (zS w + 8), .ref (zS w + 9), .null, .int 0, .int 0, .int 0, .int 0, .int 0, .int 0, .int 0, .int 0, .int 0, .int 0, .null, .null, .null, .null, .int 0, .null, .null])), (zS w + 1, .inl ((xD x).2 1, 300, .inl (fun _ => 0))), (zS w + 2, .inl ((xD x).2 0, 8, .inl (fun _ => 0))), (zS w + 3, .inl ((xD x).2 0, 8, .inl (fun _ => 0))), (zS w + 4, .inl ((xD x).2 2, 192, .inl (fun _ => 0))), (zS w + 5, .inl ((xD x).2 0, 192, .inl (fun _ => 0))), (zS w + 6, .inl ((xD x).2 0, 192, .inl (fun _ => 0))), (zS w + 7, .inl ((xD x).2 0, 192, .inl (fun _ => 0))), (zS w + 8, .inl ((xD x).2 0, 192, .inl (fun _ => 0))), (zS w + 9, .inl ((xD x).2 0, 192, .inl (fun _ => 0)))]) hx hin rfl (by decide) (by decide) (tb_in 625 (by decide +kernel) (by decide +kernel)) rfl rfl rfl (Nat.le_of_ble_eq_true rfl) rfl rfl dX6_init_93 rfl ?_
  refine v_aload_n (pc' := 97) hx dX6_init_96 rfl rfl ?_
  refine v_sipush (pc' := 100) (v := 2304) hx dX6_init_97 (by decide) rfl ?_
  refine v_ynew2 (pc' := 102) (w' := (bmp 11 w)) (a := zS w + 10) (X' := [(zS w, .inr (6, [.ref (zS w + 1), .int 0, .int 0, .int 10000, .int 10, .ref (zS w + 2), .ref (zS w + 3), .ref (zS w + 4), .ref (zS w + 5), .ref (zS w + 6), .ref (zS w + 7), .ref (zS w + 8), .ref (zS w + 9), .null, .int 0, .int 0, .int 0, .int 0, .int 0, .int 0, .int 0, .int 0, .int 0, .int 0, .null, .null, .null, .null, .int 0, .null, .null])), (zS w + 1, .inl ((xD x).2 1, 300, .inl (fun _ => 0))), (zS w + 2, .inl ((xD x).2 0, 8, .inl (fun _ => 0))), (zS w + 3, .inl ((xD x).2 0, 8, .inl (fun _ => 0))), (zS w + 4, .inl ((xD x).2 2, 192, .inl (fun _ => 0))), (zS w + 5, .inl ((xD x).2 0, 192, .inl (fun _ => 0))), (zS w + 6, .inl ((xD x).2 0, 192, .inl (fun _ => 0))), (zS w + 7, .inl ((xD x).2 0, 192, .inl (fun _ => 0))), (zS w + 8, .inl ((xD x).2 0, 192, .inl (fun _ => 0))), (zS w + 9, .inl ((xD x).2 0, 192, .inl (fun _ => 0))), (zS w + 10, .inl ((xD x).2 1, 2304, .inl (fun _ => 0)))]) (t := 1) (n := 2304) (ty := .byte) hx rfl rfl rfl rfl (fun _ => rfl) (fun _ _ h => h) rfl ac_byte (by decide) (by decide) (by decide) ⟨by decide, by decide⟩ dX6_init_100 rfl ?_
  refine v_yput (pc' := 105) (i := 0) (c := 6) (k := 13) (fs' := [.ref (zS w + 1), .int 0, .int 0, .int 10000, .int 10, .ref (zS w + 2), .ref (zS w + 3), .ref (zS w + 4), .ref (zS w + 5), .ref (zS w + 6), .ref (zS w + 7), .ref (zS w + 8), .ref (zS w + 9), .ref (zS w + 10), .int 0, .int 0, .int 0, .int 0, .int 0, .int 0, .int 0, .int 0, .int 0, .int 0, .null, .null, .null, .null, .int 0, .null, .null]) (X' := [(zS w, .inr (6, [.ref (zS w + 1), .int 0, .int 0, .int 10000, .int 10, .ref (zS w + 2), .ref (zS w + 3), .ref (zS w + 4), .ref (zS w + 5), .ref (zS w + 6), .ref (zS w + 7), .ref (zS w + 8), .ref (zS w + 9), .ref (zS w + 10), .int 0, .int 0, .int 0, .int 0, .int 0, .int 0, .int 0, .int 0, .int 0, .int 0, .null, .null, .null, .null, .int 0, .null, .null])), (zS w + 1, .inl ((xD x).2 1, 300, .inl (fun _ => 0))), (zS w + 2, .inl ((xD x).2 0, 8, .inl (fun _ => 0))), (zS w + 3, .inl ((xD x).2 0, 8, .inl (fun _ => 0))), (zS w + 4, .inl ((xD x).2 2, 192, .inl (fun _ => 0))), (zS w + 5, .inl ((xD x).2 0, 192, .inl (fun _ => 0))), (zS w + 6, .inl ((xD x).2 0, 192, .inl (fun _ => 0))), (zS w + 7, .inl ((xD x).2 0, 192, .inl (fun _ => 0))), (zS w + 8, .inl ((xD x).2 0, 192, .inl (fun _ => 0))), (zS w + 9, .inl ((xD x).2 0, 192, .inl (fun _ => 0))), (zS w + 10, .inl ((xD x).2 1, 2304, .inl (fun _ => 0)))]) hx hin rfl (by decide) (by decide) (tb_in 626 (by decide +kernel) (by decide +kernel)) rfl rfl rfl (Nat.le_of_ble_eq_true rfl) rfl rfl dX6_init_102 rfl ?_
  refine v_aload_n (pc' := 106) hx dX6_init_105 rfl rfl ?_
  refine v_bipush (pc' := 108) (v := 12) hx dX6_init_106 (by decide) rfl ?_
  refine v_ynew2 (pc' := 110) (w' := (bmp 12 w)) (a := zS w + 11) (X' := [(zS w, .inr (6, [.ref (zS w + 1), .int 0, .int 0, .int 10000, .int 10, .ref (zS w + 2), .ref (zS w + 3), .ref (zS w + 4), .ref (zS w + 5), .ref (zS w + 6), .ref (zS w + 7), .ref (zS w + 8), .ref (zS w + 9), .ref (zS w + 10), .int 0, .int 0, .int 0, .int 0, .int 0, .int 0, .int 0, .int 0, .int 0, .int 0, .null, .null, .null, .null, .int 0, .null, .null])), (zS w + 1, .inl ((xD x).2 1, 300, .inl (fun _ => 0))), (zS w + 2, .inl ((xD x).2 0, 8, .inl (fun _ => 0))), (zS w + 3, .inl ((xD x).2 0, 8, .inl (fun _ => 0))), (zS w + 4, .inl ((xD x).2 2, 192, .inl (fun _ => 0))), (zS w + 5, .inl ((xD x).2 0, 192, .inl (fun _ => 0))), (zS w + 6, .inl ((xD x).2 0, 192, .inl (fun _ => 0))), (zS w + 7, .inl ((xD x).2 0, 192, .inl (fun _ => 0))), (zS w + 8, .inl ((xD x).2 0, 192, .inl (fun _ => 0))), (zS w + 9, .inl ((xD x).2 0, 192, .inl (fun _ => 0))), (zS w + 10, .inl ((xD x).2 1, 2304, .inl (fun _ => 0))), (zS w + 11, .inl ((xD x).2 1, 12, .inl (fun _ => 0)))]) (t := 1) (n := 12) (ty := .byte) hx rfl rfl rfl rfl (fun _ => rfl) (fun _ _ h => h) rfl ac_byte (by decide) (by decide) (by decide) ⟨by decide, by decide⟩ dX6_init_108 rfl ?_
  refine v_yput (pc' := 113) (i := 0) (c := 6) (k := 24) (fs' := [.ref (zS w + 1), .int 0, .int 0, .int 10000, .int 10, .ref (zS w + 2), .ref (zS w + 3), .ref (zS w + 4), .ref (zS w + 5), .ref (zS w + 6), .ref (zS w + 7), .ref (zS w + 8), .ref (zS w + 9), .ref (zS w + 10), .int 0, .int 0, .int 0, .int 0, .int 0, .int 0, .int 0, .int 0, .int 0, .int 0, .ref (zS w + 11), .null, .null, .null, .int 0, .null, .null]) (X' := [(zS w, .inr (6, [.ref (zS w + 1), .int 0, .int 0, .int 10000, .int 10, .ref (zS w + 2), .ref (zS w + 3), .ref (zS w + 4), .ref (zS w + 5), .ref (zS w + 6), .ref (zS w + 7), .ref (zS w + 8), .ref (zS w + 9), .ref (zS w + 10), .int 0, .int 0, .int 0, .int 0, .int 0, .int 0, .int 0, .int 0, .int 0, .int 0, .ref (zS w + 11), .null, .null, .null, .int 0, .null, .null])), (zS w + 1, .inl ((xD x).2 1, 300, .inl (fun _ => 0))), (zS w + 2, .inl ((xD x).2 0, 8, .inl (fun _ => 0))), (zS w + 3, .inl ((xD x).2 0, 8, .inl (fun _ => 0))), (zS w + 4, .inl ((xD x).2 2, 192, .inl (fun _ => 0))), (zS w + 5, .inl ((xD x).2 0, 192, .inl (fun _ => 0))), (zS w + 6, .inl ((xD x).2 0, 192, .inl (fun _ => 0))), (zS w + 7, .inl ((xD x).2 0, 192, .inl (fun _ => 0))), (zS w + 8, .inl ((xD x).2 0, 192, .inl (fun _ => 0))), (zS w + 9, .inl ((xD x).2 0, 192, .inl (fun _ => 0))), (zS w + 10, .inl ((xD x).2 1, 2304, .inl (fun _ => 0))), (zS w + 11, .inl ((xD x).2 1, 12, .inl (fun _ => 0)))]) hx hin rfl (by decide) (by decide) (tb_in 637 (by decide +kernel) (by decide +kernel)) rfl rfl rfl (Nat.le_of_ble_eq_true rfl) rfl rfl dX6_init_110 rfl ?_
  refine v_aload_n (pc' := 114) hx dX6_init_113 rfl rfl ?_
  refine v_bipush (pc' := 116) (v := 16) hx dX6_init_114 (by decide) rfl ?_
  refine v_ynew2 (pc' := 118) (w' := (bmp 13 w)) (a := zS w + 12) (X' := [(zS w, .inr (6, [.ref (zS w + 1), .int 0, .int 0, .int 10000, .int 10, .ref (zS w + 2), .ref (zS w + 3), .ref (zS w + 4), .ref (zS w + 5), .ref (zS w + 6), .ref (zS w + 7), .ref (zS w + 8), .ref (zS w + 9), .ref (zS w + 10), .int 0, .int 0, .int 0, .int 0, .int 0, .int 0, .int 0, .int 0, .int 0, .int 0, .ref (zS w + 11), .null, .null, .null, .int 0, .null, .null])), (zS w + 1, .inl ((xD x).2 1, 300, .inl (fun _ => 0))), (zS w + 2, .inl ((xD x).2 0, 8, .inl (fun _ => 0))), (zS w + 3, .inl ((xD x).2 0, 8, .inl (fun _ => 0))), (zS w + 4, .inl ((xD x).2 2, 192, .inl (fun _ => 0))), (zS w + 5, .inl ((xD x).2 0, 192, .inl (fun _ => 0))), (zS w + 6, .inl ((xD x).2 0, 192, .inl (fun _ => 0))), (zS w + 7, .inl ((xD x).2 0, 192, .inl (fun _ => 0))), (zS w + 8, .inl ((xD x).2 0, 192, .inl (fun _ => 0))), (zS w + 9, .inl ((xD x).2 0, 192, .inl (fun _ => 0))), (zS w + 10, .inl ((xD x).2 1, 2304, .inl (fun _ => 0))), (zS w + 11, .inl ((xD x).2 1, 12, .inl (fun _ => 0))), (zS w + 12, .inl ((xD x).2 0, 16, .inl (fun _ => 0)))]) (t := 0) (n := 16) (ty := .int) hx rfl rfl rfl rfl (fun _ => rfl) (fun _ _ h => h) rfl ac_int (by decide) (by decide) (by decide) ⟨by decide, by decide⟩ dX6_init_116 rfl ?_
  refine v_yput (pc' := 121) (i := 0) (c := 6) (k := 25) (fs' := [.ref (zS w + 1), .int 0, .int 0, .int 10000, .int 10, .ref (zS w + 2), .ref (zS w + 3), .ref (zS w + 4), .ref (zS w + 5), .ref (zS w + 6), .ref (zS w + 7), .ref (zS w + 8), .ref (zS w + 9), .ref (zS w + 10), .int 0, .int 0, .int 0, .int 0, .int 0, .int 0, .int 0, .int 0, .int 0, .int 0, .ref (zS w + 11), .ref (zS w + 12), .null, .null, .int 0, .null, .null]) (X' := [(zS w, .inr (6, [.ref (zS w + 1), .int 0, .int 0, .int 10000, .int 10, .ref (zS w + 2), .ref (zS w + 3), .ref (zS w + 4), .ref (zS w + 5), .ref (zS w + 6), .ref (zS w + 7), .ref (zS w + 8), .ref (zS w + 9), .ref (zS w + 10), .int 0, .int 0, .int 0, .int 0, .int 0, .int 0, .int 0, .int 0, .int 0, .int 0, .ref (zS w + 11), .ref (zS w + 12), .null, .null, .int 0, .null, .null])), (zS w + 1, .inl ((xD x).2 1, 300, .inl (fun _ => 0))), (zS w + 2, .inl ((xD x).2 0, 8, .inl (fun _ => 0))), (zS w + 3, .inl ((xD x).2 0, 8, .inl (fun _ => 0))), (zS w + 4, .inl ((xD x).2 2, 192, .inl (fun _ => 0))), (zS w + 5, .inl ((xD x).2 0, 192, .inl (fun _ => 0))), (zS w + 6, .inl ((xD x).2 0, 192, .inl (fun _ => 0))), (zS w + 7, .inl ((xD x).2 0, 192, .inl (fun _ => 0))), (zS w + 8, .inl ((xD x).2 0, 192, .inl (fun _ => 0))), (zS w + 9, .inl ((xD x).2 0, 192, .inl (fun _ => 0))), (zS w + 10, .inl ((xD x).2 1, 2304, .inl (fun _ => 0))), (zS w + 11, .inl ((xD x).2 1, 12, .inl (fun _ => 0))), (zS w + 12, .inl ((xD x).2 0, 16, .inl (fun _ => 0)))]) hx hin rfl (by decide) (by decide) (tb_in 638 (by decide +kernel) (by decide +kernel)) rfl rfl rfl (Nat.le_of_ble_eq_true rfl) rfl rfl dX6_init_118 rfl ?_
  refine v_aload_n (pc' := 122) hx dX6_init_121 rfl rfl ?_
  refine v_bipush (pc' := 124) (v := 16) hx dX6_init_122 (by decide) rfl ?_
  refine v_ynew2 (pc' := 126) (w' := (bmp 14 w)) (a := zS w + 13) (X' := [(zS w, .inr (6, [.ref (zS w + 1), .int 0, .int 0, .int 10000, .int 10, .ref (zS w + 2), .ref (zS w + 3), .ref (zS w + 4), .ref (zS w + 5), .ref (zS w + 6), .ref (zS w + 7), .ref (zS w + 8), .ref (zS w + 9), .ref (zS w + 10), .int 0, .int 0, .int 0, .int 0, .int 0, .int 0, .int 0, .int 0, .int 0, .int 0, .ref (zS w + 11), .ref (zS w + 12), .null, .null, .int 0, .null, .null])), (zS w + 1, .inl ((xD x).2 1, 300, .inl (fun _ => 0))), (zS w + 2, .inl ((xD x).2 0, 8, .inl (fun _ => 0))), (zS w + 3, .inl ((xD x).2 0, 8, .inl (fun _ => 0))), (zS w + 4, .inl ((xD x).2 2, 192, .inl (fun _ => 0))), (zS w + 5, .inl ((xD x).2 0, 192, .inl (fun _ => 0))), (zS w + 6, .inl ((xD x).2 0, 192, .inl (fun _ => 0))), (zS w + 7, .inl ((xD x).2 0, 192, .inl (fun _ => 0))), (zS w + 8, .inl ((xD x).2 0, 192, .inl (fun _ => 0))), (zS w + 9, .inl ((xD x).2 0, 192, .inl (fun _ => 0))), (zS w + 10, .inl ((xD x).2 1, 2304, .inl (fun _ => 0))), (zS w + 11, .inl ((xD x).2 1, 12, .inl (fun _ => 0))), (zS w + 12, .inl ((xD x).2 0, 16, .inl (fun _ => 0))), (zS w + 13, .inl ((xD x).2 0, 16, .inl (fun _ => 0)))]) (t := 0) (n := 16) (ty := .int) hx rfl rfl rfl rfl (fun _ => rfl) (fun _ _ h => h) rfl ac_int (by decide) (by decide) (by decide) ⟨by decide, by decide⟩ dX6_init_124 rfl ?_
  refine v_yput (pc' := 129) (i := 0) (c := 6) (k := 26) (fs' := [.ref (zS w + 1), .int 0, .int 0, .int 10000, .int 10, .ref (zS w + 2), .ref (zS w + 3), .ref (zS w + 4), .ref (zS w + 5), .ref (zS w + 6), .ref (zS w + 7), .ref (zS w + 8), .ref (zS w + 9), .ref (zS w + 10), .int 0, .int 0, .int 0, .int 0, .int 0, .int 0, .int 0, .int 0, .int 0, .int 0, .ref (zS w + 11), .ref (zS w + 12), .ref (zS w + 13), .null, .int 0, .null, .null]) (X' := [(zS w, .inr (6, [.ref (zS w + 1), .int 0, .int 0, .int 10000, .int 10, .ref (zS w + 2), .ref (zS w + 3), .ref (zS w + 4), .ref (zS w + 5), .ref (zS w + 6), .ref (zS w + 7), .ref (zS w + 8), .ref (zS w + 9), .ref (zS w + 10), .int 0, .int 0, .int 0, .int 0, .int 0, .int 0, .int 0, .int 0, .int 0, .int 0, .ref (zS w + 11), .ref (zS w + 12), .ref (zS w + 13), .null, .int 0, .null, .null])), (zS w + 1, .inl ((xD x).2 1, 300, .inl (fun _ => 0))), (zS w + 2, .inl ((xD x).2 0, 8, .inl (fun _ => 0))), (zS w + 3, .inl ((xD x).2 0, 8, .inl (fun _ => 0))), (zS w + 4, .inl ((xD x).2 2, 192, .inl (fun _ => 0))), (zS w + 5, .inl ((xD x).2 0, 192, .inl (fun _ => 0))), (zS w + 6, .inl ((xD x).2 0, 192, .inl (fun _ => 0))), (zS w + 7, .inl ((xD x).2 0, 192, .inl (fun _ => 0))), (zS w + 8, .inl ((xD x).2 0, 192, .inl (fun _ => 0))), (zS w + 9, .inl ((xD x).2 0, 192, .inl (fun _ => 0))), (zS w + 10, .inl ((xD x).2 1, 2304, .inl (fun _ => 0))), (zS w + 11, .inl ((xD x).2 1, 12, .inl (fun _ => 0))), (zS w + 12, .inl ((xD x).2 0, 16, .inl (fun _ => 0))), (zS w + 13, .inl ((xD x).2 0, 16, .inl (fun _ => 0)))]) hx hin rfl (by decide) (by decide) (tb_in 639 (by decide +kernel) (by decide +kernel)) rfl rfl rfl (Nat.le_of_ble_eq_true rfl) rfl rfl dX6_init_126 rfl ?_
  refine v_aload_n (pc' := 130) hx dX6_init_129 rfl rfl ?_
  refine v_bipush (pc' := 132) (v := 16) hx dX6_init_130 (by decide) rfl ?_
  refine v_ynew2 (pc' := 134) (w' := (bmp 15 w)) (a := zS w + 14) (X' := [(zS w, .inr (6, [.ref (zS w + 1), .int 0, .int 0, .int 10000, .int 10, .ref (zS w + 2), .ref (zS w + 3), .ref (zS w + 4), .ref (zS w + 5), .ref (zS w + 6), .ref (zS w + 7), .ref (zS w + 8), .ref (zS w + 9), .ref (zS w + 10), .int 0, .int 0, .int 0, .int 0, .int 0, .int 0, .int 0, .int 0, .int 0, .int 0, .ref (zS w + 11), .ref (zS w + 12), .ref (zS w + 13), .null, .int 0, .null, .null])), (zS w + 1, .inl ((xD x).2 1, 300, .inl (fun _ => 0))), (zS w + 2, .inl ((xD x).2 0, 8, .inl (fun _ => 0))), (zS w + 3, .inl ((xD x).2 0, 8, .inl (fun _ => 0))), (zS w + 4, .inl ((xD x).2 2, 192, .inl (fun _ => 0))), (zS w + 5, .inl ((xD x).2 0, 192, .inl (fun _ => 0))), (zS w + 6, .inl ((xD x).2 0, 192, .inl (fun _ => 0))), (zS w + 7, .inl ((xD x).2 0, 192, .inl (fun _ => 0))), (zS w + 8, .inl ((xD x).2 0, 192, .inl (fun _ => 0))), (zS w + 9, .inl ((xD x).2 0, 192, .inl (fun _ => 0))), (zS w + 10, .inl ((xD x).2 1, 2304, .inl (fun _ => 0))), (zS w + 11, .inl ((xD x).2 1, 12, .inl (fun _ => 0))), (zS w + 12, .inl ((xD x).2 0, 16, .inl (fun _ => 0))), (zS w + 13, .inl ((xD x).2 0, 16, .inl (fun _ => 0))), (zS w + 14, .inl ((xD x).2 0, 16, .inl (fun _ => 0)))]) (t := 0) (n := 16) (ty := .int) hx rfl rfl rfl rfl (fun _ => rfl) (fun _ _ h => h) rfl ac_int (by decide) (by decide) (by decide) ⟨by decide, by decide⟩ dX6_init_132 rfl ?_
  refine v_yput (pc' := 137) (i := 0) (c := 6) (k := 27) (fs' := [.ref (zS w + 1), .int 0, .int 0, .int 10000, .int 10, .ref (zS w + 2), .ref (zS w + 3), .ref (zS w + 4), .ref (zS w + 5), .ref (zS w + 6), .ref (zS w + 7), .ref (zS w + 8), .ref (zS w + 9), .ref (zS w + 10), .int 0, .int 0, .int 0, .int 0, .int 0, .int 0, .int 0, .int 0, .int 0, .int 0, .ref (zS w + 11), .ref (zS w + 12), .ref (zS w + 13), .ref (zS w + 14), .int 0, .null, .null]) (X' := [(zS w, .inr (6, [.ref (zS w + 1), .int 0, .int 0, .int 10000, .int 10, .ref (zS w + 2), .ref (zS w + 3), .ref (zS w + 4), .ref (zS w + 5), .ref (zS w + 6), .ref (zS w + 7), .ref (zS w + 8), .ref (zS w + 9), .ref (zS w + 10), .int 0, .int 0, .int 0, .int 0, .int 0, .int 0, .int 0, .int 0, .int 0, .int 0, .ref (zS w + 11), .ref (zS w + 12), .ref (zS w + 13), .ref (zS w + 14), .int 0, .null, .null])), (zS w + 1, .inl ((xD x).2 1, 300, .inl (fun _ => 0))), (zS w + 2, .inl ((xD x).2 0, 8, .inl (fun _ => 0))), (zS w + 3, .inl ((xD x).2 0, 8, .inl (fun _ => 0))), (zS w + 4, .inl ((xD x).2 2, 192, .inl (fun _ => 0))), (zS w + 5, .inl ((xD x).2 0, 192, .inl (fun _ => 0))), (zS w + 6, .inl ((xD x).2 0, 192, .inl (fun _ => 0))), (zS w + 7, .inl ((xD x).2 0, 192, .inl (fun _ => 0))), (zS w + 8, .inl ((xD x).2 0, 192, .inl (fun _ => 0))), (zS w + 9, .inl ((xD x).2 0, 192, .inl (fun _ => 0))), (zS w + 10, .inl ((xD x).2 1, 2304, .inl (fun _ => 0))), (zS w + 11, .inl ((xD x).2 1, 12, .inl (fun _ => 0))), (zS w + 12, .inl ((xD x).2 0, 16, .inl (fun _ => 0))), (zS w + 13, .inl ((xD x).2 0, 16, .inl (fun _ => 0))), (zS w + 14, .inl ((xD x).2 0, 16, .inl (fun _ => 0)))]) hx hin rfl (by decide) (by decide) (tb_in 640 (by decide +kernel) (by decide +kernel)) rfl rfl rfl (Nat.le_of_ble_eq_true rfl) rfl rfl dX6_init_134 rfl ?_
  refine v_aload_n (pc' := 138) hx dX6_init_137 rfl rfl ?_
  refine v_sipush (pc' := 141) (v := 169) hx dX6_init_138 (by decide) rfl ?_
  refine v_ynew2 (pc' := 143) (w' := (bmp 16 w)) (a := zS w + 15) (X' := [(zS w, .inr (6, [.ref (zS w + 1), .int 0, .int 0, .int 10000, .int 10, .ref (zS w + 2), .ref (zS w + 3), .ref (zS w + 4), .ref (zS w + 5), .ref (zS w + 6), .ref (zS w + 7), .ref (zS w + 8), .ref (zS w + 9), .ref (zS w + 10), .int 0, .int 0, .int 0, .int 0, .int 0, .int 0, .int 0, .int 0, .int 0, .int 0, .ref (zS w + 11), .ref (zS w + 12), .ref (zS w + 13), .ref (zS w + 14), .int 0, .null, .null])), (zS w + 1, .inl ((xD x).2 1, 300, .inl (fun _ => 0))), (zS w + 2, .inl ((xD x).2 0, 8, .inl (fun _ => 0))), (zS w + 3, .inl ((xD x).2 0, 8, .inl (fun _ => 0))), (zS w + 4, .inl ((xD x).2 2, 192, .inl (fun _ => 0))), (zS w + 5, .inl ((xD x).2 0, 192, .inl (fun _ => 0))), (zS w + 6, .inl ((xD x).2 0, 192, .inl (fun _ => 0))), (zS w + 7, .inl ((xD x).2 0, 192, .inl (fun _ => 0))), (zS w + 8, .inl ((xD x).2 0, 192, .inl (fun _ => 0))), (zS w + 9, .inl ((xD x).2 0, 192, .inl (fun _ => 0))), (zS w + 10, .inl ((xD x).2 1, 2304, .inl (fun _ => 0))), (zS w + 11, .inl ((xD x).2 1, 12, .inl (fun _ => 0))), (zS w + 12, .inl ((xD x).2 0, 16, .inl (fun _ => 0))), (zS w + 13, .inl ((xD x).2 0, 16, .inl (fun _ => 0))), (zS w + 14, .inl ((xD x).2 0, 16, .inl (fun _ => 0))), (zS w + 15, .inl ((xD x).2 0, 169, .inl (fun _ => 0)))]) (t := 0) (n := 169) (ty := .int) hx rfl rfl rfl rfl (fun _ => rfl) (fun _ _ h => h) rfl ac_int (by decide) (by decide) (by decide) ⟨by decide, by decide⟩ dX6_init_141 rfl ?_
  refine v_yput (pc' := 146) (i := 0) (c := 6) (k := 29) (fs' := [.ref (zS w + 1), .int 0, .int 0, .int 10000, .int 10, .ref (zS w + 2), .ref (zS w + 3), .ref (zS w + 4), .ref (zS w + 5), .ref (zS w + 6), .ref (zS w + 7), .ref (zS w + 8), .ref (zS w + 9), .ref (zS w + 10), .int 0, .int 0, .int 0, .int 0, .int 0, .int 0, .int 0, .int 0, .int 0, .int 0, .ref (zS w + 11), .ref (zS w + 12), .ref (zS w + 13), .ref (zS w + 14), .int 0, .ref (zS w + 15), .null]) (X' := [(zS w, .inr (6, [.ref (zS w + 1), .int 0, .int 0, .int 10000, .int 10, .ref (zS w + 2), .ref (zS w + 3), .ref (zS w + 4), .ref (zS w + 5), .ref (zS w + 6), .ref (zS w + 7), .ref (zS w + 8), .ref (zS w + 9), .ref (zS w + 10), .int 0, .int 0, .int 0, .int 0, .int 0, .int 0, .int 0, .int 0, .int 0, .int 0, .ref (zS w + 11), .ref (zS w + 12), .ref (zS w + 13), .ref (zS w + 14), .int 0, .ref (zS w + 15), .null])), (zS w + 1, .inl ((xD x).2 1, 300, .inl (fun _ => 0))), (zS w + 2, .inl ((xD x).2 0, 8, .inl (fun _ => 0))), (zS w + 3, .inl ((xD x).2 0, 8, .inl (fun _ => 0))), (zS w + 4, .inl ((xD x).2 2, 192, .inl (fun _ => 0))), (zS w + 5, .inl ((xD x).2 0, 192, .inl (fun _ => 0))), (zS w + 6, .inl ((xD x).2 0, 192, .inl (fun _ => 0))), (zS w + 7, .inl ((xD x).2 0, 192, .inl (fun _ => 0))), (zS w + 8, .inl ((xD x).2 0, 192, .inl (fun _ => 0))), (zS w + 9, .inl ((xD x).2 0, 192, .inl (fun _ => 0))), (zS w + 10, .inl ((xD x).2 1, 2304, .inl (fun _ => 0))), (zS w + 11, .inl ((xD x).2 1, 12, .inl (fun _ => 0))), (zS w + 12, .inl ((xD x).2 0, 16, .inl (fun _ => 0))), (zS w + 13, .inl ((xD x).2 0, 16, .inl (fun _ => 0))), (zS w + 14, .inl ((xD x).2 0, 16, .inl (fun _ => 0))), (zS w + 15, .inl ((xD x).2 0, 169, .inl (fun _ => 0)))]) hx hin rfl (by decide) (by decide) (tb_in 642 (by decide +kernel) (by decide +kernel)) rfl rfl rfl (Nat.le_of_ble_eq_true rfl) rfl rfl dX6_init_143 rfl ?_
  refine v_aload_n (pc' := 147) hx dX6_init_146 rfl rfl ?_
  refine v_bipush (pc' := 149) (v := 24) hx dX6_init_147 (by decide) rfl ?_
  refine v_ynew2 (pc' := 151) (w' := (bmp 17 w)) (a := zS w + 16) (X' := [(zS w, .inr (6, [.ref (zS w + 1), .int 0, .int 0, .int 10000, .int 10, .ref (zS w + 2), .ref (zS w + 3), .ref (zS w + 4), .ref (zS w + 5), .ref (zS w + 6), .ref (zS w + 7), .ref (zS w + 8), .ref (zS w + 9), .ref (zS w + 10), .int 0, .int 0, .int 0, .int 0, .int 0, .int 0, .int 0, .int 0, .int 0, .int 0, .ref (zS w + 11), .ref (zS w + 12), .ref (zS w + 13), .ref (zS w + 14), .int 0, .ref (zS w + 15), .null])), (zS w + 1, .inl ((xD x).2 1, 300, .inl (fun _ => 0))), (zS w + 2, .inl ((xD x).2 0, 8, .inl (fun _ => 0))), (zS w + 3, .inl ((xD x).2 0, 8, .inl (fun _ => 0))), (zS w + 4, .inl ((xD x).2 2, 192, .inl (fun _ => 0))), (zS w + 5, .inl ((xD x).2 0, 192, .inl (fun _ => 0))), (zS w + 6, .inl ((xD x).2 0, 192, .inl (fun _ => 0))), (zS w + 7, .inl ((xD x).2 0, 192, .inl (fun _ => 0))), (zS w + 8, .inl ((xD x).2 0, 192, .inl (fun _ => 0))), (zS w + 9, .inl ((xD x).2 0, 192, .inl (fun _ => 0))), (zS w + 10, .inl ((xD x).2 1, 2304, .inl (fun _ => 0))), (zS w + 11, .inl ((xD x).2 1, 12, .inl (fun _ => 0))), (zS w + 12, .inl ((xD x).2 0, 16, .inl (fun _ => 0))), (zS w + 13, .inl ((xD x).2 0, 16, .inl (fun _ => 0))), (zS w + 14, .inl ((xD x).2 0, 16, .inl (fun _ => 0))), (zS w + 15, .inl ((xD x).2 0, 169, .inl (fun _ => 0))), (zS w + 16, .inl ((xD x).2 0, 24, .inl (fun _ => 0)))]) (t := 0) (n := 24) (ty := .int) hx rfl rfl rfl rfl (fun _ => rfl) (fun _ _ h => h) rfl ac_int (by decide) (by decide) (by decide) ⟨by decide, by decide⟩ dX6_init_149 rfl ?_
  refine v_yput (pc' := 154) (i := 0) (c := 6) (k := 30) (fs' := [.ref (zS w + 1), .int 0, .int 0, .int 10000, .int 10, .ref (zS w + 2), .ref (zS w + 3), .ref (zS w + 4), .ref (zS w + 5), .ref (zS w + 6), .ref (zS w + 7), .ref (zS w + 8), .ref (zS w + 9), .ref (zS w + 10), .int 0, .int 0, .int 0, .int 0, .int 0, .int 0, .int 0, .int 0, .int 0, .int 0, .ref (zS w + 11), .ref (zS w + 12), .ref (zS w + 13), .ref (zS w + 14), .int 0, .ref (zS w + 15), .ref (zS w + 16)]) (X' := [(zS w, .inr (6, [.ref (zS w + 1), .int 0, .int 0, .int 10000, .int 10, .ref (zS w + 2), .ref (zS w + 3), .ref (zS w + 4), .ref (zS w + 5), .ref (zS w + 6), .ref (zS w + 7), .ref (zS w + 8), .ref (zS w + 9), .ref (zS w + 10), .int 0, .int 0, .int 0, .int 0, .int 0, .int 0, .int 0, .int 0, .int 0, .int 0, .ref (zS w + 11), .ref (zS w + 12), .ref (zS w + 13), .ref (zS w + 14), .int 0, .ref (zS w + 15), .ref (zS w + 16)])), (zS w + 1, .inl ((xD x).2 1, 300, .inl (fun _ => 0))), (zS w + 2, .inl ((xD x).2 0, 8, .inl (fun _ => 0))), (zS w + 3, .inl ((xD x).2 0, 8, .inl (fun _ => 0))), (zS w + 4, .inl ((xD x).2 2, 192, .inl (fun _ => 0))), (zS w + 5, .inl ((xD x).2 0, 192, .inl (fun _ => 0))), (zS w + 6, .inl ((xD x).2 0, 192, .inl (fun _ => 0))), (zS w + 7, .inl ((xD x).2 0, 192, .inl (fun _ => 0))), (zS w + 8, .inl ((xD x).2 0, 192, .inl (fun _ => 0))), (zS w + 9, .inl ((xD x).2 0, 192, .inl (fun _ => 0))), (zS w + 10, .inl ((xD x).2 1, 2304, .inl (fun _ => 0))), (zS w + 11, .inl ((xD x).2 1, 12, .inl (fun _ => 0))), (zS w + 12, .inl ((xD x).2 0, 16, .inl (fun _ => 0))), (zS w + 13, .inl ((xD x).2 0, 16, .inl (fun _ => 0))), (zS w + 14, .inl ((xD x).2 0, 16, .inl (fun _ => 0))), (zS w + 15, .inl ((xD x).2 0, 169, .inl (fun _ => 0))), (zS w + 16, .inl ((xD x).2 0, 24, .inl (fun _ => 0)))]) hx hin rfl (by decide) (by decide) (tb_in 643 (by decide +kernel) (by decide +kernel)) rfl rfl rfl (Nat.le_of_ble_eq_true rfl) rfl rfl dX6_init_151 rfl ?_
  refine V.imp (P' := Rp (xD x) (nwX6 w)) (fun G sz h => RY_end h (by decide) (List.mem_of_getElem? (i := 0) rfl) (fun k hk hd => ?_) (fun k hk k' hk' hd hd' e => ?_) (fun k j b hb => ?_)) ?_
  · have hk9 : k < 31 := hk
    rcases (show k = 0 ∨ k = 1 ∨ k = 2 ∨ k = 3 ∨ k = 4 ∨ k = 5 ∨ k = 6 ∨ k = 7 ∨ k = 8 ∨ k = 9 ∨ k = 10 ∨ k = 11 ∨ k = 12 ∨ k = 13 ∨ k = 14 ∨ k = 15 ∨ k = 16 ∨ k = 17 ∨ k = 18 ∨ k = 19 ∨ k = 20 ∨ k = 21 ∨ k = 22 ∨ k = 23 ∨ k = 24 ∨ k = 25 ∨ k = 26 ∨ k = 27 ∨ k = 28 ∨ k = 29 ∨ k = 30 by omega) with rfl | rfl | rfl | rfl | rfl | rfl | rfl | rfl | rfl | rfl | rfl | rfl | rfl | rfl | rfl | rfl | rfl | rfl | rfl | rfl | rfl | rfl | rfl | rfl | rfl | rfl | rfl | rfl | rfl | rfl | rfl
    · exact List.mem_of_getElem? (i := 1) rfl
    · exact absurd hd (by decide)
    · exact absurd hd (by decide)
    · exact absurd hd (by decide)
    · exact absurd hd (by decide)
    · exact List.mem_of_getElem? (i := 2) rfl
    · exact List.mem_of_getElem? (i := 3) rfl
    · exact List.mem_of_getElem? (i := 4) rfl
    · exact List.mem_of_getElem? (i := 5) rfl
    · exact List.mem_of_getElem? (i := 6) rfl
    · exact List.mem_of_getElem? (i := 7) rfl
    · exact List.mem_of_getElem? (i := 8) rfl
    · exact List.mem_of_getElem? (i := 9) rfl
    · exact List.mem_of_getElem? (i := 10) rfl
    · exact absurd hd (by decide)
    · exact absurd hd (by decide)
    · exact absurd hd (by decide)
    · exact absurd hd (by decide)
    · exact absurd hd (by decide)
    · exact absurd hd (by decide)
    · exact absurd hd (by decide)
    · exact absurd hd (by decide)
    · exact absurd hd (by decide)
    · exact absurd hd (by decide)
    · exact List.mem_of_getElem? (i := 11) rfl
    · exact List.mem_of_getElem? (i := 12) rfl
    · exact List.mem_of_getElem? (i := 13) rfl
    · exact List.mem_of_getElem? (i := 14) rfl
    · exact absurd hd (by decide)
    · exact List.mem_of_getElem? (i := 15) rfl
    · exact List.mem_of_getElem? (i := 16) rfl
  · have e9 := Nat.add_left_cancel e
    have hk9 : k < 31 := hk
    have hk8 : k' < 31 := hk'
    clear e
    revert hd hd' e9
    exact inj6 k hk9 k' hk8
  · cases hb
  exact v_vret hx hq (by decide) (by decide) dX6_init_154 rfl
theorem vX1_tail {x : CT} (hx : CX x cX1_init RX1 rmX1_init none) (hin : xI x) {w : Wd} {x1 : Int32} (hq : RV x rmX1_init (nwX1 w x1)) {i : Nat} : V x 47 [some (.ref (zS w)), some (.int x1), some (.int (nI i))] [] (RY (xD x) (bmp 3 w) [(zS w, .inr (1, [.int x1, .ref (zS w + 1), .ref (zS w + 2), .null, .null, .null, .null, .int 0, .int 0, .int 0, .int 0])), (zS w + 1, .inl ((xD x).2 3, 24, .inr (.inr (.inr (.inr (fun _ => none)))))), (zS w + 2, .inl ((xD x).2 0, 16, .inl (fun j => if j < 16 then -1 else 0)))]) 2 40 := by
  refine v_aload_n (pc' := 48) hx dX1_init_47 rfl rfl ?_
  refine v_bipush (pc' := 50) (v := 24) hx dX1_init_48 (by decide) rfl ?_
  refine v_ynew2 (pc' := 52) (w' := (bmp 4 w)) (a := zS w + 3) (X' := [(zS w, .inr (1, [.int x1, .ref (zS w + 1), .ref (zS w + 2), .null, .null, .null, .null, .int 0, .int 0, .int 0, .int 0])), (zS w + 1, .inl ((xD x).2 3, 24, .inr (.inr (.inr (.inr (fun _ => none)))))), (zS w + 2, .inl ((xD x).2 0, 16, .inl (fun j => if j < 16 then -1 else 0))), (zS w + 3, .inl ((xD x).2 0, 24, .inl (fun _ => 0)))]) (t := 0) (n := 24) (ty := .int) hx rfl rfl rfl rfl (fun _ => rfl) (fun _ _ h => h) rfl ac_int (by decide) (by decide) (by decide) ⟨by decide, by decide⟩ dX1_init_50 rfl ?_
  refine v_yput (pc' := 55) (i := 0) (c := 1) (k := 3) (fs' := [.int x1, .ref (zS w + 1), .ref (zS w + 2), .ref (zS w + 3), .null, .null, .null, .int 0, .int 0, .int 0, .int 0]) (X' := [(zS w, .inr (1, [.int x1, .ref (zS w + 1), .ref (zS w + 2), .ref (zS w + 3), .null, .null, .null, .int 0, .int 0, .int 0, .int 0])), (zS w + 1, .inl ((xD x).2 3, 24, .inr (.inr (.inr (.inr (fun _ => none)))))), (zS w + 2, .inl ((xD x).2 0, 16, .inl (fun j => if j < 16 then -1 else 0))), (zS w + 3, .inl ((xD x).2 0, 24, .inl (fun _ => 0)))]) hx hin rfl (by decide) (by decide) (tb_in 196 (by decide +kernel) (by decide +kernel)) rfl rfl rfl (Nat.le_of_ble_eq_true rfl) rfl rfl dX1_init_52 rfl ?_
  refine v_aload_n (pc' := 56) hx dX1_init_55 rfl rfl ?_
  refine v_bipush (pc' := 58) (v := 24) hx dX1_init_56 (by decide) rfl ?_
  refine v_ynew2 (pc' := 60) (w' := (bmp 5 w)) (a := zS w + 4) (X' := [(zS w, .inr (1, [.int x1, .ref (zS w + 1), .ref (zS w + 2), .ref (zS w + 3), .null, .null, .null, .int 0, .int 0, .int 0, .int 0])), (zS w + 1, .inl ((xD x).2 3, 24, .inr (.inr (.inr (.inr (fun _ => none)))))), (zS w + 2, .inl ((xD x).2 0, 16, .inl (fun j => if j < 16 then -1 else 0))), (zS w + 3, .inl ((xD x).2 0, 24, .inl (fun _ => 0))), (zS w + 4, .inl ((xD x).2 0, 24, .inl (fun _ => 0)))]) (t := 0) (n := 24) (ty := .int) hx rfl rfl rfl rfl (fun _ => rfl) (fun _ _ h => h) rfl ac_int (by decide) (by decide) (by decide) ⟨by decide, by decide⟩ dX1_init_58 rfl ?_
  refine v_yput (pc' := 63) (i := 0) (c := 1) (k := 4) (fs' := [.int x1, .ref (zS w + 1), .ref (zS w + 2), .ref (zS w + 3), .ref (zS w + 4), .null, .null, .int 0, .int 0, .int 0, .int 0]) (X' := [(zS w, .inr (1, [.int x1, .ref (zS w + 1), .ref (zS w + 2), .ref (zS w + 3), .ref (zS w + 4), .null, .null, .int 0, .int 0, .int 0, .int 0])), (zS w + 1, .inl ((xD x).2 3, 24, .inr (.inr (.inr (.inr (fun _ => none)))))), (zS w + 2, .inl ((xD x).2 0, 16, .inl (fun j => if j < 16 then -1 else 0))), (zS w + 3, .inl ((xD x).2 0, 24, .inl (fun _ => 0))), (zS w + 4, .inl ((xD x).2 0, 24, .inl (fun _ => 0)))]) hx hin rfl (by decide) (by decide) (tb_in 197 (by decide +kernel) (by decide +kernel)) rfl rfl rfl (Nat.le_of_ble_eq_true rfl) rfl rfl dX1_init_60 rfl ?_
  refine v_aload_n (pc' := 64) hx dX1_init_63 rfl rfl ?_
  refine v_sipush (pc' := 67) (v := 576) hx dX1_init_64 (by decide) rfl ?_
  refine v_ynew2 (pc' := 69) (w' := (bmp 6 w)) (a := zS w + 5) (X' := [(zS w, .inr (1, [.int x1, .ref (zS w + 1), .ref (zS w + 2), .ref (zS w + 3), .ref (zS w + 4), .null, .null, .int 0, .int 0, .int 0, .int 0])), (zS w + 1, .inl ((xD x).2 3, 24, .inr (.inr (.inr (.inr (fun _ => none)))))), (zS w + 2, .inl ((xD x).2 0, 16, .inl (fun j => if j < 16 then -1 else 0))), (zS w + 3, .inl ((xD x).2 0, 24, .inl (fun _ => 0))), (zS w + 4, .inl ((xD x).2 0, 24, .inl (fun _ => 0))), (zS w + 5, .inl ((xD x).2 1, 576, .inl (fun _ => 0)))]) (t := 1) (n := 576) (ty := .byte) hx rfl rfl rfl rfl (fun _ => rfl) (fun _ _ h => h) rfl ac_byte (by decide) (by decide) (by decide) ⟨by decide, by decide⟩ dX1_init_67 rfl ?_
  refine v_yput (pc' := 72) (i := 0) (c := 1) (k := 5) (fs' := [.int x1, .ref (zS w + 1), .ref (zS w + 2), .ref (zS w + 3), .ref (zS w + 4), .ref (zS w + 5), .null, .int 0, .int 0, .int 0, .int 0]) (X' := [(zS w, .inr (1, [.int x1, .ref (zS w + 1), .ref (zS w + 2), .ref (zS w + 3), .ref (zS w + 4), .ref (zS w + 5), .null, .int 0, .int 0, .int 0, .int 0])), (zS w + 1, .inl ((xD x).2 3, 24, .inr (.inr (.inr (.inr (fun _ => none)))))), (zS w + 2, .inl ((xD x).2 0, 16, .inl (fun j => if j < 16 then -1 else 0))), (zS w + 3, .inl ((xD x).2 0, 24, .inl (fun _ => 0))), (zS w + 4, .inl ((xD x).2 0, 24, .inl (fun _ => 0))), (zS w + 5, .inl ((xD x).2 1, 576, .inl (fun _ => 0)))]) hx hin rfl (by decide) (by decide) (tb_in 198 (by decide +kernel) (by decide +kernel)) rfl rfl rfl (Nat.le_of_ble_eq_true rfl) rfl rfl dX1_init_69 rfl ?_
  refine v_aload_n (pc' := 73) hx dX1_init_72 rfl rfl ?_
  refine v_bipush (pc' := 75) (v := 13) hx dX1_init_73 (by decide) rfl ?_
  refine v_ynew2 (pc' := 77) (w' := (bmp 7 w)) (a := zS w + 6) (X' := [(zS w, .inr (1, [.int x1, .ref (zS w + 1), .ref (zS w + 2), .ref (zS w + 3), .ref (zS w + 4), .ref (zS w + 5), .null, .int 0, .int 0, .int 0, .int 0])), (zS w + 1, .inl ((xD x).2 3, 24, .inr (.inr (.inr (.inr (fun _ => none)))))), (zS w + 2, .inl ((xD x).2 0, 16, .inl (fun j => if j < 16 then -1 else 0))), (zS w + 3, .inl ((xD x).2 0, 24, .inl (fun _ => 0))), (zS w + 4, .inl ((xD x).2 0, 24, .inl (fun _ => 0))), (zS w + 5, .inl ((xD x).2 1, 576, .inl (fun _ => 0))), (zS w + 6, .inl ((xD x).2 0, 13, .inl (fun _ => 0)))]) (t := 0) (n := 13) (ty := .int) hx rfl rfl rfl rfl (fun _ => rfl) (fun _ _ h => h) rfl ac_int (by decide) (by decide) (by decide) ⟨by decide, by decide⟩ dX1_init_75 rfl ?_
  refine v_yput (pc' := 80) (i := 0) (c := 1) (k := 6) (fs' := [.int x1, .ref (zS w + 1), .ref (zS w + 2), .ref (zS w + 3), .ref (zS w + 4), .ref (zS w + 5), .ref (zS w + 6), .int 0, .int 0, .int 0, .int 0]) (X' := [(zS w, .inr (1, [.int x1, .ref (zS w + 1), .ref (zS w + 2), .ref (zS w + 3), .ref (zS w + 4), .ref (zS w + 5), .ref (zS w + 6), .int 0, .int 0, .int 0, .int 0])), (zS w + 1, .inl ((xD x).2 3, 24, .inr (.inr (.inr (.inr (fun _ => none)))))), (zS w + 2, .inl ((xD x).2 0, 16, .inl (fun j => if j < 16 then -1 else 0))), (zS w + 3, .inl ((xD x).2 0, 24, .inl (fun _ => 0))), (zS w + 4, .inl ((xD x).2 0, 24, .inl (fun _ => 0))), (zS w + 5, .inl ((xD x).2 1, 576, .inl (fun _ => 0))), (zS w + 6, .inl ((xD x).2 0, 13, .inl (fun _ => 0)))]) hx hin rfl (by decide) (by decide) (tb_in 199 (by decide +kernel) (by decide +kernel)) rfl rfl rfl (Nat.le_of_ble_eq_true rfl) rfl rfl dX1_init_77 rfl ?_
  refine v_aload_n (pc' := 81) hx dX1_init_80 rfl rfl ?_
  refine v_iconst (pc' := 82) (v := (-1)) hx dX1_init_81 (by decide) rfl ?_
  refine v_yput (pc' := 85) (i := 0) (c := 1) (k := 7) (fs' := [.int x1, .ref (zS w + 1), .ref (zS w + 2), .ref (zS w + 3), .ref (zS w + 4), .ref (zS w + 5), .ref (zS w + 6), .int (-1), .int 0, .int 0, .int 0]) (X' := [(zS w, .inr (1, [.int x1, .ref (zS w + 1), .ref (zS w + 2), .ref (zS w + 3), .ref (zS w + 4), .ref (zS w + 5), .ref (zS w + 6), .int (-1), .int 0, .int 0, .int 0])), (zS w + 1, .inl ((xD x).2 3, 24, .inr (.inr (.inr (.inr (fun _ => none)))))), (zS w + 2, .inl ((xD x).2 0, 16, .inl (fun j => if j < 16 then -1 else 0))), (zS w + 3, .inl ((xD x).2 0, 24, .inl (fun _ => 0))), (zS w + 4, .inl ((xD x).2 0, 24, .inl (fun _ => 0))), (zS w + 5, .inl ((xD x).2 1, 576, .inl (fun _ => 0))), (zS w + 6, .inl ((xD x).2 0, 13, .inl (fun _ => 0)))]) hx hin rfl (by decide) (by decide) (tb_in 200 (by decide +kernel) (by decide +kernel)) rfl rfl rfl (Nat.le_of_ble_eq_true rfl) rfl rfl dX1_init_82 rfl ?_
  refine V.imp (P' := Rp (xD x) (nwX1 w x1)) (fun G sz h => RY_end h (by decide) (List.mem_of_getElem? (i := 0) rfl) (fun k hk hd => ?_) (fun k hk k' hk' hd hd' e => ?_) (fun k j b hb => ?_)) ?_
  · have hk9 : k < 11 := hk
    rcases (show k = 0 ∨ k = 1 ∨ k = 2 ∨ k = 3 ∨ k = 4 ∨ k = 5 ∨ k = 6 ∨ k = 7 ∨ k = 8 ∨ k = 9 ∨ k = 10 by omega) with rfl | rfl | rfl | rfl | rfl | rfl | rfl | rfl | rfl | rfl | rfl
    · exact absurd hd (by decide)
    · exact List.mem_of_getElem? (i := 1) rfl
    · exact List.mem_of_getElem? (i := 2) rfl
    · exact List.mem_of_getElem? (i := 3) rfl
    · exact List.mem_of_getElem? (i := 4) rfl
    · exact List.mem_of_getElem? (i := 5) rfl
    · exact List.mem_of_getElem? (i := 6) rfl
    · exact absurd hd (by decide)
    · exact absurd hd (by decide)
    · exact absurd hd (by decide)
    · exact absurd hd (by decide)
  · have e9 := Nat.add_left_cancel e
    have hk9 : k < 11 := hk
    have hk8 : k' < 11 := hk'
    clear e
    revert hd hd' e9
    exact inj1 k hk9 k' hk8
  · cases hb
  exact v_vret hx hq (by decide) (by decide) dX1_init_85 rfl
theorem vX1_loop {x : CT} (hx : CX x cX1_init RX1 rmX1_init none) (hin : xI x) {w : Wd} {x1 : Int32} (hq : RV x rmX1_init (nwX1 w x1)) : ∀ (n i : Nat), i + n = 16 → V x 28 [some (.ref (zS w)), some (.int x1), some (.int (nI i))] [] (RY (xD x) (bmp 3 w) [(zS w, .inr (1, [.int x1, .ref (zS w + 1), .ref (zS w + 2), .null, .null, .null, .null, .int 0, .int 0, .int 0, .int 0])), (zS w + 1, .inl ((xD x).2 3, 24, .inr (.inr (.inr (.inr (fun _ => none)))))), (zS w + 2, .inl ((xD x).2 0, 16, .inl (fun j => if j < i then -1 else 0)))]) 2 40 := by
  intro n
  induction n with
  | zero =>
    intro i hi
    obtain rfl : i = 16 := by omega
    refine v_iload_n (pc' := 29) hx dX1_init_28 rfl rfl ?_
    refine v_bipush (pc' := 31) (v := 16) hx dX1_init_29 (by decide) rfl ?_
    refine v_icmp_ge (tgt := 47) (pc' := 34) hx dX1_init_31 (by decide) rfl (fun _ => ?_) (fun hc => absurd (by decide) hc)
    exact vX1_tail hx hin hq
  | succ n ih =>
    intro i hi
    refine v_iload_n (pc' := 29) hx dX1_init_28 rfl rfl ?_
    refine v_bipush (pc' := 31) (v := 16) hx dX1_init_29 (by decide) rfl ?_
    refine v_icmp_ge (tgt := 47) (pc' := 34) hx dX1_init_31 (by decide) rfl (fun hc => absurd hc (by rw [show (16 : Int32) = nI 16 from rfl]; exact nI_ge (by omega) (by decide))) (fun _ => ?_)
    refine v_aload_n (pc' := 35) hx dX1_init_34 rfl rfl ?_
    refine v_yget (pc' := 38) (i := 0) (c := 1) (k := 2) hx rfl (by decide) (by decide) (Or.inl (tb_in 195 (by decide +kernel) (by decide +kernel))) rfl dX1_init_35 rfl ?_
    refine v_iload_n (pc' := 39) hx dX1_init_38 rfl rfl ?_
    refine v_iconst (pc' := 40) (v := -1) hx dX1_init_39 (by decide) rfl ?_
    refine v_yiast (pc' := 41) (i := 2) (X' := [(zS w, .inr (1, [.int x1, .ref (zS w + 1), .ref (zS w + 2), .null, .null, .null, .null, .int 0, .int 0, .int 0, .int 0])), (zS w + 1, .inl ((xD x).2 3, 24, .inr (.inr (.inr (.inr (fun _ => none)))))), (zS w + 2, .inl ((xD x).2 0, 16, .inl (fun j => if j < i + 1 then -1 else 0)))]) hx rfl (by unfold ix; exact decide_eq_true (vp_in_nI (N := 16) (by omega) (by decide))) ?_ dX1_init_40 rfl ?_
    · rw [nI_clamp (by omega)]
      have : upd (fun j => if j < i then (-1 : Int32) else 0) i (-1) = (fun j => if j < i + 1 then (-1 : Int32) else 0) := by
        funext j
        show (if j = i then (-1 : Int32) else if j < i then -1 else 0) = if j < i + 1 then -1 else 0
        by_cases e : j = i
        · subst e; rw [if_pos rfl, if_pos (by omega)]
        · rw [if_neg e]
          by_cases e2 : j < i
          · rw [if_pos e2, if_pos (by omega)]
          · rw [if_neg e2, if_neg (by omega)]
      rw [this]
      rfl
    refine v_iinc (pc' := 44) (w0 := nI (i + 1)) (L' := [some (.ref (zS w)), some (.int x1), some (.int (nI (i + 1)))]) hx dX1_init_41 rfl rfl (nI_1 i) rfl ?_
    refine v_goto (tgt := 28) hx dX1_init_44 (by decide) ?_
    exact ih (i + 1) (by omega)
set_option maxHeartbeats 8000000 in
theorem ctX1_init (l : Launch) (D : DD) (w : Wd) (G : GT) (sz : Nat) (hR : RX D w 1 G sz) (x1 : Int32) : MetV l yX1_init (WS yX1_init cX1_init 3 none) rmX1_init D [.ref (zS w), .int x1] G sz (nwX1 w x1) := by
  refine MetV_ofVI (own := RX1) (P := RX D w 1) hR (by decide) rfl rfl (by simp [Value.category]) (Nat.le_of_ble_eq_true rfl) (fun x hx hin hq hD hl => ?_)
  subst hD
  unfold RX
  refine V.imp (P' := RY (xD x) (bmp 1 w) [(zS w, .inr (1, [.int 0, .null, .null, .null, .null, .null, .null, .int 0, .int 0, .int 0, .int 0]))]) (fun G sz h => h) ?_
  refine v_aload_n (pc' := 1) hx dX1_init_0 rfl rfl ?_
  refine v_obj (pc' := 4) hx (tb_in 188 (by decide +kernel) (by decide +kernel)) oi_1 oi_2 ⟨by decide, by decide⟩ dX1_init_1 rfl ?_
  refine v_aload_n (pc' := 5) hx dX1_init_4 rfl rfl ?_
  refine v_iload_n (pc' := 6) hx dX1_init_5 rfl rfl ?_
  refine v_yput (pc' := 9) (i := 0) (c := 1) (k := 0) (fs' := [.int x1, .null, .null, .null, .null, .null, .null, .int 0, .int 0, .int 0, .int 0]) (X' := [(zS w, .inr (1, [.int x1, .null, .null, .null, .null, .null, .null, .int 0, .int 0, .int 0, .int 0]))]) hx hin rfl (by decide) (by decide) (tb_in 191 (by decide +kernel) (by decide +kernel)) rfl rfl rfl (Nat.le_of_ble_eq_true rfl) rfl rfl dX1_init_6 rfl ?_
  refine v_aload_n (pc' := 10) hx dX1_init_9 rfl rfl ?_
  refine v_bipush (pc' := 12) (v := 24) hx dX1_init_10 (by decide) rfl ?_
  refine v_yanew2 (pc' := 15) (w' := (bmp 2 w)) (a := zS w + 1) (X' := [(zS w, .inr (1, [.int x1, .null, .null, .null, .null, .null, .null, .int 0, .int 0, .int 0, .int 0])), (zS w + 1, .inl ((xD x).2 3, 24, .inr (.inr (.inr (.inr (fun _ => none))))))]) (t := 3) (n := 24) (C := "StuckHands$Row") hx rfl rfl rfl (fun _ => rfl) (fun _ _ h => h.2.2.1) (tb_in 189 (by decide +kernel) (by decide +kernel)) (by decide) (by decide) (by decide) ⟨by decide, by decide⟩ dX1_init_12 rfl ?_
  refine v_yput (pc' := 18) (i := 0) (c := 1) (k := 1) (fs' := [.int x1, .ref (zS w + 1), .null, .null, .null, .null, .null, .int 0, .int 0, .int 0, .int 0]) (X' := [(zS w, .inr (1, [.int x1, .ref (zS w + 1), .null, .null, .null, .null, .null, .int 0, .int 0, .int 0, .int 0])), (zS w + 1, .inl ((xD x).2 3, 24, .inr (.inr (.inr (.inr (fun _ => none))))))]) hx hin rfl (by decide) (by decide) (tb_in 193 (by decide +kernel) (by decide +kernel)) rfl rfl rfl (Nat.le_of_ble_eq_true rfl) rfl rfl dX1_init_15 rfl ?_
  refine v_aload_n (pc' := 19) hx dX1_init_18 rfl rfl ?_
  refine v_bipush (pc' := 21) (v := 16) hx dX1_init_19 (by decide) rfl ?_
  refine v_ynew2 (pc' := 23) (w' := (bmp 3 w)) (a := zS w + 2) (X' := [(zS w, .inr (1, [.int x1, .ref (zS w + 1), .null, .null, .null, .null, .null, .int 0, .int 0, .int 0, .int 0])), (zS w + 1, .inl ((xD x).2 3, 24, .inr (.inr (.inr (.inr (fun _ => none)))))), (zS w + 2, .inl ((xD x).2 0, 16, .inl (fun _ => 0)))]) (t := 0) (n := 16) (ty := .int) hx rfl rfl rfl rfl (fun _ => rfl) (fun _ _ h => h) rfl ac_int (by decide) (by decide) (by decide) ⟨by decide, by decide⟩ dX1_init_21 rfl ?_
  refine v_yput (pc' := 26) (i := 0) (c := 1) (k := 2) (fs' := [.int x1, .ref (zS w + 1), .ref (zS w + 2), .null, .null, .null, .null, .int 0, .int 0, .int 0, .int 0]) (X' := [(zS w, .inr (1, [.int x1, .ref (zS w + 1), .ref (zS w + 2), .null, .null, .null, .null, .int 0, .int 0, .int 0, .int 0])), (zS w + 1, .inl ((xD x).2 3, 24, .inr (.inr (.inr (.inr (fun _ => none)))))), (zS w + 2, .inl ((xD x).2 0, 16, .inl (fun _ => 0)))]) hx hin rfl (by decide) (by decide) (tb_in 195 (by decide +kernel) (by decide +kernel)) rfl rfl rfl (Nat.le_of_ble_eq_true rfl) rfl rfl dX1_init_23 rfl ?_
  refine v_iconst (pc' := 27) (v := 0) hx dX1_init_26 (by decide) rfl ?_
  refine v_istore_n (pc' := 28) (L' := [some (.ref (zS w)), some (.int x1), some (.int 0)]) hx dX1_init_27 rfl rfl (Nat.le_of_ble_eq_true rfl) ?_
  refine V.imp (P' := RY (xD x) (bmp 3 w) [(zS w, .inr (1, [.int x1, .ref (zS w + 1), .ref (zS w + 2), .null, .null, .null, .null, .int 0, .int 0, .int 0, .int 0])), (zS w + 1, .inl ((xD x).2 3, 24, .inr (.inr (.inr (.inr (fun _ => none)))))), (zS w + 2, .inl ((xD x).2 0, 16, .inl (fun j => if j < 0 then -1 else 0)))]) (fun G sz h => by simpa using h) ?_
  exact vX1_loop hx hin hq 16 0 rfl
