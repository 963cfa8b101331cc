theorem ins_0 : Cond.instantiable (RR 0) (nF 0) ∈ TBG := tb_in 96 (by decide +kernel) (by decide +kernel)
theorem ins_1 : Cond.instantiable (RR 1) (nF 1) ∈ TBG := tb_in 184 (by decide +kernel) (by decide +kernel)
theorem ins_2 : Cond.instantiable (RR 2) (nF 2) ∈ TBG := tb_in 251 (by decide +kernel) (by decide +kernel)
theorem ins_3 : Cond.instantiable (RR 3) (nF 3) ∈ TBG := tb_in 233 (by decide +kernel) (by decide +kernel)
theorem ins_4 : Cond.instantiable (RR 4) (nF 4) ∈ TBG := tb_in 72 (by decide +kernel) (by decide +kernel)
theorem ins_5 : Cond.instantiable (RR 5) (nF 5) ∈ TBG := tb_in 64 (by decide +kernel) (by decide +kernel)
theorem ins_6 : Cond.instantiable (RR 6) (nF 6) ∈ TBG := tb_in 608 (by decide +kernel) (by decide +kernel)
theorem ao_row : Cond.arrayOver (.object "StuckHands$Row") ∈ lw_tbl := List.mem_of_getElem? (i := 190) (by decide +kernel)
theorem ao_pic : Cond.arrayOver (.object "StuckHands$Picture") ∈ lw_tbl := List.mem_of_getElem? (i := 94) (by decide +kernel)
theorem ins_ok : ∀ c, c < 7 → Cond.instantiable (RR c) (nF c) ∈ TBG := zc7 ins_0 ins_1 ins_2 ins_3 ins_4 ins_5 ins_6
theorem arr_of {args : Array Value} {s : State} {ty : FieldType} (hp : ∀ U cA, U.vm.findClass ("[" ++ ty.toString) = some cA → va_RA U cA ty) (h : (Cond.arrayClass ty).before args s = true) : ∃ cA, ArrOfT s cA ty ∧ va_RA s cA ty := by
  obtain ⟨cA, kA, comp, hfind, hk, hkind⟩ := Cond.arrayClass_spec h
  exact ⟨cA, fun n z => ⟨fun k h => (by cases h), kA, hk, comp, hkind⟩, hp _ _ hfind⟩
theorem arr_ref {args : Array Value} {s : State} {C : String} (h : (Cond.arrayOver (.object C)).before args s = true) : ∃ cA, ArrOfT s cA (.object C) ∧ va_RA s cA (.object C) := by
  obtain ⟨comp, cA, kA, h1, h2, h3, h4, h5⟩ := Cond.arrayOver_spec h
  exact ⟨cA, fun n z => ⟨fun k h => (by cases h), kA, h3, comp, h4⟩, kA, comp, h3, h4, h1, h5⟩
theorem KB_start {args : Array Value} {s : State} (hts : ∀ w ∈ lw_tbl, w.before args s = true) : ∃ D : DD, KB D s := by
  have htg : ∀ w ∈ TBG, w.before args s = true := fun w h => hts w (List.mem_filter.mp h).1
  have hcl : ∀ c : Nat, ∃ q : ClassId × (Nat → Nat), c < 7 → u_Kn s (RR c) (TT c) (nF c) q.1 q.2 := by
    intro c
    by_cases hc : c < 7
    · obtain ⟨cC, iS, h⟩ := u_known (C := RR c) (T := TT c) (N := nF c) (n := nF c) htg (zIn_ok c hc) (htg _ (ins_ok c hc))
      exact ⟨(cC, iS), fun _ => h⟩
    · exact ⟨(0, fun _ => 0), fun h => absurd h hc⟩
  obtain ⟨c0, h0⟩ := arr_of (ty := .int) (fun _ _ h => h) (htg _ ac_int)
  obtain ⟨c1, h1⟩ := arr_of (ty := .byte) (fun _ _ h => h) (htg _ ac_byte)
  obtain ⟨c2, h2⟩ := arr_of (ty := .boolean) (fun _ _ h => h) (htg _ ac_boolean)
  obtain ⟨c3, h3⟩ := arr_ref (hts _ ao_row)
  obtain ⟨c4, h4⟩ := arr_ref (hts _ ao_pic)
  refine ⟨((fun c => (Classical.choose (hcl c)).1, fun c => (Classical.choose (hcl c)).2), fun k => if k = 0 then c0 else if k = 1 then c1 else if k = 2 then c2 else if k = 3 then c3 else c4), ⟨fun c q hq => ?_, fun k q hq => ?_⟩, fun w hw => ?_, va_AO.of (hts _ ao_row), va_AO.of (hts _ ao_pic)⟩
  · have hc : c < 7 := (List.getElem?_eq_some_iff.mp hq).1
    rw [zCl_ok c hc] at hq
    cases hq
    exact Classical.choose_spec (hcl c) hc
  · match k, hq with
    | 0, hq => cases hq; exact h0
    | 1, hq => cases hq; exact h1
    | 2, hq => cases hq; exact h2
    | 3, hq => cases hq; exact h3
    | 4, hq => cases hq; exact h4
    | k + 5, hq => simp [TYA] at hq
  · have h1 := hts w (List.mem_filter.mp hw).1
    have h2 := (List.mem_filter.mp hw).2
    cases w <;> first | (exact va_Nw.of rfl h1) | (simp [zNst] at h2)
def w00 (sz : Nat) : Wd := (fun _ _ _ _ => 0, fun _ _ _ _ => none, fun _ _ _ => 0, fun _ _ => false, sz)
theorem Rp_w00 (D : DD) (sz : Nat) : Rp D (w00 sz) (fun _ => none) sz := ⟨fun _ _ h => (by cases h), fun _ _ _ h => (by cases h), fun _ _ _ _ _ _ h => (by cases h), fun _ _ _ _ _ h => (by cases h), rfl⟩

