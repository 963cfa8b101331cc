theorem mo_eI {w1 w2 w3 : Wd} {c a k j : Nat} {v : Int32} (h : mo w1 w2) (e : w3 = sI w2 c a k j v) : mo w1 w3 := by rw [e]; exact h
theorem mo_eR {w1 w2 w3 : Wd} {c a k j : Nat} {v : Option Nat} (h : mo w1 w2) (e : w3 = sR w2 c a k j v) : mo w1 w3 := by rw [e]; exact h
section ZO2
variable {l : Launch} {y : MethodName} {cc : ByteArray} {maxL : Nat} {own : String} {rm : Room} {D : DD} {av : List Value} {G : GT} {sz : Nat} {r : Int32} {w' : Wd} {P : GT → Nat → Prop} {ret : Option FieldType}
theorem MetI_ofVF (hP : P G sz) (hy : plainFor y = true) (ho : y.cls = own) (hav : ∀ v ∈ av, v.category = 1) (hlen : av.length ≤ maxL)
    (body : ∀ x : CT, CX x cc own rm ret → RI x rm r w' → xD x = D → xl x = l → V x 0 (av.map some ++ List.replicate (maxL - av.length) none) [] P 0 0) : MetI l y (WS y cc maxL ret) rm D av G sz r w' := by
  refine va_MetF (cc := cc) (maxL := maxL) (ret := ret) hy rfl ?_
  intro p e s m args below meth c s₁ B hml hv
  obtain ⟨rfl, hsz, hGP, hK⟩ := hv
  have hts := atoms_spec (ws := WS y cc maxL ret) B.pre
  have hown : s.vm.findClass own = some m.cls := by rw [← ho]; exact findClass_of_methodNamed B.named
  have V0 := body (p, l, e, (headSpec (WS y cc maxL ret) rm).room, s, m, av.toArray, below, meth, c, MQ below (QI D G sz r w') av.toArray s rm.cells rm.slots (AA G sz), D, AA G sz, maxL) ⟨B.exec, B.bytes, hml, hown, fun w hw => hts w (List.mem_cons_of_mem _ hw), hK, fun q hq => Or.inr (by omega), B.notSynchronized, B.returns, rfl⟩ ⟨G, sz, rfl, rfl⟩ rfl rfl
  rw [lg_entry_eq]
  exact V0 G sz s.heap [] _ hP hsz hGP (fun a e h => Or.inl ⟨e, h⟩) va_S.rf (LH_entry hav hlen)
end ZO2
theorem cat_rf (r : Option Nat) : (va_rf r).category = 1 := by cases r <;> rfl
