/-! the memory rules with the arrays' addresses by name -/
theorem oc_n {α : Type} (t : Option α) (f : Nat → Option α) : oc none t f = t := rfl
theorem oc_s {α : Type} (a : Nat) (t : Option α) (f : Nat → Option α) : oc (some a) t f = f a := rfl
section ZQ
variable {x : CT} {cc : ByteArray} {own : String} {rm : Room} {ret : Option FieldType} {pc pc' : Nat} {L : List (Option Value)} {st : List Value} {cs ss : Nat} {w : Wd} {a ci k index n q : Nat} {i v : Int32}
theorem v_getAq (hx : CX x cc own rm ret) (hl : zL w ci a = true) (hk : k < nF ci) (hd : 2 ≤ kd ci k) (hq : zA w ci a k = q) (hfl : FL own index ci k) (d : decode cc pc = .ok (.getfield index, 3)) (hp : pc + 3 = pc') (kk : V x pc' L (.ref q :: st) (Rp (xD x) w) cs ss) : V x pc L (.ref a :: st) (Rp (xD x) w) cs ss := by
  subst hq; exact v_getA hx hl hk hd hfl d hp kk
theorem v_ialdq (hx : CX x cc own rm ret) (hl : zL w ci a = true) (hk : k < nF ci) (hd : kd ci k = 2) (hn : al ci k = n) (hin : ix i n = true) (hq : zA w ci a k = q) (d : decode cc pc = .ok (.iaload, 1)) (hp : pc + 1 = pc') (kk : V x pc' L (.int (zI w ci a k i.toNatClampNeg) :: st) (Rp (xD x) w) cs ss) : V x pc L (.int i :: .ref q :: st) (Rp (xD x) w) cs ss := by
  subst hq; exact v_iald hx hl hk hd hn hin d hp kk
theorem v_baldq (hx : CX x cc own rm ret) (hl : zL w ci a = true) (hk : k < nF ci) (hd : kd ci k = 3) (hn : al ci k = n) (hin : ix i n = true) (hq : zA w ci a k = q) (d : decode cc pc = .ok (.baload, 1)) (hp : pc + 1 = pc') (kk : V x pc' L (.int (zI w ci a k i.toNatClampNeg) :: st) (Rp (xD x) w) cs ss) : V x pc L (.int i :: .ref q :: st) (Rp (xD x) w) cs ss := by
  subst hq; exact v_bald hx hl hk hd hn hin d hp kk
theorem v_zaldq (hx : CX x cc own rm ret) (hl : zL w ci a = true) (hk : k < nF ci) (hd : kd ci k = 4) (hn : al ci k = n) (hin : ix i n = true) (hq : zA w ci a k = q) (d : decode cc pc = .ok (.baload, 1)) (hp : pc + 1 = pc') (kk : V x pc' L (.int (zI w ci a k i.toNatClampNeg) :: st) (Rp (xD x) w) cs ss) : V x pc L (.int i :: .ref q :: st) (Rp (xD x) w) cs ss := by
  subst hq; exact v_zald hx hl hk hd hn hin d hp kk
theorem v_aaldq (hx : CX x cc own rm ret) (hl : zL w ci a = true) (hk : k < nF ci) (hd : kd ci k = 5 ∨ kd ci k = 6) (hn : al ci k = n) (hin : ix i n = true) (hq : zA w ci a k = q) (d : decode cc pc = .ok (.aaload, 1)) (hp : pc + 1 = pc') (kk : V x pc' L (va_rf (zR w ci a k i.toNatClampNeg) :: st) (Rp (xD x) w) cs ss) : V x pc L (.int i :: .ref q :: st) (Rp (xD x) w) cs ss := by
  subst hq; exact v_aald hx hl hk hd hn hin d hp kk
theorem v_alenq (hx : CX x cc own rm ret) (hl : zL w ci a = true) (hk : k < nF ci) (hd : 2 ≤ kd ci k ∧ kd ci k ≤ 6) (hn : Int32.ofNat (al ci k) = v) (hq : zA w ci a k = q) (d : decode cc pc = .ok (.arraylength, 1)) (hp : pc + 1 = pc') (kk : V x pc' L (.int v :: st) (Rp (xD x) w) cs ss) : V x pc L (.ref q :: st) (Rp (xD x) w) cs ss := by
  subst hq; exact v_alen hx hl hk hd hn d hp kk
theorem v_iastq (hx : CX x cc own rm ret) (hl : zL w ci a = true) (hk : k < nF ci) (hd : kd ci k = 2) (hn : al ci k = n) (hin : ix i n = true) (hq : zA w ci a k = q) (d : decode cc pc = .ok (.iastore, 1)) (hp : pc + 1 = pc') (kk : V x pc' L st (Rp (xD x) (sI w ci a k i.toNatClampNeg v)) cs ss) : V x pc L (.int v :: .int i :: .ref q :: st) (Rp (xD x) w) cs ss := by
  subst hq; exact v_iast hx hl hk hd hn hin d hp kk
theorem v_bastq (hx : CX x cc own rm ret) (hl : zL w ci a = true) (hk : k < nF ci) (hd : kd ci k = 3) (hn : al ci k = n) (hin : ix i n = true) (hq : zA w ci a k = q) (d : decode cc pc = .ok (.bastore, 1)) (hp : pc + 1 = pc') (kk : V x pc' L st (Rp (xD x) (sI w ci a k i.toNatClampNeg (vp_nar .byte v))) cs ss) : V x pc L (.int v :: .int i :: .ref q :: st) (Rp (xD x) w) cs ss := by
  subst hq; exact v_bast hx hl hk hd hn hin d hp kk
theorem v_zastq (hx : CX x cc own rm ret) (hl : zL w ci a = true) (hk : k < nF ci) (hd : kd ci k = 4) (hn : al ci k = n) (hin : ix i n = true) (hq : zA w ci a k = q) (d : decode cc pc = .ok (.bastore, 1)) (hp : pc + 1 = pc') (kk : V x pc' L st (Rp (xD x) (sI w ci a k i.toNatClampNeg (vp_nar .boolean v))) cs ss) : V x pc L (.int v :: .int i :: .ref q :: st) (Rp (xD x) w) cs ss := by
  subst hq; exact v_zast hx hl hk hd hn hin d hp kk
theorem v_aastq (hx : CX x cc own rm ret) (hl : zL w ci a = true) (hk : k < nF ci) {t0 b : Nat} (hd : kd ci k = t0 + 2) (ht : (TYA (xD x))[t0]? = some ((xD x).2 t0, .object (RR (tg ci k)))) (hc0 : cyN (t0 + 2) = t0) (h5 : 5 ≤ t0 + 2) (hbl : zL w (tg ci k) b = true) (hn : al ci k = n) (hin : ix i n = true) (hq : zA w ci a k = q) (d : decode cc pc = .ok (.aastore, 1)) (hp : pc + 1 = pc') (kk : V x pc' L st (Rp (xD x) (sR w ci a k i.toNatClampNeg (some b))) cs ss) : V x pc L (.ref b :: .int i :: .ref q :: st) (Rp (xD x) w) cs ss := by
  subst hq; exact v_aast hx hl hk hd ht hc0 h5 hbl hn hin d hp kk
end ZQ
