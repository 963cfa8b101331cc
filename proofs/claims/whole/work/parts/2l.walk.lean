theorem vX5_count {x : CT} (hx : CX x cX5_count RX5 rmX5_count (some .int)) {r0 : Int32} {w : Wd} (hq : RI x rmX5_count r0 w) (a0 : Nat) (x1 : Int32) (x2 : Int32) (hl0 : zL w 5 a0 = true) (h : fX5_count a0 x1 x2 w = some r0) : V x 0 [some (.ref a0), some (.int x1), some (.int x2), none] [] (Rp (xD x) w) 0 0 := by
  unfold fX5_count at h
  refine v_iload_n (pc' := 1) hx dX5_count_0 rfl rfl ?_
  refine v_iconst (pc' := 2) (v := (-1)) hx dX5_count_1 (by decide) rfl ?_
  refine v_icmp_ne (tgt := 11) (pc' := 5) hx dX5_count_2 (by decide) rfl (fun hc_1 => ?_) (fun hc_1 => ?_)
  · rw [if_neg hc_1] at h
    refine v_aload_n (pc' := 12) hx dX5_count_11 rfl rfl ?_
    refine v_iload_n (pc' := 13) hx dX5_count_12 rfl rfl ?_
    replace h := bd_inv h; obtain ⟨u_3, hcl_2, h⟩ := h
    refine v_callVq (pc' := 16) (w' := w) (q := u_3) (ci := 5) (b := a0) (As := [.int x1]) (rest := []) hx hl0 (fun G sz hR => ctX5_pictureAt (xl x) (xD x) w G sz hR a0 x1 hl0 hcl_2) rfl my_X5_pictureAt ml_X5_74 ⟨by decide, by decide⟩ ⟨by decide, by decide⟩ rfl rfl (Nat.le_of_ble_eq_true rfl) dX5_count_13 rfl (fun hl_4 => ?_)
    refine v_astoreq_n (pc' := 17) (L' := [some (.ref a0), some (.int x1), some (.int x2), some (va_rf u_3)]) hx dX5_count_16 rfl rfl (Nat.le_of_ble_eq_true rfl) ?_
    refine v_aloadq_n (pc' := 18) hx dX5_count_17 rfl rfl ?_
    refine v_ifnonnull (tgt := 23) (pc' := 21) hx dX5_count_18 (by decide) rfl (fun b_5 hn_6 => ?_) (fun hn_6 => ?_)
    · subst hn_6
      rw [oc_s] at h
      have hl_7 : zL w 1 b_5 = true := hl_4 _ rfl
      refine v_iload_n (pc' := 24) hx dX5_count_23 rfl rfl ?_
      by_cases hc_8 : x2 = 0
      · rw [if_pos hc_8] at h
        refine v_tblIn (tgt := 56) (off := 32) hx dX5_count_24 (by rw [hc_8]; decide) (by rw [hc_8]; decide) (by rw [hc_8]; decide) (by decide) ?_
        refine v_aload_n (pc' := 57) hx dX5_count_56 rfl rfl ?_
        refine v_getI (pc' := 60) hx hl_7 fi_1_0.1 fi_1_0.2.1 fk_X5_141 dX5_count_57 rfl ?_
        exact v_iret hx hq (by decide) (by decide) dX5_count_60 (by cases h; rfl)
      rw [if_neg hc_8] at h
      by_cases hc_9 : x2 = 1
      · rw [if_pos hc_9] at h
        refine v_tblIn (tgt := 61) (off := 37) hx dX5_count_24 (by rw [hc_9]; decide) (by rw [hc_9]; decide) (by rw [hc_9]; decide) (by decide) ?_
        refine v_aload_n (pc' := 62) hx dX5_count_61 rfl rfl ?_
        refine v_getI (pc' := 65) hx hl_7 fi_1_8.1 fi_1_8.2.1 fk_X5_169 dX5_count_62 rfl ?_
        exact v_iret hx hq (by decide) (by decide) dX5_count_65 (by cases h; rfl)
      rw [if_neg hc_9] at h
      by_cases hc_10 : x2 = 2
      · rw [if_pos hc_10] at h
        refine v_tblIn (tgt := 66) (off := 42) hx dX5_count_24 (by rw [hc_10]; decide) (by rw [hc_10]; decide) (by rw [hc_10]; decide) (by decide) ?_
        refine v_aload_n (pc' := 67) hx dX5_count_66 rfl rfl ?_
        refine v_getI (pc' := 70) hx hl_7 fi_1_9.1 fi_1_9.2.1 fk_X5_172 dX5_count_67 rfl ?_
        exact v_iret hx hq (by decide) (by decide) dX5_count_70 (by cases h; rfl)
      rw [if_neg hc_10] at h
      by_cases hc_11 : x2 = 3
      · rw [if_pos hc_11] at h
        refine v_tblIn (tgt := 71) (off := 47) hx dX5_count_24 (by rw [hc_11]; decide) (by rw [hc_11]; decide) (by rw [hc_11]; decide) (by decide) ?_
        refine v_aload_n (pc' := 72) hx dX5_count_71 rfl rfl ?_
        refine v_getI (pc' := 75) hx hl_7 fi_1_10.1 fi_1_10.2.1 fk_X5_175 dX5_count_72 rfl ?_
        exact v_iret hx hq (by decide) (by decide) dX5_count_75 (by cases h; rfl)
      rw [if_neg hc_11] at h
      refine v_tblOut (tgt := 76) hx dX5_count_24 (sw_out (fun i h1 h2 => by rcases (show i = 0 ∨ i = 1 ∨ i = 2 ∨ i = 3 by omega) with rfl | rfl | rfl | rfl <;> assumption)) (by decide) ?_
      refine v_iconst (pc' := 77) (v := (-1)) hx dX5_count_76 (by decide) rfl ?_
      exact v_iret hx hq (by decide) (by decide) dX5_count_77 (by cases h; rfl)
    · subst hn_6
      rw [oc_n] at h
      refine v_iconst (pc' := 22) (v := (-1)) hx dX5_count_21 (by decide) rfl ?_
      exact v_iret hx hq (by decide) (by decide) dX5_count_22 (by cases h; rfl)
  · rw [if_pos hc_1] at h
    refine v_aload_n (pc' := 6) hx dX5_count_5 rfl rfl ?_
    refine v_iload_n (pc' := 7) hx dX5_count_6 rfl rfl ?_
    replace h := bd_inv h; obtain ⟨y_13, hcl_12, h⟩ := h
    refine v_callVi (pc' := 10) (w' := w) (r := y_13) (ci := 5) (b := a0) (As := [.int x2]) (rest := []) hx hl0 (fun G sz hR => ctX5_countOfReader (xl x) (xD x) w G sz hR a0 x2 hl0 hcl_12) rfl my_X5_countOfReader ml_X5_166 ⟨by decide, by decide⟩ ⟨by decide, by decide⟩ rfl rfl (Nat.le_of_ble_eq_true rfl) dX5_count_7 rfl ?_
    exact v_iret hx hq (by decide) (by decide) dX5_count_10 (by cases h; rfl)
theorem ctX5_count (l : Launch) (D : DD) (w : Wd) (G : GT) (sz : Nat) (hR : Rp D w G sz) (a0 : Nat) (x1 : Int32) (x2 : Int32) (hl0 : zL w 5 a0 = true) {r0 : Int32} (h : fX5_count a0 x1 x2 w = some r0) : MetI l yX5_count (WS yX5_count cX5_count 4 (some .int)) rmX5_count D [.ref a0, .int x1, .int x2] G sz r0 w := by
  refine MetI_ofV (own := RX5) (P := Rp D w) hR (by decide) rfl (by simp [Value.category]) (Nat.le_of_ble_eq_true rfl) (fun x hx hq hD hl => ?_)
  subst hD
  exact vX5_count hx hq a0 x1 x2 hl0 h
theorem vX6_count_b211 {x : CT} (hx : CX x cX6_count RX6 rmX6_count (some .int)) {r0 : Int32} {w : Wd} (hq : RI x rmX6_count r0 w) {rec211 : Int32 → Int32 → Int32 → Option (Int32)} {x3 : Int32} {x4 : Int32} {x5 : Int32} (hrec211 : ∀ (x3 : Int32) (x4 : Int32) (x5 : Int32), rec211 x3 x4 x5 = some r0 → V x 211 [none, none, none, some (.int x3), some (.int x4), some (.int x5)] [] (Rp (xD x) w) 0 0) (h : fX6_count_b211 w rec211 x3 x4 x5 = some r0) : V x 211 [none, none, none, some (.int x3), some (.int x4), some (.int x5)] [] (Rp (xD x) w) 0 0 := by
  unfold fX6_count_b211 at h
  refine v_iload (pc' := 213) hx dX6_count_211 rfl rfl ?_
  refine v_bipush (pc' := 215) (v := 16) hx dX6_count_213 (by decide) rfl ?_
  refine v_icmp_ge (tgt := 234) (pc' := 218) hx dX6_count_215 (by decide) rfl (fun hc_1 => ?_) (fun hc_1 => ?_)
  · rw [if_pos hc_1] at h
    refine v_iload_n (pc' := 235) hx dX6_count_234 rfl rfl ?_
    exact v_iret hx hq (by decide) (by decide) dX6_count_235 (by cases h; rfl)
  · rw [if_neg hc_1] at h
    refine v_iload_n (pc' := 219) hx dX6_count_218 rfl rfl ?_
    refine v_iload (pc' := 221) hx dX6_count_219 rfl rfl ?_
    refine v_iload (pc' := 223) hx dX6_count_221 rfl rfl ?_
    refine v_ishr (pc' := 224) hx dX6_count_223 rfl ?_
    refine v_iconst (pc' := 225) (v := 1) hx dX6_count_224 (by decide) rfl ?_
    refine v_iand (pc' := 226) hx dX6_count_225 rfl ?_
    refine v_iadd (pc' := 227) hx dX6_count_226 rfl ?_
    refine v_istore_n (pc' := 228) (L' := [none, none, none, some (.int (x3 + ((x4 >>> (x5 &&& 31)) &&& 1))), some (.int x4), some (.int x5)]) hx dX6_count_227 rfl rfl (Nat.le_of_ble_eq_true rfl) ?_
    refine v_iinc (pc' := 231) (w0 := (x5 + 1)) (L' := [none, none, none, some (.int (x3 + ((x4 >>> (x5 &&& 31)) &&& 1))), some (.int x4), some (.int (x5 + 1))]) hx dX6_count_228 rfl rfl rfl rfl ?_
    refine v_goto (tgt := 211) hx dX6_count_231 (by decide) ?_
    exact hrec211 (x3 + ((x4 >>> (x5 &&& 31)) &&& 1)) x4 (x5 + 1) h
theorem vX6_count_l211 {x : CT} (hx : CX x cX6_count RX6 rmX6_count (some .int)) {r0 : Int32} {w : Wd} (hq : RI x rmX6_count r0 w) : ∀ (n : Nat) (x3 : Int32) (x4 : Int32) (x5 : Int32), fX6_count_l211 w n x3 x4 x5 = some r0 → V x 211 [none, none, none, some (.int x3), some (.int x4), some (.int x5)] [] (Rp (xD x) w) 0 0 := by
  intro n
  induction n with
  | zero => intro x3 x4 x5  h; cases h
  | succ n ih =>
    intro x3 x4 x5  h
    exact vX6_count_b211 hx hq  (fun x3 x4 x5 h  => ih x3 x4 x5  h)  h
theorem vX6_count_b191 {x : CT} (hx : CX x cX6_count RX6 rmX6_count (some .int)) {r0 : Int32} {w : Wd} (hq : RI x rmX6_count r0 w) {rec147 : Nat → Int32 → Int32 → Int32 → Option (Int32)} {a0 : Nat} {x1 : Int32} {x4 : Int32} {xs0 : Int32} {xs1 : Int32} (hrec147 : ∀ (a0 : Nat) (x1 : Int32) (x3 : Int32) (x4 : Int32), rec147 a0 x1 x3 x4 = some r0 → (zL w 6 a0 = true) → V x 147 [some (.ref a0), some (.int x1), none, some (.int x3), some (.int x4), none] [] (Rp (xD x) w) 0 0) (hl0 : zL w 6 a0 = true) (h : fX6_count_b191 w rec147 a0 x1 x4 xs0 xs1 = some r0) : V x 191 [some (.ref a0), some (.int x1), none, none, some (.int x4), none] [.int xs0, .int xs1] (Rp (xD x) w) 0 0 := by
  unfold fX6_count_b191 at h
  refine v_iadd (pc' := 192) hx dX6_count_191 rfl ?_
  refine v_istore_n (pc' := 193) (L' := [some (.ref a0), some (.int x1), none, some (.int (xs1 + xs0)), some (.int x4), none]) hx dX6_count_192 rfl rfl (Nat.le_of_ble_eq_true rfl) ?_
  refine v_iinc (pc' := 196) (w0 := (x4 + 1)) (L' := [some (.ref a0), some (.int x1), none, some (.int (xs1 + xs0)), some (.int (x4 + 1)), none]) hx dX6_count_193 rfl rfl rfl rfl ?_
  refine v_goto (tgt := 147) hx dX6_count_196 (by decide) ?_
  exact hrec147 a0 x1 (xs1 + xs0) (x4 + 1) h hl0
theorem vX6_count_b190 {x : CT} (hx : CX x cX6_count RX6 rmX6_count (some .int)) {r0 : Int32} {w : Wd} (hq : RI x rmX6_count r0 w) {rec147 : Nat → Int32 → Int32 → Int32 → Option (Int32)} {a0 : Nat} {x1 : Int32} {x4 : Int32} {xs0 : Int32} (hrec147 : ∀ (a0 : Nat) (x1 : Int32) (x3 : Int32) (x4 : Int32), rec147 a0 x1 x3 x4 = some r0 → (zL w 6 a0 = true) → V x 147 [some (.ref a0), some (.int x1), none, some (.int x3), some (.int x4), none] [] (Rp (xD x) w) 0 0) (hl0 : zL w 6 a0 = true) (h : fX6_count_b190 w rec147 a0 x1 x4 xs0 = some r0) : V x 190 [some (.ref a0), some (.int x1), none, none, some (.int x4), none] [.int xs0] (Rp (xD x) w) 0 0 := by
  unfold fX6_count_b190 at h
  refine v_iconst (pc' := 191) (v := 0) hx dX6_count_190 (by decide) rfl ?_
  exact vX6_count_b191 hx hq hrec147 hl0 h
theorem vX6_count_b147 {x : CT} (hx : CX x cX6_count RX6 rmX6_count (some .int)) {r0 : Int32} {w : Wd} (hq : RI x rmX6_count r0 w) {rec147 : Nat → Int32 → Int32 → Int32 → Option (Int32)} {a0 : Nat} {x1 : Int32} {x3 : Int32} {x4 : Int32} (hrec147 : ∀ (a0 : Nat) (x1 : Int32) (x3 : Int32) (x4 : Int32), rec147 a0 x1 x3 x4 = some r0 → (zL w 6 a0 = true) → V x 147 [some (.ref a0), some (.int x1), none, some (.int x3), some (.int x4), none] [] (Rp (xD x) w) 0 0) (hl0 : zL w 6 a0 = true) (h : fX6_count_b147 w rec147 a0 x1 x3 x4 = some r0) : V x 147 [some (.ref a0), some (.int x1), none, some (.int x3), some (.int x4), none] [] (Rp (xD x) w) 0 0 := by
  unfold fX6_count_b147 at h
  refine v_iload (pc' := 149) hx dX6_count_147 rfl rfl ?_
  refine v_bipush (pc' := 151) (v := 24) hx dX6_count_149 (by decide) rfl ?_
  refine v_icmp_ge (tgt := 199) (pc' := 154) hx dX6_count_151 (by decide) rfl (fun hc_1 => ?_) (fun hc_1 => ?_)
  · rw [if_pos hc_1] at h
    refine v_iload_n (pc' := 200) hx dX6_count_199 rfl rfl ?_
    exact v_iret hx hq (by decide) (by decide) dX6_count_200 (by cases h; rfl)
  · rw [if_neg hc_1] at h
    refine v_iload_n (pc' := 155) hx dX6_count_154 rfl rfl ?_
    refine v_aload_n (pc' := 156) hx dX6_count_155 rfl rfl ?_
    obtain ⟨g_2, hq_3⟩ : ∃ q, zA w 6 a0 7 = q := ⟨_, rfl⟩
    refine v_getAq (pc' := 159) hx hl0 fi_6_7.1 (by decide) hq_3 fk_X6_27 dX6_count_156 rfl ?_
    refine v_bipush (pc' := 161) (v := 24) hx dX6_count_159 (by decide) rfl ?_
    refine v_iload_n (pc' := 162) hx dX6_count_161 rfl rfl ?_
    refine v_imul (pc' := 163) hx dX6_count_162 rfl ?_
    refine v_iload (pc' := 165) hx dX6_count_163 rfl rfl ?_
    refine v_iadd (pc' := 166) hx dX6_count_165 rfl ?_
    replace h := ckp_inv h; obtain ⟨hk_4, h⟩ := h
    refine v_zaldq (pc' := 167) hx hl0 fi_6_7.1 fi_6_7.2.1 rfl hk_4 hq_3 dX6_count_166 rfl ?_
    refine v_if_eq (tgt := 190) (pc' := 170) hx dX6_count_167 (by decide) rfl (fun hc_5 => ?_) (fun hc_5 => ?_)
    · rw [if_pos hc_5] at h
      refine V.sb (L' := [some (.ref a0), some (.int x1), none, none, some (.int x4), none]) ⟨Or.inr rfl, Or.inr rfl, Or.inl rfl, Or.inl rfl, Or.inr rfl, Or.inl rfl, trivial⟩ ?_
      exact vX6_count_b190 hx hq hrec147 hl0 h
    · rw [if_neg hc_5] at h
      refine v_aload_n (pc' := 171) hx dX6_count_170 rfl rfl ?_
      obtain ⟨g_6, hq_7⟩ : ∃ q, zA w 6 a0 11 = q := ⟨_, rfl⟩
      refine v_getAq (pc' := 174) hx hl0 fi_6_11.1 (by decide) hq_7 fk_X6_40 dX6_count_171 rfl ?_
      refine v_bipush (pc' := 176) (v := 24) hx dX6_count_174 (by decide) rfl ?_
      refine v_iload_n (pc' := 177) hx dX6_count_176 rfl rfl ?_
      refine v_imul (pc' := 178) hx dX6_count_177 rfl ?_
      refine v_iload (pc' := 180) hx dX6_count_178 rfl rfl ?_
      refine v_iadd (pc' := 181) hx dX6_count_180 rfl ?_
      replace h := ckp_inv h; obtain ⟨hk_8, h⟩ := h
      refine v_ialdq (pc' := 182) hx hl0 fi_6_11.1 fi_6_11.2.1 rfl hk_8 hq_7 dX6_count_181 rfl ?_
      refine v_iconst (pc' := 183) (v := (-1)) hx dX6_count_182 (by decide) rfl ?_
      refine v_icmp_eq (tgt := 190) (pc' := 186) hx dX6_count_183 (by decide) rfl (fun hc_9 => ?_) (fun hc_9 => ?_)
      · rw [if_pos hc_9] at h
        refine V.sb (L' := [some (.ref a0), some (.int x1), none, none, some (.int x4), none]) ⟨Or.inr rfl, Or.inr rfl, Or.inl rfl, Or.inl rfl, Or.inr rfl, Or.inl rfl, trivial⟩ ?_
        exact vX6_count_b190 hx hq hrec147 hl0 h
      · rw [if_neg hc_9] at h
        refine v_iconst (pc' := 187) (v := 1) hx dX6_count_186 (by decide) rfl ?_
        refine v_goto (tgt := 191) hx dX6_count_187 (by decide) ?_
        refine V.sb (L' := [some (.ref a0), some (.int x1), none, none, some (.int x4), none]) ⟨Or.inr rfl, Or.inr rfl, Or.inl rfl, Or.inl rfl, Or.inr rfl, Or.inl rfl, trivial⟩ ?_
        exact vX6_count_b191 hx hq hrec147 hl0 h
theorem vX6_count_l147 {x : CT} (hx : CX x cX6_count RX6 rmX6_count (some .int)) {r0 : Int32} {w : Wd} (hq : RI x rmX6_count r0 w) : ∀ (n : Nat) (a0 : Nat) (x1 : Int32) (x3 : Int32) (x4 : Int32), (zL w 6 a0 = true) → fX6_count_l147 w n a0 x1 x3 x4 = some r0 → V x 147 [some (.ref a0), some (.int x1), none, some (.int x3), some (.int x4), none] [] (Rp (xD x) w) 0 0 := by
  intro n
  induction n with
  | zero => intro a0 x1 x3 x4 hl0 h; cases h
  | succ n ih =>
    intro a0 x1 x3 x4 hl0 h
    exact vX6_count_b147 hx hq  (fun a0 x1 x3 x4 h hl0 => ih a0 x1 x3 x4 hl0 h) hl0 h
theorem vX6_count_b134 {x : CT} (hx : CX x cX6_count RX6 rmX6_count (some .int)) {r0 : Int32} {w : Wd} (hq : RI x rmX6_count r0 w) {rec106 : Nat → Int32 → Int32 → Int32 → Option (Int32)} {a0 : Nat} {x1 : Int32} {x4 : Int32} {xs0 : Int32} {xs1 : Int32} (hrec106 : ∀ (a0 : Nat) (x1 : Int32) (x3 : Int32) (x4 : Int32), rec106 a0 x1 x3 x4 = some r0 → (zL w 6 a0 = true) → V x 106 [some (.ref a0), some (.int x1), none, some (.int x3), some (.int x4), none] [] (Rp (xD x) w) 0 0) (hl0 : zL w 6 a0 = true) (h : fX6_count_b134 w rec106 a0 x1 x4 xs0 xs1 = some r0) : V x 134 [some (.ref a0), some (.int x1), none, none, some (.int x4), none] [.int xs0, .int xs1] (Rp (xD x) w) 0 0 := by
  unfold fX6_count_b134 at h
  refine v_iadd (pc' := 135) hx dX6_count_134 rfl ?_
  refine v_istore_n (pc' := 136) (L' := [some (.ref a0), some (.int x1), none, some (.int (xs1 + xs0)), some (.int x4), none]) hx dX6_count_135 rfl rfl (Nat.le_of_ble_eq_true rfl) ?_
  refine v_iinc (pc' := 139) (w0 := (x4 + 1)) (L' := [some (.ref a0), some (.int x1), none, some (.int (xs1 + xs0)), some (.int (x4 + 1)), none]) hx dX6_count_136 rfl rfl rfl rfl ?_
  refine v_goto (tgt := 106) hx dX6_count_139 (by decide) ?_
  exact hrec106 a0 x1 (xs1 + xs0) (x4 + 1) h hl0
theorem vX6_count_b106 {x : CT} (hx : CX x cX6_count RX6 rmX6_count (some .int)) {r0 : Int32} {w : Wd} (hq : RI x rmX6_count r0 w) {rec106 : Nat → Int32 → Int32 → Int32 → Option (Int32)} {a0 : Nat} {x1 : Int32} {x3 : Int32} {x4 : Int32} (hrec106 : ∀ (a0 : Nat) (x1 : Int32) (x3 : Int32) (x4 : Int32), rec106 a0 x1 x3 x4 = some r0 → (zL w 6 a0 = true) → V x 106 [some (.ref a0), some (.int x1), none, some (.int x3), some (.int x4), none] [] (Rp (xD x) w) 0 0) (hl0 : zL w 6 a0 = true) (h : fX6_count_b106 w rec106 a0 x1 x3 x4 = some r0) : V x 106 [some (.ref a0), some (.int x1), none, some (.int x3), some (.int x4), none] [] (Rp (xD x) w) 0 0 := by
  unfold fX6_count_b106 at h
  refine v_iload (pc' := 108) hx dX6_count_106 rfl rfl ?_
  refine v_bipush (pc' := 110) (v := 24) hx dX6_count_108 (by decide) rfl ?_
  refine v_icmp_ge (tgt := 142) (pc' := 113) hx dX6_count_110 (by decide) rfl (fun hc_1 => ?_) (fun hc_1 => ?_)
  · rw [if_pos hc_1] at h
    refine v_iload_n (pc' := 143) hx dX6_count_142 rfl rfl ?_
    exact v_iret hx hq (by decide) (by decide) dX6_count_143 (by cases h; rfl)
  · rw [if_neg hc_1] at h
    refine v_iload_n (pc' := 114) hx dX6_count_113 rfl rfl ?_
    refine v_aload_n (pc' := 115) hx dX6_count_114 rfl rfl ?_
    obtain ⟨g_2, hq_3⟩ : ∃ q, zA w 6 a0 7 = q := ⟨_, rfl⟩
    refine v_getAq (pc' := 118) hx hl0 fi_6_7.1 (by decide) hq_3 fk_X6_27 dX6_count_115 rfl ?_
    refine v_bipush (pc' := 120) (v := 24) hx dX6_count_118 (by decide) rfl ?_
    refine v_iload_n (pc' := 121) hx dX6_count_120 rfl rfl ?_
    refine v_imul (pc' := 122) hx dX6_count_121 rfl ?_
    refine v_iload (pc' := 124) hx dX6_count_122 rfl rfl ?_
    refine v_iadd (pc' := 125) hx dX6_count_124 rfl ?_
    replace h := ckp_inv h; obtain ⟨hk_4, h⟩ := h
    refine v_zaldq (pc' := 126) hx hl0 fi_6_7.1 fi_6_7.2.1 rfl hk_4 hq_3 dX6_count_125 rfl ?_
    refine v_if_eq (tgt := 133) (pc' := 129) hx dX6_count_126 (by decide) rfl (fun hc_5 => ?_) (fun hc_5 => ?_)
    · rw [if_pos hc_5] at h
      refine v_iconst (pc' := 134) (v := 0) hx dX6_count_133 (by decide) rfl ?_
      refine V.sb (L' := [some (.ref a0), some (.int x1), none, none, some (.int x4), none]) ⟨Or.inr rfl, Or.inr rfl, Or.inl rfl, Or.inl rfl, Or.inr rfl, Or.inl rfl, trivial⟩ ?_
      exact vX6_count_b134 hx hq hrec106 hl0 h
    · rw [if_neg hc_5] at h
      refine v_iconst (pc' := 130) (v := 1) hx dX6_count_129 (by decide) rfl ?_
      refine v_goto (tgt := 134) hx dX6_count_130 (by decide) ?_
      refine V.sb (L' := [some (.ref a0), some (.int x1), none, none, some (.int x4), none]) ⟨Or.inr rfl, Or.inr rfl, Or.inl rfl, Or.inl rfl, Or.inr rfl, Or.inl rfl, trivial⟩ ?_
      exact vX6_count_b134 hx hq hrec106 hl0 h
theorem vX6_count_l106 {x : CT} (hx : CX x cX6_count RX6 rmX6_count (some .int)) {r0 : Int32} {w : Wd} (hq : RI x rmX6_count r0 w) : ∀ (n : Nat) (a0 : Nat) (x1 : Int32) (x3 : Int32) (x4 : Int32), (zL w 6 a0 = true) → fX6_count_l106 w n a0 x1 x3 x4 = some r0 → V x 106 [some (.ref a0), some (.int x1), none, some (.int x3), some (.int x4), none] [] (Rp (xD x) w) 0 0 := by
  intro n
  induction n with
  | zero => intro a0 x1 x3 x4 hl0 h; cases h
  | succ n ih =>
    intro a0 x1 x3 x4 hl0 h
    exact vX6_count_b106 hx hq  (fun a0 x1 x3 x4 h hl0 => ih a0 x1 x3 x4 hl0 h) hl0 h
theorem vX6_count_b53 {x : CT} (hx : CX x cX6_count RX6 rmX6_count (some .int)) {r0 : Int32} {w : Wd} (hq : RI x rmX6_count r0 w) {xs0 : Int32} (h : fX6_count_b53 w xs0 = some r0) : V x 53 [none, none, none, none, none, none] [.int xs0] (Rp (xD x) w) 0 0 := by
  unfold fX6_count_b53 at h
  exact v_iret hx hq (by decide) (by decide) dX6_count_53 (by cases h; rfl)
theorem vX6_count {x : CT} (hx : CX x cX6_count RX6 rmX6_count (some .int)) {r0 : Int32} {w : Wd} (hq : RI x rmX6_count r0 w) (a0 : Nat) (x1 : Int32) (x2 : Int32) (hl0 : zL w 6 a0 = true) (h : fX6_count a0 x1 x2 w = some r0) : V x 0 [some (.ref a0), some (.int x1), some (.int x2), none, none, none] [] (Rp (xD x) w) 0 0 := by
  unfold fX6_count at h
  refine v_iload_n (pc' := 1) hx dX6_count_0 rfl rfl ?_
  refine v_iconst (pc' := 2) (v := (-1)) hx dX6_count_1 (by decide) rfl ?_
  refine v_icmp_ne (tgt := 54) (pc' := 5) hx dX6_count_2 (by decide) rfl (fun hc_1 => ?_) (fun hc_1 => ?_)
  · rw [if_neg hc_1] at h
    refine v_aload_n (pc' := 55) hx dX6_count_54 rfl rfl ?_
    refine v_iload_n (pc' := 56) hx dX6_count_55 rfl rfl ?_
    replace h := bd_inv h; obtain ⟨y_3, hcl_2, h⟩ := h
    refine v_callVi (pc' := 59) (w' := w) (r := y_3) (ci := 6) (b := a0) (As := [.int x1]) (rest := []) hx hl0 (fun G sz hR => ctX6_isPicture (xl x) (xD x) w G sz hR a0 x1 hl0 hcl_2) rfl my_X6_isPicture ml_X6_145 ⟨by decide, by decide⟩ ⟨by decide, by decide⟩ rfl rfl (Nat.le_of_ble_eq_true rfl) dX6_count_56 rfl ?_
    refine v_if_ne (tgt := 64) (pc' := 62) hx dX6_count_59 (by decide) rfl (fun hc_5 => ?_) (fun hc_5 => ?_)
    · rw [if_neg hc_5] at h
      refine v_iconst (pc' := 65) (v := 0) hx dX6_count_64 (by decide) rfl ?_
      refine v_istore_n (pc' := 66) (L' := [some (.ref a0), some (.int x1), some (.int x2), some (.int 0), none, none]) hx dX6_count_65 rfl rfl (Nat.le_of_ble_eq_true rfl) ?_
      refine v_iload_n (pc' := 67) hx dX6_count_66 rfl rfl ?_
      by_cases hc_6 : x2 = 0
      · rw [if_pos hc_6] at h
        refine v_tblIn (tgt := 96) (off := 29) hx dX6_count_67 (by rw [hc_6]; decide) (by rw [hc_6]; decide) (by rw [hc_6]; decide) (by decide) ?_
        refine v_aload_n (pc' := 97) hx dX6_count_96 rfl rfl ?_
        obtain ⟨g_7, hq_8⟩ : ∃ q, zA w 6 a0 5 = q := ⟨_, rfl⟩
        refine v_getAq (pc' := 100) hx hl0 fi_6_5.1 (by decide) hq_8 fk_X6_20 dX6_count_97 rfl ?_
        refine v_iload_n (pc' := 101) hx dX6_count_100 rfl rfl ?_
        replace h := ckp_inv h; obtain ⟨hk_9, h⟩ := h
        refine v_ialdq (pc' := 102) hx hl0 fi_6_5.1 fi_6_5.2.1 rfl hk_9 hq_8 dX6_count_101 rfl ?_
        exact v_iret hx hq (by decide) (by decide) dX6_count_102 (by cases h; rfl)
      rw [if_neg hc_6] at h
      by_cases hc_10 : x2 = 1
      · rw [if_pos hc_10] at h
        refine v_tblIn (tgt := 103) (off := 36) hx dX6_count_67 (by rw [hc_10]; decide) (by rw [hc_10]; decide) (by rw [hc_10]; decide) (by decide) ?_
        refine v_iconst (pc' := 104) (v := 0) hx dX6_count_103 (by decide) rfl ?_
        refine v_istore (pc' := 106) (L' := [some (.ref a0), some (.int x1), some (.int x2), some (.int 0), some (.int 0), none]) hx dX6_count_104 rfl rfl (Nat.le_of_ble_eq_true rfl) ?_
        refine V.sb (L' := [some (.ref a0), some (.int x1), none, some (.int 0), some (.int 0), none]) ⟨Or.inr rfl, Or.inr rfl, Or.inl rfl, Or.inr rfl, Or.inr rfl, Or.inl rfl, trivial⟩ ?_
        exact vX6_count_l106 hx hq 1000 a0 x1 0 0 hl0 h
      rw [if_neg hc_10] at h
      by_cases hc_11 : x2 = 2
      · rw [if_pos hc_11] at h
        refine v_tblIn (tgt := 144) (off := 77) hx dX6_count_67 (by rw [hc_11]; decide) (by rw [hc_11]; decide) (by rw [hc_11]; decide) (by decide) ?_
        refine v_iconst (pc' := 145) (v := 0) hx dX6_count_144 (by decide) rfl ?_
        refine v_istore (pc' := 147) (L' := [some (.ref a0), some (.int x1), some (.int x2), some (.int 0), some (.int 0), none]) hx dX6_count_145 rfl rfl (Nat.le_of_ble_eq_true rfl) ?_
        refine V.sb (L' := [some (.ref a0), some (.int x1), none, some (.int 0), some (.int 0), none]) ⟨Or.inr rfl, Or.inr rfl, Or.inl rfl, Or.inr rfl, Or.inr rfl, Or.inl rfl, trivial⟩ ?_
        exact vX6_count_l147 hx hq 1000 a0 x1 0 0 hl0 h
      rw [if_neg hc_11] at h
      by_cases hc_12 : x2 = 3
      · rw [if_pos hc_12] at h
        refine v_tblIn (tgt := 201) (off := 134) hx dX6_count_67 (by rw [hc_12]; decide) (by rw [hc_12]; decide) (by rw [hc_12]; decide) (by decide) ?_
        refine v_aload_n (pc' := 202) hx dX6_count_201 rfl rfl ?_
        refine v_iload_n (pc' := 203) hx dX6_count_202 rfl rfl ?_
        replace h := bd_inv h; obtain ⟨y_14, hcl_13, h⟩ := h
        refine v_callVi (pc' := 206) (w' := w) (r := y_14) (ci := 6) (b := a0) (As := [.int x1]) (rest := []) hx hl0 (fun G sz hR => ctX6_heldBy (xl x) (xD x) w G sz hR a0 x1 hl0 hcl_13) rfl my_X6_heldBy ml_X6_105 ⟨by decide, by decide⟩ ⟨by decide, by decide⟩ rfl rfl (Nat.le_of_ble_eq_true rfl) dX6_count_203 rfl ?_
        refine v_istore (pc' := 208) (L' := [some (.ref a0), some (.int x1), some (.int x2), some (.int 0), some (.int y_14), none]) hx dX6_count_206 rfl rfl (Nat.le_of_ble_eq_true rfl) ?_
        refine v_iconst (pc' := 209) (v := 0) hx dX6_count_208 (by decide) rfl ?_
        refine v_istore (pc' := 211) (L' := [some (.ref a0), some (.int x1), some (.int x2), some (.int 0), some (.int y_14), some (.int 0)]) hx dX6_count_209 rfl rfl (Nat.le_of_ble_eq_true rfl) ?_
        refine V.sb (L' := [none, none, none, some (.int 0), some (.int y_14), some (.int 0)]) ⟨Or.inl rfl, Or.inl rfl, Or.inl rfl, Or.inr rfl, Or.inr rfl, Or.inr rfl, trivial⟩ ?_
        exact vX6_count_l211 hx hq 1000 0 y_14 0 h
      rw [if_neg hc_12] at h
      refine v_tblOut (tgt := 236) hx dX6_count_67 (sw_out (fun i h1 h2 => by rcases (show i = 0 ∨ i = 1 ∨ i = 2 ∨ i = 3 by omega) with rfl | rfl | rfl | rfl <;> assumption)) (by decide) ?_
      refine v_iconst (pc' := 237) (v := (-1)) hx dX6_count_236 (by decide) rfl ?_
      exact v_iret hx hq (by decide) (by decide) dX6_count_237 (by cases h; rfl)
    · rw [if_pos hc_5] at h
      refine v_iconst (pc' := 63) (v := (-1)) hx dX6_count_62 (by decide) rfl ?_
      exact v_iret hx hq (by decide) (by decide) dX6_count_63 (by cases h; rfl)
  · rw [if_pos hc_1] at h
    refine v_iload_n (pc' := 6) hx dX6_count_5 rfl rfl ?_
    refine v_if_ne (tgt := 16) (pc' := 9) hx dX6_count_6 (by decide) rfl (fun hc_16 => ?_) (fun hc_16 => ?_)
    · rw [if_neg hc_16] at h
      refine v_iload_n (pc' := 17) hx dX6_count_16 rfl rfl ?_
      refine v_iconst (pc' := 18) (v := 1) hx dX6_count_17 (by decide) rfl ?_
      refine v_icmp_ne (tgt := 28) (pc' := 21) hx dX6_count_18 (by decide) rfl (fun hc_17 => ?_) (fun hc_17 => ?_)
      · rw [if_neg hc_17] at h
        refine v_iload_n (pc' := 29) hx dX6_count_28 rfl rfl ?_
        refine v_iconst (pc' := 30) (v := 2) hx dX6_count_29 (by decide) rfl ?_
        refine v_icmp_ne (tgt := 40) (pc' := 33) hx dX6_count_30 (by decide) rfl (fun hc_18 => ?_) (fun hc_18 => ?_)
        · rw [if_neg hc_18] at h
          refine v_iload_n (pc' := 41) hx dX6_count_40 rfl rfl ?_
          refine v_iconst (pc' := 42) (v := 3) hx dX6_count_41 (by decide) rfl ?_
          refine v_icmp_ne (tgt := 52) (pc' := 45) hx dX6_count_42 (by decide) rfl (fun hc_19 => ?_) (fun hc_19 => ?_)
          · rw [if_neg hc_19] at h
            refine v_iconst (pc' := 53) (v := (-1)) hx dX6_count_52 (by decide) rfl ?_
            refine V.sb (L' := [none, none, none, none, none, none]) ⟨Or.inl rfl, Or.inl rfl, Or.inl rfl, Or.inl rfl, Or.inl rfl, Or.inl rfl, trivial⟩ ?_
            exact vX6_count_b53 hx hq h
          · rw [if_pos hc_19] at h
            refine v_aload_n (pc' := 46) hx dX6_count_45 rfl rfl ?_
            refine v_getI (pc' := 49) hx hl0 fi_6_4.1 fi_6_4.2.1 fk_X6_17 dX6_count_46 rfl ?_
            refine v_goto (tgt := 53) hx dX6_count_49 (by decide) ?_
            refine V.sb (L' := [none, none, none, none, none, none]) ⟨Or.inl rfl, Or.inl rfl, Or.inl rfl, Or.inl rfl, Or.inl rfl, Or.inl rfl, trivial⟩ ?_
            exact vX6_count_b53 hx hq h
        · rw [if_pos hc_18] at h
          refine v_aload_n (pc' := 34) hx dX6_count_33 rfl rfl ?_
          refine v_getI (pc' := 37) hx hl0 fi_6_3.1 fi_6_3.2.1 fk_X6_13 dX6_count_34 rfl ?_
          refine v_goto (tgt := 53) hx dX6_count_37 (by decide) ?_
          refine V.sb (L' := [none, none, none, none, none, none]) ⟨Or.inl rfl, Or.inl rfl, Or.inl rfl, Or.inl rfl, Or.inl rfl, Or.inl rfl, trivial⟩ ?_
          exact vX6_count_b53 hx hq h
      · rw [if_pos hc_17] at h
        refine v_aload_n (pc' := 22) hx dX6_count_21 rfl rfl ?_
        refine v_getI (pc' := 25) hx hl0 fi_6_1.1 fi_6_1.2.1 fk_X6_67 dX6_count_22 rfl ?_
        refine v_goto (tgt := 53) hx dX6_count_25 (by decide) ?_
        refine V.sb (L' := [none, none, none, none, none, none]) ⟨Or.inl rfl, Or.inl rfl, Or.inl rfl, Or.inl rfl, Or.inl rfl, Or.inl rfl, trivial⟩ ?_
        exact vX6_count_b53 hx hq h
    · rw [if_pos hc_16] at h
      refine v_aload_n (pc' := 10) hx dX6_count_9 rfl rfl ?_
      refine v_getI (pc' := 13) hx hl0 fi_6_2.1 fi_6_2.2.1 fk_X6_136 dX6_count_10 rfl ?_
      refine v_goto (tgt := 53) hx dX6_count_13 (by decide) ?_
      refine V.sb (L' := [none, none, none, none, none, none]) ⟨Or.inl rfl, Or.inl rfl, Or.inl rfl, Or.inl rfl, Or.inl rfl, Or.inl rfl, trivial⟩ ?_
      exact vX6_count_b53 hx hq h
theorem ctX6_count (l : Launch) (D : DD) (w : Wd) (G : GT) (sz : Nat) (hR : Rp D w G sz) (a0 : Nat) (x1 : Int32) (x2 : Int32) (hl0 : zL w 6 a0 = true) {r0 : Int32} (h : fX6_count a0 x1 x2 w = some r0) : MetI l yX6_count (WS yX6_count cX6_count 6 (some .int)) rmX6_count D [.ref a0, .int x1, .int x2] G sz r0 w := by
  refine MetI_ofV (own := RX6) (P := Rp D w) hR (by decide) rfl (by simp [Value.category]) (Nat.le_of_ble_eq_true rfl) (fun x hx hq hD hl => ?_)
  subst hD
  exact vX6_count hx hq a0 x1 x2 hl0 h
