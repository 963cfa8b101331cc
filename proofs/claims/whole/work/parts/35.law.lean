def fL_law_b808 (xs : Nat → Int32) (n : Nat) (rec18 : Nat → Nat → Int32 → Wd → Option (Unit)) (a1 : Nat) (a2 : Nat) (x3 : Int32) (w : Wd) : Option (Unit) := (rec18 a1 a2 (x3 + 6) w)
def fL_law_b18 (xs : Nat → Int32) (n : Nat) (rec18 : Nat → Nat → Int32 → Wd → Option (Unit)) (a1 : Nat) (a2 : Nat) (x3 : Int32) (w : Wd) : Option (Unit) := (if ((Int32.ofNat n) - 6) < x3 then (some ()) else (ckp (ix x3 n = true) (if ((xs (x3 : Int32).toNatClampNeg) &&& 31) = 0 then (ckp (ix (x3 + 1) n = true) (ckp (ix (x3 + 2) n = true) (ckp (ix (x3 + 3) n = true) (ckp (ix (x3 + 4) n = true) (ckp (ix (x3 + 5) n = true) (bd2 (fX5_feed a1 (xs ((x3 + 1) : Int32).toNatClampNeg) (xs ((x3 + 2) : Int32).toNatClampNeg) (xs ((x3 + 3) : Int32).toNatClampNeg) (xs ((x3 + 4) : Int32).toNatClampNeg) (xs ((x3 + 5) : Int32).toNatClampNeg) w) (fun y_10 w_11 => (ckp (ix (x3 + 1) n = true) (ckp (ix (x3 + 2) n = true) (ckp (ix (x3 + 3) n = true) (ckp (ix (x3 + 4) n = true) (ckp (ix (x3 + 5) n = true) (bd2 (fX6_feed a2 (xs ((x3 + 1) : Int32).toNatClampNeg) (xs ((x3 + 2) : Int32).toNatClampNeg) (xs ((x3 + 3) : Int32).toNatClampNeg) (xs ((x3 + 4) : Int32).toNatClampNeg) (xs ((x3 + 5) : Int32).toNatClampNeg) w_11) (fun y_23 w_24 => (if y_10 = y_23 then (fL_law_b808 xs n rec18 a1 a2 x3 w_24) else none))))))))))))))) else (if ((xs (x3 : Int32).toNatClampNeg) &&& 31) = 1 then (ckp (ix (x3 + 1) n = true) (bd2 (fX5_picture a1 (xs ((x3 + 1) : Int32).toNatClampNeg) w) (fun y_33 w_34 => (ckp (ix (x3 + 1) n = true) (bd2 (fX6_picture a2 (xs ((x3 + 1) : Int32).toNatClampNeg) w_34) (fun y_42 w_43 => (if y_33 = y_42 then (fL_law_b808 xs n rec18 a1 a2 x3 w_43) else none))))))) else (if ((xs (x3 : Int32).toNatClampNeg) &&& 31) = 2 then (ckp (ix (x3 + 1) n = true) (bd (fX5_torn a1 (xs ((x3 + 1) : Int32).toNatClampNeg) w) (fun y_52 => (ckp (ix (x3 + 1) n = true) (bd (fX6_torn a2 (xs ((x3 + 1) : Int32).toNatClampNeg) w) (fun y_56 => (if y_52 = y_56 then (fL_law_b808 xs n rec18 a1 a2 x3 w) else none))))))) else (if ((xs (x3 : Int32).toNatClampNeg) &&& 31) = 3 then (ckp (ix (x3 + 1) n = true) (ckp (ix (x3 + 2) n = true) (ckp (ix (x3 + 3) n = true) (bd (fX5_look a1 (xs ((x3 + 1) : Int32).toNatClampNeg) (xs ((x3 + 2) : Int32).toNatClampNeg) (xs ((x3 + 3) : Int32).toNatClampNeg) w) (fun y_64 => (ckp (ix (x3 + 1) n = true) (ckp (ix (x3 + 2) n = true) (ckp (ix (x3 + 3) n = true) (bd (fX6_look a2 (xs ((x3 + 1) : Int32).toNatClampNeg) (xs ((x3 + 2) : Int32).toNatClampNeg) (xs ((x3 + 3) : Int32).toNatClampNeg) w) (fun y_70 => (if y_64 = y_70 then (fL_law_b808 xs n rec18 a1 a2 x3 w) else none))))))))))) else (if ((xs (x3 : Int32).toNatClampNeg) &&& 31) = 4 then (ckp (ix (x3 + 1) n = true) (ckp (ix (x3 + 2) n = true) (bd (fX5_holder a1 (xs ((x3 + 1) : Int32).toNatClampNeg) (xs ((x3 + 2) : Int32).toNatClampNeg) w) (fun y_77 => (ckp (ix (x3 + 1) n = true) (ckp (ix (x3 + 2) n = true) (bd (fX6_holder a2 (xs ((x3 + 1) : Int32).toNatClampNeg) (xs ((x3 + 2) : Int32).toNatClampNeg) w) (fun y_82 => (if y_77 = y_82 then (fL_law_b808 xs n rec18 a1 a2 x3 w) else none))))))))) else (if ((xs (x3 : Int32).toNatClampNeg) &&& 31) = 5 then (ckp (ix (x3 + 1) n = true) (bd (fX5_rings a1 (xs ((x3 + 1) : Int32).toNatClampNeg) w) (fun y_88 => (ckp (ix (x3 + 1) n = true) (bd (fX6_rings a2 (xs ((x3 + 1) : Int32).toNatClampNeg) w) (fun y_92 => (if y_88 = y_92 then (fL_law_b808 xs n rec18 a1 a2 x3 w) else none))))))) else (if ((xs (x3 : Int32).toNatClampNeg) &&& 31) = 6 then (ckp (ix (x3 + 1) n = true) (ckp (ix (x3 + 2) n = true) (ckp (ix (x3 + 3) n = true) (bd (fX5_ring a1 (xs ((x3 + 1) : Int32).toNatClampNeg) (xs ((x3 + 2) : Int32).toNatClampNeg) (xs ((x3 + 3) : Int32).toNatClampNeg) w) (fun y_100 => (ckp (ix (x3 + 1) n = true) (ckp (ix (x3 + 2) n = true) (ckp (ix (x3 + 3) n = true) (bd (fX6_ring a2 (xs ((x3 + 1) : Int32).toNatClampNeg) (xs ((x3 + 2) : Int32).toNatClampNeg) (xs ((x3 + 3) : Int32).toNatClampNeg) w) (fun y_106 => (if y_100 = y_106 then (fL_law_b808 xs n rec18 a1 a2 x3 w) else none))))))))))) else (if ((xs (x3 : Int32).toNatClampNeg) &&& 31) = 7 then (ckp (ix (x3 + 1) n = true) (ckp (ix (x3 + 2) n = true) (bd (fX5_foot a1 (xs ((x3 + 1) : Int32).toNatClampNeg) (xs ((x3 + 2) : Int32).toNatClampNeg) w) (fun y_113 => (ckp (ix (x3 + 1) n = true) (ckp (ix (x3 + 2) n = true) (bd (fX6_foot a2 (xs ((x3 + 1) : Int32).toNatClampNeg) (xs ((x3 + 2) : Int32).toNatClampNeg) w) (fun y_118 => (if y_113 = y_118 then (fL_law_b808 xs n rec18 a1 a2 x3 w) else none))))))))) else (if ((xs (x3 : Int32).toNatClampNeg) &&& 31) = 8 then (ckp (ix (x3 + 1) n = true) (ckp (ix (x3 + 2) n = true) (bd (fX5_through a1 (xs ((x3 + 1) : Int32).toNatClampNeg) (xs ((x3 + 2) : Int32).toNatClampNeg) w) (fun y_125 => (ckp (ix (x3 + 1) n = true) (ckp (ix (x3 + 2) n = true) (bd (fX6_through a2 (xs ((x3 + 1) : Int32).toNatClampNeg) (xs ((x3 + 2) : Int32).toNatClampNeg) w) (fun y_130 => (if y_125 = y_130 then (fL_law_b808 xs n rec18 a1 a2 x3 w) else none))))))))) else (if ((xs (x3 : Int32).toNatClampNeg) &&& 31) = 9 then (ckp (ix (x3 + 1) n = true) (ckp (ix (x3 + 2) n = true) (bd (fX5_weight a1 (xs ((x3 + 1) : Int32).toNatClampNeg) (xs ((x3 + 2) : Int32).toNatClampNeg) w) (fun y_137 => (ckp (ix (x3 + 1) n = true) (ckp (ix (x3 + 2) n = true) (bd (fX6_weight a2 (xs ((x3 + 1) : Int32).toNatClampNeg) (xs ((x3 + 2) : Int32).toNatClampNeg) w) (fun y_142 => (if y_137 = y_142 then (fL_law_b808 xs n rec18 a1 a2 x3 w) else none))))))))) else (if ((xs (x3 : Int32).toNatClampNeg) &&& 31) = 10 then (ckp (ix (x3 + 1) n = true) (bd (fX5_guilty a1 (xs ((x3 + 1) : Int32).toNatClampNeg) w) (fun y_148 => (ckp (ix (x3 + 1) n = true) (bd (fX6_guilty a2 (xs ((x3 + 1) : Int32).toNatClampNeg) w) (fun y_152 => (if y_148 = y_152 then (fL_law_b808 xs n rec18 a1 a2 x3 w) else none))))))) else (if ((xs (x3 : Int32).toNatClampNeg) &&& 31) = 11 then (ckp (ix (x3 + 1) n = true) (bd (fX5_stuck a1 (xs ((x3 + 1) : Int32).toNatClampNeg) w) (fun y_158 => (ckp (ix (x3 + 1) n = true) (bd (fX6_stuck a2 (xs ((x3 + 1) : Int32).toNatClampNeg) w) (fun y_162 => (if y_158 = y_162 then (fL_law_b808 xs n rec18 a1 a2 x3 w) else none))))))) else (if ((xs (x3 : Int32).toNatClampNeg) &&& 31) = 12 then (ckp (ix (x3 + 1) n = true) (bd (fX5_broken a1 (xs ((x3 + 1) : Int32).toNatClampNeg) w) (fun y_168 => (ckp (ix (x3 + 1) n = true) (bd2 (fX6_broken a2 (xs ((x3 + 1) : Int32).toNatClampNeg) w) (fun y_172 w_173 => (if y_168 = y_172 then (fL_law_b808 xs n rec18 a1 a2 x3 w_173) else none))))))) else (if ((xs (x3 : Int32).toNatClampNeg) &&& 31) = 13 then (ckp (ix (x3 + 1) n = true) (ckp (ix (x3 + 2) n = true) (bd2 (fX5_meter a1 (xs ((x3 + 1) : Int32).toNatClampNeg) (xs ((x3 + 2) : Int32).toNatClampNeg) w) (fun y_184 w_185 => (ckp (ix (x3 + 1) n = true) (ckp (ix (x3 + 2) n = true) (bd2 (fX6_meter a2 (xs ((x3 + 1) : Int32).toNatClampNeg) (xs ((x3 + 2) : Int32).toNatClampNeg) w_185) (fun y_194 w_195 => (if y_184 = y_194 then (fL_law_b808 xs n rec18 a1 a2 x3 w_195) else none))))))))) else (if ((xs (x3 : Int32).toNatClampNeg) &&& 31) = 14 then (ckp (ix (x3 + 1) n = true) (ckp (ix (x3 + 2) n = true) (ckp (ix (x3 + 3) n = true) (ckp (ix (x3 + 4) n = true) (bd (fX5_work a1 (xs ((x3 + 1) : Int32).toNatClampNeg) (xs ((x3 + 2) : Int32).toNatClampNeg) (xs ((x3 + 3) : Int32).toNatClampNeg) (xs ((x3 + 4) : Int32).toNatClampNeg) w) (fun y_207 => (ckp (ix (x3 + 1) n = true) (ckp (ix (x3 + 2) n = true) (ckp (ix (x3 + 3) n = true) (ckp (ix (x3 + 4) n = true) (bd (fX6_work a2 (xs ((x3 + 1) : Int32).toNatClampNeg) (xs ((x3 + 2) : Int32).toNatClampNeg) (xs ((x3 + 3) : Int32).toNatClampNeg) (xs ((x3 + 4) : Int32).toNatClampNeg) w) (fun y_214 => (if y_207 = y_214 then (fL_law_b808 xs n rec18 a1 a2 x3 w) else none))))))))))))) else (if ((xs (x3 : Int32).toNatClampNeg) &&& 31) = 15 then (ckp (ix (x3 + 1) n = true) (ckp (ix (x3 + 2) n = true) (ckp (ix (x3 + 3) n = true) (bd (fX5_distance a1 (xs ((x3 + 1) : Int32).toNatClampNeg) (xs ((x3 + 2) : Int32).toNatClampNeg) (xs ((x3 + 3) : Int32).toNatClampNeg) w) (fun y_222 => (ckp (ix (x3 + 1) n = true) (ckp (ix (x3 + 2) n = true) (ckp (ix (x3 + 3) n = true) (bd2 (fX6_distance a2 (xs ((x3 + 1) : Int32).toNatClampNeg) (xs ((x3 + 2) : Int32).toNatClampNeg) (xs ((x3 + 3) : Int32).toNatClampNeg) w) (fun y_228 w_229 => (if y_222 = y_228 then (fL_law_b808 xs n rec18 a1 a2 x3 w_229) else none))))))))))) else (if ((xs (x3 : Int32).toNatClampNeg) &&& 31) = 16 then (ckp (ix (x3 + 1) n = true) (ckp (ix (x3 + 2) n = true) (bd (fX5_heaps a1 (xs ((x3 + 1) : Int32).toNatClampNeg) (xs ((x3 + 2) : Int32).toNatClampNeg) w) (fun y_240 => (ckp (ix (x3 + 1) n = true) (ckp (ix (x3 + 2) n = true) (bd2 (fX6_heaps a2 (xs ((x3 + 1) : Int32).toNatClampNeg) (xs ((x3 + 2) : Int32).toNatClampNeg) w) (fun y_245 w_246 => (if y_240 = y_245 then (fL_law_b808 xs n rec18 a1 a2 x3 w_246) else none))))))))) else (if ((xs (x3 : Int32).toNatClampNeg) &&& 31) = 17 then (ckp (ix (x3 + 1) n = true) (ckp (ix (x3 + 2) n = true) (ckp (ix (x3 + 3) n = true) (bd (fX5_heap a1 (xs ((x3 + 1) : Int32).toNatClampNeg) (xs ((x3 + 2) : Int32).toNatClampNeg) (xs ((x3 + 3) : Int32).toNatClampNeg) w) (fun y_258 => (ckp (ix (x3 + 1) n = true) (ckp (ix (x3 + 2) n = true) (ckp (ix (x3 + 3) n = true) (bd2 (fX6_heap a2 (xs ((x3 + 1) : Int32).toNatClampNeg) (xs ((x3 + 2) : Int32).toNatClampNeg) (xs ((x3 + 3) : Int32).toNatClampNeg) w) (fun y_264 w_265 => (if y_258 = y_264 then (fL_law_b808 xs n rec18 a1 a2 x3 w_265) else none))))))))))) else (if ((xs (x3 : Int32).toNatClampNeg) &&& 31) = 18 then (ckp (ix (x3 + 1) n = true) (bd (fX5_order a1 (xs ((x3 + 1) : Int32).toNatClampNeg) w) (fun y_275 => (ckp (ix (x3 + 1) n = true) (bd (fX6_order a2 (xs ((x3 + 1) : Int32).toNatClampNeg) w) (fun y_279 => (if y_275 = y_279 then (fL_law_b808 xs n rec18 a1 a2 x3 w) else none))))))) else (if ((xs (x3 : Int32).toNatClampNeg) &&& 31) = 19 then (ckp (ix (x3 + 1) n = true) (ckp (ix (x3 + 2) n = true) (bd (fX5_count a1 (xs ((x3 + 1) : Int32).toNatClampNeg) (xs ((x3 + 2) : Int32).toNatClampNeg) w) (fun y_286 => (ckp (ix (x3 + 1) n = true) (ckp (ix (x3 + 2) n = true) (bd (fX6_count a2 (xs ((x3 + 1) : Int32).toNatClampNeg) (xs ((x3 + 2) : Int32).toNatClampNeg) w) (fun y_291 => (if y_286 = y_291 then (fL_law_b808 xs n rec18 a1 a2 x3 w) else none))))))))) else (fL_law_b808 xs n rec18 a1 a2 x3 w)))))))))))))))))))))))
def fL_law_l18 (xs : Nat → Int32) (n : Nat) : Nat → Nat → Nat → Int32 → Wd → Option (Unit)
  | 0, _, _, _, _ => none
  | fu + 1, a1, a2, x3, w => fL_law_b18 xs n  (fL_law_l18 xs n fu) a1 a2 x3 w
def fL_law (xs : Nat → Int32) (n : Nat) (w : Wd) : Option (Unit) := (lt' (zS w) (fun g_1 => (lt' (nwX5 w ) (fun w_4 => (lt' (zS w_4) (fun g_8 => (lt' (nwX6 w_4 ) (fun w_10 => (fL_law_l18 xs n 513 (zS w) (zS w_4) 0 w_10)))))))))
theorem vL_law_b808 {x : CT} {xs : Nat → Int32} {n b : Nat} (hX : LX x b n xs) (hx : CX x cL_law RL room_1 (some .boolean)) (hq : RLw x b) {rec18 : Nat → Nat → Int32 → Wd → Option (Unit)} {a1 : Nat} {a2 : Nat} {x3 : Int32} {w : Wd} {cs ss N : Nat} (hcs : cs + 60 * (N + 1) ≤ 600000) (hss : ss + 1184 * (N + 1) ≤ 7302250) (hrec18 : ∀ (a1 : Nat) (a2 : Nat) (x3 : Int32) (w : Wd), rec18 a1 a2 x3 w = some () → (zL w 5 a1 = true) → (zL w 6 a2 = true) → V x 18 [some (.ref b), some (.ref a1), some (.ref a2), some (.int x3)] [] (Rp (xD x) w) (cs + 60) (ss + 1184)) (hl1 : zL w 5 a1 = true) (hl2 : zL w 6 a2 = true) (h : fL_law_b808 xs n rec18 a1 a2 x3 w = some ()) : V x 808 [some (.ref b), some (.ref a1), some (.ref a2), some (.int x3)] [] (Rp (xD x) w) (cs + 60) (ss + 1184) := by
  unfold fL_law_b808 at h
  refine v_iinc (pc' := 811) (w0 := (x3 + 6)) (L' := [some (.ref b), some (.ref a1), some (.ref a2), some (.int (x3 + 6))]) hx dL_law_808 rfl rfl rfl rfl ?_
  refine v_goto (tgt := 18) hx dL_law_811 (by decide) ?_
  exact hrec18 a1 a2 (x3 + 6) w h hl1 hl2
theorem vL_law_b18 {x : CT} {xs : Nat → Int32} {n b : Nat} (hX : LX x b n xs) (hx : CX x cL_law RL room_1 (some .boolean)) (hq : RLw x b) {rec18 : Nat → Nat → Int32 → Wd → Option (Unit)} {a1 : Nat} {a2 : Nat} {x3 : Int32} {w : Wd} {cs ss N : Nat} (hcs : cs + 60 * (N + 1) ≤ 600000) (hss : ss + 1184 * (N + 1) ≤ 7302250) (hrec18 : ∀ (a1 : Nat) (a2 : Nat) (x3 : Int32) (w : Wd), rec18 a1 a2 x3 w = some () → (zL w 5 a1 = true) → (zL w 6 a2 = true) → V x 18 [some (.ref b), some (.ref a1), some (.ref a2), some (.int x3)] [] (Rp (xD x) w) (cs + 60) (ss + 1184)) (hl1 : zL w 5 a1 = true) (hl2 : zL w 6 a2 = true) (h : fL_law_b18 xs n rec18 a1 a2 x3 w = some ()) : V x 18 [some (.ref b), some (.ref a1), some (.ref a2), some (.int x3)] [] (Rp (xD x) w) cs ss := by
  unfold fL_law_b18 at h
  refine v_iload_n (pc' := 19) hx dL_law_18 rfl rfl ?_
  refine v_aload_n (pc' := 20) hx dL_law_19 rfl rfl ?_
  refine v_slen (pc' := 21) hx hX dL_law_20 rfl ?_
  refine v_bipush (pc' := 23) (v := 6) hx dL_law_21 (by decide) rfl ?_
  refine v_isub (pc' := 24) hx dL_law_23 rfl ?_
  refine v_icmp_gt (tgt := 814) (pc' := 27) hx dL_law_24 (by decide) rfl (fun hc_1 => ?_) (fun hc_1 => ?_)
  · rw [if_pos hc_1] at h
    refine v_iconst (pc' := 815) (v := 1) hx dL_law_814 (by decide) rfl ?_
    exact v_lret hx hq (by omega) (by omega) dL_law_815
  · rw [if_neg hc_1] at h
    refine v_aload_n (pc' := 28) hx dL_law_27 rfl rfl ?_
    refine v_iload_n (pc' := 29) hx dL_law_28 rfl rfl ?_
    replace h := ckp_inv h; obtain ⟨hk_2, h⟩ := h
    refine v_sld (pc' := 30) hx hX hk_2 dL_law_29 rfl ?_
    refine v_bipush (pc' := 32) (v := 31) hx dL_law_30 (by decide) rfl ?_
    refine v_iand (pc' := 33) hx dL_law_32 rfl ?_
    by_cases hc_3 : ((xs (x3 : Int32).toNatClampNeg) &&& 31) = 0
    · rw [if_pos hc_3] at h
      refine v_tblIn (tgt := 128) (off := 95) hx dL_law_33 (by rw [hc_3]; decide) (by rw [hc_3]; decide) (by rw [hc_3]; decide) (by decide) ?_
      refine v_aload_n (pc' := 129) hx dL_law_128 rfl rfl ?_
      refine v_aload_n (pc' := 130) hx dL_law_129 rfl rfl ?_
      refine v_iload_n (pc' := 131) hx dL_law_130 rfl rfl ?_
      refine v_iconst (pc' := 132) (v := 1) hx dL_law_131 (by decide) rfl ?_
      refine v_iadd (pc' := 133) hx dL_law_132 rfl ?_
      replace h := ckp_inv h; obtain ⟨hk_4, h⟩ := h
      refine v_sld (pc' := 134) hx hX hk_4 dL_law_133 rfl ?_
      refine v_aload_n (pc' := 135) hx dL_law_134 rfl rfl ?_
      refine v_iload_n (pc' := 136) hx dL_law_135 rfl rfl ?_
      refine v_iconst (pc' := 137) (v := 2) hx dL_law_136 (by decide) rfl ?_
      refine v_iadd (pc' := 138) hx dL_law_137 rfl ?_
      replace h := ckp_inv h; obtain ⟨hk_5, h⟩ := h
      refine v_sld (pc' := 139) hx hX hk_5 dL_law_138 rfl ?_
      refine v_aload_n (pc' := 140) hx dL_law_139 rfl rfl ?_
      refine v_iload_n (pc' := 141) hx dL_law_140 rfl rfl ?_
      refine v_iconst (pc' := 142) (v := 3) hx dL_law_141 (by decide) rfl ?_
      refine v_iadd (pc' := 143) hx dL_law_142 rfl ?_
      replace h := ckp_inv h; obtain ⟨hk_6, h⟩ := h
      refine v_sld (pc' := 144) hx hX hk_6 dL_law_143 rfl ?_
      refine v_aload_n (pc' := 145) hx dL_law_144 rfl rfl ?_
      refine v_iload_n (pc' := 146) hx dL_law_145 rfl rfl ?_
      refine v_iconst (pc' := 147) (v := 4) hx dL_law_146 (by decide) rfl ?_
      refine v_iadd (pc' := 148) hx dL_law_147 rfl ?_
      replace h := ckp_inv h; obtain ⟨hk_7, h⟩ := h
      refine v_sld (pc' := 149) hx hX hk_7 dL_law_148 rfl ?_
      refine v_aload_n (pc' := 150) hx dL_law_149 rfl rfl ?_
      refine v_iload_n (pc' := 151) hx dL_law_150 rfl rfl ?_
      refine v_iconst (pc' := 152) (v := 5) hx dL_law_151 (by decide) rfl ?_
      refine v_iadd (pc' := 153) hx dL_law_152 rfl ?_
      replace h := ckp_inv h; obtain ⟨hk_8, h⟩ := h
      refine v_sld (pc' := 154) hx hX hk_8 dL_law_153 rfl ?_
      replace h := bd2_inv h; obtain ⟨y_10, w_11, hcl_9, h⟩ := h
      refine v_wf (fun hwf_12 => ?_)
      refine v_callVi (pc' := 157) (w' := w_11) (r := y_10) (ci := 5) (b := a1) (As := [.int (xs ((x3 + 1) : Int32).toNatClampNeg), .int (xs ((x3 + 2) : Int32).toNatClampNeg), .int (xs ((x3 + 3) : Int32).toNatClampNeg), .int (xs ((x3 + 4) : Int32).toNatClampNeg), .int (xs ((x3 + 5) : Int32).toNatClampNeg)]) (rest := []) hx hl1 (fun G sz hR => ctX5_feed (xl x) (xD x) w G sz hR a1 (xs ((x3 + 1) : Int32).toNatClampNeg) (xs ((x3 + 2) : Int32).toNatClampNeg) (xs ((x3 + 3) : Int32).toNatClampNeg) (xs ((x3 + 4) : Int32).toNatClampNeg) (xs ((x3 + 5) : Int32).toNatClampNeg) hl1 hcl_9) rfl my_X5_feed ml_L_13 ⟨by decide, by decide⟩ ⟨by have e1 : rmX5_feed.cells = 0 := rfl; have e2 : room_1.cells = 600000 := rfl; omega, by have e1 : rmX5_feed.slots = 0 := rfl; have e2 : room_1.slots = 7302250 := rfl; omega⟩ rfl rfl (Nat.le_of_ble_eq_true rfl) dL_law_154 rfl ?_
      refine V.wide (cs' := cs) (ss' := ss) (Nat.le_of_eq rfl) (Nat.le_of_eq rfl) ?_
      have hm_14 := kX5_feed hcl_9 hwf_12
      have hl_15 : zL w_11 5 a1 = true := (hm_14.2 _ _ hl1).1
      have hl_16 : zL w_11 6 a2 = true := (hm_14.2 _ _ hl2).1
      refine v_aload_n (pc' := 158) hx dL_law_157 rfl rfl ?_
      refine v_aload_n (pc' := 159) hx dL_law_158 rfl rfl ?_
      refine v_iload_n (pc' := 160) hx dL_law_159 rfl rfl ?_
      refine v_iconst (pc' := 161) (v := 1) hx dL_law_160 (by decide) rfl ?_
      refine v_iadd (pc' := 162) hx dL_law_161 rfl ?_
      replace h := ckp_inv h; obtain ⟨hk_17, h⟩ := h
      refine v_sld (pc' := 163) hx hX hk_17 dL_law_162 rfl ?_
      refine v_aload_n (pc' := 164) hx dL_law_163 rfl rfl ?_
      refine v_iload_n (pc' := 165) hx dL_law_164 rfl rfl ?_
      refine v_iconst (pc' := 166) (v := 2) hx dL_law_165 (by decide) rfl ?_
      refine v_iadd (pc' := 167) hx dL_law_166 rfl ?_
      replace h := ckp_inv h; obtain ⟨hk_18, h⟩ := h
      refine v_sld (pc' := 168) hx hX hk_18 dL_law_167 rfl ?_
      refine v_aload_n (pc' := 169) hx dL_law_168 rfl rfl ?_
      refine v_iload_n (pc' := 170) hx dL_law_169 rfl rfl ?_
      refine v_iconst (pc' := 171) (v := 3) hx dL_law_170 (by decide) rfl ?_
      refine v_iadd (pc' := 172) hx dL_law_171 rfl ?_
      replace h := ckp_inv h; obtain ⟨hk_19, h⟩ := h
      refine v_sld (pc' := 173) hx hX hk_19 dL_law_172 rfl ?_
      refine v_aload_n (pc' := 174) hx dL_law_173 rfl rfl ?_
      refine v_iload_n (pc' := 175) hx dL_law_174 rfl rfl ?_
      refine v_iconst (pc' := 176) (v := 4) hx dL_law_175 (by decide) rfl ?_
      refine v_iadd (pc' := 177) hx dL_law_176 rfl ?_
      replace h := ckp_inv h; obtain ⟨hk_20, h⟩ := h
      refine v_sld (pc' := 178) hx hX hk_20 dL_law_177 rfl ?_
      refine v_aload_n (pc' := 179) hx dL_law_178 rfl rfl ?_
      refine v_iload_n (pc' := 180) hx dL_law_179 rfl rfl ?_
      refine v_iconst (pc' := 181) (v := 5) hx dL_law_180 (by decide) rfl ?_
      refine v_iadd (pc' := 182) hx dL_law_181 rfl ?_
      replace h := ckp_inv h; obtain ⟨hk_21, h⟩ := h
      refine v_sld (pc' := 183) hx hX hk_21 dL_law_182 rfl ?_
      replace h := bd2_inv h; obtain ⟨y_23, w_24, hcl_22, h⟩ := h
      refine v_callVi (pc' := 186) (w' := w_24) (r := y_23) (ci := 6) (b := a2) (As := [.int (xs ((x3 + 1) : Int32).toNatClampNeg), .int (xs ((x3 + 2) : Int32).toNatClampNeg), .int (xs ((x3 + 3) : Int32).toNatClampNeg), .int (xs ((x3 + 4) : Int32).toNatClampNeg), .int (xs ((x3 + 5) : Int32).toNatClampNeg)]) (rest := [.int y_10]) hx hl_16 (fun G sz hR => ctX6_feed (xl x) (xD x) w_11 G sz hR a2 (xs ((x3 + 1) : Int32).toNatClampNeg) (xs ((x3 + 2) : Int32).toNatClampNeg) (xs ((x3 + 3) : Int32).toNatClampNeg) (xs ((x3 + 4) : Int32).toNatClampNeg) (xs ((x3 + 5) : Int32).toNatClampNeg) hl_16 hcl_22) rfl my_X6_feed ml_L_17 ⟨by decide, by decide⟩ ⟨by have e1 : rmX6_feed.cells = 0 := rfl; have e2 : room_1.cells = 600000 := rfl; omega, by have e1 : rmX6_feed.slots = 0 := rfl; have e2 : room_1.slots = 7302250 := rfl; omega⟩ rfl rfl (Nat.le_of_ble_eq_true rfl) dL_law_183 rfl ?_
      refine V.wide (cs' := cs) (ss' := ss) (Nat.le_of_eq rfl) (Nat.le_of_eq rfl) ?_
      have hm_26 := kX6_feed hcl_22 hm_14.1
      have hl_27 : zL w_24 5 a1 = true := (hm_26.2 _ _ hl_15).1
      have hl_28 : zL w_24 6 a2 = true := (hm_26.2 _ _ hl_16).1
      refine v_icmp_eq (tgt := 808) (pc' := 189) hx dL_law_186 (by decide) rfl (fun hc_29 => ?_) (fun hc_29 => ?_)
      · rw [if_pos hc_29] at h
        refine V.wide (cs' := (cs + 60)) (ss' := (ss + 1184)) (by omega) (by omega) ?_
        exact vL_law_b808 hX hx hq hcs hss hrec18 hl_27 hl_28 h
      · rw [if_neg hc_29] at h
        refine v_iconst (pc' := 190) (v := 0) hx dL_law_189 (by decide) rfl ?_
        cases h
    rw [if_neg hc_3] at h
    by_cases hc_30 : ((xs (x3 : Int32).toNatClampNeg) &&& 31) = 1
    · rw [if_pos hc_30] at h
      refine v_tblIn (tgt := 191) (off := 158) hx dL_law_33 (by rw [hc_30]; decide) (by rw [hc_30]; decide) (by rw [hc_30]; decide) (by decide) ?_
      refine v_aload_n (pc' := 192) hx dL_law_191 rfl rfl ?_
      refine v_aload_n (pc' := 193) hx dL_law_192 rfl rfl ?_
      refine v_iload_n (pc' := 194) hx dL_law_193 rfl rfl ?_
      refine v_iconst (pc' := 195) (v := 1) hx dL_law_194 (by decide) rfl ?_
      refine v_iadd (pc' := 196) hx dL_law_195 rfl ?_
      replace h := ckp_inv h; obtain ⟨hk_31, h⟩ := h
      refine v_sld (pc' := 197) hx hX hk_31 dL_law_196 rfl ?_
      replace h := bd2_inv h; obtain ⟨y_33, w_34, hcl_32, h⟩ := h
      refine v_wf (fun hwf_35 => ?_)
      refine v_callVi (pc' := 200) (w' := w_34) (r := y_33) (ci := 5) (b := a1) (As := [.int (xs ((x3 + 1) : Int32).toNatClampNeg)]) (rest := []) hx hl1 (fun G sz hR => ctX5_picture (xl x) (xD x) w G sz hR a1 (xs ((x3 + 1) : Int32).toNatClampNeg) hl1 hcl_32) rfl my_X5_picture ml_L_18 ⟨by decide, by decide⟩ ⟨by have e1 : rmX5_picture.cells = 60 := rfl; have e2 : room_1.cells = 600000 := rfl; omega, by have e1 : rmX5_picture.slots = 1184 := rfl; have e2 : room_1.slots = 7302250 := rfl; omega⟩ rfl rfl (Nat.le_of_ble_eq_true rfl) dL_law_197 rfl ?_
      refine V.wide (cs' := (cs + 60)) (ss' := (ss + 1184)) (Nat.le_of_eq rfl) (Nat.le_of_eq rfl) ?_
      have hm_37 := kX5_picture hcl_32 hwf_35
      have hl_38 : zL w_34 5 a1 = true := (hm_37.2 _ _ hl1).1
      have hl_39 : zL w_34 6 a2 = true := (hm_37.2 _ _ hl2).1
      refine v_aload_n (pc' := 201) hx dL_law_200 rfl rfl ?_
      refine v_aload_n (pc' := 202) hx dL_law_201 rfl rfl ?_
      refine v_iload_n (pc' := 203) hx dL_law_202 rfl rfl ?_
      refine v_iconst (pc' := 204) (v := 1) hx dL_law_203 (by decide) rfl ?_
      refine v_iadd (pc' := 205) hx dL_law_204 rfl ?_
      replace h := ckp_inv h; obtain ⟨hk_40, h⟩ := h
      refine v_sld (pc' := 206) hx hX hk_40 dL_law_205 rfl ?_
      replace h := bd2_inv h; obtain ⟨y_42, w_43, hcl_41, h⟩ := h
      refine v_callVi (pc' := 209) (w' := w_43) (r := y_42) (ci := 6) (b := a2) (As := [.int (xs ((x3 + 1) : Int32).toNatClampNeg)]) (rest := [.int y_33]) hx hl_39 (fun G sz hR => ctX6_picture (xl x) (xD x) w_34 G sz hR a2 (xs ((x3 + 1) : Int32).toNatClampNeg) hl_39 hcl_41) rfl my_X6_picture ml_L_22 ⟨by decide, by decide⟩ ⟨by have e1 : rmX6_picture.cells = 0 := rfl; have e2 : room_1.cells = 600000 := rfl; omega, by have e1 : rmX6_picture.slots = 0 := rfl; have e2 : room_1.slots = 7302250 := rfl; omega⟩ rfl rfl (Nat.le_of_ble_eq_true rfl) dL_law_206 rfl ?_
      refine V.wide (cs' := (cs + 60)) (ss' := (ss + 1184)) (Nat.le_of_eq rfl) (Nat.le_of_eq rfl) ?_
      have hm_45 := kX6_picture hcl_41 hm_37.1
      have hl_46 : zL w_43 5 a1 = true := (hm_45.2 _ _ hl_38).1
      have hl_47 : zL w_43 6 a2 = true := (hm_45.2 _ _ hl_39).1
      refine v_icmp_eq (tgt := 808) (pc' := 212) hx dL_law_209 (by decide) rfl (fun hc_48 => ?_) (fun hc_48 => ?_)
      · rw [if_pos hc_48] at h
        exact vL_law_b808 hX hx hq hcs hss hrec18 hl_46 hl_47 h
      · rw [if_neg hc_48] at h
        refine v_iconst (pc' := 213) (v := 0) hx dL_law_212 (by decide) rfl ?_
        cases h
    rw [if_neg hc_30] at h
    by_cases hc_49 : ((xs (x3 : Int32).toNatClampNeg) &&& 31) = 2
    · rw [if_pos hc_49] at h
      refine v_tblIn (tgt := 214) (off := 181) hx dL_law_33 (by rw [hc_49]; decide) (by rw [hc_49]; decide) (by rw [hc_49]; decide) (by decide) ?_
      refine v_aload_n (pc' := 215) hx dL_law_214 rfl rfl ?_
      refine v_aload_n (pc' := 216) hx dL_law_215 rfl rfl ?_
      refine v_iload_n (pc' := 217) hx dL_law_216 rfl rfl ?_
      refine v_iconst (pc' := 218) (v := 1) hx dL_law_217 (by decide) rfl ?_
      refine v_iadd (pc' := 219) hx dL_law_218 rfl ?_
      replace h := ckp_inv h; obtain ⟨hk_50, h⟩ := h
      refine v_sld (pc' := 220) hx hX hk_50 dL_law_219 rfl ?_
      replace h := bd_inv h; obtain ⟨y_52, hcl_51, h⟩ := h
      refine v_callVi (pc' := 223) (w' := w) (r := y_52) (ci := 5) (b := a1) (As := [.int (xs ((x3 + 1) : Int32).toNatClampNeg)]) (rest := []) hx hl1 (fun G sz hR => ctX5_torn (xl x) (xD x) w G sz hR a1 (xs ((x3 + 1) : Int32).toNatClampNeg) hl1 hcl_51) rfl my_X5_torn ml_L_23 ⟨by decide, by decide⟩ ⟨by have e1 : rmX5_torn.cells = 0 := rfl; have e2 : room_1.cells = 600000 := rfl; omega, by have e1 : rmX5_torn.slots = 0 := rfl; have e2 : room_1.slots = 7302250 := rfl; omega⟩ rfl rfl (Nat.le_of_ble_eq_true rfl) dL_law_220 rfl ?_
      refine V.wide (cs' := cs) (ss' := ss) (Nat.le_of_eq rfl) (Nat.le_of_eq rfl) ?_
      refine v_aload_n (pc' := 224) hx dL_law_223 rfl rfl ?_
      refine v_aload_n (pc' := 225) hx dL_law_224 rfl rfl ?_
      refine v_iload_n (pc' := 226) hx dL_law_225 rfl rfl ?_
      refine v_iconst (pc' := 227) (v := 1) hx dL_law_226 (by decide) rfl ?_
      refine v_iadd (pc' := 228) hx dL_law_227 rfl ?_
      replace h := ckp_inv h; obtain ⟨hk_54, h⟩ := h
      refine v_sld (pc' := 229) hx hX hk_54 dL_law_228 rfl ?_
      replace h := bd_inv h; obtain ⟨y_56, hcl_55, h⟩ := h
      refine v_callVi (pc' := 232) (w' := w) (r := y_56) (ci := 6) (b := a2) (As := [.int (xs ((x3 + 1) : Int32).toNatClampNeg)]) (rest := [.int y_52]) hx hl2 (fun G sz hR => ctX6_torn (xl x) (xD x) w G sz hR a2 (xs ((x3 + 1) : Int32).toNatClampNeg) hl2 hcl_55) rfl my_X6_torn ml_L_26 ⟨by decide, by decide⟩ ⟨by have e1 : rmX6_torn.cells = 0 := rfl; have e2 : room_1.cells = 600000 := rfl; omega, by have e1 : rmX6_torn.slots = 0 := rfl; have e2 : room_1.slots = 7302250 := rfl; omega⟩ rfl rfl (Nat.le_of_ble_eq_true rfl) dL_law_229 rfl ?_
      refine V.wide (cs' := cs) (ss' := ss) (Nat.le_of_eq rfl) (Nat.le_of_eq rfl) ?_
      refine v_icmp_eq (tgt := 808) (pc' := 235) hx dL_law_232 (by decide) rfl (fun hc_58 => ?_) (fun hc_58 => ?_)
      · rw [if_pos hc_58] at h
        refine V.wide (cs' := (cs + 60)) (ss' := (ss + 1184)) (by omega) (by omega) ?_
        exact vL_law_b808 hX hx hq hcs hss hrec18 hl1 hl2 h
      · rw [if_neg hc_58] at h
        refine v_iconst (pc' := 236) (v := 0) hx dL_law_235 (by decide) rfl ?_
        cases h
    rw [if_neg hc_49] at h
    by_cases hc_59 : ((xs (x3 : Int32).toNatClampNeg) &&& 31) = 3
    · rw [if_pos hc_59] at h
      refine v_tblIn (tgt := 237) (off := 204) hx dL_law_33 (by rw [hc_59]; decide) (by rw [hc_59]; decide) (by rw [hc_59]; decide) (by decide) ?_
      refine v_aload_n (pc' := 238) hx dL_law_237 rfl rfl ?_
      refine v_aload_n (pc' := 239) hx dL_law_238 rfl rfl ?_
      refine v_iload_n (pc' := 240) hx dL_law_239 rfl rfl ?_
      refine v_iconst (pc' := 241) (v := 1) hx dL_law_240 (by decide) rfl ?_
      refine v_iadd (pc' := 242) hx dL_law_241 rfl ?_
      replace h := ckp_inv h; obtain ⟨hk_60, h⟩ := h
      refine v_sld (pc' := 243) hx hX hk_60 dL_law_242 rfl ?_
      refine v_aload_n (pc' := 244) hx dL_law_243 rfl rfl ?_
      refine v_iload_n (pc' := 245) hx dL_law_244 rfl rfl ?_
      refine v_iconst (pc' := 246) (v := 2) hx dL_law_245 (by decide) rfl ?_
      refine v_iadd (pc' := 247) hx dL_law_246 rfl ?_
      replace h := ckp_inv h; obtain ⟨hk_61, h⟩ := h
      refine v_sld (pc' := 248) hx hX hk_61 dL_law_247 rfl ?_
      refine v_aload_n (pc' := 249) hx dL_law_248 rfl rfl ?_
      refine v_iload_n (pc' := 250) hx dL_law_249 rfl rfl ?_
      refine v_iconst (pc' := 251) (v := 3) hx dL_law_250 (by decide) rfl ?_
      refine v_iadd (pc' := 252) hx dL_law_251 rfl ?_
      replace h := ckp_inv h; obtain ⟨hk_62, h⟩ := h
      refine v_sld (pc' := 253) hx hX hk_62 dL_law_252 rfl ?_
      replace h := bd_inv h; obtain ⟨y_64, hcl_63, h⟩ := h
      refine v_callVi (pc' := 256) (w' := w) (r := y_64) (ci := 5) (b := a1) (As := [.int (xs ((x3 + 1) : Int32).toNatClampNeg), .int (xs ((x3 + 2) : Int32).toNatClampNeg), .int (xs ((x3 + 3) : Int32).toNatClampNeg)]) (rest := []) hx hl1 (fun G sz hR => ctX5_look (xl x) (xD x) w G sz hR a1 (xs ((x3 + 1) : Int32).toNatClampNeg) (xs ((x3 + 2) : Int32).toNatClampNeg) (xs ((x3 + 3) : Int32).toNatClampNeg) hl1 hcl_63) rfl my_X5_look ml_L_27 ⟨by decide, by decide⟩ ⟨by have e1 : rmX5_look.cells = 0 := rfl; have e2 : room_1.cells = 600000 := rfl; omega, by have e1 : rmX5_look.slots = 0 := rfl; have e2 : room_1.slots = 7302250 := rfl; omega⟩ rfl rfl (Nat.le_of_ble_eq_true rfl) dL_law_253 rfl ?_
      refine V.wide (cs' := cs) (ss' := ss) (Nat.le_of_eq rfl) (Nat.le_of_eq rfl) ?_
      refine v_aload_n (pc' := 257) hx dL_law_256 rfl rfl ?_
      refine v_aload_n (pc' := 258) hx dL_law_257 rfl rfl ?_
      refine v_iload_n (pc' := 259) hx dL_law_258 rfl rfl ?_
      refine v_iconst (pc' := 260) (v := 1) hx dL_law_259 (by decide) rfl ?_
      refine v_iadd (pc' := 261) hx dL_law_260 rfl ?_
      replace h := ckp_inv h; obtain ⟨hk_66, h⟩ := h
      refine v_sld (pc' := 262) hx hX hk_66 dL_law_261 rfl ?_
      refine v_aload_n (pc' := 263) hx dL_law_262 rfl rfl ?_
      refine v_iload_n (pc' := 264) hx dL_law_263 rfl rfl ?_
      refine v_iconst (pc' := 265) (v := 2) hx dL_law_264 (by decide) rfl ?_
      refine v_iadd (pc' := 266) hx dL_law_265 rfl ?_
      replace h := ckp_inv h; obtain ⟨hk_67, h⟩ := h
      refine v_sld (pc' := 267) hx hX hk_67 dL_law_266 rfl ?_
      refine v_aload_n (pc' := 268) hx dL_law_267 rfl rfl ?_
      refine v_iload_n (pc' := 269) hx dL_law_268 rfl rfl ?_
      refine v_iconst (pc' := 270) (v := 3) hx dL_law_269 (by decide) rfl ?_
      refine v_iadd (pc' := 271) hx dL_law_270 rfl ?_
      replace h := ckp_inv h; obtain ⟨hk_68, h⟩ := h
      refine v_sld (pc' := 272) hx hX hk_68 dL_law_271 rfl ?_
      replace h := bd_inv h; obtain ⟨y_70, hcl_69, h⟩ := h
      refine v_callVi (pc' := 275) (w' := w) (r := y_70) (ci := 6) (b := a2) (As := [.int (xs ((x3 + 1) : Int32).toNatClampNeg), .int (xs ((x3 + 2) : Int32).toNatClampNeg), .int (xs ((x3 + 3) : Int32).toNatClampNeg)]) (rest := [.int y_64]) hx hl2 (fun G sz hR => ctX6_look (xl x) (xD x) w G sz hR a2 (xs ((x3 + 1) : Int32).toNatClampNeg) (xs ((x3 + 2) : Int32).toNatClampNeg) (xs ((x3 + 3) : Int32).toNatClampNeg) hl2 hcl_69) rfl my_X6_look ml_L_31 ⟨by decide, by decide⟩ ⟨by have e1 : rmX6_look.cells = 0 := rfl; have e2 : room_1.cells = 600000 := rfl; omega, by have e1 : rmX6_look.slots = 0 := rfl; have e2 : room_1.slots = 7302250 := rfl; omega⟩ rfl rfl (Nat.le_of_ble_eq_true rfl) dL_law_272 rfl ?_
      refine V.wide (cs' := cs) (ss' := ss) (Nat.le_of_eq rfl) (Nat.le_of_eq rfl) ?_
      refine v_icmp_eq (tgt := 808) (pc' := 278) hx dL_law_275 (by decide) rfl (fun hc_72 => ?_) (fun hc_72 => ?_)
      · rw [if_pos hc_72] at h
        refine V.wide (cs' := (cs + 60)) (ss' := (ss + 1184)) (by omega) (by omega) ?_
        exact vL_law_b808 hX hx hq hcs hss hrec18 hl1 hl2 h
      · rw [if_neg hc_72] at h
        refine v_iconst (pc' := 279) (v := 0) hx dL_law_278 (by decide) rfl ?_
        cases h
    rw [if_neg hc_59] at h
    by_cases hc_73 : ((xs (x3 : Int32).toNatClampNeg) &&& 31) = 4
    · rw [if_pos hc_73] at h
      refine v_tblIn (tgt := 280) (off := 247) hx dL_law_33 (by rw [hc_73]; decide) (by rw [hc_73]; decide) (by rw [hc_73]; decide) (by decide) ?_
      refine v_aload_n (pc' := 281) hx dL_law_280 rfl rfl ?_
      refine v_aload_n (pc' := 282) hx dL_law_281 rfl rfl ?_
      refine v_iload_n (pc' := 283) hx dL_law_282 rfl rfl ?_
      refine v_iconst (pc' := 284) (v := 1) hx dL_law_283 (by decide) rfl ?_
      refine v_iadd (pc' := 285) hx dL_law_284 rfl ?_
      replace h := ckp_inv h; obtain ⟨hk_74, h⟩ := h
      refine v_sld (pc' := 286) hx hX hk_74 dL_law_285 rfl ?_
      refine v_aload_n (pc' := 287) hx dL_law_286 rfl rfl ?_
      refine v_iload_n (pc' := 288) hx dL_law_287 rfl rfl ?_
      refine v_iconst (pc' := 289) (v := 2) hx dL_law_288 (by decide) rfl ?_
      refine v_iadd (pc' := 290) hx dL_law_289 rfl ?_
      replace h := ckp_inv h; obtain ⟨hk_75, h⟩ := h
      refine v_sld (pc' := 291) hx hX hk_75 dL_law_290 rfl ?_
      replace h := bd_inv h; obtain ⟨y_77, hcl_76, h⟩ := h
      refine v_callVi (pc' := 294) (w' := w) (r := y_77) (ci := 5) (b := a1) (As := [.int (xs ((x3 + 1) : Int32).toNatClampNeg), .int (xs ((x3 + 2) : Int32).toNatClampNeg)]) (rest := []) hx hl1 (fun G sz hR => ctX5_holder (xl x) (xD x) w G sz hR a1 (xs ((x3 + 1) : Int32).toNatClampNeg) (xs ((x3 + 2) : Int32).toNatClampNeg) hl1 hcl_76) rfl my_X5_holder ml_L_32 ⟨by decide, by decide⟩ ⟨by have e1 : rmX5_holder.cells = 0 := rfl; have e2 : room_1.cells = 600000 := rfl; omega, by have e1 : rmX5_holder.slots = 0 := rfl; have e2 : room_1.slots = 7302250 := rfl; omega⟩ rfl rfl (Nat.le_of_ble_eq_true rfl) dL_law_291 rfl ?_
      refine V.wide (cs' := cs) (ss' := ss) (Nat.le_of_eq rfl) (Nat.le_of_eq rfl) ?_
      refine v_aload_n (pc' := 295) hx dL_law_294 rfl rfl ?_
      refine v_aload_n (pc' := 296) hx dL_law_295 rfl rfl ?_
      refine v_iload_n (pc' := 297) hx dL_law_296 rfl rfl ?_
      refine v_iconst (pc' := 298) (v := 1) hx dL_law_297 (by decide) rfl ?_
      refine v_iadd (pc' := 299) hx dL_law_298 rfl ?_
      replace h := ckp_inv h; obtain ⟨hk_79, h⟩ := h
      refine v_sld (pc' := 300) hx hX hk_79 dL_law_299 rfl ?_
      refine v_aload_n (pc' := 301) hx dL_law_300 rfl rfl ?_
      refine v_iload_n (pc' := 302) hx dL_law_301 rfl rfl ?_
      refine v_iconst (pc' := 303) (v := 2) hx dL_law_302 (by decide) rfl ?_
      refine v_iadd (pc' := 304) hx dL_law_303 rfl ?_
      replace h := ckp_inv h; obtain ⟨hk_80, h⟩ := h
      refine v_sld (pc' := 305) hx hX hk_80 dL_law_304 rfl ?_
      replace h := bd_inv h; obtain ⟨y_82, hcl_81, h⟩ := h
      refine v_callVi (pc' := 308) (w' := w) (r := y_82) (ci := 6) (b := a2) (As := [.int (xs ((x3 + 1) : Int32).toNatClampNeg), .int (xs ((x3 + 2) : Int32).toNatClampNeg)]) (rest := [.int y_77]) hx hl2 (fun G sz hR => ctX6_holder (xl x) (xD x) w G sz hR a2 (xs ((x3 + 1) : Int32).toNatClampNeg) (xs ((x3 + 2) : Int32).toNatClampNeg) hl2 hcl_81) rfl my_X6_holder ml_L_36 ⟨by decide, by decide⟩ ⟨by have e1 : rmX6_holder.cells = 0 := rfl; have e2 : room_1.cells = 600000 := rfl; omega, by have e1 : rmX6_holder.slots = 0 := rfl; have e2 : room_1.slots = 7302250 := rfl; omega⟩ rfl rfl (Nat.le_of_ble_eq_true rfl) dL_law_305 rfl ?_
      refine V.wide (cs' := cs) (ss' := ss) (Nat.le_of_eq rfl) (Nat.le_of_eq rfl) ?_
      refine v_icmp_eq (tgt := 808) (pc' := 311) hx dL_law_308 (by decide) rfl (fun hc_84 => ?_) (fun hc_84 => ?_)
      · rw [if_pos hc_84] at h
        refine V.wide (cs' := (cs + 60)) (ss' := (ss + 1184)) (by omega) (by omega) ?_
        exact vL_law_b808 hX hx hq hcs hss hrec18 hl1 hl2 h
      · rw [if_neg hc_84] at h
        refine v_iconst (pc' := 312) (v := 0) hx dL_law_311 (by decide) rfl ?_
        cases h
    rw [if_neg hc_73] at h
    by_cases hc_85 : ((xs (x3 : Int32).toNatClampNeg) &&& 31) = 5
    · rw [if_pos hc_85] at h
      refine v_tblIn (tgt := 313) (off := 280) hx dL_law_33 (by rw [hc_85]; decide) (by rw [hc_85]; decide) (by rw [hc_85]; decide) (by decide) ?_
      refine v_aload_n (pc' := 314) hx dL_law_313 rfl rfl ?_
      refine v_aload_n (pc' := 315) hx dL_law_314 rfl rfl ?_
      refine v_iload_n (pc' := 316) hx dL_law_315 rfl rfl ?_
      refine v_iconst (pc' := 317) (v := 1) hx dL_law_316 (by decide) rfl ?_
      refine v_iadd (pc' := 318) hx dL_law_317 rfl ?_
      replace h := ckp_inv h; obtain ⟨hk_86, h⟩ := h
      refine v_sld (pc' := 319) hx hX hk_86 dL_law_318 rfl ?_
      replace h := bd_inv h; obtain ⟨y_88, hcl_87, h⟩ := h
      refine v_callVi (pc' := 322) (w' := w) (r := y_88) (ci := 5) (b := a1) (As := [.int (xs ((x3 + 1) : Int32).toNatClampNeg)]) (rest := []) hx hl1 (fun G sz hR => ctX5_rings (xl x) (xD x) w G sz hR a1 (xs ((x3 + 1) : Int32).toNatClampNeg) hl1 hcl_87) rfl my_X5_rings ml_L_37 ⟨by decide, by decide⟩ ⟨by have e1 : rmX5_rings.cells = 0 := rfl; have e2 : room_1.cells = 600000 := rfl; omega, by have e1 : rmX5_rings.slots = 0 := rfl; have e2 : room_1.slots = 7302250 := rfl; omega⟩ rfl rfl (Nat.le_of_ble_eq_true rfl) dL_law_319 rfl ?_
      refine V.wide (cs' := cs) (ss' := ss) (Nat.le_of_eq rfl) (Nat.le_of_eq rfl) ?_
      refine v_aload_n (pc' := 323) hx dL_law_322 rfl rfl ?_
      refine v_aload_n (pc' := 324) hx dL_law_323 rfl rfl ?_
      refine v_iload_n (pc' := 325) hx dL_law_324 rfl rfl ?_
      refine v_iconst (pc' := 326) (v := 1) hx dL_law_325 (by decide) rfl ?_
      refine v_iadd (pc' := 327) hx dL_law_326 rfl ?_
      replace h := ckp_inv h; obtain ⟨hk_90, h⟩ := h
      refine v_sld (pc' := 328) hx hX hk_90 dL_law_327 rfl ?_
      replace h := bd_inv h; obtain ⟨y_92, hcl_91, h⟩ := h
      refine v_callVi (pc' := 331) (w' := w) (r := y_92) (ci := 6) (b := a2) (As := [.int (xs ((x3 + 1) : Int32).toNatClampNeg)]) (rest := [.int y_88]) hx hl2 (fun G sz hR => ctX6_rings (xl x) (xD x) w G sz hR a2 (xs ((x3 + 1) : Int32).toNatClampNeg) hl2 hcl_91) rfl my_X6_rings ml_L_40 ⟨by decide, by decide⟩ ⟨by have e1 : rmX6_rings.cells = 0 := rfl; have e2 : room_1.cells = 600000 := rfl; omega, by have e1 : rmX6_rings.slots = 0 := rfl; have e2 : room_1.slots = 7302250 := rfl; omega⟩ rfl rfl (Nat.le_of_ble_eq_true rfl) dL_law_328 rfl ?_
      refine V.wide (cs' := cs) (ss' := ss) (Nat.le_of_eq rfl) (Nat.le_of_eq rfl) ?_
      refine v_icmp_eq (tgt := 808) (pc' := 334) hx dL_law_331 (by decide) rfl (fun hc_94 => ?_) (fun hc_94 => ?_)
      · rw [if_pos hc_94] at h
        refine V.wide (cs' := (cs + 60)) (ss' := (ss + 1184)) (by omega) (by omega) ?_
        exact vL_law_b808 hX hx hq hcs hss hrec18 hl1 hl2 h
      · rw [if_neg hc_94] at h
        refine v_iconst (pc' := 335) (v := 0) hx dL_law_334 (by decide) rfl ?_
        cases h
    rw [if_neg hc_85] at h
    by_cases hc_95 : ((xs (x3 : Int32).toNatClampNeg) &&& 31) = 6
    · rw [if_pos hc_95] at h
      refine v_tblIn (tgt := 336) (off := 303) hx dL_law_33 (by rw [hc_95]; decide) (by rw [hc_95]; decide) (by rw [hc_95]; decide) (by decide) ?_
      refine v_aload_n (pc' := 337) hx dL_law_336 rfl rfl ?_
      refine v_aload_n (pc' := 338) hx dL_law_337 rfl rfl ?_
      refine v_iload_n (pc' := 339) hx dL_law_338 rfl rfl ?_
      refine v_iconst (pc' := 340) (v := 1) hx dL_law_339 (by decide) rfl ?_
      refine v_iadd (pc' := 341) hx dL_law_340 rfl ?_
      replace h := ckp_inv h; obtain ⟨hk_96, h⟩ := h
      refine v_sld (pc' := 342) hx hX hk_96 dL_law_341 rfl ?_
      refine v_aload_n (pc' := 343) hx dL_law_342 rfl rfl ?_
      refine v_iload_n (pc' := 344) hx dL_law_343 rfl rfl ?_
      refine v_iconst (pc' := 345) (v := 2) hx dL_law_344 (by decide) rfl ?_
      refine v_iadd (pc' := 346) hx dL_law_345 rfl ?_
      replace h := ckp_inv h; obtain ⟨hk_97, h⟩ := h
      refine v_sld (pc' := 347) hx hX hk_97 dL_law_346 rfl ?_
      refine v_aload_n (pc' := 348) hx dL_law_347 rfl rfl ?_
      refine v_iload_n (pc' := 349) hx dL_law_348 rfl rfl ?_
      refine v_iconst (pc' := 350) (v := 3) hx dL_law_349 (by decide) rfl ?_
      refine v_iadd (pc' := 351) hx dL_law_350 rfl ?_
      replace h := ckp_inv h; obtain ⟨hk_98, h⟩ := h
      refine v_sld (pc' := 352) hx hX hk_98 dL_law_351 rfl ?_
      replace h := bd_inv h; obtain ⟨y_100, hcl_99, h⟩ := h
      refine v_callVi (pc' := 355) (w' := w) (r := y_100) (ci := 5) (b := a1) (As := [.int (xs ((x3 + 1) : Int32).toNatClampNeg), .int (xs ((x3 + 2) : Int32).toNatClampNeg), .int (xs ((x3 + 3) : Int32).toNatClampNeg)]) (rest := []) hx hl1 (fun G sz hR => ctX5_ring (xl x) (xD x) w G sz hR a1 (xs ((x3 + 1) : Int32).toNatClampNeg) (xs ((x3 + 2) : Int32).toNatClampNeg) (xs ((x3 + 3) : Int32).toNatClampNeg) hl1 hcl_99) rfl my_X5_ring ml_L_41 ⟨by decide, by decide⟩ ⟨by have e1 : rmX5_ring.cells = 0 := rfl; have e2 : room_1.cells = 600000 := rfl; omega, by have e1 : rmX5_ring.slots = 0 := rfl; have e2 : room_1.slots = 7302250 := rfl; omega⟩ rfl rfl (Nat.le_of_ble_eq_true rfl) dL_law_352 rfl ?_
      refine V.wide (cs' := cs) (ss' := ss) (Nat.le_of_eq rfl) (Nat.le_of_eq rfl) ?_
      refine v_aload_n (pc' := 356) hx dL_law_355 rfl rfl ?_
      refine v_aload_n (pc' := 357) hx dL_law_356 rfl rfl ?_
      refine v_iload_n (pc' := 358) hx dL_law_357 rfl rfl ?_
      refine v_iconst (pc' := 359) (v := 1) hx dL_law_358 (by decide) rfl ?_
      refine v_iadd (pc' := 360) hx dL_law_359 rfl ?_
      replace h := ckp_inv h; obtain ⟨hk_102, h⟩ := h
      refine v_sld (pc' := 361) hx hX hk_102 dL_law_360 rfl ?_
      refine v_aload_n (pc' := 362) hx dL_law_361 rfl rfl ?_
      refine v_iload_n (pc' := 363) hx dL_law_362 rfl rfl ?_
      refine v_iconst (pc' := 364) (v := 2) hx dL_law_363 (by decide) rfl ?_
      refine v_iadd (pc' := 365) hx dL_law_364 rfl ?_
      replace h := ckp_inv h; obtain ⟨hk_103, h⟩ := h
      refine v_sld (pc' := 366) hx hX hk_103 dL_law_365 rfl ?_
      refine v_aload_n (pc' := 367) hx dL_law_366 rfl rfl ?_
      refine v_iload_n (pc' := 368) hx dL_law_367 rfl rfl ?_
      refine v_iconst (pc' := 369) (v := 3) hx dL_law_368 (by decide) rfl ?_
      refine v_iadd (pc' := 370) hx dL_law_369 rfl ?_
      replace h := ckp_inv h; obtain ⟨hk_104, h⟩ := h
      refine v_sld (pc' := 371) hx hX hk_104 dL_law_370 rfl ?_
      replace h := bd_inv h; obtain ⟨y_106, hcl_105, h⟩ := h
      refine v_callVi (pc' := 374) (w' := w) (r := y_106) (ci := 6) (b := a2) (As := [.int (xs ((x3 + 1) : Int32).toNatClampNeg), .int (xs ((x3 + 2) : Int32).toNatClampNeg), .int (xs ((x3 + 3) : Int32).toNatClampNeg)]) (rest := [.int y_100]) hx hl2 (fun G sz hR => ctX6_ring (xl x) (xD x) w G sz hR a2 (xs ((x3 + 1) : Int32).toNatClampNeg) (xs ((x3 + 2) : Int32).toNatClampNeg) (xs ((x3 + 3) : Int32).toNatClampNeg) hl2 hcl_105) rfl my_X6_ring ml_L_44 ⟨by decide, by decide⟩ ⟨by have e1 : rmX6_ring.cells = 0 := rfl; have e2 : room_1.cells = 600000 := rfl; omega, by have e1 : rmX6_ring.slots = 0 := rfl; have e2 : room_1.slots = 7302250 := rfl; omega⟩ rfl rfl (Nat.le_of_ble_eq_true rfl) dL_law_371 rfl ?_
      refine V.wide (cs' := cs) (ss' := ss) (Nat.le_of_eq rfl) (Nat.le_of_eq rfl) ?_
      refine v_icmp_eq (tgt := 808) (pc' := 377) hx dL_law_374 (by decide) rfl (fun hc_108 => ?_) (fun hc_108 => ?_)
      · rw [if_pos hc_108] at h
        refine V.wide (cs' := (cs + 60)) (ss' := (ss + 1184)) (by omega) (by omega) ?_
        exact vL_law_b808 hX hx hq hcs hss hrec18 hl1 hl2 h
      · rw [if_neg hc_108] at h
        refine v_iconst (pc' := 378) (v := 0) hx dL_law_377 (by decide) rfl ?_
        cases h
    rw [if_neg hc_95] at h
    by_cases hc_109 : ((xs (x3 : Int32).toNatClampNeg) &&& 31) = 7
    · rw [if_pos hc_109] at h
      refine v_tblIn (tgt := 379) (off := 346) hx dL_law_33 (by rw [hc_109]; decide) (by rw [hc_109]; decide) (by rw [hc_109]; decide) (by decide) ?_
      refine v_aload_n (pc' := 380) hx dL_law_379 rfl rfl ?_
      refine v_aload_n (pc' := 381) hx dL_law_380 rfl rfl ?_
      refine v_iload_n (pc' := 382) hx dL_law_381 rfl rfl ?_
      refine v_iconst (pc' := 383) (v := 1) hx dL_law_382 (by decide) rfl ?_
      refine v_iadd (pc' := 384) hx dL_law_383 rfl ?_
      replace h := ckp_inv h; obtain ⟨hk_110, h⟩ := h
      refine v_sld (pc' := 385) hx hX hk_110 dL_law_384 rfl ?_
      refine v_aload_n (pc' := 386) hx dL_law_385 rfl rfl ?_
      refine v_iload_n (pc' := 387) hx dL_law_386 rfl rfl ?_
      refine v_iconst (pc' := 388) (v := 2) hx dL_law_387 (by decide) rfl ?_
      refine v_iadd (pc' := 389) hx dL_law_388 rfl ?_
      replace h := ckp_inv h; obtain ⟨hk_111, h⟩ := h
      refine v_sld (pc' := 390) hx hX hk_111 dL_law_389 rfl ?_
      replace h := bd_inv h; obtain ⟨y_113, hcl_112, h⟩ := h
      refine v_callVi (pc' := 393) (w' := w) (r := y_113) (ci := 5) (b := a1) (As := [.int (xs ((x3 + 1) : Int32).toNatClampNeg), .int (xs ((x3 + 2) : Int32).toNatClampNeg)]) (rest := []) hx hl1 (fun G sz hR => ctX5_foot (xl x) (xD x) w G sz hR a1 (xs ((x3 + 1) : Int32).toNatClampNeg) (xs ((x3 + 2) : Int32).toNatClampNeg) hl1 hcl_112) rfl my_X5_foot ml_L_45 ⟨by decide, by decide⟩ ⟨by have e1 : rmX5_foot.cells = 0 := rfl; have e2 : room_1.cells = 600000 := rfl; omega, by have e1 : rmX5_foot.slots = 0 := rfl; have e2 : room_1.slots = 7302250 := rfl; omega⟩ rfl rfl (Nat.le_of_ble_eq_true rfl) dL_law_390 rfl ?_
      refine V.wide (cs' := cs) (ss' := ss) (Nat.le_of_eq rfl) (Nat.le_of_eq rfl) ?_
      refine v_aload_n (pc' := 394) hx dL_law_393 rfl rfl ?_
      refine v_aload_n (pc' := 395) hx dL_law_394 rfl rfl ?_
      refine v_iload_n (pc' := 396) hx dL_law_395 rfl rfl ?_
      refine v_iconst (pc' := 397) (v := 1) hx dL_law_396 (by decide) rfl ?_
      refine v_iadd (pc' := 398) hx dL_law_397 rfl ?_
      replace h := ckp_inv h; obtain ⟨hk_115, h⟩ := h
      refine v_sld (pc' := 399) hx hX hk_115 dL_law_398 rfl ?_
      refine v_aload_n (pc' := 400) hx dL_law_399 rfl rfl ?_
      refine v_iload_n (pc' := 401) hx dL_law_400 rfl rfl ?_
      refine v_iconst (pc' := 402) (v := 2) hx dL_law_401 (by decide) rfl ?_
      refine v_iadd (pc' := 403) hx dL_law_402 rfl ?_
      replace h := ckp_inv h; obtain ⟨hk_116, h⟩ := h
      refine v_sld (pc' := 404) hx hX hk_116 dL_law_403 rfl ?_
      replace h := bd_inv h; obtain ⟨y_118, hcl_117, h⟩ := h
      refine v_callVi (pc' := 407) (w' := w) (r := y_118) (ci := 6) (b := a2) (As := [.int (xs ((x3 + 1) : Int32).toNatClampNeg), .int (xs ((x3 + 2) : Int32).toNatClampNeg)]) (rest := [.int y_113]) hx hl2 (fun G sz hR => ctX6_foot (xl x) (xD x) w G sz hR a2 (xs ((x3 + 1) : Int32).toNatClampNeg) (xs ((x3 + 2) : Int32).toNatClampNeg) hl2 hcl_117) rfl my_X6_foot ml_L_48 ⟨by decide, by decide⟩ ⟨by have e1 : rmX6_foot.cells = 0 := rfl; have e2 : room_1.cells = 600000 := rfl; omega, by have e1 : rmX6_foot.slots = 0 := rfl; have e2 : room_1.slots = 7302250 := rfl; omega⟩ rfl rfl (Nat.le_of_ble_eq_true rfl) dL_law_404 rfl ?_
      refine V.wide (cs' := cs) (ss' := ss) (Nat.le_of_eq rfl) (Nat.le_of_eq rfl) ?_
      refine v_icmp_eq (tgt := 808) (pc' := 410) hx dL_law_407 (by decide) rfl (fun hc_120 => ?_) (fun hc_120 => ?_)
      · rw [if_pos hc_120] at h
        refine V.wide (cs' := (cs + 60)) (ss' := (ss + 1184)) (by omega) (by omega) ?_
        exact vL_law_b808 hX hx hq hcs hss hrec18 hl1 hl2 h
      · rw [if_neg hc_120] at h
        refine v_iconst (pc' := 411) (v := 0) hx dL_law_410 (by decide) rfl ?_
        cases h
    rw [if_neg hc_109] at h
    by_cases hc_121 : ((xs (x3 : Int32).toNatClampNeg) &&& 31) = 8
    · rw [if_pos hc_121] at h
      refine v_tblIn (tgt := 412) (off := 379) hx dL_law_33 (by rw [hc_121]; decide) (by rw [hc_121]; decide) (by rw [hc_121]; decide) (by decide) ?_
      refine v_aload_n (pc' := 413) hx dL_law_412 rfl rfl ?_
      refine v_aload_n (pc' := 414) hx dL_law_413 rfl rfl ?_
      refine v_iload_n (pc' := 415) hx dL_law_414 rfl rfl ?_
      refine v_iconst (pc' := 416) (v := 1) hx dL_law_415 (by decide) rfl ?_
      refine v_iadd (pc' := 417) hx dL_law_416 rfl ?_
      replace h := ckp_inv h; obtain ⟨hk_122, h⟩ := h
      refine v_sld (pc' := 418) hx hX hk_122 dL_law_417 rfl ?_
      refine v_aload_n (pc' := 419) hx dL_law_418 rfl rfl ?_
      refine v_iload_n (pc' := 420) hx dL_law_419 rfl rfl ?_
      refine v_iconst (pc' := 421) (v := 2) hx dL_law_420 (by decide) rfl ?_
      refine v_iadd (pc' := 422) hx dL_law_421 rfl ?_
      replace h := ckp_inv h; obtain ⟨hk_123, h⟩ := h
      refine v_sld (pc' := 423) hx hX hk_123 dL_law_422 rfl ?_
      replace h := bd_inv h; obtain ⟨y_125, hcl_124, h⟩ := h
      refine v_callVi (pc' := 426) (w' := w) (r := y_125) (ci := 5) (b := a1) (As := [.int (xs ((x3 + 1) : Int32).toNatClampNeg), .int (xs ((x3 + 2) : Int32).toNatClampNeg)]) (rest := []) hx hl1 (fun G sz hR => ctX5_through (xl x) (xD x) w G sz hR a1 (xs ((x3 + 1) : Int32).toNatClampNeg) (xs ((x3 + 2) : Int32).toNatClampNeg) hl1 hcl_124) rfl my_X5_through ml_L_49 ⟨by decide, by decide⟩ ⟨by have e1 : rmX5_through.cells = 0 := rfl; have e2 : room_1.cells = 600000 := rfl; omega, by have e1 : rmX5_through.slots = 0 := rfl; have e2 : room_1.slots = 7302250 := rfl; omega⟩ rfl rfl (Nat.le_of_ble_eq_true rfl) dL_law_423 rfl ?_
      refine V.wide (cs' := cs) (ss' := ss) (Nat.le_of_eq rfl) (Nat.le_of_eq rfl) ?_
      refine v_aload_n (pc' := 427) hx dL_law_426 rfl rfl ?_
      refine v_aload_n (pc' := 428) hx dL_law_427 rfl rfl ?_
      refine v_iload_n (pc' := 429) hx dL_law_428 rfl rfl ?_
      refine v_iconst (pc' := 430) (v := 1) hx dL_law_429 (by decide) rfl ?_
      refine v_iadd (pc' := 431) hx dL_law_430 rfl ?_
      replace h := ckp_inv h; obtain ⟨hk_127, h⟩ := h
      refine v_sld (pc' := 432) hx hX hk_127 dL_law_431 rfl ?_
      refine v_aload_n (pc' := 433) hx dL_law_432 rfl rfl ?_
      refine v_iload_n (pc' := 434) hx dL_law_433 rfl rfl ?_
      refine v_iconst (pc' := 435) (v := 2) hx dL_law_434 (by decide) rfl ?_
      refine v_iadd (pc' := 436) hx dL_law_435 rfl ?_
      replace h := ckp_inv h; obtain ⟨hk_128, h⟩ := h
      refine v_sld (pc' := 437) hx hX hk_128 dL_law_436 rfl ?_
      replace h := bd_inv h; obtain ⟨y_130, hcl_129, h⟩ := h
      refine v_callVi (pc' := 440) (w' := w) (r := y_130) (ci := 6) (b := a2) (As := [.int (xs ((x3 + 1) : Int32).toNatClampNeg), .int (xs ((x3 + 2) : Int32).toNatClampNeg)]) (rest := [.int y_125]) hx hl2 (fun G sz hR => ctX6_through (xl x) (xD x) w G sz hR a2 (xs ((x3 + 1) : Int32).toNatClampNeg) (xs ((x3 + 2) : Int32).toNatClampNeg) hl2 hcl_129) rfl my_X6_through ml_L_52 ⟨by decide, by decide⟩ ⟨by have e1 : rmX6_through.cells = 0 := rfl; have e2 : room_1.cells = 600000 := rfl; omega, by have e1 : rmX6_through.slots = 0 := rfl; have e2 : room_1.slots = 7302250 := rfl; omega⟩ rfl rfl (Nat.le_of_ble_eq_true rfl) dL_law_437 rfl ?_
      refine V.wide (cs' := cs) (ss' := ss) (Nat.le_of_eq rfl) (Nat.le_of_eq rfl) ?_
      refine v_icmp_eq (tgt := 808) (pc' := 443) hx dL_law_440 (by decide) rfl (fun hc_132 => ?_) (fun hc_132 => ?_)
      · rw [if_pos hc_132] at h
        refine V.wide (cs' := (cs + 60)) (ss' := (ss + 1184)) (by omega) (by omega) ?_
        exact vL_law_b808 hX hx hq hcs hss hrec18 hl1 hl2 h
      · rw [if_neg hc_132] at h
        refine v_iconst (pc' := 444) (v := 0) hx dL_law_443 (by decide) rfl ?_
        cases h
    rw [if_neg hc_121] at h
    by_cases hc_133 : ((xs (x3 : Int32).toNatClampNeg) &&& 31) = 9
    · rw [if_pos hc_133] at h
      refine v_tblIn (tgt := 445) (off := 412) hx dL_law_33 (by rw [hc_133]; decide) (by rw [hc_133]; decide) (by rw [hc_133]; decide) (by decide) ?_
      refine v_aload_n (pc' := 446) hx dL_law_445 rfl rfl ?_
      refine v_aload_n (pc' := 447) hx dL_law_446 rfl rfl ?_
      refine v_iload_n (pc' := 448) hx dL_law_447 rfl rfl ?_
      refine v_iconst (pc' := 449) (v := 1) hx dL_law_448 (by decide) rfl ?_
      refine v_iadd (pc' := 450) hx dL_law_449 rfl ?_
      replace h := ckp_inv h; obtain ⟨hk_134, h⟩ := h
      refine v_sld (pc' := 451) hx hX hk_134 dL_law_450 rfl ?_
      refine v_aload_n (pc' := 452) hx dL_law_451 rfl rfl ?_
      refine v_iload_n (pc' := 453) hx dL_law_452 rfl rfl ?_
      refine v_iconst (pc' := 454) (v := 2) hx dL_law_453 (by decide) rfl ?_
      refine v_iadd (pc' := 455) hx dL_law_454 rfl ?_
      replace h := ckp_inv h; obtain ⟨hk_135, h⟩ := h
      refine v_sld (pc' := 456) hx hX hk_135 dL_law_455 rfl ?_
      replace h := bd_inv h; obtain ⟨y_137, hcl_136, h⟩ := h
      refine v_callVi (pc' := 459) (w' := w) (r := y_137) (ci := 5) (b := a1) (As := [.int (xs ((x3 + 1) : Int32).toNatClampNeg), .int (xs ((x3 + 2) : Int32).toNatClampNeg)]) (rest := []) hx hl1 (fun G sz hR => ctX5_weight (xl x) (xD x) w G sz hR a1 (xs ((x3 + 1) : Int32).toNatClampNeg) (xs ((x3 + 2) : Int32).toNatClampNeg) hl1 hcl_136) rfl my_X5_weight ml_L_53 ⟨by decide, by decide⟩ ⟨by have e1 : rmX5_weight.cells = 0 := rfl; have e2 : room_1.cells = 600000 := rfl; omega, by have e1 : rmX5_weight.slots = 0 := rfl; have e2 : room_1.slots = 7302250 := rfl; omega⟩ rfl rfl (Nat.le_of_ble_eq_true rfl) dL_law_456 rfl ?_
      refine V.wide (cs' := cs) (ss' := ss) (Nat.le_of_eq rfl) (Nat.le_of_eq rfl) ?_
      refine v_aload_n (pc' := 460) hx dL_law_459 rfl rfl ?_
      refine v_aload_n (pc' := 461) hx dL_law_460 rfl rfl ?_
      refine v_iload_n (pc' := 462) hx dL_law_461 rfl rfl ?_
      refine v_iconst (pc' := 463) (v := 1) hx dL_law_462 (by decide) rfl ?_
      refine v_iadd (pc' := 464) hx dL_law_463 rfl ?_
      replace h := ckp_inv h; obtain ⟨hk_139, h⟩ := h
      refine v_sld (pc' := 465) hx hX hk_139 dL_law_464 rfl ?_
      refine v_aload_n (pc' := 466) hx dL_law_465 rfl rfl ?_
      refine v_iload_n (pc' := 467) hx dL_law_466 rfl rfl ?_
      refine v_iconst (pc' := 468) (v := 2) hx dL_law_467 (by decide) rfl ?_
      refine v_iadd (pc' := 469) hx dL_law_468 rfl ?_
      replace h := ckp_inv h; obtain ⟨hk_140, h⟩ := h
      refine v_sld (pc' := 470) hx hX hk_140 dL_law_469 rfl ?_
      replace h := bd_inv h; obtain ⟨y_142, hcl_141, h⟩ := h
      refine v_callVi (pc' := 473) (w' := w) (r := y_142) (ci := 6) (b := a2) (As := [.int (xs ((x3 + 1) : Int32).toNatClampNeg), .int (xs ((x3 + 2) : Int32).toNatClampNeg)]) (rest := [.int y_137]) hx hl2 (fun G sz hR => ctX6_weight (xl x) (xD x) w G sz hR a2 (xs ((x3 + 1) : Int32).toNatClampNeg) (xs ((x3 + 2) : Int32).toNatClampNeg) hl2 hcl_141) rfl my_X6_weight ml_L_56 ⟨by decide, by decide⟩ ⟨by have e1 : rmX6_weight.cells = 0 := rfl; have e2 : room_1.cells = 600000 := rfl; omega, by have e1 : rmX6_weight.slots = 0 := rfl; have e2 : room_1.slots = 7302250 := rfl; omega⟩ rfl rfl (Nat.le_of_ble_eq_true rfl) dL_law_470 rfl ?_
      refine V.wide (cs' := cs) (ss' := ss) (Nat.le_of_eq rfl) (Nat.le_of_eq rfl) ?_
      refine v_icmp_eq (tgt := 808) (pc' := 476) hx dL_law_473 (by decide) rfl (fun hc_144 => ?_) (fun hc_144 => ?_)
      · rw [if_pos hc_144] at h
        refine V.wide (cs' := (cs + 60)) (ss' := (ss + 1184)) (by omega) (by omega) ?_
        exact vL_law_b808 hX hx hq hcs hss hrec18 hl1 hl2 h
      · rw [if_neg hc_144] at h
        refine v_iconst (pc' := 477) (v := 0) hx dL_law_476 (by decide) rfl ?_
        cases h
    rw [if_neg hc_133] at h
    by_cases hc_145 : ((xs (x3 : Int32).toNatClampNeg) &&& 31) = 10
    · rw [if_pos hc_145] at h
      refine v_tblIn (tgt := 478) (off := 445) hx dL_law_33 (by rw [hc_145]; decide) (by rw [hc_145]; decide) (by rw [hc_145]; decide) (by decide) ?_
      refine v_aload_n (pc' := 479) hx dL_law_478 rfl rfl ?_
      refine v_aload_n (pc' := 480) hx dL_law_479 rfl rfl ?_
      refine v_iload_n (pc' := 481) hx dL_law_480 rfl rfl ?_
      refine v_iconst (pc' := 482) (v := 1) hx dL_law_481 (by decide) rfl ?_
      refine v_iadd (pc' := 483) hx dL_law_482 rfl ?_
      replace h := ckp_inv h; obtain ⟨hk_146, h⟩ := h
      refine v_sld (pc' := 484) hx hX hk_146 dL_law_483 rfl ?_
      replace h := bd_inv h; obtain ⟨y_148, hcl_147, h⟩ := h
      refine v_callVi (pc' := 487) (w' := w) (r := y_148) (ci := 5) (b := a1) (As := [.int (xs ((x3 + 1) : Int32).toNatClampNeg)]) (rest := []) hx hl1 (fun G sz hR => ctX5_guilty (xl x) (xD x) w G sz hR a1 (xs ((x3 + 1) : Int32).toNatClampNeg) hl1 hcl_147) rfl my_X5_guilty ml_L_57 ⟨by decide, by decide⟩ ⟨by have e1 : rmX5_guilty.cells = 0 := rfl; have e2 : room_1.cells = 600000 := rfl; omega, by have e1 : rmX5_guilty.slots = 0 := rfl; have e2 : room_1.slots = 7302250 := rfl; omega⟩ rfl rfl (Nat.le_of_ble_eq_true rfl) dL_law_484 rfl ?_
      refine V.wide (cs' := cs) (ss' := ss) (Nat.le_of_eq rfl) (Nat.le_of_eq rfl) ?_
      refine v_aload_n (pc' := 488) hx dL_law_487 rfl rfl ?_
      refine v_aload_n (pc' := 489) hx dL_law_488 rfl rfl ?_
      refine v_iload_n (pc' := 490) hx dL_law_489 rfl rfl ?_
      refine v_iconst (pc' := 491) (v := 1) hx dL_law_490 (by decide) rfl ?_
      refine v_iadd (pc' := 492) hx dL_law_491 rfl ?_
      replace h := ckp_inv h; obtain ⟨hk_150, h⟩ := h
      refine v_sld (pc' := 493) hx hX hk_150 dL_law_492 rfl ?_
      replace h := bd_inv h; obtain ⟨y_152, hcl_151, h⟩ := h
      refine v_callVi (pc' := 496) (w' := w) (r := y_152) (ci := 6) (b := a2) (As := [.int (xs ((x3 + 1) : Int32).toNatClampNeg)]) (rest := [.int y_148]) hx hl2 (fun G sz hR => ctX6_guilty (xl x) (xD x) w G sz hR a2 (xs ((x3 + 1) : Int32).toNatClampNeg) hl2 hcl_151) rfl my_X6_guilty ml_L_60 ⟨by decide, by decide⟩ ⟨by have e1 : rmX6_guilty.cells = 0 := rfl; have e2 : room_1.cells = 600000 := rfl; omega, by have e1 : rmX6_guilty.slots = 0 := rfl; have e2 : room_1.slots = 7302250 := rfl; omega⟩ rfl rfl (Nat.le_of_ble_eq_true rfl) dL_law_493 rfl ?_
      refine V.wide (cs' := cs) (ss' := ss) (Nat.le_of_eq rfl) (Nat.le_of_eq rfl) ?_
      refine v_icmp_eq (tgt := 808) (pc' := 499) hx dL_law_496 (by decide) rfl (fun hc_154 => ?_) (fun hc_154 => ?_)
      · rw [if_pos hc_154] at h
        refine V.wide (cs' := (cs + 60)) (ss' := (ss + 1184)) (by omega) (by omega) ?_
        exact vL_law_b808 hX hx hq hcs hss hrec18 hl1 hl2 h
      · rw [if_neg hc_154] at h
        refine v_iconst (pc' := 500) (v := 0) hx dL_law_499 (by decide) rfl ?_
        cases h
    rw [if_neg hc_145] at h
    by_cases hc_155 : ((xs (x3 : Int32).toNatClampNeg) &&& 31) = 11
    · rw [if_pos hc_155] at h
      refine v_tblIn (tgt := 501) (off := 468) hx dL_law_33 (by rw [hc_155]; decide) (by rw [hc_155]; decide) (by rw [hc_155]; decide) (by decide) ?_
      refine v_aload_n (pc' := 502) hx dL_law_501 rfl rfl ?_
      refine v_aload_n (pc' := 503) hx dL_law_502 rfl rfl ?_
      refine v_iload_n (pc' := 504) hx dL_law_503 rfl rfl ?_
      refine v_iconst (pc' := 505) (v := 1) hx dL_law_504 (by decide) rfl ?_
      refine v_iadd (pc' := 506) hx dL_law_505 rfl ?_
      replace h := ckp_inv h; obtain ⟨hk_156, h⟩ := h
      refine v_sld (pc' := 507) hx hX hk_156 dL_law_506 rfl ?_
      replace h := bd_inv h; obtain ⟨y_158, hcl_157, h⟩ := h
      refine v_callVi (pc' := 510) (w' := w) (r := y_158) (ci := 5) (b := a1) (As := [.int (xs ((x3 + 1) : Int32).toNatClampNeg)]) (rest := []) hx hl1 (fun G sz hR => ctX5_stuck (xl x) (xD x) w G sz hR a1 (xs ((x3 + 1) : Int32).toNatClampNeg) hl1 hcl_157) rfl my_X5_stuck ml_L_61 ⟨by decide, by decide⟩ ⟨by have e1 : rmX5_stuck.cells = 0 := rfl; have e2 : room_1.cells = 600000 := rfl; omega, by have e1 : rmX5_stuck.slots = 0 := rfl; have e2 : room_1.slots = 7302250 := rfl; omega⟩ rfl rfl (Nat.le_of_ble_eq_true rfl) dL_law_507 rfl ?_
      refine V.wide (cs' := cs) (ss' := ss) (Nat.le_of_eq rfl) (Nat.le_of_eq rfl) ?_
      refine v_aload_n (pc' := 511) hx dL_law_510 rfl rfl ?_
      refine v_aload_n (pc' := 512) hx dL_law_511 rfl rfl ?_
      refine v_iload_n (pc' := 513) hx dL_law_512 rfl rfl ?_
      refine v_iconst (pc' := 514) (v := 1) hx dL_law_513 (by decide) rfl ?_
      refine v_iadd (pc' := 515) hx dL_law_514 rfl ?_
      replace h := ckp_inv h; obtain ⟨hk_160, h⟩ := h
      refine v_sld (pc' := 516) hx hX hk_160 dL_law_515 rfl ?_
      replace h := bd_inv h; obtain ⟨y_162, hcl_161, h⟩ := h
      refine v_callVi (pc' := 519) (w' := w) (r := y_162) (ci := 6) (b := a2) (As := [.int (xs ((x3 + 1) : Int32).toNatClampNeg)]) (rest := [.int y_158]) hx hl2 (fun G sz hR => ctX6_stuck (xl x) (xD x) w G sz hR a2 (xs ((x3 + 1) : Int32).toNatClampNeg) hl2 hcl_161) rfl my_X6_stuck ml_L_64 ⟨by decide, by decide⟩ ⟨by have e1 : rmX6_stuck.cells = 0 := rfl; have e2 : room_1.cells = 600000 := rfl; omega, by have e1 : rmX6_stuck.slots = 0 := rfl; have e2 : room_1.slots = 7302250 := rfl; omega⟩ rfl rfl (Nat.le_of_ble_eq_true rfl) dL_law_516 rfl ?_
      refine V.wide (cs' := cs) (ss' := ss) (Nat.le_of_eq rfl) (Nat.le_of_eq rfl) ?_
      refine v_icmp_eq (tgt := 808) (pc' := 522) hx dL_law_519 (by decide) rfl (fun hc_164 => ?_) (fun hc_164 => ?_)
      · rw [if_pos hc_164] at h
        refine V.wide (cs' := (cs + 60)) (ss' := (ss + 1184)) (by omega) (by omega) ?_
        exact vL_law_b808 hX hx hq hcs hss hrec18 hl1 hl2 h
      · rw [if_neg hc_164] at h
        refine v_iconst (pc' := 523) (v := 0) hx dL_law_522 (by decide) rfl ?_
        cases h
    rw [if_neg hc_155] at h
    by_cases hc_165 : ((xs (x3 : Int32).toNatClampNeg) &&& 31) = 12
    · rw [if_pos hc_165] at h
      refine v_tblIn (tgt := 524) (off := 491) hx dL_law_33 (by rw [hc_165]; decide) (by rw [hc_165]; decide) (by rw [hc_165]; decide) (by decide) ?_
      refine v_aload_n (pc' := 525) hx dL_law_524 rfl rfl ?_
      refine v_aload_n (pc' := 526) hx dL_law_525 rfl rfl ?_
      refine v_iload_n (pc' := 527) hx dL_law_526 rfl rfl ?_
      refine v_iconst (pc' := 528) (v := 1) hx dL_law_527 (by decide) rfl ?_
      refine v_iadd (pc' := 529) hx dL_law_528 rfl ?_
      replace h := ckp_inv h; obtain ⟨hk_166, h⟩ := h
      refine v_sld (pc' := 530) hx hX hk_166 dL_law_529 rfl ?_
      replace h := bd_inv h; obtain ⟨y_168, hcl_167, h⟩ := h
      refine v_callVi (pc' := 533) (w' := w) (r := y_168) (ci := 5) (b := a1) (As := [.int (xs ((x3 + 1) : Int32).toNatClampNeg)]) (rest := []) hx hl1 (fun G sz hR => ctX5_broken (xl x) (xD x) w G sz hR a1 (xs ((x3 + 1) : Int32).toNatClampNeg) hl1 hcl_167) rfl my_X5_broken ml_L_65 ⟨by decide, by decide⟩ ⟨by have e1 : rmX5_broken.cells = 0 := rfl; have e2 : room_1.cells = 600000 := rfl; omega, by have e1 : rmX5_broken.slots = 0 := rfl; have e2 : room_1.slots = 7302250 := rfl; omega⟩ rfl rfl (Nat.le_of_ble_eq_true rfl) dL_law_530 rfl ?_
      refine V.wide (cs' := cs) (ss' := ss) (Nat.le_of_eq rfl) (Nat.le_of_eq rfl) ?_
      refine v_aload_n (pc' := 534) hx dL_law_533 rfl rfl ?_
      refine v_aload_n (pc' := 535) hx dL_law_534 rfl rfl ?_
      refine v_iload_n (pc' := 536) hx dL_law_535 rfl rfl ?_
      refine v_iconst (pc' := 537) (v := 1) hx dL_law_536 (by decide) rfl ?_
      refine v_iadd (pc' := 538) hx dL_law_537 rfl ?_
      replace h := ckp_inv h; obtain ⟨hk_170, h⟩ := h
      refine v_sld (pc' := 539) hx hX hk_170 dL_law_538 rfl ?_
      replace h := bd2_inv h; obtain ⟨y_172, w_173, hcl_171, h⟩ := h
      refine v_wf (fun hwf_174 => ?_)
      refine v_callVi (pc' := 542) (w' := w_173) (r := y_172) (ci := 6) (b := a2) (As := [.int (xs ((x3 + 1) : Int32).toNatClampNeg)]) (rest := [.int y_168]) hx hl2 (fun G sz hR => ctX6_broken (xl x) (xD x) w G sz hR a2 (xs ((x3 + 1) : Int32).toNatClampNeg) hl2 hcl_171) rfl my_X6_broken ml_L_68 ⟨by decide, by decide⟩ ⟨by have e1 : rmX6_broken.cells = 0 := rfl; have e2 : room_1.cells = 600000 := rfl; omega, by have e1 : rmX6_broken.slots = 0 := rfl; have e2 : room_1.slots = 7302250 := rfl; omega⟩ rfl rfl (Nat.le_of_ble_eq_true rfl) dL_law_539 rfl ?_
      refine V.wide (cs' := cs) (ss' := ss) (Nat.le_of_eq rfl) (Nat.le_of_eq rfl) ?_
      have hm_176 := kX6_broken hcl_171 hwf_174
      have hl_177 : zL w_173 5 a1 = true := (hm_176.2 _ _ hl1).1
      have hl_178 : zL w_173 6 a2 = true := (hm_176.2 _ _ hl2).1
      refine v_icmp_eq (tgt := 808) (pc' := 545) hx dL_law_542 (by decide) rfl (fun hc_179 => ?_) (fun hc_179 => ?_)
      · rw [if_pos hc_179] at h
        refine V.wide (cs' := (cs + 60)) (ss' := (ss + 1184)) (by omega) (by omega) ?_
        exact vL_law_b808 hX hx hq hcs hss hrec18 hl_177 hl_178 h
      · rw [if_neg hc_179] at h
        refine v_iconst (pc' := 546) (v := 0) hx dL_law_545 (by decide) rfl ?_
        cases h
    rw [if_neg hc_165] at h
    by_cases hc_180 : ((xs (x3 : Int32).toNatClampNeg) &&& 31) = 13
    · rw [if_pos hc_180] at h
      refine v_tblIn (tgt := 547) (off := 514) hx dL_law_33 (by rw [hc_180]; decide) (by rw [hc_180]; decide) (by rw [hc_180]; decide) (by decide) ?_
      refine v_aload_n (pc' := 548) hx dL_law_547 rfl rfl ?_
      refine v_aload_n (pc' := 549) hx dL_law_548 rfl rfl ?_
      refine v_iload_n (pc' := 550) hx dL_law_549 rfl rfl ?_
      refine v_iconst (pc' := 551) (v := 1) hx dL_law_550 (by decide) rfl ?_
      refine v_iadd (pc' := 552) hx dL_law_551 rfl ?_
      replace h := ckp_inv h; obtain ⟨hk_181, h⟩ := h
      refine v_sld (pc' := 553) hx hX hk_181 dL_law_552 rfl ?_
      refine v_aload_n (pc' := 554) hx dL_law_553 rfl rfl ?_
      refine v_iload_n (pc' := 555) hx dL_law_554 rfl rfl ?_
      refine v_iconst (pc' := 556) (v := 2) hx dL_law_555 (by decide) rfl ?_
      refine v_iadd (pc' := 557) hx dL_law_556 rfl ?_
      replace h := ckp_inv h; obtain ⟨hk_182, h⟩ := h
      refine v_sld (pc' := 558) hx hX hk_182 dL_law_557 rfl ?_
      replace h := bd2_inv h; obtain ⟨y_184, w_185, hcl_183, h⟩ := h
      refine v_wf (fun hwf_186 => ?_)
      refine v_callVi (pc' := 561) (w' := w_185) (r := y_184) (ci := 5) (b := a1) (As := [.int (xs ((x3 + 1) : Int32).toNatClampNeg), .int (xs ((x3 + 2) : Int32).toNatClampNeg)]) (rest := []) hx hl1 (fun G sz hR => ctX5_meter (xl x) (xD x) w G sz hR a1 (xs ((x3 + 1) : Int32).toNatClampNeg) (xs ((x3 + 2) : Int32).toNatClampNeg) hl1 hcl_183) rfl my_X5_meter ml_L_69 ⟨by decide, by decide⟩ ⟨by have e1 : rmX5_meter.cells = 0 := rfl; have e2 : room_1.cells = 600000 := rfl; omega, by have e1 : rmX5_meter.slots = 0 := rfl; have e2 : room_1.slots = 7302250 := rfl; omega⟩ rfl rfl (Nat.le_of_ble_eq_true rfl) dL_law_558 rfl ?_
      refine V.wide (cs' := cs) (ss' := ss) (Nat.le_of_eq rfl) (Nat.le_of_eq rfl) ?_
      have hm_188 := kX5_meter hcl_183 hwf_186
      have hl_189 : zL w_185 5 a1 = true := (hm_188.2 _ _ hl1).1
      have hl_190 : zL w_185 6 a2 = true := (hm_188.2 _ _ hl2).1
      refine v_aload_n (pc' := 562) hx dL_law_561 rfl rfl ?_
      refine v_aload_n (pc' := 563) hx dL_law_562 rfl rfl ?_
      refine v_iload_n (pc' := 564) hx dL_law_563 rfl rfl ?_
      refine v_iconst (pc' := 565) (v := 1) hx dL_law_564 (by decide) rfl ?_
      refine v_iadd (pc' := 566) hx dL_law_565 rfl ?_
      replace h := ckp_inv h; obtain ⟨hk_191, h⟩ := h
      refine v_sld (pc' := 567) hx hX hk_191 dL_law_566 rfl ?_
      refine v_aload_n (pc' := 568) hx dL_law_567 rfl rfl ?_
      refine v_iload_n (pc' := 569) hx dL_law_568 rfl rfl ?_
      refine v_iconst (pc' := 570) (v := 2) hx dL_law_569 (by decide) rfl ?_
      refine v_iadd (pc' := 571) hx dL_law_570 rfl ?_
      replace h := ckp_inv h; obtain ⟨hk_192, h⟩ := h
      refine v_sld (pc' := 572) hx hX hk_192 dL_law_571 rfl ?_
      replace h := bd2_inv h; obtain ⟨y_194, w_195, hcl_193, h⟩ := h
      refine v_callVi (pc' := 575) (w' := w_195) (r := y_194) (ci := 6) (b := a2) (As := [.int (xs ((x3 + 1) : Int32).toNatClampNeg), .int (xs ((x3 + 2) : Int32).toNatClampNeg)]) (rest := [.int y_184]) hx hl_190 (fun G sz hR => ctX6_meter (xl x) (xD x) w_185 G sz hR a2 (xs ((x3 + 1) : Int32).toNatClampNeg) (xs ((x3 + 2) : Int32).toNatClampNeg) hl_190 hcl_193) rfl my_X6_meter ml_L_73 ⟨by decide, by decide⟩ ⟨by have e1 : rmX6_meter.cells = 0 := rfl; have e2 : room_1.cells = 600000 := rfl; omega, by have e1 : rmX6_meter.slots = 0 := rfl; have e2 : room_1.slots = 7302250 := rfl; omega⟩ rfl rfl (Nat.le_of_ble_eq_true rfl) dL_law_572 rfl ?_
      refine V.wide (cs' := cs) (ss' := ss) (Nat.le_of_eq rfl) (Nat.le_of_eq rfl) ?_
      have hm_197 := kX6_meter hcl_193 hm_188.1
      have hl_198 : zL w_195 5 a1 = true := (hm_197.2 _ _ hl_189).1
      have hl_199 : zL w_195 6 a2 = true := (hm_197.2 _ _ hl_190).1
      refine v_icmp_eq (tgt := 808) (pc' := 578) hx dL_law_575 (by decide) rfl (fun hc_200 => ?_) (fun hc_200 => ?_)
      · rw [if_pos hc_200] at h
        refine V.wide (cs' := (cs + 60)) (ss' := (ss + 1184)) (by omega) (by omega) ?_
        exact vL_law_b808 hX hx hq hcs hss hrec18 hl_198 hl_199 h
      · rw [if_neg hc_200] at h
        refine v_iconst (pc' := 579) (v := 0) hx dL_law_578 (by decide) rfl ?_
        cases h
    rw [if_neg hc_180] at h
    by_cases hc_201 : ((xs (x3 : Int32).toNatClampNeg) &&& 31) = 14
    · rw [if_pos hc_201] at h
      refine v_tblIn (tgt := 580) (off := 547) hx dL_law_33 (by rw [hc_201]; decide) (by rw [hc_201]; decide) (by rw [hc_201]; decide) (by decide) ?_
      refine v_aload_n (pc' := 581) hx dL_law_580 rfl rfl ?_
      refine v_aload_n (pc' := 582) hx dL_law_581 rfl rfl ?_
      refine v_iload_n (pc' := 583) hx dL_law_582 rfl rfl ?_
      refine v_iconst (pc' := 584) (v := 1) hx dL_law_583 (by decide) rfl ?_
      refine v_iadd (pc' := 585) hx dL_law_584 rfl ?_
      replace h := ckp_inv h; obtain ⟨hk_202, h⟩ := h
      refine v_sld (pc' := 586) hx hX hk_202 dL_law_585 rfl ?_
      refine v_aload_n (pc' := 587) hx dL_law_586 rfl rfl ?_
      refine v_iload_n (pc' := 588) hx dL_law_587 rfl rfl ?_
      refine v_iconst (pc' := 589) (v := 2) hx dL_law_588 (by decide) rfl ?_
      refine v_iadd (pc' := 590) hx dL_law_589 rfl ?_
      replace h := ckp_inv h; obtain ⟨hk_203, h⟩ := h
      refine v_sld (pc' := 591) hx hX hk_203 dL_law_590 rfl ?_
      refine v_aload_n (pc' := 592) hx dL_law_591 rfl rfl ?_
      refine v_iload_n (pc' := 593) hx dL_law_592 rfl rfl ?_
      refine v_iconst (pc' := 594) (v := 3) hx dL_law_593 (by decide) rfl ?_
      refine v_iadd (pc' := 595) hx dL_law_594 rfl ?_
      replace h := ckp_inv h; obtain ⟨hk_204, h⟩ := h
      refine v_sld (pc' := 596) hx hX hk_204 dL_law_595 rfl ?_
      refine v_aload_n (pc' := 597) hx dL_law_596 rfl rfl ?_
      refine v_iload_n (pc' := 598) hx dL_law_597 rfl rfl ?_
      refine v_iconst (pc' := 599) (v := 4) hx dL_law_598 (by decide) rfl ?_
      refine v_iadd (pc' := 600) hx dL_law_599 rfl ?_
      replace h := ckp_inv h; obtain ⟨hk_205, h⟩ := h
      refine v_sld (pc' := 601) hx hX hk_205 dL_law_600 rfl ?_
      replace h := bd_inv h; obtain ⟨y_207, hcl_206, h⟩ := h
      refine v_callVi (pc' := 604) (w' := w) (r := y_207) (ci := 5) (b := a1) (As := [.int (xs ((x3 + 1) : Int32).toNatClampNeg), .int (xs ((x3 + 2) : Int32).toNatClampNeg), .int (xs ((x3 + 3) : Int32).toNatClampNeg), .int (xs ((x3 + 4) : Int32).toNatClampNeg)]) (rest := []) hx hl1 (fun G sz hR => ctX5_work (xl x) (xD x) w G sz hR a1 (xs ((x3 + 1) : Int32).toNatClampNeg) (xs ((x3 + 2) : Int32).toNatClampNeg) (xs ((x3 + 3) : Int32).toNatClampNeg) (xs ((x3 + 4) : Int32).toNatClampNeg) hl1 hcl_206) rfl my_X5_work ml_L_74 ⟨by decide, by decide⟩ ⟨by have e1 : rmX5_work.cells = 0 := rfl; have e2 : room_1.cells = 600000 := rfl; omega, by have e1 : rmX5_work.slots = 0 := rfl; have e2 : room_1.slots = 7302250 := rfl; omega⟩ rfl rfl (Nat.le_of_ble_eq_true rfl) dL_law_601 rfl ?_
      refine V.wide (cs' := cs) (ss' := ss) (Nat.le_of_eq rfl) (Nat.le_of_eq rfl) ?_
      refine v_aload_n (pc' := 605) hx dL_law_604 rfl rfl ?_
      refine v_aload_n (pc' := 606) hx dL_law_605 rfl rfl ?_
      refine v_iload_n (pc' := 607) hx dL_law_606 rfl rfl ?_
      refine v_iconst (pc' := 608) (v := 1) hx dL_law_607 (by decide) rfl ?_
      refine v_iadd (pc' := 609) hx dL_law_608 rfl ?_
      replace h := ckp_inv h; obtain ⟨hk_209, h⟩ := h
      refine v_sld (pc' := 610) hx hX hk_209 dL_law_609 rfl ?_
      refine v_aload_n (pc' := 611) hx dL_law_610 rfl rfl ?_
      refine v_iload_n (pc' := 612) hx dL_law_611 rfl rfl ?_
      refine v_iconst (pc' := 613) (v := 2) hx dL_law_612 (by decide) rfl ?_
      refine v_iadd (pc' := 614) hx dL_law_613 rfl ?_
      replace h := ckp_inv h; obtain ⟨hk_210, h⟩ := h
      refine v_sld (pc' := 615) hx hX hk_210 dL_law_614 rfl ?_
      refine v_aload_n (pc' := 616) hx dL_law_615 rfl rfl ?_
      refine v_iload_n (pc' := 617) hx dL_law_616 rfl rfl ?_
      refine v_iconst (pc' := 618) (v := 3) hx dL_law_617 (by decide) rfl ?_
      refine v_iadd (pc' := 619) hx dL_law_618 rfl ?_
      replace h := ckp_inv h; obtain ⟨hk_211, h⟩ := h
      refine v_sld (pc' := 620) hx hX hk_211 dL_law_619 rfl ?_
      refine v_aload_n (pc' := 621) hx dL_law_620 rfl rfl ?_
      refine v_iload_n (pc' := 622) hx dL_law_621 rfl rfl ?_
      refine v_iconst (pc' := 623) (v := 4) hx dL_law_622 (by decide) rfl ?_
      refine v_iadd (pc' := 624) hx dL_law_623 rfl ?_
      replace h := ckp_inv h; obtain ⟨hk_212, h⟩ := h
      refine v_sld (pc' := 625) hx hX hk_212 dL_law_624 rfl ?_
      replace h := bd_inv h; obtain ⟨y_214, hcl_213, h⟩ := h
      refine v_callVi (pc' := 628) (w' := w) (r := y_214) (ci := 6) (b := a2) (As := [.int (xs ((x3 + 1) : Int32).toNatClampNeg), .int (xs ((x3 + 2) : Int32).toNatClampNeg), .int (xs ((x3 + 3) : Int32).toNatClampNeg), .int (xs ((x3 + 4) : Int32).toNatClampNeg)]) (rest := [.int y_207]) hx hl2 (fun G sz hR => ctX6_work (xl x) (xD x) w G sz hR a2 (xs ((x3 + 1) : Int32).toNatClampNeg) (xs ((x3 + 2) : Int32).toNatClampNeg) (xs ((x3 + 3) : Int32).toNatClampNeg) (xs ((x3 + 4) : Int32).toNatClampNeg) hl2 hcl_213) rfl my_X6_work ml_L_78 ⟨by decide, by decide⟩ ⟨by have e1 : rmX6_work.cells = 0 := rfl; have e2 : room_1.cells = 600000 := rfl; omega, by have e1 : rmX6_work.slots = 0 := rfl; have e2 : room_1.slots = 7302250 := rfl; omega⟩ rfl rfl (Nat.le_of_ble_eq_true rfl) dL_law_625 rfl ?_
      refine V.wide (cs' := cs) (ss' := ss) (Nat.le_of_eq rfl) (Nat.le_of_eq rfl) ?_
      refine v_icmp_eq (tgt := 808) (pc' := 631) hx dL_law_628 (by decide) rfl (fun hc_216 => ?_) (fun hc_216 => ?_)
      · rw [if_pos hc_216] at h
        refine V.wide (cs' := (cs + 60)) (ss' := (ss + 1184)) (by omega) (by omega) ?_
        exact vL_law_b808 hX hx hq hcs hss hrec18 hl1 hl2 h
      · rw [if_neg hc_216] at h
        refine v_iconst (pc' := 632) (v := 0) hx dL_law_631 (by decide) rfl ?_
        cases h
    rw [if_neg hc_201] at h
    by_cases hc_217 : ((xs (x3 : Int32).toNatClampNeg) &&& 31) = 15
    · rw [if_pos hc_217] at h
      refine v_tblIn (tgt := 633) (off := 600) hx dL_law_33 (by rw [hc_217]; decide) (by rw [hc_217]; decide) (by rw [hc_217]; decide) (by decide) ?_
      refine v_aload_n (pc' := 634) hx dL_law_633 rfl rfl ?_
      refine v_aload_n (pc' := 635) hx dL_law_634 rfl rfl ?_
      refine v_iload_n (pc' := 636) hx dL_law_635 rfl rfl ?_
      refine v_iconst (pc' := 637) (v := 1) hx dL_law_636 (by decide) rfl ?_
      refine v_iadd (pc' := 638) hx dL_law_637 rfl ?_
      replace h := ckp_inv h; obtain ⟨hk_218, h⟩ := h
      refine v_sld (pc' := 639) hx hX hk_218 dL_law_638 rfl ?_
      refine v_aload_n (pc' := 640) hx dL_law_639 rfl rfl ?_
      refine v_iload_n (pc' := 641) hx dL_law_640 rfl rfl ?_
      refine v_iconst (pc' := 642) (v := 2) hx dL_law_641 (by decide) rfl ?_
      refine v_iadd (pc' := 643) hx dL_law_642 rfl ?_
      replace h := ckp_inv h; obtain ⟨hk_219, h⟩ := h
      refine v_sld (pc' := 644) hx hX hk_219 dL_law_643 rfl ?_
      refine v_aload_n (pc' := 645) hx dL_law_644 rfl rfl ?_
      refine v_iload_n (pc' := 646) hx dL_law_645 rfl rfl ?_
      refine v_iconst (pc' := 647) (v := 3) hx dL_law_646 (by decide) rfl ?_
      refine v_iadd (pc' := 648) hx dL_law_647 rfl ?_
      replace h := ckp_inv h; obtain ⟨hk_220, h⟩ := h
      refine v_sld (pc' := 649) hx hX hk_220 dL_law_648 rfl ?_
      replace h := bd_inv h; obtain ⟨y_222, hcl_221, h⟩ := h
      refine v_callVi (pc' := 652) (w' := w) (r := y_222) (ci := 5) (b := a1) (As := [.int (xs ((x3 + 1) : Int32).toNatClampNeg), .int (xs ((x3 + 2) : Int32).toNatClampNeg), .int (xs ((x3 + 3) : Int32).toNatClampNeg)]) (rest := []) hx hl1 (fun G sz hR => ctX5_distance (xl x) (xD x) w G sz hR a1 (xs ((x3 + 1) : Int32).toNatClampNeg) (xs ((x3 + 2) : Int32).toNatClampNeg) (xs ((x3 + 3) : Int32).toNatClampNeg) hl1 hcl_221) rfl my_X5_distance ml_L_79 ⟨by decide, by decide⟩ ⟨by have e1 : rmX5_distance.cells = 0 := rfl; have e2 : room_1.cells = 600000 := rfl; omega, by have e1 : rmX5_distance.slots = 0 := rfl; have e2 : room_1.slots = 7302250 := rfl; omega⟩ rfl rfl (Nat.le_of_ble_eq_true rfl) dL_law_649 rfl ?_
      refine V.wide (cs' := cs) (ss' := ss) (Nat.le_of_eq rfl) (Nat.le_of_eq rfl) ?_
      refine v_aload_n (pc' := 653) hx dL_law_652 rfl rfl ?_
      refine v_aload_n (pc' := 654) hx dL_law_653 rfl rfl ?_
      refine v_iload_n (pc' := 655) hx dL_law_654 rfl rfl ?_
      refine v_iconst (pc' := 656) (v := 1) hx dL_law_655 (by decide) rfl ?_
      refine v_iadd (pc' := 657) hx dL_law_656 rfl ?_
      replace h := ckp_inv h; obtain ⟨hk_224, h⟩ := h
      refine v_sld (pc' := 658) hx hX hk_224 dL_law_657 rfl ?_
      refine v_aload_n (pc' := 659) hx dL_law_658 rfl rfl ?_
      refine v_iload_n (pc' := 660) hx dL_law_659 rfl rfl ?_
      refine v_iconst (pc' := 661) (v := 2) hx dL_law_660 (by decide) rfl ?_
      refine v_iadd (pc' := 662) hx dL_law_661 rfl ?_
      replace h := ckp_inv h; obtain ⟨hk_225, h⟩ := h
      refine v_sld (pc' := 663) hx hX hk_225 dL_law_662 rfl ?_
      refine v_aload_n (pc' := 664) hx dL_law_663 rfl rfl ?_
      refine v_iload_n (pc' := 665) hx dL_law_664 rfl rfl ?_
      refine v_iconst (pc' := 666) (v := 3) hx dL_law_665 (by decide) rfl ?_
      refine v_iadd (pc' := 667) hx dL_law_666 rfl ?_
      replace h := ckp_inv h; obtain ⟨hk_226, h⟩ := h
      refine v_sld (pc' := 668) hx hX hk_226 dL_law_667 rfl ?_
      replace h := bd2_inv h; obtain ⟨y_228, w_229, hcl_227, h⟩ := h
      refine v_wf (fun hwf_230 => ?_)
      refine v_callVi (pc' := 671) (w' := w_229) (r := y_228) (ci := 6) (b := a2) (As := [.int (xs ((x3 + 1) : Int32).toNatClampNeg), .int (xs ((x3 + 2) : Int32).toNatClampNeg), .int (xs ((x3 + 3) : Int32).toNatClampNeg)]) (rest := [.int y_222]) hx hl2 (fun G sz hR => ctX6_distance (xl x) (xD x) w G sz hR a2 (xs ((x3 + 1) : Int32).toNatClampNeg) (xs ((x3 + 2) : Int32).toNatClampNeg) (xs ((x3 + 3) : Int32).toNatClampNeg) hl2 hcl_227) rfl my_X6_distance ml_L_82 ⟨by decide, by decide⟩ ⟨by have e1 : rmX6_distance.cells = 0 := rfl; have e2 : room_1.cells = 600000 := rfl; omega, by have e1 : rmX6_distance.slots = 0 := rfl; have e2 : room_1.slots = 7302250 := rfl; omega⟩ rfl rfl (Nat.le_of_ble_eq_true rfl) dL_law_668 rfl ?_
      refine V.wide (cs' := cs) (ss' := ss) (Nat.le_of_eq rfl) (Nat.le_of_eq rfl) ?_
      have hm_232 := kX6_distance hcl_227 hwf_230
      have hl_233 : zL w_229 5 a1 = true := (hm_232.2 _ _ hl1).1
      have hl_234 : zL w_229 6 a2 = true := (hm_232.2 _ _ hl2).1
      refine v_icmp_eq (tgt := 808) (pc' := 674) hx dL_law_671 (by decide) rfl (fun hc_235 => ?_) (fun hc_235 => ?_)
      · rw [if_pos hc_235] at h
        refine V.wide (cs' := (cs + 60)) (ss' := (ss + 1184)) (by omega) (by omega) ?_
        exact vL_law_b808 hX hx hq hcs hss hrec18 hl_233 hl_234 h
      · rw [if_neg hc_235] at h
        refine v_iconst (pc' := 675) (v := 0) hx dL_law_674 (by decide) rfl ?_
        cases h
    rw [if_neg hc_217] at h
    by_cases hc_236 : ((xs (x3 : Int32).toNatClampNeg) &&& 31) = 16
    · rw [if_pos hc_236] at h
      refine v_tblIn (tgt := 676) (off := 643) hx dL_law_33 (by rw [hc_236]; decide) (by rw [hc_236]; decide) (by rw [hc_236]; decide) (by decide) ?_
      refine v_aload_n (pc' := 677) hx dL_law_676 rfl rfl ?_
      refine v_aload_n (pc' := 678) hx dL_law_677 rfl rfl ?_
      refine v_iload_n (pc' := 679) hx dL_law_678 rfl rfl ?_
      refine v_iconst (pc' := 680) (v := 1) hx dL_law_679 (by decide) rfl ?_
      refine v_iadd (pc' := 681) hx dL_law_680 rfl ?_
      replace h := ckp_inv h; obtain ⟨hk_237, h⟩ := h
      refine v_sld (pc' := 682) hx hX hk_237 dL_law_681 rfl ?_
      refine v_aload_n (pc' := 683) hx dL_law_682 rfl rfl ?_
      refine v_iload_n (pc' := 684) hx dL_law_683 rfl rfl ?_
      refine v_iconst (pc' := 685) (v := 2) hx dL_law_684 (by decide) rfl ?_
      refine v_iadd (pc' := 686) hx dL_law_685 rfl ?_
      replace h := ckp_inv h; obtain ⟨hk_238, h⟩ := h
      refine v_sld (pc' := 687) hx hX hk_238 dL_law_686 rfl ?_
      replace h := bd_inv h; obtain ⟨y_240, hcl_239, h⟩ := h
      refine v_callVi (pc' := 690) (w' := w) (r := y_240) (ci := 5) (b := a1) (As := [.int (xs ((x3 + 1) : Int32).toNatClampNeg), .int (xs ((x3 + 2) : Int32).toNatClampNeg)]) (rest := []) hx hl1 (fun G sz hR => ctX5_heaps (xl x) (xD x) w G sz hR a1 (xs ((x3 + 1) : Int32).toNatClampNeg) (xs ((x3 + 2) : Int32).toNatClampNeg) hl1 hcl_239) rfl my_X5_heaps ml_L_83 ⟨by decide, by decide⟩ ⟨by have e1 : rmX5_heaps.cells = 0 := rfl; have e2 : room_1.cells = 600000 := rfl; omega, by have e1 : rmX5_heaps.slots = 0 := rfl; have e2 : room_1.slots = 7302250 := rfl; omega⟩ rfl rfl (Nat.le_of_ble_eq_true rfl) dL_law_687 rfl ?_
      refine V.wide (cs' := cs) (ss' := ss) (Nat.le_of_eq rfl) (Nat.le_of_eq rfl) ?_
      refine v_aload_n (pc' := 691) hx dL_law_690 rfl rfl ?_
      refine v_aload_n (pc' := 692) hx dL_law_691 rfl rfl ?_
      refine v_iload_n (pc' := 693) hx dL_law_692 rfl rfl ?_
      refine v_iconst (pc' := 694) (v := 1) hx dL_law_693 (by decide) rfl ?_
      refine v_iadd (pc' := 695) hx dL_law_694 rfl ?_
      replace h := ckp_inv h; obtain ⟨hk_242, h⟩ := h
      refine v_sld (pc' := 696) hx hX hk_242 dL_law_695 rfl ?_
      refine v_aload_n (pc' := 697) hx dL_law_696 rfl rfl ?_
      refine v_iload_n (pc' := 698) hx dL_law_697 rfl rfl ?_
      refine v_iconst (pc' := 699) (v := 2) hx dL_law_698 (by decide) rfl ?_
      refine v_iadd (pc' := 700) hx dL_law_699 rfl ?_
      replace h := ckp_inv h; obtain ⟨hk_243, h⟩ := h
      refine v_sld (pc' := 701) hx hX hk_243 dL_law_700 rfl ?_
      replace h := bd2_inv h; obtain ⟨y_245, w_246, hcl_244, h⟩ := h
      refine v_wf (fun hwf_247 => ?_)
      refine v_callVi (pc' := 704) (w' := w_246) (r := y_245) (ci := 6) (b := a2) (As := [.int (xs ((x3 + 1) : Int32).toNatClampNeg), .int (xs ((x3 + 2) : Int32).toNatClampNeg)]) (rest := [.int y_240]) hx hl2 (fun G sz hR => ctX6_heaps (xl x) (xD x) w G sz hR a2 (xs ((x3 + 1) : Int32).toNatClampNeg) (xs ((x3 + 2) : Int32).toNatClampNeg) hl2 hcl_244) rfl my_X6_heaps ml_L_86 ⟨by decide, by decide⟩ ⟨by have e1 : rmX6_heaps.cells = 0 := rfl; have e2 : room_1.cells = 600000 := rfl; omega, by have e1 : rmX6_heaps.slots = 0 := rfl; have e2 : room_1.slots = 7302250 := rfl; omega⟩ rfl rfl (Nat.le_of_ble_eq_true rfl) dL_law_701 rfl ?_
      refine V.wide (cs' := cs) (ss' := ss) (Nat.le_of_eq rfl) (Nat.le_of_eq rfl) ?_
      have hm_249 := kX6_heaps hcl_244 hwf_247
      have hl_250 : zL w_246 5 a1 = true := (hm_249.2 _ _ hl1).1
      have hl_251 : zL w_246 6 a2 = true := (hm_249.2 _ _ hl2).1
      refine v_icmp_eq (tgt := 808) (pc' := 707) hx dL_law_704 (by decide) rfl (fun hc_252 => ?_) (fun hc_252 => ?_)
      · rw [if_pos hc_252] at h
        refine V.wide (cs' := (cs + 60)) (ss' := (ss + 1184)) (by omega) (by omega) ?_
        exact vL_law_b808 hX hx hq hcs hss hrec18 hl_250 hl_251 h
      · rw [if_neg hc_252] at h
        refine v_iconst (pc' := 708) (v := 0) hx dL_law_707 (by decide) rfl ?_
        cases h
    rw [if_neg hc_236] at h
    by_cases hc_253 : ((xs (x3 : Int32).toNatClampNeg) &&& 31) = 17
    · rw [if_pos hc_253] at h
      refine v_tblIn (tgt := 709) (off := 676) hx dL_law_33 (by rw [hc_253]; decide) (by rw [hc_253]; decide) (by rw [hc_253]; decide) (by decide) ?_
      refine v_aload_n (pc' := 710) hx dL_law_709 rfl rfl ?_
      refine v_aload_n (pc' := 711) hx dL_law_710 rfl rfl ?_
      refine v_iload_n (pc' := 712) hx dL_law_711 rfl rfl ?_
      refine v_iconst (pc' := 713) (v := 1) hx dL_law_712 (by decide) rfl ?_
      refine v_iadd (pc' := 714) hx dL_law_713 rfl ?_
      replace h := ckp_inv h; obtain ⟨hk_254, h⟩ := h
      refine v_sld (pc' := 715) hx hX hk_254 dL_law_714 rfl ?_
      refine v_aload_n (pc' := 716) hx dL_law_715 rfl rfl ?_
      refine v_iload_n (pc' := 717) hx dL_law_716 rfl rfl ?_
      refine v_iconst (pc' := 718) (v := 2) hx dL_law_717 (by decide) rfl ?_
      refine v_iadd (pc' := 719) hx dL_law_718 rfl ?_
      replace h := ckp_inv h; obtain ⟨hk_255, h⟩ := h
      refine v_sld (pc' := 720) hx hX hk_255 dL_law_719 rfl ?_
      refine v_aload_n (pc' := 721) hx dL_law_720 rfl rfl ?_
      refine v_iload_n (pc' := 722) hx dL_law_721 rfl rfl ?_
      refine v_iconst (pc' := 723) (v := 3) hx dL_law_722 (by decide) rfl ?_
      refine v_iadd (pc' := 724) hx dL_law_723 rfl ?_
      replace h := ckp_inv h; obtain ⟨hk_256, h⟩ := h
      refine v_sld (pc' := 725) hx hX hk_256 dL_law_724 rfl ?_
      replace h := bd_inv h; obtain ⟨y_258, hcl_257, h⟩ := h
      refine v_callVi (pc' := 728) (w' := w) (r := y_258) (ci := 5) (b := a1) (As := [.int (xs ((x3 + 1) : Int32).toNatClampNeg), .int (xs ((x3 + 2) : Int32).toNatClampNeg), .int (xs ((x3 + 3) : Int32).toNatClampNeg)]) (rest := []) hx hl1 (fun G sz hR => ctX5_heap (xl x) (xD x) w G sz hR a1 (xs ((x3 + 1) : Int32).toNatClampNeg) (xs ((x3 + 2) : Int32).toNatClampNeg) (xs ((x3 + 3) : Int32).toNatClampNeg) hl1 hcl_257) rfl my_X5_heap ml_L_87 ⟨by decide, by decide⟩ ⟨by have e1 : rmX5_heap.cells = 0 := rfl; have e2 : room_1.cells = 600000 := rfl; omega, by have e1 : rmX5_heap.slots = 0 := rfl; have e2 : room_1.slots = 7302250 := rfl; omega⟩ rfl rfl (Nat.le_of_ble_eq_true rfl) dL_law_725 rfl ?_
      refine V.wide (cs' := cs) (ss' := ss) (Nat.le_of_eq rfl) (Nat.le_of_eq rfl) ?_
      refine v_aload_n (pc' := 729) hx dL_law_728 rfl rfl ?_
      refine v_aload_n (pc' := 730) hx dL_law_729 rfl rfl ?_
      refine v_iload_n (pc' := 731) hx dL_law_730 rfl rfl ?_
      refine v_iconst (pc' := 732) (v := 1) hx dL_law_731 (by decide) rfl ?_
      refine v_iadd (pc' := 733) hx dL_law_732 rfl ?_
      replace h := ckp_inv h; obtain ⟨hk_260, h⟩ := h
      refine v_sld (pc' := 734) hx hX hk_260 dL_law_733 rfl ?_
      refine v_aload_n (pc' := 735) hx dL_law_734 rfl rfl ?_
      refine v_iload_n (pc' := 736) hx dL_law_735 rfl rfl ?_
      refine v_iconst (pc' := 737) (v := 2) hx dL_law_736 (by decide) rfl ?_
      refine v_iadd (pc' := 738) hx dL_law_737 rfl ?_
      replace h := ckp_inv h; obtain ⟨hk_261, h⟩ := h
      refine v_sld (pc' := 739) hx hX hk_261 dL_law_738 rfl ?_
      refine v_aload_n (pc' := 740) hx dL_law_739 rfl rfl ?_
      refine v_iload_n (pc' := 741) hx dL_law_740 rfl rfl ?_
      refine v_iconst (pc' := 742) (v := 3) hx dL_law_741 (by decide) rfl ?_
      refine v_iadd (pc' := 743) hx dL_law_742 rfl ?_
      replace h := ckp_inv h; obtain ⟨hk_262, h⟩ := h
      refine v_sld (pc' := 744) hx hX hk_262 dL_law_743 rfl ?_
      replace h := bd2_inv h; obtain ⟨y_264, w_265, hcl_263, h⟩ := h
      refine v_wf (fun hwf_266 => ?_)
      refine v_callVi (pc' := 747) (w' := w_265) (r := y_264) (ci := 6) (b := a2) (As := [.int (xs ((x3 + 1) : Int32).toNatClampNeg), .int (xs ((x3 + 2) : Int32).toNatClampNeg), .int (xs ((x3 + 3) : Int32).toNatClampNeg)]) (rest := [.int y_258]) hx hl2 (fun G sz hR => ctX6_heap (xl x) (xD x) w G sz hR a2 (xs ((x3 + 1) : Int32).toNatClampNeg) (xs ((x3 + 2) : Int32).toNatClampNeg) (xs ((x3 + 3) : Int32).toNatClampNeg) hl2 hcl_263) rfl my_X6_heap ml_L_90 ⟨by decide, by decide⟩ ⟨by have e1 : rmX6_heap.cells = 0 := rfl; have e2 : room_1.cells = 600000 := rfl; omega, by have e1 : rmX6_heap.slots = 0 := rfl; have e2 : room_1.slots = 7302250 := rfl; omega⟩ rfl rfl (Nat.le_of_ble_eq_true rfl) dL_law_744 rfl ?_
      refine V.wide (cs' := cs) (ss' := ss) (Nat.le_of_eq rfl) (Nat.le_of_eq rfl) ?_
      have hm_268 := kX6_heap hcl_263 hwf_266
      have hl_269 : zL w_265 5 a1 = true := (hm_268.2 _ _ hl1).1
      have hl_270 : zL w_265 6 a2 = true := (hm_268.2 _ _ hl2).1
      refine v_icmp_eq (tgt := 808) (pc' := 750) hx dL_law_747 (by decide) rfl (fun hc_271 => ?_) (fun hc_271 => ?_)
      · rw [if_pos hc_271] at h
        refine V.wide (cs' := (cs + 60)) (ss' := (ss + 1184)) (by omega) (by omega) ?_
        exact vL_law_b808 hX hx hq hcs hss hrec18 hl_269 hl_270 h
      · rw [if_neg hc_271] at h
        refine v_iconst (pc' := 751) (v := 0) hx dL_law_750 (by decide) rfl ?_
        cases h
    rw [if_neg hc_253] at h
    by_cases hc_272 : ((xs (x3 : Int32).toNatClampNeg) &&& 31) = 18
    · rw [if_pos hc_272] at h
      refine v_tblIn (tgt := 752) (off := 719) hx dL_law_33 (by rw [hc_272]; decide) (by rw [hc_272]; decide) (by rw [hc_272]; decide) (by decide) ?_
      refine v_aload_n (pc' := 753) hx dL_law_752 rfl rfl ?_
      refine v_aload_n (pc' := 754) hx dL_law_753 rfl rfl ?_
      refine v_iload_n (pc' := 755) hx dL_law_754 rfl rfl ?_
      refine v_iconst (pc' := 756) (v := 1) hx dL_law_755 (by decide) rfl ?_
      refine v_iadd (pc' := 757) hx dL_law_756 rfl ?_
      replace h := ckp_inv h; obtain ⟨hk_273, h⟩ := h
      refine v_sld (pc' := 758) hx hX hk_273 dL_law_757 rfl ?_
      replace h := bd_inv h; obtain ⟨y_275, hcl_274, h⟩ := h
      refine v_callVi (pc' := 761) (w' := w) (r := y_275) (ci := 5) (b := a1) (As := [.int (xs ((x3 + 1) : Int32).toNatClampNeg)]) (rest := []) hx hl1 (fun G sz hR => ctX5_order (xl x) (xD x) w G sz hR a1 (xs ((x3 + 1) : Int32).toNatClampNeg) hl1 hcl_274) rfl my_X5_order ml_L_91 ⟨by decide, by decide⟩ ⟨by have e1 : rmX5_order.cells = 0 := rfl; have e2 : room_1.cells = 600000 := rfl; omega, by have e1 : rmX5_order.slots = 0 := rfl; have e2 : room_1.slots = 7302250 := rfl; omega⟩ rfl rfl (Nat.le_of_ble_eq_true rfl) dL_law_758 rfl ?_
      refine V.wide (cs' := cs) (ss' := ss) (Nat.le_of_eq rfl) (Nat.le_of_eq rfl) ?_
      refine v_aload_n (pc' := 762) hx dL_law_761 rfl rfl ?_
      refine v_aload_n (pc' := 763) hx dL_law_762 rfl rfl ?_
      refine v_iload_n (pc' := 764) hx dL_law_763 rfl rfl ?_
      refine v_iconst (pc' := 765) (v := 1) hx dL_law_764 (by decide) rfl ?_
      refine v_iadd (pc' := 766) hx dL_law_765 rfl ?_
      replace h := ckp_inv h; obtain ⟨hk_277, h⟩ := h
      refine v_sld (pc' := 767) hx hX hk_277 dL_law_766 rfl ?_
      replace h := bd_inv h; obtain ⟨y_279, hcl_278, h⟩ := h
      refine v_callVi (pc' := 770) (w' := w) (r := y_279) (ci := 6) (b := a2) (As := [.int (xs ((x3 + 1) : Int32).toNatClampNeg)]) (rest := [.int y_275]) hx hl2 (fun G sz hR => ctX6_order (xl x) (xD x) w G sz hR a2 (xs ((x3 + 1) : Int32).toNatClampNeg) hl2 hcl_278) rfl my_X6_order ml_L_94 ⟨by decide, by decide⟩ ⟨by have e1 : rmX6_order.cells = 0 := rfl; have e2 : room_1.cells = 600000 := rfl; omega, by have e1 : rmX6_order.slots = 0 := rfl; have e2 : room_1.slots = 7302250 := rfl; omega⟩ rfl rfl (Nat.le_of_ble_eq_true rfl) dL_law_767 rfl ?_
      refine V.wide (cs' := cs) (ss' := ss) (Nat.le_of_eq rfl) (Nat.le_of_eq rfl) ?_
      refine v_icmp_eq (tgt := 808) (pc' := 773) hx dL_law_770 (by decide) rfl (fun hc_281 => ?_) (fun hc_281 => ?_)
      · rw [if_pos hc_281] at h
        refine V.wide (cs' := (cs + 60)) (ss' := (ss + 1184)) (by omega) (by omega) ?_
        exact vL_law_b808 hX hx hq hcs hss hrec18 hl1 hl2 h
      · rw [if_neg hc_281] at h
        refine v_iconst (pc' := 774) (v := 0) hx dL_law_773 (by decide) rfl ?_
        cases h
    rw [if_neg hc_272] at h
    by_cases hc_282 : ((xs (x3 : Int32).toNatClampNeg) &&& 31) = 19
    · rw [if_pos hc_282] at h
      refine v_tblIn (tgt := 775) (off := 742) hx dL_law_33 (by rw [hc_282]; decide) (by rw [hc_282]; decide) (by rw [hc_282]; decide) (by decide) ?_
      refine v_aload_n (pc' := 776) hx dL_law_775 rfl rfl ?_
      refine v_aload_n (pc' := 777) hx dL_law_776 rfl rfl ?_
      refine v_iload_n (pc' := 778) hx dL_law_777 rfl rfl ?_
      refine v_iconst (pc' := 779) (v := 1) hx dL_law_778 (by decide) rfl ?_
      refine v_iadd (pc' := 780) hx dL_law_779 rfl ?_
      replace h := ckp_inv h; obtain ⟨hk_283, h⟩ := h
      refine v_sld (pc' := 781) hx hX hk_283 dL_law_780 rfl ?_
      refine v_aload_n (pc' := 782) hx dL_law_781 rfl rfl ?_
      refine v_iload_n (pc' := 783) hx dL_law_782 rfl rfl ?_
      refine v_iconst (pc' := 784) (v := 2) hx dL_law_783 (by decide) rfl ?_
      refine v_iadd (pc' := 785) hx dL_law_784 rfl ?_
      replace h := ckp_inv h; obtain ⟨hk_284, h⟩ := h
      refine v_sld (pc' := 786) hx hX hk_284 dL_law_785 rfl ?_
      replace h := bd_inv h; obtain ⟨y_286, hcl_285, h⟩ := h
      refine v_callVi (pc' := 789) (w' := w) (r := y_286) (ci := 5) (b := a1) (As := [.int (xs ((x3 + 1) : Int32).toNatClampNeg), .int (xs ((x3 + 2) : Int32).toNatClampNeg)]) (rest := []) hx hl1 (fun G sz hR => ctX5_count (xl x) (xD x) w G sz hR a1 (xs ((x3 + 1) : Int32).toNatClampNeg) (xs ((x3 + 2) : Int32).toNatClampNeg) hl1 hcl_285) rfl my_X5_count ml_L_95 ⟨by decide, by decide⟩ ⟨by have e1 : rmX5_count.cells = 0 := rfl; have e2 : room_1.cells = 600000 := rfl; omega, by have e1 : rmX5_count.slots = 0 := rfl; have e2 : room_1.slots = 7302250 := rfl; omega⟩ rfl rfl (Nat.le_of_ble_eq_true rfl) dL_law_786 rfl ?_
      refine V.wide (cs' := cs) (ss' := ss) (Nat.le_of_eq rfl) (Nat.le_of_eq rfl) ?_
      refine v_aload_n (pc' := 790) hx dL_law_789 rfl rfl ?_
      refine v_aload_n (pc' := 791) hx dL_law_790 rfl rfl ?_
      refine v_iload_n (pc' := 792) hx dL_law_791 rfl rfl ?_
      refine v_iconst (pc' := 793) (v := 1) hx dL_law_792 (by decide) rfl ?_
      refine v_iadd (pc' := 794) hx dL_law_793 rfl ?_
      replace h := ckp_inv h; obtain ⟨hk_288, h⟩ := h
      refine v_sld (pc' := 795) hx hX hk_288 dL_law_794 rfl ?_
      refine v_aload_n (pc' := 796) hx dL_law_795 rfl rfl ?_
      refine v_iload_n (pc' := 797) hx dL_law_796 rfl rfl ?_
      refine v_iconst (pc' := 798) (v := 2) hx dL_law_797 (by decide) rfl ?_
      refine v_iadd (pc' := 799) hx dL_law_798 rfl ?_
      replace h := ckp_inv h; obtain ⟨hk_289, h⟩ := h
      refine v_sld (pc' := 800) hx hX hk_289 dL_law_799 rfl ?_
      replace h := bd_inv h; obtain ⟨y_291, hcl_290, h⟩ := h
      refine v_callVi (pc' := 803) (w' := w) (r := y_291) (ci := 6) (b := a2) (As := [.int (xs ((x3 + 1) : Int32).toNatClampNeg), .int (xs ((x3 + 2) : Int32).toNatClampNeg)]) (rest := [.int y_286]) hx hl2 (fun G sz hR => ctX6_count (xl x) (xD x) w G sz hR a2 (xs ((x3 + 1) : Int32).toNatClampNeg) (xs ((x3 + 2) : Int32).toNatClampNeg) hl2 hcl_290) rfl my_X6_count ml_L_98 ⟨by decide, by decide⟩ ⟨by have e1 : rmX6_count.cells = 0 := rfl; have e2 : room_1.cells = 600000 := rfl; omega, by have e1 : rmX6_count.slots = 0 := rfl; have e2 : room_1.slots = 7302250 := rfl; omega⟩ rfl rfl (Nat.le_of_ble_eq_true rfl) dL_law_800 rfl ?_
      refine V.wide (cs' := cs) (ss' := ss) (Nat.le_of_eq rfl) (Nat.le_of_eq rfl) ?_
      refine v_icmp_eq (tgt := 808) (pc' := 806) hx dL_law_803 (by decide) rfl (fun hc_293 => ?_) (fun hc_293 => ?_)
      · rw [if_pos hc_293] at h
        refine V.wide (cs' := (cs + 60)) (ss' := (ss + 1184)) (by omega) (by omega) ?_
        exact vL_law_b808 hX hx hq hcs hss hrec18 hl1 hl2 h
      · rw [if_neg hc_293] at h
        refine v_iconst (pc' := 807) (v := 0) hx dL_law_806 (by decide) rfl ?_
        cases h
    rw [if_neg hc_282] at h
    refine v_tblOut (tgt := 808) hx dL_law_33 (sw_out (fun i h1 h2 => by rcases (show i = 0 ∨ i = 1 ∨ i = 2 ∨ i = 3 ∨ i = 4 ∨ i = 5 ∨ i = 6 ∨ i = 7 ∨ i = 8 ∨ i = 9 ∨ i = 10 ∨ i = 11 ∨ i = 12 ∨ i = 13 ∨ i = 14 ∨ i = 15 ∨ i = 16 ∨ i = 17 ∨ i = 18 ∨ i = 19 by omega) with rfl | rfl | rfl | rfl | rfl | rfl | rfl | rfl | rfl | rfl | rfl | rfl | rfl | rfl | rfl | rfl | rfl | rfl | rfl | rfl <;> assumption)) (by decide) ?_
    refine V.wide (cs' := (cs + 60)) (ss' := (ss + 1184)) (by omega) (by omega) ?_
    exact vL_law_b808 hX hx hq hcs hss hrec18 hl1 hl2 h
theorem vL_law_l18 {x : CT} {xs : Nat → Int32} {n b : Nat} (hX : LX x b n xs) (hx : CX x cL_law RL room_1 (some .boolean)) (hq : RLw x b) : ∀ (fu cs ss : Nat) (_ : cs + 60 * fu ≤ 600000) (_ : ss + 1184 * fu ≤ 7302250) (a1 : Nat) (a2 : Nat) (x3 : Int32) (w : Wd), (zL w 5 a1 = true) → (zL w 6 a2 = true) → fL_law_l18 xs n  fu a1 a2 x3 w = some () → V x 18 [some (.ref b), some (.ref a1), some (.ref a2), some (.int x3)] [] (Rp (xD x) w) cs ss := by
  intro fu
  induction fu with
  | zero => intro cs ss hcs hss a1 a2 x3 w hl1 hl2 h; cases h
  | succ fu ih =>
    intro cs ss hcs hss a1 a2 x3 w hl1 hl2 h
    rw [fL_law_l18] at h
    exact vL_law_b18 hX hx hq hcs hss  (fun a1 a2 x3 w h hl1 hl2 => ih (cs + 60) (ss + 1184) (by omega) (by omega) a1 a2 x3 w hl1 hl2 h) hl1 hl2 h
theorem vL_law {x : CT} {xs : Nat → Int32} {n b : Nat} (hX : LX x b n xs) (hx : CX x cL_law RL room_1 (some .boolean)) {w : Wd} (hq : RLw x b) (h : fL_law xs n w = some ()) : V x 0 [some (.ref b), none, none, none] [] (Rp (xD x) w) 0 0 := by
  unfold fL_law at h
  refine v_wf (fun hwf_3 => ?_)
  refine v_new (pc' := 3) (c := 5) hx (by decide) nw_L_7 ⟨by decide, by decide⟩ dL_law_0 rfl ?_
  replace h := lt_inv h; obtain ⟨g_1, eq_2, h⟩ := h
  rw [← eq_2]
  refine V.wide (cs' := 1) (ss' := 6) (Nat.le_of_eq rfl) (Nat.le_of_eq rfl) ?_
  refine v_dup (pc' := 4) hx dL_law_3 rfl rfl ?_
  subst eq_2
  refine v_callIv (pc' := 7) (w' := nwX5 w ) (b := zS w) (As := []) (rest := [.ref (zS w)]) hx (fun G sz hR => ctX5_init (xl x) (xD x) w G sz hR  ) my_X5_init ml_L_9 ⟨by decide, by decide⟩ ⟨by decide, by decide⟩ rfl rfl (Nat.le_of_ble_eq_true rfl) dL_law_4 rfl ?_
  refine V.wide (cs' := 8) (ss' := 370) (Nat.le_of_eq rfl) (Nat.le_of_eq rfl) ?_
  replace h := lt_inv h; obtain ⟨w_4, ew_5, h⟩ := h
  rw [← ew_5]
  have hm_6 : WF w_4 ∧ ∀ c a, zL w c a = true → zL w_4 c a = true ∧ ∀ k, zA w_4 c a k = zA w c a k := by rw [ew_5]; exact mo_nwX5 w  hwf_3
  have hl_7 : zL w_4 5 (zS w) = true := by rw [ew_5]; exact lv_nwX5 w 
  refine v_astore_n (pc' := 8) (L' := [some (.ref b), some (.ref (zS w)), none, none]) hx dL_law_7 rfl rfl (Nat.le_of_ble_eq_true rfl) ?_
  refine v_new (pc' := 11) (c := 6) hx (by decide) nw_L_10 ⟨by decide, by decide⟩ dL_law_8 rfl ?_
  replace h := lt_inv h; obtain ⟨g_8, eq_9, h⟩ := h
  rw [← eq_9]
  refine V.wide (cs' := 9) (ss' := 401) (Nat.le_of_eq rfl) (Nat.le_of_eq rfl) ?_
  refine v_dup (pc' := 12) hx dL_law_11 rfl rfl ?_
  subst eq_9
  refine v_callIv (pc' := 15) (w' := nwX6 w_4 ) (b := zS w_4) (As := []) (rest := [.ref (zS w_4)]) hx (fun G sz hR => ctX6_init (xl x) (xD x) w_4 G sz hR  ) my_X6_init ml_L_12 ⟨by decide, by decide⟩ ⟨by decide, by decide⟩ rfl rfl (Nat.le_of_ble_eq_true rfl) dL_law_12 rfl ?_
  refine V.wide (cs' := 25) (ss' := 4426) (Nat.le_of_eq rfl) (Nat.le_of_eq rfl) ?_
  replace h := lt_inv h; obtain ⟨w_10, ew_11, h⟩ := h
  rw [← ew_11]
  have hm_12 : WF w_10 ∧ ∀ c a, zL w_4 c a = true → zL w_10 c a = true ∧ ∀ k, zA w_10 c a k = zA w_4 c a k := by rw [ew_11]; exact mo_nwX6 w_4  hm_6.1
  have hl_13 : zL w_10 6 (zS w_4) = true := by rw [ew_11]; exact lv_nwX6 w_4 
  have hl_14 : zL w_10 5 (zS w) = true := (hm_12.2 _ _ hl_7).1
  refine v_astore_n (pc' := 16) (L' := [some (.ref b), some (.ref (zS w)), some (.ref (zS w_4)), none]) hx dL_law_15 rfl rfl (Nat.le_of_ble_eq_true rfl) ?_
  refine v_iconst (pc' := 17) (v := 0) hx dL_law_16 (by decide) rfl ?_
  refine v_istore_n (pc' := 18) (L' := [some (.ref b), some (.ref (zS w)), some (.ref (zS w_4)), some (.int 0)]) hx dL_law_17 rfl rfl (Nat.le_of_ble_eq_true rfl) ?_
  exact vL_law_l18 hX hx hq 513 25 4426 (by decide) (by decide) (zS w) (zS w_4) 0 w_10 hl_14 hl_13 h
