def fX4_append_b46 (w : Wd) : Option (Wd) := (some w)
def fX4_append_b3 (rec3 : Nat → Int32 → Int32 → Wd → Option (Wd)) (a0 : Nat) (x1 : Int32) (x2 : Int32) (w : Wd) : Option (Wd) := (if x2 < 0 then (fX4_append_b46 w) else (if 300 ≤ (zI w 4 a0 1 0) then (fX4_append_b46 w) else (ckp (ix (zI w 4 a0 1 0) 300 = true) (lt' (sI w 4 a0 0 ((zI w 4 a0 1 0) : Int32).toNatClampNeg (vp_nar .byte (((x1 >>> (x2 &&& 31)) : Int32).toInt8.toInt32))) (fun w_6 => (lt' (sI w_6 4 a0 1 0 ((zI w_6 4 a0 1 0) + 1)) (fun w_9 => (rec3 a0 x1 (x2 + (-8)) w_9))))))))
def fX4_append_l3 : Nat → Nat → Int32 → Int32 → Wd → Option (Wd)
  | 0, _, _, _, _ => none
  | n + 1, a0, x1, x2, w => fX4_append_b3  (fX4_append_l3  n) a0 x1 x2 w
def fX4_append (a0 : Nat) (x1 : Int32) (w : Wd) : Option (Wd) := (fX4_append_l3 1000 a0 x1 24 w)
def fX5_feed (a0 : Nat) (x1 : Int32) (x2 : Int32) (x3 : Int32) (x4 : Int32) (x5 : Int32) (w : Wd) : Option (Int32 × Wd) := (lt' (zR w 5 a0 0 0) (fun u_1 => (nn u_1 (fun b_5 => (if (zI w 4 b_5 1 0) ≤ 280 then (lt' (zR w 5 a0 0 0) (fun u_8 => (nn u_8 (fun b_12 => (bd (fX4_append b_12 x1 w) (fun w_15 => (lt' (zR w_15 5 a0 0 0) (fun u_20 => (nn u_20 (fun b_24 => (bd (fX4_append b_24 x2 w_15) (fun w_27 => (lt' (zR w_27 5 a0 0 0) (fun u_31 => (nn u_31 (fun b_35 => (bd (fX4_append b_35 x3 w_27) (fun w_38 => (lt' (zR w_38 5 a0 0 0) (fun u_42 => (nn u_42 (fun b_46 => (bd (fX4_append b_46 x4 w_38) (fun w_49 => (lt' (zR w_49 5 a0 0 0) (fun u_53 => (nn u_53 (fun b_57 => (bd (fX4_append b_57 x5 w_49) (fun w_60 => (lt' (zR w_60 5 a0 0 0) (fun u_64 => (nn u_64 (fun b_68 => (some ((zI w_60 4 b_68 1 0), w_60)))))))))))))))))))))))))))))))))))) else (some ((-1), w)))))))
def fX6_push_b3 (rec3 : Nat → Int32 → Int32 → Wd → Option (Wd)) (a0 : Nat) (x1 : Int32) (x2 : Int32) (w : Wd) : Option (Wd) := (if x2 < 0 then (some w) else (ckp (ix (zI w 6 a0 1 0) 300 = true) (lt' (sI w 6 a0 0 ((zI w 6 a0 1 0) : Int32).toNatClampNeg (vp_nar .byte (((x1 >>> (x2 &&& 31)) : Int32).toInt8.toInt32))) (fun w_5 => (lt' (sI w_5 6 a0 1 0 ((zI w_5 6 a0 1 0) + 1)) (fun w_8 => (rec3 a0 x1 (x2 + (-8)) w_8)))))))
def fX6_push_l3 : Nat → Nat → Int32 → Int32 → Wd → Option (Wd)
  | 0, _, _, _, _ => none
  | n + 1, a0, x1, x2, w => fX6_push_b3  (fX6_push_l3  n) a0 x1 x2 w
def fX6_push (a0 : Nat) (x1 : Int32) (w : Wd) : Option (Wd) := (fX6_push_l3 1000 a0 x1 24 w)
def fX6_feed (a0 : Nat) (x1 : Int32) (x2 : Int32) (x3 : Int32) (x4 : Int32) (x5 : Int32) (w : Wd) : Option (Int32 × Wd) := (if ((zI w 6 a0 1 0) + 20) ≤ 300 then (bd (fX6_push a0 x1 w) (fun w_3 => (bd (fX6_push a0 x2 w_3) (fun w_9 => (bd (fX6_push a0 x3 w_9) (fun w_14 => (bd (fX6_push a0 x4 w_14) (fun w_19 => (bd (fX6_push a0 x5 w_19) (fun w_24 => (some ((zI w_24 6 a0 1 0), w_24)))))))))))) else (some ((-1), w)))
def fJ9_min_7cf53_b10 (w : Wd) (xs0 : Int32) : Option (Int32) := (some xs0)
def fJ9_min_7cf53 (x0 : Int32) (x1 : Int32) (w : Wd) : Option (Int32) := (if x1 < x0 then (fJ9_min_7cf53_b10 w x1) else (fJ9_min_7cf53_b10 w x0))
def fX4_openText (a0 : Nat) (x1 : Int32) (w : Wd) : Option (Wd) := (bd (fJ9_min_7cf53 x1 300 w) (fun y_2 => (lt' (sI w 4 a0 2 0 y_2) (fun w_4 => (lt' (sI w_4 4 a0 3 0 0) (fun w_7 => (lt' (sI w_7 4 a0 1 0 0) (fun w_10 => (some w_10)))))))))
def fX4_next_b35 (w : Wd) (xs0 : Int32) : Option (Int32) := (some xs0)
def fX4_next_b18 (w : Wd) : Option (Int32) := (fX4_next_b35 w (-1))
def fX4_next (a0 : Nat) (w : Wd) : Option (Int32) := (if (zI w 4 a0 3 0) < 0 then (fX4_next_b18 w) else (if (zI w 4 a0 3 0) < (zI w 4 a0 2 0) then (ckp (ix (zI w 4 a0 3 0) 300 = true) (fX4_next_b35 w ((zI w 4 a0 0 ((zI w 4 a0 3 0) : Int32).toNatClampNeg) &&& 255))) else (fX4_next_b18 w)))
def fX4_take (a0 : Nat) (x1 : Int32) (w : Wd) : Option (Int32 × Wd) := (bd (fX4_next a0 w) (fun y_2 => (if y_2 = x1 then (lt' (sI w 4 a0 3 0 ((zI w 4 a0 3 0) + 1)) (fun w_5 => (ckp ((1 : Int32) = 0 ∨ (1 : Int32) = 1) (some (1, w_5))))) else (ckp ((0 : Int32) = 0 ∨ (0 : Int32) = 1) (some (0, w))))))
def fX5_isDigit_b17 (w : Wd) (xs0 : Int32) : Option (Int32) := (ckp ((xs0 : Int32) = 0 ∨ (xs0 : Int32) = 1) (some xs0))
def fX5_isDigit_b16 (w : Wd) : Option (Int32) := (fX5_isDigit_b17 w 0)
def fX5_isDigit (x0 : Int32) (w : Wd) : Option (Int32) := (if x0 < 48 then (fX5_isDigit_b16 w) else (if 57 < x0 then (fX5_isDigit_b16 w) else (fX5_isDigit_b17 w 1)))
def fX4_tearAt (a0 : Nat) (x1 : Int32) (w : Wd) : Option (Int32 × Wd) := (lt' (sI w 4 a0 3 0 x1) (fun w_1 => (some ((-1), w_1))))
def fX4_takeNumber_b91 (xs0 : Int32) (w : Wd) : Option (Int32 × Wd) := (some (xs0, w))
def fX4_takeNumber_b73 (w : Wd) : Option (Int32 × Wd) := (some ((-1), w))
def fX4_takeNumber_b58 (a0 : Nat) (x2 : Int32) (x3 : Int32) (x4 : Int32) (x5 : Int32) (w : Wd) : Option (Int32 × Wd) := (if x5 = 0 then (fX4_takeNumber_b73 w) else (bd (fX4_next a0 w) (fun y_3 => (bd (fX5_isDigit y_3 w) (fun y_6 => (if y_6 = 0 then (if x4 ≤ x2 then (fX4_takeNumber_b91 x4 w) else (bd2 (fX4_tearAt a0 x3 w) (fun y_11 w_12 => (fX4_takeNumber_b91 y_11 w_12)))) else (fX4_takeNumber_b73 w)))))))
def fX4_takeNumber_b11 (rec11 : Nat → Int32 → Int32 → Int32 → Int32 → Int32 → Wd → Option (Int32 × Wd)) (a0 : Nat) (x1 : Int32) (x2 : Int32) (x3 : Int32) (x4 : Int32) (x5 : Int32) (w : Wd) : Option (Int32 × Wd) := (if x1 ≤ x5 then (fX4_takeNumber_b58 a0 x2 x3 x4 x5 w) else (bd (fX4_next a0 w) (fun y_3 => (bd (fX5_isDigit y_3 w) (fun y_6 => (if y_6 = 0 then (fX4_takeNumber_b58 a0 x2 x3 x4 x5 w) else (bd (fX4_next a0 w) (fun y_10 => (lt' (sI w 4 a0 3 0 ((zI w 4 a0 3 0) + 1)) (fun w_12 => (rec11 a0 x1 x2 x3 (((x4 * 10) + y_10) - 48) (x5 + 1) w_12)))))))))))
def fX4_takeNumber_l11 : Nat → Nat → Int32 → Int32 → Int32 → Int32 → Int32 → Wd → Option (Int32 × Wd)
  | 0, _, _, _, _, _, _, _ => none
  | n + 1, a0, x1, x2, x3, x4, x5, w => fX4_takeNumber_b11  (fX4_takeNumber_l11  n) a0 x1 x2 x3 x4 x5 w
def fX4_takeNumber (a0 : Nat) (x1 : Int32) (x2 : Int32) (w : Wd) : Option (Int32 × Wd) := (fX4_takeNumber_l11 1000 a0 x1 x2 (zI w 4 a0 3 0) 0 0 w)
def fX4_isAtEndOfPart_b21 (w : Wd) (xs0 : Int32) : Option (Int32) := (ckp ((xs0 : Int32) = 0 ∨ (xs0 : Int32) = 1) (some xs0))
def fX4_isAtEndOfPart_b16 (w : Wd) : Option (Int32) := (fX4_isAtEndOfPart_b21 w 1)
def fX4_isAtEndOfPart (a0 : Nat) (w : Wd) : Option (Int32) := (bd (fX4_next a0 w) (fun y_2 => (if y_2 = (-1) then (fX4_isAtEndOfPart_b16 w) else (if y_2 = 59 then (fX4_isAtEndOfPart_b16 w) else (fX4_isAtEndOfPart_b21 w 0)))))
def fX4_readHead_b32 (xs0 : Int32) (w : Wd) : Option (Int32 × Wd) := (some (xs0, w))
def fX4_readHead (a0 : Nat) (w : Wd) : Option (Int32 × Wd) := (bd2 (fX4_take a0 116 w) (fun y_2 w_3 => (if y_2 = 0 then (some ((-1), w_3)) else (bd2 (fX4_takeNumber a0 4 9999 w_3) (fun y_10 w_11 => (bd (fX4_isAtEndOfPart a0 w_11) (fun y_16 => (if y_16 = 0 then (fX4_readHead_b32 (-1) w_11) else (fX4_readHead_b32 y_10 w_11)))))))))
def fX5_isTickTaken_b39 (w : Wd) (rec11 : Int32 → Nat → Int32 → Int32 → Option (Int32)) (x1 : Int32) (o2 : Nat) (x3 : Int32) (x4 : Int32) : Option (Int32) := (rec11 x1 o2 x3 (x4 + 1))
def fX5_isTickTaken_b11 (w : Wd) (rec11 : Int32 → Nat → Int32 → Int32 → Option (Int32)) (x1 : Int32) (o2 : Nat) (x3 : Int32) (x4 : Int32) : Option (Int32) := (if x3 ≤ x4 then (ckp ((0 : Int32) = 0 ∨ (0 : Int32) = 1) (some 0)) else (ckp (ix x4 8 = true) (lt' (zR w 5 o2 1 (x4 : Int32).toNatClampNeg) (fun u_4 => (oc u_4 (fX5_isTickTaken_b39 w rec11 x1 o2 x3 x4) (fun b_8 => (if (zI w 1 b_8 0 0) = x1 then (ckp ((1 : Int32) = 0 ∨ (1 : Int32) = 1) (some 1)) else (fX5_isTickTaken_b39 w rec11 x1 o2 x3 x4))))))))
def fX5_isTickTaken_l11 (w : Wd) : Nat → Int32 → Nat → Int32 → Int32 → Option (Int32)
  | 0, _, _, _, _ => none
  | n + 1, x1, o2, x3, x4 => fX5_isTickTaken_b11 w (fX5_isTickTaken_l11 w n) x1 o2 x3 x4
def fX5_isTickTaken (a0 : Nat) (x1 : Int32) (w : Wd) : Option (Int32) := (fX5_isTickTaken_l11 w 1000 x1 a0 8 0)
def fX5_isThread_b15 (w : Wd) (xs0 : Int32) : Option (Int32) := (ckp ((xs0 : Int32) = 0 ∨ (xs0 : Int32) = 1) (some xs0))
def fX5_isThread_b14 (w : Wd) : Option (Int32) := (fX5_isThread_b15 w 0)
def fX5_isThread (x0 : Int32) (w : Wd) : Option (Int32) := (if x0 < 0 then (fX5_isThread_b14 w) else (if 24 ≤ x0 then (fX5_isThread_b14 w) else (fX5_isThread_b15 w 1)))
def fX1_rowOf_b17 (w : Wd) (rs0 : Option Nat) : Option (Option Nat) := (some rs0)
def fX1_rowOf (a0 : Nat) (x1 : Int32) (w : Wd) : Option (Option Nat) := (bd (fX5_isThread x1 w) (fun y_2 => (if y_2 = 0 then (fX1_rowOf_b17 w none) else (ckp (ix x1 24 = true) (lt' (zR w 1 a0 1 (x1 : Int32).toNatClampNeg) (fun u_8 => (fX1_rowOf_b17 w u_8)))))))
def fX3_readThread_b61 (xs0 : Int32) (w : Wd) : Option (Int32 × Wd) := (ckp ((xs0 : Int32) = 0 ∨ (xs0 : Int32) = 1) (some (xs0, w)))
def fX3_readThread_b48 (a1 : Nat) (w : Wd) : Option (Int32 × Wd) := (if (zI w 2 a1 1 0) = (-1) then (fX3_readThread_b61 0 w) else (fX3_readThread_b61 1 w))
def fX3_readThread (a0 : Nat) (a1 : Nat) (w : Wd) : Option (Int32 × Wd) := (lt' (zR w 3 a0 0 0) (fun u_1 => (nn u_1 (fun b_5 => (lt' (zR w 3 a0 0 0) (fun u_7 => (nn u_7 (fun b_11 => (bd2 (fX4_takeNumber b_11 2 23 w) (fun y_14 w_15 => (lt' (sI w_15 2 a1 1 0 y_14) (fun w_21 => (lt' (zR w_21 3 a0 1 0) (fun u_26 => (nn u_26 (fun b_30 => (bd (fX1_rowOf b_30 (zI w_21 2 a1 1 0) w_21) (fun u_33 => (oc u_33 (fX3_readThread_b48 a1 w_21) (fun b_35 => (lt' (zR w_21 3 a0 0 0) (fun u_38 => (nn u_38 (fun b_42 => (bd2 (fX4_tearAt b_42 (zI w 4 b_5 3 0) w_21) (fun y_45 w_46 => (lt' (sI w_46 2 a1 1 0 y_45) (fun w_51 => (fX3_readThread_b48 a1 w_51)))))))))))))))))))))))))))))
def fX3_readState_b82 (w : Wd) : Option (Int32 × Wd) := (ckp ((1 : Int32) = 0 ∨ (1 : Int32) = 1) (some (1, w)))
def fX3_readState (a0 : Nat) (a1 : Nat) (w : Wd) : Option (Int32 × Wd) := (lt' (zR w 3 a0 0 0) (fun u_1 => (nn u_1 (fun b_5 => (bd2 (fX4_take b_5 82 w) (fun y_8 w_9 => (if y_8 = 0 then (lt' (zR w_9 3 a0 0 0) (fun u_16 => (nn u_16 (fun b_20 => (bd2 (fX4_take b_20 87 w_9) (fun y_23 w_24 => (if y_23 = 0 then (lt' (zR w_24 3 a0 0 0) (fun u_30 => (nn u_30 (fun b_34 => (bd2 (fX4_take b_34 83 w_24) (fun y_37 w_38 => (if y_37 = 0 then (lt' (zR w_38 3 a0 0 0) (fun u_44 => (nn u_44 (fun b_48 => (bd2 (fX4_take b_48 70 w_38) (fun y_51 w_52 => (if y_51 = 0 then (ckp ((0 : Int32) = 0 ∨ (0 : Int32) = 1) (some (0, w_52))) else (lt' (sI w_52 2 a1 2 0 3) (fun w_59 => (fX3_readState_b82 w_59)))))))))) else (lt' (sI w_38 2 a1 2 0 2) (fun w_64 => (fX3_readState_b82 w_64)))))))))) else (lt' (sI w_24 2 a1 2 0 1) (fun w_69 => (fX3_readState_b82 w_69)))))))))) else (lt' (sI w_9 2 a1 2 0 0) (fun w_74 => (fX3_readState_b82 w_74))))))))))
def fX3_readCounter_b28 (xs0 : Int32) (w : Wd) : Option (Int32 × Wd) := (ckp ((xs0 : Int32) = 0 ∨ (xs0 : Int32) = 1) (some (xs0, w)))
def fX3_readCounter (a0 : Nat) (a1 : Nat) (w : Wd) : Option (Int32 × Wd) := (lt' (zR w 3 a0 0 0) (fun u_1 => (nn u_1 (fun b_5 => (bd2 (fX4_takeNumber b_5 4 9999 w) (fun y_8 w_9 => (lt' (sI w_9 2 a1 3 0 y_8) (fun w_15 => (if (zI w_15 2 a1 3 0) = (-1) then (fX3_readCounter_b28 0 w_15) else (fX3_readCounter_b28 1 w_15))))))))))
def fX5_hasBit_b13 (w : Wd) (xs0 : Int32) : Option (Int32) := (ckp ((xs0 : Int32) = 0 ∨ (xs0 : Int32) = 1) (some xs0))
def fX5_hasBit (x0 : Int32) (x1 : Int32) (w : Wd) : Option (Int32) := (if ((x0 >>> (x1 &&& 31)) &&& 1) = 0 then (fX5_hasBit_b13 w 0) else (fX5_hasBit_b13 w 1))
def fX2_holds (a0 : Nat) (x1 : Int32) (w : Wd) : Option (Int32) := (bd (fX5_hasBit (zI w 2 a0 4 0) x1 w) (fun y_2 => (ckp ((y_2 : Int32) = 0 ∨ (y_2 : Int32) = 1) (some y_2))))
def fX5_isLock_b15 (w : Wd) (xs0 : Int32) : Option (Int32) := (ckp ((xs0 : Int32) = 0 ∨ (xs0 : Int32) = 1) (some xs0))
def fX5_isLock_b14 (w : Wd) : Option (Int32) := (fX5_isLock_b15 w 0)
def fX5_isLock (x0 : Int32) (w : Wd) : Option (Int32) := (if x0 < 0 then (fX5_isLock_b14 w) else (if 16 ≤ x0 then (fX5_isLock_b14 w) else (fX5_isLock_b15 w 1)))
def fX1_holderOf_b17 (w : Wd) (xs0 : Int32) : Option (Int32) := (some xs0)
def fX1_holderOf (a0 : Nat) (x1 : Int32) (w : Wd) : Option (Int32) := (bd (fX5_isLock x1 w) (fun y_2 => (if y_2 = 0 then (fX1_holderOf_b17 w (-1)) else (ckp (ix x1 16 = true) (fX1_holderOf_b17 w (zI w 1 a0 2 (x1 : Int32).toNatClampNeg))))))
def fX3_readHeldLock_b53 (a1 : Nat) (x3 : Int32) (w : Wd) : Option (Int32 × Wd) := (if x3 = (-1) then (ckp ((0 : Int32) = 0 ∨ (0 : Int32) = 1) (some (0, w))) else (lt' (sI w 2 a1 4 0 ((zI w 2 a1 4 0) ||| (1 <<< (x3 &&& 31)))) (fun w_2 => (ckp ((1 : Int32) = 0 ∨ (1 : Int32) = 1) (some (1, w_2))))))
def fX3_readHeldLock_b44 (a0 : Nat) (a1 : Nat) (x2 : Int32) (w : Wd) : Option (Int32 × Wd) := (lt' (zR w 3 a0 0 0) (fun u_1 => (nn u_1 (fun b_5 => (bd2 (fX4_tearAt b_5 x2 w) (fun y_8 w_9 => (fX3_readHeldLock_b53 a1 y_8 w_9)))))))
def fX3_readHeldLock (a0 : Nat) (a1 : Nat) (w : Wd) : Option (Int32 × Wd) := (lt' (zR w 3 a0 0 0) (fun u_1 => (nn u_1 (fun b_5 => (lt' (zR w 3 a0 0 0) (fun u_7 => (nn u_7 (fun b_11 => (bd2 (fX4_takeNumber b_11 2 15 w) (fun y_14 w_15 => (if y_14 = (-1) then (fX3_readHeldLock_b53 a1 y_14 w_15) else (bd (fX2_holds a1 y_14 w_15) (fun y_23 => (if y_23 = 0 then (lt' (zR w_15 3 a0 1 0) (fun u_26 => (nn u_26 (fun b_30 => (bd (fX1_holderOf b_30 y_14 w_15) (fun y_33 => (if y_33 = (-1) then (fX3_readHeldLock_b53 a1 y_14 w_15) else (fX3_readHeldLock_b44 a0 a1 (zI w 4 b_5 3 0) w_15)))))))) else (fX3_readHeldLock_b44 a0 a1 (zI w 4 b_5 3 0) w_15)))))))))))))))
def fX3_readHeld_b55 (x2 : Int32) (w : Wd) : Option (Int32 × Wd) := (ckp ((x2 : Int32) = 0 ∨ (x2 : Int32) = 1) (some (x2, w)))
def fX3_readHeld_b22 (rec22 : Nat → Nat → Int32 → Int32 → Wd → Option (Int32 × Wd)) (a0 : Nat) (a1 : Nat) (x2 : Int32) (x3 : Int32) (w : Wd) : Option (Int32 × Wd) := (if 4 ≤ x3 then (fX3_readHeld_b55 x2 w) else (if x2 = 0 then (fX3_readHeld_b55 x2 w) else (lt' (zR w 3 a0 0 0) (fun u_3 => (nn u_3 (fun b_7 => (bd2 (fX4_take b_7 44 w) (fun y_10 w_11 => (if y_10 = 0 then (fX3_readHeld_b55 x2 w_11) else (bd2 (fX3_readHeldLock a0 a1 w_11) (fun y_19 w_20 => (rec22 a0 a1 y_19 (x3 + 1) w_20))))))))))))
def fX3_readHeld_l22 : Nat → Nat → Nat → Int32 → Int32 → Wd → Option (Int32 × Wd)
  | 0, _, _, _, _, _ => none
  | n + 1, a0, a1, x2, x3, w => fX3_readHeld_b22  (fX3_readHeld_l22  n) a0 a1 x2 x3 w
def fX3_readHeld (a0 : Nat) (a1 : Nat) (w : Wd) : Option (Int32 × Wd) := (lt' (zR w 3 a0 0 0) (fun u_1 => (nn u_1 (fun b_5 => (bd2 (fX4_take b_5 104 w) (fun y_8 w_9 => (if y_8 = 0 then (ckp ((1 : Int32) = 0 ∨ (1 : Int32) = 1) (some (1, w_9))) else (bd2 (fX3_readHeldLock a0 a1 w_9) (fun y_17 w_18 => (fX3_readHeld_l22 1000 a0 a1 y_17 1 w_18))))))))))
def fX3_readWait_b59 (xs0 : Int32) (w : Wd) : Option (Int32 × Wd) := (ckp ((xs0 : Int32) = 0 ∨ (xs0 : Int32) = 1) (some (xs0, w)))
def fX3_readWait_b18 (a0 : Nat) (a1 : Nat) (w : Wd) : Option (Int32 × Wd) := (lt' (zR w 3 a0 0 0) (fun u_1 => (nn u_1 (fun b_5 => (bd2 (fX4_take b_5 119 w) (fun y_8 w_9 => (if y_8 = 0 then (ckp ((0 : Int32) = 0 ∨ (0 : Int32) = 1) (some (0, w_9))) else (lt' (zR w_9 3 a0 0 0) (fun u_16 => (nn u_16 (fun b_20 => (bd2 (fX4_takeNumber b_20 2 15 w_9) (fun y_23 w_24 => (lt' (sI w_24 2 a1 5 0 y_23) (fun w_29 => (if (zI w_29 2 a1 5 0) = (-1) then (fX3_readWait_b59 0 w_29) else (fX3_readWait_b59 1 w_29)))))))))))))))))
def fX3_readWait (a0 : Nat) (a1 : Nat) (w : Wd) : Option (Int32 × Wd) := (if (zI w 2 a1 2 0) = 1 then (fX3_readWait_b18 a0 a1 w) else (if (zI w 2 a1 2 0) = 2 then (fX3_readWait_b18 a0 a1 w) else (ckp ((1 : Int32) = 0 ∨ (1 : Int32) = 1) (some (1, w)))))
def fX5_isLetter_b17 (w : Wd) (xs0 : Int32) : Option (Int32) := (ckp ((xs0 : Int32) = 0 ∨ (xs0 : Int32) = 1) (some xs0))
def fX5_isLetter_b16 (w : Wd) : Option (Int32) := (fX5_isLetter_b17 w 0)
def fX5_isLetter (x0 : Int32) (w : Wd) : Option (Int32) := (if x0 < 97 then (fX5_isLetter_b16 w) else (if 122 < x0 then (fX5_isLetter_b16 w) else (fX5_isLetter_b17 w 1)))
def fX2_addCall_b30 (w : Wd) : Option (Wd) := (some w)
def fX2_addCall (a0 : Nat) (x1 : Int32) (w : Wd) : Option (Wd) := (if 12 ≤ (zI w 2 a0 6 0) then (fX2_addCall_b30 w) else (ckp (ix (zI w 2 a0 6 0) 12 = true) (lt' (sI w 2 a0 0 ((zI w 2 a0 6 0) : Int32).toNatClampNeg (vp_nar .byte ((x1 : Int32).toInt8.toInt32))) (fun w_5 => (lt' (sI w_5 2 a0 6 0 ((zI w_5 2 a0 6 0) + 1)) (fun w_8 => (fX2_addCall_b30 w_8)))))))
def fX3_readCalls_b77 (xs0 : Int32) (w : Wd) : Option (Int32 × Wd) := (ckp ((xs0 : Int32) = 0 ∨ (xs0 : Int32) = 1) (some (xs0, w)))
def fX3_readCalls_b65 (a1 : Nat) (w : Wd) : Option (Int32 × Wd) := (if (zI w 2 a1 6 0) ≤ 0 then (fX3_readCalls_b77 0 w) else (fX3_readCalls_b77 1 w))
def fX3_readCalls_b16 (rec16 : Nat → Nat → Int32 → Wd → Option (Int32 × Wd)) (a0 : Nat) (a1 : Nat) (x2 : Int32) (w : Wd) : Option (Int32 × Wd) := (if 12 ≤ x2 then (fX3_readCalls_b65 a1 w) else (lt' (zR w 3 a0 0 0) (fun u_2 => (nn u_2 (fun b_6 => (bd (fX4_next b_6 w) (fun y_9 => (bd (fX5_isLetter y_9 w) (fun y_12 => (if y_12 = 0 then (fX3_readCalls_b65 a1 w) else (lt' (zR w 3 a0 0 0) (fun u_15 => (nn u_15 (fun b_19 => (bd (fX4_next b_19 w) (fun y_22 => (bd (fX2_addCall a1 y_22 w) (fun w_25 => (lt' (zR w_25 3 a0 0 0) (fun u_31 => (nn u_31 (fun b_35 => (lt' (sI w_25 4 b_35 3 0 ((zI w_25 4 b_35 3 0) + 1)) (fun w_37 => (rec16 a0 a1 (x2 + 1) w_37)))))))))))))))))))))))))
def fX3_readCalls_l16 : Nat → Nat → Nat → Int32 → Wd → Option (Int32 × Wd)
  | 0, _, _, _, _ => none
  | n + 1, a0, a1, x2, w => fX3_readCalls_b16  (fX3_readCalls_l16  n) a0 a1 x2 w
def fX3_readCalls (a0 : Nat) (a1 : Nat) (w : Wd) : Option (Int32 × Wd) := (lt' (zR w 3 a0 0 0) (fun u_1 => (nn u_1 (fun b_5 => (bd2 (fX4_take b_5 99 w) (fun y_8 w_9 => (if y_8 = 0 then (ckp ((1 : Int32) = 0 ∨ (1 : Int32) = 1) (some (1, w_9))) else (fX3_readCalls_l16 1000 a0 a1 0 w_9))))))))
def fX3_readRow_b63 (xs0 : Int32) (w : Wd) : Option (Int32 × Wd) := (ckp ((xs0 : Int32) = 0 ∨ (xs0 : Int32) = 1) (some (xs0, w)))
def fX3_readRow_b62 (w : Wd) : Option (Int32 × Wd) := (fX3_readRow_b63 0 w)
def fX3_readRow (a0 : Nat) (a1 : Nat) (w : Wd) : Option (Int32 × Wd) := (bd2 (fX3_readThread a0 a1 w) (fun y_2 w_3 => (if y_2 = 0 then (fX3_readRow_b62 w_3) else (bd2 (fX3_readState a0 a1 w_3) (fun y_11 w_12 => (if y_11 = 0 then (fX3_readRow_b62 w_12) else (bd2 (fX3_readCounter a0 a1 w_12) (fun y_19 w_20 => (if y_19 = 0 then (fX3_readRow_b62 w_20) else (bd2 (fX3_readHeld a0 a1 w_20) (fun y_27 w_28 => (if y_27 = 0 then (fX3_readRow_b62 w_28) else (bd2 (fX3_readWait a0 a1 w_28) (fun y_35 w_36 => (if y_35 = 0 then (fX3_readRow_b62 w_36) else (bd2 (fX3_readCalls a0 a1 w_36) (fun y_43 w_44 => (if y_43 = 0 then (fX3_readRow_b62 w_44) else (lt' (zR w_44 3 a0 0 0) (fun u_50 => (nn u_50 (fun b_54 => (bd (fX4_isAtEndOfPart b_54 w_44) (fun y_57 => (if y_57 = 0 then (fX3_readRow_b62 w_44) else (fX3_readRow_b63 1 w_44))))))))))))))))))))))))))
def fX2_distanceTo_b80 (rec22 : Nat → Nat → Nat → Int32 → Wd → Option (Int32 × Wd)) (rec42 : Nat → Nat → Nat → Int32 → Int32 → Int32 → Wd → Option (Int32 × Wd)) (a0 : Nat) (a1 : Nat) (o2 : Nat) (x3 : Int32) (x5 : Int32) (xs0 : Int32) (w : Wd) : Option (Int32 × Wd) := (ckp (ix x5 13 = true) (ckp (ix (x5 - 1) 13 = true) (bd (fJ9_min_7cf53 (zI w 1 o2 6 (x5 : Int32).toNatClampNeg) (zI w 1 o2 6 ((x5 - 1) : Int32).toNatClampNeg) w) (fun y_4 => (bd (fJ9_min_7cf53 xs0 (y_4 + 1) w) (fun y_7 => (ckp (ix x5 13 = true) (lt' (sI w 1 o2 6 (x5 : Int32).toNatClampNeg y_7) (fun w_10 => (rec42 a0 a1 o2 x3 (zI w 1 o2 6 (x5 : Int32).toNatClampNeg) (x5 + 1) w_10))))))))))
def fX2_distanceTo_b42 (rec22 : Nat → Nat → Nat → Int32 → Wd → Option (Int32 × Wd)) (rec42 : Nat → Nat → Nat → Int32 → Int32 → Int32 → Wd → Option (Int32 × Wd)) (a0 : Nat) (a1 : Nat) (o2 : Nat) (x3 : Int32) (x4 : Int32) (x5 : Int32) (w : Wd) : Option (Int32 × Wd) := (if (zI w 2 a1 6 0) < x5 then (rec22 a0 a1 o2 (x3 + 1) w) else (ckp (ix (x3 - 1) 12 = true) (ckp (ix (x5 - 1) 12 = true) (if (zI w 2 a0 0 ((x3 - 1) : Int32).toNatClampNeg) = (zI w 2 a1 0 ((x5 - 1) : Int32).toNatClampNeg) then (fX2_distanceTo_b80 rec22 rec42 a0 a1 o2 x3 x5 x4 w) else (fX2_distanceTo_b80 rec22 rec42 a0 a1 o2 x3 x5 (x4 + 1) w)))))
def fX2_distanceTo_l42 (rec22 : Nat → Nat → Nat → Int32 → Wd → Option (Int32 × Wd)) : Nat → Nat → Nat → Nat → Int32 → Int32 → Int32 → Wd → Option (Int32 × Wd)
  | 0, _, _, _, _, _, _, _ => none
  | n + 1, a0, a1, o2, x3, x4, x5, w => fX2_distanceTo_b42 rec22 (fX2_distanceTo_l42 rec22 n) a0 a1 o2 x3 x4 x5 w
def fX2_distanceTo_b22 (rec22 : Nat → Nat → Nat → Int32 → Wd → Option (Int32 × Wd)) (a0 : Nat) (a1 : Nat) (o2 : Nat) (x3 : Int32) (w : Wd) : Option (Int32 × Wd) := (if (zI w 2 a0 6 0) < x3 then (ckp (ix (zI w 2 a1 6 0) 13 = true) (some ((zI w 1 o2 6 ((zI w 2 a1 6 0) : Int32).toNatClampNeg), w))) else (ckp (ix 0 13 = true) (ckp (ix 0 13 = true) (lt' (sI w 1 o2 6 (0 : Int32).toNatClampNeg x3) (fun w_5 => (fX2_distanceTo_l42 rec22 1000 a0 a1 o2 x3 (zI w 1 o2 6 (0 : Int32).toNatClampNeg) 1 w_5))))))
def fX2_distanceTo_l22 : Nat → Nat → Nat → Nat → Int32 → Wd → Option (Int32 × Wd)
  | 0, _, _, _, _, _ => none
  | n + 1, a0, a1, o2, x3, w => fX2_distanceTo_b22  (fX2_distanceTo_l22  n) a0 a1 o2 x3 w
def fX2_distanceTo_b2 (rec2 : Nat → Nat → Nat → Int32 → Wd → Option (Int32 × Wd)) (a0 : Nat) (a1 : Nat) (o2 : Nat) (x3 : Int32) (w : Wd) : Option (Int32 × Wd) := (if (zI w 2 a1 6 0) < x3 then (fX2_distanceTo_l22 1000 a0 a1 o2 1 w) else (ckp (ix x3 13 = true) (lt' (sI w 1 o2 6 (x3 : Int32).toNatClampNeg x3) (fun w_3 => (rec2 a0 a1 o2 (x3 + 1) w_3)))))
def fX2_distanceTo_l2 : Nat → Nat → Nat → Nat → Int32 → Wd → Option (Int32 × Wd)
  | 0, _, _, _, _, _ => none
  | n + 1, a0, a1, o2, x3, w => fX2_distanceTo_b2  (fX2_distanceTo_l2  n) a0 a1 o2 x3 w
def fX2_distanceTo (a0 : Nat) (a1 : Nat) (o2 : Nat) (w : Wd) : Option (Int32 × Wd) := (fX2_distanceTo_l2 1000 a0 a1 o2 0 w)
def fX1_measureFrom_b81 (rec11 : Nat → Nat → Nat → Int32 → Int32 → Wd → Option (Wd)) (a0 : Nat) (a1 : Nat) (o2 : Nat) (x3 : Int32) (x4 : Int32) (w : Wd) : Option (Wd) := (rec11 a0 a1 o2 x3 (x4 + 1) w)
def fX1_measureFrom_b11 (rec11 : Nat → Nat → Nat → Int32 → Int32 → Wd → Option (Wd)) (a0 : Nat) (a1 : Nat) (o2 : Nat) (x3 : Int32) (x4 : Int32) (w : Wd) : Option (Wd) := (if x3 ≤ x4 then (some w) else (ckp (ix x4 24 = true) (lt' (zR w 1 o2 1 (x4 : Int32).toNatClampNeg) (fun u_3 => (oc u_3 (fX1_measureFrom_b81 rec11 a0 a1 o2 x3 x4 w) (fun b_7 => (bd2 (fX2_distanceTo a1 b_7 a0 w) (fun y_13 w_14 => (ckp (ix (((zI w_14 2 a1 1 0) * 24) + (zI w_14 2 b_7 1 0)) 576 = true) (lt' (sI w_14 1 a0 5 ((((zI w_14 2 a1 1 0) * 24) + (zI w_14 2 b_7 1 0)) : Int32).toNatClampNeg (vp_nar .byte ((y_13 : Int32).toInt8.toInt32))) (fun w_26 => (ckp (ix (((zI w_26 2 b_7 1 0) * 24) + (zI w_26 2 a1 1 0)) 576 = true) (lt' (sI w_26 1 a0 5 ((((zI w_26 2 b_7 1 0) * 24) + (zI w_26 2 a1 1 0)) : Int32).toNatClampNeg (vp_nar .byte ((y_13 : Int32).toInt8.toInt32))) (fun w_37 => (fX1_measureFrom_b81 rec11 a0 a1 o2 x3 x4 w_37)))))))))))))))
def fX1_measureFrom_l11 : Nat → Nat → Nat → Nat → Int32 → Int32 → Wd → Option (Wd)
  | 0, _, _, _, _, _, _ => none
  | n + 1, a0, a1, o2, x3, x4, w => fX1_measureFrom_b11  (fX1_measureFrom_l11  n) a0 a1 o2 x3 x4 w
def fX1_measureFrom (a0 : Nat) (a1 : Nat) (w : Wd) : Option (Wd) := (fX1_measureFrom_l11 1000 a0 a1 a0 24 0 w)
def fX2_isWaiting_b13 (w : Wd) (xs0 : Int32) : Option (Int32) := (ckp ((xs0 : Int32) = 0 ∨ (xs0 : Int32) = 1) (some xs0))
def fX2_isWaiting (a0 : Nat) (w : Wd) : Option (Int32) := (if (zI w 2 a0 5 0) = (-1) then (fX2_isWaiting_b13 w 0) else (fX2_isWaiting_b13 w 1))
def fX1_keep_b89 (rec55 : Nat → Nat → Int32 → Wd → Option (Wd)) (a0 : Nat) (a1 : Nat) (x2 : Int32) (w : Wd) : Option (Wd) := (rec55 a0 a1 (x2 + 1) w)
def fX1_keep_b55 (rec55 : Nat → Nat → Int32 → Wd → Option (Wd)) (a0 : Nat) (a1 : Nat) (x2 : Int32) (w : Wd) : Option (Wd) := (if 16 ≤ x2 then (some w) else (bd (fX2_holds a1 x2 w) (fun y_3 => (if y_3 = 0 then (fX1_keep_b89 rec55 a0 a1 x2 w) else (ckp (ix x2 16 = true) (lt' (sI w 1 a0 2 (x2 : Int32).toNatClampNeg (zI w 2 a1 1 0)) (fun w_9 => (lt' (sI w_9 1 a0 10 0 ((zI w_9 1 a0 10 0) + 1)) (fun w_13 => (fX1_keep_b89 rec55 a0 a1 x2 w_13))))))))))
def fX1_keep_l55 : Nat → Nat → Nat → Int32 → Wd → Option (Wd)
  | 0, _, _, _, _ => none
  | n + 1, a0, a1, x2, w => fX1_keep_b55  (fX1_keep_l55  n) a0 a1 x2 w
def fX1_keep_b53 (a0 : Nat) (a1 : Nat) (w : Wd) : Option (Wd) := (fX1_keep_l55 1000 a0 a1 0 w)
def fX1_keep (a0 : Nat) (a1 : Nat) (w : Wd) : Option (Wd) := (bd (fX5_isThread (zI w 2 a1 1 0) w) (fun y_2 => (if y_2 = 0 then (some w) else (bd (fX1_measureFrom a0 a1 w) (fun w_6 => (ckp (ix (zI w_6 2 a1 1 0) 24 = true) (lt' (sR w_6 1 a0 1 ((zI w_6 2 a1 1 0) : Int32).toNatClampNeg (some a1)) (fun w_15 => (lt' (sI w_15 1 a0 8 0 ((zI w_15 1 a0 8 0) + 1)) (fun w_20 => (bd (fX2_isWaiting a1 w_20) (fun y_26 => (if y_26 = 0 then (fX1_keep_b53 a0 a1 w_20) else (lt' (sI w_20 1 a0 9 0 ((zI w_20 1 a0 9 0) + 1)) (fun w_29 => (fX1_keep_b53 a0 a1 w_29))))))))))))))))
def fX2_waitsAtBit_b17 (w : Wd) (xs0 : Int32) : Option (Int32) := (some xs0)
def fX2_waitsAtBit (a0 : Nat) (w : Wd) : Option (Int32) := (bd (fX2_isWaiting a0 w) (fun y_2 => (if y_2 = 0 then (fX2_waitsAtBit_b17 w 0) else (fX2_waitsAtBit_b17 w (1 <<< ((zI w 2 a0 5 0) &&& 31))))))
def fX1_awaitedBy_b22 (w : Wd) (xs0 : Int32) : Option (Int32) := (some xs0)
def fX1_awaitedBy (a0 : Nat) (x1 : Int32) (w : Wd) : Option (Int32) := (bd (fX1_rowOf a0 x1 w) (fun u_2 => (oc u_2 (fX1_awaitedBy_b22 w (-1)) (fun b_4 => (bd (fX1_holderOf a0 (zI w 2 b_4 5 0) w) (fun y_8 => (fX1_awaitedBy_b22 w y_8)))))))
def fX1_followChainOf_b82 (w : Wd) : Option (Wd) := (some w)
def fX1_followChainOf_b9 (rec9 : Nat → Int32 → (Option Nat) → Int32 → Wd → Option (Wd)) (a0 : Nat) (x1 : Int32) (r2 : Option Nat) (x3 : Int32) (w : Wd) : Option (Wd) := (if 24 ≤ x3 then (fX1_followChainOf_b82 w) else (oc r2 (fX1_followChainOf_b82 w) (fun b_2 => (ckp (ix x1 24 = true) (bd (fX5_hasBit (zI w 1 a0 3 (x1 : Int32).toNatClampNeg) (zI w 2 b_2 1 0) w) (fun y_9 => (if y_9 = 0 then (ckp (ix x1 24 = true) (ckp (ix x1 24 = true) (lt' (sI w 1 a0 3 (x1 : Int32).toNatClampNeg ((zI w 1 a0 3 (x1 : Int32).toNatClampNeg) ||| (1 <<< ((zI w 2 b_2 1 0) &&& 31)))) (fun w_16 => (ckp (ix x1 24 = true) (bd (fX2_waitsAtBit b_2 w_16) (fun y_24 => (ckp (ix x1 24 = true) (lt' (sI w_16 1 a0 4 (x1 : Int32).toNatClampNeg ((zI w_16 1 a0 4 (x1 : Int32).toNatClampNeg) ||| y_24)) (fun w_27 => (bd (fX1_awaitedBy a0 (zI w_27 2 b_2 1 0) w_27) (fun y_32 => (bd (fX1_rowOf a0 y_32 w_27) (fun u_35 => (rec9 a0 x1 u_35 (x3 + 1) w_27))))))))))))))) else (fX1_followChainOf_b82 w))))))))
def fX1_followChainOf_l9 : Nat → Nat → Int32 → (Option Nat) → Int32 → Wd → Option (Wd)
  | 0, _, _, _, _, _ => none
  | n + 1, a0, x1, r2, x3, w => fX1_followChainOf_b9  (fX1_followChainOf_l9  n) a0 x1 r2 x3 w
def fX1_followChainOf (a0 : Nat) (x1 : Int32) (w : Wd) : Option (Wd) := (ckp (ix x1 24 = true) (lt' (zR w 1 a0 1 (x1 : Int32).toNatClampNeg) (fun u_4 => (fX1_followChainOf_l9 1000 a0 x1 u_4 0 w))))
def fX1_followChains_b2 (rec2 : Nat → Int32 → Wd → Option (Wd)) (a0 : Nat) (x1 : Int32) (w : Wd) : Option (Wd) := (if 24 ≤ x1 then (some w) else (bd (fX1_followChainOf a0 x1 w) (fun w_3 => (rec2 a0 (x1 + 1) w_3))))
def fX1_followChains_l2 : Nat → Nat → Int32 → Wd → Option (Wd)
  | 0, _, _, _ => none
  | n + 1, a0, x1, w => fX1_followChains_b2  (fX1_followChains_l2  n) a0 x1 w
def fX1_followChains (a0 : Nat) (w : Wd) : Option (Wd) := (fX1_followChains_l2 1000 a0 0 w)
def fX0_learnRow_b39 (rec2 : Nat → Nat → Int32 → Wd → Option (Wd)) (a0 : Nat) (a1 : Nat) (x2 : Int32) (w : Wd) : Option (Wd) := (rec2 a0 a1 (x2 + 1) w)
def fX0_learnRow_b2 (rec2 : Nat → Nat → Int32 → Wd → Option (Wd)) (a0 : Nat) (a1 : Nat) (x2 : Int32) (w : Wd) : Option (Wd) := (if 16 ≤ x2 then (some w) else (bd (fX2_holds a1 x2 w) (fun y_3 => (if y_3 = 0 then (fX0_learnRow_b39 rec2 a0 a1 x2 w) else (if x2 = (zI w 2 a1 5 0) then (fX0_learnRow_b39 rec2 a0 a1 x2 w) else (ckp (ix x2 16 = true) (ckp (ix x2 16 = true) (lt' (sI w 0 a0 0 (x2 : Int32).toNatClampNeg ((zI w 0 a0 0 (x2 : Int32).toNatClampNeg) ||| (1 <<< ((zI w 2 a1 5 0) &&& 31)))) (fun w_11 => (fX0_learnRow_b39 rec2 a0 a1 x2 w_11))))))))))
def fX0_learnRow_l2 : Nat → Nat → Nat → Int32 → Wd → Option (Wd)
  | 0, _, _, _, _ => none
  | n + 1, a0, a1, x2, w => fX0_learnRow_b2  (fX0_learnRow_l2  n) a0 a1 x2 w
def fX0_learnRow (a0 : Nat) (a1 : Nat) (w : Wd) : Option (Wd) := (fX0_learnRow_l2 1000 a0 a1 0 w)
def fX0_stepBack_b56 (rec8 : Nat → Int32 → Int32 → Int32 → Int32 → Wd → Option (Int32 × Wd)) (a0 : Nat) (x2 : Int32) (x3 : Int32) (x4 : Int32) (x5 : Int32) (w : Wd) : Option (Int32 × Wd) := (rec8 a0 x2 x3 x4 (x5 + 1) w)
def fX0_stepBack_b8 (rec8 : Nat → Int32 → Int32 → Int32 → Int32 → Wd → Option (Int32 × Wd)) (a0 : Nat) (x2 : Int32) (x3 : Int32) (x4 : Int32) (x5 : Int32) (w : Wd) : Option (Int32 × Wd) := (if 16 ≤ x5 then (some (x4, w)) else (ckp (ix x5 16 = true) (if (zI w 0 a0 1 (x5 : Int32).toNatClampNeg) = 16 then (ckp (ix x5 16 = true) (if ((zI w 0 a0 0 (x5 : Int32).toNatClampNeg) &&& x2) = 0 then (fX0_stepBack_b56 rec8 a0 x2 x3 x4 x5 w) else (ckp (ix x5 16 = true) (lt' (sI w 0 a0 1 (x5 : Int32).toNatClampNeg x3) (fun w_13 => (fX0_stepBack_b56 rec8 a0 x2 x3 (x4 ||| (1 <<< (x5 &&& 31))) x5 w_13)))))) else (fX0_stepBack_b56 rec8 a0 x2 x3 x4 x5 w))))
def fX0_stepBack_l8 : Nat → Nat → Int32 → Int32 → Int32 → Int32 → Wd → Option (Int32 × Wd)
  | 0, _, _, _, _, _, _ => none
  | n + 1, a0, x2, x3, x4, x5, w => fX0_stepBack_b8  (fX0_stepBack_l8  n) a0 x2 x3 x4 x5 w
def fX0_stepBack (a0 : Nat) (x1 : Int32) (x2 : Int32) (x3 : Int32) (w : Wd) : Option (Int32 × Wd) := (fX0_stepBack_l8 1000 a0 x2 x3 0 (x1 + 1) w)
def fX0_measureWaysBack_b59 (w : Wd) : Option (Wd) := (some w)
def fX0_measureWaysBack_b35 (rec35 : Nat → Int32 → Int32 → Int32 → Wd → Option (Wd)) (a0 : Nat) (x1 : Int32) (x2 : Int32) (x3 : Int32) (w : Wd) : Option (Wd) := (if 16 ≤ x3 then (fX0_measureWaysBack_b59 w) else (if x2 = 0 then (fX0_measureWaysBack_b59 w) else (bd2 (fX0_stepBack a0 x1 x2 x3 w) (fun y_4 w_5 => (rec35 a0 x1 y_4 (x3 + 1) w_5)))))
def fX0_measureWaysBack_l35 : Nat → Nat → Int32 → Int32 → Int32 → Wd → Option (Wd)
  | 0, _, _, _, _, _ => none
  | n + 1, a0, x1, x2, x3, w => fX0_measureWaysBack_b35  (fX0_measureWaysBack_l35  n) a0 x1 x2 x3 w
def fX0_measureWaysBack_b2 (rec2 : Nat → Int32 → Int32 → Wd → Option (Wd)) (a0 : Nat) (x1 : Int32) (x2 : Int32) (w : Wd) : Option (Wd) := (if 16 ≤ x2 then (ckp (ix x1 16 = true) (lt' (sI w 0 a0 1 (x1 : Int32).toNatClampNeg 0) (fun w_5 => (fX0_measureWaysBack_l35 1000 a0 x1 (1 <<< (x1 &&& 31)) 1 w_5)))) else (ckp (ix x2 16 = true) (lt' (sI w 0 a0 1 (x2 : Int32).toNatClampNeg 16) (fun w_11 => (rec2 a0 x1 (x2 + 1) w_11)))))
def fX0_measureWaysBack_l2 : Nat → Nat → Int32 → Int32 → Wd → Option (Wd)
  | 0, _, _, _, _ => none
  | n + 1, a0, x1, x2, w => fX0_measureWaysBack_b2  (fX0_measureWaysBack_l2  n) a0 x1 x2 w
def fX0_measureWaysBack (a0 : Nat) (x1 : Int32) (w : Wd) : Option (Wd) := (fX0_measureWaysBack_l2 1000 a0 x1 0 w)
def fX0_sizeOfRingFrom_b37 (w : Wd) (rec7 : Nat → Int32 → Int32 → Int32 → Option (Int32)) (a0 : Nat) (x1 : Int32) (x2 : Int32) (x3 : Int32) : Option (Int32) := (rec7 a0 x1 x2 (x3 + 1))
def fX0_sizeOfRingFrom_b7 (w : Wd) (rec7 : Nat → Int32 → Int32 → Int32 → Option (Int32)) (a0 : Nat) (x1 : Int32) (x2 : Int32) (x3 : Int32) : Option (Int32) := (if 16 ≤ x3 then (some (x2 + 1)) else (ckp (ix x1 16 = true) (bd (fX5_hasBit (zI w 0 a0 0 (x1 : Int32).toNatClampNeg) x3 w) (fun y_6 => (if y_6 = 0 then (fX0_sizeOfRingFrom_b37 w rec7 a0 x1 x2 x3) else (ckp (ix x3 16 = true) (bd (fJ9_min_7cf53 x2 (zI w 0 a0 1 (x3 : Int32).toNatClampNeg) w) (fun y_13 => (fX0_sizeOfRingFrom_b37 w rec7 a0 x1 y_13 x3)))))))))
def fX0_sizeOfRingFrom_l7 (w : Wd) : Nat → Nat → Int32 → Int32 → Int32 → Option (Int32)
  | 0, _, _, _, _ => none
  | n + 1, a0, x1, x2, x3 => fX0_sizeOfRingFrom_b7 w (fX0_sizeOfRingFrom_l7 w n) a0 x1 x2 x3
def fX0_sizeOfRingFrom (a0 : Nat) (x1 : Int32) (w : Wd) : Option (Int32) := (fX0_sizeOfRingFrom_l7 w 1000 a0 x1 16 (x1 + 1))
def fX0_lowestBehind_b33 (w : Wd) (rec2 : Nat → Int32 → Int32 → Int32 → Option (Int32)) (a0 : Nat) (x1 : Int32) (x2 : Int32) (x3 : Int32) : Option (Int32) := (rec2 a0 x1 x2 (x3 + 1))
def fX0_lowestBehind_b2 (w : Wd) (rec2 : Nat → Int32 → Int32 → Int32 → Option (Int32)) (a0 : Nat) (x1 : Int32) (x2 : Int32) (x3 : Int32) : Option (Int32) := (if 16 ≤ x3 then (some x1) else (ckp (ix x1 16 = true) (bd (fX5_hasBit (zI w 0 a0 0 (x1 : Int32).toNatClampNeg) x3 w) (fun y_6 => (if y_6 = 0 then (fX0_lowestBehind_b33 w rec2 a0 x1 x2 x3) else (ckp (ix x3 16 = true) (if (zI w 0 a0 1 (x3 : Int32).toNatClampNeg) = x2 then (some x3) else (fX0_lowestBehind_b33 w rec2 a0 x1 x2 x3))))))))
def fX0_lowestBehind_l2 (w : Wd) : Nat → Nat → Int32 → Int32 → Int32 → Option (Int32)
  | 0, _, _, _, _ => none
  | n + 1, a0, x1, x2, x3 => fX0_lowestBehind_b2 w (fX0_lowestBehind_l2 w n) a0 x1 x2 x3
def fX0_lowestBehind (a0 : Nat) (x1 : Int32) (x2 : Int32) (w : Wd) : Option (Int32) := (fX0_lowestBehind_l2 w 1000 a0 x1 x2 0)
def fX0_keepRing_b12 (rec12 : Nat → Int32 → Int32 → Int32 → Wd → Option (Wd)) (a0 : Nat) (x2 : Int32) (x3 : Int32) (x4 : Int32) (w : Wd) : Option (Wd) := (if x2 ≤ x4 then (lt' (sI w 0 a0 3 0 x2) (fun w_2 => (some w_2))) else (bd (fX0_lowestBehind a0 x3 (x2 - x4) w) (fun y_6 => (ckp (ix x4 16 = true) (lt' (sI w 0 a0 2 (x4 : Int32).toNatClampNeg y_6) (fun w_11 => (rec12 a0 x2 y_6 (x4 + 1) w_11)))))))
def fX0_keepRing_l12 : Nat → Nat → Int32 → Int32 → Int32 → Wd → Option (Wd)
  | 0, _, _, _, _, _ => none
  | n + 1, a0, x2, x3, x4, w => fX0_keepRing_b12  (fX0_keepRing_l12  n) a0 x2 x3 x4 w
def fX0_keepRing (a0 : Nat) (x1 : Int32) (x2 : Int32) (w : Wd) : Option (Wd) := (ckp (ix 0 16 = true) (lt' (sI w 0 a0 2 (0 : Int32).toNatClampNeg x1) (fun w_4 => (fX0_keepRing_l12 1000 a0 x2 x1 1 w_4))))
def fX0_findRing_b51 (rec7 : Nat → Int32 → Wd → Option (Wd)) (a0 : Nat) (x1 : Int32) (w : Wd) : Option (Wd) := (rec7 a0 (x1 + 1) w)
def fX0_findRing_b45 (rec7 : Nat → Int32 → Wd → Option (Wd)) (a0 : Nat) (x1 : Int32) (x2 : Int32) (w : Wd) : Option (Wd) := (bd (fX0_keepRing a0 x1 x2 w) (fun w_2 => (fX0_findRing_b51 rec7 a0 x1 w_2)))
def fX0_findRing_b7 (rec7 : Nat → Int32 → Wd → Option (Wd)) (a0 : Nat) (x1 : Int32) (w : Wd) : Option (Wd) := (if 16 ≤ x1 then (some w) else (bd (fX0_measureWaysBack a0 x1 w) (fun w_3 => (bd (fX0_sizeOfRingFrom a0 x1 w_3) (fun y_9 => (if 16 < y_9 then (fX0_findRing_b51 rec7 a0 x1 w_3) else (if (zI w_3 0 a0 3 0) = 0 then (fX0_findRing_b45 rec7 a0 x1 y_9 w_3) else (if (zI w_3 0 a0 3 0) ≤ y_9 then (fX0_findRing_b51 rec7 a0 x1 w_3) else (fX0_findRing_b45 rec7 a0 x1 y_9 w_3)))))))))
def fX0_findRing_l7 : Nat → Nat → Int32 → Wd → Option (Wd)
  | 0, _, _, _ => none
  | n + 1, a0, x1, w => fX0_findRing_b7  (fX0_findRing_l7  n) a0 x1 w
def fX0_findRing (a0 : Nat) (w : Wd) : Option (Wd) := (lt' (sI w 0 a0 3 0 0) (fun w_1 => (fX0_findRing_l7 1000 a0 0 w_1)))
def fX0_learn_b42 (rec11 : Nat → Nat → Int32 → Int32 → Wd → Option (Wd)) (a0 : Nat) (o2 : Nat) (x3 : Int32) (x4 : Int32) (w : Wd) : Option (Wd) := (rec11 a0 o2 x3 (x4 + 1) w)
def fX0_learn_b11 (rec11 : Nat → Nat → Int32 → Int32 → Wd → Option (Wd)) (a0 : Nat) (o2 : Nat) (x3 : Int32) (x4 : Int32) (w : Wd) : Option (Wd) := (if x3 ≤ x4 then (bd (fX0_findRing a0 w) (fun w_3 => (some w_3))) else (ckp (ix x4 24 = true) (lt' (zR w 1 o2 1 (x4 : Int32).toNatClampNeg) (fun u_11 => (oc u_11 (fX0_learn_b42 rec11 a0 o2 x3 x4 w) (fun b_15 => (bd (fX2_isWaiting b_15 w) (fun y_19 => (if y_19 = 0 then (fX0_learn_b42 rec11 a0 o2 x3 x4 w) else (bd (fX0_learnRow a0 b_15 w) (fun w_23 => (fX0_learn_b42 rec11 a0 o2 x3 x4 w_23))))))))))))
def fX0_learn_l11 : Nat → Nat → Nat → Int32 → Int32 → Wd → Option (Wd)
  | 0, _, _, _, _, _ => none
  | n + 1, a0, o2, x3, x4, w => fX0_learn_b11  (fX0_learn_l11  n) a0 o2 x3 x4 w
def fX0_learn (a0 : Nat) (a1 : Nat) (w : Wd) : Option (Wd) := (fX0_learn_l11 1000 a0 a1 24 0 w)
def fX6_here_b28 (w : Wd) (xs0 : Int32) : Option (Int32) := (some xs0)
def fX6_here (a0 : Nat) (w : Wd) : Option (Int32) := (if (zI w 6 a0 15 0) ≤ (zI w 6 a0 14 0) then (fX6_here_b28 w 0) else (ckp (ix (zI w 6 a0 14 0) 300 = true) (fX6_here_b28 w ((zI w 6 a0 0 ((zI w 6 a0 14 0) : Int32).toNatClampNeg) &&& 255))))
def fX6_lies_b15 (w : Wd) (xs0 : Int32) : Option (Int32) := (ckp ((xs0 : Int32) = 0 ∨ (xs0 : Int32) = 1) (some xs0))
def fX6_lies_b14 (w : Wd) : Option (Int32) := (fX6_lies_b15 w 0)
def fX6_lies (x0 : Int32) (x1 : Int32) (x2 : Int32) (w : Wd) : Option (Int32) := (if x0 < x1 then (fX6_lies_b14 w) else (if x2 < x0 then (fX6_lies_b14 w) else (fX6_lies_b15 w 1)))
def fX6_seesDigit (a0 : Nat) (w : Wd) : Option (Int32) := (bd (fX6_here a0 w) (fun y_2 => (bd (fX6_lies y_2 48 57 w) (fun y_5 => (ckp ((y_5 : Int32) = 0 ∨ (y_5 : Int32) = 1) (some y_5))))))
def fX6_tears_b13 (w : Wd) : Option (Wd) := (some w)
def fX6_tears (a0 : Nat) (x1 : Int32) (w : Wd) : Option (Wd) := (if (zI w 6 a0 16 0) = (-1) then (lt' (sI w 6 a0 16 0 x1) (fun w_2 => (fX6_tears_b13 w_2))) else (fX6_tears_b13 w))
def fX6_number_b108 (x3 : Int32) (w : Wd) : Option (Int32 × Wd) := (some (x3, w))
def fX6_number_b87 (a0 : Nat) (x2 : Int32) (x3 : Int32) (w : Wd) : Option (Int32 × Wd) := (if (zI w 6 a0 16 0) = (-1) then (if x3 ≤ x2 then (fX6_number_b108 x3 w) else (bd (fX6_tears a0 (zI w 6 a0 17 0) w) (fun w_4 => (fX6_number_b108 x3 w_4)))) else (fX6_number_b108 x3 w))
def fX6_number_b61 (rec25 : Nat → Int32 → Int32 → Int32 → Wd → Option (Int32 × Wd)) (a0 : Nat) (x1 : Int32) (x2 : Int32) (x3 : Int32) (w : Wd) : Option (Int32 × Wd) := (bd (fX6_here a0 w) (fun y_2 => (lt' (sI w 6 a0 14 0 ((zI w 6 a0 14 0) + 1)) (fun w_4 => (rec25 a0 x1 x2 (((10 * x3) + y_2) - 48) w_4)))))
def fX6_number_b25 (rec25 : Nat → Int32 → Int32 → Int32 → Wd → Option (Int32 × Wd)) (a0 : Nat) (x1 : Int32) (x2 : Int32) (x3 : Int32) (w : Wd) : Option (Int32 × Wd) := (if (zI w 6 a0 16 0) = (-1) then (bd (fX6_seesDigit a0 w) (fun y_3 => (if y_3 = 0 then (fX6_number_b87 a0 x2 x3 w) else (if (zI w 6 a0 14 0) = ((zI w 6 a0 17 0) + x1) then (bd (fX6_tears a0 (zI w 6 a0 14 0) w) (fun w_8 => (fX6_number_b61 rec25 a0 x1 x2 x3 w_8))) else (fX6_number_b61 rec25 a0 x1 x2 x3 w))))) else (fX6_number_b87 a0 x2 x3 w))
def fX6_number_l25 : Nat → Nat → Int32 → Int32 → Int32 → Wd → Option (Int32 × Wd)
  | 0, _, _, _, _, _ => none
  | n + 1, a0, x1, x2, x3, w => fX6_number_b25  (fX6_number_l25  n) a0 x1 x2 x3 w
def fX6_number (a0 : Nat) (x1 : Int32) (x2 : Int32) (w : Wd) : Option (Int32 × Wd) := (lt' (sI w 6 a0 17 0 (zI w 6 a0 14 0)) (fun w_1 => (bd (fX6_seesDigit a0 w_1) (fun y_5 => (if y_5 = 0 then (bd (fX6_tears a0 (zI w_1 6 a0 14 0) w_1) (fun w_9 => (fX6_number_l25 1000 a0 x1 x2 0 w_9))) else (fX6_number_l25 1000 a0 x1 x2 0 w_1))))))
def fX6_stateOf_b41 (w : Wd) (xs0 : Int32) : Option (Int32) := (some xs0)
def fX6_stateOf (x0 : Int32) (w : Wd) : Option (Int32) := (if x0 = 82 then (fX6_stateOf_b41 w 0) else (if x0 = 87 then (fX6_stateOf_b41 w 1) else (if x0 = 83 then (fX6_stateOf_b41 w 2) else (if x0 = 70 then (fX6_stateOf_b41 w 3) else (fX6_stateOf_b41 w (-1))))))
def fX6_heldBy_b38 (w : Wd) (rec4 : Nat → Int32 → Int32 → Int32 → Option (Int32)) (a0 : Nat) (x1 : Int32) (x2 : Int32) (x3 : Int32) : Option (Int32) := (rec4 a0 x1 x2 (x3 + 1))
def fX6_heldBy_b4 (w : Wd) (rec4 : Nat → Int32 → Int32 → Int32 → Option (Int32)) (a0 : Nat) (x1 : Int32) (x2 : Int32) (x3 : Int32) : Option (Int32) := (if 24 ≤ x3 then (some x2) else (ckp (ix ((24 * x1) + x3) 192 = true) (if (zI w 6 a0 7 (((24 * x1) + x3) : Int32).toNatClampNeg) = 0 then (fX6_heldBy_b38 w rec4 a0 x1 x2 x3) else (ckp (ix ((24 * x1) + x3) 192 = true) (fX6_heldBy_b38 w rec4 a0 x1 (x2 ||| (zI w 6 a0 10 (((24 * x1) + x3) : Int32).toNatClampNeg)) x3)))))
def fX6_heldBy_l4 (w : Wd) : Nat → Nat → Int32 → Int32 → Int32 → Option (Int32)
  | 0, _, _, _, _ => none
  | n + 1, a0, x1, x2, x3 => fX6_heldBy_b4 w (fX6_heldBy_l4 w n) a0 x1 x2 x3
def fX6_heldBy (a0 : Nat) (x1 : Int32) (w : Wd) : Option (Int32) := (fX6_heldBy_l4 w 1000 a0 x1 0 0)
def fX6_readLocks_b122 (w : Wd) : Option (Wd) := (some w)
def fX6_readLocks_b119 (rec4 : Nat → Int32 → Int32 → Int32 → Wd → Option (Wd)) (a0 : Nat) (x1 : Int32) (x2 : Int32) (x3 : Int32) (w : Wd) : Option (Wd) := (rec4 a0 x1 x2 x3 w)
def fX6_readLocks_b101 (rec4 : Nat → Int32 → Int32 → Int32 → Wd → Option (Wd)) (a0 : Nat) (x1 : Int32) (x2 : Int32) (xs0 : Int32) (w : Wd) : Option (Wd) := (if xs0 = 0 then (fX6_readLocks_b119 rec4 a0 x1 x2 xs0 w) else (if x2 = 4 then (bd (fX6_tears a0 (zI w 6 a0 14 0) w) (fun w_4 => (fX6_readLocks_b119 rec4 a0 x1 x2 xs0 w_4))) else (fX6_readLocks_b119 rec4 a0 x1 x2 xs0 w)))
def fX6_readLocks_b71 (rec4 : Nat → Int32 → Int32 → Int32 → Wd → Option (Wd)) (a0 : Nat) (x1 : Int32) (x2 : Int32) (x4 : Int32) (w : Wd) : Option (Wd) := (lt' (sI w 6 a0 21 0 ((zI w 6 a0 21 0) ||| (1 <<< (x4 &&& 31)))) (fun w_1 => (bd (fX6_here a0 w_1) (fun y_5 => (if y_5 = 44 then (fX6_readLocks_b101 rec4 a0 x1 (x2 + 1) 1 w_1) else (fX6_readLocks_b101 rec4 a0 x1 (x2 + 1) 0 w_1))))))
def fX6_readLocks_b4 (rec4 : Nat → Int32 → Int32 → Int32 → Wd → Option (Wd)) (a0 : Nat) (x1 : Int32) (x2 : Int32) (x3 : Int32) (w : Wd) : Option (Wd) := (if x3 = 0 then (fX6_readLocks_b122 w) else (if (zI w 6 a0 16 0) = (-1) then (lt' (sI w 6 a0 14 0 ((zI w 6 a0 14 0) + 1)) (fun w_3 => (bd2 (fX6_number a0 2 15 w_3) (fun y_7 w_8 => (if (zI w_8 6 a0 16 0) = (-1) then (bd (fX6_heldBy a0 x1 w_8) (fun y_15 => (if (((y_15 ||| (zI w_8 6 a0 21 0)) >>> (y_7 &&& 31)) &&& 1) = 1 then (bd (fX6_tears a0 (zI w_8 6 a0 17 0) w_8) (fun w_19 => (fX6_readLocks_b71 rec4 a0 x1 x2 y_7 w_19))) else (fX6_readLocks_b71 rec4 a0 x1 x2 y_7 w_8)))) else (some w_8)))))) else (fX6_readLocks_b122 w)))
def fX6_readLocks_l4 : Nat → Nat → Int32 → Int32 → Int32 → Wd → Option (Wd)
  | 0, _, _, _, _, _ => none
  | n + 1, a0, x1, x2, x3, w => fX6_readLocks_b4  (fX6_readLocks_l4  n) a0 x1 x2 x3 w
def fX6_readLocks (a0 : Nat) (x1 : Int32) (w : Wd) : Option (Wd) := (fX6_readLocks_l4 1000 a0 x1 0 1 w)
def fX6_readCalls_b109 (w : Wd) : Option (Wd) := (some w)
def fX6_readCalls_b32 (rec32 : Nat → Wd → Option (Wd)) (a0 : Nat) (w : Wd) : Option (Wd) := (if (zI w 6 a0 16 0) = (-1) then (bd (fX6_here a0 w) (fun y_3 => (bd (fX6_lies y_3 97 122 w) (fun y_6 => (if y_6 = 0 then (fX6_readCalls_b109 w) else (if (zI w 6 a0 23 0) = 12 then (bd (fX6_tears a0 (zI w 6 a0 14 0) w) (fun w_26 => (some w_26))) else (bd (fX6_here a0 w) (fun y_13 => (ckp (ix (zI w 6 a0 23 0) 12 = true) (lt' (sI w 6 a0 24 ((zI w 6 a0 23 0) : Int32).toNatClampNeg (vp_nar .byte ((y_13 : Int32).toInt8.toInt32))) (fun w_16 => (lt' (sI w_16 6 a0 23 0 ((zI w_16 6 a0 23 0) + 1)) (fun w_19 => (lt' (sI w_19 6 a0 14 0 ((zI w_19 6 a0 14 0) + 1)) (fun w_22 => (rec32 a0 w_22)))))))))))))))) else (fX6_readCalls_b109 w))
def fX6_readCalls_l32 : Nat → Nat → Wd → Option (Wd)
  | 0, _, _ => none
  | n + 1, a0, w => fX6_readCalls_b32  (fX6_readCalls_l32  n) a0 w
def fX6_readCalls (a0 : Nat) (w : Wd) : Option (Wd) := (lt' (sI w 6 a0 14 0 ((zI w 6 a0 14 0) + 1)) (fun w_1 => (bd (fX6_here a0 w_1) (fun y_5 => (bd (fX6_lies y_5 97 122 w_1) (fun y_8 => (if y_8 = 0 then (bd (fX6_tears a0 (zI w_1 6 a0 14 0) w_1) (fun w_12 => (fX6_readCalls_l32 1000 a0 w_12))) else (fX6_readCalls_l32 1000 a0 w_1))))))))
def fX6_readRow_b308 (w : Wd) : Option (Wd) := (some w)
def fX6_readRow_b272 (a0 : Nat) (w : Wd) : Option (Wd) := (if (zI w 6 a0 16 0) = (-1) then (if (zI w 6 a0 15 0) ≤ (zI w 6 a0 14 0) then (fX6_readRow_b308 w) else (bd (fX6_here a0 w) (fun y_4 => (if y_4 = 59 then (fX6_readRow_b308 w) else (bd (fX6_tears a0 (zI w 6 a0 14 0) w) (fun w_8 => (fX6_readRow_b308 w_8))))))) else (fX6_readRow_b308 w))
def fX6_readRow_b251 (a0 : Nat) (w : Wd) : Option (Wd) := (if (zI w 6 a0 16 0) = (-1) then (bd (fX6_here a0 w) (fun y_3 => (if y_3 = 99 then (bd (fX6_readCalls a0 w) (fun w_7 => (fX6_readRow_b272 a0 w_7))) else (fX6_readRow_b272 a0 w)))) else (fX6_readRow_b272 a0 w))
def fX6_readRow_b218 (a0 : Nat) (x2 : Int32) (w : Wd) : Option (Wd) := (if (zI w 6 a0 16 0) = (-1) then (if x2 = 0 then (fX6_readRow_b251 a0 w) else (lt' (sI w 6 a0 14 0 ((zI w 6 a0 14 0) + 1)) (fun w_3 => (bd2 (fX6_number a0 2 15 w_3) (fun y_7 w_8 => (lt' (sI w_8 6 a0 22 0 y_7) (fun w_13 => (fX6_readRow_b251 a0 w_13)))))))) else (fX6_readRow_b251 a0 w))
def fX6_readRow_b210 (a0 : Nat) (x2 : Int32) (w : Wd) : Option (Wd) := (bd (fX6_tears a0 (zI w 6 a0 14 0) w) (fun w_2 => (fX6_readRow_b218 a0 x2 w_2)))
def fX6_readRow_b194 (a0 : Nat) (x2 : Int32) (xs0 : Int32) (xs1 : Int32) (w : Wd) : Option (Wd) := (if xs1 = xs0 then (fX6_readRow_b218 a0 x2 w) else (if x2 = 0 then (bd (fX6_here a0 w) (fun y_4 => (if y_4 = 119 then (fX6_readRow_b210 a0 x2 w) else (fX6_readRow_b218 a0 x2 w)))) else (fX6_readRow_b210 a0 x2 w)))
def fX6_readRow_b178 (a0 : Nat) (xs0 : Int32) (w : Wd) : Option (Wd) := (bd (fX6_here a0 w) (fun y_2 => (if y_2 = 119 then (fX6_readRow_b194 a0 xs0 1 xs0 w) else (fX6_readRow_b194 a0 xs0 0 xs0 w))))
def fX6_readRow_b173 (a0 : Nat) (w : Wd) : Option (Wd) := (fX6_readRow_b178 a0 1 w)
def fX6_readRow_b148 (a0 : Nat) (w : Wd) : Option (Wd) := (if (zI w 6 a0 16 0) = (-1) then (if (zI w 6 a0 19 0) = 1 then (fX6_readRow_b173 a0 w) else (if (zI w 6 a0 19 0) = 2 then (fX6_readRow_b173 a0 w) else (fX6_readRow_b178 a0 0 w))) else (some w))
def fX6_readRow_b126 (a0 : Nat) (x1 : Int32) (w : Wd) : Option (Wd) := (if (zI w 6 a0 16 0) = (-1) then (bd (fX6_here a0 w) (fun y_3 => (if y_3 = 104 then (bd (fX6_readLocks a0 x1 w) (fun w_7 => (fX6_readRow_b148 a0 w_7))) else (fX6_readRow_b148 a0 w)))) else (fX6_readRow_b148 a0 w))
def fX6_readRow_b96 (a0 : Nat) (x1 : Int32) (w : Wd) : Option (Wd) := (lt' (sI w 6 a0 14 0 ((zI w 6 a0 14 0) + 1)) (fun w_1 => (if (zI w_1 6 a0 16 0) = (-1) then (bd2 (fX6_number a0 4 9999 w_1) (fun y_6 w_7 => (lt' (sI w_7 6 a0 20 0 y_6) (fun w_12 => (fX6_readRow_b126 a0 x1 w_12))))) else (fX6_readRow_b126 a0 x1 w_1))))
def fX6_readRow_b69 (a0 : Nat) (x1 : Int32) (w : Wd) : Option (Wd) := (bd (fX6_here a0 w) (fun y_2 => (bd (fX6_stateOf y_2 w) (fun y_5 => (lt' (sI w 6 a0 19 0 y_5) (fun w_7 => (if (zI w_7 6 a0 19 0) = (-1) then (bd (fX6_tears a0 (zI w_7 6 a0 14 0) w_7) (fun w_12 => (fX6_readRow_b96 a0 x1 w_12))) else (fX6_readRow_b96 a0 x1 w_7))))))))
def fX6_readRow (a0 : Nat) (x1 : Int32) (w : Wd) : Option (Wd) := (lt' (sI w 6 a0 14 0 ((zI w 6 a0 14 0) + 1)) (fun w_1 => (lt' (sI w_1 6 a0 21 0 0) (fun w_4 => (lt' (sI w_4 6 a0 22 0 (-1)) (fun w_7 => (lt' (sI w_7 6 a0 23 0 0) (fun w_10 => (bd2 (fX6_number a0 2 23 w_10) (fun y_14 w_15 => (lt' (sI w_15 6 a0 18 0 y_14) (fun w_20 => (if (zI w_20 6 a0 16 0) = (-1) then (ckp (ix ((24 * x1) + (zI w_20 6 a0 18 0)) 192 = true) (if (zI w_20 6 a0 7 (((24 * x1) + (zI w_20 6 a0 18 0)) : Int32).toNatClampNeg) = 0 then (fX6_readRow_b69 a0 x1 w_20) else (bd (fX6_tears a0 (zI w_20 6 a0 17 0) w_20) (fun w_30 => (fX6_readRow_b69 a0 x1 w_30))))) else (fX6_readRow_b69 a0 x1 w_20))))))))))))))
def fX6_stands_b69 (rec69 : Nat → Int32 → Int32 → Wd → Option (Wd)) (a0 : Nat) (x2 : Int32) (x3 : Int32) (w : Wd) : Option (Wd) := (if (zI w 6 a0 23 0) ≤ x3 then (some w) else (ckp (ix x3 12 = true) (ckp (ix ((12 * x2) + x3) 2304 = true) (lt' (sI w 6 a0 13 (((12 * x2) + x3) : Int32).toNatClampNeg (vp_nar .byte (zI w 6 a0 24 (x3 : Int32).toNatClampNeg))) (fun w_8 => (rec69 a0 x2 (x3 + 1) w_8))))))
def fX6_stands_l69 : Nat → Nat → Int32 → Int32 → Wd → Option (Wd)
  | 0, _, _, _, _ => none
  | n + 1, a0, x2, x3, w => fX6_stands_b69  (fX6_stands_l69  n) a0 x2 x3 w
def fX6_stands (a0 : Nat) (x1 : Int32) (w : Wd) : Option (Wd) := (ckp (ix ((24 * x1) + (zI w 6 a0 18 0)) 192 = true) (lt' (sI w 6 a0 7 (((24 * x1) + (zI w 6 a0 18 0)) : Int32).toNatClampNeg (vp_nar .boolean 1)) (fun w_4 => (ckp (ix ((24 * x1) + (zI w 6 a0 18 0)) 192 = true) (lt' (sI w_4 6 a0 8 (((24 * x1) + (zI w 6 a0 18 0)) : Int32).toNatClampNeg (zI w_4 6 a0 19 0)) (fun w_10 => (ckp (ix ((24 * x1) + (zI w 6 a0 18 0)) 192 = true) (lt' (sI w_10 6 a0 9 (((24 * x1) + (zI w 6 a0 18 0)) : Int32).toNatClampNeg (zI w_10 6 a0 20 0)) (fun w_16 => (ckp (ix ((24 * x1) + (zI w 6 a0 18 0)) 192 = true) (lt' (sI w_16 6 a0 10 (((24 * x1) + (zI w 6 a0 18 0)) : Int32).toNatClampNeg (zI w_16 6 a0 21 0)) (fun w_22 => (ckp (ix ((24 * x1) + (zI w 6 a0 18 0)) 192 = true) (lt' (sI w_22 6 a0 11 (((24 * x1) + (zI w 6 a0 18 0)) : Int32).toNatClampNeg (zI w_22 6 a0 22 0)) (fun w_28 => (ckp (ix ((24 * x1) + (zI w 6 a0 18 0)) 192 = true) (lt' (sI w_28 6 a0 12 (((24 * x1) + (zI w 6 a0 18 0)) : Int32).toNatClampNeg (zI w_28 6 a0 23 0)) (fun w_34 => (fX6_stands_l69 1000 a0 ((24 * x1) + (zI w 6 a0 18 0)) 0 w_34)))))))))))))))))))
def fX6_picture_b212 (a0 : Nat) (x2 : Int32) (w : Wd) : Option (Int32 × Wd) := (ckp (ix x2 8 = true) (lt' (sI w 6 a0 6 (x2 : Int32).toNatClampNeg (zI w 6 a0 16 0)) (fun w_4 => (lt' (sI w_4 6 a0 2 0 ((zI w_4 6 a0 2 0) + 1)) (fun w_7 => (some (x2, w_7)))))))
def fX6_picture_b172 (rec172 : Nat → Int32 → Wd → Option (Int32 × Wd)) (a0 : Nat) (x2 : Int32) (w : Wd) : Option (Int32 × Wd) := (if (zI w 6 a0 16 0) = (-1) then (if (zI w 6 a0 15 0) ≤ (zI w 6 a0 14 0) then (fX6_picture_b212 a0 x2 w) else (bd (fX6_readRow a0 x2 w) (fun w_4 => (if (zI w_4 6 a0 16 0) = (-1) then (bd (fX6_stands a0 x2 w_4) (fun w_11 => (rec172 a0 x2 w_11))) else (rec172 a0 x2 w_4))))) else (fX6_picture_b212 a0 x2 w))
def fX6_picture_l172 : Nat → Nat → Int32 → Wd → Option (Int32 × Wd)
  | 0, _, _, _ => none
  | n + 1, a0, x2, w => fX6_picture_b172  (fX6_picture_l172  n) a0 x2 w
def fX6_picture_b148 (rec148 : Nat → Int32 → Int32 → Wd → Option (Int32 × Wd)) (a0 : Nat) (x2 : Int32) (x3 : Int32) (w : Wd) : Option (Int32 × Wd) := (if 24 ≤ x3 then (fX6_picture_l172 1000 a0 x2 w) else (ckp (ix ((24 * x2) + x3) 192 = true) (lt' (sI w 6 a0 7 (((24 * x2) + x3) : Int32).toNatClampNeg (vp_nar .boolean 0)) (fun w_5 => (rec148 a0 x2 (x3 + 1) w_5)))))
def fX6_picture_l148 : Nat → Nat → Int32 → Int32 → Wd → Option (Int32 × Wd)
  | 0, _, _, _, _ => none
  | n + 1, a0, x2, x3, w => fX6_picture_b148  (fX6_picture_l148  n) a0 x2 x3 w
def fX6_picture_b117 (rec117 : Nat → Int32 → Int32 → Wd → Option (Int32 × Wd)) (a0 : Nat) (x2 : Int32) (x3 : Int32) (w : Wd) : Option (Int32 × Wd) := (if x2 ≤ x3 then (fX6_picture_l148 1000 a0 x2 0 w) else (ckp (ix x3 8 = true) (ckp (ix x2 8 = true) (if (zI w 6 a0 5 (x3 : Int32).toNatClampNeg) = (zI w 6 a0 5 (x2 : Int32).toNatClampNeg) then (some ((-2), w)) else (rec117 a0 x2 (x3 + 1) w)))))
def fX6_picture_l117 : Nat → Nat → Int32 → Int32 → Wd → Option (Int32 × Wd)
  | 0, _, _, _, _ => none
  | n + 1, a0, x2, x3, w => fX6_picture_b117  (fX6_picture_l117  n) a0 x2 x3 w
def fX6_picture_b115 (a0 : Nat) (x2 : Int32) (w : Wd) : Option (Int32 × Wd) := (fX6_picture_l117 1000 a0 x2 0 w)
def fX6_picture_b112 (w : Wd) : Option (Int32 × Wd) := (some ((-2), w))
def fX6_picture_b21 (w : Wd) : Option (Int32 × Wd) := (some ((-1), w))
def fX6_picture (a0 : Nat) (x1 : Int32) (w : Wd) : Option (Int32 × Wd) := (if (zI w 6 a0 2 0) = 8 then (fX6_picture_b21 w) else (if x1 < 0 then (fX6_picture_b21 w) else (if x1 ≤ (zI w 6 a0 1 0) then (lt' (sI w 6 a0 1 0 0) (fun w_4 => (lt' (sI w_4 6 a0 15 0 x1) (fun w_7 => (lt' (sI w_7 6 a0 14 0 0) (fun w_10 => (lt' (sI w_10 6 a0 16 0 (-1)) (fun w_13 => (bd (fX6_here a0 w_13) (fun y_17 => (if y_17 = 116 then (lt' (sI w_13 6 a0 14 0 ((zI w_13 6 a0 14 0) + 1)) (fun w_20 => (bd2 (fX6_number a0 4 9999 w_20) (fun y_26 w_27 => (ckp (ix (zI w_13 6 a0 2 0) 8 = true) (lt' (sI w_27 6 a0 5 ((zI w_13 6 a0 2 0) : Int32).toNatClampNeg y_26) (fun w_35 => (if (zI w_35 6 a0 16 0) = (-1) then (if (zI w_35 6 a0 15 0) ≤ (zI w_35 6 a0 14 0) then (fX6_picture_b115 a0 (zI w_13 6 a0 2 0) w_35) else (bd (fX6_here a0 w_35) (fun y_42 => (if y_42 = 59 then (fX6_picture_b115 a0 (zI w_13 6 a0 2 0) w_35) else (fX6_picture_b112 w_35))))) else (fX6_picture_b112 w_35))))))))) else (some ((-2), w_13))))))))))))) else (fX6_picture_b21 w))))
def fX5_pictureAt_b22 (w : Wd) (rs0 : Option Nat) : Option (Option Nat) := (some rs0)
def fX5_pictureAt_b12 (w : Wd) : Option (Option Nat) := (fX5_pictureAt_b22 w none)
def fX5_pictureAt (a0 : Nat) (x1 : Int32) (w : Wd) : Option (Option Nat) := (if x1 < 0 then (fX5_pictureAt_b12 w) else (if x1 < (zI w 5 a0 3 0) then (ckp (ix x1 8 = true) (lt' (zR w 5 a0 1 (x1 : Int32).toNatClampNeg) (fun u_6 => (fX5_pictureAt_b22 w u_6)))) else (fX5_pictureAt_b12 w)))
def fX5_torn_b18 (w : Wd) (xs0 : Int32) : Option (Int32) := (some xs0)
def fX5_torn (a0 : Nat) (x1 : Int32) (w : Wd) : Option (Int32) := (bd (fX5_pictureAt a0 x1 w) (fun u_2 => (oc u_2 (fX5_torn_b18 w (-1)) (fun b_4 => (fX5_torn_b18 w (zI w 1 b_4 7 0))))))
def fX6_isPicture (a0 : Nat) (x1 : Int32) (w : Wd) : Option (Int32) := (bd (fX6_lies x1 0 ((zI w 6 a0 2 0) - 1) w) (fun y_2 => (ckp ((y_2 : Int32) = 0 ∨ (y_2 : Int32) = 1) (some y_2))))
def fX6_torn_b18 (w : Wd) (xs0 : Int32) : Option (Int32) := (some xs0)
def fX6_torn (a0 : Nat) (x1 : Int32) (w : Wd) : Option (Int32) := (bd (fX6_isPicture a0 x1 w) (fun y_2 => (if y_2 = 0 then (fX6_torn_b18 w (-1)) else (ckp (ix x1 8 = true) (fX6_torn_b18 w (zI w 6 a0 6 (x1 : Int32).toNatClampNeg))))))
def fX5_rowAt_b19 (w : Wd) (rs0 : Option Nat) : Option (Option Nat) := (some rs0)
def fX5_rowAt (a0 : Nat) (x1 : Int32) (x2 : Int32) (w : Wd) : Option (Option Nat) := (bd (fX5_pictureAt a0 x1 w) (fun u_2 => (oc u_2 (fX5_rowAt_b19 w none) (fun b_4 => (bd (fX1_rowOf b_4 x2 w) (fun u_8 => (fX5_rowAt_b19 w u_8)))))))
def fX2_callAt_b22 (w : Wd) (xs0 : Int32) : Option (Int32) := (some xs0)
def fX2_callAt_b12 (w : Wd) : Option (Int32) := (fX2_callAt_b22 w (-1))
def fX2_callAt (a0 : Nat) (x1 : Int32) (w : Wd) : Option (Int32) := (if x1 < 0 then (fX2_callAt_b12 w) else (if x1 < (zI w 2 a0 6 0) then (ckp (ix x1 12 = true) (fX2_callAt_b22 w (zI w 2 a0 0 (x1 : Int32).toNatClampNeg))) else (fX2_callAt_b12 w)))
def fX5_look_b101 (w : Wd) (xs0 : Int32) : Option (Int32) := (some xs0)
def fX5_look (a0 : Nat) (x1 : Int32) (x2 : Int32) (x3 : Int32) (w : Wd) : Option (Int32) := (bd (fX5_rowAt a0 x1 x2 w) (fun u_2 => (oc u_2 (some (-1)) (fun b_4 => (if x3 = 0 then (some (zI w 2 b_4 2 0)) else (if x3 = 1 then (some (zI w 2 b_4 3 0)) else (if x3 = 2 then (some (zI w 2 b_4 4 0)) else (if x3 = 3 then (some (zI w 2 b_4 5 0)) else (if x3 = 4 then (some (zI w 2 b_4 6 0)) else (if 10 ≤ x3 then (bd (fX2_callAt b_4 (x3 - 10) w) (fun y_14 => (fX5_look_b101 w y_14))) else (fX5_look_b101 w (-1))))))))))))
def fX6_isThere_b37 (w : Wd) (xs0 : Int32) : Option (Int32) := (ckp ((xs0 : Int32) = 0 ∨ (xs0 : Int32) = 1) (some xs0))
def fX6_isThere_b36 (w : Wd) : Option (Int32) := (fX6_isThere_b37 w 0)
def fX6_isThere (a0 : Nat) (x1 : Int32) (x2 : Int32) (w : Wd) : Option (Int32) := (bd (fX6_isPicture a0 x1 w) (fun y_2 => (if y_2 = 0 then (fX6_isThere_b36 w) else (bd (fX6_lies x2 0 23 w) (fun y_6 => (if y_6 = 0 then (fX6_isThere_b36 w) else (ckp (ix ((24 * x1) + x2) 192 = true) (if (zI w 6 a0 7 (((24 * x1) + x2) : Int32).toNatClampNeg) = 0 then (fX6_isThere_b36 w) else (fX6_isThere_b37 w 1)))))))))
def fX6_look (a0 : Nat) (x1 : Int32) (x2 : Int32) (x3 : Int32) (w : Wd) : Option (Int32) := (bd (fX6_isThere a0 x1 x2 w) (fun y_2 => (if y_2 = 0 then (some (-1)) else (ckp (ix ((24 * x1) + x2) 192 = true) (bd (fX6_lies (x3 - 10) 0 ((zI w 6 a0 12 (((24 * x1) + x2) : Int32).toNatClampNeg) - 1) w) (fun y_9 => (if y_9 = 0 then (if x3 = 0 then (ckp (ix ((24 * x1) + x2) 192 = true) (some (zI w 6 a0 8 (((24 * x1) + x2) : Int32).toNatClampNeg))) else (if x3 = 1 then (ckp (ix ((24 * x1) + x2) 192 = true) (some (zI w 6 a0 9 (((24 * x1) + x2) : Int32).toNatClampNeg))) else (if x3 = 2 then (ckp (ix ((24 * x1) + x2) 192 = true) (some (zI w 6 a0 10 (((24 * x1) + x2) : Int32).toNatClampNeg))) else (if x3 = 3 then (ckp (ix ((24 * x1) + x2) 192 = true) (some (zI w 6 a0 11 (((24 * x1) + x2) : Int32).toNatClampNeg))) else (if x3 = 4 then (ckp (ix ((24 * x1) + x2) 192 = true) (some (zI w 6 a0 12 (((24 * x1) + x2) : Int32).toNatClampNeg))) else (some (-1))))))) else (ckp (ix (((12 * ((24 * x1) + x2)) + x3) - 10) 2304 = true) (some (zI w 6 a0 13 ((((12 * ((24 * x1) + x2)) + x3) - 10) : Int32).toNatClampNeg))))))))))
def fX5_holder_b19 (w : Wd) (xs0 : Int32) : Option (Int32) := (some xs0)
def fX5_holder (a0 : Nat) (x1 : Int32) (x2 : Int32) (w : Wd) : Option (Int32) := (bd (fX5_pictureAt a0 x1 w) (fun u_2 => (oc u_2 (fX5_holder_b19 w (-1)) (fun b_4 => (bd (fX1_holderOf b_4 x2 w) (fun y_8 => (fX5_holder_b19 w y_8)))))))
def fX6_holderOf_b43 (w : Wd) (rec2 : Nat → Int32 → Int32 → Int32 → Option (Int32)) (a0 : Nat) (x1 : Int32) (x2 : Int32) (x3 : Int32) : Option (Int32) := (rec2 a0 x1 x2 (x3 + 1))
def fX6_holderOf_b2 (w : Wd) (rec2 : Nat → Int32 → Int32 → Int32 → Option (Int32)) (a0 : Nat) (x1 : Int32) (x2 : Int32) (x3 : Int32) : Option (Int32) := (if 24 ≤ x3 then (some (-1)) else (ckp (ix ((24 * x1) + x3) 192 = true) (if (zI w 6 a0 7 (((24 * x1) + x3) : Int32).toNatClampNeg) = 0 then (fX6_holderOf_b43 w rec2 a0 x1 x2 x3) else (ckp (ix ((24 * x1) + x3) 192 = true) (if (((zI w 6 a0 10 (((24 * x1) + x3) : Int32).toNatClampNeg) >>> (x2 &&& 31)) &&& 1) = 1 then (some x3) else (fX6_holderOf_b43 w rec2 a0 x1 x2 x3))))))
def fX6_holderOf_l2 (w : Wd) : Nat → Nat → Int32 → Int32 → Int32 → Option (Int32)
  | 0, _, _, _, _ => none
  | n + 1, a0, x1, x2, x3 => fX6_holderOf_b2 w (fX6_holderOf_l2 w n) a0 x1 x2 x3
def fX6_holderOf (a0 : Nat) (x1 : Int32) (x2 : Int32) (w : Wd) : Option (Int32) := (fX6_holderOf_l2 w 1000 a0 x1 x2 0)
def fX6_holder_b28 (w : Wd) (xs0 : Int32) : Option (Int32) := (some xs0)
def fX6_holder_b27 (w : Wd) : Option (Int32) := (fX6_holder_b28 w (-1))
def fX6_holder (a0 : Nat) (x1 : Int32) (x2 : Int32) (w : Wd) : Option (Int32) := (bd (fX6_isPicture a0 x1 w) (fun y_2 => (if y_2 = 0 then (fX6_holder_b27 w) else (bd (fX6_lies x2 0 15 w) (fun y_6 => (if y_6 = 0 then (fX6_holder_b27 w) else (bd (fX6_holderOf a0 x1 x2 w) (fun y_10 => (fX6_holder_b28 w y_10)))))))))
def fX1_sizeOfRingFrom_b4 (w : Wd) (rec4 : Nat → Int32 → Int32 → Int32 → Option (Int32)) (a0 : Nat) (x1 : Int32) (x2 : Int32) (x3 : Int32) : Option (Int32) := (if 24 < x3 then (some 0) else (bd (fX1_awaitedBy a0 x2 w) (fun y_3 => (if y_3 = x1 then (some x3) else (if x1 ≤ y_3 then (rec4 a0 x1 y_3 (x3 + 1)) else (some 0))))))
def fX1_sizeOfRingFrom_l4 (w : Wd) : Nat → Nat → Int32 → Int32 → Int32 → Option (Int32)
  | 0, _, _, _, _ => none
  | n + 1, a0, x1, x2, x3 => fX1_sizeOfRingFrom_b4 w (fX1_sizeOfRingFrom_l4 w n) a0 x1 x2 x3
def fX1_sizeOfRingFrom (a0 : Nat) (x1 : Int32) (w : Wd) : Option (Int32) := (fX1_sizeOfRingFrom_l4 w 1000 a0 x1 x1 1)
def fX1_countRings_b21 (w : Wd) (rec4 : Nat → Int32 → Int32 → Option (Int32)) (a0 : Nat) (x1 : Int32) (x2 : Int32) : Option (Int32) := (rec4 a0 x1 (x2 + 1))
def fX1_countRings_b4 (w : Wd) (rec4 : Nat → Int32 → Int32 → Option (Int32)) (a0 : Nat) (x1 : Int32) (x2 : Int32) : Option (Int32) := (if 24 ≤ x2 then (some x1) else (bd (fX1_sizeOfRingFrom a0 x2 w) (fun y_3 => (if y_3 ≤ 0 then (fX1_countRings_b21 w rec4 a0 x1 x2) else (fX1_countRings_b21 w rec4 a0 (x1 + 1) x2)))))
def fX1_countRings_l4 (w : Wd) : Nat → Nat → Int32 → Int32 → Option (Int32)
  | 0, _, _, _ => none
  | n + 1, a0, x1, x2 => fX1_countRings_b4 w (fX1_countRings_l4 w n) a0 x1 x2
def fX1_countRings (a0 : Nat) (w : Wd) : Option (Int32) := (fX1_countRings_l4 w 1000 a0 0 0)
def fX5_rings_b18 (w : Wd) (xs0 : Int32) : Option (Int32) := (some xs0)
def fX5_rings (a0 : Nat) (x1 : Int32) (w : Wd) : Option (Int32) := (bd (fX5_pictureAt a0 x1 w) (fun u_2 => (oc u_2 (fX5_rings_b18 w (-1)) (fun b_4 => (bd (fX1_countRings b_4 w) (fun y_8 => (fX5_rings_b18 w y_8)))))))
def fX6_next_b35 (w : Wd) (xs0 : Int32) : Option (Int32) := (some xs0)
def fX6_next (a0 : Nat) (x1 : Int32) (x2 : Int32) (w : Wd) : Option (Int32) := (ckp (ix ((24 * x1) + x2) 192 = true) (if (zI w 6 a0 11 (((24 * x1) + x2) : Int32).toNatClampNeg) = (-1) then (fX6_next_b35 w (-1)) else (ckp (ix ((24 * x1) + x2) 192 = true) (bd (fX6_holderOf a0 x1 (zI w 6 a0 11 (((24 * x1) + x2) : Int32).toNatClampNeg) w) (fun y_9 => (fX6_next_b35 w y_9))))))
def fX6_back_b5 (w : Wd) (rec5 : Nat → Int32 → Int32 → Int32 → Int32 → Option (Int32)) (a0 : Nat) (x1 : Int32) (x2 : Int32) (x3 : Int32) (x4 : Int32) : Option (Int32) := (if 24 < x4 then (some 0) else (bd (fX6_next a0 x1 x3 w) (fun y_3 => (if y_3 = (-1) then (some 0) else (if y_3 = x2 then (some x4) else (rec5 a0 x1 x2 y_3 (x4 + 1)))))))
def fX6_back_l5 (w : Wd) : Nat → Nat → Int32 → Int32 → Int32 → Int32 → Option (Int32)
  | 0, _, _, _, _, _ => none
  | n + 1, a0, x1, x2, x3, x4 => fX6_back_b5 w (fX6_back_l5 w n) a0 x1 x2 x3 x4
def fX6_back (a0 : Nat) (x1 : Int32) (x2 : Int32) (w : Wd) : Option (Int32) := (fX6_back_l5 w 1000 a0 x1 x2 x2 1)
def fX6_isLowest_b51 (w : Wd) (xs0 : Int32) : Option (Int32) := (ckp ((xs0 : Int32) = 0 ∨ (xs0 : Int32) = 1) (some xs0))
def fX6_isLowest_b13 (w : Wd) (rec13 : Nat → Int32 → Int32 → Int32 → Int32 → Int32 → Option (Int32)) (a0 : Nat) (x1 : Int32) (x2 : Int32) (x3 : Int32) (x4 : Int32) (x5 : Int32) : Option (Int32) := (if x3 ≤ x5 then (if x3 ≤ 0 then (fX6_isLowest_b51 w 0) else (fX6_isLowest_b51 w 1)) else (bd (fX6_next a0 x1 x4 w) (fun y_4 => (if x2 ≤ y_4 then (rec13 a0 x1 x2 x3 y_4 (x5 + 1)) else (ckp ((0 : Int32) = 0 ∨ (0 : Int32) = 1) (some 0))))))
def fX6_isLowest_l13 (w : Wd) : Nat → Nat → Int32 → Int32 → Int32 → Int32 → Int32 → Option (Int32)
  | 0, _, _, _, _, _, _ => none
  | n + 1, a0, x1, x2, x3, x4, x5 => fX6_isLowest_b13 w (fX6_isLowest_l13 w n) a0 x1 x2 x3 x4 x5
def fX6_isLowest (a0 : Nat) (x1 : Int32) (x2 : Int32) (w : Wd) : Option (Int32) := (bd (fX6_back a0 x1 x2 w) (fun y_2 => (fX6_isLowest_l13 w 1000 a0 x1 x2 y_2 x2 1)))
def fX6_rings_b49 (w : Wd) (rec14 : Nat → Int32 → Int32 → Int32 → Option (Int32)) (a0 : Nat) (x1 : Int32) (x3 : Int32) (xs0 : Int32) (xs1 : Int32) : Option (Int32) := (rec14 a0 x1 (xs1 + xs0) (x3 + 1))
def fX6_rings_b48 (w : Wd) (rec14 : Nat → Int32 → Int32 → Int32 → Option (Int32)) (a0 : Nat) (x1 : Int32) (x3 : Int32) (xs0 : Int32) : Option (Int32) := (fX6_rings_b49 w rec14 a0 x1 x3 0 xs0)
def fX6_rings_b14 (w : Wd) (rec14 : Nat → Int32 → Int32 → Int32 → Option (Int32)) (a0 : Nat) (x1 : Int32) (x2 : Int32) (x3 : Int32) : Option (Int32) := (if 24 ≤ x3 then (some x2) else (ckp (ix ((24 * x1) + x3) 192 = true) (if (zI w 6 a0 7 (((24 * x1) + x3) : Int32).toNatClampNeg) = 0 then (fX6_rings_b48 w rec14 a0 x1 x3 x2) else (bd (fX6_isLowest a0 x1 x3 w) (fun y_7 => (if y_7 = 0 then (fX6_rings_b48 w rec14 a0 x1 x3 x2) else (fX6_rings_b49 w rec14 a0 x1 x3 1 x2)))))))
def fX6_rings_l14 (w : Wd) : Nat → Nat → Int32 → Int32 → Int32 → Option (Int32)
  | 0, _, _, _, _ => none
  | n + 1, a0, x1, x2, x3 => fX6_rings_b14 w (fX6_rings_l14 w n) a0 x1 x2 x3
def fX6_rings (a0 : Nat) (x1 : Int32) (w : Wd) : Option (Int32) := (bd (fX6_isPicture a0 x1 w) (fun y_2 => (if y_2 = 0 then (some (-1)) else (fX6_rings_l14 w 1000 a0 x1 0 0))))
def fX1_walkFrom_b5 (w : Wd) (rec5 : Nat → Int32 → Int32 → Int32 → Option (Int32)) (a0 : Nat) (x2 : Int32) (x3 : Int32) (x4 : Int32) : Option (Int32) := (if x2 ≤ x4 then (some x3) else (bd (fX1_awaitedBy a0 x3 w) (fun y_3 => (rec5 a0 x2 y_3 (x4 + 1)))))
def fX1_walkFrom_l5 (w : Wd) : Nat → Nat → Int32 → Int32 → Int32 → Option (Int32)
  | 0, _, _, _, _ => none
  | n + 1, a0, x2, x3, x4 => fX1_walkFrom_b5 w (fX1_walkFrom_l5 w n) a0 x2 x3 x4
def fX1_walkFrom (a0 : Nat) (x1 : Int32) (x2 : Int32) (w : Wd) : Option (Int32) := (fX1_walkFrom_l5 w 1000 a0 x2 x1 0)
def fX1_threadOfRing_b55 (w : Wd) (rec5 : Nat → Int32 → Int32 → Int32 → Int32 → Option (Int32)) (a0 : Nat) (x1 : Int32) (x2 : Int32) (x3 : Int32) (x4 : Int32) : Option (Int32) := (rec5 a0 x1 x2 x3 (x4 + 1))
def fX1_threadOfRing_b51 (w : Wd) (xs0 : Int32) : Option (Int32) := (some xs0)
def fX1_threadOfRing_b40 (w : Wd) : Option (Int32) := (fX1_threadOfRing_b51 w (-1))
def fX1_threadOfRing_b5 (w : Wd) (rec5 : Nat → Int32 → Int32 → Int32 → Int32 → Option (Int32)) (a0 : Nat) (x1 : Int32) (x2 : Int32) (x3 : Int32) (x4 : Int32) : Option (Int32) := (if 24 ≤ x4 then (some (-1)) else (bd (fX1_sizeOfRingFrom a0 x4 w) (fun y_3 => (if y_3 ≤ 0 then (fX1_threadOfRing_b55 w rec5 a0 x1 x2 x3 x4) else (if x3 = x1 then (if x2 < 0 then (fX1_threadOfRing_b40 w) else (if x2 < y_3 then (bd (fX1_walkFrom a0 x4 x2 w) (fun y_10 => (fX1_threadOfRing_b51 w y_10))) else (fX1_threadOfRing_b40 w))) else (fX1_threadOfRing_b55 w rec5 a0 x1 x2 (x3 + 1) x4))))))
def fX1_threadOfRing_l5 (w : Wd) : Nat → Nat → Int32 → Int32 → Int32 → Int32 → Option (Int32)
  | 0, _, _, _, _, _ => none
  | n + 1, a0, x1, x2, x3, x4 => fX1_threadOfRing_b5 w (fX1_threadOfRing_l5 w n) a0 x1 x2 x3 x4
def fX1_threadOfRing (a0 : Nat) (x1 : Int32) (x2 : Int32) (w : Wd) : Option (Int32) := (fX1_threadOfRing_l5 w 1000 a0 x1 x2 0 0)
def fX5_ring_b23 (w : Wd) (xs0 : Int32) : Option (Int32) := (some xs0)
def fX5_ring (a0 : Nat) (x1 : Int32) (x2 : Int32) (x3 : Int32) (w : Wd) : Option (Int32) := (bd (fX5_pictureAt a0 x1 w) (fun u_2 => (oc u_2 (fX5_ring_b23 w (-1)) (fun b_4 => (bd (fX1_threadOfRing b_4 x2 x3 w) (fun y_8 => (fX5_ring_b23 w y_8)))))))
def fX6_after_b33 (w : Wd) (x4 : Int32) : Option (Int32) := (some x4)
def fX6_after_b6 (w : Wd) (rec6 : Nat → Int32 → Int32 → Int32 → Int32 → Option (Int32)) (a0 : Nat) (x1 : Int32) (x3 : Int32) (x4 : Int32) (x5 : Int32) : Option (Int32) := (if x3 ≤ x5 then (fX6_after_b33 w x4) else (if x4 = (-1) then (fX6_after_b33 w x4) else (bd (fX6_next a0 x1 x4 w) (fun y_4 => (rec6 a0 x1 x3 y_4 (x5 + 1))))))
def fX6_after_l6 (w : Wd) : Nat → Nat → Int32 → Int32 → Int32 → Int32 → Option (Int32)
  | 0, _, _, _, _, _ => none
  | n + 1, a0, x1, x3, x4, x5 => fX6_after_b6 w (fX6_after_l6 w n) a0 x1 x3 x4 x5
def fX6_after (a0 : Nat) (x1 : Int32) (x2 : Int32) (x3 : Int32) (w : Wd) : Option (Int32) := (fX6_after_l6 w 1000 a0 x1 x3 x2 0)
def fX6_ring_b92 (w : Wd) (rec24 : Nat → Int32 → Int32 → Int32 → Int32 → Int32 → Option (Int32)) (a0 : Nat) (x1 : Int32) (x2 : Int32) (x3 : Int32) (x4 : Int32) (x5 : Int32) : Option (Int32) := (rec24 a0 x1 x2 x3 x4 (x5 + 1))
def fX6_ring_b88 (w : Wd) (xs0 : Int32) : Option (Int32) := (some xs0)
def fX6_ring_b24 (w : Wd) (rec24 : Nat → Int32 → Int32 → Int32 → Int32 → Int32 → Option (Int32)) (a0 : Nat) (x1 : Int32) (x2 : Int32) (x3 : Int32) (x4 : Int32) (x5 : Int32) : Option (Int32) := (if 24 ≤ x5 then (some (-1)) else (ckp (ix ((24 * x1) + x5) 192 = true) (if (zI w 6 a0 7 (((24 * x1) + x5) : Int32).toNatClampNeg) = 0 then (fX6_ring_b92 w rec24 a0 x1 x2 x3 x4 x5) else (bd (fX6_isLowest a0 x1 x5 w) (fun y_7 => (if y_7 = 0 then (fX6_ring_b92 w rec24 a0 x1 x2 x3 x4 x5) else (if x4 = x2 then (bd (fX6_back a0 x1 x5 w) (fun y_12 => (if y_12 ≤ x3 then (fX6_ring_b88 w (-1)) else (bd (fX6_after a0 x1 x5 x3 w) (fun y_16 => (fX6_ring_b88 w y_16)))))) else (fX6_ring_b92 w rec24 a0 x1 x2 x3 (x4 + 1) x5))))))))
def fX6_ring_l24 (w : Wd) : Nat → Nat → Int32 → Int32 → Int32 → Int32 → Int32 → Option (Int32)
  | 0, _, _, _, _, _, _ => none
  | n + 1, a0, x1, x2, x3, x4, x5 => fX6_ring_b24 w (fX6_ring_l24 w n) a0 x1 x2 x3 x4 x5
def fX6_ring_b16 (w : Wd) : Option (Int32) := (some (-1))
def fX6_ring (a0 : Nat) (x1 : Int32) (x2 : Int32) (x3 : Int32) (w : Wd) : Option (Int32) := (bd (fX6_isPicture a0 x1 w) (fun y_2 => (if y_2 = 0 then (fX6_ring_b16 w) else (if x2 < 0 then (fX6_ring_b16 w) else (if 0 ≤ x3 then (fX6_ring_l24 w 1000 a0 x1 x2 x3 0 0) else (fX6_ring_b16 w))))))
def fX1_footOf_b24 (w : Wd) (rec24 : Nat → Int32 → Int32 → Option (Int32)) (a0 : Nat) (x3 : Int32) (x4 : Int32) : Option (Int32) := (if 24 ≤ x4 then (some (-1)) else (bd (fX1_awaitedBy a0 x3 w) (fun y_3 => (if y_3 = (-1) then (some x3) else (rec24 a0 y_3 (x4 + 1))))))
def fX1_footOf_l24 (w : Wd) : Nat → Nat → Int32 → Int32 → Option (Int32)
  | 0, _, _, _ => none
  | n + 1, a0, x3, x4 => fX1_footOf_b24 w (fX1_footOf_l24 w n) a0 x3 x4
def fX1_footOf_b17 (w : Wd) : Option (Int32) := (some (-1))
def fX1_footOf (a0 : Nat) (x1 : Int32) (w : Wd) : Option (Int32) := (bd (fX1_rowOf a0 x1 w) (fun u_2 => (oc u_2 (fX1_footOf_b17 w) (fun b_4 => (bd (fX2_isWaiting b_4 w) (fun y_8 => (if y_8 = 0 then (fX1_footOf_b17 w) else (fX1_footOf_l24 w 1000 a0 x1 0))))))))
def fX5_foot_b19 (w : Wd) (xs0 : Int32) : Option (Int32) := (some xs0)
def fX5_foot (a0 : Nat) (x1 : Int32) (x2 : Int32) (w : Wd) : Option (Int32) := (bd (fX5_pictureAt a0 x1 w) (fun u_2 => (oc u_2 (fX5_foot_b19 w (-1)) (fun b_4 => (bd (fX1_footOf b_4 x2 w) (fun y_8 => (fX5_foot_b19 w y_8)))))))
def fX6_foot_b40 (w : Wd) (rec40 : Nat → Int32 → Int32 → Option (Int32)) (a0 : Nat) (x1 : Int32) (x3 : Int32) : Option (Int32) := (bd (fX6_next a0 x1 x3 w) (fun y_2 => (if y_2 = (-1) then (some x3) else (bd (fX6_next a0 x1 x3 w) (fun y_6 => (rec40 a0 x1 y_6))))))
def fX6_foot_l40 (w : Wd) : Nat → Nat → Int32 → Int32 → Option (Int32)
  | 0, _, _, _ => none
  | n + 1, a0, x1, x3 => fX6_foot_b40 w (fX6_foot_l40 w n) a0 x1 x3
def fX6_foot_b36 (w : Wd) : Option (Int32) := (some (-1))
def fX6_foot (a0 : Nat) (x1 : Int32) (x2 : Int32) (w : Wd) : Option (Int32) := (bd (fX6_isThere a0 x1 x2 w) (fun y_2 => (if y_2 = 0 then (fX6_foot_b36 w) else (ckp (ix ((24 * x1) + x2) 192 = true) (if (zI w 6 a0 11 (((24 * x1) + x2) : Int32).toNatClampNeg) = (-1) then (fX6_foot_b36 w) else (bd (fX6_after a0 x1 x2 24 w) (fun y_10 => (if y_10 = (-1) then (fX6_foot_l40 w 1000 a0 x1 x2) else (fX6_foot_b36 w)))))))))
def fX1_countThroughThread_b31 (w : Wd) (rec4 : Nat → Int32 → Int32 → Int32 → Option (Int32)) (a0 : Nat) (x1 : Int32) (x2 : Int32) (x3 : Int32) : Option (Int32) := (rec4 a0 x1 x2 (x3 + 1))
def fX1_countThroughThread_b4 (w : Wd) (rec4 : Nat → Int32 → Int32 → Int32 → Option (Int32)) (a0 : Nat) (x1 : Int32) (x2 : Int32) (x3 : Int32) : Option (Int32) := (if 24 ≤ x3 then (some x2) else (if x3 = x1 then (fX1_countThroughThread_b31 w rec4 a0 x1 x2 x3) else (ckp (ix x3 24 = true) (bd (fX5_hasBit (zI w 1 a0 3 (x3 : Int32).toNatClampNeg) x1 w) (fun y_7 => (if y_7 = 0 then (fX1_countThroughThread_b31 w rec4 a0 x1 x2 x3) else (fX1_countThroughThread_b31 w rec4 a0 x1 (x2 + 1) x3)))))))
def fX1_countThroughThread_l4 (w : Wd) : Nat → Nat → Int32 → Int32 → Int32 → Option (Int32)
  | 0, _, _, _, _ => none
  | n + 1, a0, x1, x2, x3 => fX1_countThroughThread_b4 w (fX1_countThroughThread_l4 w n) a0 x1 x2 x3
def fX1_countThroughThread (a0 : Nat) (x1 : Int32) (w : Wd) : Option (Int32) := (fX1_countThroughThread_l4 w 1000 a0 x1 0 0)
def fX5_through_b27 (w : Wd) (xs0 : Int32) : Option (Int32) := (some xs0)
def fX5_through_b18 (w : Wd) : Option (Int32) := (fX5_through_b27 w (-1))
def fX5_through (a0 : Nat) (x1 : Int32) (x2 : Int32) (w : Wd) : Option (Int32) := (bd (fX5_pictureAt a0 x1 w) (fun u_2 => (oc u_2 (fX5_through_b18 w) (fun b_4 => (bd (fX1_rowOf b_4 x2 w) (fun u_8 => (oc u_8 (fX5_through_b18 w) (fun b_10 => (bd (fX1_countThroughThread b_4 x2 w) (fun y_14 => (fX5_through_b27 w y_14)))))))))))
def fX6_comes_b42 (w : Wd) : Option (Int32) := (ckp ((0 : Int32) = 0 ∨ (0 : Int32) = 1) (some 0))
def fX6_comes_b6 (w : Wd) (rec6 : Nat → Int32 → Int32 → Int32 → Int32 → Option (Int32)) (a0 : Nat) (x1 : Int32) (x3 : Int32) (x4 : Int32) (x5 : Int32) : Option (Int32) := (if 24 < x5 then (fX6_comes_b42 w) else (if x4 = (-1) then (fX6_comes_b42 w) else (if x4 = x3 then (ckp ((1 : Int32) = 0 ∨ (1 : Int32) = 1) (some 1)) else (bd (fX6_next a0 x1 x4 w) (fun y_5 => (rec6 a0 x1 x3 y_5 (x5 + 1)))))))
def fX6_comes_l6 (w : Wd) : Nat → Nat → Int32 → Int32 → Int32 → Int32 → Option (Int32)
  | 0, _, _, _, _, _ => none
  | n + 1, a0, x1, x3, x4, x5 => fX6_comes_b6 w (fX6_comes_l6 w n) a0 x1 x3 x4 x5
def fX6_comes (a0 : Nat) (x1 : Int32) (x2 : Int32) (x3 : Int32) (w : Wd) : Option (Int32) := (fX6_comes_l6 w 1000 a0 x1 x3 x2 0)
def fX6_through_b61 (w : Wd) (rec16 : Nat → Int32 → Int32 → Int32 → Int32 → Option (Int32)) (a0 : Nat) (x1 : Int32) (x2 : Int32) (x4 : Int32) (xs0 : Int32) (xs1 : Int32) : Option (Int32) := (rec16 a0 x1 x2 (xs1 + xs0) (x4 + 1))
def fX6_through_b60 (w : Wd) (rec16 : Nat → Int32 → Int32 → Int32 → Int32 → Option (Int32)) (a0 : Nat) (x1 : Int32) (x2 : Int32) (x4 : Int32) (xs0 : Int32) : Option (Int32) := (fX6_through_b61 w rec16 a0 x1 x2 x4 0 xs0)
def fX6_through_b16 (w : Wd) (rec16 : Nat → Int32 → Int32 → Int32 → Int32 → Option (Int32)) (a0 : Nat) (x1 : Int32) (x2 : Int32) (x3 : Int32) (x4 : Int32) : Option (Int32) := (if 24 ≤ x4 then (some x3) else (if x4 = x2 then (fX6_through_b60 w rec16 a0 x1 x2 x4 x3) else (ckp (ix ((24 * x1) + x4) 192 = true) (if (zI w 6 a0 7 (((24 * x1) + x4) : Int32).toNatClampNeg) = 0 then (fX6_through_b60 w rec16 a0 x1 x2 x4 x3) else (bd (fX6_comes a0 x1 x4 x2 w) (fun y_8 => (if y_8 = 0 then (fX6_through_b60 w rec16 a0 x1 x2 x4 x3) else (fX6_through_b61 w rec16 a0 x1 x2 x4 1 x3))))))))
def fX6_through_l16 (w : Wd) : Nat → Nat → Int32 → Int32 → Int32 → Int32 → Option (Int32)
  | 0, _, _, _, _, _ => none
  | n + 1, a0, x1, x2, x3, x4 => fX6_through_b16 w (fX6_through_l16 w n) a0 x1 x2 x3 x4
def fX6_through (a0 : Nat) (x1 : Int32) (x2 : Int32) (w : Wd) : Option (Int32) := (bd (fX6_isThere a0 x1 x2 w) (fun y_2 => (if y_2 = 0 then (some (-1)) else (fX6_through_l16 w 1000 a0 x1 x2 0 0))))
def fX1_countThroughLock_b39 (w : Wd) (rec14 : Int32 → Int32 → Nat → Int32 → Int32 → Option (Int32)) (x1 : Int32) (x2 : Int32) (o3 : Nat) (x4 : Int32) (x5 : Int32) : Option (Int32) := (rec14 x1 x2 o3 x4 (x5 + 1))
def fX1_countThroughLock_b14 (w : Wd) (rec14 : Int32 → Int32 → Nat → Int32 → Int32 → Option (Int32)) (x1 : Int32) (x2 : Int32) (o3 : Nat) (x4 : Int32) (x5 : Int32) : Option (Int32) := (if x4 ≤ x5 then (some x2) else (ckp (ix x5 24 = true) (bd (fX5_hasBit (zI w 1 o3 4 (x5 : Int32).toNatClampNeg) x1 w) (fun y_4 => (if y_4 = 0 then (fX1_countThroughLock_b39 w rec14 x1 x2 o3 x4 x5) else (fX1_countThroughLock_b39 w rec14 x1 (x2 + 1) o3 x4 x5))))))
def fX1_countThroughLock_l14 (w : Wd) : Nat → Int32 → Int32 → Nat → Int32 → Int32 → Option (Int32)
  | 0, _, _, _, _, _ => none
  | n + 1, x1, x2, o3, x4, x5 => fX1_countThroughLock_b14 w (fX1_countThroughLock_l14 w n) x1 x2 o3 x4 x5
def fX1_countThroughLock (a0 : Nat) (x1 : Int32) (w : Wd) : Option (Int32) := (fX1_countThroughLock_l14 w 1000 x1 0 a0 24 0)
def fX5_weight_b26 (w : Wd) (xs0 : Int32) : Option (Int32) := (some xs0)
def fX5_weight_b17 (w : Wd) : Option (Int32) := (fX5_weight_b26 w (-1))
def fX5_weight (a0 : Nat) (x1 : Int32) (x2 : Int32) (w : Wd) : Option (Int32) := (bd (fX5_pictureAt a0 x1 w) (fun u_2 => (oc u_2 (fX5_weight_b17 w) (fun b_4 => (bd (fX5_isLock x2 w) (fun y_8 => (if y_8 = 0 then (fX5_weight_b17 w) else (bd (fX1_countThroughLock b_4 x2 w) (fun y_12 => (fX5_weight_b26 w y_12))))))))))
def fX6_weightOf_b109 (w : Wd) (rec5 : Nat → Int32 → Int32 → Int32 → Int32 → Option (Int32)) (a0 : Nat) (x1 : Int32) (x2 : Int32) (x3 : Int32) (x4 : Int32) : Option (Int32) := (rec5 a0 x1 x2 x3 (x4 + 1))
def fX6_weightOf_b107 (w : Wd) (rec5 : Nat → Int32 → Int32 → Int32 → Int32 → Option (Int32)) (a0 : Nat) (x1 : Int32) (x2 : Int32) (x4 : Int32) (xs0 : Int32) (xs1 : Int32) : Option (Int32) := (fX6_weightOf_b109 w rec5 a0 x1 x2 (xs1 + xs0) x4)
def fX6_weightOf_b96 (w : Wd) (rec5 : Nat → Int32 → Int32 → Int32 → Int32 → Option (Int32)) (a0 : Nat) (x1 : Int32) (x2 : Int32) (x3 : Int32) (x4 : Int32) (x5 : Int32) : Option (Int32) := (if x5 = 0 then (fX6_weightOf_b107 w rec5 a0 x1 x2 x4 0 x3) else (fX6_weightOf_b107 w rec5 a0 x1 x2 x4 1 x3))
def fX6_weightOf_b79 (w : Wd) (rec5 : Nat → Int32 → Int32 → Int32 → Int32 → Option (Int32)) (rec40 : Nat → Int32 → Int32 → Int32 → Int32 → Int32 → Int32 → Int32 → Option (Int32)) (a0 : Nat) (x1 : Int32) (x2 : Int32) (x3 : Int32) (x4 : Int32) (x6 : Int32) (x7 : Int32) (xs0 : Int32) : Option (Int32) := (bd (fX6_next a0 x1 x6 w) (fun y_2 => (rec40 a0 x1 x2 x3 x4 xs0 y_2 (x7 + 1))))
def fX6_weightOf_b74 (w : Wd) (rec5 : Nat → Int32 → Int32 → Int32 → Int32 → Option (Int32)) (rec40 : Nat → Int32 → Int32 → Int32 → Int32 → Int32 → Int32 → Int32 → Option (Int32)) (a0 : Nat) (x1 : Int32) (x2 : Int32) (x3 : Int32) (x4 : Int32) (x6 : Int32) (x7 : Int32) : Option (Int32) := (fX6_weightOf_b79 w rec5 rec40 a0 x1 x2 x3 x4 x6 x7 1)
def fX6_weightOf_b40 (w : Wd) (rec5 : Nat → Int32 → Int32 → Int32 → Int32 → Option (Int32)) (rec40 : Nat → Int32 → Int32 → Int32 → Int32 → Int32 → Int32 → Int32 → Option (Int32)) (a0 : Nat) (x1 : Int32) (x2 : Int32) (x3 : Int32) (x4 : Int32) (x5 : Int32) (x6 : Int32) (x7 : Int32) : Option (Int32) := (if 24 < x7 then (fX6_weightOf_b96 w rec5 a0 x1 x2 x3 x4 x5) else (if x6 = (-1) then (fX6_weightOf_b96 w rec5 a0 x1 x2 x3 x4 x5) else (if x5 = 0 then (ckp (ix ((24 * x1) + x6) 192 = true) (if (zI w 6 a0 11 (((24 * x1) + x6) : Int32).toNatClampNeg) = x2 then (fX6_weightOf_b74 w rec5 rec40 a0 x1 x2 x3 x4 x6 x7) else (fX6_weightOf_b79 w rec5 rec40 a0 x1 x2 x3 x4 x6 x7 0))) else (fX6_weightOf_b74 w rec5 rec40 a0 x1 x2 x3 x4 x6 x7))))
def fX6_weightOf_l40 (w : Wd) (rec5 : Nat → Int32 → Int32 → Int32 → Int32 → Option (Int32)) : Nat → Nat → Int32 → Int32 → Int32 → Int32 → Int32 → Int32 → Int32 → Option (Int32)
  | 0, _, _, _, _, _, _, _, _ => none
  | n + 1, a0, x1, x2, x3, x4, x5, x6, x7 => fX6_weightOf_b40 w rec5 (fX6_weightOf_l40 w rec5 n) a0 x1 x2 x3 x4 x5 x6 x7
def fX6_weightOf_b5 (w : Wd) (rec5 : Nat → Int32 → Int32 → Int32 → Int32 → Option (Int32)) (a0 : Nat) (x1 : Int32) (x2 : Int32) (x3 : Int32) (x4 : Int32) : Option (Int32) := (if 24 ≤ x4 then (some x3) else (ckp (ix ((24 * x1) + x4) 192 = true) (if (zI w 6 a0 7 (((24 * x1) + x4) : Int32).toNatClampNeg) = 0 then (fX6_weightOf_b109 w rec5 a0 x1 x2 x3 x4) else (fX6_weightOf_l40 w rec5 1000 a0 x1 x2 x3 x4 0 x4 0))))
def fX6_weightOf_l5 (w : Wd) : Nat → Nat → Int32 → Int32 → Int32 → Int32 → Option (Int32)
  | 0, _, _, _, _, _ => none
  | n + 1, a0, x1, x2, x3, x4 => fX6_weightOf_b5 w (fX6_weightOf_l5 w n) a0 x1 x2 x3 x4
def fX6_weightOf (a0 : Nat) (x1 : Int32) (x2 : Int32) (w : Wd) : Option (Int32) := (fX6_weightOf_l5 w 1000 a0 x1 x2 0 0)
def fX6_weight_b28 (w : Wd) (xs0 : Int32) : Option (Int32) := (some xs0)
def fX6_weight_b27 (w : Wd) : Option (Int32) := (fX6_weight_b28 w (-1))
def fX6_weight (a0 : Nat) (x1 : Int32) (x2 : Int32) (w : Wd) : Option (Int32) := (bd (fX6_isPicture a0 x1 w) (fun y_2 => (if y_2 = 0 then (fX6_weight_b27 w) else (bd (fX6_lies x2 0 15 w) (fun y_6 => (if y_6 = 0 then (fX6_weight_b27 w) else (bd (fX6_weightOf a0 x1 x2 w) (fun y_10 => (fX6_weight_b28 w y_10)))))))))
def fX1_guiltyLock_b30 (w : Wd) (rec6 : Nat → Int32 → Int32 → Int32 → Option (Int32)) (a0 : Nat) (x1 : Int32) (x2 : Int32) (x3 : Int32) : Option (Int32) := (rec6 a0 x1 x2 (x3 + 1))
def fX1_guiltyLock_b6 (w : Wd) (rec6 : Nat → Int32 → Int32 → Int32 → Option (Int32)) (a0 : Nat) (x1 : Int32) (x2 : Int32) (x3 : Int32) : Option (Int32) := (if 16 ≤ x3 then (some x1) else (bd (fX1_countThroughLock a0 x3 w) (fun y_3 => (if y_3 ≤ x2 then (fX1_guiltyLock_b30 w rec6 a0 x1 x2 x3) else (fX1_guiltyLock_b30 w rec6 a0 x3 y_3 x3)))))
def fX1_guiltyLock_l6 (w : Wd) : Nat → Nat → Int32 → Int32 → Int32 → Option (Int32)
  | 0, _, _, _, _ => none
  | n + 1, a0, x1, x2, x3 => fX1_guiltyLock_b6 w (fX1_guiltyLock_l6 w n) a0 x1 x2 x3
def fX1_guiltyLock (a0 : Nat) (w : Wd) : Option (Int32) := (fX1_guiltyLock_l6 w 1000 a0 (-1) 0 0)
def fX5_guilty_b18 (w : Wd) (xs0 : Int32) : Option (Int32) := (some xs0)
def fX5_guilty (a0 : Nat) (x1 : Int32) (w : Wd) : Option (Int32) := (bd (fX5_pictureAt a0 x1 w) (fun u_2 => (oc u_2 (fX5_guilty_b18 w (-1)) (fun b_4 => (bd (fX1_guiltyLock b_4 w) (fun y_8 => (fX5_guilty_b18 w y_8)))))))
def fX6_guilty_b48 (w : Wd) (rec17 : Nat → Int32 → Int32 → Int32 → Int32 → Option (Int32)) (a0 : Nat) (x1 : Int32) (x2 : Int32) (x3 : Int32) (x4 : Int32) : Option (Int32) := (rec17 a0 x1 x2 x3 (x4 + 1))
def fX6_guilty_b17 (w : Wd) (rec17 : Nat → Int32 → Int32 → Int32 → Int32 → Option (Int32)) (a0 : Nat) (x1 : Int32) (x2 : Int32) (x3 : Int32) (x4 : Int32) : Option (Int32) := (if 16 ≤ x4 then (some x2) else (bd (fX6_weightOf a0 x1 x4 w) (fun y_3 => (if x3 < y_3 then (fX6_guilty_b48 w rec17 a0 x1 x4 y_3 x4) else (fX6_guilty_b48 w rec17 a0 x1 x2 x3 x4)))))
def fX6_guilty_l17 (w : Wd) : Nat → Nat → Int32 → Int32 → Int32 → Int32 → Option (Int32)
  | 0, _, _, _, _, _ => none
  | n + 1, a0, x1, x2, x3, x4 => fX6_guilty_b17 w (fX6_guilty_l17 w n) a0 x1 x2 x3 x4
def fX6_guilty (a0 : Nat) (x1 : Int32) (w : Wd) : Option (Int32) := (bd (fX6_isPicture a0 x1 w) (fun y_2 => (if y_2 = 0 then (some (-1)) else (fX6_guilty_l17 w 1000 a0 x1 (-1) 0 0))))
def fX2_hasCallsOf_b15 (w : Wd) (rec15 : Nat → Nat → Int32 → Option (Int32)) (a0 : Nat) (a1 : Nat) (x2 : Int32) : Option (Int32) := (if (zI w 2 a0 6 0) ≤ x2 then (ckp ((1 : Int32) = 0 ∨ (1 : Int32) = 1) (some 1)) else (ckp (ix x2 12 = true) (ckp (ix x2 12 = true) (if (zI w 2 a0 0 (x2 : Int32).toNatClampNeg) = (zI w 2 a1 0 (x2 : Int32).toNatClampNeg) then (rec15 a0 a1 (x2 + 1)) else (ckp ((0 : Int32) = 0 ∨ (0 : Int32) = 1) (some 0))))))
def fX2_hasCallsOf_l15 (w : Wd) : Nat → Nat → Nat → Int32 → Option (Int32)
  | 0, _, _, _ => none
  | n + 1, a0, a1, x2 => fX2_hasCallsOf_b15 w (fX2_hasCallsOf_l15 w n) a0 a1 x2
def fX2_hasCallsOf (a0 : Nat) (a1 : Nat) (w : Wd) : Option (Int32) := (if (zI w 2 a0 6 0) = (zI w 2 a1 6 0) then (fX2_hasCallsOf_l15 w 1000 a0 a1 0) else (ckp ((0 : Int32) = 0 ∨ (0 : Int32) = 1) (some 0)))
def fX2_isLike_b57 (w : Wd) (xs0 : Int32) : Option (Int32) := (ckp ((xs0 : Int32) = 0 ∨ (xs0 : Int32) = 1) (some xs0))
def fX2_isLike_b56 (w : Wd) : Option (Int32) := (fX2_isLike_b57 w 0)
def fX2_isLike (a0 : Nat) (a1 : Nat) (w : Wd) : Option (Int32) := (if (zI w 2 a0 2 0) = (zI w 2 a1 2 0) then (if (zI w 2 a0 3 0) = (zI w 2 a1 3 0) then (if (zI w 2 a0 4 0) = (zI w 2 a1 4 0) then (if (zI w 2 a0 5 0) = (zI w 2 a1 5 0) then (bd (fX2_hasCallsOf a0 a1 w) (fun y_6 => (if y_6 = 0 then (fX2_isLike_b56 w) else (fX2_isLike_b57 w 1)))) else (fX2_isLike_b56 w)) else (fX2_isLike_b56 w)) else (fX2_isLike_b56 w)) else (fX2_isLike_b56 w))
def fX5_isStuck_b70 (w : Wd) (xs0 : Int32) : Option (Int32) := (ckp ((xs0 : Int32) = 0 ∨ (xs0 : Int32) = 1) (some xs0))
def fX5_isStuck_b54 (w : Wd) (rec7 : Nat → Int32 → (Option Nat) → Int32 → Int32 → Option (Int32)) (a0 : Nat) (x1 : Int32) (r2 : Option Nat) (x3 : Int32) (x4 : Int32) : Option (Int32) := (rec7 a0 x1 r2 x3 (x4 + 1))
def fX5_isStuck_b51 (w : Wd) (rec7 : Nat → Int32 → (Option Nat) → Int32 → Int32 → Option (Int32)) (a0 : Nat) (x1 : Int32) (r2 : Option Nat) (x3 : Int32) (x4 : Int32) : Option (Int32) := (fX5_isStuck_b54 w rec7 a0 x1 r2 (x3 + 1) x4)
def fX5_isStuck_b7 (w : Wd) (rec7 : Nat → Int32 → (Option Nat) → Int32 → Int32 → Option (Int32)) (a0 : Nat) (x1 : Int32) (r2 : Option Nat) (x3 : Int32) (x4 : Int32) : Option (Int32) := (if (zI w 5 a0 3 0) ≤ x4 then (if x3 < 2 then (fX5_isStuck_b70 w 0) else (fX5_isStuck_b70 w 1)) else (bd (fX5_rowAt a0 x4 x1 w) (fun u_4 => (oc u_4 (fX5_isStuck_b54 w rec7 a0 x1 r2 x3 x4) (fun b_6 => (oc r2 (fX5_isStuck_b51 w rec7 a0 x1 (some b_6) x3 x4) (fun b_9 => (bd (fX2_isLike b_9 b_6 w) (fun y_13 => (if y_13 = 0 then (ckp ((0 : Int32) = 0 ∨ (0 : Int32) = 1) (some 0)) else (fX5_isStuck_b51 w rec7 a0 x1 (some b_9) x3 x4)))))))))))
def fX5_isStuck_l7 (w : Wd) : Nat → Nat → Int32 → (Option Nat) → Int32 → Int32 → Option (Int32)
  | 0, _, _, _, _, _ => none
  | n + 1, a0, x1, r2, x3, x4 => fX5_isStuck_b7 w (fX5_isStuck_l7 w n) a0 x1 r2 x3 x4
def fX5_isStuck (a0 : Nat) (x1 : Int32) (w : Wd) : Option (Int32) := (fX5_isStuck_l7 w 1000 a0 x1 none 0 0)
def fX5_stuck_b28 (w : Wd) (rec4 : Nat → Int32 → Int32 → Int32 → Option (Int32)) (a0 : Nat) (x1 : Int32) (x2 : Int32) (x3 : Int32) : Option (Int32) := (rec4 a0 x1 x2 (x3 + 1))
def fX5_stuck_b4 (w : Wd) (rec4 : Nat → Int32 → Int32 → Int32 → Option (Int32)) (a0 : Nat) (x1 : Int32) (x2 : Int32) (x3 : Int32) : Option (Int32) := (if 24 ≤ x3 then (some (-1)) else (bd (fX5_isStuck a0 x3 w) (fun y_3 => (if y_3 = 0 then (fX5_stuck_b28 w rec4 a0 x1 x2 x3) else (if x2 = x1 then (some x3) else (fX5_stuck_b28 w rec4 a0 x1 (x2 + 1) x3))))))
def fX5_stuck_l4 (w : Wd) : Nat → Nat → Int32 → Int32 → Int32 → Option (Int32)
  | 0, _, _, _, _ => none
  | n + 1, a0, x1, x2, x3 => fX5_stuck_b4 w (fX5_stuck_l4 w n) a0 x1 x2 x3
def fX5_stuck (a0 : Nat) (x1 : Int32) (w : Wd) : Option (Int32) := (fX5_stuck_l4 w 1000 a0 x1 0 0)
def fX6_areAlike_b79 (w : Wd) (rec79 : Nat → Int32 → Int32 → Int32 → Option (Int32)) (a0 : Nat) (x1 : Int32) (x2 : Int32) (x3 : Int32) : Option (Int32) := (ckp (ix x1 192 = true) (if (zI w 6 a0 12 (x1 : Int32).toNatClampNeg) ≤ x3 then (ckp ((1 : Int32) = 0 ∨ (1 : Int32) = 1) (some 1)) else (ckp (ix ((12 * x1) + x3) 2304 = true) (ckp (ix ((12 * x2) + x3) 2304 = true) (if (zI w 6 a0 13 (((12 * x1) + x3) : Int32).toNatClampNeg) = (zI w 6 a0 13 (((12 * x2) + x3) : Int32).toNatClampNeg) then (rec79 a0 x1 x2 (x3 + 1)) else (ckp ((0 : Int32) = 0 ∨ (0 : Int32) = 1) (some 0)))))))
def fX6_areAlike_l79 (w : Wd) : Nat → Nat → Int32 → Int32 → Int32 → Option (Int32)
  | 0, _, _, _, _ => none
  | n + 1, a0, x1, x2, x3 => fX6_areAlike_b79 w (fX6_areAlike_l79 w n) a0 x1 x2 x3
def fX6_areAlike_b75 (w : Wd) : Option (Int32) := (ckp ((0 : Int32) = 0 ∨ (0 : Int32) = 1) (some 0))
def fX6_areAlike (a0 : Nat) (x1 : Int32) (x2 : Int32) (w : Wd) : Option (Int32) := (ckp (ix x1 192 = true) (ckp (ix x2 192 = true) (if (zI w 6 a0 8 (x1 : Int32).toNatClampNeg) = (zI w 6 a0 8 (x2 : Int32).toNatClampNeg) then (ckp (ix x1 192 = true) (ckp (ix x2 192 = true) (if (zI w 6 a0 9 (x1 : Int32).toNatClampNeg) = (zI w 6 a0 9 (x2 : Int32).toNatClampNeg) then (ckp (ix x1 192 = true) (ckp (ix x2 192 = true) (if (zI w 6 a0 10 (x1 : Int32).toNatClampNeg) = (zI w 6 a0 10 (x2 : Int32).toNatClampNeg) then (ckp (ix x1 192 = true) (ckp (ix x2 192 = true) (if (zI w 6 a0 11 (x1 : Int32).toNatClampNeg) = (zI w 6 a0 11 (x2 : Int32).toNatClampNeg) then (ckp (ix x1 192 = true) (ckp (ix x2 192 = true) (if (zI w 6 a0 12 (x1 : Int32).toNatClampNeg) = (zI w 6 a0 12 (x2 : Int32).toNatClampNeg) then (fX6_areAlike_l79 w 1000 a0 x1 x2 0) else (fX6_areAlike_b75 w)))) else (fX6_areAlike_b75 w)))) else (fX6_areAlike_b75 w)))) else (fX6_areAlike_b75 w)))) else (fX6_areAlike_b75 w))))
def fX6_isStuck_b76 (w : Wd) (xs0 : Int32) : Option (Int32) := (ckp ((xs0 : Int32) = 0 ∨ (xs0 : Int32) = 1) (some xs0))
def fX6_isStuck_b60 (w : Wd) (rec7 : Nat → Int32 → Int32 → Int32 → Int32 → Option (Int32)) (a0 : Nat) (x1 : Int32) (x2 : Int32) (x3 : Int32) (x4 : Int32) : Option (Int32) := (rec7 a0 x1 x2 x3 (x4 + 1))
def fX6_isStuck_b54 (w : Wd) (rec7 : Nat → Int32 → Int32 → Int32 → Int32 → Option (Int32)) (a0 : Nat) (x1 : Int32) (x2 : Int32) (x4 : Int32) (x5 : Int32) : Option (Int32) := (fX6_isStuck_b60 w rec7 a0 x1 (x2 + 1) x5 x4)
def fX6_isStuck_b7 (w : Wd) (rec7 : Nat → Int32 → Int32 → Int32 → Int32 → Option (Int32)) (a0 : Nat) (x1 : Int32) (x2 : Int32) (x3 : Int32) (x4 : Int32) : Option (Int32) := (if (zI w 6 a0 2 0) ≤ x4 then (if x2 ≤ 1 then (fX6_isStuck_b76 w 0) else (fX6_isStuck_b76 w 1)) else (ckp (ix ((24 * x4) + x1) 192 = true) (if (zI w 6 a0 7 (((24 * x4) + x1) : Int32).toNatClampNeg) = 0 then (fX6_isStuck_b60 w rec7 a0 x1 x2 x3 x4) else (if x2 ≤ 0 then (fX6_isStuck_b54 w rec7 a0 x1 x2 x4 ((24 * x4) + x1)) else (bd (fX6_areAlike a0 x3 ((24 * x4) + x1) w) (fun y_9 => (if y_9 = 0 then (ckp ((0 : Int32) = 0 ∨ (0 : Int32) = 1) (some 0)) else (fX6_isStuck_b54 w rec7 a0 x1 x2 x4 ((24 * x4) + x1)))))))))
def fX6_isStuck_l7 (w : Wd) : Nat → Nat → Int32 → Int32 → Int32 → Int32 → Option (Int32)
  | 0, _, _, _, _, _ => none
  | n + 1, a0, x1, x2, x3, x4 => fX6_isStuck_b7 w (fX6_isStuck_l7 w n) a0 x1 x2 x3 x4
def fX6_isStuck (a0 : Nat) (x1 : Int32) (w : Wd) : Option (Int32) := (fX6_isStuck_l7 w 1000 a0 x1 0 0 0)
def fX6_stuck_b41 (w : Wd) : Option (Int32) := (some (-1))
def fX6_stuck_b35 (w : Wd) (rec4 : Nat → Int32 → Int32 → Int32 → Option (Int32)) (a0 : Nat) (x1 : Int32) (x2 : Int32) (x3 : Int32) : Option (Int32) := (rec4 a0 x1 x2 (x3 + 1))
def fX6_stuck_b4 (w : Wd) (rec4 : Nat → Int32 → Int32 → Int32 → Option (Int32)) (a0 : Nat) (x1 : Int32) (x2 : Int32) (x3 : Int32) : Option (Int32) := (if 24 ≤ x3 then (fX6_stuck_b41 w) else (if x1 < 0 then (fX6_stuck_b41 w) else (bd (fX6_isStuck a0 x3 w) (fun y_4 => (if y_4 = 0 then (fX6_stuck_b35 w rec4 a0 x1 x2 x3) else (if x2 = x1 then (some x3) else (fX6_stuck_b35 w rec4 a0 x1 (x2 + 1) x3)))))))
def fX6_stuck_l4 (w : Wd) : Nat → Nat → Int32 → Int32 → Int32 → Option (Int32)
  | 0, _, _, _, _ => none
  | n + 1, a0, x1, x2, x3 => fX6_stuck_b4 w (fX6_stuck_l4 w n) a0 x1 x2 x3
def fX6_stuck (a0 : Nat) (x1 : Int32) (w : Wd) : Option (Int32) := (fX6_stuck_l4 w 1000 a0 x1 0 0)
def fX0_lockOfRing_b22 (w : Wd) (xs0 : Int32) : Option (Int32) := (some xs0)
def fX0_lockOfRing_b12 (w : Wd) : Option (Int32) := (fX0_lockOfRing_b22 w (-1))
def fX0_lockOfRing (a0 : Nat) (x1 : Int32) (w : Wd) : Option (Int32) := (if x1 < 0 then (fX0_lockOfRing_b12 w) else (if x1 < (zI w 0 a0 3 0) then (ckp (ix x1 16 = true) (fX0_lockOfRing_b22 w (zI w 0 a0 2 (x1 : Int32).toNatClampNeg))) else (fX0_lockOfRing_b12 w)))
def fX5_broken (a0 : Nat) (x1 : Int32) (w : Wd) : Option (Int32) := (lt' (zR w 5 a0 2 0) (fun u_1 => (nn u_1 (fun b_5 => (bd (fX0_lockOfRing b_5 x1 w) (fun y_8 => (some y_8)))))))
def fX6_aheads_b111 (rec23 : Nat → Int32 → Wd → Option (Wd)) (a0 : Nat) (x1 : Int32) (w : Wd) : Option (Wd) := (rec23 a0 (x1 + 1) w)
def fX6_aheads_b105 (rec23 : Nat → Int32 → Wd → Option (Wd)) (rec58 : Nat → Int32 → Int32 → Wd → Option (Wd)) (a0 : Nat) (x1 : Int32) (x2 : Int32) (w : Wd) : Option (Wd) := (rec58 a0 x1 (x2 + 1) w)
def fX6_aheads_b58 (rec23 : Nat → Int32 → Wd → Option (Wd)) (rec58 : Nat → Int32 → Int32 → Wd → Option (Wd)) (a0 : Nat) (x1 : Int32) (x2 : Int32) (w : Wd) : Option (Wd) := (if 16 ≤ x2 then (fX6_aheads_b111 rec23 a0 x1 w) else (ckp (ix x1 192 = true) (if x2 = (zI w 6 a0 11 (x1 : Int32).toNatClampNeg) then (fX6_aheads_b105 rec23 rec58 a0 x1 x2 w) else (ckp (ix x1 192 = true) (if (((zI w 6 a0 10 (x1 : Int32).toNatClampNeg) >>> (x2 &&& 31)) &&& 1) = 1 then (ckp (ix x2 16 = true) (ckp (ix x1 192 = true) (ckp (ix x2 16 = true) (lt' (sI w 6 a0 25 (x2 : Int32).toNatClampNeg ((zI w 6 a0 25 (x2 : Int32).toNatClampNeg) ||| (1 <<< ((zI w 6 a0 11 (x1 : Int32).toNatClampNeg) &&& 31)))) (fun w_17 => (fX6_aheads_b105 rec23 rec58 a0 x1 x2 w_17)))))) else (fX6_aheads_b105 rec23 rec58 a0 x1 x2 w))))))
def fX6_aheads_l58 (rec23 : Nat → Int32 → Wd → Option (Wd)) : Nat → Nat → Int32 → Int32 → Wd → Option (Wd)
  | 0, _, _, _, _ => none
  | n + 1, a0, x1, x2, w => fX6_aheads_b58 rec23 (fX6_aheads_l58 rec23 n) a0 x1 x2 w
def fX6_aheads_b23 (rec23 : Nat → Int32 → Wd → Option (Wd)) (a0 : Nat) (x1 : Int32) (w : Wd) : Option (Wd) := (if (24 * (zI w 6 a0 2 0)) ≤ x1 then (some w) else (ckp (ix x1 192 = true) (if (zI w 6 a0 7 (x1 : Int32).toNatClampNeg) = 0 then (fX6_aheads_b111 rec23 a0 x1 w) else (ckp (ix x1 192 = true) (if (zI w 6 a0 11 (x1 : Int32).toNatClampNeg) = (-1) then (fX6_aheads_b111 rec23 a0 x1 w) else (fX6_aheads_l58 rec23 1000 a0 x1 0 w))))))
def fX6_aheads_l23 : Nat → Nat → Int32 → Wd → Option (Wd)
  | 0, _, _, _ => none
  | n + 1, a0, x1, w => fX6_aheads_b23  (fX6_aheads_l23  n) a0 x1 w
def fX6_aheads_b2 (rec2 : Nat → Int32 → Wd → Option (Wd)) (a0 : Nat) (x1 : Int32) (w : Wd) : Option (Wd) := (if 16 ≤ x1 then (fX6_aheads_l23 1000 a0 0 w) else (ckp (ix x1 16 = true) (lt' (sI w 6 a0 25 (x1 : Int32).toNatClampNeg 0) (fun w_5 => (rec2 a0 (x1 + 1) w_5)))))
def fX6_aheads_l2 : Nat → Nat → Int32 → Wd → Option (Wd)
  | 0, _, _, _ => none
  | n + 1, a0, x1, w => fX6_aheads_b2  (fX6_aheads_l2  n) a0 x1 w
def fX6_aheads (a0 : Nat) (w : Wd) : Option (Wd) := (fX6_aheads_l2 1000 a0 0 w)
def fX6_measures_b221 (rec180 : Nat → Int32 → Int32 → Int32 → Wd → Option (Int32 × Wd)) (a0 : Nat) (x1 : Int32) (x2 : Int32) (x3 : Int32) (w : Wd) : Option (Int32 × Wd) := (rec180 a0 x1 x2 (x3 + 1) w)
def fX6_measures_b180 (rec180 : Nat → Int32 → Int32 → Int32 → Wd → Option (Int32 × Wd)) (a0 : Nat) (x1 : Int32) (x2 : Int32) (x3 : Int32) (w : Wd) : Option (Int32 × Wd) := (if 16 ≤ x3 then (some (x2, w)) else (ckp (ix x1 16 = true) (if (((zI w 6 a0 25 (x1 : Int32).toNatClampNeg) >>> (x3 &&& 31)) &&& 1) = 1 then (ckp (ix x3 16 = true) (if x2 ≤ ((zI w 6 a0 26 (x3 : Int32).toNatClampNeg) + 1) then (fX6_measures_b221 rec180 a0 x1 x2 x3 w) else (ckp (ix x3 16 = true) (fX6_measures_b221 rec180 a0 x1 ((zI w 6 a0 26 (x3 : Int32).toNatClampNeg) + 1) x3 w)))) else (fX6_measures_b221 rec180 a0 x1 x2 x3 w))))
def fX6_measures_l180 : Nat → Nat → Int32 → Int32 → Int32 → Wd → Option (Int32 × Wd)
  | 0, _, _, _, _, _ => none
  | n + 1, a0, x1, x2, x3, w => fX6_measures_b180  (fX6_measures_l180  n) a0 x1 x2 x3 w
def fX6_measures_b164 (rec27 : Nat → Int32 → Int32 → Int32 → Wd → Option (Int32 × Wd)) (rec38 : Nat → Int32 → Int32 → Int32 → Int32 → Wd → Option (Int32 × Wd)) (a0 : Nat) (x1 : Int32) (x2 : Int32) (x3 : Int32) (x4 : Int32) (w : Wd) : Option (Int32 × Wd) := (rec38 a0 x1 x2 x3 (x4 + 1) w)
def fX6_measures_b151 (rec27 : Nat → Int32 → Int32 → Int32 → Wd → Option (Int32 × Wd)) (rec38 : Nat → Int32 → Int32 → Int32 → Int32 → Wd → Option (Int32 × Wd)) (a0 : Nat) (x1 : Int32) (x2 : Int32) (x3 : Int32) (x4 : Int32) (x5 : Int32) (w : Wd) : Option (Int32 × Wd) := (if x5 = 0 then (fX6_measures_b164 rec27 rec38 a0 x1 x2 x3 x4 w) else (ckp (ix x4 16 = true) (lt' (sI w 6 a0 26 (x4 : Int32).toNatClampNeg x3) (fun w_5 => (fX6_measures_b164 rec27 rec38 a0 x1 x2 x3 x4 w_5)))))
def fX6_measures_b143 (rec27 : Nat → Int32 → Int32 → Int32 → Wd → Option (Int32 × Wd)) (rec38 : Nat → Int32 → Int32 → Int32 → Int32 → Wd → Option (Int32 × Wd)) (rec92 : Nat → Int32 → Int32 → Int32 → Int32 → Int32 → Int32 → Wd → Option (Int32 × Wd)) (a0 : Nat) (x1 : Int32) (x2 : Int32) (x3 : Int32) (x4 : Int32) (x6 : Int32) (xs0 : Int32) (w : Wd) : Option (Int32 × Wd) := (rec92 a0 x1 x2 x3 x4 xs0 (x6 + 1) w)
def fX6_measures_b142 (rec27 : Nat → Int32 → Int32 → Int32 → Wd → Option (Int32 × Wd)) (rec38 : Nat → Int32 → Int32 → Int32 → Int32 → Wd → Option (Int32 × Wd)) (rec92 : Nat → Int32 → Int32 → Int32 → Int32 → Int32 → Int32 → Wd → Option (Int32 × Wd)) (a0 : Nat) (x1 : Int32) (x2 : Int32) (x3 : Int32) (x4 : Int32) (x6 : Int32) (w : Wd) : Option (Int32 × Wd) := (fX6_measures_b143 rec27 rec38 rec92 a0 x1 x2 x3 x4 x6 0 w)
def fX6_measures_b138 (rec27 : Nat → Int32 → Int32 → Int32 → Wd → Option (Int32 × Wd)) (rec38 : Nat → Int32 → Int32 → Int32 → Int32 → Wd → Option (Int32 × Wd)) (rec92 : Nat → Int32 → Int32 → Int32 → Int32 → Int32 → Int32 → Wd → Option (Int32 × Wd)) (a0 : Nat) (x1 : Int32) (x2 : Int32) (x3 : Int32) (x4 : Int32) (x6 : Int32) (w : Wd) : Option (Int32 × Wd) := (fX6_measures_b143 rec27 rec38 rec92 a0 x1 x2 x3 x4 x6 1 w)
def fX6_measures_b92 (rec27 : Nat → Int32 → Int32 → Int32 → Wd → Option (Int32 × Wd)) (rec38 : Nat → Int32 → Int32 → Int32 → Int32 → Wd → Option (Int32 × Wd)) (rec92 : Nat → Int32 → Int32 → Int32 → Int32 → Int32 → Int32 → Wd → Option (Int32 × Wd)) (a0 : Nat) (x1 : Int32) (x2 : Int32) (x3 : Int32) (x4 : Int32) (x5 : Int32) (x6 : Int32) (w : Wd) : Option (Int32 × Wd) := (if 16 ≤ x6 then (fX6_measures_b151 rec27 rec38 a0 x1 x2 x3 x4 x5 w) else (if x3 ≤ 1 then (fX6_measures_b151 rec27 rec38 a0 x1 x2 x3 x4 x5 w) else (if x5 = 0 then (ckp (ix x4 16 = true) (if (((zI w 6 a0 25 (x4 : Int32).toNatClampNeg) >>> (x6 &&& 31)) &&& 1) = 1 then (ckp (ix x6 16 = true) (if (zI w 6 a0 26 (x6 : Int32).toNatClampNeg) = (x3 - 1) then (fX6_measures_b138 rec27 rec38 rec92 a0 x1 x2 x3 x4 x6 w) else (fX6_measures_b142 rec27 rec38 rec92 a0 x1 x2 x3 x4 x6 w))) else (fX6_measures_b142 rec27 rec38 rec92 a0 x1 x2 x3 x4 x6 w))) else (fX6_measures_b138 rec27 rec38 rec92 a0 x1 x2 x3 x4 x6 w))))
def fX6_measures_l92 (rec27 : Nat → Int32 → Int32 → Int32 → Wd → Option (Int32 × Wd)) (rec38 : Nat → Int32 → Int32 → Int32 → Int32 → Wd → Option (Int32 × Wd)) : Nat → Nat → Int32 → Int32 → Int32 → Int32 → Int32 → Int32 → Wd → Option (Int32 × Wd)
  | 0, _, _, _, _, _, _, _, _ => none
  | n + 1, a0, x1, x2, x3, x4, x5, x6, w => fX6_measures_b92 rec27 rec38 (fX6_measures_l92 rec27 rec38 n) a0 x1 x2 x3 x4 x5 x6 w
def fX6_measures_b85 (rec27 : Nat → Int32 → Int32 → Int32 → Wd → Option (Int32 × Wd)) (rec38 : Nat → Int32 → Int32 → Int32 → Int32 → Wd → Option (Int32 × Wd)) (a0 : Nat) (x1 : Int32) (x2 : Int32) (x3 : Int32) (x4 : Int32) (xs0 : Int32) (w : Wd) : Option (Int32 × Wd) := (fX6_measures_l92 rec27 rec38 1000 a0 x1 x2 x3 x4 xs0 (x1 + 1) w)
def fX6_measures_b84 (rec27 : Nat → Int32 → Int32 → Int32 → Wd → Option (Int32 × Wd)) (rec38 : Nat → Int32 → Int32 → Int32 → Int32 → Wd → Option (Int32 × Wd)) (a0 : Nat) (x1 : Int32) (x2 : Int32) (x3 : Int32) (x4 : Int32) (w : Wd) : Option (Int32 × Wd) := (fX6_measures_b85 rec27 rec38 a0 x1 x2 x3 x4 0 w)
def fX6_measures_b38 (rec27 : Nat → Int32 → Int32 → Int32 → Wd → Option (Int32 × Wd)) (rec38 : Nat → Int32 → Int32 → Int32 → Int32 → Wd → Option (Int32 × Wd)) (a0 : Nat) (x1 : Int32) (x2 : Int32) (x3 : Int32) (x4 : Int32) (w : Wd) : Option (Int32 × Wd) := (if 16 ≤ x4 then (rec27 a0 x1 x2 (x3 + 1) w) else (ckp (ix x4 16 = true) (if 100 ≤ (zI w 6 a0 26 (x4 : Int32).toNatClampNeg) then (if x3 = 1 then (ckp (ix x4 16 = true) (if (((zI w 6 a0 25 (x4 : Int32).toNatClampNeg) >>> (x1 &&& 31)) &&& 1) = 1 then (fX6_measures_b85 rec27 rec38 a0 x1 x2 x3 x4 1 w) else (fX6_measures_b84 rec27 rec38 a0 x1 x2 x3 x4 w))) else (fX6_measures_b84 rec27 rec38 a0 x1 x2 x3 x4 w)) else (fX6_measures_b164 rec27 rec38 a0 x1 x2 x3 x4 w))))
def fX6_measures_l38 (rec27 : Nat → Int32 → Int32 → Int32 → Wd → Option (Int32 × Wd)) : Nat → Nat → Int32 → Int32 → Int32 → Int32 → Wd → Option (Int32 × Wd)
  | 0, _, _, _, _, _, _ => none
  | n + 1, a0, x1, x2, x3, x4, w => fX6_measures_b38 rec27 (fX6_measures_l38 rec27 n) a0 x1 x2 x3 x4 w
def fX6_measures_b27 (rec27 : Nat → Int32 → Int32 → Int32 → Wd → Option (Int32 × Wd)) (a0 : Nat) (x1 : Int32) (x2 : Int32) (x3 : Int32) (w : Wd) : Option (Int32 × Wd) := (if 16 < x3 then (fX6_measures_l180 1000 a0 x1 x2 (x1 + 1) w) else (fX6_measures_l38 rec27 1000 a0 x1 x2 x3 (x1 + 1) w))
def fX6_measures_l27 : Nat → Nat → Int32 → Int32 → Int32 → Wd → Option (Int32 × Wd)
  | 0, _, _, _, _, _ => none
  | n + 1, a0, x1, x2, x3, w => fX6_measures_b27  (fX6_measures_l27  n) a0 x1 x2 x3 w
def fX6_measures_b2 (rec2 : Nat → Int32 → Int32 → Wd → Option (Int32 × Wd)) (a0 : Nat) (x1 : Int32) (x2 : Int32) (w : Wd) : Option (Int32 × Wd) := (if 16 ≤ x2 then (fX6_measures_l27 1000 a0 x1 100 1 w) else (ckp (ix x2 16 = true) (lt' (sI w 6 a0 26 (x2 : Int32).toNatClampNeg 100) (fun w_5 => (rec2 a0 x1 (x2 + 1) w_5)))))
def fX6_measures_l2 : Nat → Nat → Int32 → Int32 → Wd → Option (Int32 × Wd)
  | 0, _, _, _, _ => none
  | n + 1, a0, x1, x2, w => fX6_measures_b2  (fX6_measures_l2  n) a0 x1 x2 w
def fX6_measures (a0 : Nat) (x1 : Int32) (w : Wd) : Option (Int32 × Wd) := (fX6_measures_l2 1000 a0 x1 0 w)
def fX6_breaks_b122 (rec12 : Nat → Int32 → Wd → Option (Wd)) (a0 : Nat) (x1 : Int32) (w : Wd) : Option (Wd) := (rec12 a0 (x1 + 1) w)
def fX6_breaks_b107 (rec12 : Nat → Int32 → Wd → Option (Wd)) (rec45 : Nat → Int32 → Int32 → Int32 → Int32 → Wd → Option (Wd)) (rec66 : Nat → Int32 → Int32 → Int32 → Int32 → Int32 → Int32 → Wd → Option (Wd)) (a0 : Nat) (x1 : Int32) (x2 : Int32) (x3 : Int32) (x4 : Int32) (x5 : Int32) (x6 : Int32) (w : Wd) : Option (Wd) := (rec66 a0 x1 x2 x3 x4 x5 (x6 + (-1)) w)
def fX6_breaks_b66 (rec12 : Nat → Int32 → Wd → Option (Wd)) (rec45 : Nat → Int32 → Int32 → Int32 → Int32 → Wd → Option (Wd)) (rec66 : Nat → Int32 → Int32 → Int32 → Int32 → Int32 → Int32 → Wd → Option (Wd)) (a0 : Nat) (x1 : Int32) (x2 : Int32) (x3 : Int32) (x4 : Int32) (x5 : Int32) (x6 : Int32) (w : Wd) : Option (Wd) := (if x6 ≤ x1 then (rec45 a0 x1 x2 x5 (x4 + 1) w) else (ckp (ix x3 16 = true) (if (((zI w 6 a0 25 (x3 : Int32).toNatClampNeg) >>> (x6 &&& 31)) &&& 1) = 1 then (ckp (ix x6 16 = true) (if (zI w 6 a0 26 (x6 : Int32).toNatClampNeg) = ((x2 - 1) - x4) then (fX6_breaks_b107 rec12 rec45 rec66 a0 x1 x2 x3 x4 x6 x6 w) else (fX6_breaks_b107 rec12 rec45 rec66 a0 x1 x2 x3 x4 x5 x6 w))) else (fX6_breaks_b107 rec12 rec45 rec66 a0 x1 x2 x3 x4 x5 x6 w))))
def fX6_breaks_l66 (rec12 : Nat → Int32 → Wd → Option (Wd)) (rec45 : Nat → Int32 → Int32 → Int32 → Int32 → Wd → Option (Wd)) : Nat → Nat → Int32 → Int32 → Int32 → Int32 → Int32 → Int32 → Wd → Option (Wd)
  | 0, _, _, _, _, _, _, _, _ => none
  | n + 1, a0, x1, x2, x3, x4, x5, x6, w => fX6_breaks_b66 rec12 rec45 (fX6_breaks_l66 rec12 rec45 n) a0 x1 x2 x3 x4 x5 x6 w
def fX6_breaks_b45 (rec12 : Nat → Int32 → Wd → Option (Wd)) (rec45 : Nat → Int32 → Int32 → Int32 → Int32 → Wd → Option (Wd)) (a0 : Nat) (x1 : Int32) (x2 : Int32) (x3 : Int32) (x4 : Int32) (w : Wd) : Option (Wd) := (if x2 ≤ x4 then (fX6_breaks_b122 rec12 a0 x1 w) else (ckp (ix x4 16 = true) (lt' (sI w 6 a0 27 (x4 : Int32).toNatClampNeg x3) (fun w_5 => (fX6_breaks_l66 rec12 rec45 1000 a0 x1 x2 x3 x4 0 15 w_5)))))
def fX6_breaks_l45 (rec12 : Nat → Int32 → Wd → Option (Wd)) : Nat → Nat → Int32 → Int32 → Int32 → Int32 → Wd → Option (Wd)
  | 0, _, _, _, _, _, _ => none
  | n + 1, a0, x1, x2, x3, x4, w => fX6_breaks_b45 rec12 (fX6_breaks_l45 rec12 n) a0 x1 x2 x3 x4 w
def fX6_breaks_b12 (rec12 : Nat → Int32 → Wd → Option (Wd)) (a0 : Nat) (x1 : Int32) (w : Wd) : Option (Wd) := (if 16 ≤ x1 then (some w) else (bd2 (fX6_measures a0 x1 w) (fun y_3 w_4 => (if y_3 < (zI w_4 6 a0 28 0) then (lt' (sI w_4 6 a0 28 0 y_3) (fun w_10 => (fX6_breaks_l45 rec12 1000 a0 x1 y_3 x1 0 w_10))) else (fX6_breaks_b122 rec12 a0 x1 w_4)))))
def fX6_breaks_l12 : Nat → Nat → Int32 → Wd → Option (Wd)
  | 0, _, _, _ => none
  | n + 1, a0, x1, w => fX6_breaks_b12  (fX6_breaks_l12  n) a0 x1 w
def fX6_breaks (a0 : Nat) (w : Wd) : Option (Wd) := (bd (fX6_aheads a0 w) (fun w_2 => (lt' (sI w_2 6 a0 28 0 100) (fun w_7 => (fX6_breaks_l12 1000 a0 0 w_7)))))
def fX6_broken_b37 (xs0 : Int32) (w : Wd) : Option (Int32 × Wd) := (some (xs0, w))
def fX6_broken_b36 (w : Wd) : Option (Int32 × Wd) := (fX6_broken_b37 (-1) w)
def fX6_broken (a0 : Nat) (x1 : Int32) (w : Wd) : Option (Int32 × Wd) := (bd (fX6_breaks a0 w) (fun w_2 => (if 100 ≤ (zI w_2 6 a0 28 0) then (fX6_broken_b36 w_2) else (bd (fX6_lies x1 0 ((zI w_2 6 a0 28 0) - 1) w_2) (fun y_9 => (if y_9 = 0 then (fX6_broken_b36 w_2) else (ckp (ix x1 16 = true) (fX6_broken_b37 (zI w_2 6 a0 27 (x1 : Int32).toNatClampNeg) w_2))))))))
def fX5_meter_b22 (w : Wd) : Option (Int32 × Wd) := (ckp ((0 : Int32) = 0 ∨ (0 : Int32) = 1) (some (0, w)))
def fX5_meter (a0 : Nat) (x1 : Int32) (x2 : Int32) (w : Wd) : Option (Int32 × Wd) := (if x1 < 2 then (fX5_meter_b22 w) else (if 10000 < x1 then (fX5_meter_b22 w) else (if x2 < 0 then (fX5_meter_b22 w) else (if x2 ≤ 100 then (lt' (sI w 5 a0 4 0 x1) (fun w_5 => (lt' (sI w_5 5 a0 5 0 x2) (fun w_8 => (ckp ((1 : Int32) = 0 ∨ (1 : Int32) = 1) (some (1, w_8))))))) else (fX5_meter_b22 w)))))
def fX6_meter_b21 (w : Wd) : Option (Int32 × Wd) := (ckp ((0 : Int32) = 0 ∨ (0 : Int32) = 1) (some (0, w)))
def fX6_meter (a0 : Nat) (x1 : Int32) (x2 : Int32) (w : Wd) : Option (Int32 × Wd) := (bd (fX6_lies x1 2 10000 w) (fun y_2 => (if y_2 = 0 then (fX6_meter_b21 w) else (bd (fX6_lies x2 0 100 w) (fun y_6 => (if y_6 = 0 then (fX6_meter_b21 w) else (lt' (sI w 6 a0 3 0 x1) (fun w_9 => (lt' (sI w_9 6 a0 4 0 x2) (fun w_12 => (ckp ((1 : Int32) = 0 ∨ (1 : Int32) = 1) (some (1, w_12)))))))))))))
def fJ9_floorMod_7cf53_b18 (w : Wd) (x2 : Int32) : Option (Int32) := (some x2)
def fJ9_floorMod_7cf53 (x0 : Int32) (x1 : Int32) (w : Wd) : Option (Int32) := (ckp (¬ x1 = 0) (if 0 ≤ (x0 ^^^ x1) then (fJ9_floorMod_7cf53_b18 w (x0 - x0 / x1 * x1)) else (if (x0 - x0 / x1 * x1) = 0 then (fJ9_floorMod_7cf53_b18 w (x0 - x0 / x1 * x1)) else (some ((x0 - x0 / x1 * x1) + x1)))))
def fX5_workBetween_b136 (w : Wd) (xs0 : Int32) : Option (Int32) := (some xs0)
def fX5_workBetween_b112 (w : Wd) : Option (Int32) := (some (-1))
def fX5_workBetween_b85 (w : Wd) (a0 : Nat) (x4 : Int32) (x7 : Int32) (xs0 : Int32) : Option (Int32) := (if x4 = 2 then (some xs0) else (if xs0 = 0 then (fX5_workBetween_b112 w) else (if x4 < 0 then (fX5_workBetween_b112 w) else (if x4 ≤ 2 then (if x4 = 0 then (fX5_workBetween_b136 w x7) else (fX5_workBetween_b136 w (x7 + ((xs0 - 1) * (zI w 5 a0 4 0))))) else (fX5_workBetween_b112 w)))))
def fX5_workBetween_b24 (w : Wd) : Option (Int32) := (some (-1))
def fX5_workBetween (a0 : Nat) (a1 : Nat) (a2 : Nat) (x3 : Int32) (x4 : Int32) (w : Wd) : Option (Int32) := (bd (fX1_rowOf a1 x3 w) (fun u_2 => (bd (fX1_rowOf a2 x3 w) (fun u_5 => (oc u_2 (fX5_workBetween_b24 w) (fun b_7 => (oc u_5 (fX5_workBetween_b24 w) (fun b_10 => (bd (fJ9_floorMod_7cf53 ((zI w 2 b_10 3 0) - (zI w 2 b_7 3 0)) (zI w 5 a0 4 0) w) (fun y_14 => (if y_14 ≤ ((zI w 5 a0 5 0) * ((zI w 1 a2 0 0) - (zI w 1 a1 0 0))) then (ckp (¬ (zI w 5 a0 4 0) = 0) (fX5_workBetween_b85 w a0 x4 y_14 (((((zI w 5 a0 5 0) * ((zI w 1 a2 0 0) - (zI w 1 a1 0 0))) - y_14) / (zI w 5 a0 4 0)) + 1))) else (fX5_workBetween_b85 w a0 x4 y_14 0))))))))))))
def fX5_work_b69 (w : Wd) (xs0 : Int32) : Option (Int32) := (some xs0)
def fX5_work_b29 (w : Wd) : Option (Int32) := (some (-1))
def fX5_work (a0 : Nat) (x1 : Int32) (x2 : Int32) (x3 : Int32) (x4 : Int32) (w : Wd) : Option (Int32) := (bd (fX5_pictureAt a0 x2 w) (fun u_2 => (bd (fX5_pictureAt a0 x3 w) (fun u_5 => (oc u_2 (fX5_work_b29 w) (fun b_7 => (oc u_5 (fX5_work_b29 w) (fun b_10 => (if x2 = x3 then (fX5_work_b29 w) else (if (zI w 1 b_10 0 0) ≤ (zI w 1 b_7 0 0) then (bd (fX5_workBetween a0 b_10 b_7 x1 x4 w) (fun y_16 => (fX5_work_b69 w y_16))) else (bd (fX5_workBetween a0 b_7 b_10 x1 x4 w) (fun y_19 => (fX5_work_b69 w y_19)))))))))))))
def fX6_work_b209 (w : Wd) (xs0 : Int32) : Option (Int32) := (some xs0)
def fX6_work_b187 (w : Wd) (xs0 : Int32) : Option (Int32) := (some xs0)
def fX6_work_b147 (w : Wd) (a0 : Nat) (x4 : Int32) (x7 : Int32) (xs0 : Int32) : Option (Int32) := (if x4 = 0 then (if xs0 = 0 then (fX6_work_b187 w (-1)) else (fX6_work_b187 w x7)) else (if x4 = 1 then (if xs0 = 0 then (fX6_work_b209 w (-1)) else (fX6_work_b209 w (x7 + ((xs0 - 1) * (zI w 6 a0 3 0))))) else (if x4 = 2 then (some xs0) else (some (-1)))))
def fX6_work_b45 (w : Wd) (a0 : Nat) (x1 : Int32) (x2 : Int32) (x3 : Int32) (x4 : Int32) (xs0 : Int32) : Option (Int32) := (ckp (ix ((24 * ((x2 + x3) - xs0)) + x1) 192 = true) (ckp (¬ (zI w 6 a0 3 0) = 0) (ckp (ix ((24 * xs0) + x1) 192 = true) (ckp (¬ (zI w 6 a0 3 0) = 0) (ckp (¬ (zI w 6 a0 3 0) = 0) (ckp (ix ((x2 + x3) - xs0) 8 = true) (ckp (ix xs0 8 = true) (if (((((zI w 6 a0 9 (((24 * ((x2 + x3) - xs0)) + x1) : Int32).toNatClampNeg) - (zI w 6 a0 9 (((24 * ((x2 + x3) - xs0)) + x1) : Int32).toNatClampNeg) / (zI w 6 a0 3 0) * (zI w 6 a0 3 0)) - ((zI w 6 a0 9 (((24 * xs0) + x1) : Int32).toNatClampNeg) - (zI w 6 a0 9 (((24 * xs0) + x1) : Int32).toNatClampNeg) / (zI w 6 a0 3 0) * (zI w 6 a0 3 0))) + (zI w 6 a0 3 0)) - ((((zI w 6 a0 9 (((24 * ((x2 + x3) - xs0)) + x1) : Int32).toNatClampNeg) - (zI w 6 a0 9 (((24 * ((x2 + x3) - xs0)) + x1) : Int32).toNatClampNeg) / (zI w 6 a0 3 0) * (zI w 6 a0 3 0)) - ((zI w 6 a0 9 (((24 * xs0) + x1) : Int32).toNatClampNeg) - (zI w 6 a0 9 (((24 * xs0) + x1) : Int32).toNatClampNeg) / (zI w 6 a0 3 0) * (zI w 6 a0 3 0))) + (zI w 6 a0 3 0)) / (zI w 6 a0 3 0) * (zI w 6 a0 3 0)) ≤ ((zI w 6 a0 4 0) * ((zI w 6 a0 5 (((x2 + x3) - xs0) : Int32).toNatClampNeg) - (zI w 6 a0 5 (xs0 : Int32).toNatClampNeg))) then (ckp (¬ (zI w 6 a0 3 0) = 0) (fX6_work_b147 w a0 x4 (((((zI w 6 a0 9 (((24 * ((x2 + x3) - xs0)) + x1) : Int32).toNatClampNeg) - (zI w 6 a0 9 (((24 * ((x2 + x3) - xs0)) + x1) : Int32).toNatClampNeg) / (zI w 6 a0 3 0) * (zI w 6 a0 3 0)) - ((zI w 6 a0 9 (((24 * xs0) + x1) : Int32).toNatClampNeg) - (zI w 6 a0 9 (((24 * xs0) + x1) : Int32).toNatClampNeg) / (zI w 6 a0 3 0) * (zI w 6 a0 3 0))) + (zI w 6 a0 3 0)) - ((((zI w 6 a0 9 (((24 * ((x2 + x3) - xs0)) + x1) : Int32).toNatClampNeg) - (zI w 6 a0 9 (((24 * ((x2 + x3) - xs0)) + x1) : Int32).toNatClampNeg) / (zI w 6 a0 3 0) * (zI w 6 a0 3 0)) - ((zI w 6 a0 9 (((24 * xs0) + x1) : Int32).toNatClampNeg) - (zI w 6 a0 9 (((24 * xs0) + x1) : Int32).toNatClampNeg) / (zI w 6 a0 3 0) * (zI w 6 a0 3 0))) + (zI w 6 a0 3 0)) / (zI w 6 a0 3 0) * (zI w 6 a0 3 0)) (((((zI w 6 a0 4 0) * ((zI w 6 a0 5 (((x2 + x3) - xs0) : Int32).toNatClampNeg) - (zI w 6 a0 5 (xs0 : Int32).toNatClampNeg))) - (((((zI w 6 a0 9 (((24 * ((x2 + x3) - xs0)) + x1) : Int32).toNatClampNeg) - (zI w 6 a0 9 (((24 * ((x2 + x3) - xs0)) + x1) : Int32).toNatClampNeg) / (zI w 6 a0 3 0) * (zI w 6 a0 3 0)) - ((zI w 6 a0 9 (((24 * xs0) + x1) : Int32).toNatClampNeg) - (zI w 6 a0 9 (((24 * xs0) + x1) : Int32).toNatClampNeg) / (zI w 6 a0 3 0) * (zI w 6 a0 3 0))) + (zI w 6 a0 3 0)) - ((((zI w 6 a0 9 (((24 * ((x2 + x3) - xs0)) + x1) : Int32).toNatClampNeg) - (zI w 6 a0 9 (((24 * ((x2 + x3) - xs0)) + x1) : Int32).toNatClampNeg) / (zI w 6 a0 3 0) * (zI w 6 a0 3 0)) - ((zI w 6 a0 9 (((24 * xs0) + x1) : Int32).toNatClampNeg) - (zI w 6 a0 9 (((24 * xs0) + x1) : Int32).toNatClampNeg) / (zI w 6 a0 3 0) * (zI w 6 a0 3 0))) + (zI w 6 a0 3 0)) / (zI w 6 a0 3 0) * (zI w 6 a0 3 0))) / (zI w 6 a0 3 0)) + 1))) else (fX6_work_b147 w a0 x4 (((((zI w 6 a0 9 (((24 * ((x2 + x3) - xs0)) + x1) : Int32).toNatClampNeg) - (zI w 6 a0 9 (((24 * ((x2 + x3) - xs0)) + x1) : Int32).toNatClampNeg) / (zI w 6 a0 3 0) * (zI w 6 a0 3 0)) - ((zI w 6 a0 9 (((24 * xs0) + x1) : Int32).toNatClampNeg) - (zI w 6 a0 9 (((24 * xs0) + x1) : Int32).toNatClampNeg) / (zI w 6 a0 3 0) * (zI w 6 a0 3 0))) + (zI w 6 a0 3 0)) - ((((zI w 6 a0 9 (((24 * ((x2 + x3) - xs0)) + x1) : Int32).toNatClampNeg) - (zI w 6 a0 9 (((24 * ((x2 + x3) - xs0)) + x1) : Int32).toNatClampNeg) / (zI w 6 a0 3 0) * (zI w 6 a0 3 0)) - ((zI w 6 a0 9 (((24 * xs0) + x1) : Int32).toNatClampNeg) - (zI w 6 a0 9 (((24 * xs0) + x1) : Int32).toNatClampNeg) / (zI w 6 a0 3 0) * (zI w 6 a0 3 0))) + (zI w 6 a0 3 0)) / (zI w 6 a0 3 0) * (zI w 6 a0 3 0)) 0)))))))))
def fX6_work_b23 (w : Wd) : Option (Int32) := (some (-1))
def fX6_work (a0 : Nat) (x1 : Int32) (x2 : Int32) (x3 : Int32) (x4 : Int32) (w : Wd) : Option (Int32) := (bd (fX6_isThere a0 x2 x1 w) (fun y_2 => (if y_2 = 0 then (fX6_work_b23 w) else (bd (fX6_isThere a0 x3 x1 w) (fun y_6 => (if y_6 = 0 then (fX6_work_b23 w) else (if x2 = x3 then (fX6_work_b23 w) else (ckp (ix x2 8 = true) (ckp (ix x3 8 = true) (if (zI w 6 a0 5 (x3 : Int32).toNatClampNeg) ≤ (zI w 6 a0 5 (x2 : Int32).toNatClampNeg) then (fX6_work_b45 w a0 x1 x2 x3 x4 x3) else (fX6_work_b45 w a0 x1 x2 x3 x4 x2)))))))))))
def fX1_distanceOf_b29 (w : Wd) (xs0 : Int32) : Option (Int32) := (some xs0)
def fX1_distanceOf_b28 (w : Wd) : Option (Int32) := (fX1_distanceOf_b29 w (-1))
def fX1_distanceOf (a0 : Nat) (x1 : Int32) (x2 : Int32) (w : Wd) : Option (Int32) := (bd (fX5_isThread x1 w) (fun y_2 => (if y_2 = 0 then (fX1_distanceOf_b28 w) else (bd (fX5_isThread x2 w) (fun y_6 => (if y_6 = 0 then (fX1_distanceOf_b28 w) else (ckp (ix ((x1 * 24) + x2) 576 = true) (fX1_distanceOf_b29 w (zI w 1 a0 5 (((x1 * 24) + x2) : Int32).toNatClampNeg)))))))))
def fX5_distance_b30 (w : Wd) : Option (Int32) := (some (-1))
def fX5_distance (a0 : Nat) (x1 : Int32) (x2 : Int32) (x3 : Int32) (w : Wd) : Option (Int32) := (bd (fX5_pictureAt a0 x1 w) (fun u_2 => (oc u_2 (fX5_distance_b30 w) (fun b_4 => (bd (fX1_rowOf b_4 x2 w) (fun u_8 => (oc u_8 (fX5_distance_b30 w) (fun b_10 => (bd (fX1_rowOf b_4 x3 w) (fun u_14 => (oc u_14 (fX5_distance_b30 w) (fun b_16 => (bd (fX1_distanceOf b_4 x2 x3 w) (fun y_20 => (some y_20)))))))))))))))
def fX6_least_b10 (w : Wd) (xs0 : Int32) : Option (Int32) := (some xs0)
def fX6_least (x0 : Int32) (x1 : Int32) (w : Wd) : Option (Int32) := (if x1 ≤ x0 then (fX6_least_b10 w x1) else (fX6_least_b10 w x0))
def fX6_distanceOf_b141 (rec2 : Nat → Int32 → Int32 → Int32 → Wd → Option (Int32 × Wd)) (rec15 : Nat → Int32 → Int32 → Int32 → Int32 → Wd → Option (Int32 × Wd)) (a0 : Nat) (x1 : Int32) (x2 : Int32) (x3 : Int32) (x4 : Int32) (x5 : Int32) (w : Wd) : Option (Int32 × Wd) := (ckp (ix ((13 * x3) + x4) 169 = true) (lt' (sI w 6 a0 29 (((13 * x3) + x4) : Int32).toNatClampNeg x5) (fun w_4 => (rec15 a0 x1 x2 x3 (x4 + 1) w_4))))
def fX6_distanceOf_b82 (rec2 : Nat → Int32 → Int32 → Int32 → Wd → Option (Int32 × Wd)) (rec15 : Nat → Int32 → Int32 → Int32 → Int32 → Wd → Option (Int32 × Wd)) (a0 : Nat) (x1 : Int32) (x2 : Int32) (x3 : Int32) (x4 : Int32) (xs0 : Int32) (w : Wd) : Option (Int32 × Wd) := (ckp (ix (((13 * (x3 - 1)) + x4) - 1) 169 = true) (ckp (ix ((13 * (x3 - 1)) + x4) 169 = true) (ckp (ix (((13 * x3) + x4) - 1) 169 = true) (bd (fX6_least (zI w 6 a0 29 (((13 * (x3 - 1)) + x4) : Int32).toNatClampNeg) (zI w 6 a0 29 ((((13 * x3) + x4) - 1) : Int32).toNatClampNeg) w) (fun y_11 => (bd (fX6_least ((zI w 6 a0 29 ((((13 * (x3 - 1)) + x4) - 1) : Int32).toNatClampNeg) + xs0) (1 + y_11) w) (fun y_14 => (fX6_distanceOf_b141 rec2 rec15 a0 x1 x2 x3 x4 y_14 w))))))))
def fX6_distanceOf_b36 (rec2 : Nat → Int32 → Int32 → Int32 → Wd → Option (Int32 × Wd)) (rec15 : Nat → Int32 → Int32 → Int32 → Int32 → Wd → Option (Int32 × Wd)) (a0 : Nat) (x1 : Int32) (x2 : Int32) (x3 : Int32) (x4 : Int32) (xs0 : Int32) (w : Wd) : Option (Int32 × Wd) := (if x3 ≤ 0 then (fX6_distanceOf_b141 rec2 rec15 a0 x1 x2 x3 x4 xs0 w) else (if x4 ≤ 0 then (fX6_distanceOf_b141 rec2 rec15 a0 x1 x2 x3 x4 xs0 w) else (ckp (ix (((12 * x1) + x3) - 1) 2304 = true) (ckp (ix (((12 * x2) + x4) - 1) 2304 = true) (if (zI w 6 a0 13 ((((12 * x1) + x3) - 1) : Int32).toNatClampNeg) = (zI w 6 a0 13 ((((12 * x2) + x4) - 1) : Int32).toNatClampNeg) then (fX6_distanceOf_b82 rec2 rec15 a0 x1 x2 x3 x4 0 w) else (fX6_distanceOf_b82 rec2 rec15 a0 x1 x2 x3 x4 1 w))))))
def fX6_distanceOf_b15 (rec2 : Nat → Int32 → Int32 → Int32 → Wd → Option (Int32 × Wd)) (rec15 : Nat → Int32 → Int32 → Int32 → Int32 → Wd → Option (Int32 × Wd)) (a0 : Nat) (x1 : Int32) (x2 : Int32) (x3 : Int32) (x4 : Int32) (w : Wd) : Option (Int32 × Wd) := (ckp (ix x2 192 = true) (if (zI w 6 a0 12 (x2 : Int32).toNatClampNeg) < x4 then (rec2 a0 x1 x2 (x3 + 1) w) else (if x3 = 0 then (fX6_distanceOf_b36 rec2 rec15 a0 x1 x2 x3 x4 x4 w) else (fX6_distanceOf_b36 rec2 rec15 a0 x1 x2 x3 x4 x3 w))))
def fX6_distanceOf_l15 (rec2 : Nat → Int32 → Int32 → Int32 → Wd → Option (Int32 × Wd)) : Nat → Nat → Int32 → Int32 → Int32 → Int32 → Wd → Option (Int32 × Wd)
  | 0, _, _, _, _, _, _ => none
  | n + 1, a0, x1, x2, x3, x4, w => fX6_distanceOf_b15 rec2 (fX6_distanceOf_l15 rec2 n) a0 x1 x2 x3 x4 w
def fX6_distanceOf_b2 (rec2 : Nat → Int32 → Int32 → Int32 → Wd → Option (Int32 × Wd)) (a0 : Nat) (x1 : Int32) (x2 : Int32) (x3 : Int32) (w : Wd) : Option (Int32 × Wd) := (ckp (ix x1 192 = true) (if (zI w 6 a0 12 (x1 : Int32).toNatClampNeg) < x3 then (ckp (ix x1 192 = true) (ckp (ix x2 192 = true) (ckp (ix ((13 * (zI w 6 a0 12 (x1 : Int32).toNatClampNeg)) + (zI w 6 a0 12 (x2 : Int32).toNatClampNeg)) 169 = true) (some ((zI w 6 a0 29 (((13 * (zI w 6 a0 12 (x1 : Int32).toNatClampNeg)) + (zI w 6 a0 12 (x2 : Int32).toNatClampNeg)) : Int32).toNatClampNeg), w))))) else (fX6_distanceOf_l15 rec2 1000 a0 x1 x2 x3 0 w)))
def fX6_distanceOf_l2 : Nat → Nat → Int32 → Int32 → Int32 → Wd → Option (Int32 × Wd)
  | 0, _, _, _, _, _ => none
  | n + 1, a0, x1, x2, x3, w => fX6_distanceOf_b2  (fX6_distanceOf_l2  n) a0 x1 x2 x3 w
def fX6_distanceOf (a0 : Nat) (x1 : Int32) (x2 : Int32) (w : Wd) : Option (Int32 × Wd) := (fX6_distanceOf_l2 1000 a0 x1 x2 0 w)
def fX6_distance_b38 (xs0 : Int32) (w : Wd) : Option (Int32 × Wd) := (some (xs0, w))
def fX6_distance_b37 (w : Wd) : Option (Int32 × Wd) := (fX6_distance_b38 (-1) w)
def fX6_distance (a0 : Nat) (x1 : Int32) (x2 : Int32) (x3 : Int32) (w : Wd) : Option (Int32 × Wd) := (bd (fX6_isThere a0 x1 x2 w) (fun y_2 => (if y_2 = 0 then (fX6_distance_b37 w) else (bd (fX6_isThere a0 x1 x3 w) (fun y_6 => (if y_6 = 0 then (fX6_distance_b37 w) else (bd2 (fX6_distanceOf a0 ((24 * x1) + x2) ((24 * x1) + x3) w) (fun y_10 w_11 => (fX6_distance_b38 y_10 w_11)))))))))
def fX5_isHeapWidth_b15 (w : Wd) (xs0 : Int32) : Option (Int32) := (ckp ((xs0 : Int32) = 0 ∨ (xs0 : Int32) = 1) (some xs0))
def fX5_isHeapWidth_b14 (w : Wd) : Option (Int32) := (fX5_isHeapWidth_b15 w 0)
def fX5_isHeapWidth (x0 : Int32) (w : Wd) : Option (Int32) := (if x0 < 0 then (fX5_isHeapWidth_b14 w) else (if 24 < x0 then (fX5_isHeapWidth_b14 w) else (fX5_isHeapWidth_b15 w 1)))
def fX5_lowestOf_b2 (w : Wd) (rec2 : Int32 → Int32 → Option (Int32)) (x0 : Int32) (x1 : Int32) : Option (Int32) := (if 24 ≤ x1 then (some (-1)) else (bd (fX5_hasBit x0 x1 w) (fun y_3 => (if y_3 = 0 then (rec2 x0 (x1 + 1)) else (some x1)))))
def fX5_lowestOf_l2 (w : Wd) : Nat → Int32 → Int32 → Option (Int32)
  | 0, _, _ => none
  | n + 1, x0, x1 => fX5_lowestOf_b2 w (fX5_lowestOf_l2 w n) x0 x1
def fX5_lowestOf (x0 : Int32) (w : Wd) : Option (Int32) := (fX5_lowestOf_l2 w 1000 x0 0)
def fX1_neighboursOf_b40 (w : Wd) (rec5 : Nat → Int32 → Int32 → Int32 → Int32 → Option (Int32)) (a0 : Nat) (x1 : Int32) (x2 : Int32) (x3 : Int32) (x4 : Int32) : Option (Int32) := (rec5 a0 x1 x2 x3 (x4 + 1))
def fX1_neighboursOf_b5 (w : Wd) (rec5 : Nat → Int32 → Int32 → Int32 → Int32 → Option (Int32)) (a0 : Nat) (x1 : Int32) (x2 : Int32) (x3 : Int32) (x4 : Int32) : Option (Int32) := (if 24 ≤ x4 then (some x3) else (ckp (ix x4 24 = true) (lt' (zR w 1 a0 1 (x4 : Int32).toNatClampNeg) (fun u_5 => (oc u_5 (fX1_neighboursOf_b40 w rec5 a0 x1 x2 x3 x4) (fun b_9 => (bd (fX1_distanceOf a0 x1 x4 w) (fun y_13 => (if x2 < y_13 then (fX1_neighboursOf_b40 w rec5 a0 x1 x2 x3 x4) else (fX1_neighboursOf_b40 w rec5 a0 x1 x2 (x3 ||| (1 <<< (x4 &&& 31))) x4))))))))))
def fX1_neighboursOf_l5 (w : Wd) : Nat → Nat → Int32 → Int32 → Int32 → Int32 → Option (Int32)
  | 0, _, _, _, _, _ => none
  | n + 1, a0, x1, x2, x3, x4 => fX1_neighboursOf_b5 w (fX1_neighboursOf_l5 w n) a0 x1 x2 x3 x4
def fX1_neighboursOf (a0 : Nat) (x1 : Int32) (x2 : Int32) (w : Wd) : Option (Int32) := (fX1_neighboursOf_l5 w 1000 a0 x1 x2 0 0)
def fX1_heapOf_b59 (w : Wd) (x3 : Int32) : Option (Int32) := (some x3)
def fX1_heapOf_b10 (w : Wd) (rec10 : Nat → Int32 → Int32 → Int32 → Int32 → Option (Int32)) (a0 : Nat) (x2 : Int32) (x3 : Int32) (x4 : Int32) (x5 : Int32) : Option (Int32) := (if 24 ≤ x5 then (fX1_heapOf_b59 w x3) else (if x3 = x4 then (fX1_heapOf_b59 w x3) else (bd (fX5_lowestOf (x3 &&& (x4 ^^^ (-1))) w) (fun y_4 => (bd (fX1_neighboursOf a0 y_4 x2 w) (fun y_7 => (rec10 a0 x2 (x3 ||| y_7) (x4 ||| (1 <<< (y_4 &&& 31))) (x5 + 1))))))))
def fX1_heapOf_l10 (w : Wd) : Nat → Nat → Int32 → Int32 → Int32 → Int32 → Option (Int32)
  | 0, _, _, _, _, _ => none
  | n + 1, a0, x2, x3, x4, x5 => fX1_heapOf_b10 w (fX1_heapOf_l10 w n) a0 x2 x3 x4 x5
def fX1_heapOf (a0 : Nat) (x1 : Int32) (x2 : Int32) (w : Wd) : Option (Int32) := (fX1_heapOf_l10 w 1000 a0 x2 (1 <<< (x1 &&& 31)) 0 0)
def fX1_countHeaps_b46 (w : Wd) (rec7 : Nat → Int32 → Int32 → Int32 → Int32 → Option (Int32)) (a0 : Nat) (x1 : Int32) (x2 : Int32) (x3 : Int32) (x4 : Int32) : Option (Int32) := (rec7 a0 x1 x2 x3 (x4 + 1))
def fX1_countHeaps_b7 (w : Wd) (rec7 : Nat → Int32 → Int32 → Int32 → Int32 → Option (Int32)) (a0 : Nat) (x1 : Int32) (x2 : Int32) (x3 : Int32) (x4 : Int32) : Option (Int32) := (if 24 ≤ x4 then (some x2) else (ckp (ix x4 24 = true) (lt' (zR w 1 a0 1 (x4 : Int32).toNatClampNeg) (fun u_5 => (oc u_5 (fX1_countHeaps_b46 w rec7 a0 x1 x2 x3 x4) (fun b_9 => (bd (fX5_hasBit x3 x4 w) (fun y_13 => (if y_13 = 0 then (bd (fX1_heapOf a0 x4 x1 w) (fun y_17 => (fX1_countHeaps_b46 w rec7 a0 x1 (x2 + 1) (x3 ||| y_17) x4))) else (fX1_countHeaps_b46 w rec7 a0 x1 x2 x3 x4))))))))))
def fX1_countHeaps_l7 (w : Wd) : Nat → Nat → Int32 → Int32 → Int32 → Int32 → Option (Int32)
  | 0, _, _, _, _, _ => none
  | n + 1, a0, x1, x2, x3, x4 => fX1_countHeaps_b7 w (fX1_countHeaps_l7 w n) a0 x1 x2 x3 x4
def fX1_countHeaps (a0 : Nat) (x1 : Int32) (w : Wd) : Option (Int32) := (fX1_countHeaps_l7 w 1000 a0 x1 0 0 0)
def fX5_heaps_b26 (w : Wd) (xs0 : Int32) : Option (Int32) := (some xs0)
def fX5_heaps_b17 (w : Wd) : Option (Int32) := (fX5_heaps_b26 w (-1))
def fX5_heaps (a0 : Nat) (x1 : Int32) (x2 : Int32) (w : Wd) : Option (Int32) := (bd (fX5_pictureAt a0 x1 w) (fun u_2 => (oc u_2 (fX5_heaps_b17 w) (fun b_4 => (bd (fX5_isHeapWidth x2 w) (fun y_8 => (if y_8 = 0 then (fX5_heaps_b17 w) else (bd (fX1_countHeaps b_4 x2 w) (fun y_12 => (fX5_heaps_b26 w y_12))))))))))
def fX6_hangs_b137 (rec23 : Nat → Int32 → Int32 → Int32 → Wd → Option (Wd)) (rec32 : Nat → Int32 → Int32 → Int32 → Int32 → Wd → Option (Wd)) (rec42 : Nat → Int32 → Int32 → Int32 → Int32 → Int32 → Wd → Option (Wd)) (a0 : Nat) (x1 : Int32) (x2 : Int32) (x3 : Int32) (x4 : Int32) (x5 : Int32) (w : Wd) : Option (Wd) := (rec42 a0 x1 x2 x3 x4 (x5 + 1) w)
def fX6_hangs_b42 (rec23 : Nat → Int32 → Int32 → Int32 → Wd → Option (Wd)) (rec32 : Nat → Int32 → Int32 → Int32 → Int32 → Wd → Option (Wd)) (rec42 : Nat → Int32 → Int32 → Int32 → Int32 → Int32 → Wd → Option (Wd)) (a0 : Nat) (x1 : Int32) (x2 : Int32) (x3 : Int32) (x4 : Int32) (x5 : Int32) (w : Wd) : Option (Wd) := (if 24 ≤ x5 then (rec32 a0 x1 x2 x3 (x4 + 1) w) else (ckp (ix x5 24 = true) (ckp (ix x4 24 = true) (if (zI w 6 a0 30 (x4 : Int32).toNatClampNeg) ≤ (zI w 6 a0 30 (x5 : Int32).toNatClampNeg) then (fX6_hangs_b137 rec23 rec32 rec42 a0 x1 x2 x3 x4 x5 w) else (ckp (ix ((24 * x1) + x4) 192 = true) (if (zI w 6 a0 7 (((24 * x1) + x4) : Int32).toNatClampNeg) = 0 then (fX6_hangs_b137 rec23 rec32 rec42 a0 x1 x2 x3 x4 x5 w) else (ckp (ix ((24 * x1) + x5) 192 = true) (if (zI w 6 a0 7 (((24 * x1) + x5) : Int32).toNatClampNeg) = 0 then (fX6_hangs_b137 rec23 rec32 rec42 a0 x1 x2 x3 x4 x5 w) else (bd2 (fX6_distanceOf a0 ((24 * x1) + x4) ((24 * x1) + x5) w) (fun y_18 w_19 => (if y_18 ≤ x2 then (ckp (ix x5 24 = true) (ckp (ix x4 24 = true) (lt' (sI w_19 6 a0 30 (x4 : Int32).toNatClampNeg (zI w_19 6 a0 30 (x5 : Int32).toNatClampNeg)) (fun w_31 => (fX6_hangs_b137 rec23 rec32 rec42 a0 x1 x2 1 x4 x5 w_31))))) else (fX6_hangs_b137 rec23 rec32 rec42 a0 x1 x2 x3 x4 x5 w_19))))))))))))
def fX6_hangs_l42 (rec23 : Nat → Int32 → Int32 → Int32 → Wd → Option (Wd)) (rec32 : Nat → Int32 → Int32 → Int32 → Int32 → Wd → Option (Wd)) : Nat → Nat → Int32 → Int32 → Int32 → Int32 → Int32 → Wd → Option (Wd)
  | 0, _, _, _, _, _, _, _ => none
  | n + 1, a0, x1, x2, x3, x4, x5, w => fX6_hangs_b42 rec23 rec32 (fX6_hangs_l42 rec23 rec32 n) a0 x1 x2 x3 x4 x5 w
def fX6_hangs_b32 (rec23 : Nat → Int32 → Int32 → Int32 → Wd → Option (Wd)) (rec32 : Nat → Int32 → Int32 → Int32 → Int32 → Wd → Option (Wd)) (a0 : Nat) (x1 : Int32) (x2 : Int32) (x3 : Int32) (x4 : Int32) (w : Wd) : Option (Wd) := (if 24 ≤ x4 then (rec23 a0 x1 x2 x3 w) else (fX6_hangs_l42 rec23 rec32 1000 a0 x1 x2 x3 x4 0 w))
def fX6_hangs_l32 (rec23 : Nat → Int32 → Int32 → Int32 → Wd → Option (Wd)) : Nat → Nat → Int32 → Int32 → Int32 → Int32 → Wd → Option (Wd)
  | 0, _, _, _, _, _, _ => none
  | n + 1, a0, x1, x2, x3, x4, w => fX6_hangs_b32 rec23 (fX6_hangs_l32 rec23 n) a0 x1 x2 x3 x4 w
def fX6_hangs_b23 (rec23 : Nat → Int32 → Int32 → Int32 → Wd → Option (Wd)) (a0 : Nat) (x1 : Int32) (x2 : Int32) (x3 : Int32) (w : Wd) : Option (Wd) := (if x3 = 0 then (some w) else (fX6_hangs_l32 rec23 1000 a0 x1 x2 0 0 w))
def fX6_hangs_l23 : Nat → Nat → Int32 → Int32 → Int32 → Wd → Option (Wd)
  | 0, _, _, _, _, _ => none
  | n + 1, a0, x1, x2, x3, w => fX6_hangs_b23  (fX6_hangs_l23  n) a0 x1 x2 x3 w
def fX6_hangs_b2 (rec2 : Nat → Int32 → Int32 → Int32 → Wd → Option (Wd)) (a0 : Nat) (x1 : Int32) (x2 : Int32) (x3 : Int32) (w : Wd) : Option (Wd) := (if 24 ≤ x3 then (fX6_hangs_l23 1000 a0 x1 x2 1 w) else (ckp (ix x3 24 = true) (lt' (sI w 6 a0 30 (x3 : Int32).toNatClampNeg x3) (fun w_5 => (rec2 a0 x1 x2 (x3 + 1) w_5)))))
def fX6_hangs_l2 : Nat → Nat → Int32 → Int32 → Int32 → Wd → Option (Wd)
  | 0, _, _, _, _, _ => none
  | n + 1, a0, x1, x2, x3, w => fX6_hangs_b2  (fX6_hangs_l2  n) a0 x1 x2 x3 w
def fX6_hangs (a0 : Nat) (x1 : Int32) (x2 : Int32) (w : Wd) : Option (Wd) := (fX6_hangs_l2 1000 a0 x1 x2 0 w)
def fX6_heaps_b71 (rec31 : Nat → Int32 → Int32 → Int32 → Wd → Option (Int32 × Wd)) (a0 : Nat) (x1 : Int32) (x4 : Int32) (xs0 : Int32) (xs1 : Int32) (w : Wd) : Option (Int32 × Wd) := (rec31 a0 x1 (xs1 + xs0) (x4 + 1) w)
def fX6_heaps_b70 (rec31 : Nat → Int32 → Int32 → Int32 → Wd → Option (Int32 × Wd)) (a0 : Nat) (x1 : Int32) (x4 : Int32) (xs0 : Int32) (w : Wd) : Option (Int32 × Wd) := (fX6_heaps_b71 rec31 a0 x1 x4 0 xs0 w)
def fX6_heaps_b31 (rec31 : Nat → Int32 → Int32 → Int32 → Wd → Option (Int32 × Wd)) (a0 : Nat) (x1 : Int32) (x3 : Int32) (x4 : Int32) (w : Wd) : Option (Int32 × Wd) := (if 24 ≤ x4 then (some (x3, w)) else (ckp (ix ((24 * x1) + x4) 192 = true) (if (zI w 6 a0 7 (((24 * x1) + x4) : Int32).toNatClampNeg) = 0 then (fX6_heaps_b70 rec31 a0 x1 x4 x3 w) else (ckp (ix x4 24 = true) (if (zI w 6 a0 30 (x4 : Int32).toNatClampNeg) = x4 then (fX6_heaps_b71 rec31 a0 x1 x4 1 x3 w) else (fX6_heaps_b70 rec31 a0 x1 x4 x3 w))))))
def fX6_heaps_l31 : Nat → Nat → Int32 → Int32 → Int32 → Wd → Option (Int32 × Wd)
  | 0, _, _, _, _, _ => none
  | n + 1, a0, x1, x3, x4, w => fX6_heaps_b31  (fX6_heaps_l31  n) a0 x1 x3 x4 w
def fX6_heaps_b18 (w : Wd) : Option (Int32 × Wd) := (some ((-1), w))
def fX6_heaps (a0 : Nat) (x1 : Int32) (x2 : Int32) (w : Wd) : Option (Int32 × Wd) := (bd (fX6_isPicture a0 x1 w) (fun y_2 => (if y_2 = 0 then (fX6_heaps_b18 w) else (bd (fX6_lies x2 0 24 w) (fun y_6 => (if y_6 = 0 then (fX6_heaps_b18 w) else (bd (fX6_hangs a0 x1 x2 w) (fun w_10 => (fX6_heaps_l31 1000 a0 x1 0 0 w_10)))))))))
def fX5_heap_b28 (w : Wd) : Option (Int32) := (some (-1))
def fX5_heap (a0 : Nat) (x1 : Int32) (x2 : Int32) (x3 : Int32) (w : Wd) : Option (Int32) := (bd (fX5_pictureAt a0 x1 w) (fun u_2 => (oc u_2 (fX5_heap_b28 w) (fun b_4 => (bd (fX1_rowOf b_4 x3 w) (fun u_8 => (oc u_8 (fX5_heap_b28 w) (fun b_10 => (bd (fX5_isHeapWidth x2 w) (fun y_14 => (if y_14 = 0 then (fX5_heap_b28 w) else (bd (fX1_heapOf b_4 x3 x2 w) (fun y_18 => (bd (fX5_lowestOf y_18 w) (fun y_21 => (some y_21))))))))))))))))
def fX6_heap_b19 (w : Wd) : Option (Int32 × Wd) := (some ((-1), w))
def fX6_heap (a0 : Nat) (x1 : Int32) (x2 : Int32) (x3 : Int32) (w : Wd) : Option (Int32 × Wd) := (bd (fX6_isThere a0 x1 x3 w) (fun y_2 => (if y_2 = 0 then (fX6_heap_b19 w) else (bd (fX6_lies x2 0 24 w) (fun y_6 => (if y_6 = 0 then (fX6_heap_b19 w) else (bd (fX6_hangs a0 x1 x2 w) (fun w_10 => (ckp (ix x3 24 = true) (some ((zI w_10 6 a0 30 (x3 : Int32).toNatClampNeg), w_10)))))))))))
def fX5_countAhead_b44 (w : Wd) (rec14 : Int32 → Int32 → Nat → Int32 → Int32 → Option (Int32)) (x1 : Int32) (x2 : Int32) (o3 : Nat) (x4 : Int32) (x5 : Int32) : Option (Int32) := (rec14 x1 x2 o3 x4 (x5 + 1))
def fX5_countAhead_b14 (w : Wd) (rec14 : Int32 → Int32 → Nat → Int32 → Int32 → Option (Int32)) (x1 : Int32) (x2 : Int32) (o3 : Nat) (x4 : Int32) (x5 : Int32) : Option (Int32) := (if x4 ≤ x5 then (some x2) else (ckp (ix x5 8 = true) (lt' (zR w 5 o3 1 (x5 : Int32).toNatClampNeg) (fun u_3 => (oc u_3 (fX5_countAhead_b44 w rec14 x1 x2 o3 x4 x5) (fun b_7 => (if x1 ≤ (zI w 1 b_7 0 0) then (fX5_countAhead_b44 w rec14 x1 x2 o3 x4 x5) else (fX5_countAhead_b44 w rec14 x1 (x2 + 1) o3 x4 x5))))))))
def fX5_countAhead_l14 (w : Wd) : Nat → Int32 → Int32 → Nat → Int32 → Int32 → Option (Int32)
  | 0, _, _, _, _, _ => none
  | n + 1, x1, x2, o3, x4, x5 => fX5_countAhead_b14 w (fX5_countAhead_l14 w n) x1 x2 o3 x4 x5
def fX5_countAhead (a0 : Nat) (x1 : Int32) (w : Wd) : Option (Int32) := (fX5_countAhead_l14 w 1000 x1 0 a0 8 0)
def fX5_order_b34 (w : Wd) (rec2 : Nat → Int32 → Int32 → Option (Int32)) (a0 : Nat) (x1 : Int32) (x2 : Int32) : Option (Int32) := (rec2 a0 x1 (x2 + 1))
def fX5_order_b2 (w : Wd) (rec2 : Nat → Int32 → Int32 → Option (Int32)) (a0 : Nat) (x1 : Int32) (x2 : Int32) : Option (Int32) := (if (zI w 5 a0 3 0) ≤ x2 then (some (-1)) else (bd (fX5_pictureAt a0 x2 w) (fun u_3 => (oc u_3 (fX5_order_b34 w rec2 a0 x1 x2) (fun b_5 => (bd (fX5_countAhead a0 (zI w 1 b_5 0 0) w) (fun y_9 => (if y_9 = x1 then (some x2) else (fX5_order_b34 w rec2 a0 x1 x2)))))))))
def fX5_order_l2 (w : Wd) : Nat → Nat → Int32 → Int32 → Option (Int32)
  | 0, _, _, _ => none
  | n + 1, a0, x1, x2 => fX5_order_b2 w (fX5_order_l2 w n) a0 x1 x2
def fX5_order (a0 : Nat) (x1 : Int32) (w : Wd) : Option (Int32) := (fX5_order_l2 w 1000 a0 x1 0)
def fX6_order_b46 (w : Wd) (rec2 : Nat → Int32 → Int32 → Option (Int32)) (rec15 : Nat → Int32 → Int32 → Int32 → Int32 → Option (Int32)) (a0 : Nat) (x1 : Int32) (x2 : Int32) (x4 : Int32) (xs0 : Int32) (xs1 : Int32) : Option (Int32) := (rec15 a0 x1 x2 (xs1 + xs0) (x4 + 1))
def fX6_order_b15 (w : Wd) (rec2 : Nat → Int32 → Int32 → Option (Int32)) (rec15 : Nat → Int32 → Int32 → Int32 → Int32 → Option (Int32)) (a0 : Nat) (x1 : Int32) (x2 : Int32) (x3 : Int32) (x4 : Int32) : Option (Int32) := (if (zI w 6 a0 2 0) ≤ x4 then (if x3 = x1 then (some x2) else (rec2 a0 x1 (x2 + 1))) else (ckp (ix x4 8 = true) (ckp (ix x2 8 = true) (if (zI w 6 a0 5 (x2 : Int32).toNatClampNeg) ≤ (zI w 6 a0 5 (x4 : Int32).toNatClampNeg) then (fX6_order_b46 w rec2 rec15 a0 x1 x2 x4 0 x3) else (fX6_order_b46 w rec2 rec15 a0 x1 x2 x4 1 x3)))))
def fX6_order_l15 (w : Wd) (rec2 : Nat → Int32 → Int32 → Option (Int32)) : Nat → Nat → Int32 → Int32 → Int32 → Int32 → Option (Int32)
  | 0, _, _, _, _, _ => none
  | n + 1, a0, x1, x2, x3, x4 => fX6_order_b15 w rec2 (fX6_order_l15 w rec2 n) a0 x1 x2 x3 x4
def fX6_order_b2 (w : Wd) (rec2 : Nat → Int32 → Int32 → Option (Int32)) (a0 : Nat) (x1 : Int32) (x2 : Int32) : Option (Int32) := (if (zI w 6 a0 2 0) ≤ x2 then (some (-1)) else (fX6_order_l15 w rec2 1000 a0 x1 x2 0 0))
def fX6_order_l2 (w : Wd) : Nat → Nat → Int32 → Int32 → Option (Int32)
  | 0, _, _, _ => none
  | n + 1, a0, x1, x2 => fX6_order_b2 w (fX6_order_l2 w n) a0 x1 x2
def fX6_order (a0 : Nat) (x1 : Int32) (w : Wd) : Option (Int32) := (fX6_order_l2 w 1000 a0 x1 0)
def fX5_countOfReader (a0 : Nat) (x1 : Int32) (w : Wd) : Option (Int32) := (if x1 = 0 then (some (zI w 5 a0 3 0)) else (if x1 = 1 then (lt' (zR w 5 a0 0 0) (fun u_3 => (nn u_3 (fun b_7 => (some (zI w 4 b_7 1 0)))))) else (if x1 = 2 then (some (zI w 5 a0 4 0)) else (if x1 = 3 then (some (zI w 5 a0 5 0)) else (some (-1))))))
def fX5_count (a0 : Nat) (x1 : Int32) (x2 : Int32) (w : Wd) : Option (Int32) := (if x1 = (-1) then (bd (fX5_countOfReader a0 x2 w) (fun y_13 => (some y_13))) else (bd (fX5_pictureAt a0 x1 w) (fun u_3 => (oc u_3 (some (-1)) (fun b_5 => (if x2 = 0 then (some (zI w 1 b_5 0 0)) else (if x2 = 1 then (some (zI w 1 b_5 8 0)) else (if x2 = 2 then (some (zI w 1 b_5 9 0)) else (if x2 = 3 then (some (zI w 1 b_5 10 0)) else (some (-1)))))))))))
def fX6_count_b211 (w : Wd) (rec211 : Int32 → Int32 → Int32 → Option (Int32)) (x3 : Int32) (x4 : Int32) (x5 : Int32) : Option (Int32) := (if 16 ≤ x5 then (some x3) else (rec211 (x3 + ((x4 >>> (x5 &&& 31)) &&& 1)) x4 (x5 + 1)))
def fX6_count_l211 (w : Wd) : Nat → Int32 → Int32 → Int32 → Option (Int32)
  | 0, _, _, _ => none
  | n + 1, x3, x4, x5 => fX6_count_b211 w (fX6_count_l211 w n) x3 x4 x5
def fX6_count_b191 (w : Wd) (rec147 : Nat → Int32 → Int32 → Int32 → Option (Int32)) (a0 : Nat) (x1 : Int32) (x4 : Int32) (xs0 : Int32) (xs1 : Int32) : Option (Int32) := (rec147 a0 x1 (xs1 + xs0) (x4 + 1))
def fX6_count_b190 (w : Wd) (rec147 : Nat → Int32 → Int32 → Int32 → Option (Int32)) (a0 : Nat) (x1 : Int32) (x4 : Int32) (xs0 : Int32) : Option (Int32) := (fX6_count_b191 w rec147 a0 x1 x4 0 xs0)
def fX6_count_b147 (w : Wd) (rec147 : Nat → Int32 → Int32 → Int32 → Option (Int32)) (a0 : Nat) (x1 : Int32) (x3 : Int32) (x4 : Int32) : Option (Int32) := (if 24 ≤ x4 then (some x3) else (ckp (ix ((24 * x1) + x4) 192 = true) (if (zI w 6 a0 7 (((24 * x1) + x4) : Int32).toNatClampNeg) = 0 then (fX6_count_b190 w rec147 a0 x1 x4 x3) else (ckp (ix ((24 * x1) + x4) 192 = true) (if (zI w 6 a0 11 (((24 * x1) + x4) : Int32).toNatClampNeg) = (-1) then (fX6_count_b190 w rec147 a0 x1 x4 x3) else (fX6_count_b191 w rec147 a0 x1 x4 1 x3))))))
def fX6_count_l147 (w : Wd) : Nat → Nat → Int32 → Int32 → Int32 → Option (Int32)
  | 0, _, _, _, _ => none
  | n + 1, a0, x1, x3, x4 => fX6_count_b147 w (fX6_count_l147 w n) a0 x1 x3 x4
def fX6_count_b134 (w : Wd) (rec106 : Nat → Int32 → Int32 → Int32 → Option (Int32)) (a0 : Nat) (x1 : Int32) (x4 : Int32) (xs0 : Int32) (xs1 : Int32) : Option (Int32) := (rec106 a0 x1 (xs1 + xs0) (x4 + 1))
def fX6_count_b106 (w : Wd) (rec106 : Nat → Int32 → Int32 → Int32 → Option (Int32)) (a0 : Nat) (x1 : Int32) (x3 : Int32) (x4 : Int32) : Option (Int32) := (if 24 ≤ x4 then (some x3) else (ckp (ix ((24 * x1) + x4) 192 = true) (if (zI w 6 a0 7 (((24 * x1) + x4) : Int32).toNatClampNeg) = 0 then (fX6_count_b134 w rec106 a0 x1 x4 0 x3) else (fX6_count_b134 w rec106 a0 x1 x4 1 x3))))
def fX6_count_l106 (w : Wd) : Nat → Nat → Int32 → Int32 → Int32 → Option (Int32)
  | 0, _, _, _, _ => none
  | n + 1, a0, x1, x3, x4 => fX6_count_b106 w (fX6_count_l106 w n) a0 x1 x3 x4
def fX6_count_b53 (w : Wd) (xs0 : Int32) : Option (Int32) := (some xs0)
def fX6_count (a0 : Nat) (x1 : Int32) (x2 : Int32) (w : Wd) : Option (Int32) := (if x1 = (-1) then (if x2 = 0 then (fX6_count_b53 w (zI w 6 a0 2 0)) else (if x2 = 1 then (fX6_count_b53 w (zI w 6 a0 1 0)) else (if x2 = 2 then (fX6_count_b53 w (zI w 6 a0 3 0)) else (if x2 = 3 then (fX6_count_b53 w (zI w 6 a0 4 0)) else (fX6_count_b53 w (-1)))))) else (bd (fX6_isPicture a0 x1 w) (fun y_3 => (if y_3 = 0 then (some (-1)) else (if x2 = 0 then (ckp (ix x1 8 = true) (some (zI w 6 a0 5 (x1 : Int32).toNatClampNeg))) else (if x2 = 1 then (fX6_count_l106 w 1000 a0 x1 0 0) else (if x2 = 2 then (fX6_count_l147 w 1000 a0 x1 0 0) else (if x2 = 3 then (bd (fX6_heldBy a0 x1 w) (fun y_14 => (fX6_count_l211 w 1000 0 y_14 0))) else (some (-1))))))))))
