def f_X5_everybody (p0 : Nat) (z : gS) : Option Int32 :=
  some (((nI 1) <<< ((z p0 0) &&& 31)) - (nI 1))
def f_X5_holds (p0 : Nat) (a1 : Int32) (z : gS) : Option Int32 :=
  if a1 < 0 then (some (nI 0)) else (if (z p0 0) ≤ a1 then (some (nI 0)) else (some (nI 1)))
def f_J6_bitCount_0f7a4 (a0 : Int32) (z : gS) : Option Int32 :=
  gl (a0 - (((a0.toUInt32 >>> ((nI 1).toUInt32 &&& Int32.toUInt32 31)).toInt32) &&& ((1431655765 : Int32)))) fun y1 => gl ((y1 &&& ((858993459 : Int32))) + (((y1.toUInt32 >>> ((nI 2).toUInt32 &&& Int32.toUInt32 31)).toInt32) &&& ((858993459 : Int32)))) fun y2 => gl ((y2 + ((y2.toUInt32 >>> ((nI 4).toUInt32 &&& Int32.toUInt32 31)).toInt32)) &&& ((252645135 : Int32))) fun y3 => gl (y3 + ((y3.toUInt32 >>> ((nI 8).toUInt32 &&& Int32.toUInt32 31)).toInt32)) fun y4 => gl (y4 + ((y4.toUInt32 >>> ((nI 16).toUInt32 &&& Int32.toUInt32 31)).toInt32)) fun y5 => some (y5 &&& (nI 63))
def f_X5_common (p0 : Nat) (a1 : Int32) (a2 : Int32) (z : gS) : Option Int32 :=
  gb (f_X5_holds p0 a1 z) fun q1 => if q1 = 0 then (some (nI 0)) else (gb (f_X5_holds p0 a2 z) fun q3 => if q3 = 0 then (some (nI 0)) else (gg a1 7 (gg a2 7 (gb (f_J6_bitCount_0f7a4 ((z (p0 + 2) a1.toNatClampNeg) &&& (z (p0 + 2) a2.toNatClampNeg)) z) fun q7 => some q7))))
def f_X0_bestFrom_6_b (p0 : Nat) (p1 : Nat) (z : gS) (x2 : Int32) (x3 : Int32) (K6 : Int32 → Int32 → Option Int32) (x4 : Int32) (x5 : Int32) : Option Int32 :=
  if (z p1 0) ≤ x5 then (some x4) else (if ((x2 >>> (x5 &&& 31)) &&& (nI 1)) = 0 then (gb (f_X5_common p1 x3 x5 z) fun q3 => gg (x2 ||| ((nI 1) <<< (x5 &&& 31))) 128 (gg x5 7 (gl (if x4 < (q3 + (z (p0 + 2 + 1 * (x2 ||| ((nI 1) <<< (x5 &&& 31))).toNatClampNeg) x5.toNatClampNeg)) then (q3 + (z (p0 + 2 + 1 * (x2 ||| ((nI 1) <<< (x5 &&& 31))).toNatClampNeg) x5.toNatClampNeg)) else x4) fun y6 => K6 y6 (x5 + (nI 1))))) else (K6 x4 (x5 + (nI 1))))
def f_X0_bestFrom_6 (p0 : Nat) (p1 : Nat) (z : gS) (x2 : Int32) (x3 : Int32) (n : Nat) (x4 : Int32) (x5 : Int32) : Option Int32 :=
  gfix (fun (rec : Int32 × Int32 → Option Int32) s => f_X0_bestFrom_6_b p0 p1 z x2 x3 (fun x4 x5 => rec (x4, x5)) (s.1) (s.2)) n (x4, x5)
def f_X0_bestFrom (p0 : Nat) (p1 : Nat) (a2 : Int32) (a3 : Int32) (z : gS) : Option Int32 :=
  f_X0_bestFrom_6 p0 p1 z a2 a3 gF (nI 0) (nI 0)
def f_X0_make_11_b (p0 : Nat) (p1 : Nat) (x2 : Int32) (K5 : Int32 → gS → Option gS) (K11 : Int32 → gS → Option gS) (x3 : Int32) (z : gS) : Option gS :=
  if (z p1 0) ≤ x3 then (K5 (x2 + gm1) z) else (gg x2 128 (gb (f_X0_bestFrom p0 p1 x2 x3 z) fun q10 => gg x3 7 (gl (gup z (p0 + 2 + 1 * x2.toNatClampNeg) x3.toNatClampNeg q10) fun z12 => K11 (x3 + (nI 1)) z12)))
def f_X0_make_11 (p0 : Nat) (p1 : Nat) (x2 : Int32) (K5 : Int32 → gS → Option gS) (n : Nat) (x3 : Int32) (z : gS) : Option gS :=
  gfix (fun (rec : Int32 × gS → Option gS) s => f_X0_make_11_b p0 p1 x2 K5 (fun x3 z => rec (x3, z)) (s.1) (s.2)) n (x3, z)
def f_X0_make_53_b (p0 : Nat) (p1 : Nat) (K53 : Int32 → gS → Option gS) (x2 : Int32) (z : gS) : Option gS :=
  if (z p1 0) ≤ x2 then (some z) else (gg ((nI 1) <<< (x2 &&& 31)) 128 (gg x2 7 (gl (gup z p0 1 (if (z p0 1) < (z (p0 + 2 + 1 * ((nI 1) <<< (x2 &&& 31)).toNatClampNeg) x2.toNatClampNeg) then (z (p0 + 2 + 1 * ((nI 1) <<< (x2 &&& 31)).toNatClampNeg) x2.toNatClampNeg) else (z p0 1))) fun z7 => K53 (x2 + (nI 1)) z7)))
def f_X0_make_53 (p0 : Nat) (p1 : Nat) (n : Nat) (x2 : Int32) (z : gS) : Option gS :=
  gfix (fun (rec : Int32 × gS → Option gS) s => f_X0_make_53_b p0 p1 (fun x2 z => rec (x2, z)) (s.1) (s.2)) n (x2, z)
def f_X0_make_5_b (p0 : Nat) (p1 : Nat) (K5 : Int32 → gS → Option gS) (x2 : Int32) (z : gS) : Option gS :=
  if x2 ≤ 0 then (gl (gup z p0 1 (nI 0)) fun z3 => f_X0_make_53 p0 p1 gF (nI 0) z3) else (f_X0_make_11 p0 p1 x2 K5 gF (nI 0) z)
def f_X0_make_5 (p0 : Nat) (p1 : Nat) (n : Nat) (x2 : Int32) (z : gS) : Option gS :=
  gfix (fun (rec : Int32 × gS → Option gS) s => f_X0_make_5_b p0 p1 (fun x2 z => rec (x2, z)) (s.1) (s.2)) n (x2, z)
def f_X0_make (p0 : Nat) (p1 : Nat) (z : gS) : Option gS :=
  gb (f_X5_everybody p1 z) fun q1 => f_X0_make_5 p0 p1 gF q1 z
def f_X0_firstOrder_28_b (p0 : Nat) (p1 : Nat) (z : gS) (x2 : Int32) (x3 : Int32) (x4 : Int32) (x5 : Int32) (x6 : Int32) (K16 : Int32 → Int32 → Int32 → Int32 → Int32 → Option Int32) (K28 : Int32 → Option Int32) (x7 : Int32) : Option Int32 :=
  if (z p1 0) ≤ x7 then (K16 x2 x3 x4 x5 (x6 + (nI 1))) else (gb (f_X5_common p1 x4 x7 z) fun q4 => if ((x3 >>> (x7 &&& 31)) &&& (nI 1)) = 0 then (gg (x3 ||| ((nI 1) <<< (x7 &&& 31))) 128 (gg x7 7 (if (q4 + (z (p0 + 2 + 1 * (x3 ||| ((nI 1) <<< (x7 &&& 31))).toNatClampNeg) x7.toNatClampNeg)) = x2 then (gl (x2 - q4) fun y9 => gl (x3 ||| ((nI 1) <<< (x7 &&& 31))) fun y10 => gl (((x5 * (nI 10)) + x7) + (nI 1)) fun y11 => K16 y9 y10 x7 y11 (x6 + (nI 1))) else (K28 (x7 + (nI 1)))))) else (K28 (x7 + (nI 1))))
def f_X0_firstOrder_28 (p0 : Nat) (p1 : Nat) (z : gS) (x2 : Int32) (x3 : Int32) (x4 : Int32) (x5 : Int32) (x6 : Int32) (K16 : Int32 → Int32 → Int32 → Int32 → Int32 → Option Int32) (n : Nat) (x7 : Int32) : Option Int32 :=
  gfix (fun (rec : Int32 → Option Int32) s => f_X0_firstOrder_28_b p0 p1 z x2 x3 x4 x5 x6 K16 (fun x7 => rec (x7)) s) n (x7)
def f_X0_firstOrder_16_b (p0 : Nat) (p1 : Nat) (z : gS) (K16 : Int32 → Int32 → Int32 → Int32 → Int32 → Option Int32) (x2 : Int32) (x3 : Int32) (x4 : Int32) (x5 : Int32) (x6 : Int32) : Option Int32 :=
  if (z p1 0) ≤ x6 then (some x5) else (f_X0_firstOrder_28 p0 p1 z x2 x3 x4 x5 x6 K16 gF (nI 0))
def f_X0_firstOrder_16 (p0 : Nat) (p1 : Nat) (z : gS) (n : Nat) (x2 : Int32) (x3 : Int32) (x4 : Int32) (x5 : Int32) (x6 : Int32) : Option Int32 :=
  gfix (fun (rec : Int32 × Int32 × Int32 × Int32 × Int32 → Option Int32) s => f_X0_firstOrder_16_b p0 p1 z (fun x2 x3 x4 x5 x6 => rec (x2, x3, x4, x5, x6)) (s.1) (s.2.1) (s.2.2.1) (s.2.2.2.1) (s.2.2.2.2)) n (x2, x3, x4, x5, x6)
def f_X0_firstOrder (p0 : Nat) (p1 : Nat) (z : gS) : Option Int32 :=
  gl (z p0 1) fun y1 => f_X0_firstOrder_16 p0 p1 z gF y1 (nI 0) gm1 (nI 0) (nI 0)
def f_X1_become_7_b (p0 : Nat) (K7 : Int32 → gS → Option gS) (x2 : Int32) (z : gS) : Option gS :=
  if (nI 30) ≤ x2 then (some z) else (gg x2 30 (gl (gup z (p0 + 1) x2.toNatClampNeg (nI 0)) fun z4 => K7 (x2 + (nI 1)) z4))
def f_X1_become_7 (p0 : Nat) (n : Nat) (x2 : Int32) (z : gS) : Option gS :=
  gfix (fun (rec : Int32 × gS → Option gS) s => f_X1_become_7_b p0 (fun x2 z => rec (x2, z)) (s.1) (s.2)) n (x2, z)
def f_X1_become (p0 : Nat) (a1 : Int32) (z : gS) : Option gS :=
  gl (gup z p0 0 a1) fun z1 => f_X1_become_7 p0 gF (nI 0) z1
def f_X1_isMissing (p0 : Nat) (z : gS) : Option Int32 :=
  if 0 ≤ (z p0 0) then (some (nI 0)) else (some (nI 1))
def f_X1_reaches (p0 : Nat) (a1 : Int32) (z : gS) : Option Int32 :=
  if a1 < 0 then (some (nI 0)) else (if (z p0 0) ≤ a1 then (some (nI 0)) else (some (nI 1)))
def f_X2_letter (a0 : Int32) (a1 : Int32) (z : gS) : Option Int32 :=
  if a1 < 0 then (some gm1) else (if a1 < (nI 6) then (gg a1 6 (gn (gWo a1.toNatClampNeg) (gl ((a0 / (gWo a1.toNatClampNeg)) - (a0 / (gWo a1.toNatClampNeg)) / (nI 27) * (nI 27)) fun y5 => if y5 = 0 then (some gm1) else (some (((nI 97) + y5) - (nI 1)))))) else (some gm1))
def f_X2_length_4_b (z : gS) (x0 : Int32) (K4 : Int32 → Int32 → Option Int32) (x1 : Int32) (x2 : Int32) : Option Int32 :=
  if (nI 6) ≤ x2 then (some x1) else (gb (f_X2_letter x0 x2 z) fun q2 => if q2 < 0 then (some x1) else (K4 (x1 + (nI 1)) (x2 + (nI 1))))
def f_X2_length_4 (z : gS) (x0 : Int32) (n : Nat) (x1 : Int32) (x2 : Int32) : Option Int32 :=
  gfix (fun (rec : Int32 × Int32 → Option Int32) s => f_X2_length_4_b z x0 (fun x1 x2 => rec (x1, x2)) (s.1) (s.2)) n (x1, x2)
def f_X2_length (a0 : Int32) (z : gS) : Option Int32 :=
  f_X2_length_4 z a0 gF (nI 0) (nI 0)
def f_J6_numberOfTrailingZeros_0f7a4_49 (x0 : Int32) (x1 : Int32) (z : gS) : Option Int32 :=
  if x0 ≤ (nI 16) then (if x0 ≤ (nI 4) then (some (x1 + ((x0.toUInt32 >>> ((nI 1).toUInt32 &&& Int32.toUInt32 31)).toInt32))) else (gl ((x0.toUInt32 >>> ((nI 2).toUInt32 &&& Int32.toUInt32 31)).toInt32) fun y11 => some ((x1 + (nI 2)) + ((y11.toUInt32 >>> ((nI 1).toUInt32 &&& Int32.toUInt32 31)).toInt32)))) else (gl ((x0.toUInt32 >>> ((nI 4).toUInt32 &&& Int32.toUInt32 31)).toInt32) fun y12 => if y12 ≤ (nI 4) then (some ((x1 + (nI 4)) + ((y12.toUInt32 >>> ((nI 1).toUInt32 &&& Int32.toUInt32 31)).toInt32))) else (gl ((y12.toUInt32 >>> ((nI 2).toUInt32 &&& Int32.toUInt32 31)).toInt32) fun y14 => some (((x1 + (nI 4)) + (nI 2)) + ((y14.toUInt32 >>> ((nI 1).toUInt32 &&& Int32.toUInt32 31)).toInt32))))
def f_J6_numberOfTrailingZeros_0f7a4 (a0 : Int32) (z : gS) : Option Int32 :=
  gl ((a0 ^^^ gm1) &&& (a0 - (nI 1))) fun y1 => if 0 < y1 then (if y1 ≤ ((65536 : Int32)) then (if y1 ≤ (nI 256) then (f_J6_numberOfTrailingZeros_0f7a4_49 y1 (nI 1) z) else (gl ((y1.toUInt32 >>> ((nI 8).toUInt32 &&& Int32.toUInt32 31)).toInt32) fun y5 => f_J6_numberOfTrailingZeros_0f7a4_49 y5 ((nI 1) + (nI 8)) z)) else (gl ((y1.toUInt32 >>> ((nI 16).toUInt32 &&& Int32.toUInt32 31)).toInt32) fun y6 => if y6 ≤ (nI 256) then (f_J6_numberOfTrailingZeros_0f7a4_49 y6 ((nI 1) + (nI 16)) z) else (gl ((y6.toUInt32 >>> ((nI 8).toUInt32 &&& Int32.toUInt32 31)).toInt32) fun y8 => f_J6_numberOfTrailingZeros_0f7a4_49 y8 (((nI 1) + (nI 16)) + (nI 8)) z))) else (some (y1 &&& (nI 32)))
def f_X3_mayFollow_53 (p0 : Nat) (x1 : Int32) (x2 : Int32) (x3 : Int32) (z : gS) : Option Int32 :=
  if (z p0 6) < 0 then (some (nI 1)) else (if x2 = (z p0 6) then (if (x1 ||| x3) = (z p0 4) then (if (nI 1) = (nI 1) then (some (nI 1)) else (some (nI 0))) else (if (nI 1) = (nI 0) then (some (nI 1)) else (some (nI 0)))) else (if (x1 ||| x3) = (z p0 4) then (if (nI 0) = (nI 1) then (some (nI 1)) else (some (nI 0))) else (if (nI 0) = (nI 0) then (some (nI 1)) else (some (nI 0)))))
def f_X3_mayFollow (p0 : Nat) (a1 : Int32) (a2 : Int32) (z : gS) : Option Int32 :=
  gl ((nI 1) <<< (a2 &&& 31)) fun y1 => if (((z p0 4) &&& (a1 ^^^ gm1)) &&& y1) = 0 then (some (nI 0)) else (if (z p0 5) < 0 then (f_X3_mayFollow_53 p0 a1 a2 y1 z) else (if a2 = (z p0 5) then (if a1 = 0 then (if (nI 1) = (nI 1) then (f_X3_mayFollow_53 p0 a1 a2 y1 z) else (some (nI 0))) else (if (nI 1) = (nI 0) then (f_X3_mayFollow_53 p0 a1 a2 y1 z) else (some (nI 0)))) else (if a1 = 0 then (if (nI 0) = (nI 1) then (f_X3_mayFollow_53 p0 a1 a2 y1 z) else (some (nI 0))) else (if (nI 0) = (nI 0) then (f_X3_mayFollow_53 p0 a1 a2 y1 z) else (some (nI 0))))))
def f_X3_toll (p0 : Nat) (a1 : Int32) (a2 : Int32) (z : gS) : Option Int32 :=
  gg a1 128 (gg (((z p0 4) &&& (a1 ^^^ gm1)) &&& (((nI 1) <<< (a2 &&& 31)) ^^^ gm1)) 128 (gg a2 7 (gb (f_J6_bitCount_0f7a4 (((z (p0 + 2) a1.toNatClampNeg) &&& (z (p0 + 2) (((z p0 4) &&& (a1 ^^^ gm1)) &&& (((nI 1) <<< (a2 &&& 31)) ^^^ gm1)).toNatClampNeg)) &&& ((z (p0 + 1) a2.toNatClampNeg) ^^^ gm1)) z) fun q4 => some q4)))
def f_X3_settle_33_b (p0 : Nat) (z : gS) (x1 : Int32) (K33 : Int32 → Int32 → Int32 → Option gS) (x2 : Int32) (x3 : Int32) (x4 : Int32) : Option gS :=
  if (nI 7) ≤ x4 then (gg x1 128 (gl (gup z (p0 + 3) x1.toNatClampNeg x2) fun z6 => gg x1 128 (gl (gup z6 (p0 + 4) x1.toNatClampNeg x3) fun z8 => some z8))) else (gb (f_X3_mayFollow p0 x1 x4 z) fun q9 => if q9 = 0 then (K33 x2 x3 (x4 + (nI 1))) else (gl (x1 ||| ((nI 1) <<< (x4 &&& 31))) fun y11 => gb (f_X3_toll p0 x1 x4 z) fun q12 => gg y11 128 (gl (q12 + (z (p0 + 3) y11.toNatClampNeg)) fun y14 => if x2 ≤ y14 then (if y14 = x2 then (gg y11 128 (gl (x3 + (z (p0 + 4) y11.toNatClampNeg)) fun y18 => K33 x2 y18 (x4 + (nI 1)))) else (K33 x2 x3 (x4 + (nI 1)))) else (if y14 = y14 then (gg y11 128 (gl ((nI 0) + (z (p0 + 4) y11.toNatClampNeg)) fun y21 => K33 y14 y21 (x4 + (nI 1)))) else (K33 y14 (nI 0) (x4 + (nI 1)))))))
def f_X3_settle_33 (p0 : Nat) (z : gS) (x1 : Int32) (n : Nat) (x2 : Int32) (x3 : Int32) (x4 : Int32) : Option gS :=
  gfix (fun (rec : Int32 × Int32 × Int32 → Option gS) s => f_X3_settle_33_b p0 z x1 (fun x2 x3 x4 => rec (x2, x3, x4)) (s.1) (s.2.1) (s.2.2)) n (x2, x3, x4)
def f_X3_settle (p0 : Nat) (a1 : Int32) (z : gS) : Option gS :=
  if a1 = (z p0 4) then (if a1 = (z p0 4) then (f_X3_settle_33 p0 z a1 gF (nI 0) (nI 1) (nI 0)) else (f_X3_settle_33 p0 z a1 gF (nI 0) (nI 0) (nI 0))) else (if a1 = (z p0 4) then (f_X3_settle_33 p0 z a1 gF (nI 1000) (nI 1) (nI 0)) else (f_X3_settle_33 p0 z a1 gF (nI 1000) (nI 0) (nI 0)))
def f_X3_make_116_b (p0 : Nat) (p1 : Nat) (K116 : Int32 → gS → Option gS) (x6 : Int32) (z : gS) : Option gS :=
  if x6 < 0 then (some z) else (if (x6 &&& ((z p0 4) ^^^ gm1)) = 0 then (gb (f_X3_settle p0 x6 z) fun q21 => K116 (x6 + gm1) q21) else (K116 (x6 + gm1) z))
def f_X3_make_116 (p0 : Nat) (p1 : Nat) (n : Nat) (x6 : Int32) (z : gS) : Option gS :=
  gfix (fun (rec : Int32 × gS → Option gS) s => f_X3_make_116_b p0 p1 (fun x6 z => rec (x6, z)) (s.1) (s.2)) n (x6, z)
def f_X3_make_65_b (p0 : Nat) (p1 : Nat) (K65 : Int32 → gS → Option gS) (x6 : Int32) (z : gS) : Option gS :=
  if (z p0 4) < x6 then (gl (z p0 4) fun y13 => f_X3_make_116 p0 p1 gF y13 z) else (gg (x6 &&& (x6 - (nI 1))) 128 (gb (f_J6_numberOfTrailingZeros_0f7a4 x6 z) fun q15 => gg q15 7 (gg x6 128 (gl (gup z (p0 + 2) x6.toNatClampNeg ((z (p0 + 2) (x6 &&& (x6 - (nI 1))).toNatClampNeg) ||| (z (p0 + 1) q15.toNatClampNeg))) fun z18 => K65 (x6 + (nI 1)) z18))))
def f_X3_make_65 (p0 : Nat) (p1 : Nat) (n : Nat) (x6 : Int32) (z : gS) : Option gS :=
  gfix (fun (rec : Int32 × gS → Option gS) s => f_X3_make_65_b p0 p1 (fun x6 z => rec (x6, z)) (s.1) (s.2)) n (x6, z)
def f_X3_make_20_b (p0 : Nat) (p1 : Nat) (x3 : Int32) (K20 : Int32 → gS → Option gS) (x6 : Int32) (z : gS) : Option gS :=
  if (nI 7) ≤ x6 then (f_X3_make_65 p0 p1 gF (nI 1) z) else (gb (f_X5_holds p1 x6 z) fun q5 => if q5 = 0 then (gg x6 7 (gl (gup z (p0 + 1) x6.toNatClampNeg (nI 0)) fun z8 => K20 (x6 + (nI 1)) z8)) else (gg x6 7 (gg x6 7 (gl (gup z (p0 + 1) x6.toNatClampNeg ((z (p1 + 2) x6.toNatClampNeg) &&& x3)) fun z11 => K20 (x6 + (nI 1)) z11))))
def f_X3_make_20 (p0 : Nat) (p1 : Nat) (x3 : Int32) (n : Nat) (x6 : Int32) (z : gS) : Option gS :=
  gfix (fun (rec : Int32 × gS → Option gS) s => f_X3_make_20_b p0 p1 x3 (fun x6 z => rec (x6, z)) (s.1) (s.2)) n (x6, z)
def f_X3_make (p0 : Nat) (p1 : Nat) (a2 : Int32) (a3 : Int32) (a4 : Int32) (a5 : Int32) (z : gS) : Option gS :=
  gl (gup z p0 4 a2) fun z1 => gl (gup z1 p0 5 a4) fun z2 => gl (gup z2 p0 6 a5) fun z3 => f_X3_make_20 p0 p1 a3 gF (nI 0) z3
def f_X3_isBest (p0 : Nat) (a1 : Int32) (a2 : Int32) (z : gS) : Option Int32 :=
  gb (f_X3_mayFollow p0 a1 a2 z) fun q1 => if q1 = 0 then (some (nI 0)) else (gb (f_X3_toll p0 a1 a2 z) fun q3 => gg (a1 ||| ((nI 1) <<< (a2 &&& 31))) 128 (gg a1 128 (if (q3 + (z (p0 + 3) (a1 ||| ((nI 1) <<< (a2 &&& 31))).toNatClampNeg)) = (z (p0 + 3) a1.toNatClampNeg) then (some (nI 1)) else (some (nI 0)))))
def f_X3_least (p0 : Nat) (z : gS) : Option Int32 :=
  gg (nI 0) 128 (some (z (p0 + 3) (nI 0).toNatClampNeg))
def f_X3_smoothOrders (p0 : Nat) (z : gS) : Option Int32 :=
  gg (nI 0) 128 (if (z (p0 + 3) (nI 0).toNatClampNeg) = 0 then (gg (nI 0) 128 (some (z (p0 + 4) (nI 0).toNatClampNeg))) else (some (nI 0)))
def f_X3_pick_24_b (p0 : Nat) (z : gS) (x3 : Int32) (x4 : Int32) (x5 : Int32) (K16 : Int32 → Int32 → Int32 → Int32 → Option Int32) (K24 : Int32 → Int32 → Option Int32) (x2 : Int32) (x6 : Int32) : Option Int32 :=
  if (nI 7) ≤ x6 then (K16 x2 x3 x4 (x5 + gm1)) else (gb (f_X3_isBest p0 x3 x6 z) fun q4 => if q4 = 0 then (K24 x2 (x6 + (nI 1))) else (gl (x3 ||| ((nI 1) <<< (x6 &&& 31))) fun y6 => gg y6 128 (if (z (p0 + 4) y6.toNatClampNeg) ≤ x2 then (gg y6 128 (gl (x2 - (z (p0 + 4) y6.toNatClampNeg)) fun y10 => K24 y10 (x6 + (nI 1)))) else (gl (((x4 * (nI 10)) + x6) + (nI 1)) fun y11 => K16 x2 y6 y11 (x5 + gm1)))))
def f_X3_pick_24 (p0 : Nat) (z : gS) (x3 : Int32) (x4 : Int32) (x5 : Int32) (K16 : Int32 → Int32 → Int32 → Int32 → Option Int32) (n : Nat) (x2 : Int32) (x6 : Int32) : Option Int32 :=
  gfix (fun (rec : Int32 × Int32 → Option Int32) s => f_X3_pick_24_b p0 z x3 x4 x5 K16 (fun x2 x6 => rec (x2, x6)) (s.1) (s.2)) n (x2, x6)
def f_X3_pick_16_b (p0 : Nat) (z : gS) (K16 : Int32 → Int32 → Int32 → Int32 → Option Int32) (x2 : Int32) (x3 : Int32) (x4 : Int32) (x5 : Int32) : Option Int32 :=
  if x5 ≤ 0 then (some x4) else (f_X3_pick_24 p0 z x3 x4 x5 K16 gF x2 (nI 0))
def f_X3_pick_16 (p0 : Nat) (z : gS) (n : Nat) (x2 : Int32) (x3 : Int32) (x4 : Int32) (x5 : Int32) : Option Int32 :=
  gfix (fun (rec : Int32 × Int32 × Int32 × Int32 → Option Int32) s => f_X3_pick_16_b p0 z (fun x2 x3 x4 x5 => rec (x2, x3, x4, x5)) (s.1) (s.2.1) (s.2.2.1) (s.2.2.2)) n (x2, x3, x4, x5)
def f_X3_pick (p0 : Nat) (a1 : Int32) (z : gS) : Option Int32 :=
  gb (f_J6_bitCount_0f7a4 (z p0 4) z) fun q1 => f_X3_pick_16 p0 z gF a1 (nI 0) (nI 0) q1
def f_X3_ahead_33_b (p0 : Nat) (p1 n1 : Nat) (z : gS) (x2 : Int32) (x4 : Int32) (x5 : Int32) (K8 : Int32 → Int32 → Int32 → Option Int32) (K33 : Int32 → Int32 → Option Int32) (x3 : Int32) (x6 : Int32) : Option Int32 :=
  gg x5 n1 (if (z p1 x5.toNatClampNeg) ≤ x6 then (gg x5 n1 (gb (f_X3_isBest p0 x4 (z p1 x5.toNatClampNeg) z) fun q8 => if q8 = 0 then (some x3) else (gg x5 n1 (gl (x4 ||| ((nI 1) <<< ((z p1 x5.toNatClampNeg) &&& 31))) fun y11 => K8 x3 y11 (x5 + (nI 1)))))) else (gb (f_X3_isBest p0 x4 x6 z) fun q12 => if q12 = 0 then (K33 x3 (x6 + (nI 1))) else (gg (x4 ||| ((nI 1) <<< (x6 &&& 31))) 128 (gl (x3 + (z (p0 + 4) (x4 ||| ((nI 1) <<< (x6 &&& 31))).toNatClampNeg)) fun y15 => K33 y15 (x6 + (nI 1))))))
def f_X3_ahead_33 (p0 : Nat) (p1 n1 : Nat) (z : gS) (x2 : Int32) (x4 : Int32) (x5 : Int32) (K8 : Int32 → Int32 → Int32 → Option Int32) (n : Nat) (x3 : Int32) (x6 : Int32) : Option Int32 :=
  gfix (fun (rec : Int32 × Int32 → Option Int32) s => f_X3_ahead_33_b p0 p1 n1 z x2 x4 x5 K8 (fun x3 x6 => rec (x3, x6)) (s.1) (s.2)) n (x3, x6)
def f_X3_ahead_8_b (p0 : Nat) (p1 n1 : Nat) (z : gS) (x2 : Int32) (K8 : Int32 → Int32 → Int32 → Option Int32) (x3 : Int32) (x4 : Int32) (x5 : Int32) : Option Int32 :=
  if x2 ≤ x5 then (some x3) else (if (Int32.ofNat n1) ≤ x5 then (some x3) else (gg (nI 0) 128 (if (z (p0 + 3) (nI 0).toNatClampNeg) = 0 then (f_X3_ahead_33 p0 p1 n1 z x2 x4 x5 K8 gF x3 (nI 0)) else (some x3))))
def f_X3_ahead_8 (p0 : Nat) (p1 n1 : Nat) (z : gS) (x2 : Int32) (n : Nat) (x3 : Int32) (x4 : Int32) (x5 : Int32) : Option Int32 :=
  gfix (fun (rec : Int32 × Int32 × Int32 → Option Int32) s => f_X3_ahead_8_b p0 p1 n1 z x2 (fun x3 x4 x5 => rec (x3, x4, x5)) (s.1) (s.2.1) (s.2.2)) n (x3, x4, x5)
def f_X3_ahead (p0 : Nat) (p1 n1 : Nat) (a2 : Int32) (z : gS) : Option Int32 :=
  f_X3_ahead_8 p0 p1 n1 z a2 gF (nI 0) (nI 0) (nI 0)
def f_X4_append (p0 : Nat) (a1 : Int32) (z : gS) : Option gS :=
  if (nI 420) ≤ (z p0 1) then (some z) else (gg (z p0 1) 420 (gl (gup z (p0 + 1) (z p0 1).toNatClampNeg a1) fun z3 => gl (gup z3 p0 1 ((z3 p0 1) + (nI 1))) fun z4 => some z4))
def f_X4_writeAge_17 (p0 : Nat) (x1 : Int32) (z : gS) : Option gS :=
  if x1 ≤ (nI 9) then (gb (f_X4_append p0 ((nI 48) + (x1 - x1 / (nI 10) * (nI 10))) z) fun q4 => some q4) else (gb (f_X4_append p0 ((nI 48) + ((x1 / (nI 10)) - (x1 / (nI 10)) / (nI 10) * (nI 10))) z) fun q5 => gb (f_X4_append p0 ((nI 48) + (x1 - x1 / (nI 10) * (nI 10))) q5) fun q6 => some q6)
def f_X4_writeAge (p0 : Nat) (a1 : Int32) (z : gS) : Option gS :=
  if a1 ≤ (nI 99) then (f_X4_writeAge_17 p0 a1 z) else (gb (f_X4_append p0 ((nI 48) + (a1 / (nI 100))) z) fun q2 => f_X4_writeAge_17 p0 a1 q2)
def f_X5_owns (p0 : Nat) (a1 : Int32) (a2 : Int32) (z : gS) : Option Int32 :=
  gb (f_X5_holds p0 a1 z) fun q1 => if q1 = 0 then (some (nI 0)) else (gg a1 7 (if (((z (p0 + 2) a1.toNatClampNeg) >>> (a2 &&& 31)) &&& (nI 1)) = 0 then (some (nI 0)) else (some (nI 1))))
def f_X5_typeBehind_5_b (p0 : Nat) (z : gS) (x1 : Int32) (x2 : Int32) (K5 : Int32 → Int32 → Option Int32) (x3 : Int32) (x4 : Int32) : Option Int32 :=
  if (z p0 1) ≤ x4 then (some x3) else (gb (f_X5_owns p0 x1 x4 z) fun q2 => if q2 = 0 then (K5 x3 (x4 + (nI 1))) else (gg x4 8 (if (z (p0 + 3) x4.toNatClampNeg) ≤ x2 then (K5 x3 (x4 + (nI 1))) else (if x3 < 0 then (K5 x4 (x4 + (nI 1))) else (gg x4 8 (gg x3 8 (if (z (p0 + 3) x3.toNatClampNeg) ≤ (z (p0 + 3) x4.toNatClampNeg) then (K5 x3 (x4 + (nI 1))) else (K5 x4 (x4 + (nI 1))))))))))
def f_X5_typeBehind_5 (p0 : Nat) (z : gS) (x1 : Int32) (x2 : Int32) (n : Nat) (x3 : Int32) (x4 : Int32) : Option Int32 :=
  gfix (fun (rec : Int32 × Int32 → Option Int32) s => f_X5_typeBehind_5_b p0 z x1 x2 (fun x3 x4 => rec (x3, x4)) (s.1) (s.2)) n (x3, x4)
def f_X5_typeBehind (p0 : Nat) (a1 : Int32) (a2 : Int32) (z : gS) : Option Int32 :=
  f_X5_typeBehind_5 p0 z a1 a2 gF gm1 (nI 0)
def f_X4_writeNames_50_b (p0 : Nat) (p1 : Nat) (x2 : Int32) (x4 : Int32) (x5 : Int32) (x6 : Int32) (K10 : Int32 → Int32 → gS → Option gS) (K50 : Int32 → gS → Option gS) (x7 : Int32) (z : gS) : Option gS :=
  if x6 ≤ x7 then (gb (f_X5_typeBehind p1 x2 x5 z) fun q13 => K10 q13 (x4 + (nI 1)) z) else (gb (f_X2_letter x5 x7 z) fun q14 => gb (f_X4_append p0 q14 z) fun q15 => K50 (x7 + (nI 1)) q15)
def f_X4_writeNames_50 (p0 : Nat) (p1 : Nat) (x2 : Int32) (x4 : Int32) (x5 : Int32) (x6 : Int32) (K10 : Int32 → Int32 → gS → Option gS) (n : Nat) (x7 : Int32) (z : gS) : Option gS :=
  gfix (fun (rec : Int32 × gS → Option gS) s => f_X4_writeNames_50_b p0 p1 x2 x4 x5 x6 K10 (fun x7 z => rec (x7, z)) (s.1) (s.2)) n (x7, z)
def f_X4_writeNames_10_b (p0 : Nat) (p1 : Nat) (x2 : Int32) (K10 : Int32 → Int32 → gS → Option gS) (x3 : Int32) (x4 : Int32) (z : gS) : Option gS :=
  if (nI 8) ≤ x4 then (some z) else (if x3 < 0 then (some z) else (if x4 ≤ 0 then (gg x3 8 (gl (z (p1 + 3) x3.toNatClampNeg) fun y6 => gb (f_X2_length y6 z) fun q7 => f_X4_writeNames_50 p0 p1 x2 x4 y6 q7 K10 gF (nI 0) z)) else (gb (f_X4_append p0 (nI 44) z) fun q8 => gg x3 8 (gl (q8 (p1 + 3) x3.toNatClampNeg) fun y10 => gb (f_X2_length y10 q8) fun q11 => f_X4_writeNames_50 p0 p1 x2 x4 y10 q11 K10 gF (nI 0) q8))))
def f_X4_writeNames_10 (p0 : Nat) (p1 : Nat) (x2 : Int32) (n : Nat) (x3 : Int32) (x4 : Int32) (z : gS) : Option gS :=
  gfix (fun (rec : Int32 × Int32 × gS → Option gS) s => f_X4_writeNames_10_b p0 p1 x2 (fun x3 x4 z => rec (x3, x4, z)) (s.1) (s.2.1) (s.2.2)) n (x3, x4, z)
def f_X4_writeNames (p0 : Nat) (p1 : Nat) (a2 : Int32) (z : gS) : Option gS :=
  gb (f_X5_typeBehind p1 a2 (nI 0) z) fun q1 => f_X4_writeNames_10 p0 p1 a2 gF q1 (nI 0) z
def f_X4_write_7_b (p0 : Nat) (p1 : Nat) (K7 : Int32 → gS → Option gS) (x2 : Int32) (z : gS) : Option gS :=
  if (z p1 0) ≤ x2 then (some z) else (if x2 ≤ 0 then (gg x2 7 (gb (f_X4_writeAge p0 (z (p1 + 1) x2.toNatClampNeg) z) fun q5 => gb (f_X4_append p0 (nI 58) q5) fun q6 => gb (f_X4_writeNames p0 p1 x2 q6) fun q7 => K7 (x2 + (nI 1)) q7)) else (gb (f_X4_append p0 (nI 59) z) fun q8 => gg x2 7 (gb (f_X4_writeAge p0 (q8 (p1 + 1) x2.toNatClampNeg) q8) fun q10 => gb (f_X4_append p0 (nI 58) q10) fun q11 => gb (f_X4_writeNames p0 p1 x2 q11) fun q12 => K7 (x2 + (nI 1)) q12)))
def f_X4_write_7 (p0 : Nat) (p1 : Nat) (n : Nat) (x2 : Int32) (z : gS) : Option gS :=
  gfix (fun (rec : Int32 × gS → Option gS) s => f_X4_write_7_b p0 p1 (fun x2 z => rec (x2, z)) (s.1) (s.2)) n (x2, z)
def f_X4_write (p0 : Nat) (p1 : Nat) (z : gS) : Option gS :=
  gl (gup z p0 1 (nI 0)) fun z1 => f_X4_write_7 p0 p1 gF (nI 0) z1
def f_X5_become (p0 : Nat) (p1 : Nat) (z : gS) : Option gS :=
  gl (gup z p0 0 (z p1 0)) fun z1 => gl (gup z1 p0 1 (z1 p1 1)) fun z2 => gc (nI 0) (nI 0) (nI 7) 7 7 (gl (gcp z2 (p1 + 1) (p0 + 1) (nI 0).toNatClampNeg (nI 0).toNatClampNeg (nI 7).toNatClampNeg) fun z4 => gc (nI 0) (nI 0) (nI 7) 7 7 (gl (gcp z4 (p1 + 2) (p0 + 2) (nI 0).toNatClampNeg (nI 0).toNatClampNeg (nI 7).toNatClampNeg) fun z6 => gc (nI 0) (nI 0) (nI 8) 8 8 (gl (gcp z6 (p1 + 3) (p0 + 3) (nI 0).toNatClampNeg (nI 0).toNatClampNeg (nI 8).toNatClampNeg) fun z8 => some z8)))
def f_X5_knows (p0 : Nat) (a1 : Int32) (z : gS) : Option Int32 :=
  if a1 < 0 then (some (nI 0)) else (if (z p0 1) ≤ a1 then (some (nI 0)) else (some (nI 1)))
def f_X5_everything (p0 : Nat) (z : gS) : Option Int32 :=
  some (((nI 1) <<< ((z p0 1) &&& 31)) - (nI 1))
def f_X5_dig (p0 : Nat) (a1 : Int32) (z : gS) : Option (Int32 × gS) :=
  if (z p0 0) < (nI 7) then (gg (z p0 0) 7 (gl (gup z (p0 + 1) (z p0 0).toNatClampNeg a1) fun z3 => gg (z3 p0 0) 7 (gl (gup z3 (p0 + 2) (z3 p0 0).toNatClampNeg (nI 0)) fun z5 => gl (gup z5 p0 0 ((z5 p0 0) + (nI 1))) fun z6 => some (z5 p0 0, z6)))) else (some (gm1, z))
def f_X5_remove_2_b (p0 : Nat) (K2 : Int32 → gS → Option gS) (x2 : Int32) (z : gS) : Option gS :=
  if (z p0 0) ≤ (x2 + (nI 1)) then (gl (gup z p0 0 ((z p0 0) - (nI 1))) fun z2 => some z2) else (gg (x2 + (nI 1)) 7 (gg x2 7 (gl (gup z (p0 + 1) x2.toNatClampNeg (z (p0 + 1) (x2 + (nI 1)).toNatClampNeg)) fun z5 => gg (x2 + (nI 1)) 7 (gg x2 7 (gl (gup z5 (p0 + 2) x2.toNatClampNeg (z5 (p0 + 2) (x2 + (nI 1)).toNatClampNeg)) fun z8 => K2 (x2 + (nI 1)) z8)))))
def f_X5_remove_2 (p0 : Nat) (n : Nat) (x2 : Int32) (z : gS) : Option gS :=
  gfix (fun (rec : Int32 × gS → Option gS) s => f_X5_remove_2_b p0 (fun x2 z => rec (x2, z)) (s.1) (s.2)) n (x2, z)
def f_X5_remove (p0 : Nat) (a1 : Int32) (z : gS) : Option gS :=
  f_X5_remove_2 p0 gF a1 z
def f_X5_named_2_b (p0 : Nat) (z : gS) (x1 : Int32) (K2 : Int32 → Option (Int32 × gS)) (x2 : Int32) : Option (Int32 × gS) :=
  if (z p0 1) ≤ x2 then (if (z p0 1) < (nI 8) then (gg (z p0 1) 8 (gl (gup z (p0 + 3) (z p0 1).toNatClampNeg x1) fun z4 => gl (gup z4 p0 1 ((z4 p0 1) + (nI 1))) fun z5 => some (z4 p0 1, z5))) else (some (gm1, z))) else (gg x2 8 (if (z (p0 + 3) x2.toNatClampNeg) = x1 then (some (x2, z)) else (K2 (x2 + (nI 1)))))
def f_X5_named_2 (p0 : Nat) (z : gS) (x1 : Int32) (n : Nat) (x2 : Int32) : Option (Int32 × gS) :=
  gfix (fun (rec : Int32 → Option (Int32 × gS)) s => f_X5_named_2_b p0 z x1 (fun x2 => rec (x2)) s) n (x2)
def f_X5_named (p0 : Nat) (a1 : Int32) (z : gS) : Option (Int32 × gS) :=
  f_X5_named_2 p0 z a1 gF (nI 0)
def f_X5_mark (p0 : Nat) (a1 : Int32) (a2 : Int32) (a3 : Int32) (z : gS) : Option (Int32 × gS) :=
  gb (f_X5_holds p0 a1 z) fun q1 => if q1 = 0 then (some ((nI 0), z)) else (gb (f_X5_knows p0 a2 z) fun q3 => if q3 = 0 then (some ((nI 0), z)) else (if a3 = 0 then (gg a1 7 (gg a1 7 (gl (gup z (p0 + 2) a1.toNatClampNeg ((z (p0 + 2) a1.toNatClampNeg) &&& (((nI 1) <<< (a2 &&& 31)) ^^^ gm1))) fun z8 => some ((nI 1), z8)))) else (gg a1 7 (gg a1 7 (gl (gup z (p0 + 2) a1.toNatClampNeg ((z (p0 + 2) a1.toNatClampNeg) ||| ((nI 1) <<< (a2 &&& 31)))) fun z11 => some ((nI 1), z11))))))
def f_X5_owners_4_b (p0 : Nat) (z : gS) (x1 : Int32) (K4 : Int32 → Int32 → Option Int32) (x2 : Int32) (x3 : Int32) : Option Int32 :=
  if (z p0 0) ≤ x3 then (some x2) else (gb (f_X5_owns p0 x3 x1 z) fun q2 => if q2 = 0 then (K4 x2 (x3 + (nI 1))) else (gl (x2 ||| ((nI 1) <<< (x3 &&& 31))) fun y4 => K4 y4 (x3 + (nI 1))))
def f_X5_owners_4 (p0 : Nat) (z : gS) (x1 : Int32) (n : Nat) (x2 : Int32) (x3 : Int32) : Option Int32 :=
  gfix (fun (rec : Int32 × Int32 → Option Int32) s => f_X5_owners_4_b p0 z x1 (fun x2 x3 => rec (x2, x3)) (s.1) (s.2)) n (x2, x3)
def f_X5_owners (p0 : Nat) (a1 : Int32) (z : gS) : Option Int32 :=
  f_X5_owners_4 p0 z a1 gF (nI 0) (nI 0)
def f_X5_peers_4_b (p0 : Nat) (z : gS) (x1 : Int32) (K4 : Int32 → Int32 → Option Int32) (x2 : Int32) (x3 : Int32) : Option Int32 :=
  if (z p0 0) ≤ x3 then (some x2) else (gg x3 7 (gg x1 7 (if (z (p0 + 2) x3.toNatClampNeg) = (z (p0 + 2) x1.toNatClampNeg) then (gg x3 7 (gg x1 7 (if ((z (p0 + 1) x3.toNatClampNeg) - (z (p0 + 1) x3.toNatClampNeg) / (nI 100) * (nI 100)) = ((z (p0 + 1) x1.toNatClampNeg) - (z (p0 + 1) x1.toNatClampNeg) / (nI 100) * (nI 100)) then (K4 (x2 + (nI 1)) (x3 + (nI 1))) else (K4 x2 (x3 + (nI 1)))))) else (K4 x2 (x3 + (nI 1))))))
def f_X5_peers_4 (p0 : Nat) (z : gS) (x1 : Int32) (n : Nat) (x2 : Int32) (x3 : Int32) : Option Int32 :=
  gfix (fun (rec : Int32 × Int32 → Option Int32) s => f_X5_peers_4_b p0 z x1 (fun x2 x3 => rec (x2, x3)) (s.1) (s.2)) n (x2, x3)
def f_X5_peers (p0 : Nat) (a1 : Int32) (z : gS) : Option Int32 :=
  f_X5_peers_4 p0 z a1 gF (nI 0) (nI 0)
def f_X5_friends_4_b (p0 : Nat) (z : gS) (x1 : Int32) (K4 : Int32 → Int32 → Option Int32) (x2 : Int32) (x3 : Int32) : Option Int32 :=
  if (z p0 0) ≤ x3 then (some x2) else (if x3 = x1 then (K4 x2 (x3 + (nI 1))) else (gb (f_X5_common p0 x3 x1 z) fun q3 => if q3 ≤ 0 then (K4 x2 (x3 + (nI 1))) else (K4 (x2 + (nI 1)) (x3 + (nI 1)))))
def f_X5_friends_4 (p0 : Nat) (z : gS) (x1 : Int32) (n : Nat) (x2 : Int32) (x3 : Int32) : Option Int32 :=
  gfix (fun (rec : Int32 × Int32 → Option Int32) s => f_X5_friends_4_b p0 z x1 (fun x2 x3 => rec (x2, x3)) (s.1) (s.2)) n (x2, x3)
def f_X5_friends (p0 : Nat) (a1 : Int32) (z : gS) : Option Int32 :=
  f_X5_friends_4 p0 z a1 gF (nI 0) (nI 0)
def f_X5_bare_4_b (p0 : Nat) (z : gS) (K4 : Int32 → Int32 → Option Int32) (x1 : Int32) (x2 : Int32) : Option Int32 :=
  if (z p0 0) ≤ x2 then (some x1) else (gg x2 7 (if (z (p0 + 2) x2.toNatClampNeg) = 0 then (K4 (x1 + (nI 1)) (x2 + (nI 1))) else (K4 x1 (x2 + (nI 1)))))
def f_X5_bare_4 (p0 : Nat) (z : gS) (n : Nat) (x1 : Int32) (x2 : Int32) : Option Int32 :=
  gfix (fun (rec : Int32 × Int32 → Option Int32) s => f_X5_bare_4_b p0 z (fun x1 x2 => rec (x1, x2)) (s.1) (s.2)) n (x1, x2)
def f_X5_bare (p0 : Nat) (z : gS) : Option Int32 :=
  f_X5_bare_4 p0 z gF (nI 0) (nI 0)
def f_X5_sharesWithin_2_b (p0 : Nat) (z : gS) (x1 : Int32) (x2 : Int32) (K2 : Int32 → Option Int32) (x3 : Int32) : Option Int32 :=
  if (z p0 0) ≤ x3 then (some (nI 0)) else (if ((x2 >>> (x3 &&& 31)) &&& (nI 1)) = 0 then (K2 (x3 + (nI 1))) else (gb (f_X5_common p0 x1 x3 z) fun q3 => if q3 ≤ 0 then (K2 (x3 + (nI 1))) else (some (nI 1))))
def f_X5_sharesWithin_2 (p0 : Nat) (z : gS) (x1 : Int32) (x2 : Int32) (n : Nat) (x3 : Int32) : Option Int32 :=
  gfix (fun (rec : Int32 → Option Int32) s => f_X5_sharesWithin_2_b p0 z x1 x2 (fun x3 => rec (x3)) s) n (x3)
def f_X5_sharesWithin (p0 : Nat) (a1 : Int32) (a2 : Int32) (z : gS) : Option Int32 :=
  f_X5_sharesWithin_2 p0 z a1 a2 gF (nI 0)
def f_X5_partOf_17_b (p0 : Nat) (z : gS) (x3 : Int32) (K6 : Int32 → Int32 → Option Int32) (K17 : Int32 → Int32 → Option Int32) (x2 : Int32) (x4 : Int32) : Option Int32 :=
  if (z p0 0) ≤ x4 then (K6 x2 (x3 + (nI 1))) else (gb (f_X5_sharesWithin p0 x4 x2 z) fun q4 => if q4 = 0 then (K17 x2 (x4 + (nI 1))) else (gl (x2 ||| ((nI 1) <<< (x4 &&& 31))) fun y6 => K17 y6 (x4 + (nI 1))))
def f_X5_partOf_17 (p0 : Nat) (z : gS) (x3 : Int32) (K6 : Int32 → Int32 → Option Int32) (n : Nat) (x2 : Int32) (x4 : Int32) : Option Int32 :=
  gfix (fun (rec : Int32 × Int32 → Option Int32) s => f_X5_partOf_17_b p0 z x3 K6 (fun x2 x4 => rec (x2, x4)) (s.1) (s.2)) n (x2, x4)
def f_X5_partOf_6_b (p0 : Nat) (z : gS) (K6 : Int32 → Int32 → Option Int32) (x2 : Int32) (x3 : Int32) : Option Int32 :=
  if (z p0 0) ≤ x3 then (some x2) else (f_X5_partOf_17 p0 z x3 K6 gF x2 (nI 0))
def f_X5_partOf_6 (p0 : Nat) (z : gS) (n : Nat) (x2 : Int32) (x3 : Int32) : Option Int32 :=
  gfix (fun (rec : Int32 × Int32 → Option Int32) s => f_X5_partOf_6_b p0 z (fun x2 x3 => rec (x2, x3)) (s.1) (s.2)) n (x2, x3)
def f_X5_partOf (p0 : Nat) (a1 : Int32) (z : gS) : Option Int32 :=
  gl ((nI 1) <<< (a1 &&& 31)) fun y1 => f_X5_partOf_6 p0 z gF y1 (nI 0)
def f_X5_parts_6_b (p0 : Nat) (z : gS) (K6 : Int32 → Int32 → Int32 → Option Int32) (x1 : Int32) (x2 : Int32) (x3 : Int32) : Option Int32 :=
  if (z p0 0) ≤ x3 then (some x2) else (if ((x1 >>> (x3 &&& 31)) &&& (nI 1)) = 0 then (gb (f_X5_partOf p0 x3 z) fun q3 => gl (x1 ||| q3) fun y4 => K6 y4 (x2 + (nI 1)) (x3 + (nI 1))) else (K6 x1 x2 (x3 + (nI 1))))
def f_X5_parts_6 (p0 : Nat) (z : gS) (n : Nat) (x1 : Int32) (x2 : Int32) (x3 : Int32) : Option Int32 :=
  gfix (fun (rec : Int32 × Int32 × Int32 → Option Int32) s => f_X5_parts_6_b p0 z (fun x1 x2 x3 => rec (x1, x2, x3)) (s.1) (s.2.1) (s.2.2)) n (x1, x2, x3)
def f_X5_parts (p0 : Nat) (z : gS) : Option Int32 :=
  f_X5_parts_6 p0 z gF (nI 0) (nI 0) (nI 0)
def f_X5_isNearer (p0 : Nat) (a1 : Int32) (a2 : Int32) (a3 : Int32) (z : gS) : Option Int32 :=
  gb (f_X5_common p0 a1 a3 z) fun q1 => gb (f_X5_common p0 a2 a3 z) fun q2 => gl (q1 - q2) fun y3 => if 0 < y3 then (some (nI 1)) else (if y3 = 0 then (gg a1 7 (gg a2 7 (if (z (p0 + 1) a2.toNatClampNeg) ≤ (z (p0 + 1) a1.toNatClampNeg) then (some (nI 0)) else (some (nI 1))))) else (some (nI 0)))
def f_X5_nearest_5_b (p0 : Nat) (z : gS) (x1 : Int32) (x2 : Int32) (K5 : Int32 → Int32 → Option Int32) (x3 : Int32) (x4 : Int32) : Option Int32 :=
  if (z p0 0) ≤ x4 then (some x3) else (if ((x2 >>> (x4 &&& 31)) &&& (nI 1)) = 0 then (if x3 < 0 then (K5 x4 (x4 + (nI 1))) else (gb (f_X5_isNearer p0 x4 x3 x1 z) fun q4 => if q4 = 0 then (K5 x3 (x4 + (nI 1))) else (K5 x4 (x4 + (nI 1))))) else (K5 x3 (x4 + (nI 1))))
def f_X5_nearest_5 (p0 : Nat) (z : gS) (x1 : Int32) (x2 : Int32) (n : Nat) (x3 : Int32) (x4 : Int32) : Option Int32 :=
  gfix (fun (rec : Int32 × Int32 → Option Int32) s => f_X5_nearest_5_b p0 z x1 x2 (fun x3 x4 => rec (x3, x4)) (s.1) (s.2)) n (x3, x4)
def f_X5_nearest (p0 : Nat) (a1 : Int32) (a2 : Int32) (z : gS) : Option Int32 :=
  f_X5_nearest_5 p0 z a1 a2 gF gm1 (nI 0)
def f_X5_weight (p0 : Nat) (a1 : Int32) (a2 : Int32) (z : gS) : Option Int32 :=
  if a2 = (nI 0) then (gg a1 7 (some (-(z (p0 + 1) a1.toNatClampNeg)))) else if a2 = (nI 1) then (gg a1 7 (gb (f_J6_bitCount_0f7a4 (z (p0 + 2) a1.toNatClampNeg) z) fun q5 => some q5)) else if a2 = (nI 2) then (gb (f_X5_friends p0 a1 z) fun q7 => some q7) else (gg a1 7 (some (-(z (p0 + 2) a1.toNatClampNeg))))
def f_X5_foremost_8_b (p0 : Nat) (z : gS) (x1 : Int32) (x2 : Int32) (K8 : Int32 → Int32 → Int32 → Option Int32) (x3 : Int32) (x4 : Int32) (x5 : Int32) : Option Int32 :=
  if (z p0 0) ≤ x5 then (some x3) else (if ((x2 >>> (x5 &&& 31)) &&& (nI 1)) = 0 then (gb (f_X5_weight p0 x5 x1 z) fun q3 => if x3 < 0 then (K8 x5 q3 (x5 + (nI 1))) else (if q3 ≤ x4 then (K8 x3 x4 (x5 + (nI 1))) else (K8 x5 q3 (x5 + (nI 1))))) else (K8 x3 x4 (x5 + (nI 1))))
def f_X5_foremost_8 (p0 : Nat) (z : gS) (x1 : Int32) (x2 : Int32) (n : Nat) (x3 : Int32) (x4 : Int32) (x5 : Int32) : Option Int32 :=
  gfix (fun (rec : Int32 × Int32 × Int32 → Option Int32) s => f_X5_foremost_8_b p0 z x1 x2 (fun x3 x4 x5 => rec (x3, x4, x5)) (s.1) (s.2.1) (s.2.2)) n (x3, x4, x5)
def f_X5_foremost (p0 : Nat) (a1 : Int32) (a2 : Int32) (z : gS) : Option Int32 :=
  f_X5_foremost_8 p0 z a1 a2 gF gm1 (nI 0) (nI 0)
def f_X6_settle_86_b (p0 : Nat) (p1 : Nat) (x2 : Int32) (x3 : Nat) (x4 : Int32) (x5 : Int32) (x6 : Nat) (K43 : Int32 → gS → Option gS) (K86 : Int32 → gS → Option gS) (x7 : Int32) (z : gS) : Option gS :=
  if (nI 40) < x7 then (K43 (x4 + (nI 1)) z) else (gg x7 41 (gg (x7 - x5) 41 (gg x7 41 (gl (gup z x3 x7.toNatClampNeg ((z x3 x7.toNatClampNeg) + (z x6 (x7 - x5).toNatClampNeg))) fun z17 => K86 (x7 + (nI 1)) z17))))
def f_X6_settle_86 (p0 : Nat) (p1 : Nat) (x2 : Int32) (x3 : Nat) (x4 : Int32) (x5 : Int32) (x6 : Nat) (K43 : Int32 → gS → Option gS) (n : Nat) (x7 : Int32) (z : gS) : Option gS :=
  gfix (fun (rec : Int32 × gS → Option gS) s => f_X6_settle_86_b p0 p1 x2 x3 x4 x5 x6 K43 (fun x7 z => rec (x7, z)) (s.1) (s.2)) n (x7, z)
def f_X6_settle_43_b (p0 : Nat) (p1 : Nat) (x2 : Int32) (x3 : Nat) (K43 : Int32 → gS → Option gS) (x4 : Int32) (z : gS) : Option gS :=
  if (nI 7) ≤ x4 then (some z) else (gb (f_X3_mayFollow p1 x2 x4 z) fun q9 => if q9 = 0 then (K43 (x4 + (nI 1)) z) else (gb (f_X3_toll p1 x2 x4 z) fun q11 => gg (x2 ||| ((nI 1) <<< (x4 &&& 31))) 128 (f_X6_settle_86 p0 p1 x2 x3 x4 q11 (p0 + 2 + 1 * (x2 ||| ((nI 1) <<< (x4 &&& 31))).toNatClampNeg) K43 gF q11 z)))
def f_X6_settle_43 (p0 : Nat) (p1 : Nat) (x2 : Int32) (x3 : Nat) (n : Nat) (x4 : Int32) (z : gS) : Option gS :=
  gfix (fun (rec : Int32 × gS → Option gS) s => f_X6_settle_43_b p0 p1 x2 x3 (fun x4 z => rec (x4, z)) (s.1) (s.2)) n (x4, z)
def f_X6_settle_10_b (p0 : Nat) (p1 : Nat) (x2 : Int32) (x3 : Nat) (K10 : Int32 → gS → Option gS) (x4 : Int32) (z : gS) : Option gS :=
  if (nI 40) < x4 then (if x2 = (z p1 4) then (gg (nI 0) 41 (gl (gup z x3 (nI 0).toNatClampNeg (nI 1)) fun z5 => f_X6_settle_43 p0 p1 x2 x3 gF (nI 0) z5)) else (f_X6_settle_43 p0 p1 x2 x3 gF (nI 0) z)) else (gg x4 41 (gl (gup z x3 x4.toNatClampNeg (nI 0)) fun z7 => K10 (x4 + (nI 1)) z7))
def f_X6_settle_10 (p0 : Nat) (p1 : Nat) (x2 : Int32) (x3 : Nat) (n : Nat) (x4 : Int32) (z : gS) : Option gS :=
  gfix (fun (rec : Int32 × gS → Option gS) s => f_X6_settle_10_b p0 p1 x2 x3 (fun x4 z => rec (x4, z)) (s.1) (s.2)) n (x4, z)
def f_X6_settle (p0 : Nat) (p1 : Nat) (a2 : Int32) (z : gS) : Option gS :=
  gg a2 128 (f_X6_settle_10 p0 p1 a2 (p0 + 2 + 1 * a2.toNatClampNeg) gF (nI 0) z)
def f_X6_within_26_b (p0 : Nat) (p1 : Nat) (z : gS) (x2 : Int32) (K26 : Int32 → Int32 → Option (Int32 × gS)) (x3 : Int32) (x4 : Int32) : Option (Int32 × gS) :=
  if (nI 40) < x4 then (some (x3, z)) else (if x2 < x4 then (some (x3, z)) else (gg (nI 0) 128 (gg x4 41 (gl (x3 + (z (p0 + 2 + 1 * (nI 0).toNatClampNeg) x4.toNatClampNeg)) fun y8 => K26 y8 (x4 + (nI 1))))))
def f_X6_within_26 (p0 : Nat) (p1 : Nat) (z : gS) (x2 : Int32) (n : Nat) (x3 : Int32) (x4 : Int32) : Option (Int32 × gS) :=
  gfix (fun (rec : Int32 × Int32 → Option (Int32 × gS)) s => f_X6_within_26_b p0 p1 z x2 (fun x3 x4 => rec (x3, x4)) (s.1) (s.2)) n (x3, x4)
def f_X6_within_5_b (p0 : Nat) (p1 : Nat) (x2 : Int32) (K5 : Int32 → gS → Option (Int32 × gS)) (x3 : Int32) (z : gS) : Option (Int32 × gS) :=
  if x3 < 0 then (f_X6_within_26 p0 p1 z x2 gF (nI 0) (nI 0)) else (gb (f_X6_settle p0 p1 x3 z) fun q3 => K5 (x3 + gm1) q3)
def f_X6_within_5 (p0 : Nat) (p1 : Nat) (x2 : Int32) (n : Nat) (x3 : Int32) (z : gS) : Option (Int32 × gS) :=
  gfix (fun (rec : Int32 × gS → Option (Int32 × gS)) s => f_X6_within_5_b p0 p1 x2 (fun x3 z => rec (x3, z)) (s.1) (s.2)) n (x3, z)
def f_X6_within (p0 : Nat) (p1 : Nat) (a2 : Int32) (z : gS) : Option (Int32 × gS) :=
  gl (z p1 4) fun y1 => f_X6_within_5 p0 p1 a2 gF y1 z
def f_X7_append (p0 : Nat) (a1 : Int32) (z : gS) : Option (Int32 × gS) :=
  if (z p0 1) < (nI 100) then (gg (z p0 1) 100 (gl (gup z (p0 + 1) (z p0 1).toNatClampNeg a1) fun z3 => gl (gup z3 p0 1 ((z3 p0 1) + (nI 1))) fun z4 => some ((nI 1), z4))) else (some ((nI 0), z))
def f_X7_here (p0 : Nat) (z : gS) : Option Int32 :=
  if (z p0 2) < 0 then (some gm1) else (if (z p0 1) ≤ (z p0 2) then (some gm1) else (gg (z p0 2) 100 (some (z (p0 + 1) (z p0 2).toNatClampNeg))))
def f_X7_figures_12_b (p0 : Nat) (x1 : Int32) (x2 : Int32) (K12 : Int32 → gS → Option (Int32 × gS)) (x3 : Int32) (z : gS) : Option (Int32 × gS) :=
  if x1 ≤ x3 then (if (z p0 2) ≤ x2 then (some ((nI 0), z)) else (some ((nI 1), z))) else (gb (f_X7_here p0 z) fun q5 => if q5 < (nI 48) then (if (z p0 2) ≤ x2 then (some ((nI 0), z)) else (some ((nI 1), z))) else (gb (f_X7_here p0 z) fun q8 => if (nI 57) < q8 then (if (z p0 2) ≤ x2 then (some ((nI 0), z)) else (some ((nI 1), z))) else (gb (f_X7_here p0 z) fun q11 => gl (gup z p0 3 ((((z p0 3) * (nI 10)) + q11) - (nI 48))) fun z12 => gl (gup z12 p0 2 ((z12 p0 2) + (nI 1))) fun z13 => K12 (x3 + (nI 1)) z13)))
def f_X7_figures_12 (p0 : Nat) (x1 : Int32) (x2 : Int32) (n : Nat) (x3 : Int32) (z : gS) : Option (Int32 × gS) :=
  gfix (fun (rec : Int32 × gS → Option (Int32 × gS)) s => f_X7_figures_12_b p0 x1 x2 (fun x3 z => rec (x3, z)) (s.1) (s.2)) n (x3, z)
def f_X7_figures (p0 : Nat) (a1 : Int32) (z : gS) : Option (Int32 × gS) :=
  gl (z p0 2) fun y1 => gl (gup z p0 3 (nI 0)) fun z2 => f_X7_figures_12 p0 a1 y1 gF (nI 0) z2
def f_X7_isLetter (a0 : Int32) (z : gS) : Option Int32 :=
  if a0 < (nI 97) then (some (nI 0)) else (if (nI 122) < a0 then (some (nI 0)) else (some (nI 1)))
def f_X7_letters_12_b (p0 : Nat) (x1 : Int32) (K12 : Int32 → gS → Option (Int32 × gS)) (x2 : Int32) (z : gS) : Option (Int32 × gS) :=
  if (nI 6) ≤ x2 then (if (z p0 2) ≤ x1 then (some ((nI 0), z)) else (some ((nI 1), z))) else (gl (gup z p0 4 ((z p0 4) * (nI 27))) fun z5 => if (z5 p0 2) = (x1 + x2) then (gb (f_X7_here p0 z5) fun q7 => gb (f_X7_isLetter q7 z5) fun q8 => if q8 = 0 then (K12 (x2 + (nI 1)) z5) else (gb (f_X7_here p0 z5) fun q10 => gl (gup z5 p0 4 ((z5 p0 4) + ((q10 - (nI 97)) + (nI 1)))) fun z11 => gl (gup z11 p0 2 ((z11 p0 2) + (nI 1))) fun z12 => K12 (x2 + (nI 1)) z12)) else (K12 (x2 + (nI 1)) z5))
def f_X7_letters_12 (p0 : Nat) (x1 : Int32) (n : Nat) (x2 : Int32) (z : gS) : Option (Int32 × gS) :=
  gfix (fun (rec : Int32 × gS → Option (Int32 × gS)) s => f_X7_letters_12_b p0 x1 (fun x2 z => rec (x2, z)) (s.1) (s.2)) n (x2, z)
def f_X7_letters (p0 : Nat) (z : gS) : Option (Int32 × gS) :=
  gl (z p0 2) fun y1 => gl (gup z p0 4 (nI 0)) fun z2 => f_X7_letters_12 p0 y1 gF (nI 0) z2
def f_X7_correction (p0 : Nat) (p1 : Nat) (a2 : Int32) (z : gS) : Option (Int32 × gS) :=
  gl (gup z p0 2 ((z p0 2) + (nI 1))) fun z1 => gb (f_X7_figures p0 (nI 1) z1) fun q2 => if q2.1 = 0 then (some ((nI 0), q2.2)) else (gb (f_X7_letters p0 q2.2) fun q4 => if q4.1 = 0 then (some ((nI 0), q4.2)) else (gb (f_X5_named p1 (q4.2 p0 4) q4.2) fun q6 => gb (f_X5_mark p1 (q4.2 p0 3) q6.1 a2 q6.2) fun q7 => gz q7.1 (gl (gup q7.2 p0 5 q7.1) fun z9 => some ((nI 1), z9))))
def f_X7_burial_123 (p0 : Nat) (p1 : Nat) (x2 : Int32) (x3 : Int32) (K65 : Int32 → gS → Option (Int32 × gS)) (z : gS) : Option (Int32 × gS) :=
  gl (gup z p0 5 (nI 0)) fun z29 => gb (f_X7_here p0 z29) fun q30 => if q30 = (nI 44) then (gl (gup z29 p0 2 ((z29 p0 2) + (nI 1))) fun z32 => K65 (x3 + (nI 1)) z32) else (some ((nI 1), z29))
def f_X7_burial_65_b (p0 : Nat) (p1 : Nat) (x2 : Int32) (K65 : Int32 → gS → Option (Int32 × gS)) (x3 : Int32) (z : gS) : Option (Int32 × gS) :=
  if (nI 100) ≤ x3 then (some ((nI 0), z)) else (gb (f_X7_letters p0 z) fun q17 => if q17.1 = 0 then (some ((nI 0), q17.2)) else (gb (f_X5_named p1 (q17.2 p0 4) q17.2) fun q19 => if (q19.2 p0 5) = 0 then (f_X7_burial_123 p0 p1 x2 x3 K65 q19.2) else (gb (f_X5_owns p1 x2 q19.1 q19.2) fun q21 => if q21 = 0 then (gb (f_X5_mark p1 x2 q19.1 (nI 1) q19.2) fun q23 => if q23.1 = 0 then (f_X7_burial_123 p0 p1 x2 x3 K65 q23.2) else (gl (gup q23.2 p0 5 (nI 1)) fun z25 => gb (f_X7_here p0 z25) fun q26 => if q26 = (nI 44) then (gl (gup z25 p0 2 ((z25 p0 2) + (nI 1))) fun z28 => K65 (x3 + (nI 1)) z28) else (some ((nI 1), z25)))) else (f_X7_burial_123 p0 p1 x2 x3 K65 q19.2))))
def f_X7_burial_65 (p0 : Nat) (p1 : Nat) (x2 : Int32) (n : Nat) (x3 : Int32) (z : gS) : Option (Int32 × gS) :=
  gfix (fun (rec : Int32 × gS → Option (Int32 × gS)) s => f_X7_burial_65_b p0 p1 x2 (fun x3 z => rec (x3, z)) (s.1) (s.2)) n (x3, z)
def f_X7_burial (p0 : Nat) (p1 : Nat) (z : gS) : Option (Int32 × gS) :=
  gb (f_X7_figures p0 (nI 3) z) fun q1 => if q1.1 = 0 then (some ((nI 0), q1.2)) else (gb (f_X7_here p0 q1.2) fun q3 => if q3 = (nI 58) then (gl (gup q1.2 p0 2 ((q1.2 p0 2) + (nI 1))) fun z5 => gb (f_X5_dig p1 (z5 p0 3) z5) fun q6 => if q6.1 < 0 then (gl (gup q6.2 p0 5 (nI 0)) fun z8 => gb (f_X7_here p0 z8) fun q9 => gb (f_X7_isLetter q9 z8) fun q10 => if q10 = 0 then (some ((nI 1), z8)) else (f_X7_burial_65 p0 p1 q6.1 gF (nI 0) z8)) else (gl (gup q6.2 p0 5 (nI 1)) fun z12 => gb (f_X7_here p0 z12) fun q13 => gb (f_X7_isLetter q13 z12) fun q14 => if q14 = 0 then (some ((nI 1), z12)) else (f_X7_burial_65 p0 p1 q6.1 gF (nI 0) z12))) else (some ((nI 0), q1.2)))
def f_X7_statement (p0 : Nat) (p1 : Nat) (z : gS) : Option (Int32 × gS) :=
  gb (f_X7_here p0 z) fun q1 => if q1 = (nI 43) then (if q1 = (nI 43) then (gb (f_X7_correction p0 p1 (nI 1) z) fun q6 => gz q6.1 (some (q6.1, q6.2))) else (gb (f_X7_correction p0 p1 (nI 0) z) fun q4 => gz q4.1 (some (q4.1, q4.2)))) else (if q1 = (nI 45) then (if q1 = (nI 43) then (gb (f_X7_correction p0 p1 (nI 1) z) fun q14 => gz q14.1 (some (q14.1, q14.2))) else (gb (f_X7_correction p0 p1 (nI 0) z) fun q12 => gz q12.1 (some (q12.1, q12.2)))) else (gb (f_X7_burial p0 p1 z) fun q9 => gz q9.1 (some (q9.1, q9.2))))
def f_X7_statements_46 (p0 : Nat) (p1 : Nat) (x2 : Int32) (x3 : Int32) (K9 : Int32 → Int32 → gS → Option (Int32 × gS)) (z : gS) : Option (Int32 × gS) :=
  if (z p0 2) < (z p0 1) then (gb (f_X7_here p0 z) fun q9 => if q9 = (nI 59) then (gl (gup z p0 2 ((z p0 2) + (nI 1))) fun z11 => K9 x2 (x3 + (nI 1)) z11) else (some ((-100) - (z p0 2), z))) else (if 0 ≤ x2 then (some ((-300) - x2, z)) else (some (x3, z)))
def f_X7_statements_9_b (p0 : Nat) (p1 : Nat) (K9 : Int32 → Int32 → gS → Option (Int32 × gS)) (x2 : Int32) (x3 : Int32) (z : gS) : Option (Int32 × gS) :=
  if (nI 100) < x3 then (some ((-100) - (z p0 2), z)) else (gl (z p0 2) fun y3 => gb (f_X7_statement p0 p1 z) fun q4 => if q4.1 = 0 then (some ((-100) - (q4.2 p0 2), q4.2)) else (if (q4.2 p0 5) = 0 then (if 0 ≤ x2 then (f_X7_statements_46 p0 p1 x2 x3 K9 q4.2) else (f_X7_statements_46 p0 p1 y3 x3 K9 q4.2)) else (f_X7_statements_46 p0 p1 x2 x3 K9 q4.2)))
def f_X7_statements_9 (p0 : Nat) (p1 : Nat) (n : Nat) (x2 : Int32) (x3 : Int32) (z : gS) : Option (Int32 × gS) :=
  gfix (fun (rec : Int32 × Int32 × gS → Option (Int32 × gS)) s => f_X7_statements_9_b p0 p1 (fun x2 x3 z => rec (x2, x3, z)) (s.1) (s.2.1) (s.2.2)) n (x2, x3, z)
def f_X7_statements (p0 : Nat) (p1 : Nat) (z : gS) : Option (Int32 × gS) :=
  gl (gup z p0 2 (nI 0)) fun z1 => f_X7_statements_9 p0 p1 gF gm1 (nI 1) z1
def f_X7_tellTo (p0 : Nat) (p1 : Nat) (z : gS) : Option (Int32 × gS) :=
  gb (f_X7_statements p0 p1 z) fun q1 => gl (gup q1.2 p0 1 (nI 0)) fun z2 => some (q1.1, z2)
def f_X8_find_2_b (p0 : Nat) (z : gS) (x1 : Int32) (K2 : Int32 → Option Int32) (x2 : Int32) : Option Int32 :=
  if (z p0 1) ≤ x2 then (some gm1) else (gg x2 512 (if (z (p0 + 1) x2.toNatClampNeg) = x1 then (some x2) else (K2 (x2 + (nI 1)))))
def f_X8_find_2 (p0 : Nat) (z : gS) (x1 : Int32) (n : Nat) (x2 : Int32) : Option Int32 :=
  gfix (fun (rec : Int32 → Option Int32) s => f_X8_find_2_b p0 z x1 (fun x2 => rec (x2)) s) n (x2)
def f_X8_find (p0 : Nat) (a1 : Int32) (z : gS) : Option Int32 :=
  f_X8_find_2 p0 z a1 gF (nI 0)
def f_X8_add (p0 : Nat) (a1 : Int32) (z : gS) : Option gS :=
  gb (f_X8_find p0 a1 z) fun q1 => if q1 < 0 then (if (nI 512) ≤ (z p0 1) then (some z) else (gg (z p0 1) 512 (gl (gup z (p0 + 1) (z p0 1).toNatClampNeg a1) fun z5 => gg (z5 p0 1) 512 (gl (gup z5 (p0 + 2) (z5 p0 1).toNatClampNeg (nI 1)) fun z7 => gl (gup z7 p0 1 ((z7 p0 1) + (nI 1))) fun z8 => some z8)))) else (gg q1 512 (gg q1 512 (gl (gup z (p0 + 2) q1.toNatClampNeg ((z (p0 + 2) q1.toNatClampNeg) + (nI 1))) fun z11 => some z11)))
def f_X9_partPassed_16_b (p0 : Nat) (x1 : Int32) (x2 : Int32) (x3 : Int32) (K16 : Int32 → gS → Option gS) (x4 : Int32) (z : gS) : Option gS :=
  if (z p0 2) < x4 then (some z) else (if (x4 &&& x2) = 0 then (if (x4 &&& x1) = 0 then (K16 (x4 + (nI 1)) z) else (if (x4 &&& x3) = 0 then (K16 (x4 + (nI 1)) z) else (gg x4 128 (gl (gup z (p0 + 1) x4.toNatClampNeg (nI 0)) fun z7 => K16 (x4 + (nI 1)) z7)))) else (K16 (x4 + (nI 1)) z))
def f_X9_partPassed_16 (p0 : Nat) (x1 : Int32) (x2 : Int32) (x3 : Int32) (n : Nat) (x4 : Int32) (z : gS) : Option gS :=
  gfix (fun (rec : Int32 × gS → Option gS) s => f_X9_partPassed_16_b p0 x1 x2 x3 (fun x4 z => rec (x4, z)) (s.1) (s.2)) n (x4, z)
def f_X9_partPassed (p0 : Nat) (a1 : Int32) (a2 : Int32) (z : gS) : Option gS :=
  gl (((z p0 2) &&& (a1 ^^^ gm1)) &&& (a2 ^^^ gm1)) fun y1 => f_X9_partPassed_16 p0 a1 a2 y1 gF (nI 1) z
def f_X9_findClusters_58_b (p0 : Nat) (p1 : Nat) (x2 : Int32) (K48 : Int32 → gS → Option gS) (K58 : Int32 → gS → Option gS) (x3 : Int32) (z : gS) : Option gS :=
  if (nI 7) ≤ x3 then (K48 (x2 + (nI 1)) z) else (gg x2 128 (if (z (p0 + 2) x2.toNatClampNeg) = 0 then (K58 (x3 + (nI 1)) z) else (gb (f_X3_isBest p1 x2 x3 z) fun q26 => if q26 = 0 then (K58 (x3 + (nI 1)) z) else (gg (x2 ||| ((nI 1) <<< (x3 &&& 31))) 128 (gl (gup z (p0 + 2) (x2 ||| ((nI 1) <<< (x3 &&& 31))).toNatClampNeg (nI 1)) fun z29 => gb (f_X9_partPassed p0 x2 ((nI 1) <<< (x3 &&& 31)) z29) fun q30 => K58 (x3 + (nI 1)) q30)))))
def f_X9_findClusters_58 (p0 : Nat) (p1 : Nat) (x2 : Int32) (K48 : Int32 → gS → Option gS) (n : Nat) (x3 : Int32) (z : gS) : Option gS :=
  gfix (fun (rec : Int32 × gS → Option gS) s => f_X9_findClusters_58_b p0 p1 x2 K48 (fun x3 z => rec (x3, z)) (s.1) (s.2)) n (x3, z)
def f_X9_findClusters_120_b (p0 : Nat) (p1 : Nat) (K120 : Int32 → gS → Option gS) (x2 : Int32) (z : gS) : Option gS :=
  if (z p0 2) < x2 then (some z) else (gg x2 128 (if (z (p0 + 1) x2.toNatClampNeg) = 0 then (K120 (x2 + (nI 1)) z) else (gl (gup z p0 3 ((z p0 3) + (nI 1))) fun z22 => K120 (x2 + (nI 1)) z22)))
def f_X9_findClusters_120 (p0 : Nat) (p1 : Nat) (n : Nat) (x2 : Int32) (z : gS) : Option gS :=
  gfix (fun (rec : Int32 × gS → Option gS) s => f_X9_findClusters_120_b p0 p1 (fun x2 z => rec (x2, z)) (s.1) (s.2)) n (x2, z)
def f_X9_findClusters_48_b (p0 : Nat) (p1 : Nat) (K48 : Int32 → gS → Option gS) (x2 : Int32) (z : gS) : Option gS :=
  if (z p0 2) < x2 then (gl (gup z p0 3 (nI 0)) fun z18 => f_X9_findClusters_120 p0 p1 gF (nI 1) z18) else (f_X9_findClusters_58 p0 p1 x2 K48 gF (nI 0) z)
def f_X9_findClusters_48 (p0 : Nat) (p1 : Nat) (n : Nat) (x2 : Int32) (z : gS) : Option gS :=
  gfix (fun (rec : Int32 × gS → Option gS) s => f_X9_findClusters_48_b p0 p1 (fun x2 z => rec (x2, z)) (s.1) (s.2)) n (x2, z)
def f_X9_findClusters_2_b (p0 : Nat) (p1 : Nat) (K2 : Int32 → gS → Option gS) (x2 : Int32) (z : gS) : Option gS :=
  if (z p0 2) < x2 then (f_X9_findClusters_48 p0 p1 gF (nI 0) z) else (if x2 = 0 then (gg x2 128 (gl (gup z (p0 + 1) x2.toNatClampNeg (nI 0)) fun z4 => if x2 = 0 then (gg x2 128 (gl (gup z4 (p0 + 2) x2.toNatClampNeg (nI 1)) fun z9 => K2 (x2 + (nI 1)) z9)) else (gg x2 128 (gl (gup z4 (p0 + 2) x2.toNatClampNeg (nI 0)) fun z7 => K2 (x2 + (nI 1)) z7)))) else (gg x2 128 (gl (gup z (p0 + 1) x2.toNatClampNeg (nI 1)) fun z11 => if x2 = 0 then (gg x2 128 (gl (gup z11 (p0 + 2) x2.toNatClampNeg (nI 1)) fun z16 => K2 (x2 + (nI 1)) z16)) else (gg x2 128 (gl (gup z11 (p0 + 2) x2.toNatClampNeg (nI 0)) fun z14 => K2 (x2 + (nI 1)) z14)))))
def f_X9_findClusters_2 (p0 : Nat) (p1 : Nat) (n : Nat) (x2 : Int32) (z : gS) : Option gS :=
  gfix (fun (rec : Int32 × gS → Option gS) s => f_X9_findClusters_2_b p0 p1 (fun x2 z => rec (x2, z)) (s.1) (s.2)) n (x2, z)
def f_X9_findClusters (p0 : Nat) (p1 : Nat) (z : gS) : Option gS :=
  f_X9_findClusters_2 p0 p1 gF (nI 0) z
def f_X9_isKnot_13_b (p0 : Nat) (z : gS) (x1 : Int32) (K13 : Int32 → Option Int32) (x2 : Int32) : Option Int32 :=
  if (z p0 2) < x2 then (some (nI 1)) else (gg x2 128 (if (z (p0 + 1) x2.toNatClampNeg) = 0 then (K13 (x2 + (nI 1))) else (if (x1 &&& x2) = 0 then (K13 (x2 + (nI 1))) else (if (x1 &&& (x2 ^^^ gm1)) = 0 then (K13 (x2 + (nI 1))) else (if (x2 &&& (x1 ^^^ gm1)) = 0 then (K13 (x2 + (nI 1))) else (some (nI 0)))))))
def f_X9_isKnot_13 (p0 : Nat) (z : gS) (x1 : Int32) (n : Nat) (x2 : Int32) : Option Int32 :=
  gfix (fun (rec : Int32 → Option Int32) s => f_X9_isKnot_13_b p0 z x1 (fun x2 => rec (x2)) s) n (x2)
def f_X9_isKnot (p0 : Nat) (a1 : Int32) (z : gS) : Option Int32 :=
  gg a1 128 (if (z (p0 + 1) a1.toNatClampNeg) = 0 then (some (nI 0)) else (f_X9_isKnot_13 p0 z a1 gF (nI 1)))
def f_X9_findKnots_15_b (p0 : Nat) (x1 : Int32) (K7 : Int32 → gS → Option gS) (K15 : Int32 → gS → Option gS) (x2 : Int32) (z : gS) : Option gS :=
  if (z p0 2) < x2 then (K7 (x1 + (nI 1)) z) else (gb (f_J6_bitCount_0f7a4 x2 z) fun q4 => if q4 = x1 then (gb (f_X9_isKnot p0 x2 z) fun q6 => if q6 = 0 then (K15 (x2 + (nI 1)) z) else (if (nI 13) ≤ (z p0 4) then (K15 (x2 + (nI 1)) z) else (gg (z p0 4) 13 (gl (gup z (p0 + 3) (z p0 4).toNatClampNeg x2) fun z10 => gl (gup z10 p0 4 ((z10 p0 4) + (nI 1))) fun z11 => K15 (x2 + (nI 1)) z11)))) else (K15 (x2 + (nI 1)) z))
def f_X9_findKnots_15 (p0 : Nat) (x1 : Int32) (K7 : Int32 → gS → Option gS) (n : Nat) (x2 : Int32) (z : gS) : Option gS :=
  gfix (fun (rec : Int32 × gS → Option gS) s => f_X9_findKnots_15_b p0 x1 K7 (fun x2 z => rec (x2, z)) (s.1) (s.2)) n (x2, z)
def f_X9_findKnots_7_b (p0 : Nat) (K7 : Int32 → gS → Option gS) (x1 : Int32) (z : gS) : Option gS :=
  if (nI 7) < x1 then (some z) else (f_X9_findKnots_15 p0 x1 K7 gF (nI 1) z)
def f_X9_findKnots_7 (p0 : Nat) (n : Nat) (x1 : Int32) (z : gS) : Option gS :=
  gfix (fun (rec : Int32 × gS → Option gS) s => f_X9_findKnots_7_b p0 (fun x1 z => rec (x1, z)) (s.1) (s.2)) n (x1, z)
def f_X9_findKnots (p0 : Nat) (z : gS) : Option gS :=
  gl (gup z p0 4 (nI 0)) fun z1 => f_X9_findKnots_7 p0 gF (nI 1) z1
def f_X9_leastAround_4_b (p0 : Nat) (z : gS) (x1 : Int32) (K4 : Int32 → Option Int32) (x2 : Int32) : Option Int32 :=
  if (z p0 4) ≤ x2 then (some gm1) else (gg x1 13 (gg x2 13 (if ((z (p0 + 3) x1.toNatClampNeg) &&& ((z (p0 + 3) x2.toNatClampNeg) ^^^ gm1)) = 0 then (some x2) else (K4 (x2 + (nI 1))))))
def f_X9_leastAround_4 (p0 : Nat) (z : gS) (x1 : Int32) (n : Nat) (x2 : Int32) : Option Int32 :=
  gfix (fun (rec : Int32 → Option Int32) s => f_X9_leastAround_4_b p0 z x1 (fun x2 => rec (x2)) s) n (x2)
def f_X9_leastAround (p0 : Nat) (a1 : Int32) (z : gS) : Option Int32 :=
  gl (a1 + (nI 1)) fun y1 => f_X9_leastAround_4 p0 z a1 gF y1
def f_X9_hasPair_9_b (p0 : Nat) (z : gS) (x1 : Int32) (x2 : Int32) (K2 : Int32 → Option Int32) (K9 : Int32 → Option Int32) (x3 : Int32) : Option Int32 :=
  if x2 ≤ x3 then (K2 (x2 + (nI 1))) else (gg x2 13 (if (z (p0 + 6) x2.toNatClampNeg) = x1 then (gg x3 13 (if (z (p0 + 6) x3.toNatClampNeg) = x1 then (gg x2 13 (gg x3 13 (gg ((z (p0 + 3) x2.toNatClampNeg) ||| (z (p0 + 3) x3.toNatClampNeg)) 128 (if (z (p0 + 1) ((z (p0 + 3) x2.toNatClampNeg) ||| (z (p0 + 3) x3.toNatClampNeg)).toNatClampNeg) = 0 then (K9 (x3 + (nI 1))) else (some (nI 1)))))) else (K9 (x3 + (nI 1))))) else (K9 (x3 + (nI 1)))))
def f_X9_hasPair_9 (p0 : Nat) (z : gS) (x1 : Int32) (x2 : Int32) (K2 : Int32 → Option Int32) (n : Nat) (x3 : Int32) : Option Int32 :=
  gfix (fun (rec : Int32 → Option Int32) s => f_X9_hasPair_9_b p0 z x1 x2 K2 (fun x3 => rec (x3)) s) n (x3)
def f_X9_hasPair_2_b (p0 : Nat) (z : gS) (x1 : Int32) (K2 : Int32 → Option Int32) (x2 : Int32) : Option Int32 :=
  if x1 ≤ x2 then (some (nI 0)) else (f_X9_hasPair_9 p0 z x1 x2 K2 gF (nI 0))
def f_X9_hasPair_2 (p0 : Nat) (z : gS) (x1 : Int32) (n : Nat) (x2 : Int32) : Option Int32 :=
  gfix (fun (rec : Int32 → Option Int32) s => f_X9_hasPair_2_b p0 z x1 (fun x2 => rec (x2)) s) n (x2)
def f_X9_hasPair (p0 : Nat) (a1 : Int32) (z : gS) : Option Int32 :=
  f_X9_hasPair_2 p0 z a1 gF (nI 0)
def f_X9_sortOf (p0 : Nat) (a1 : Int32) (z : gS) : Option Int32 :=
  gg a1 13 (if (nI 2) ≤ (z (p0 + 5) a1.toNatClampNeg) then (gg a1 13 (if (z (p0 + 5) a1.toNatClampNeg) ≤ (nI 2) then (some (nI 1)) else (gb (f_X9_hasPair p0 a1 z) fun q5 => if q5 = 0 then (some (nI 1)) else (some (nI 2))))) else (some (nI 0)))
def f_X9_make_93_b (p0 : Nat) (p1 : Nat) (K93 : Int32 → gS → Option gS) (x2 : Int32) (z : gS) : Option gS :=
  if (z p0 4) ≤ x2 then (some z) else (gb (f_X9_sortOf p0 x2 z) fun q18 => gg x2 13 (gl (gup z (p0 + 4) x2.toNatClampNeg q18) fun z20 => K93 (x2 + (nI 1)) z20))
def f_X9_make_93 (p0 : Nat) (p1 : Nat) (n : Nat) (x2 : Int32) (z : gS) : Option gS :=
  gfix (fun (rec : Int32 × gS → Option gS) s => f_X9_make_93_b p0 p1 (fun x2 z => rec (x2, z)) (s.1) (s.2)) n (x2, z)
def f_X9_make_42_b (p0 : Nat) (p1 : Nat) (K42 : Int32 → gS → Option gS) (x2 : Int32) (z : gS) : Option gS :=
  if (z p0 4) ≤ x2 then (f_X9_make_93 p0 p1 gF (nI 0) z) else (gb (f_X9_leastAround p0 x2 z) fun q8 => gg x2 13 (gl (gup z (p0 + 6) x2.toNatClampNeg q8) fun z10 => gg x2 13 (if (z10 (p0 + 6) x2.toNatClampNeg) < 0 then (K42 (x2 + (nI 1)) z10) else (gg x2 13 (gg (z10 (p0 + 6) x2.toNatClampNeg) 13 (gg (z10 (p0 + 6) x2.toNatClampNeg) 13 (gl (gup z10 (p0 + 5) (z10 (p0 + 6) x2.toNatClampNeg).toNatClampNeg ((z10 (p0 + 5) (z10 (p0 + 6) x2.toNatClampNeg).toNatClampNeg) + (nI 1))) fun z16 => K42 (x2 + (nI 1)) z16)))))))
def f_X9_make_42 (p0 : Nat) (p1 : Nat) (n : Nat) (x2 : Int32) (z : gS) : Option gS :=
  gfix (fun (rec : Int32 × gS → Option gS) s => f_X9_make_42_b p0 p1 (fun x2 z => rec (x2, z)) (s.1) (s.2)) n (x2, z)
def f_X9_make_19_b (p0 : Nat) (p1 : Nat) (K19 : Int32 → gS → Option gS) (x2 : Int32) (z : gS) : Option gS :=
  if (z p0 4) ≤ x2 then (f_X9_make_42 p0 p1 gF (nI 0) z) else (gg x2 13 (gl (gup z (p0 + 5) x2.toNatClampNeg (nI 0)) fun z6 => K19 (x2 + (nI 1)) z6))
def f_X9_make_19 (p0 : Nat) (p1 : Nat) (n : Nat) (x2 : Int32) (z : gS) : Option gS :=
  gfix (fun (rec : Int32 × gS → Option gS) s => f_X9_make_19_b p0 p1 (fun x2 z => rec (x2, z)) (s.1) (s.2)) n (x2, z)
def f_X9_make (p0 : Nat) (p1 : Nat) (z : gS) : Option gS :=
  gl (gup z p0 2 (z p1 4)) fun z1 => gb (f_X9_findClusters p0 p1 z1) fun q2 => gb (f_X9_findKnots p0 q2) fun q3 => f_X9_make_19 p0 p1 gF (nI 0) q3
def f_X9_ofSort_4_b (p0 : Nat) (z : gS) (x1 : Int32) (K4 : Int32 → Int32 → Option Int32) (x2 : Int32) (x3 : Int32) : Option Int32 :=
  if (z p0 4) ≤ x3 then (some x2) else (gg x3 13 (if (z (p0 + 4) x3.toNatClampNeg) = x1 then (K4 (x2 + (nI 1)) (x3 + (nI 1))) else (K4 x2 (x3 + (nI 1)))))
def f_X9_ofSort_4 (p0 : Nat) (z : gS) (x1 : Int32) (n : Nat) (x2 : Int32) (x3 : Int32) : Option Int32 :=
  gfix (fun (rec : Int32 × Int32 → Option Int32) s => f_X9_ofSort_4_b p0 z x1 (fun x2 x3 => rec (x2, x3)) (s.1) (s.2)) n (x2, x3)
def f_X9_ofSort (p0 : Nat) (a1 : Int32) (z : gS) : Option Int32 :=
  f_X9_ofSort_4 p0 z a1 gF (nI 0) (nI 0)
def f_X9_product_15_b (p0 : Nat) (z : gS) (x3 : Int32) (K4 : Int64 → Int32 → Option Int64) (K15 : Int64 → Int32 → Option Int64) (x1 : Int64) (x4 : Int32) : Option Int64 :=
  gg x3 13 (if (z (p0 + 5) x3.toNatClampNeg) < x4 then (gg x3 13 (if (z (p0 + 4) x3.toNatClampNeg) = (nI 2) then (gl (x1 * 2) fun y6 => K4 y6 (x3 + (nI 1))) else (K4 x1 (x3 + (nI 1))))) else (gg x3 13 (if (z (p0 + 4) x3.toNatClampNeg) = (nI 1) then (gl (x1 * x4.toInt64) fun y12 => K15 y12 (x4 + (nI 1))) else (gg x3 13 (if (z (p0 + 4) x3.toNatClampNeg) = (nI 2) then (gl (x1 * 2) fun y11 => K4 y11 (x3 + (nI 1))) else (K4 x1 (x3 + (nI 1))))))))
def f_X9_product_15 (p0 : Nat) (z : gS) (x3 : Int32) (K4 : Int64 → Int32 → Option Int64) (n : Nat) (x1 : Int64) (x4 : Int32) : Option Int64 :=
  gfix (fun (rec : Int64 × Int32 → Option Int64) s => f_X9_product_15_b p0 z x3 K4 (fun x1 x4 => rec (x1, x4)) (s.1) (s.2)) n (x1, x4)
def f_X9_product_4_b (p0 : Nat) (z : gS) (K4 : Int64 → Int32 → Option Int64) (x1 : Int64) (x3 : Int32) : Option Int64 :=
  if (z p0 4) ≤ x3 then (some x1) else (f_X9_product_15 p0 z x3 K4 gF x1 (nI 2))
def f_X9_product_4 (p0 : Nat) (z : gS) (n : Nat) (x1 : Int64) (x3 : Int32) : Option Int64 :=
  gfix (fun (rec : Int64 × Int32 → Option Int64) s => f_X9_product_4_b p0 z (fun x1 x3 => rec (x1, x3)) (s.1) (s.2)) n (x1, x3)
def f_X9_product (p0 : Nat) (z : gS) : Option Int64 :=
  f_X9_product_4 p0 z gF 1 (nI 0)
def f_X10_siteChanged  (z : gS) : Option gS :=
  gl (gup z 0 15 (nI 0)) fun z1 => gl (gup z1 0 16 (nI 0)) fun z2 => gl (gup z2 0 17 (nI 0)) fun z3 => some z3
def f_X10_grave (a1 : Int32) (z : gS) : Option (Int32 × gS) :=
  if a1 < 0 then (some ((-2), z)) else (if a1 ≤ (nI 999) then (gb (f_X5_dig 1 a1 z) fun q3 => if 0 ≤ q3.1 then (gb (f_X10_siteChanged  q3.2) fun q5 => some (q3.1, q5)) else (some ((-4), q3.2))) else (some ((-2), z)))
def f_X10_has_53 (x1 : Int32) (x2 : Int32) (x3 : Int32) (s0 : Int32) (z : gS) : Option (Int32 × gS) :=
  if x3 = (nI 1) then (gb (f_X5_mark 1 x1 x2 (nI 1) z) fun q14 => gb (f_X10_siteChanged  q14.2) fun q15 => some (s0, q15)) else (gb (f_X5_mark 1 x1 x2 (nI 0) z) fun q12 => gb (f_X10_siteChanged  q12.2) fun q13 => some (s0, q13))
def f_X10_has (a1 : Int32) (a2 : Int32) (a3 : Int32) (z : gS) : Option (Int32 × gS) :=
  gb (f_X5_holds 1 a1 z) fun q1 => if q1 = 0 then (some (gm1, z)) else (gb (f_X5_knows 1 a2 z) fun q3 => if q3 = 0 then (some (gm1, z)) else (if a3 = 0 then (gb (f_X5_owns 1 a1 a2 z) fun q6 => if q6 = 0 then (f_X10_has_53 a1 a2 a3 (nI 0) z) else (f_X10_has_53 a1 a2 a3 (nI 1) z)) else (if a3 = (nI 1) then (gb (f_X5_owns 1 a1 a2 z) fun q9 => if q9 = 0 then (f_X10_has_53 a1 a2 a3 (nI 0) z) else (f_X10_has_53 a1 a2 a3 (nI 1) z)) else (some ((-2), z)))))
def f_X10_of (a1 : Int32) (a2 : Int32) (z : gS) : Option Int32 :=
  gb (f_X5_holds 1 a1 z) fun q1 => if q1 = 0 then (some gm1) else (if a2 = (nI 0) then (gg a1 7 (some (z (1 + 1) a1.toNatClampNeg))) else if a2 = (nI 1) then (gg a1 7 (some (z (1 + 2) a1.toNatClampNeg))) else if a2 = (nI 2) then (gb (f_X5_peers 1 a1 z) fun q8 => some q8) else if a2 = (nI 3) then (gb (f_X5_friends 1 a1 z) fun q10 => some q10) else (some gm1))
def f_X10_type (a1 : Int32) (a2 : Int32) (z : gS) : Option Int32 :=
  gb (f_X5_knows 1 a1 z) fun q1 => if q1 = 0 then (some gm1) else (if a2 < 0 then (some gm1) else (if a2 ≤ (nI 7) then (if a2 = 0 then (gb (f_X5_owners 1 a1 z) fun q11 => some q11) else (gg a1 8 (gl (z (1 + 3) a1.toNatClampNeg) fun y7 => if a2 = (nI 1) then (gb (f_X2_length y7 z) fun q10 => some q10) else (gb (f_X2_letter y7 (a2 - (nI 2)) z) fun q9 => some q9)))) else (some gm1)))
def f_X10_drop (a1 : Int32) (z : gS) : Option (Int32 × gS) :=
  gb (f_X5_holds 1 a1 z) fun q1 => if q1 = 0 then (some (gm1, z)) else (gb (f_X5_remove 1 a1 z) fun q3 => gb (f_X10_siteChanged  q3) fun q4 => some (q4 1 0, q4))
def f_X10_count (a1 : Int32) (z : gS) : Option Int32 :=
  if a1 = (nI 0) then (some (z 1 0)) else if a1 = (nI 1) then (some (z 1 1)) else if a1 = (nI 2) then (gb (f_X5_parts 1 z) fun q4 => some q4) else if a1 = (nI 3) then (some (z 290 1)) else if a1 = (nI 4) then (some (z 0 13)) else if a1 = (nI 5) then (gb (f_X5_bare 1 z) fun q8 => some q8) else (some (-2))
def f_X10_readyPlan  (z : gS) : Option gS :=
  if (z 0 15) = 0 then (gb (f_X5_everybody 1 z) fun q2 => gb (f_X5_everything 1 z) fun q3 => gb (f_X3_make 13 1 q2 q3 gm1 gm1 z) fun q4 => gl (gup q4 0 15 (nI 1)) fun z5 => some z5) else (some z)
def f_X10_orders (a1 : Int32) (z : gS) : Option (Int32 × gS) :=
  if a1 < 0 then (some ((-2), z)) else (if a1 ≤ (nI 60) then (gb (f_X10_readyPlan  z) fun q3 => gb (f_X6_within 23 13 a1 q3) fun q4 => some (q4.1, q4.2)) else (some ((-2), z)))
def f_X10_gapless (a1 : Int32) (z : gS) : Option (Int32 × gS) :=
  gb (f_X10_readyPlan  z) fun q1 => if a1 < 0 then (some (gm1, q1)) else (gb (f_X3_smoothOrders 13 q1) fun q3 => if a1 < q3 then (gb (f_X3_pick 13 a1 q1) fun q5 => some (q5, q1)) else (some (gm1, q1)))
def f_X10_fewest (a1 : Int32) (z : gS) : Option (Int32 × gS) :=
  if a1 < 0 then (some ((-2), z)) else (if a1 ≤ (nI 2) then (gb (f_X10_readyPlan  z) fun q3 => if a1 = (nI 0) then (gb (f_X3_least 13 q3) fun q5 => some (q5, q3)) else if a1 = (nI 1) then (gg (nI 0) 128 (some (q3 (13 + 4) (nI 0).toNatClampNeg, q3))) else (gb (f_X3_pick 13 (nI 0) q3) fun q8 => some (q8, q3))) else (some ((-2), z)))
def f_X10_ends_43 (x1 : Int32) (x2 : Int32) (x3 : Int32) (z : gS) : Option (Int32 × gS) :=
  if x3 < 0 then (some ((-2), z)) else (if x3 ≤ (nI 2) then (gb (f_X5_everybody 1 z) fun q9 => gb (f_X5_everything 1 z) fun q10 => gb (f_X3_make 18 1 q9 q10 x1 x2 z) fun q11 => if x3 = (nI 0) then (gb (f_X3_smoothOrders 18 q11) fun q13 => some (q13, q11)) else if x3 = (nI 1) then (gb (f_X3_least 18 q11) fun q15 => some (q15, q11)) else (gb (f_X3_pick 18 (nI 0) q11) fun q16 => some (q16, q11))) else (some ((-2), z)))
def f_X10_ends (a1 : Int32) (a2 : Int32) (a3 : Int32) (z : gS) : Option (Int32 × gS) :=
  gb (f_X5_holds 1 a1 z) fun q1 => if q1 = 0 then (some (gm1, z)) else (gb (f_X5_holds 1 a2 z) fun q3 => if q3 = 0 then (some (gm1, z)) else (if a1 = a2 then (if (z 1 0) ≤ (nI 1) then (f_X10_ends_43 a1 a2 a3 z) else (some ((-5), z))) else (f_X10_ends_43 a1 a2 a3 z)))
def f_X10_readyTree  (z : gS) : Option gS :=
  if (z 0 16) = 0 then (gb (f_X10_readyPlan  z) fun q2 => gb (f_X9_make 283 13 q2) fun q3 => gl (gup q3 0 16 (nI 1)) fun z4 => some z4) else (some z)
def f_X10_clusters  (z : gS) : Option (Int32 × gS) :=
  gb (f_X10_readyPlan  z) fun q1 => gb (f_X3_least 13 q1) fun q2 => if q2 = 0 then (gb (f_X10_readyTree  q1) fun q4 => some (q4 283 3, q4)) else (some ((-3), q1))
def f_X10_knots (a1 : Int32) (z : gS) : Option (Int32 × gS) :=
  if a1 < 0 then (some ((-2), z)) else (if a1 ≤ (nI 2) then (gb (f_X10_readyPlan  z) fun q3 => gb (f_X3_least 13 q3) fun q4 => if q4 = 0 then (gb (f_X10_readyTree  q3) fun q6 => if a1 = 0 then (some (q6 283 4, q6)) else (if a1 = (nI 1) then (gb (f_X9_ofSort 283 (nI 1) q6) fun q10 => some (q10, q6)) else (gb (f_X9_ofSort 283 (nI 2) q6) fun q9 => some (q9, q6)))) else (some ((-3), q3))) else (some ((-2), z)))
def f_X10_knot (a1 : Int32) (a2 : Int32) (z : gS) : Option (Int32 × gS) :=
  gb (f_X10_readyPlan  z) fun q1 => gb (f_X3_least 13 q1) fun q2 => if q2 = 0 then (gb (f_X10_readyTree  q1) fun q4 => if a1 < 0 then (some (gm1, q4)) else (if a1 < (q4 283 4) then (if a2 = (nI 0) then (gg a1 13 (some (q4 (283 + 3) a1.toNatClampNeg, q4))) else if a2 = (nI 1) then (gg a1 13 (some (q4 (283 + 4) a1.toNatClampNeg, q4))) else if a2 = (nI 2) then (some (gm1, q4)) else if a2 = (nI 3) then (gg a1 13 (some (q4 (283 + 5) a1.toNatClampNeg, q4))) else if a2 = (nI 4) then (gg a1 13 (if 0 ≤ (q4 (283 + 6) a1.toNatClampNeg) then (gg a1 13 (some (q4 (283 + 6) a1.toNatClampNeg, q4))) else (some ((-5), q4)))) else (some (gm1, q4))) else (some (gm1, q4)))) else (some ((-3), q1))
def f_X10_told  (z : gS) : Option (Int64 × gS) :=
  gb (f_X10_readyPlan  z) fun q1 => gb (f_X3_least 13 q1) fun q2 => if q2 = 0 then (gb (f_X10_readyTree  q1) fun q4 => gb (f_X9_product 283 q4) fun q5 => some (q5, q4)) else (some ((-9223372036854775808), q1))
def f_X10_spoilingTypes_4_b  (K4 : Int32 → Int32 → gS → Option (Int32 × gS)) (x1 : Int32) (x2 : Int32) (z : gS) : Option (Int32 × gS) :=
  if (z 1 1) ≤ x2 then (some (x1, z)) else (gb (f_X5_everybody 1 z) fun q2 => gb (f_X5_everything 1 z) fun q3 => gb (f_X3_make 18 1 q2 (q3 &&& (((nI 1) <<< (x2 &&& 31)) ^^^ gm1)) gm1 gm1 z) fun q4 => gb (f_X3_least 18 q4) fun q5 => if q5 = 0 then (gl (x1 ||| ((nI 1) <<< (x2 &&& 31))) fun y7 => K4 y7 (x2 + (nI 1)) q4) else (K4 x1 (x2 + (nI 1)) q4))
def f_X10_spoilingTypes_4  (n : Nat) (x1 : Int32) (x2 : Int32) (z : gS) : Option (Int32 × gS) :=
  gfix (fun (rec : Int32 × Int32 × gS → Option (Int32 × gS)) s => f_X10_spoilingTypes_4_b  (fun x1 x2 z => rec (x1, x2, z)) (s.1) (s.2.1) (s.2.2)) n (x1, x2, z)
def f_X10_spoilingTypes  (z : gS) : Option (Int32 × gS) :=
  f_X10_spoilingTypes_4 gF (nI 0) (nI 0) z
def f_X10_spoilingGraves_4_b  (K4 : Int32 → Int32 → gS → Option (Int32 × gS)) (x1 : Int32) (x2 : Int32) (z : gS) : Option (Int32 × gS) :=
  if (z 1 0) ≤ x2 then (some (x1, z)) else (gb (f_X5_everybody 1 z) fun q2 => gb (f_X5_everything 1 z) fun q3 => gb (f_X3_make 18 1 (q2 &&& (((nI 1) <<< (x2 &&& 31)) ^^^ gm1)) q3 gm1 gm1 z) fun q4 => gb (f_X3_least 18 q4) fun q5 => if q5 = 0 then (gl (x1 ||| ((nI 1) <<< (x2 &&& 31))) fun y7 => K4 y7 (x2 + (nI 1)) q4) else (K4 x1 (x2 + (nI 1)) q4))
def f_X10_spoilingGraves_4  (n : Nat) (x1 : Int32) (x2 : Int32) (z : gS) : Option (Int32 × gS) :=
  gfix (fun (rec : Int32 × Int32 × gS → Option (Int32 × gS)) s => f_X10_spoilingGraves_4_b  (fun x1 x2 z => rec (x1, x2, z)) (s.1) (s.2.1) (s.2.2)) n (x1, x2, z)
def f_X10_spoilingGraves  (z : gS) : Option (Int32 × gS) :=
  f_X10_spoilingGraves_4 gF (nI 0) (nI 0) z
def f_X10_spoils_27 (x1 : Int32) (s0 : Int32) (z : gS) : Option (Int32 × gS) :=
  if x1 = (nI 1) then (if s0 = 0 then (gb (f_X10_spoilingTypes  z) fun q16 => some (q16.1, q16.2)) else (some ((nI 0), z))) else (if s0 = 0 then (gb (f_X10_spoilingGraves  z) fun q8 => if x1 = 0 then (some (q8.1, q8.2)) else (if q8.1 = 0 then (some ((-5), q8.2)) else (gb (f_J6_numberOfTrailingZeros_0f7a4 q8.1 q8.2) fun q11 => some (q11, q8.2)))) else (if x1 = 0 then (some ((nI 0), z)) else (if (nI 0) = 0 then (some ((-5), z)) else (gb (f_J6_numberOfTrailingZeros_0f7a4 (nI 0) z) fun q14 => some (q14, z)))))
def f_X10_spoils (a1 : Int32) (z : gS) : Option (Int32 × gS) :=
  if a1 < 0 then (some ((-2), z)) else (if a1 ≤ (nI 2) then (gb (f_X10_readyPlan  z) fun q3 => gb (f_X3_least 13 q3) fun q4 => if q4 = 0 then (f_X10_spoils_27 a1 (nI 1) q3) else (f_X10_spoils_27 a1 (nI 0) q3)) else (some ((-2), z)))
def f_X10_setRow_15_b  (K15 : Int32 → Int32 → Int32 → gS → Option (Int32 × gS)) (x2 : Int32) (x3 : Int32) (x4 : Int32) (z : gS) : Option (Int32 × gS) :=
  if x4 < 0 then (if x2 = 0 then (some ((nI 1), z)) else (some ((nI 0), z))) else (gl ((x2 - x2 / (nI 10) * (nI 10)) - (nI 1)) fun y4 => gl (x2 / (nI 10)) fun y5 => gb (f_X5_holds 1 y4 z) fun q6 => if q6 = 0 then (some ((nI 0), z)) else (if ((x3 >>> (y4 &&& 31)) &&& (nI 1)) = 0 then (gl (x3 ||| ((nI 1) <<< (y4 &&& 31))) fun y9 => gg x4 7 (gl (gup z 296 x4.toNatClampNeg y4) fun z11 => K15 y5 y9 (x4 + gm1) z11)) else (some ((nI 0), z))))
def f_X10_setRow_15  (n : Nat) (x2 : Int32) (x3 : Int32) (x4 : Int32) (z : gS) : Option (Int32 × gS) :=
  gfix (fun (rec : Int32 × Int32 × Int32 × gS → Option (Int32 × gS)) s => f_X10_setRow_15_b  (fun x2 x3 x4 z => rec (x2, x3, x4, z)) (s.1) (s.2.1) (s.2.2.1) (s.2.2.2)) n (x2, x3, x4, z)
def f_X10_setRow (a1 : Int32) (z : gS) : Option (Int32 × gS) :=
  gl ((z 1 0) - (nI 1)) fun y1 => f_X10_setRow_15 gF a1 (nI 0) y1 z
def f_X10_rowGapsOf_10_b (z : gS) (x1 : Int32) (K10 : Int32 → Int32 → Int32 → Int32 → Option Int32) (x2 : Int32) (x3 : Int32) (x4 : Int32) (x5 : Int32) : Option Int32 :=
  if (z 1 0) ≤ x5 then (some x2) else (gg x5 7 (gb (f_X5_owns 1 (z 296 x5.toNatClampNeg) x1 z) fun q3 => if q3 = 0 then (if x4 = 0 then (K10 x2 x3 x4 (x5 + (nI 1))) else (K10 x2 (x3 + (nI 1)) x4 (x5 + (nI 1)))) else (gl (x2 + x3) fun y6 => K10 y6 (nI 0) (nI 1) (x5 + (nI 1)))))
def f_X10_rowGapsOf_10 (z : gS) (x1 : Int32) (n : Nat) (x2 : Int32) (x3 : Int32) (x4 : Int32) (x5 : Int32) : Option Int32 :=
  gfix (fun (rec : Int32 × Int32 × Int32 × Int32 → Option Int32) s => f_X10_rowGapsOf_10_b z x1 (fun x2 x3 x4 x5 => rec (x2, x3, x4, x5)) (s.1) (s.2.1) (s.2.2.1) (s.2.2.2)) n (x2, x3, x4, x5)
def f_X10_rowGapsOf (a1 : Int32) (z : gS) : Option Int32 :=
  f_X10_rowGapsOf_10 z a1 gF (nI 0) (nI 0) (nI 0) (nI 0)
def f_X10_rowGaps_4_b (z : gS) (K4 : Int32 → Int32 → Option Int32) (x1 : Int32) (x2 : Int32) : Option Int32 :=
  if (z 1 1) ≤ x2 then (some x1) else (gb (f_X10_rowGapsOf x2 z) fun q2 => gl (x1 + q2) fun y3 => K4 y3 (x2 + (nI 1)))
def f_X10_rowGaps_4 (z : gS) (n : Nat) (x1 : Int32) (x2 : Int32) : Option Int32 :=
  gfix (fun (rec : Int32 × Int32 → Option Int32) s => f_X10_rowGaps_4_b z (fun x1 x2 => rec (x1, x2)) (s.1) (s.2)) n (x1, x2)
def f_X10_rowGaps  (z : gS) : Option Int32 :=
  f_X10_rowGaps_4 z gF (nI 0) (nI 0)
def f_X10_gaps (a1 : Int32) (z : gS) : Option (Int32 × gS) :=
  gb (f_X10_setRow a1 z) fun q1 => if q1.1 = 0 then (some ((-2), q1.2)) else (gb (f_X10_rowGaps  q1.2) fun q3 => some (q3, q1.2))
def f_X10_runs_15_b (z : gS) (K15 : Int32 → Int32 → Option (Int32 × gS)) (x2 : Int32) (x3 : Int32) : Option (Int32 × gS) :=
  if (z 1 1) ≤ x3 then (some (x2, z)) else (gb (f_X10_rowGapsOf x3 z) fun q4 => if q4 = 0 then (gl (x2 ||| ((nI 1) <<< (x3 &&& 31))) fun y6 => K15 y6 (x3 + (nI 1))) else (K15 x2 (x3 + (nI 1))))
def f_X10_runs_15 (z : gS) (n : Nat) (x2 : Int32) (x3 : Int32) : Option (Int32 × gS) :=
  gfix (fun (rec : Int32 × Int32 → Option (Int32 × gS)) s => f_X10_runs_15_b z (fun x2 x3 => rec (x2, x3)) (s.1) (s.2)) n (x2, x3)
def f_X10_runs (a1 : Int32) (z : gS) : Option (Int32 × gS) :=
  gb (f_X10_setRow a1 z) fun q1 => if q1.1 = 0 then (some ((-2), q1.2)) else (f_X10_runs_15 q1.2 gF (nI 0) (nI 0))
def f_X10_kinship_15_b (z : gS) (K15 : Int32 → Int32 → Option (Int32 × gS)) (x2 : Int32) (x3 : Int32) : Option (Int32 × gS) :=
  if (z 1 0) ≤ x3 then (some (x2, z)) else (gg (x3 - (nI 1)) 7 (gg x3 7 (gb (f_X5_common 1 (z 296 (x3 - (nI 1)).toNatClampNeg) (z 296 x3.toNatClampNeg) z) fun q6 => gl (x2 + q6) fun y7 => K15 y7 (x3 + (nI 1)))))
def f_X10_kinship_15 (z : gS) (n : Nat) (x2 : Int32) (x3 : Int32) : Option (Int32 × gS) :=
  gfix (fun (rec : Int32 × Int32 → Option (Int32 × gS)) s => f_X10_kinship_15_b z (fun x2 x3 => rec (x2, x3)) (s.1) (s.2)) n (x2, x3)
def f_X10_kinship (a1 : Int32) (z : gS) : Option (Int32 × gS) :=
  gb (f_X10_setRow a1 z) fun q1 => if q1.1 = 0 then (some ((-2), q1.2)) else (f_X10_kinship_15 q1.2 gF (nI 0) (nI 1))
def f_X10_kin (a1 : Int32) (z : gS) : Option (Int32 × gS) :=
  if a1 = 0 then (gb (f_X0_make 153 1 z) fun q2 => if a1 = 0 then (some (q2 153 1, q2)) else (gb (f_X0_firstOrder 153 1 q2) fun q4 => some (q4, q2))) else (if a1 = (nI 1) then (gb (f_X0_make 153 1 z) fun q6 => if a1 = 0 then (some (q6 153 1, q6)) else (gb (f_X0_firstOrder 153 1 q6) fun q8 => some (q8, q6))) else (some ((-2), z)))
def f_X10_shared (a1 : Int32) (a2 : Int32) (z : gS) : Option Int32 :=
  gb (f_X5_holds 1 a1 z) fun q1 => if q1 = 0 then (some gm1) else (gb (f_X5_holds 1 a2 z) fun q3 => if q3 = 0 then (some gm1) else (gb (f_X5_common 1 a1 a2 z) fun q5 => some q5))
def f_X10_chain_27_b (z : gS) (K27 : Int32 → Int32 → Int32 → Int32 → Option Int32) (x2 : Int32) (x3 : Int32) (x4 : Int32) (x5 : Int32) : Option Int32 :=
  if (z 1 0) ≤ x5 then (some x4) else (gb (f_X5_nearest 1 x2 x3 z) fun q6 => gl (x3 ||| ((nI 1) <<< (q6 &&& 31))) fun y7 => gl (((x4 * (nI 10)) + q6) + (nI 1)) fun y8 => K27 q6 y7 y8 (x5 + (nI 1)))
def f_X10_chain_27 (z : gS) (n : Nat) (x2 : Int32) (x3 : Int32) (x4 : Int32) (x5 : Int32) : Option Int32 :=
  gfix (fun (rec : Int32 × Int32 × Int32 × Int32 → Option Int32) s => f_X10_chain_27_b z (fun x2 x3 x4 x5 => rec (x2, x3, x4, x5)) (s.1) (s.2.1) (s.2.2.1) (s.2.2.2)) n (x2, x3, x4, x5)
def f_X10_chain (a1 : Int32) (z : gS) : Option Int32 :=
  gb (f_X5_holds 1 a1 z) fun q1 => if q1 = 0 then (some gm1) else (gl ((nI 1) <<< (a1 &&& 31)) fun y3 => gl (a1 + (nI 1)) fun y4 => f_X10_chain_27 z gF a1 y3 y4 (nI 1))
def f_X10_walk_19_b (z : gS) (x1 : Int32) (K19 : Int32 → Int32 → Int32 → Option Int32) (x2 : Int32) (x3 : Int32) (x4 : Int32) : Option Int32 :=
  if (z 1 0) ≤ x4 then (some x3) else (gb (f_X5_foremost 1 x1 x2 z) fun q4 => gl (x2 ||| ((nI 1) <<< (q4 &&& 31))) fun y5 => gl (((x3 * (nI 10)) + q4) + (nI 1)) fun y6 => K19 y5 y6 (x4 + (nI 1)))
def f_X10_walk_19 (z : gS) (x1 : Int32) (n : Nat) (x2 : Int32) (x3 : Int32) (x4 : Int32) : Option Int32 :=
  gfix (fun (rec : Int32 × Int32 × Int32 → Option Int32) s => f_X10_walk_19_b z x1 (fun x2 x3 x4 => rec (x2, x3, x4)) (s.1) (s.2.1) (s.2.2)) n (x2, x3, x4)
def f_X10_walk (a1 : Int32) (z : gS) : Option Int32 :=
  if a1 < 0 then (some (-2)) else (if a1 ≤ (nI 3) then (f_X10_walk_19 z a1 gF (nI 0) (nI 0) (nI 0)) else (some (-2)))
def f_X10_turned_23_b (z : gS) (K23 : Int32 → Int32 → Option (Int32 × gS)) (x2 : Int32) (x3 : Int32) : Option (Int32 × gS) :=
  if x3 < 0 then (some (x2, z)) else (gg x3 7 (gl (((x2 * (nI 10)) + (z 296 x3.toNatClampNeg)) + (nI 1)) fun y6 => K23 y6 (x3 + gm1)))
def f_X10_turned_23 (z : gS) (n : Nat) (x2 : Int32) (x3 : Int32) : Option (Int32 × gS) :=
  gfix (fun (rec : Int32 × Int32 → Option (Int32 × gS)) s => f_X10_turned_23_b z (fun x2 x3 => rec (x2, x3)) (s.1) (s.2)) n (x2, x3)
def f_X10_turned (a1 : Int32) (z : gS) : Option (Int32 × gS) :=
  gb (f_X10_setRow a1 z) fun q1 => if q1.1 = 0 then (some ((-2), q1.2)) else (gl ((q1.2 1 0) - (nI 1)) fun y3 => f_X10_turned_23 q1.2 gF (nI 0) y3)
def f_X10_rank (a1 : Int32) (z : gS) : Option (Int32 × gS) :=
  gb (f_X10_setRow a1 z) fun q1 => if q1.1 = 0 then (some ((-2), q1.2)) else (gb (f_X10_readyPlan  q1.2) fun q3 => gb (f_X3_ahead 13 296 7 (q3 1 0) q3) fun q4 => some (q4, q3))
def f_X10_swap_41_b (z : gS) (x2 : Int32) (x3 : Int32) (K41 : Int32 → Int32 → Option (Int32 × gS)) (x4 : Int32) (x5 : Int32) : Option (Int32 × gS) :=
  if (z 1 0) ≤ x5 then (some (x4, z)) else (gg x5 7 (if (z 296 x5.toNatClampNeg) = x2 then (gl (((x4 * (nI 10)) + x3) + (nI 1)) fun y16 => K41 y16 (x5 + (nI 1))) else (gg x5 7 (if (z 296 x5.toNatClampNeg) = x3 then (gl (((x4 * (nI 10)) + x2) + (nI 1)) fun y15 => K41 y15 (x5 + (nI 1))) else (gg x5 7 (gl (z 296 x5.toNatClampNeg) fun y13 => gl (((x4 * (nI 10)) + y13) + (nI 1)) fun y14 => K41 y14 (x5 + (nI 1))))))))
def f_X10_swap_41 (z : gS) (x2 : Int32) (x3 : Int32) (n : Nat) (x4 : Int32) (x5 : Int32) : Option (Int32 × gS) :=
  gfix (fun (rec : Int32 × Int32 → Option (Int32 × gS)) s => f_X10_swap_41_b z x2 x3 (fun x4 x5 => rec (x4, x5)) (s.1) (s.2)) n (x4, x5)
def f_X10_swap (a1 : Int32) (a2 : Int32) (a3 : Int32) (z : gS) : Option (Int32 × gS) :=
  gb (f_X10_setRow a1 z) fun q1 => if q1.1 = 0 then (some ((-2), q1.2)) else (gb (f_X5_holds 1 a2 q1.2) fun q3 => if q3 = 0 then (some (gm1, q1.2)) else (gb (f_X5_holds 1 a3 q1.2) fun q5 => if q5 = 0 then (some (gm1, q1.2)) else (f_X10_swap_41 q1.2 a2 a3 gF (nI 0) (nI 0))))
def f_X10_feed (a1 : Int32) (z : gS) : Option (Int32 × gS) :=
  if a1 < 0 then (some ((-2), z)) else (if a1 ≤ (nI 127) then (gb (f_X7_append 290 a1 z) fun q3 => if q3.1 = 0 then (some ((-4), q3.2)) else (some (q3.2 290 1, q3.2))) else (some ((-2), z)))
def f_X10_read  (z : gS) : Option (Int32 × gS) :=
  gb (f_X5_become 9 1 z) fun q1 => gb (f_X7_tellTo 290 9 q1) fun q2 => if q2.1 < 0 then (some (q2.1, q2.2)) else (gb (f_X5_become 1 9 q2.2) fun q4 => gl (gup q4 0 13 ((q4 0 13) + (nI 1))) fun z5 => gb (f_X10_siteChanged  z5) fun q6 => some (q2.1, q6))
def f_X10_readySheet  (z : gS) : Option gS :=
  if (z 0 17) = 0 then (gb (f_X4_write 292 1 z) fun q2 => gl (gup q2 0 17 (nI 1)) fun z3 => some z3) else (some z)
def f_X10_spell  (z : gS) : Option (Int32 × gS) :=
  gb (f_X10_readySheet  z) fun q1 => some (q1 292 1, q1)
def f_X10_paper (a1 : Int32) (z : gS) : Option (Int32 × gS) :=
  gb (f_X10_readySheet  z) fun q1 => if a1 < 0 then (some (gm1, q1)) else (if a1 < (q1 292 1) then (gg a1 420 (some (q1 (292 + 1) a1.toNatClampNeg, q1))) else (some (gm1, q1)))
def f_X10_tray_23 (x1 : Int32) (x2 : Int32) (z : gS) : Option (Int32 × gS) :=
  gg x1 4 (if x2 = (nI 1) then (gl (gup z (297 + 3 * x1.toNatClampNeg) 0 (nI 1)) fun z10 => gg x1 4 (gl (gup z10 (297 + 3 * x1.toNatClampNeg) 1 (nI 0)) fun z12 => some ((nI 1), z12))) else (gl (gup z (297 + 3 * x1.toNatClampNeg) 0 (nI 0)) fun z7 => gg x1 4 (gl (gup z7 (297 + 3 * x1.toNatClampNeg) 1 (nI 0)) fun z9 => some ((nI 1), z9))))
def f_X10_tray (a1 : Int32) (a2 : Int32) (z : gS) : Option (Int32 × gS) :=
  if a1 < 0 then (some (gm1, z)) else (if a1 < (nI 4) then (if a2 = 0 then (f_X10_tray_23 a1 a2 z) else (if a2 = (nI 1) then (f_X10_tray_23 a1 a2 z) else (some ((-2), z)))) else (some (gm1, z)))
def f_X10_lay_42_b (x2 : Int32) (x3 : Nat) (K42 : Int32 → gS → Option (Int32 × gS)) (x4 : Int32) (z : gS) : Option (Int32 × gS) :=
  if (z 1 1) ≤ x4 then (some (z x3 1, z)) else (gb (f_X5_owns 1 x2 x4 z) fun q8 => if q8 = 0 then (K42 (x4 + (nI 1)) z) else (gg x4 8 (gb (f_X8_add x3 (z (1 + 3) x4.toNatClampNeg) z) fun q11 => K42 (x4 + (nI 1)) q11)))
def f_X10_lay_42 (x2 : Int32) (x3 : Nat) (n : Nat) (x4 : Int32) (z : gS) : Option (Int32 × gS) :=
  gfix (fun (rec : Int32 × gS → Option (Int32 × gS)) s => f_X10_lay_42_b x2 x3 (fun x4 z => rec (x4, z)) (s.1) (s.2)) n (x4, z)
def f_X10_lay (a1 : Int32) (a2 : Int32) (z : gS) : Option (Int32 × gS) :=
  if a1 < 0 then (some (gm1, z)) else (if (nI 4) ≤ a1 then (some (gm1, z)) else (gb (f_X5_holds 1 a2 z) fun q3 => if q3 = 0 then (some (gm1, z)) else (gg a1 4 (if (z (297 + 3 * a1.toNatClampNeg) 0) = 0 then (some ((-11), z)) else (f_X10_lay_42 a2 (297 + 3 * a1.toNatClampNeg) gF (nI 0) z)))))
def f_X10_laid (a1 : Int32) (a2 : Int32) (z : gS) : Option Int32 :=
  if a1 < 0 then (some gm1) else (if (nI 4) ≤ a1 then (some gm1) else (gb (f_X5_knows 1 a2 z) fun q3 => if q3 = 0 then (some gm1) else (gg a1 4 (if (z (297 + 3 * a1.toNatClampNeg) 0) = 0 then (some (-11)) else (gg a2 8 (gb (f_X8_find (297 + 3 * a1.toNatClampNeg) (z (1 + 3) a2.toNatClampNeg) z) fun q8 => if 0 ≤ q8 then (gg q8 512 (some (z (297 + 3 * a1.toNatClampNeg + 2) q8.toNatClampNeg))) else (some (-5))))))))
def f_X10_list (a1 : Int32) (a2 : Int32) (z : gS) : Option (Int32 × gS) :=
  if a1 < 0 then (some (gm1, z)) else (if a1 < (nI 3) then (if a2 ≤ (nI 30) then (if gm1 ≤ a2 then (gg a1 3 (gb (f_X1_become (309 + 2 * a1.toNatClampNeg) a2 z) fun q6 => some ((nI 1), q6))) else (some ((-14), z))) else (some ((-2), z))) else (some (gm1, z)))
def f_X10_put (a1 : Int32) (a2 : Int32) (a3 : Int32) (z : gS) : Option (Int32 × gS) :=
  if a1 < 0 then (some (gm1, z)) else (if a1 < (nI 3) then (gg a1 3 (gb (f_X1_isMissing (309 + 2 * a1.toNatClampNeg) z) fun q4 => if q4 = 0 then (gb (f_X1_reaches (309 + 2 * a1.toNatClampNeg) a2 z) fun q6 => if q6 = 0 then (some ((-12), z)) else (gg a2 30 (gl (gup z (309 + 2 * a1.toNatClampNeg + 1) a2.toNatClampNeg a3) fun z9 => some ((nI 1), z9)))) else (some ((-11), z)))) else (some (gm1, z)))
def f_X10_get (a1 : Int32) (a2 : Int32) (z : gS) : Option Int32 :=
  if a1 < 0 then (some (-2000000000)) else (if (nI 3) ≤ a1 then (some (-2000000000)) else (gg a1 3 (gb (f_X1_reaches (309 + 2 * a1.toNatClampNeg) a2 z) fun q4 => if q4 = 0 then (some (-2000000000)) else (gg a1 3 (gg a2 30 (some (z (309 + 2 * a1.toNatClampNeg + 1) a2.toNatClampNeg)))))))
def f_X10_fill_64_b (x2 : Int32) (x3 : Nat) (x5 : Int32) (K64 : Int32 → gS → Option (Int32 × gS)) (x6 : Int32) (z : gS) : Option (Int32 × gS) :=
  if x5 ≤ x6 then (some (x5, z)) else (gb (f_X3_pick 13 (x2 + x6) z) fun q11 => gg x6 30 (gl (gup z (x3 + 1) x6.toNatClampNeg q11) fun z13 => K64 (x6 + (nI 1)) z13))
def f_X10_fill_64 (x2 : Int32) (x3 : Nat) (x5 : Int32) (n : Nat) (x6 : Int32) (z : gS) : Option (Int32 × gS) :=
  gfix (fun (rec : Int32 × gS → Option (Int32 × gS)) s => f_X10_fill_64_b x2 x3 x5 (fun x6 z => rec (x6, z)) (s.1) (s.2)) n (x6, z)
def f_X10_fill (a1 : Int32) (a2 : Int32) (z : gS) : Option (Int32 × gS) :=
  if a1 < 0 then (some (gm1, z)) else (if a1 < (nI 3) then (if 0 ≤ a2 then (gg a1 3 (gb (f_X1_isMissing (309 + 2 * a1.toNatClampNeg) z) fun q5 => if q5 = 0 then (gb (f_X10_readyPlan  z) fun q7 => gb (f_X3_smoothOrders 13 q7) fun q8 => gl (if (nI 0) < (if (q8 - a2) < (q7 (309 + 2 * a1.toNatClampNeg) 0) then (q8 - a2) else (q7 (309 + 2 * a1.toNatClampNeg) 0)) then (if (q8 - a2) < (q7 (309 + 2 * a1.toNatClampNeg) 0) then (q8 - a2) else (q7 (309 + 2 * a1.toNatClampNeg) 0)) else (nI 0)) fun y9 => f_X10_fill_64 a2 (309 + 2 * a1.toNatClampNeg) y9 gF (nI 0) q7) else (some ((-11), z)))) else (some ((-2), z))) else (some (gm1, z)))
def f_X10_passes (a1 : Int32) (a2 : Int32) (a3 : Int32) (z : gS) : Option (Int32 × gS) :=
  gb (f_X10_setRow a1 z) fun q1 => if q1.1 = 0 then (some ((nI 0), q1.2)) else (if a3 = (nI 0) then (some ((nI 1), q1.2)) else if a3 = (nI 1) then (gb (f_X10_rowGaps  q1.2) fun q5 => if q5 = 0 then (some ((nI 1), q1.2)) else (some ((nI 0), q1.2))) else (gb (f_X10_rowGaps  q1.2) fun q7 => if q7 = 0 then (gb (f_X10_readyPlan  q1.2) fun q9 => gb (f_X3_ahead 13 296 7 (q9 1 0) q9) fun q10 => if q10 = a2 then (some ((nI 1), q9)) else (some ((nI 0), q9))) else (some ((nI 0), q1.2))))
def f_X10_judge_43_b (x2 : Int32) (x3 : Nat) (K43 : Int32 → gS → Option (Int32 × gS)) (x4 : Int32) (z : gS) : Option (Int32 × gS) :=
  if (z x3 0) ≤ x4 then (some ((-5), z)) else (gg x4 30 (gb (f_X10_passes (z (x3 + 1) x4.toNatClampNeg) x4 x2 z) fun q10 => if q10.1 = 0 then (some (x4, q10.2)) else (K43 (x4 + (nI 1)) q10.2)))
def f_X10_judge_43 (x2 : Int32) (x3 : Nat) (n : Nat) (x4 : Int32) (z : gS) : Option (Int32 × gS) :=
  gfix (fun (rec : Int32 × gS → Option (Int32 × gS)) s => f_X10_judge_43_b x2 x3 (fun x4 z => rec (x4, z)) (s.1) (s.2)) n (x4, z)
def f_X10_judge (a1 : Int32) (a2 : Int32) (z : gS) : Option (Int32 × gS) :=
  if a1 < 0 then (some (gm1, z)) else (if a1 < (nI 3) then (if a2 < 0 then (some ((-2), z)) else (if a2 ≤ (nI 2) then (gg a1 3 (gb (f_X1_isMissing (309 + 2 * a1.toNatClampNeg) z) fun q6 => if q6 = 0 then (f_X10_judge_43 a2 (309 + 2 * a1.toNatClampNeg) gF (nI 0) z) else (some ((-11), z)))) else (some ((-2), z)))) else (some (gm1, z)))
def f_X10_image  (z : gS) : Option (Int32 × gS) :=
  gb (f_X5_become 5 1 z) fun q1 => gl (gup q1 0 14 (nI 1)) fun z2 => some (z2 1 0, z2)
def f_X10_undo  (z : gS) : Option (Int32 × gS) :=
  if (z 0 14) = 0 then (some ((-3), z)) else (gb (f_X5_become 1 5 z) fun q2 => gb (f_X10_siteChanged  q2) fun q3 => some (q3 1 0, q3))
