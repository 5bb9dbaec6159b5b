def f_X11_in (a0 : Int32) (a1 : Int32) (a2 : Int32) (z : gS) : Option Int32 :=
  if a0 < a1 then (some (nI 0)) else (if a2 < a0 then (some (nI 0)) else (some (nI 1)))
def f_X11_has (a0 : Int32) (a1 : Int32) (z : gS) : Option Int32 :=
  if ((a0 >>> (a1 &&& 31)) &&& (nI 1)) = (nI 1) then (some (nI 1)) else (some (nI 0))
def f_X11_bits_4_b (z : gS) (K4 : Int32 → Int32 → Option Int32) (x1 : Int32) (x2 : Int32) : Option Int32 :=
  if x2 = 0 then (some x1) else (gl (x2 &&& (x2 - (nI 1))) fun y2 => K4 (x1 + (nI 1)) y2)
def f_X11_bits_4 (z : gS) (n : Nat) (x1 : Int32) (x2 : Int32) : Option Int32 :=
  gfix (fun (rec : Int32 × Int32 → Option Int32) s => f_X11_bits_4_b z (fun x1 x2 => rec (x1, x2)) (s.1) (s.2)) n (x1, x2)
def f_X11_bits (a0 : Int32) (z : gS) : Option Int32 :=
  f_X11_bits_4 z gF (nI 0) a0
def f_X11_isGrave (a1 : Int32) (z : gS) : Option Int32 :=
  gb (f_X11_in a1 (nI 0) ((z 0 1) - (nI 1)) z) fun q1 => gz q1 (some q1)
def f_X11_isType (a1 : Int32) (z : gS) : Option Int32 :=
  gb (f_X11_in a1 (nI 0) ((z 0 2) - (nI 1)) z) fun q1 => gz q1 (some q1)
def f_X11_grave (a1 : Int32) (z : gS) : Option (Int32 × gS) :=
  gb (f_X11_in a1 (nI 0) (nI 999) z) fun q1 => if q1 = 0 then (some ((-2), z)) else (if (z 0 1) = (nI 7) then (some ((-4), z)) else (gg (z 0 1) 7 (gl (gup z 1 (z 0 1).toNatClampNeg a1) fun z5 => gg (z5 0 1) 7 (gl (gup z5 2 (z5 0 1).toNatClampNeg (nI 0)) fun z7 => gl (gup z7 0 1 ((z7 0 1) + (nI 1))) fun z8 => some ((z8 0 1) - (nI 1), z8)))))
def f_X11_has_ (a1 : Int32) (a2 : Int32) (a3 : Int32) (z : gS) : Option (Int32 × gS) :=
  gb (f_X11_isGrave a1 z) fun q1 => if q1 = 0 then (some (gm1, z)) else (gb (f_X11_isType a2 z) fun q3 => if q3 = 0 then (some (gm1, z)) else (gb (f_X11_in a3 (nI 0) (nI 1) z) fun q5 => if q5 = 0 then (some ((-2), z)) else (gg a1 7 (gl (((z 2 a1.toNatClampNeg) >>> (a2 &&& 31)) &&& (nI 1)) fun y8 => gg a1 7 (gg a1 7 (gl (gup z 2 a1.toNatClampNeg (((z 2 a1.toNatClampNeg) &&& (((nI 1) <<< (a2 &&& 31)) ^^^ gm1)) ||| (a3 <<< (a2 &&& 31)))) fun z11 => some (y8, z11)))))))
def f_X11_peers_4_b (z : gS) (x1 : Int32) (K4 : Int32 → Int32 → Option Int32) (x2 : Int32) (x3 : Int32) : Option Int32 :=
  if (z 0 1) ≤ x3 then (some x2) else (gg x3 7 (gg x1 7 (if (z 2 x3.toNatClampNeg) = (z 2 x1.toNatClampNeg) then (gg x3 7 (gg x1 7 (if ((z 1 x3.toNatClampNeg) - (z 1 x3.toNatClampNeg) / (nI 100) * (nI 100)) = ((z 1 x1.toNatClampNeg) - (z 1 x1.toNatClampNeg) / (nI 100) * (nI 100)) then (gl (x2 + (nI 1)) fun y10 => K4 y10 (x3 + (nI 1))) else (gl (x2 + (nI 0)) fun y9 => K4 y9 (x3 + (nI 1)))))) else (gl (x2 + (nI 0)) fun y5 => K4 y5 (x3 + (nI 1))))))
def f_X11_peers_4 (z : gS) (x1 : Int32) (n : Nat) (x2 : Int32) (x3 : Int32) : Option Int32 :=
  gfix (fun (rec : Int32 × Int32 → Option Int32) s => f_X11_peers_4_b z x1 (fun x2 x3 => rec (x2, x3)) (s.1) (s.2)) n (x2, x3)
def f_X11_peers (a1 : Int32) (z : gS) : Option Int32 :=
  f_X11_peers_4 z a1 gF (nI 0) (nI 0)
def f_X11_sharers_4_b (z : gS) (x1 : Int32) (K4 : Int32 → Int32 → Option Int32) (x2 : Int32) (x3 : Int32) : Option Int32 :=
  if (z 0 1) ≤ x3 then (some x2) else (if x3 = x1 then (gl (x2 + (nI 0)) fun y3 => K4 y3 (x3 + (nI 1))) else (gg x3 7 (gg x1 7 (if ((z 2 x3.toNatClampNeg) &&& (z 2 x1.toNatClampNeg)) = 0 then (gl (x2 + (nI 0)) fun y7 => K4 y7 (x3 + (nI 1))) else (gl (x2 + (nI 1)) fun y8 => K4 y8 (x3 + (nI 1)))))))
def f_X11_sharers_4 (z : gS) (x1 : Int32) (n : Nat) (x2 : Int32) (x3 : Int32) : Option Int32 :=
  gfix (fun (rec : Int32 × Int32 → Option Int32) s => f_X11_sharers_4_b z x1 (fun x2 x3 => rec (x2, x3)) (s.1) (s.2)) n (x2, x3)
def f_X11_sharers (a1 : Int32) (z : gS) : Option Int32 :=
  f_X11_sharers_4 z a1 gF (nI 0) (nI 0)
def f_X11_of (a1 : Int32) (a2 : Int32) (z : gS) : Option Int32 :=
  gb (f_X11_isGrave a1 z) fun q1 => if q1 = 0 then (some gm1) else (if a2 = (nI 0) then (gg a1 7 (some (z 1 a1.toNatClampNeg))) else if a2 = (nI 1) then (gg a1 7 (some (z 2 a1.toNatClampNeg))) else if a2 = (nI 2) then (gb (f_X11_peers a1 z) fun q8 => some q8) else if a2 = (nI 3) then (gb (f_X11_sharers a1 z) fun q10 => some q10) else (some gm1))
def f_X11_letterOf_4_b (z : gS) (K4 : Int32 → Int32 → Option Int32) (x2 : Int32) (x3 : Int32) : Option Int32 :=
  if (nI 5) ≤ x3 then (some (x2 - x2 / (nI 27) * (nI 27))) else (gl (x2 / (nI 27)) fun y2 => K4 y2 (x3 + (nI 1)))
def f_X11_letterOf_4 (z : gS) (n : Nat) (x2 : Int32) (x3 : Int32) : Option Int32 :=
  gfix (fun (rec : Int32 × Int32 → Option Int32) s => f_X11_letterOf_4_b z (fun x2 x3 => rec (x2, x3)) (s.1) (s.2)) n (x2, x3)
def f_X11_letterOf (a0 : Int32) (a1 : Int32) (z : gS) : Option Int32 :=
  f_X11_letterOf_4 z gF a0 a1
def f_X11_lettersOf_2_b (z : gS) (x0 : Int32) (K2 : Int32 → Option Int32) (x1 : Int32) : Option Int32 :=
  if (nI 6) ≤ x1 then (some x1) else (gb (f_X11_letterOf x0 x1 z) fun q2 => if q2 ≤ 0 then (some x1) else (K2 (x1 + (nI 1))))
def f_X11_lettersOf_2 (z : gS) (x0 : Int32) (n : Nat) (x1 : Int32) : Option Int32 :=
  gfix (fun (rec : Int32 → Option Int32) s => f_X11_lettersOf_2_b z x0 (fun x1 => rec (x1)) s) n (x1)
def f_X11_lettersOf (a0 : Int32) (z : gS) : Option Int32 :=
  f_X11_lettersOf_2 z a0 gF (nI 0)
def f_X11_gravesWith_4_b (z : gS) (x1 : Int32) (K4 : Int32 → Int32 → Option Int32) (x2 : Int32) (x3 : Int32) : Option Int32 :=
  if (z 0 1) ≤ x3 then (some x2) else (gg x3 7 (gl (x2 ||| ((((z 2 x3.toNatClampNeg) >>> (x1 &&& 31)) &&& (nI 1)) <<< (x3 &&& 31))) fun y3 => K4 y3 (x3 + (nI 1))))
def f_X11_gravesWith_4 (z : gS) (x1 : Int32) (n : Nat) (x2 : Int32) (x3 : Int32) : Option Int32 :=
  gfix (fun (rec : Int32 × Int32 → Option Int32) s => f_X11_gravesWith_4_b z x1 (fun x2 x3 => rec (x2, x3)) (s.1) (s.2)) n (x2, x3)
def f_X11_gravesWith (a1 : Int32) (z : gS) : Option Int32 :=
  f_X11_gravesWith_4 z a1 gF (nI 0) (nI 0)
def f_X11_type (a1 : Int32) (a2 : Int32) (z : gS) : Option Int32 :=
  gb (f_X11_isType a1 z) fun q1 => if q1 = 0 then (some gm1) else (gb (f_X11_in a2 (nI 0) (nI 7) z) fun q3 => if q3 = 0 then (some gm1) else (if a2 = 0 then (gb (f_X11_gravesWith a1 z) fun q12 => some q12) else (if a2 = (nI 1) then (gg a1 8 (gb (f_X11_lettersOf (z 3 a1.toNatClampNeg) z) fun q11 => some q11)) else (gg a1 8 (gb (f_X11_letterOf (z 3 a1.toNatClampNeg) (a2 - (nI 2)) z) fun q8 => if q8 = 0 then (some gm1) else (some (((nI 97) + q8) - (nI 1))))))))
def f_X11_drop_22_b  (K22 : Int32 → gS → Option (Int32 × gS)) (x2 : Int32) (z : gS) : Option (Int32 × gS) :=
  if (z 0 1) ≤ x2 then (some (z 0 1, z)) else (gg (x2 + (nI 1)) 7 (gg x2 7 (gl (gup z 1 x2.toNatClampNeg (z 1 (x2 + (nI 1)).toNatClampNeg)) fun z7 => gg (x2 + (nI 1)) 7 (gg x2 7 (gl (gup z7 2 x2.toNatClampNeg (z7 2 (x2 + (nI 1)).toNatClampNeg)) fun z10 => K22 (x2 + (nI 1)) z10)))))
def f_X11_drop_22  (n : Nat) (x2 : Int32) (z : gS) : Option (Int32 × gS) :=
  gfix (fun (rec : Int32 × gS → Option (Int32 × gS)) s => f_X11_drop_22_b  (fun x2 z => rec (x2, z)) (s.1) (s.2)) n (x2, z)
def f_X11_drop (a1 : Int32) (z : gS) : Option (Int32 × gS) :=
  gb (f_X11_isGrave a1 z) fun q1 => if q1 = 0 then (some (gm1, z)) else (gl (gup z 0 1 ((z 0 1) - (nI 1))) fun z3 => f_X11_drop_22 gF a1 z3)
def f_X11_partOf_62_b (z : gS) (x3 : Int32) (x4 : Int32) (K6 : Int32 → Int32 → Option Int32) (K62 : Int32 → Int32 → Option Int32) (x2 : Int32) (x5 : Int32) : Option Int32 :=
  if (z 0 1) ≤ x5 then (K6 x2 x3) else (gg x5 7 (if ((z 2 x5.toNatClampNeg) &&& x4) = 0 then (gl (x2 ||| (nI 0)) fun y12 => K62 y12 (x5 + (nI 1))) else (gl (x2 ||| ((nI 1) <<< (x5 &&& 31))) fun y13 => K62 y13 (x5 + (nI 1)))))
def f_X11_partOf_62 (z : gS) (x3 : Int32) (x4 : Int32) (K6 : Int32 → Int32 → Option Int32) (n : Nat) (x2 : Int32) (x5 : Int32) : Option Int32 :=
  gfix (fun (rec : Int32 × Int32 → Option Int32) s => f_X11_partOf_62_b z x3 x4 K6 (fun x2 x5 => rec (x2, x5)) (s.1) (s.2)) n (x2, x5)
def f_X11_partOf_19_b (z : gS) (x2 : Int32) (x3 : Int32) (K6 : Int32 → Int32 → Option Int32) (K19 : Int32 → Int32 → Option Int32) (x4 : Int32) (x5 : Int32) : Option Int32 :=
  if (z 0 1) ≤ x5 then (f_X11_partOf_62 z x3 x4 K6 gF x2 (nI 0)) else (gb (f_X11_has x3 x5 z) fun q4 => if q4 = 0 then (gl (x4 ||| (nI 0)) fun y6 => K19 y6 (x5 + (nI 1))) else (gg x5 7 (gl (x4 ||| (z 2 x5.toNatClampNeg)) fun y8 => K19 y8 (x5 + (nI 1)))))
def f_X11_partOf_19 (z : gS) (x2 : Int32) (x3 : Int32) (K6 : Int32 → Int32 → Option Int32) (n : Nat) (x4 : Int32) (x5 : Int32) : Option Int32 :=
  gfix (fun (rec : Int32 × Int32 → Option Int32) s => f_X11_partOf_19_b z x2 x3 K6 (fun x4 x5 => rec (x4, x5)) (s.1) (s.2)) n (x4, x5)
def f_X11_partOf_6_b (z : gS) (K6 : Int32 → Int32 → Option Int32) (x2 : Int32) (x3 : Int32) : Option Int32 :=
  if x2 = x3 then (some x2) else (f_X11_partOf_19 z x2 x2 K6 gF (nI 0) (nI 0))
def f_X11_partOf_6 (z : gS) (n : Nat) (x2 : Int32) (x3 : Int32) : Option Int32 :=
  gfix (fun (rec : Int32 × Int32 → Option Int32) s => f_X11_partOf_6_b z (fun x2 x3 => rec (x2, x3)) (s.1) (s.2)) n (x2, x3)
def f_X11_partOf (a1 : Int32) (z : gS) : Option Int32 :=
  gl ((nI 1) <<< (a1 &&& 31)) fun y1 => f_X11_partOf_6 z gF y1 (nI 0)
def f_X11_parts_6_b (z : gS) (K6 : Int32 → Int32 → Int32 → Option Int32) (x1 : Int32) (x2 : Int32) (x3 : Int32) : Option Int32 :=
  if (z 0 1) ≤ x3 then (some x2) else (gb (f_X11_has x1 x3 z) fun q2 => if q2 = 0 then (gb (f_X11_partOf x3 z) fun q4 => gl (x1 ||| q4) fun y5 => K6 y5 (x2 + (nI 1)) (x3 + (nI 1))) else (K6 x1 x2 (x3 + (nI 1))))
def f_X11_parts_6 (z : gS) (n : Nat) (x1 : Int32) (x2 : Int32) (x3 : Int32) : Option Int32 :=
  gfix (fun (rec : Int32 × Int32 × Int32 → Option Int32) s => f_X11_parts_6_b z (fun x1 x2 x3 => rec (x1, x2, x3)) (s.1) (s.2.1) (s.2.2)) n (x1, x2, x3)
def f_X11_parts  (z : gS) : Option Int32 :=
  f_X11_parts_6 z gF (nI 0) (nI 0) (nI 0)
def f_X11_bare_4_b (z : gS) (K4 : Int32 → Int32 → Option Int32) (x1 : Int32) (x2 : Int32) : Option Int32 :=
  if (z 0 1) ≤ x2 then (some x1) else (gg x2 7 (if (z 2 x2.toNatClampNeg) = 0 then (gl (x1 + (nI 1)) fun y5 => K4 y5 (x2 + (nI 1))) else (gl (x1 + (nI 0)) fun y4 => K4 y4 (x2 + (nI 1)))))
def f_X11_bare_4 (z : gS) (n : Nat) (x1 : Int32) (x2 : Int32) : Option Int32 :=
  gfix (fun (rec : Int32 × Int32 → Option Int32) s => f_X11_bare_4_b z (fun x1 x2 => rec (x1, x2)) (s.1) (s.2)) n (x1, x2)
def f_X11_bare  (z : gS) : Option Int32 :=
  f_X11_bare_4 z gF (nI 0) (nI 0)
def f_X11_count (a1 : Int32) (z : gS) : Option Int32 :=
  if a1 = (nI 0) then (some (z 0 1)) else if a1 = (nI 1) then (some (z 0 2)) else if a1 = (nI 2) then (gb (f_X11_parts  z) fun q4 => some q4) else if a1 = (nI 3) then (some (z 0 15)) else if a1 = (nI 4) then (some (z 0 16)) else if a1 = (nI 5) then (gb (f_X11_bare  z) fun q8 => some q8) else (some (-2))
def f_X11_begins_7_b (x1 : Int32) (x2 : Int32) (K7 : Int32 → gS → Option gS) (x3 : Int32) (z : gS) : Option gS :=
  if (z 0 1) ≤ x3 then (gl (gup z 0 8 x2) fun z3 => some z3) else (if x3 = x1 then (K7 (x3 + (nI 1)) z) else (gg (z 0 7) 7 (gl (gup z 4 (z 0 7).toNatClampNeg x3) fun z6 => gl (gup z6 0 7 ((z6 0 7) + (nI 1))) fun z7 => K7 (x3 + (nI 1)) z7)))
def f_X11_begins_7 (x1 : Int32) (x2 : Int32) (n : Nat) (x3 : Int32) (z : gS) : Option gS :=
  gfix (fun (rec : Int32 × gS → Option gS) s => f_X11_begins_7_b x1 x2 (fun x3 z => rec (x3, z)) (s.1) (s.2)) n (x3, z)
def f_X11_begins (a1 : Int32) (a2 : Int32) (z : gS) : Option gS :=
  gl (gup z 0 7 (nI 0)) fun z1 => f_X11_begins_7 a1 a2 gF (nI 0) z1
def f_X11_beginsAll  (z : gS) : Option gS :=
  gb (f_X11_begins gm1 (((nI 1) <<< ((z 0 2) &&& 31)) - (nI 1)) z) fun q1 => some q1
def f_X11_goesOn_107_b  (K107 : Int32 → Int32 → gS → Option (Int32 × gS)) (x4 : Int32) (x5 : Int32) (z : gS) : Option (Int32 × gS) :=
  if x4 ≤ x5 then (some ((nI 1), z)) else (gg x5 7 (gl (z 4 x5.toNatClampNeg) fun y24 => gg x4 7 (gg x5 7 (gl (gup z 4 x5.toNatClampNeg (z 4 x4.toNatClampNeg)) fun z27 => gg x4 7 (gl (gup z27 4 x4.toNatClampNeg y24) fun z29 => K107 (x4 + gm1) (x5 + (nI 1)) z29)))))
def f_X11_goesOn_107  (n : Nat) (x4 : Int32) (x5 : Int32) (z : gS) : Option (Int32 × gS) :=
  gfix (fun (rec : Int32 × Int32 × gS → Option (Int32 × gS)) s => f_X11_goesOn_107_b  (fun x4 x5 z => rec (x4, x5, z)) (s.1) (s.2.1) (s.2.2)) n (x4, x5, z)
def f_X11_goesOn_47_b (z : gS) (x1 : Int32) (K47 : Int32 → Option (Int32 × gS)) (x2 : Int32) : Option (Int32 × gS) :=
  gg x2 7 (gg x1 7 (if (z 4 x1.toNatClampNeg) ≤ (z 4 x2.toNatClampNeg) then (gg x1 7 (gl (z 4 x1.toNatClampNeg) fun y14 => gg x2 7 (gg x1 7 (gl (gup z 4 x1.toNatClampNeg (z 4 x2.toNatClampNeg)) fun z17 => gg x2 7 (gl (gup z17 4 x2.toNatClampNeg y14) fun z19 => gl ((z19 0 7) - (nI 1)) fun y20 => gl (x1 + (nI 1)) fun y21 => f_X11_goesOn_107 gF y20 y21 z19))))) else (K47 (x2 + gm1))))
def f_X11_goesOn_47 (z : gS) (x1 : Int32) (n : Nat) (x2 : Int32) : Option (Int32 × gS) :=
  gfix (fun (rec : Int32 → Option (Int32 × gS)) s => f_X11_goesOn_47_b z x1 (fun x2 => rec (x2)) s) n (x2)
def f_X11_goesOn_7_b (z : gS) (K7 : Int32 → Option (Int32 × gS)) (x1 : Int32) : Option (Int32 × gS) :=
  if x1 < 0 then (if 0 ≤ x1 then (gl ((z 0 7) - (nI 1)) fun y4 => f_X11_goesOn_47 z x1 gF y4) else (some ((nI 0), z))) else (gg x1 7 (gg (x1 + (nI 1)) 7 (if (z 4 x1.toNatClampNeg) ≤ (z 4 (x1 + (nI 1)).toNatClampNeg) then (if 0 ≤ x1 then (gl ((z 0 7) - (nI 1)) fun y9 => f_X11_goesOn_47 z x1 gF y9) else (some ((nI 0), z))) else (K7 (x1 + gm1)))))
def f_X11_goesOn_7 (z : gS) (n : Nat) (x1 : Int32) : Option (Int32 × gS) :=
  gfix (fun (rec : Int32 → Option (Int32 × gS)) s => f_X11_goesOn_7_b z (fun x1 => rec (x1)) s) n (x1)
def f_X11_goesOn  (z : gS) : Option (Int32 × gS) :=
  gl ((z 0 7) - (nI 2)) fun y1 => f_X11_goesOn_7 z gF y1
def f_X11_gapsOf_10_b (z : gS) (x1 : Int32) (K10 : Int32 → Int32 → Int32 → Int32 → Option Int32) (x2 : Int32) (x3 : Int32) (x4 : Int32) (x5 : Int32) : Option Int32 :=
  if (z 0 7) ≤ x5 then (if x4 = 0 then (some (nI 0)) else (some (((x3 - x2) + (nI 1)) - x4))) else (gg x5 7 (gg (z 4 x5.toNatClampNeg) 7 (gb (f_X11_has (z 2 (z 4 x5.toNatClampNeg).toNatClampNeg) x1 z) fun q5 => if q5 = 0 then (K10 x2 x3 x4 (x5 + (nI 1))) else (if x2 = gm1 then (K10 x5 x5 (x4 + (nI 1)) (x5 + (nI 1))) else (K10 x2 x5 (x4 + (nI 1)) (x5 + (nI 1)))))))
def f_X11_gapsOf_10 (z : gS) (x1 : Int32) (n : Nat) (x2 : Int32) (x3 : Int32) (x4 : Int32) (x5 : Int32) : Option Int32 :=
  gfix (fun (rec : Int32 × Int32 × Int32 × Int32 → Option Int32) s => f_X11_gapsOf_10_b z x1 (fun x2 x3 x4 x5 => rec (x2, x3, x4, x5)) (s.1) (s.2.1) (s.2.2.1) (s.2.2.2)) n (x2, x3, x4, x5)
def f_X11_gapsOf (a1 : Int32) (z : gS) : Option Int32 :=
  f_X11_gapsOf_10 z a1 gF gm1 gm1 (nI 0) (nI 0)
def f_X11_gapsNow_4_b (z : gS) (K4 : Int32 → Int32 → Option Int32) (x1 : Int32) (x2 : Int32) : Option Int32 :=
  if (z 0 2) ≤ x2 then (some x1) else (gb (f_X11_has (z 0 8) x2 z) fun q2 => if q2 = 0 then (gl (x1 + (nI 0)) fun y4 => K4 y4 (x2 + (nI 1))) else (gb (f_X11_gapsOf x2 z) fun q5 => gl (x1 + q5) fun y6 => K4 y6 (x2 + (nI 1))))
def f_X11_gapsNow_4 (z : gS) (n : Nat) (x1 : Int32) (x2 : Int32) : Option Int32 :=
  gfix (fun (rec : Int32 × Int32 → Option Int32) s => f_X11_gapsNow_4_b z (fun x1 x2 => rec (x1, x2)) (s.1) (s.2)) n (x1, x2)
def f_X11_gapsNow  (z : gS) : Option Int32 :=
  f_X11_gapsNow_4 z gF (nI 0) (nI 0)
def f_X11_digits_4_b (z : gS) (K4 : Int32 → Int32 → Option Int32) (x1 : Int32) (x2 : Int32) : Option Int32 :=
  if (z 0 7) ≤ x2 then (some x1) else (gg x2 7 (gl ((((nI 10) * x1) + (z 4 x2.toNatClampNeg)) + (nI 1)) fun y3 => K4 y3 (x2 + (nI 1))))
def f_X11_digits_4 (z : gS) (n : Nat) (x1 : Int32) (x2 : Int32) : Option Int32 :=
  gfix (fun (rec : Int32 × Int32 → Option Int32) s => f_X11_digits_4_b z (fun x1 x2 => rec (x1, x2)) (s.1) (s.2)) n (x1, x2)
def f_X11_digits  (z : gS) : Option Int32 :=
  f_X11_digits_4 z gF (nI 0) (nI 0)
def f_X11_gaplessOnes_11_b  (K11 : Int32 → gS → Option gS) (x1 : Int32) (z : gS) : Option gS :=
  if x1 = 0 then (some z) else (gb (f_X11_gapsNow  z) fun q4 => if q4 = 0 then (gb (f_X11_digits  z) fun q7 => gg (z 0 10) 5040 (gl (gup z 5 (z 0 10).toNatClampNeg q7) fun z9 => gl (gup z9 0 10 ((z9 0 10) + (nI 1))) fun z10 => gb (f_X11_goesOn  z10) fun q11 => K11 q11.1 q11.2)) else (gb (f_X11_goesOn  z) fun q6 => K11 q6.1 q6.2))
def f_X11_gaplessOnes_11  (n : Nat) (x1 : Int32) (z : gS) : Option gS :=
  gfix (fun (rec : Int32 × gS → Option gS) s => f_X11_gaplessOnes_11_b  (fun x1 z => rec (x1, z)) (s.1) (s.2)) n (x1, z)
def f_X11_gaplessOnes  (z : gS) : Option gS :=
  gl (gup z 0 10 (nI 0)) fun z1 => gb (f_X11_beginsAll  z1) fun q2 => f_X11_gaplessOnes_11 gF (nI 1) q2
def f_X11_isOrder_32_b  (K32 : Int32 → Int32 → Int32 → gS → Option (Int32 × gS)) (x2 : Int32) (x3 : Int32) (x4 : Int32) (z : gS) : Option (Int32 × gS) :=
  if x4 < 0 then (if x2 = 0 then (some ((nI 1), z)) else (some ((nI 0), z))) else (gl ((x2 - x2 / (nI 10) * (nI 10)) - (nI 1)) fun y6 => if x2 ≤ 0 then (some ((nI 0), z)) else (gb (f_X11_isGrave y6 z) fun q8 => if q8 = 0 then (some ((nI 0), z)) else (gb (f_X11_has x3 y6 z) fun q10 => if q10 = 0 then (gl (x3 ||| ((nI 1) <<< (y6 &&& 31))) fun y12 => gg x4 7 (gl (gup z 4 x4.toNatClampNeg y6) fun z14 => gl (x2 / (nI 10)) fun y15 => K32 y15 y12 (x4 + gm1) z14)) else (some ((nI 0), z)))))
def f_X11_isOrder_32  (n : Nat) (x2 : Int32) (x3 : Int32) (x4 : Int32) (z : gS) : Option (Int32 × gS) :=
  gfix (fun (rec : Int32 × Int32 × Int32 × gS → Option (Int32 × gS)) s => f_X11_isOrder_32_b  (fun x2 x3 x4 z => rec (x2, x3, x4, z)) (s.1) (s.2.1) (s.2.2.1) (s.2.2.2)) n (x2, x3, x4, z)
def f_X11_isOrder (a1 : Int32) (z : gS) : Option (Int32 × gS) :=
  gl (gup z 0 7 (z 0 1)) fun z1 => gl (gup z1 0 8 (((nI 1) <<< ((z1 0 2) &&& 31)) - (nI 1))) fun z2 => gl ((z2 0 1) - (nI 1)) fun y3 => f_X11_isOrder_32 gF a1 (nI 0) y3 z2
def f_X11_orders_21_b (x1 : Int32) (K21 : Int32 → Int32 → gS → Option (Int32 × gS)) (x2 : Int32) (x3 : Int32) (z : gS) : Option (Int32 × gS) :=
  if x3 = 0 then (some (x2, z)) else (gb (f_X11_gapsNow  z) fun q5 => if x1 < q5 then (gl (x2 + (nI 0)) fun y7 => gb (f_X11_goesOn  z) fun q8 => K21 y7 q8.1 q8.2) else (gl (x2 + (nI 1)) fun y9 => gb (f_X11_goesOn  z) fun q10 => K21 y9 q10.1 q10.2))
def f_X11_orders_21 (x1 : Int32) (n : Nat) (x2 : Int32) (x3 : Int32) (z : gS) : Option (Int32 × gS) :=
  gfix (fun (rec : Int32 × Int32 × gS → Option (Int32 × gS)) s => f_X11_orders_21_b x1 (fun x2 x3 z => rec (x2, x3, z)) (s.1) (s.2.1) (s.2.2)) n (x2, x3, z)
def f_X11_orders (a1 : Int32) (z : gS) : Option (Int32 × gS) :=
  gb (f_X11_in a1 (nI 0) (nI 60) z) fun q1 => if q1 = 0 then (some ((-2), z)) else (gb (f_X11_beginsAll  z) fun q3 => f_X11_orders_21 a1 gF (nI 0) (nI 1) q3)
def f_X11_gapless (a1 : Int32) (z : gS) : Option (Int32 × gS) :=
  gb (f_X11_gaplessOnes  z) fun q1 => gb (f_X11_in a1 (nI 0) ((q1 0 10) - (nI 1)) q1) fun q2 => if q2 = 0 then (some (gm1, q1)) else (gg a1 5040 (some (q1 5 a1.toNatClampNeg, q1)))
def f_X11_fewest_48 (x1 : Int32) (x6 : Int32) (K26 : Int32 → Int32 → Int32 → Int32 → gS → Option (Int32 × gS)) (z : gS) : Option (Int32 × gS) :=
  gb (f_X11_digits  z) fun q15 => if x6 = x6 then (gl ((nI 0) + (nI 1)) fun y19 => gb (f_X11_goesOn  z) fun q20 => K26 x6 y19 q15 q20.1 q20.2) else (gl ((nI 0) + (nI 0)) fun y17 => gb (f_X11_goesOn  z) fun q18 => K26 x6 y17 q15 q18.1 q18.2)
def f_X11_fewest_26_b (x1 : Int32) (K26 : Int32 → Int32 → Int32 → Int32 → gS → Option (Int32 × gS)) (x2 : Int32) (x3 : Int32) (x4 : Int32) (x5 : Int32) (z : gS) : Option (Int32 × gS) :=
  if x5 = 0 then (if x1 = 0 then (some (x2, z)) else (if x1 = (nI 1) then (some (x3, z)) else (some (x4, z)))) else (gb (f_X11_gapsNow  z) fun q7 => if x2 = gm1 then (f_X11_fewest_48 x1 q7 K26 z) else (if x2 ≤ q7 then (if q7 = x2 then (gl (x3 + (nI 1)) fun y13 => gb (f_X11_goesOn  z) fun q14 => K26 x2 y13 x4 q14.1 q14.2) else (gl (x3 + (nI 0)) fun y11 => gb (f_X11_goesOn  z) fun q12 => K26 x2 y11 x4 q12.1 q12.2)) else (f_X11_fewest_48 x1 q7 K26 z)))
def f_X11_fewest_26 (x1 : Int32) (n : Nat) (x2 : Int32) (x3 : Int32) (x4 : Int32) (x5 : Int32) (z : gS) : Option (Int32 × gS) :=
  gfix (fun (rec : Int32 × Int32 × Int32 × Int32 × gS → Option (Int32 × gS)) s => f_X11_fewest_26_b x1 (fun x2 x3 x4 x5 z => rec (x2, x3, x4, x5, z)) (s.1) (s.2.1) (s.2.2.1) (s.2.2.2.1) (s.2.2.2.2)) n (x2, x3, x4, x5, z)
def f_X11_fewest (a1 : Int32) (z : gS) : Option (Int32 × gS) :=
  gb (f_X11_in a1 (nI 0) (nI 2) z) fun q1 => if q1 = 0 then (some ((-2), z)) else (gb (f_X11_beginsAll  z) fun q3 => f_X11_fewest_26 a1 gF gm1 (nI 0) (nI 0) (nI 1) q3)
def f_X11_ends_110 (x1 : Int32) (x2 : Int32) (x3 : Int32) (x4 : Int32) (x6 : Int32) (x8 : Int32) (K62 : Int32 → Int32 → Int32 → Int32 → gS → Option (Int32 × gS)) (s0 : Int32) (s1 : Int32) (z : gS) : Option (Int32 × gS) :=
  gl (s0 + s1) fun y24 => if x4 = gm1 then (gb (f_X11_digits  z) fun q26 => gb (f_X11_goesOn  z) fun q27 => K62 x8 y24 q26 q27.1 q27.2) else (if x4 ≤ x8 then (gb (f_X11_goesOn  z) fun q29 => K62 x4 y24 x6 q29.1 q29.2) else (gb (f_X11_digits  z) fun q30 => gb (f_X11_goesOn  z) fun q31 => K62 x8 y24 q30 q31.1 q31.2))
def f_X11_ends_62_b (x1 : Int32) (x2 : Int32) (x3 : Int32) (K62 : Int32 → Int32 → Int32 → Int32 → gS → Option (Int32 × gS)) (x4 : Int32) (x5 : Int32) (x6 : Int32) (x7 : Int32) (z : gS) : Option (Int32 × gS) :=
  if x7 = 0 then (if x3 = 0 then (some (x5, z)) else (if x3 = (nI 1) then (some (x4, z)) else (some (x6, z)))) else (gg (nI 0) 7 (if (z 4 (nI 0).toNatClampNeg) = x1 then (gg ((z 0 7) - (nI 1)) 7 (if (z 4 ((z 0 7) - (nI 1)).toNatClampNeg) = x2 then (gb (f_X11_gapsNow  z) fun q22 => if q22 = 0 then (f_X11_ends_110 x1 x2 x3 x4 x6 q22 K62 x5 (nI 1) z) else (f_X11_ends_110 x1 x2 x3 x4 x6 q22 K62 x5 (nI 0) z)) else (gb (f_X11_goesOn  z) fun q21 => K62 x4 x5 x6 q21.1 q21.2))) else (gb (f_X11_goesOn  z) fun q18 => K62 x4 x5 x6 q18.1 q18.2)))
def f_X11_ends_62 (x1 : Int32) (x2 : Int32) (x3 : Int32) (n : Nat) (x4 : Int32) (x5 : Int32) (x6 : Int32) (x7 : Int32) (z : gS) : Option (Int32 × gS) :=
  gfix (fun (rec : Int32 × Int32 × Int32 × Int32 × gS → Option (Int32 × gS)) s => f_X11_ends_62_b x1 x2 x3 (fun x4 x5 x6 x7 z => rec (x4, x5, x6, x7, z)) (s.1) (s.2.1) (s.2.2.1) (s.2.2.2.1) (s.2.2.2.2)) n (x4, x5, x6, x7, z)
def f_X11_ends (a1 : Int32) (a2 : Int32) (a3 : Int32) (z : gS) : Option (Int32 × gS) :=
  gb (f_X11_isGrave a1 z) fun q1 => if q1 = 0 then (some (gm1, z)) else (gb (f_X11_isGrave a2 z) fun q3 => if q3 = 0 then (some (gm1, z)) else (if a1 = a2 then (if (z 0 1) ≤ (nI 1) then (gb (f_X11_in a3 (nI 0) (nI 2) z) fun q10 => if q10 = 0 then (some ((-2), z)) else (gb (f_X11_beginsAll  z) fun q12 => f_X11_ends_62 a1 a2 a3 gF gm1 (nI 0) (nI 0) (nI 1) q12)) else (some ((-5), z))) else (gb (f_X11_in a3 (nI 0) (nI 2) z) fun q6 => if q6 = 0 then (some ((-2), z)) else (gb (f_X11_beginsAll  z) fun q8 => f_X11_ends_62 a1 a2 a3 gF gm1 (nI 0) (nI 0) (nI 1) q8))))
def f_X11_isCluster (a1 : Int32) (z : gS) : Option Int32 :=
  gg a1 128 (if (z 6 a1.toNatClampNeg) = (z 0 10) then (some (nI 1)) else (some (nI 0)))
def f_X11_marks_14_b (x1 : Int32) (K2 : Int32 → gS → Option gS) (K14 : Int32 → Int32 → gS → Option gS) (x2 : Int32) (x3 : Int32) (z : gS) : Option gS :=
  if (z 0 7) ≤ x3 then (K2 (x1 + (nI 1)) z) else (gg x3 7 (gl (x2 ||| ((nI 1) <<< ((z 4 x3.toNatClampNeg) &&& 31))) fun y4 => gg y4 128 (gg y4 128 (gl (gup z 6 y4.toNatClampNeg ((z 6 y4.toNatClampNeg) + (nI 1))) fun z7 => K14 y4 (x3 + (nI 1)) z7))))
def f_X11_marks_14 (x1 : Int32) (K2 : Int32 → gS → Option gS) (n : Nat) (x2 : Int32) (x3 : Int32) (z : gS) : Option gS :=
  gfix (fun (rec : Int32 × Int32 × gS → Option gS) s => f_X11_marks_14_b x1 K2 (fun x2 x3 z => rec (x2, x3, z)) (s.1) (s.2.1) (s.2.2)) n (x2, x3, z)
def f_X11_marks_2_b  (K2 : Int32 → gS → Option gS) (x1 : Int32) (z : gS) : Option gS :=
  if (z 0 7) ≤ x1 then (some z) else (f_X11_marks_14 x1 K2 gF (nI 0) x1 z)
def f_X11_marks_2  (n : Nat) (x1 : Int32) (z : gS) : Option gS :=
  gfix (fun (rec : Int32 × gS → Option gS) s => f_X11_marks_2_b  (fun x1 z => rec (x1, z)) (s.1) (s.2)) n (x1, z)
def f_X11_marks  (z : gS) : Option gS :=
  f_X11_marks_2 gF (nI 0) z
def f_X11_liesTogether_33_b  (K33 : Int32 → gS → Option gS) (x1 : Int32) (z : gS) : Option gS :=
  if x1 = 0 then (some z) else (gb (f_X11_gapsNow  z) fun q7 => if q7 = 0 then (gl (gup z 0 10 ((z 0 10) + (nI 1))) fun z10 => gb (f_X11_marks  z10) fun q11 => gb (f_X11_goesOn  q11) fun q12 => K33 q12.1 q12.2) else (gb (f_X11_goesOn  z) fun q9 => K33 q9.1 q9.2))
def f_X11_liesTogether_33  (n : Nat) (x1 : Int32) (z : gS) : Option gS :=
  gfix (fun (rec : Int32 × gS → Option gS) s => f_X11_liesTogether_33_b  (fun x1 z => rec (x1, z)) (s.1) (s.2)) n (x1, z)
def f_X11_liesTogether_2_b  (K2 : Int32 → gS → Option gS) (x1 : Int32) (z : gS) : Option gS :=
  if (nI 128) ≤ x1 then (gl (gup z 0 10 (nI 0)) fun z2 => gb (f_X11_beginsAll  z2) fun q3 => f_X11_liesTogether_33 gF (nI 1) q3) else (gg x1 128 (gl (gup z 6 x1.toNatClampNeg (nI 0)) fun z5 => K2 (x1 + (nI 1)) z5))
def f_X11_liesTogether_2  (n : Nat) (x1 : Int32) (z : gS) : Option gS :=
  gfix (fun (rec : Int32 × gS → Option gS) s => f_X11_liesTogether_2_b  (fun x1 z => rec (x1, z)) (s.1) (s.2)) n (x1, z)
def f_X11_liesTogether  (z : gS) : Option gS :=
  f_X11_liesTogether_2 gF (nI 0) z
def f_X11_all  (z : gS) : Option Int32 :=
  some (((nI 1) <<< ((z 0 1) &&& 31)) - (nI 1))
def f_X11_isKnot_12_b (z : gS) (x1 : Int32) (K12 : Int32 → Option Int32) (x2 : Int32) : Option Int32 :=
  gb (f_X11_all  z) fun q3 => if q3 < x2 then (some (nI 1)) else (gb (f_X11_isCluster x2 z) fun q5 => if q5 = 0 then (K12 (x2 + (nI 1))) else (if (x2 &&& x1) = 0 then (K12 (x2 + (nI 1))) else (if (x1 &&& (x2 ^^^ gm1)) = 0 then (K12 (x2 + (nI 1))) else (if (x2 &&& (x1 ^^^ gm1)) = 0 then (K12 (x2 + (nI 1))) else (some (nI 0))))))
def f_X11_isKnot_12 (z : gS) (x1 : Int32) (n : Nat) (x2 : Int32) : Option Int32 :=
  gfix (fun (rec : Int32 → Option Int32) s => f_X11_isKnot_12_b z x1 (fun x2 => rec (x2)) s) n (x2)
def f_X11_isKnot (a1 : Int32) (z : gS) : Option Int32 :=
  gb (f_X11_isCluster a1 z) fun q1 => if q1 = 0 then (some (nI 0)) else (f_X11_isKnot_12 z a1 gF (nI 1))
def f_X11_tellsKnots_30_b (x1 : Int32) (K20 : Int32 → gS → Option (Int32 × gS)) (K30 : Int32 → gS → Option (Int32 × gS)) (x2 : Int32) (z : gS) : Option (Int32 × gS) :=
  gb (f_X11_all  z) fun q5 => if q5 < x2 then (K20 (x1 + (nI 1)) z) else (gb (f_X11_bits x2 z) fun q7 => if q7 = x1 then (gb (f_X11_isKnot x2 z) fun q9 => if q9 = 0 then (K30 (x2 + (nI 1)) z) else (gg (z 0 13) 128 (gl (gup z 7 (z 0 13).toNatClampNeg x2) fun z12 => gl (gup z12 0 13 ((z12 0 13) + (nI 1))) fun z13 => K30 (x2 + (nI 1)) z13))) else (K30 (x2 + (nI 1)) z))
def f_X11_tellsKnots_30 (x1 : Int32) (K20 : Int32 → gS → Option (Int32 × gS)) (n : Nat) (x2 : Int32) (z : gS) : Option (Int32 × gS) :=
  gfix (fun (rec : Int32 × gS → Option (Int32 × gS)) s => f_X11_tellsKnots_30_b x1 K20 (fun x2 z => rec (x2, z)) (s.1) (s.2)) n (x2, z)
def f_X11_tellsKnots_20_b  (K20 : Int32 → gS → Option (Int32 × gS)) (x1 : Int32) (z : gS) : Option (Int32 × gS) :=
  if (z 0 1) < x1 then (some ((nI 1), z)) else (f_X11_tellsKnots_30 x1 K20 gF (nI 1) z)
def f_X11_tellsKnots_20  (n : Nat) (x1 : Int32) (z : gS) : Option (Int32 × gS) :=
  gfix (fun (rec : Int32 × gS → Option (Int32 × gS)) s => f_X11_tellsKnots_20_b  (fun x1 z => rec (x1, z)) (s.1) (s.2)) n (x1, z)
def f_X11_tellsKnots  (z : gS) : Option (Int32 × gS) :=
  gb (f_X11_liesTogether  z) fun q1 => gl (gup q1 0 13 (nI 0)) fun z2 => if (z2 0 10) = 0 then (some ((nI 0), z2)) else (f_X11_tellsKnots_20 gF (nI 1) z2)
def f_X11_above_4_b (z : gS) (x1 : Int32) (K4 : Int32 → Option Int32) (x2 : Int32) : Option Int32 :=
  if (z 0 13) ≤ x2 then (some (-5)) else (gg x2 128 (gg x1 128 (if (z 7 x2.toNatClampNeg) = (z 7 x1.toNatClampNeg) then (K4 (x2 + (nI 1))) else (gg x1 128 (gg x2 128 (if ((z 7 x1.toNatClampNeg) &&& ((z 7 x2.toNatClampNeg) ^^^ gm1)) = 0 then (some x2) else (K4 (x2 + (nI 1)))))))))
def f_X11_above_4 (z : gS) (x1 : Int32) (n : Nat) (x2 : Int32) : Option Int32 :=
  gfix (fun (rec : Int32 → Option Int32) s => f_X11_above_4_b z x1 (fun x2 => rec (x2)) s) n (x2)
def f_X11_above (a1 : Int32) (z : gS) : Option Int32 :=
  gl (a1 + (nI 1)) fun y1 => f_X11_above_4 z a1 gF y1
def f_X11_childrenOf_4_b (z : gS) (x1 : Int32) (K4 : Int32 → Int32 → Option Int32) (x2 : Int32) (x3 : Int32) : Option Int32 :=
  if x1 ≤ x3 then (some x2) else (gb (f_X11_above x3 z) fun q2 => if q2 = x1 then (gl (x2 + (nI 1)) fun y5 => K4 y5 (x3 + (nI 1))) else (gl (x2 + (nI 0)) fun y4 => K4 y4 (x3 + (nI 1))))
def f_X11_childrenOf_4 (z : gS) (x1 : Int32) (n : Nat) (x2 : Int32) (x3 : Int32) : Option Int32 :=
  gfix (fun (rec : Int32 × Int32 → Option Int32) s => f_X11_childrenOf_4_b z x1 (fun x2 x3 => rec (x2, x3)) (s.1) (s.2)) n (x2, x3)
def f_X11_childrenOf (a1 : Int32) (z : gS) : Option Int32 :=
  f_X11_childrenOf_4 z a1 gF (nI 0) (nI 0)
def f_X11_sortOf_32_b (z : gS) (x1 : Int32) (x3 : Int32) (K24 : Int32 → Option Int32) (K32 : Int32 → Option Int32) (x4 : Int32) : Option Int32 :=
  if x3 ≤ x4 then (K24 (x3 + (nI 1))) else (gb (f_X11_above x3 z) fun q6 => if q6 = x1 then (gb (f_X11_above x4 z) fun q8 => if q8 = x1 then (gg x3 128 (gg x4 128 (gb (f_X11_isCluster ((z 7 x3.toNatClampNeg) ||| (z 7 x4.toNatClampNeg)) z) fun q12 => if q12 = 0 then (K32 (x4 + (nI 1))) else (some (nI 2))))) else (K32 (x4 + (nI 1)))) else (K32 (x4 + (nI 1))))
def f_X11_sortOf_32 (z : gS) (x1 : Int32) (x3 : Int32) (K24 : Int32 → Option Int32) (n : Nat) (x4 : Int32) : Option Int32 :=
  gfix (fun (rec : Int32 → Option Int32) s => f_X11_sortOf_32_b z x1 x3 K24 (fun x4 => rec (x4)) s) n (x4)
def f_X11_sortOf_24_b (z : gS) (x1 : Int32) (K24 : Int32 → Option Int32) (x3 : Int32) : Option Int32 :=
  if x1 ≤ x3 then (some (nI 1)) else (f_X11_sortOf_32 z x1 x3 K24 gF (nI 0))
def f_X11_sortOf_24 (z : gS) (x1 : Int32) (n : Nat) (x3 : Int32) : Option Int32 :=
  gfix (fun (rec : Int32 → Option Int32) s => f_X11_sortOf_24_b z x1 (fun x3 => rec (x3)) s) n (x3)
def f_X11_sortOf (a1 : Int32) (z : gS) : Option Int32 :=
  gb (f_X11_childrenOf a1 z) fun q1 => if (nI 3) ≤ q1 then (f_X11_sortOf_24 z a1 gF (nI 0)) else (if (nI 2) ≤ q1 then (some (nI 1)) else (some (nI 0)))
def f_X11_clusters_18_b (z : gS) (K18 : Int32 → Int32 → Option (Int32 × gS)) (x1 : Int32) (x2 : Int32) : Option (Int32 × gS) :=
  gb (f_X11_all  z) fun q3 => if q3 < x2 then (some (x1, z)) else (gb (f_X11_isCluster x2 z) fun q5 => if q5 = 0 then (gl (x1 + (nI 0)) fun y7 => K18 y7 (x2 + (nI 1))) else (gl (x1 + (nI 1)) fun y8 => K18 y8 (x2 + (nI 1))))
def f_X11_clusters_18 (z : gS) (n : Nat) (x1 : Int32) (x2 : Int32) : Option (Int32 × gS) :=
  gfix (fun (rec : Int32 × Int32 → Option (Int32 × gS)) s => f_X11_clusters_18_b z (fun x1 x2 => rec (x1, x2)) (s.1) (s.2)) n (x1, x2)
def f_X11_clusters  (z : gS) : Option (Int32 × gS) :=
  gb (f_X11_liesTogether  z) fun q1 => if (q1 0 10) = 0 then (some ((-3), q1)) else (f_X11_clusters_18 q1 gF (nI 0) (nI 1))
def f_X11_knotsOf_4_b (z : gS) (x1 : Int32) (K4 : Int32 → Int32 → Option Int32) (x2 : Int32) (x3 : Int32) : Option Int32 :=
  if (z 0 13) ≤ x3 then (some x2) else (gb (f_X11_sortOf x3 z) fun q2 => if q2 = x1 then (gl (x2 + (nI 1)) fun y5 => K4 y5 (x3 + (nI 1))) else (gl (x2 + (nI 0)) fun y4 => K4 y4 (x3 + (nI 1))))
def f_X11_knotsOf_4 (z : gS) (x1 : Int32) (n : Nat) (x2 : Int32) (x3 : Int32) : Option Int32 :=
  gfix (fun (rec : Int32 × Int32 → Option Int32) s => f_X11_knotsOf_4_b z x1 (fun x2 x3 => rec (x2, x3)) (s.1) (s.2)) n (x2, x3)
def f_X11_knotsOf (a1 : Int32) (z : gS) : Option Int32 :=
  f_X11_knotsOf_4 z a1 gF (nI 0) (nI 0)
def f_X11_knots (a1 : Int32) (z : gS) : Option (Int32 × gS) :=
  gb (f_X11_in a1 (nI 0) (nI 2) z) fun q1 => if q1 = 0 then (some ((-2), z)) else (gb (f_X11_tellsKnots  z) fun q3 => if q3.1 = 0 then (some ((-3), q3.2)) else (if a1 = 0 then (some (q3.2 0 13, q3.2)) else (gb (f_X11_knotsOf a1 q3.2) fun q6 => some (q6, q3.2))))
def f_X11_knot (a1 : Int32) (a2 : Int32) (z : gS) : Option (Int32 × gS) :=
  gb (f_X11_tellsKnots  z) fun q1 => if q1.1 = 0 then (some ((-3), q1.2)) else (gb (f_X11_in a1 (nI 0) ((q1.2 0 13) - (nI 1)) q1.2) fun q3 => if q3 = 0 then (some (gm1, q1.2)) else (if a2 = (nI 0) then (gg a1 128 (some (q1.2 7 a1.toNatClampNeg, q1.2))) else if a2 = (nI 1) then (gb (f_X11_sortOf a1 q1.2) fun q8 => some (q8, q1.2)) else if a2 = (nI 2) then (some (gm1, q1.2)) else if a2 = (nI 3) then (gb (f_X11_childrenOf a1 q1.2) fun q11 => some (q11, q1.2)) else if a2 = (nI 4) then (gb (f_X11_above a1 q1.2) fun q13 => some (q13, q1.2)) else (some (gm1, q1.2))))
def f_X11_told_53_b (z : gS) (x3 : Int32) (x4 : Int32) (K15 : Int64 → Int32 → Option (Int64 × gS)) (K53 : Int64 → Int32 → Option (Int64 × gS)) (x1 : Int64) (x5 : Int32) : Option (Int64 × gS) :=
  if x5 ≤ (nI 1) then (K15 x1 (x3 + (nI 1))) else (if x4 = (nI 1) then (gl (x1 * x5.toInt64) fun y12 => K53 y12 (x5 + gm1)) else (K15 x1 (x3 + (nI 1))))
def f_X11_told_53 (z : gS) (x3 : Int32) (x4 : Int32) (K15 : Int64 → Int32 → Option (Int64 × gS)) (n : Nat) (x1 : Int64) (x5 : Int32) : Option (Int64 × gS) :=
  gfix (fun (rec : Int64 × Int32 → Option (Int64 × gS)) s => f_X11_told_53_b z x3 x4 K15 (fun x1 x5 => rec (x1, x5)) (s.1) (s.2)) n (x1, x5)
def f_X11_told_15_b (z : gS) (K15 : Int64 → Int32 → Option (Int64 × gS)) (x1 : Int64) (x3 : Int32) : Option (Int64 × gS) :=
  if (z 0 13) ≤ x3 then (some (x1, z)) else (gb (f_X11_sortOf x3 z) fun q4 => if q4 = (nI 2) then (gl (x1 * 2) fun y8 => gb (f_X11_childrenOf x3 z) fun q9 => f_X11_told_53 z x3 q4 K15 gF y8 q9) else (gl (x1 * 1) fun y6 => gb (f_X11_childrenOf x3 z) fun q7 => f_X11_told_53 z x3 q4 K15 gF y6 q7))
def f_X11_told_15 (z : gS) (n : Nat) (x1 : Int64) (x3 : Int32) : Option (Int64 × gS) :=
  gfix (fun (rec : Int64 × Int32 → Option (Int64 × gS)) s => f_X11_told_15_b z (fun x1 x3 => rec (x1, x3)) (s.1) (s.2)) n (x1, x3)
def f_X11_told  (z : gS) : Option (Int64 × gS) :=
  gb (f_X11_tellsKnots  z) fun q1 => if q1.1 = 0 then (some ((-9223372036854775808), q1.2)) else (f_X11_told_15 q1.2 gF 1 (nI 0))
def f_X11_isGaplessBy_8_b  (K8 : Int32 → gS → Option (Int32 × gS)) (x3 : Int32) (z : gS) : Option (Int32 × gS) :=
  if x3 = 0 then (some ((nI 0), z)) else (gb (f_X11_gapsNow  z) fun q3 => if q3 = 0 then (some ((nI 1), z)) else (gb (f_X11_goesOn  z) fun q5 => K8 q5.1 q5.2))
def f_X11_isGaplessBy_8  (n : Nat) (x3 : Int32) (z : gS) : Option (Int32 × gS) :=
  gfix (fun (rec : Int32 × gS → Option (Int32 × gS)) s => f_X11_isGaplessBy_8_b  (fun x3 z => rec (x3, z)) (s.1) (s.2)) n (x3, z)
def f_X11_isGaplessBy (a1 : Int32) (a2 : Int32) (z : gS) : Option (Int32 × gS) :=
  gb (f_X11_begins a1 a2 z) fun q1 => f_X11_isGaplessBy_8 gF (nI 1) q1
def f_X11_spoilers_21 (x1 : Int32) (x2 : Int32) (x3 : Int32) (K4 : Int32 → Int32 → gS → Option (Int32 × gS)) (s0 : Int32) (s1 : Int32) (z : gS) : Option (Int32 × gS) :=
  if s1 ≤ s0 then (some (x2, z)) else (if x1 = (nI 1) then (gb (f_X11_isGaplessBy gm1 ((((nI 1) <<< ((z 0 2) &&& 31)) - (nI 1)) &&& (((nI 1) <<< (x3 &&& 31)) ^^^ gm1)) z) fun q8 => if q8.1 = 0 then (gl (x2 ||| (nI 0)) fun y10 => K4 y10 (x3 + (nI 1)) q8.2) else (gl (x2 ||| ((nI 1) <<< (x3 &&& 31))) fun y11 => K4 y11 (x3 + (nI 1)) q8.2)) else (gb (f_X11_isGaplessBy x3 (((nI 1) <<< ((z 0 2) &&& 31)) - (nI 1)) z) fun q4 => if q4.1 = 0 then (gl (x2 ||| (nI 0)) fun y6 => K4 y6 (x3 + (nI 1)) q4.2) else (gl (x2 ||| ((nI 1) <<< (x3 &&& 31))) fun y7 => K4 y7 (x3 + (nI 1)) q4.2)))
def f_X11_spoilers_4_b (x1 : Int32) (K4 : Int32 → Int32 → gS → Option (Int32 × gS)) (x2 : Int32) (x3 : Int32) (z : gS) : Option (Int32 × gS) :=
  if x1 = (nI 1) then (f_X11_spoilers_21 x1 x2 x3 K4 x3 (z 0 2) z) else (f_X11_spoilers_21 x1 x2 x3 K4 x3 (z 0 1) z)
def f_X11_spoilers_4 (x1 : Int32) (n : Nat) (x2 : Int32) (x3 : Int32) (z : gS) : Option (Int32 × gS) :=
  gfix (fun (rec : Int32 × Int32 × gS → Option (Int32 × gS)) s => f_X11_spoilers_4_b x1 (fun x2 x3 z => rec (x2, x3, z)) (s.1) (s.2.1) (s.2.2)) n (x2, x3, z)
def f_X11_spoilers (a1 : Int32) (z : gS) : Option (Int32 × gS) :=
  f_X11_spoilers_4 a1 gF (nI 0) (nI 0) z
def f_X11_least_2_b (z : gS) (x0 : Int32) (K2 : Int32 → Option Int32) (x1 : Int32) : Option Int32 :=
  if x0 = 0 then (if x0 = 0 then (some (-5)) else (some x1)) else (gb (f_X11_has x0 x1 z) fun q3 => if q3 = 0 then (K2 (x1 + (nI 1))) else (if x0 = 0 then (some (-5)) else (some x1)))
def f_X11_least_2 (z : gS) (x0 : Int32) (n : Nat) (x1 : Int32) : Option Int32 :=
  gfix (fun (rec : Int32 → Option Int32) s => f_X11_least_2_b z x0 (fun x1 => rec (x1)) s) n (x1)
def f_X11_least (a0 : Int32) (z : gS) : Option Int32 :=
  f_X11_least_2 z a0 gF (nI 0)
def f_X11_spoils (a1 : Int32) (z : gS) : Option (Int32 × gS) :=
  gb (f_X11_in a1 (nI 0) (nI 2) z) fun q1 => if q1 = 0 then (some ((-2), z)) else (gb (f_X11_isGaplessBy gm1 (((nI 1) <<< ((z 0 2) &&& 31)) - (nI 1)) z) fun q3 => if q3.1 = 0 then (gb (f_X11_spoilers a1 q3.2) fun q5 => if a1 = (nI 2) then (gb (f_X11_least q5.1 q5.2) fun q7 => some (q7, q5.2)) else (some (q5.1, q5.2))) else (if a1 = (nI 2) then (gb (f_X11_least (nI 0) q3.2) fun q9 => some (q9, q3.2)) else (some ((nI 0), q3.2))))
def f_X11_gaps (a1 : Int32) (z : gS) : Option (Int32 × gS) :=
  gb (f_X11_isOrder a1 z) fun q1 => if q1.1 = 0 then (some ((-2), q1.2)) else (gb (f_X11_gapsNow  q1.2) fun q3 => some (q3, q1.2))
def f_X11_runs_15_b (z : gS) (K15 : Int32 → Int32 → Option (Int32 × gS)) (x2 : Int32) (x3 : Int32) : Option (Int32 × gS) :=
  if (z 0 2) ≤ x3 then (some (x2, z)) else (gb (f_X11_gapsOf x3 z) fun q4 => if q4 = 0 then (gl (x2 ||| ((nI 1) <<< (x3 &&& 31))) fun y7 => K15 y7 (x3 + (nI 1))) else (gl (x2 ||| (nI 0)) fun y6 => K15 y6 (x3 + (nI 1))))
def f_X11_runs_15 (z : gS) (n : Nat) (x2 : Int32) (x3 : Int32) : Option (Int32 × gS) :=
  gfix (fun (rec : Int32 × Int32 → Option (Int32 × gS)) s => f_X11_runs_15_b z (fun x2 x3 => rec (x2, x3)) (s.1) (s.2)) n (x2, x3)
def f_X11_runs (a1 : Int32) (z : gS) : Option (Int32 × gS) :=
  gb (f_X11_isOrder a1 z) fun q1 => if q1.1 = 0 then (some ((-2), q1.2)) else (f_X11_runs_15 q1.2 gF (nI 0) (nI 0))
def f_X11_kinshipNow_4_b (z : gS) (K4 : Int32 → Int32 → Option Int32) (x1 : Int32) (x2 : Int32) : Option Int32 :=
  if (z 0 7) ≤ x2 then (some x1) else (gg x2 7 (gg (z 4 x2.toNatClampNeg) 7 (gg (x2 - (nI 1)) 7 (gg (z 4 (x2 - (nI 1)).toNatClampNeg) 7 (gb (f_X11_bits ((z 2 (z 4 x2.toNatClampNeg).toNatClampNeg) &&& (z 2 (z 4 (x2 - (nI 1)).toNatClampNeg).toNatClampNeg)) z) fun q6 => gl (x1 + q6) fun y7 => K4 y7 (x2 + (nI 1)))))))
def f_X11_kinshipNow_4 (z : gS) (n : Nat) (x1 : Int32) (x2 : Int32) : Option Int32 :=
  gfix (fun (rec : Int32 × Int32 → Option Int32) s => f_X11_kinshipNow_4_b z (fun x1 x2 => rec (x1, x2)) (s.1) (s.2)) n (x1, x2)
def f_X11_kinshipNow  (z : gS) : Option Int32 :=
  f_X11_kinshipNow_4 z gF (nI 0) (nI 1)
def f_X11_kinship (a1 : Int32) (z : gS) : Option (Int32 × gS) :=
  gb (f_X11_isOrder a1 z) fun q1 => if q1.1 = 0 then (some ((-2), q1.2)) else (gb (f_X11_kinshipNow  q1.2) fun q3 => some (q3, q1.2))
def f_X11_kin_23_b (x1 : Int32) (K23 : Int32 → Int32 → Int32 → gS → Option (Int32 × gS)) (x2 : Int32) (x3 : Int32) (x4 : Int32) (z : gS) : Option (Int32 × gS) :=
  if x4 = 0 then (if x1 = 0 then (some (x2, z)) else (some (x3, z))) else (gb (f_X11_kinshipNow  z) fun q6 => if q6 ≤ x2 then (gb (f_X11_goesOn  z) fun q8 => K23 x2 x3 q8.1 q8.2) else (gb (f_X11_digits  z) fun q9 => gb (f_X11_goesOn  z) fun q10 => K23 q6 q9 q10.1 q10.2))
def f_X11_kin_23 (x1 : Int32) (n : Nat) (x2 : Int32) (x3 : Int32) (x4 : Int32) (z : gS) : Option (Int32 × gS) :=
  gfix (fun (rec : Int32 × Int32 × Int32 × gS → Option (Int32 × gS)) s => f_X11_kin_23_b x1 (fun x2 x3 x4 z => rec (x2, x3, x4, z)) (s.1) (s.2.1) (s.2.2.1) (s.2.2.2)) n (x2, x3, x4, z)
def f_X11_kin (a1 : Int32) (z : gS) : Option (Int32 × gS) :=
  gb (f_X11_in a1 (nI 0) (nI 1) z) fun q1 => if q1 = 0 then (some ((-2), z)) else (gb (f_X11_beginsAll  z) fun q3 => f_X11_kin_23 a1 gF gm1 (nI 0) (nI 1) q3)
def f_X11_shared (a1 : Int32) (a2 : Int32) (z : gS) : Option Int32 :=
  gb (f_X11_isGrave a1 z) fun q1 => if q1 = 0 then (some gm1) else (gb (f_X11_isGrave a2 z) fun q3 => if q3 = 0 then (some gm1) else (gg a1 7 (gg a2 7 (gb (f_X11_bits ((z 2 a1.toNatClampNeg) &&& (z 2 a2.toNatClampNeg)) z) fun q7 => some q7))))
def f_X11_chain_83 (x2 : Int32) (x3 : Int32) (x4 : Int32) (x5 : Int32) (x6 : Int32) (K21 : Int32 → Int32 → Int32 → Option Int32) (K35 : Int32 → Int32 → Option Int32) (s0 : Int32) (z : gS) : Option Int32 :=
  if 0 < s0 then (K35 x6 (x6 + (nI 1))) else (if s0 = 0 then (gg x6 7 (gg x5 7 (if (z 1 x5.toNatClampNeg) ≤ (z 1 x6.toNatClampNeg) then (K35 x5 (x6 + (nI 1))) else (K35 x6 (x6 + (nI 1)))))) else (K35 x5 (x6 + (nI 1))))
def f_X11_chain_35_b (z : gS) (x2 : Int32) (x3 : Int32) (x4 : Int32) (K21 : Int32 → Int32 → Int32 → Option Int32) (K35 : Int32 → Int32 → Option Int32) (x5 : Int32) (x6 : Int32) : Option Int32 :=
  if (z 0 1) ≤ x6 then (gl ((((nI 10) * x2) + x5) + (nI 1)) fun y8 => gl (x3 ||| ((nI 1) <<< (x5 &&& 31))) fun y9 => K21 y8 y9 x5) else (gb (f_X11_has x3 x6 z) fun q10 => if q10 = 0 then (if x5 = gm1 then (f_X11_chain_83 x2 x3 x4 x5 x6 K21 K35 (nI 1) z) else (gb (f_X11_shared x4 x6 z) fun q13 => gb (f_X11_shared x4 x5 z) fun q14 => f_X11_chain_83 x2 x3 x4 x5 x6 K21 K35 (q13 - q14) z)) else (K35 x5 (x6 + (nI 1))))
def f_X11_chain_35 (z : gS) (x2 : Int32) (x3 : Int32) (x4 : Int32) (K21 : Int32 → Int32 → Int32 → Option Int32) (n : Nat) (x5 : Int32) (x6 : Int32) : Option Int32 :=
  gfix (fun (rec : Int32 × Int32 → Option Int32) s => f_X11_chain_35_b z x2 x3 x4 K21 (fun x5 x6 => rec (x5, x6)) (s.1) (s.2)) n (x5, x6)
def f_X11_chain_21_b (z : gS) (K21 : Int32 → Int32 → Int32 → Option Int32) (x2 : Int32) (x3 : Int32) (x4 : Int32) : Option Int32 :=
  gb (f_X11_all  z) fun q5 => if x3 = q5 then (some x2) else (f_X11_chain_35 z x2 x3 x4 K21 gF gm1 (nI 0))
def f_X11_chain_21 (z : gS) (n : Nat) (x2 : Int32) (x3 : Int32) (x4 : Int32) : Option Int32 :=
  gfix (fun (rec : Int32 × Int32 × Int32 → Option Int32) s => f_X11_chain_21_b z (fun x2 x3 x4 => rec (x2, x3, x4)) (s.1) (s.2.1) (s.2.2)) n (x2, x3, x4)
def f_X11_chain (a1 : Int32) (z : gS) : Option Int32 :=
  gb (f_X11_isGrave a1 z) fun q1 => if q1 = 0 then (some gm1) else (gl (a1 + (nI 1)) fun y3 => gl ((nI 1) <<< (a1 &&& 31)) fun y4 => f_X11_chain_21 z gF y3 y4 a1)
def f_X11_keyOf (a1 : Int32) (a2 : Int32) (z : gS) : Option Int32 :=
  if a1 = 0 then (gg a2 7 (some (z 1 a2.toNatClampNeg))) else (if a1 = (nI 1) then (gg a2 7 (gb (f_X11_bits (z 2 a2.toNatClampNeg) z) fun q7 => some (-q7))) else (if a1 = (nI 2) then (gb (f_X11_sharers a2 z) fun q5 => some (-q5)) else (gg a2 7 (some (z 2 a2.toNatClampNeg)))))
def f_X11_walk_34_b (z : gS) (x1 : Int32) (x2 : Int32) (x3 : Int32) (x4 : Int32) (K19 : Int32 → Int32 → Int32 → Option Int32) (K34 : Int32 → Int32 → Option Int32) (x5 : Int32) (x6 : Int32) : Option Int32 :=
  if (z 0 1) ≤ x6 then (gl ((((nI 10) * x2) + x5) + (nI 1)) fun y5 => gl (x3 ||| ((nI 1) <<< (x5 &&& 31))) fun y6 => K19 y5 y6 (x4 + (nI 1))) else (gb (f_X11_has x3 x6 z) fun q7 => if q7 = 0 then (if x5 = gm1 then (K34 x6 (x6 + (nI 1))) else (gb (f_X11_keyOf x1 x6 z) fun q10 => gb (f_X11_keyOf x1 x5 z) fun q11 => if q11 ≤ q10 then (K34 x5 (x6 + (nI 1))) else (K34 x6 (x6 + (nI 1))))) else (K34 x5 (x6 + (nI 1))))
def f_X11_walk_34 (z : gS) (x1 : Int32) (x2 : Int32) (x3 : Int32) (x4 : Int32) (K19 : Int32 → Int32 → Int32 → Option Int32) (n : Nat) (x5 : Int32) (x6 : Int32) : Option Int32 :=
  gfix (fun (rec : Int32 × Int32 → Option Int32) s => f_X11_walk_34_b z x1 x2 x3 x4 K19 (fun x5 x6 => rec (x5, x6)) (s.1) (s.2)) n (x5, x6)
def f_X11_walk_19_b (z : gS) (x1 : Int32) (K19 : Int32 → Int32 → Int32 → Option Int32) (x2 : Int32) (x3 : Int32) (x4 : Int32) : Option Int32 :=
  if (z 0 1) ≤ x4 then (some x2) else (f_X11_walk_34 z x1 x2 x3 x4 K19 gF gm1 (nI 0))
def f_X11_walk_19 (z : gS) (x1 : Int32) (n : Nat) (x2 : Int32) (x3 : Int32) (x4 : Int32) : Option Int32 :=
  gfix (fun (rec : Int32 × Int32 × Int32 → Option Int32) s => f_X11_walk_19_b z x1 (fun x2 x3 x4 => rec (x2, x3, x4)) (s.1) (s.2.1) (s.2.2)) n (x2, x3, x4)
def f_X11_walk (a1 : Int32) (z : gS) : Option Int32 :=
  gb (f_X11_in a1 (nI 0) (nI 3) z) fun q1 => if q1 = 0 then (some (-2)) else (f_X11_walk_19 z a1 gF (nI 0) (nI 0) (nI 0))
def f_X11_turned_20_b (z : gS) (K20 : Int32 → Int32 → Option (Int32 × gS)) (x2 : Int32) (x3 : Int32) : Option (Int32 × gS) :=
  if x3 < 0 then (some (x2, z)) else (gg x3 7 (gl ((((nI 10) * x2) + (z 4 x3.toNatClampNeg)) + (nI 1)) fun y6 => K20 y6 (x3 + gm1)))
def f_X11_turned_20 (z : gS) (n : Nat) (x2 : Int32) (x3 : Int32) : Option (Int32 × gS) :=
  gfix (fun (rec : Int32 × Int32 → Option (Int32 × gS)) s => f_X11_turned_20_b z (fun x2 x3 => rec (x2, x3)) (s.1) (s.2)) n (x2, x3)
def f_X11_turned (a1 : Int32) (z : gS) : Option (Int32 × gS) :=
  gb (f_X11_isOrder a1 z) fun q1 => if q1.1 = 0 then (some ((-2), q1.2)) else (gl ((q1.2 0 7) - (nI 1)) fun y3 => f_X11_turned_20 q1.2 gF (nI 0) y3)
def f_X11_rank_17_b (z : gS) (x1 : Int32) (K17 : Int32 → Option (Int32 × gS)) (x2 : Int32) : Option (Int32 × gS) :=
  if (z 0 10) ≤ x2 then (some (x2, z)) else (gg x2 5040 (if x1 ≤ (z 5 x2.toNatClampNeg) then (some (x2, z)) else (K17 (x2 + (nI 1)))))
def f_X11_rank_17 (z : gS) (x1 : Int32) (n : Nat) (x2 : Int32) : Option (Int32 × gS) :=
  gfix (fun (rec : Int32 → Option (Int32 × gS)) s => f_X11_rank_17_b z x1 (fun x2 => rec (x2)) s) n (x2)
def f_X11_rank (a1 : Int32) (z : gS) : Option (Int32 × gS) :=
  gb (f_X11_isOrder a1 z) fun q1 => if q1.1 = 0 then (some ((-2), q1.2)) else (gb (f_X11_gaplessOnes  q1.2) fun q3 => f_X11_rank_17 q3 a1 gF (nI 0))
def f_X11_swap_32_b (x2 : Int32) (x3 : Int32) (K32 : Int32 → gS → Option (Int32 × gS)) (x4 : Int32) (z : gS) : Option (Int32 × gS) :=
  if (z 0 7) ≤ x4 then (gb (f_X11_digits  z) fun q8 => some (q8, z)) else (gg x4 7 (if (z 4 x4.toNatClampNeg) = x2 then (gg x4 7 (gl (gup z 4 x4.toNatClampNeg x3) fun z19 => K32 (x4 + (nI 1)) z19)) else (gg x4 7 (if (z 4 x4.toNatClampNeg) = x3 then (gg x4 7 (gl (gup z 4 x4.toNatClampNeg x2) fun z17 => K32 (x4 + (nI 1)) z17)) else (gg x4 7 (gg x4 7 (gl (gup z 4 x4.toNatClampNeg (z 4 x4.toNatClampNeg)) fun z15 => K32 (x4 + (nI 1)) z15)))))))
def f_X11_swap_32 (x2 : Int32) (x3 : Int32) (n : Nat) (x4 : Int32) (z : gS) : Option (Int32 × gS) :=
  gfix (fun (rec : Int32 × gS → Option (Int32 × gS)) s => f_X11_swap_32_b x2 x3 (fun x4 z => rec (x4, z)) (s.1) (s.2)) n (x4, z)
def f_X11_swap (a1 : Int32) (a2 : Int32) (a3 : Int32) (z : gS) : Option (Int32 × gS) :=
  gb (f_X11_isOrder a1 z) fun q1 => if q1.1 = 0 then (some ((-2), q1.2)) else (gb (f_X11_isGrave a2 q1.2) fun q3 => if q3 = 0 then (some (gm1, q1.2)) else (gb (f_X11_isGrave a3 q1.2) fun q5 => if q5 = 0 then (some (gm1, q1.2)) else (f_X11_swap_32 a2 a3 gF (nI 0) q1.2)))
def f_X11_feed (a1 : Int32) (z : gS) : Option (Int32 × gS) :=
  gb (f_X11_in a1 (nI 0) (nI 127) z) fun q1 => if q1 = 0 then (some ((-2), z)) else (if (z 0 15) = (nI 100) then (some ((-4), z)) else (gg (z 0 15) 100 (gl (gup z 8 (z 0 15).toNatClampNeg a1) fun z5 => gl (gup z5 0 15 ((z5 0 15) + (nI 1))) fun z6 => some (z6 0 15, z6))))
def f_X11_here  (z : gS) : Option Int32 :=
  if (z 0 15) ≤ (z 0 17) then (some gm1) else (gg (z 0 17) 100 (some (z 8 (z 0 17).toNatClampNeg)))
def f_X11_isLetter (a0 : Int32) (z : gS) : Option Int32 :=
  gb (f_X11_in a0 (nI 97) (nI 122) z) fun q1 => gz q1 (some q1)
def f_X11_isDigit (a0 : Int32) (z : gS) : Option Int32 :=
  gb (f_X11_in a0 (nI 48) (nI 57) z) fun q1 => gz q1 (some q1)
def f_X11_name_71_b (z : gS) (K71 : Int32 → Int32 → Option gS) (x1 : Int32) (x2 : Int32) : Option gS :=
  if (nI 6) ≤ x2 then (gg (z 0 22) 100 (gl (gup z 9 (z 0 22).toNatClampNeg x1) fun z22 => gl (gup z22 0 22 ((z22 0 22) + (nI 1))) fun z23 => some z23)) else (gl (x1 * (nI 27)) fun y24 => K71 y24 (x2 + (nI 1)))
def f_X11_name_71 (z : gS) (n : Nat) (x1 : Int32) (x2 : Int32) : Option gS :=
  gfix (fun (rec : Int32 × Int32 → Option gS) s => f_X11_name_71_b z (fun x1 x2 => rec (x1, x2)) (s.1) (s.2)) n (x1, x2)
def f_X11_name_4_b  (K4 : Int32 → Int32 → gS → Option gS) (x1 : Int32) (x2 : Int32) (z : gS) : Option gS :=
  if (nI 6) ≤ x2 then (if x2 = 0 then (gl (gup z 0 18 (nI 1)) fun z3 => some z3) else (gb (f_X11_here  z) fun q4 => gb (f_X11_isLetter q4 z) fun q5 => if q5 = 0 then (f_X11_name_71 z gF x1 x2) else (gl (gup z 0 18 (nI 1)) fun z7 => some z7))) else (gb (f_X11_here  z) fun q8 => gb (f_X11_isLetter q8 z) fun q9 => if q9 = 0 then (if x2 = 0 then (gl (gup z 0 18 (nI 1)) fun z12 => some z12) else (gb (f_X11_here  z) fun q13 => gb (f_X11_isLetter q13 z) fun q14 => if q14 = 0 then (f_X11_name_71 z gF x1 x2) else (gl (gup z 0 18 (nI 1)) fun z16 => some z16))) else (gb (f_X11_here  z) fun q17 => gl (((((nI 27) * x1) + q17) - (nI 97)) + (nI 1)) fun y18 => gl (gup z 0 17 ((z 0 17) + (nI 1))) fun z19 => K4 y18 (x2 + (nI 1)) z19))
def f_X11_name_4  (n : Nat) (x1 : Int32) (x2 : Int32) (z : gS) : Option gS :=
  gfix (fun (rec : Int32 × Int32 × gS → Option gS) s => f_X11_name_4_b  (fun x1 x2 z => rec (x1, x2, z)) (s.1) (s.2.1) (s.2.2)) n (x1, x2, z)
def f_X11_name  (z : gS) : Option gS :=
  f_X11_name_4 gF (nI 0) (nI 0) z
def f_X11_digits__7_b (x1 : Int32) (K7 : Int32 → gS → Option gS) (x2 : Int32) (z : gS) : Option gS :=
  if x1 ≤ x2 then (if x2 = 0 then (gl (gup z 0 18 (nI 1)) fun z5 => some z5) else (gl (gup z 0 18 (nI 0)) fun z4 => some z4)) else (gb (f_X11_here  z) fun q6 => gb (f_X11_isDigit q6 z) fun q7 => if q7 = 0 then (if x2 = 0 then (gl (gup z 0 18 (nI 1)) fun z11 => some z11) else (gl (gup z 0 18 (nI 0)) fun z10 => some z10)) else (gb (f_X11_here  z) fun q12 => gl (gup z 0 20 ((((nI 10) * (z 0 20)) + q12) - (nI 48))) fun z13 => gl (gup z13 0 17 ((z13 0 17) + (nI 1))) fun z14 => K7 (x2 + (nI 1)) z14))
def f_X11_digits__7 (x1 : Int32) (n : Nat) (x2 : Int32) (z : gS) : Option gS :=
  gfix (fun (rec : Int32 × gS → Option gS) s => f_X11_digits__7_b x1 (fun x2 z => rec (x2, z)) (s.1) (s.2)) n (x2, z)
def f_X11_digits_ (a1 : Int32) (z : gS) : Option gS :=
  gl (gup z 0 20 (nI 0)) fun z1 => f_X11_digits__7 a1 gF (nI 0) z1
def f_X11_graveTold_50_b  (K50 : Int32 → gS → Option gS) (x1 : Int32) (z : gS) : Option gS :=
  if x1 = 0 then (some z) else (if (z 0 18) = 0 then (gb (f_X11_name  z) fun q13 => if (q13 0 18) = 0 then (gb (f_X11_here  q13) fun q18 => if q18 = (nI 44) then (if (nI 1) = 0 then (gl (gup q13 0 17 ((q13 0 17) + (nI 0))) fun z24 => K50 (nI 1) z24) else (gl (gup q13 0 17 ((q13 0 17) + (nI 1))) fun z25 => K50 (nI 1) z25)) else (if (nI 0) = 0 then (gl (gup q13 0 17 ((q13 0 17) + (nI 0))) fun z21 => K50 (nI 0) z21) else (gl (gup q13 0 17 ((q13 0 17) + (nI 1))) fun z22 => K50 (nI 0) z22))) else (if (nI 0) = 0 then (gl (gup q13 0 17 ((q13 0 17) + (nI 0))) fun z16 => K50 (nI 0) z16) else (gl (gup q13 0 17 ((q13 0 17) + (nI 1))) fun z17 => K50 (nI 0) z17))) else (some z))
def f_X11_graveTold_50  (n : Nat) (x1 : Int32) (z : gS) : Option gS :=
  gfix (fun (rec : Int32 × gS → Option gS) s => f_X11_graveTold_50_b  (fun x1 z => rec (x1, z)) (s.1) (s.2)) n (x1, z)
def f_X11_graveTold  (z : gS) : Option gS :=
  gl (gup z 0 19 (nI 0)) fun z1 => gb (f_X11_digits_ (nI 3) z1) fun q2 => if (q2 0 18) = 0 then (gb (f_X11_here  q2) fun q5 => if q5 = (nI 58) then (gl (gup q2 0 17 ((q2 0 17) + (nI 1))) fun z7 => gb (f_X11_here  z7) fun q8 => gb (f_X11_isLetter q8 z7) fun q9 => f_X11_graveTold_50 gF q9 z7) else (gl (gup q2 0 18 (nI 1)) fun z10 => some z10)) else (gl (gup q2 0 18 (nI 1)) fun z4 => some z4)
def f_X11_statement_28 (z : gS) : Option gS :=
  gb (f_X11_here  z) fun q7 => if q7 = (nI 43) then (gl (gup z 0 19 (nI 1)) fun z14 => gl (gup z14 0 17 ((z14 0 17) + (nI 1))) fun z15 => gb (f_X11_digits_ (nI 1) z15) fun q16 => if (q16 0 18) = 0 then (gb (f_X11_name  q16) fun q18 => some q18) else (some q16)) else (gl (gup z 0 19 gm1) fun z9 => gl (gup z9 0 17 ((z9 0 17) + (nI 1))) fun z10 => gb (f_X11_digits_ (nI 1) z10) fun q11 => if (q11 0 18) = 0 then (gb (f_X11_name  q11) fun q13 => some q13) else (some q11))
def f_X11_statement  (z : gS) : Option gS :=
  gl (gup z 0 22 (nI 0)) fun z1 => gb (f_X11_here  z1) fun q2 => if q2 = (nI 43) then (f_X11_statement_28 z1) else (gb (f_X11_here  z1) fun q4 => if q4 = (nI 45) then (f_X11_statement_28 z1) else (gb (f_X11_graveTold  z1) fun q6 => some q6))
def f_X11_typeOf_2_b (z : gS) (x1 : Int32) (K2 : Int32 → Option (Int32 × gS)) (x2 : Int32) : Option (Int32 × gS) :=
  if (z 0 2) ≤ x2 then (if (z 0 2) = (nI 8) then (some (gm1, z)) else (gg (z 0 2) 8 (gl (gup z 3 (z 0 2).toNatClampNeg x1) fun z4 => gl (gup z4 0 2 ((z4 0 2) + (nI 1))) fun z5 => some ((z5 0 2) - (nI 1), z5)))) else (gg x2 8 (if (z 3 x2.toNatClampNeg) = x1 then (some (x2, z)) else (K2 (x2 + (nI 1)))))
def f_X11_typeOf_2 (z : gS) (x1 : Int32) (n : Nat) (x2 : Int32) : Option (Int32 × gS) :=
  gfix (fun (rec : Int32 → Option (Int32 × gS)) s => f_X11_typeOf_2_b z x1 (fun x2 => rec (x2)) s) n (x2)
def f_X11_typeOf (a1 : Int32) (z : gS) : Option (Int32 × gS) :=
  f_X11_typeOf_2 z a1 gF (nI 0)
def f_X11_isTwice_12_b (z : gS) (x1 : Int32) (K2 : Int32 → Option Int32) (K12 : Int32 → Option Int32) (x2 : Int32) : Option Int32 :=
  if x1 ≤ x2 then (K2 (x1 + (nI 1))) else (gg x1 100 (gg x2 100 (if (z 9 x1.toNatClampNeg) = (z 9 x2.toNatClampNeg) then (some (nI 1)) else (K12 (x2 + (nI 1))))))
def f_X11_isTwice_12 (z : gS) (x1 : Int32) (K2 : Int32 → Option Int32) (n : Nat) (x2 : Int32) : Option Int32 :=
  gfix (fun (rec : Int32 → Option Int32) s => f_X11_isTwice_12_b z x1 K2 (fun x2 => rec (x2)) s) n (x2)
def f_X11_isTwice_2_b (z : gS) (K2 : Int32 → Option Int32) (x1 : Int32) : Option Int32 :=
  if (z 0 22) ≤ x1 then (some (nI 0)) else (f_X11_isTwice_12 z x1 K2 gF (nI 0))
def f_X11_isTwice_2 (z : gS) (n : Nat) (x1 : Int32) : Option Int32 :=
  gfix (fun (rec : Int32 → Option Int32) s => f_X11_isTwice_2_b z (fun x1 => rec (x1)) s) n (x1)
def f_X11_isTwice  (z : gS) : Option Int32 :=
  f_X11_isTwice_2 z gF (nI 0)
def f_X11_isDone_47_b  (K47 : Int32 → Int32 → gS → Option (Int32 × gS)) (x1 : Int32) (x2 : Int32) (z : gS) : Option (Int32 × gS) :=
  if (z 0 22) ≤ x2 then (if (z 0 19) = 0 then (gb (f_X11_grave (z 0 20) z) fun q20 => gg q20.1 7 (gl (gup q20.2 2 q20.1.toNatClampNeg x1) fun z22 => some ((nI 1), z22))) else (if (z 0 19) ≤ 0 then (gg (z 0 20) 7 (gg (z 0 20) 7 (gl (gup z 2 (z 0 20).toNatClampNeg ((z 2 (z 0 20).toNatClampNeg) &&& (x1 ^^^ gm1))) fun z16 => some ((nI 1), z16)))) else (gg (z 0 20) 7 (gg (z 0 20) 7 (gl (gup z 2 (z 0 20).toNatClampNeg ((z 2 (z 0 20).toNatClampNeg) ||| x1)) fun z19 => some ((nI 1), z19)))))) else (gg x2 100 (gb (f_X11_typeOf (z 9 x2.toNatClampNeg) z) fun q24 => if q24.1 = gm1 then (some ((nI 0), q24.2)) else (gl (x1 ||| ((nI 1) <<< (q24.1 &&& 31))) fun y26 => K47 y26 (x2 + (nI 1)) q24.2)))
def f_X11_isDone_47  (n : Nat) (x1 : Int32) (x2 : Int32) (z : gS) : Option (Int32 × gS) :=
  gfix (fun (rec : Int32 × Int32 × gS → Option (Int32 × gS)) s => f_X11_isDone_47_b  (fun x1 x2 z => rec (x1, x2, z)) (s.1) (s.2.1) (s.2.2)) n (x1, x2, z)
def f_X11_isDone  (z : gS) : Option (Int32 × gS) :=
  if (z 0 19) = 0 then (if (z 0 1) = (nI 7) then (some ((nI 0), z)) else (gb (f_X11_isTwice  z) fun q6 => if q6 = 0 then (if (z 0 19) = 0 then (f_X11_isDone_47 gF (nI 0) (nI 0) z) else (gb (f_X11_isGrave (z 0 20) z) fun q9 => if q9 = 0 then (some ((nI 0), z)) else (f_X11_isDone_47 gF (nI 0) (nI 0) z))) else (some ((nI 0), z)))) else (if (z 0 19) = 0 then (f_X11_isDone_47 gF (nI 0) (nI 0) z) else (gb (f_X11_isGrave (z 0 20) z) fun q3 => if q3 = 0 then (some ((nI 0), z)) else (f_X11_isDone_47 gF (nI 0) (nI 0) z)))
def f_X11_copies_2_b (p0 n0 : Nat) (p1 n1 : Nat) (x2 : Int32) (K2 : Int32 → gS → Option gS) (x3 : Int32) (z : gS) : Option gS :=
  if x2 ≤ x3 then (some z) else (gg x3 n0 (gg x3 n1 (gl (gup z p1 x3.toNatClampNeg (z p0 x3.toNatClampNeg)) fun z4 => K2 (x3 + (nI 1)) z4)))
def f_X11_copies_2 (p0 n0 : Nat) (p1 n1 : Nat) (x2 : Int32) (n : Nat) (x3 : Int32) (z : gS) : Option gS :=
  gfix (fun (rec : Int32 × gS → Option gS) s => f_X11_copies_2_b p0 n0 p1 n1 x2 (fun x3 z => rec (x3, z)) (s.1) (s.2)) n (x3, z)
def f_X11_copies (p0 n0 : Nat) (p1 n1 : Nat) (a2 : Int32) (z : gS) : Option gS :=
  f_X11_copies_2 p0 n0 p1 n1 a2 gF (nI 0) z
def f_X11_goesThrough_53 (x1 : Int32) (x2 : Int32) (K7 : Int32 → gS → Option (Int32 × gS)) (z : gS) : Option (Int32 × gS) :=
  if (z 0 17) = (z 0 15) then (some (x2 + (nI 1), z)) else (gb (f_X11_here  z) fun q10 => if q10 = (nI 59) then (gl (gup z 0 17 ((z 0 17) + (nI 1))) fun z12 => K7 (x2 + (nI 1)) z12) else (some ((-100) - (z 0 17), z)))
def f_X11_goesThrough_7_b (x1 : Int32) (K7 : Int32 → gS → Option (Int32 × gS)) (x2 : Int32) (z : gS) : Option (Int32 × gS) :=
  gl (z 0 17) fun y2 => gl (gup z 0 18 (nI 0)) fun z3 => gb (f_X11_statement  z3) fun q4 => if (q4 0 18) = 0 then (if x1 = 0 then (f_X11_goesThrough_53 x1 x2 K7 q4) else (gb (f_X11_isDone  q4) fun q7 => if q7.1 = 0 then (some ((-300) - y2, q7.2)) else (f_X11_goesThrough_53 x1 x2 K7 q7.2))) else (some ((-100) - (q4 0 17), q4))
def f_X11_goesThrough_7 (x1 : Int32) (n : Nat) (x2 : Int32) (z : gS) : Option (Int32 × gS) :=
  gfix (fun (rec : Int32 × gS → Option (Int32 × gS)) s => f_X11_goesThrough_7_b x1 (fun x2 z => rec (x2, z)) (s.1) (s.2)) n (x2, z)
def f_X11_goesThrough (a1 : Int32) (z : gS) : Option (Int32 × gS) :=
  gl (gup z 0 17 (nI 0)) fun z1 => f_X11_goesThrough_7 a1 gF (nI 0) z1
def f_X11_read  (z : gS) : Option (Int32 × gS) :=
  gb (f_X11_goesThrough (nI 0) z) fun q1 => if q1.1 < 0 then (gl (gup q1.2 0 15 (nI 0)) fun z3 => some (q1.1, z3)) else (gl (q1.2 0 1) fun y4 => gl (q1.2 0 2) fun y5 => gb (f_X11_copies 1 7 10 7 (nI 7) q1.2) fun q6 => gb (f_X11_copies 2 7 11 7 (nI 7) q6) fun q7 => gb (f_X11_goesThrough (nI 1) q7) fun q8 => if 0 ≤ q8.1 then (gl (gup q8.2 0 16 ((q8.2 0 16) + (nI 1))) fun z10 => gl (gup z10 0 15 (nI 0)) fun z11 => some (q8.1, z11)) else (gl (gup q8.2 0 1 y4) fun z12 => gl (gup z12 0 2 y5) fun z13 => gb (f_X11_copies 10 7 1 7 (nI 7) z13) fun q14 => gb (f_X11_copies 11 7 2 7 (nI 7) q14) fun q15 => gl (gup q15 0 15 (nI 0)) fun z16 => some (q8.1, z16)))
def f_X11_writes (a1 : Int32) (z : gS) : Option gS :=
  gg (z 0 26) 500 (gl (gup z 12 (z 0 26).toNatClampNeg a1) fun z2 => gl (gup z2 0 26 ((z2 0 26) + (nI 1))) fun z3 => some z3)
def f_X11_writesName_2_b (x1 : Int32) (K2 : Int32 → gS → Option gS) (x2 : Int32) (z : gS) : Option gS :=
  gb (f_X11_lettersOf x1 z) fun q1 => if q1 ≤ x2 then (some z) else (gb (f_X11_letterOf x1 x2 z) fun q3 => gb (f_X11_writes (((nI 97) + q3) - (nI 1)) z) fun q4 => K2 (x2 + (nI 1)) q4)
def f_X11_writesName_2 (x1 : Int32) (n : Nat) (x2 : Int32) (z : gS) : Option gS :=
  gfix (fun (rec : Int32 × gS → Option gS) s => f_X11_writesName_2_b x1 (fun x2 z => rec (x2, z)) (s.1) (s.2)) n (x2, z)
def f_X11_writesName (a1 : Int32) (z : gS) : Option gS :=
  f_X11_writesName_2 a1 gF (nI 0) z
def f_X11_writesNames_11_b (z : gS) (x1 : Int32) (x2 : Int32) (K2 : Int32 → gS → Option gS) (K11 : Int32 → Int32 → Option gS) (x3 : Int32) (x4 : Int32) : Option gS :=
  if (z 0 2) ≤ x4 then (if x2 = x1 then (gg x3 8 (gb (f_X11_writesName (z 3 x3.toNatClampNeg) z) fun q5 => gl (x2 &&& (((nI 1) <<< (x3 &&& 31)) ^^^ gm1)) fun y6 => K2 y6 q5)) else (gb (f_X11_writes (nI 44) z) fun q7 => gg x3 8 (gb (f_X11_writesName (q7 3 x3.toNatClampNeg) q7) fun q9 => gl (x2 &&& (((nI 1) <<< (x3 &&& 31)) ^^^ gm1)) fun y10 => K2 y10 q9))) else (gb (f_X11_has x2 x4 z) fun q11 => if q11 = 0 then (K11 x3 (x4 + (nI 1))) else (if x3 = gm1 then (K11 x4 (x4 + (nI 1))) else (gg x4 8 (gg x3 8 (if (z 3 x3.toNatClampNeg) ≤ (z 3 x4.toNatClampNeg) then (K11 x3 (x4 + (nI 1))) else (K11 x4 (x4 + (nI 1))))))))
def f_X11_writesNames_11 (z : gS) (x1 : Int32) (x2 : Int32) (K2 : Int32 → gS → Option gS) (n : Nat) (x3 : Int32) (x4 : Int32) : Option gS :=
  gfix (fun (rec : Int32 × Int32 → Option gS) s => f_X11_writesNames_11_b z x1 x2 K2 (fun x3 x4 => rec (x3, x4)) (s.1) (s.2)) n (x3, x4)
def f_X11_writesNames_2_b (x1 : Int32) (K2 : Int32 → gS → Option gS) (x2 : Int32) (z : gS) : Option gS :=
  if x2 = 0 then (some z) else (f_X11_writesNames_11 z x1 x2 K2 gF gm1 (nI 0))
def f_X11_writesNames_2 (x1 : Int32) (n : Nat) (x2 : Int32) (z : gS) : Option gS :=
  gfix (fun (rec : Int32 × gS → Option gS) s => f_X11_writesNames_2_b x1 (fun x2 z => rec (x2, z)) (s.1) (s.2)) n (x2, z)
def f_X11_writesNames (a1 : Int32) (z : gS) : Option gS :=
  f_X11_writesNames_2 a1 gF a1 z
def f_X11_papers_52 (x1 : Int32) (K7 : Int32 → gS → Option gS) (z : gS) : Option gS :=
  gg x1 7 (if (z 1 x1.toNatClampNeg) ≤ (nI 9) then (gg x1 7 (gb (f_X11_writes ((nI 48) + ((z 1 x1.toNatClampNeg) - (z 1 x1.toNatClampNeg) / (nI 10) * (nI 10))) z) fun q16 => gb (f_X11_writes (nI 58) q16) fun q17 => gg x1 7 (gb (f_X11_writesNames (q17 2 x1.toNatClampNeg) q17) fun q19 => K7 (x1 + (nI 1)) q19))) else (gg x1 7 (gb (f_X11_writes ((nI 48) + (((z 1 x1.toNatClampNeg) / (nI 10)) - ((z 1 x1.toNatClampNeg) / (nI 10)) / (nI 10) * (nI 10))) z) fun q21 => gg x1 7 (gb (f_X11_writes ((nI 48) + ((q21 1 x1.toNatClampNeg) - (q21 1 x1.toNatClampNeg) / (nI 10) * (nI 10))) q21) fun q23 => gb (f_X11_writes (nI 58) q23) fun q24 => gg x1 7 (gb (f_X11_writesNames (q24 2 x1.toNatClampNeg) q24) fun q26 => K7 (x1 + (nI 1)) q26)))))
def f_X11_papers_7_b  (K7 : Int32 → gS → Option gS) (x1 : Int32) (z : gS) : Option gS :=
  if (z 0 1) ≤ x1 then (some z) else (if x1 ≤ 0 then (gg x1 7 (if (z 1 x1.toNatClampNeg) ≤ (nI 99) then (f_X11_papers_52 x1 K7 z) else (gg x1 7 (gb (f_X11_writes ((nI 48) + ((z 1 x1.toNatClampNeg) / (nI 100))) z) fun q7 => f_X11_papers_52 x1 K7 q7)))) else (gb (f_X11_writes (nI 59) z) fun q8 => gg x1 7 (if (q8 1 x1.toNatClampNeg) ≤ (nI 99) then (f_X11_papers_52 x1 K7 q8) else (gg x1 7 (gb (f_X11_writes ((nI 48) + ((q8 1 x1.toNatClampNeg) / (nI 100))) q8) fun q12 => f_X11_papers_52 x1 K7 q12)))))
def f_X11_papers_7  (n : Nat) (x1 : Int32) (z : gS) : Option gS :=
  gfix (fun (rec : Int32 × gS → Option gS) s => f_X11_papers_7_b  (fun x1 z => rec (x1, z)) (s.1) (s.2)) n (x1, z)
def f_X11_papers  (z : gS) : Option gS :=
  gl (gup z 0 26 (nI 0)) fun z1 => f_X11_papers_7 gF (nI 0) z1
def f_X11_spell  (z : gS) : Option (Int32 × gS) :=
  gb (f_X11_papers  z) fun q1 => some (q1 0 26, q1)
def f_X11_paper (a1 : Int32) (z : gS) : Option (Int32 × gS) :=
  gb (f_X11_papers  z) fun q1 => gb (f_X11_in a1 (nI 0) ((q1 0 26) - (nI 1)) q1) fun q2 => if q2 = 0 then (some (gm1, q1)) else (gg a1 500 (some (q1 12 a1.toNatClampNeg, q1)))
def f_X11_isTray (a0 : Int32) (z : gS) : Option Int32 :=
  gb (f_X11_in a0 (nI 0) (nI 3) z) fun q1 => gz q1 (some q1)
def f_X11_tray (a1 : Int32) (a2 : Int32) (z : gS) : Option (Int32 × gS) :=
  gb (f_X11_isTray a1 z) fun q1 => if q1 = 0 then (some (gm1, z)) else (gb (f_X11_in a2 (nI 0) (nI 1) z) fun q3 => if q3 = 0 then (some ((-2), z)) else (if a2 = (nI 1) then (gg a1 4 (gl (gup z 13 a1.toNatClampNeg (nI 1)) fun z11 => gg a1 4 (gl (gup z11 14 a1.toNatClampNeg (nI 0)) fun z13 => some ((nI 1), z13)))) else (gg a1 4 (gl (gup z 13 a1.toNatClampNeg (nI 0)) fun z7 => gg a1 4 (gl (gup z7 14 a1.toNatClampNeg (nI 0)) fun z9 => some ((nI 1), z9))))))
def f_X11_placeIn_6_b (z : gS) (x1 : Int32) (x2 : Int32) (K6 : Int32 → Option Int32) (x3 : Int32) : Option Int32 :=
  gg x1 4 (if (((nI 300) * x1) + (z 14 x1.toNatClampNeg)) ≤ x3 then (some gm1) else (gg x3 1200 (if (z 15 x3.toNatClampNeg) = x2 then (some x3) else (K6 (x3 + (nI 1))))))
def f_X11_placeIn_6 (z : gS) (x1 : Int32) (x2 : Int32) (n : Nat) (x3 : Int32) : Option Int32 :=
  gfix (fun (rec : Int32 → Option Int32) s => f_X11_placeIn_6_b z x1 x2 (fun x3 => rec (x3)) s) n (x3)
def f_X11_placeIn (a1 : Int32) (a2 : Int32) (z : gS) : Option Int32 :=
  gl ((nI 300) * a1) fun y1 => f_X11_placeIn_6 z a1 a2 gF y1
def f_X11_lays (a1 : Int32) (a2 : Int32) (z : gS) : Option gS :=
  gb (f_X11_placeIn a1 a2 z) fun q1 => if q1 = gm1 then (gg a1 4 (gl (((nI 300) * a1) + (z 14 a1.toNatClampNeg)) fun y7 => gg y7 1200 (gl (gup z 15 y7.toNatClampNeg a2) fun z9 => gg y7 1200 (gl (gup z9 16 y7.toNatClampNeg (nI 0)) fun z11 => gg a1 4 (gg a1 4 (gl (gup z11 14 a1.toNatClampNeg ((z11 14 a1.toNatClampNeg) + (nI 1))) fun z14 => gg y7 1200 (gg y7 1200 (gl (gup z14 16 y7.toNatClampNeg ((z14 16 y7.toNatClampNeg) + (nI 1))) fun z17 => some z17)))))))) else (gg q1 1200 (gg q1 1200 (gl (gup z 16 q1.toNatClampNeg ((z 16 q1.toNatClampNeg) + (nI 1))) fun z5 => some z5)))
def f_X11_lay_31_b (x1 : Int32) (x2 : Int32) (K31 : Int32 → gS → Option (Int32 × gS)) (x3 : Int32) (z : gS) : Option (Int32 × gS) :=
  if (z 0 2) ≤ x3 then (gg x1 4 (some (z 14 x1.toNatClampNeg, z))) else (gg x2 7 (gb (f_X11_has (z 2 x2.toNatClampNeg) x3 z) fun q10 => if q10 = 0 then (K31 (x3 + (nI 1)) z) else (gg x3 8 (gb (f_X11_lays x1 (z 3 x3.toNatClampNeg) z) fun q13 => K31 (x3 + (nI 1)) q13))))
def f_X11_lay_31 (x1 : Int32) (x2 : Int32) (n : Nat) (x3 : Int32) (z : gS) : Option (Int32 × gS) :=
  gfix (fun (rec : Int32 × gS → Option (Int32 × gS)) s => f_X11_lay_31_b x1 x2 (fun x3 z => rec (x3, z)) (s.1) (s.2)) n (x3, z)
def f_X11_lay (a1 : Int32) (a2 : Int32) (z : gS) : Option (Int32 × gS) :=
  gb (f_X11_isTray a1 z) fun q1 => if q1 = 0 then (some (gm1, z)) else (gb (f_X11_isGrave a2 z) fun q3 => if q3 = 0 then (some (gm1, z)) else (gg a1 4 (if (z 13 a1.toNatClampNeg) = 0 then (some ((-11), z)) else (f_X11_lay_31 a1 a2 gF (nI 0) z))))
def f_X11_laid (a1 : Int32) (a2 : Int32) (z : gS) : Option Int32 :=
  gb (f_X11_isTray a1 z) fun q1 => if q1 = 0 then (some gm1) else (gb (f_X11_isType a2 z) fun q3 => if q3 = 0 then (some gm1) else (gg a1 4 (if (z 13 a1.toNatClampNeg) = 0 then (some (-11)) else (gg a2 8 (gb (f_X11_placeIn a1 (z 3 a2.toNatClampNeg) z) fun q8 => if q8 = gm1 then (some (-5)) else (gg q8 1200 (some (z 16 q8.toNatClampNeg))))))))
def f_X11_isList (a0 : Int32) (z : gS) : Option Int32 :=
  gb (f_X11_in a0 (nI 0) (nI 2) z) fun q1 => gz q1 (some q1)
def f_X11_list_35_b (x1 : Int32) (K35 : Int32 → gS → Option (Int32 × gS)) (x3 : Int32) (z : gS) : Option (Int32 × gS) :=
  if (nI 30) ≤ x3 then (some ((nI 1), z)) else (gg (((nI 30) * x1) + x3) 90 (gl (gup z 18 (((nI 30) * x1) + x3).toNatClampNeg (nI 0)) fun z9 => K35 (x3 + (nI 1)) z9))
def f_X11_list_35 (x1 : Int32) (n : Nat) (x3 : Int32) (z : gS) : Option (Int32 × gS) :=
  gfix (fun (rec : Int32 × gS → Option (Int32 × gS)) s => f_X11_list_35_b x1 (fun x3 z => rec (x3, z)) (s.1) (s.2)) n (x3, z)
def f_X11_list (a1 : Int32) (a2 : Int32) (z : gS) : Option (Int32 × gS) :=
  gb (f_X11_isList a1 z) fun q1 => if q1 = 0 then (some (gm1, z)) else (if a2 ≤ (nI 30) then (if gm1 ≤ a2 then (gg a1 3 (gl (gup z 17 a1.toNatClampNeg a2) fun z6 => f_X11_list_35 a1 gF (nI 0) z6)) else (some ((-14), z))) else (some ((-2), z)))
def f_X11_put (a1 : Int32) (a2 : Int32) (a3 : Int32) (z : gS) : Option (Int32 × gS) :=
  gb (f_X11_isList a1 z) fun q1 => if q1 = 0 then (some (gm1, z)) else (gg a1 3 (if 0 ≤ (z 17 a1.toNatClampNeg) then (gg a1 3 (gb (f_X11_in a2 (nI 0) ((z 17 a1.toNatClampNeg) - (nI 1)) z) fun q6 => if q6 = 0 then (some ((-12), z)) else (gg (((nI 30) * a1) + a2) 90 (gl (gup z 18 (((nI 30) * a1) + a2).toNatClampNeg a3) fun z9 => some ((nI 1), z9))))) else (some ((-11), z))))
def f_X11_get (a1 : Int32) (a2 : Int32) (z : gS) : Option Int32 :=
  gb (f_X11_isList a1 z) fun q1 => if q1 = 0 then (some (-2000000000)) else (gg a1 3 (gb (f_X11_in a2 (nI 0) ((z 17 a1.toNatClampNeg) - (nI 1)) z) fun q4 => if q4 = 0 then (some (-2000000000)) else (gg (((nI 30) * a1) + a2) 90 (some (z 18 (((nI 30) * a1) + a2).toNatClampNeg)))))
def f_X11_fill_34_b (x1 : Int32) (x2 : Int32) (K34 : Int32 → gS → Option (Int32 × gS)) (x3 : Int32) (z : gS) : Option (Int32 × gS) :=
  gg x1 3 (if (z 17 x1.toNatClampNeg) ≤ x3 then (some (x3, z)) else (if ((z 0 10) - x2) ≤ x3 then (some (x3, z)) else (gg (x2 + x3) 5040 (gg (((nI 30) * x1) + x3) 90 (gl (gup z 18 (((nI 30) * x1) + x3).toNatClampNeg (z 5 (x2 + x3).toNatClampNeg)) fun z12 => K34 (x3 + (nI 1)) z12)))))
def f_X11_fill_34 (x1 : Int32) (x2 : Int32) (n : Nat) (x3 : Int32) (z : gS) : Option (Int32 × gS) :=
  gfix (fun (rec : Int32 × gS → Option (Int32 × gS)) s => f_X11_fill_34_b x1 x2 (fun x3 z => rec (x3, z)) (s.1) (s.2)) n (x3, z)
def f_X11_fill (a1 : Int32) (a2 : Int32) (z : gS) : Option (Int32 × gS) :=
  gb (f_X11_isList a1 z) fun q1 => if q1 = 0 then (some (gm1, z)) else (if 0 ≤ a2 then (gg a1 3 (if 0 ≤ (z 17 a1.toNatClampNeg) then (gb (f_X11_gaplessOnes  z) fun q6 => f_X11_fill_34 a1 a2 gF (nI 0) q6) else (some ((-11), z)))) else (some ((-2), z)))
def f_X11_isSo (a1 : Int32) (a2 : Int32) (a3 : Int32) (z : gS) : Option (Int32 × gS) :=
  if a3 = (nI 2) then (if (z 0 10) ≤ a2 then (some ((nI 0), z)) else (gg a2 5040 (if (z 5 a2.toNatClampNeg) = a1 then (some ((nI 1), z)) else (some ((nI 0), z))))) else (gb (f_X11_isOrder a1 z) fun q2 => if q2.1 = 0 then (some ((nI 0), q2.2)) else (if a3 = 0 then (some ((nI 1), q2.2)) else (gb (f_X11_gapsNow  q2.2) fun q5 => if q5 = 0 then (some ((nI 1), q2.2)) else (some ((nI 0), q2.2)))))
def f_X11_judge_44_b (x1 : Int32) (x2 : Int32) (K44 : Int32 → gS → Option (Int32 × gS)) (x3 : Int32) (z : gS) : Option (Int32 × gS) :=
  gg x1 3 (if (z 17 x1.toNatClampNeg) ≤ x3 then (some ((-5), z)) else (gg (((nI 30) * x1) + x3) 90 (gb (f_X11_isSo (z 18 (((nI 30) * x1) + x3).toNatClampNeg) x3 x2 z) fun q12 => if q12.1 = 0 then (some (x3, q12.2)) else (K44 (x3 + (nI 1)) q12.2))))
def f_X11_judge_44 (x1 : Int32) (x2 : Int32) (n : Nat) (x3 : Int32) (z : gS) : Option (Int32 × gS) :=
  gfix (fun (rec : Int32 × gS → Option (Int32 × gS)) s => f_X11_judge_44_b x1 x2 (fun x3 z => rec (x3, z)) (s.1) (s.2)) n (x3, z)
def f_X11_judge (a1 : Int32) (a2 : Int32) (z : gS) : Option (Int32 × gS) :=
  gb (f_X11_isList a1 z) fun q1 => if q1 = 0 then (some (gm1, z)) else (gb (f_X11_in a2 (nI 0) (nI 2) z) fun q3 => if q3 = 0 then (some ((-2), z)) else (gg a1 3 (if 0 ≤ (z 17 a1.toNatClampNeg) then (if a2 = (nI 2) then (gb (f_X11_gaplessOnes  z) fun q8 => f_X11_judge_44 a1 a2 gF (nI 0) q8) else (f_X11_judge_44 a1 a2 gF (nI 0) z)) else (some ((-11), z)))))
def f_X11_image  (z : gS) : Option (Int32 × gS) :=
  gl (gup z 0 33 (nI 1)) fun z1 => gl (gup z1 0 34 (z1 0 1)) fun z2 => gl (gup z2 0 35 (z2 0 2)) fun z3 => gb (f_X11_copies 1 7 19 7 (nI 7) z3) fun q4 => gb (f_X11_copies 2 7 20 7 (nI 7) q4) fun q5 => gb (f_X11_copies 3 8 21 8 (nI 8) q5) fun q6 => some (q6 0 1, q6)
def f_X11_undo  (z : gS) : Option (Int32 × gS) :=
  if (z 0 33) = 0 then (some ((-3), z)) else (gl (gup z 0 1 (z 0 34)) fun z2 => gl (gup z2 0 2 (z2 0 35)) fun z3 => gb (f_X11_copies 19 7 1 7 (nI 7) z3) fun q4 => gb (f_X11_copies 20 7 2 7 (nI 7) q4) fun q5 => gb (f_X11_copies 21 8 3 8 (nI 8) q5) fun q6 => some (q6 0 1, q6))
