/-! the layout of the two worlds: FindOrder at place 0 of shX, FindOrderModel at place 0 of shM (written by wip/whole/gen.py) -/
def shX (k : Nat) : gSh :=
  if k < 25 then (match k - 0 with
    | 0 => .inl (9, [some 1, some 5, some 9, some 13, some 18, some 23, some 153, some 283, some 290, some 292, some 294, some 295, some 296, none, none, none, none, none])
    | 1 => .inl (4, [none, none, some 2, some 3, some 4])
    | 2 => .inr (0, 7, 0, 0)
    | 3 => .inr (0, 7, 0, 0)
    | 4 => .inr (0, 8, 0, 0)
    | 5 => .inl (4, [none, none, some 6, some 7, some 8])
    | 6 => .inr (0, 7, 0, 0)
    | 7 => .inr (0, 7, 0, 0)
    | 8 => .inr (0, 8, 0, 0)
    | 9 => .inl (4, [none, none, some 10, some 11, some 12])
    | 10 => .inr (0, 7, 0, 0)
    | 11 => .inr (0, 7, 0, 0)
    | 12 => .inr (0, 8, 0, 0)
    | 13 => .inl (2, [some 14, some 15, some 16, some 17, none, none, none])
    | 14 => .inr (0, 7, 0, 0)
    | 15 => .inr (0, 128, 0, 0)
    | 16 => .inr (0, 128, 0, 0)
    | 17 => .inr (0, 128, 0, 0)
    | 18 => .inl (2, [some 19, some 20, some 21, some 22, none, none, none])
    | 19 => .inr (0, 7, 0, 0)
    | 20 => .inr (0, 128, 0, 0)
    | 21 => .inr (0, 128, 0, 0)
    | 22 => .inr (0, 128, 0, 0)
    | 23 => .inl (5, [some 24])
    | _ => .inr (2, 128, 25, 1))
  else if k < 153 then (.inr (0, 41, 0, 0))
  else if k < 155 then (match k - 153 with
    | 0 => .inl (0, [some 154, none])
    | _ => .inr (2, 128, 155, 1))
  else if k < 283 then (.inr (0, 7, 0, 0))
  else (match k - 283 with
    | 0 => .inl (8, [some 284, some 285, none, none, none, some 286, some 287, some 288, some 289])
    | 1 => .inr (1, 128, 0, 0)
    | 2 => .inr (1, 128, 0, 0)
    | 3 => .inr (0, 13, 0, 0)
    | 4 => .inr (0, 13, 0, 0)
    | 5 => .inr (0, 13, 0, 0)
    | 6 => .inr (0, 13, 0, 0)
    | 7 => .inl (6, [some 291, none, none, none, none, none])
    | 8 => .inr (0, 100, 0, 0)
    | 9 => .inl (3, [some 293, none])
    | 10 => .inr (0, 420, 0, 0)
    | 11 => .inr (3, 4, 297, 3)
    | 12 => .inr (4, 3, 309, 2)
    | 13 => .inr (0, 7, 0, 0)
    | 14 => .inl (7, [none, none, some 298, some 299])
    | 15 => .inr (0, 512, 0, 0)
    | 16 => .inr (0, 512, 0, 0)
    | 17 => .inl (7, [none, none, some 301, some 302])
    | 18 => .inr (0, 512, 0, 0)
    | 19 => .inr (0, 512, 0, 0)
    | 20 => .inl (7, [none, none, some 304, some 305])
    | 21 => .inr (0, 512, 0, 0)
    | 22 => .inr (0, 512, 0, 0)
    | 23 => .inl (7, [none, none, some 307, some 308])
    | 24 => .inr (0, 512, 0, 0)
    | 25 => .inr (0, 512, 0, 0)
    | 26 => .inl (1, [none, some 310])
    | 27 => .inr (0, 30, 0, 0)
    | 28 => .inl (1, [none, some 312])
    | 29 => .inr (0, 30, 0, 0)
    | 30 => .inl (1, [none, some 314])
    | _ => .inr (0, 30, 0, 0))
def shM (k : Nat) : gSh :=
  (match k - 0 with
    | 0 => .inl (10, [none, none, none, some 1, some 2, some 3, some 4, none, none, some 5, none, some 6, some 7, none, some 8, none, none, none, none, none, none, some 9, none, some 10, some 11, some 12, none, some 13, some 14, some 15, some 16, some 17, some 18, none, none, none, some 19, some 20, some 21])
    | 1 => .inr (0, 7, 0, 0)
    | 2 => .inr (0, 7, 0, 0)
    | 3 => .inr (0, 8, 0, 0)
    | 4 => .inr (0, 7, 0, 0)
    | 5 => .inr (0, 5040, 0, 0)
    | 6 => .inr (0, 128, 0, 0)
    | 7 => .inr (0, 128, 0, 0)
    | 8 => .inr (0, 100, 0, 0)
    | 9 => .inr (0, 100, 0, 0)
    | 10 => .inr (0, 7, 0, 0)
    | 11 => .inr (0, 7, 0, 0)
    | 12 => .inr (0, 500, 0, 0)
    | 13 => .inr (1, 4, 0, 0)
    | 14 => .inr (0, 4, 0, 0)
    | 15 => .inr (0, 1200, 0, 0)
    | 16 => .inr (0, 1200, 0, 0)
    | 17 => .inr (0, 3, 0, 0)
    | 18 => .inr (0, 90, 0, 0)
    | 19 => .inr (0, 7, 0, 0)
    | 20 => .inr (0, 7, 0, 0)
    | _ => .inr (0, 8, 0, 0))
def gC5 (p : Nat) : Prop := (p < 315 ∧ shX p = .inl (4, [none, none, some (p + 1), some (p + 2), some (p + 3)])) ∧ (p + 1 < 315 ∧ shX (p + 1) = .inr (0, 7, 0, 0)) ∧ (p + 2 < 315 ∧ shX (p + 2) = .inr (0, 7, 0, 0)) ∧ (p + 3 < 315 ∧ shX (p + 3) = .inr (0, 8, 0, 0))
def gC3 (p : Nat) : Prop := (p < 315 ∧ shX p = .inl (2, [some (p + 1), some (p + 2), some (p + 3), some (p + 4), none, none, none])) ∧ (p + 1 < 315 ∧ shX (p + 1) = .inr (0, 7, 0, 0)) ∧ (p + 2 < 315 ∧ shX (p + 2) = .inr (0, 128, 0, 0)) ∧ (p + 3 < 315 ∧ shX (p + 3) = .inr (0, 128, 0, 0)) ∧ (p + 4 < 315 ∧ shX (p + 4) = .inr (0, 128, 0, 0))
def gC6 (p : Nat) : Prop := (p < 315 ∧ shX p = .inl (5, [some (p + 1)])) ∧ (p + 1 < 315 ∧ shX (p + 1) = .inr (2, 128, p + 2, 1)) ∧ (∀ i, i < 128 → p + 2 + 1 * i < 315 ∧ shX (p + 2 + 1 * i) = .inr (0, 41, 0, 0))
def gC0 (p : Nat) : Prop := (p < 315 ∧ shX p = .inl (0, [some (p + 1), none])) ∧ (p + 1 < 315 ∧ shX (p + 1) = .inr (2, 128, p + 2, 1)) ∧ (∀ i, i < 128 → p + 2 + 1 * i < 315 ∧ shX (p + 2 + 1 * i) = .inr (0, 7, 0, 0))
def gC9 (p : Nat) : Prop := (p < 315 ∧ shX p = .inl (8, [some (p + 1), some (p + 2), none, none, none, some (p + 3), some (p + 4), some (p + 5), some (p + 6)])) ∧ (p + 1 < 315 ∧ shX (p + 1) = .inr (1, 128, 0, 0)) ∧ (p + 2 < 315 ∧ shX (p + 2) = .inr (1, 128, 0, 0)) ∧ (p + 3 < 315 ∧ shX (p + 3) = .inr (0, 13, 0, 0)) ∧ (p + 4 < 315 ∧ shX (p + 4) = .inr (0, 13, 0, 0)) ∧ (p + 5 < 315 ∧ shX (p + 5) = .inr (0, 13, 0, 0)) ∧ (p + 6 < 315 ∧ shX (p + 6) = .inr (0, 13, 0, 0))
def gC7 (p : Nat) : Prop := (p < 315 ∧ shX p = .inl (6, [some (p + 1), none, none, none, none, none])) ∧ (p + 1 < 315 ∧ shX (p + 1) = .inr (0, 100, 0, 0))
def gC4 (p : Nat) : Prop := (p < 315 ∧ shX p = .inl (3, [some (p + 1), none])) ∧ (p + 1 < 315 ∧ shX (p + 1) = .inr (0, 420, 0, 0))
def gC8 (p : Nat) : Prop := (p < 315 ∧ shX p = .inl (7, [none, none, some (p + 1), some (p + 2)])) ∧ (p + 1 < 315 ∧ shX (p + 1) = .inr (0, 512, 0, 0)) ∧ (p + 2 < 315 ∧ shX (p + 2) = .inr (0, 512, 0, 0))
def gC1 (p : Nat) : Prop := (p < 315 ∧ shX p = .inl (1, [none, some (p + 1)])) ∧ (p + 1 < 315 ∧ shX (p + 1) = .inr (0, 30, 0, 0))
theorem gF5_1 : gC5 1 := ⟨⟨by decide, rfl⟩, ⟨by decide, rfl⟩, ⟨by decide, rfl⟩, ⟨by decide, rfl⟩⟩
theorem gF5_5 : gC5 5 := ⟨⟨by decide, rfl⟩, ⟨by decide, rfl⟩, ⟨by decide, rfl⟩, ⟨by decide, rfl⟩⟩
theorem gF5_9 : gC5 9 := ⟨⟨by decide, rfl⟩, ⟨by decide, rfl⟩, ⟨by decide, rfl⟩, ⟨by decide, rfl⟩⟩
theorem gF3_13 : gC3 13 := ⟨⟨by decide, rfl⟩, ⟨by decide, rfl⟩, ⟨by decide, rfl⟩, ⟨by decide, rfl⟩, ⟨by decide, rfl⟩⟩
theorem gF3_18 : gC3 18 := ⟨⟨by decide, rfl⟩, ⟨by decide, rfl⟩, ⟨by decide, rfl⟩, ⟨by decide, rfl⟩, ⟨by decide, rfl⟩⟩
theorem gF6_23 : gC6 23 := ⟨⟨by decide, rfl⟩, ⟨by decide, rfl⟩, fun i hi => ⟨by omega, by unfold shX; rw [if_neg (by omega), if_pos (by omega)]⟩⟩
theorem gF0_153 : gC0 153 := ⟨⟨by decide, rfl⟩, ⟨by decide, rfl⟩, fun i hi => ⟨by omega, by unfold shX; rw [if_neg (by omega), if_neg (by omega), if_neg (by omega), if_pos (by omega)]⟩⟩
theorem gF9_283 : gC9 283 := ⟨⟨by decide, rfl⟩, ⟨by decide, rfl⟩, ⟨by decide, rfl⟩, ⟨by decide, rfl⟩, ⟨by decide, rfl⟩, ⟨by decide, rfl⟩, ⟨by decide, rfl⟩⟩
theorem gF7_290 : gC7 290 := ⟨⟨by decide, rfl⟩, ⟨by decide, rfl⟩⟩
theorem gF4_292 : gC4 292 := ⟨⟨by decide, rfl⟩, ⟨by decide, rfl⟩⟩
theorem gF8_e : ∀ i, i < 4 → gC8 (297 + 3 * i) := by
  intro i hi
  rcases (show i = 0 ∨ i = 1 ∨ i = 2 ∨ i = 3 by omega) with rfl | rfl | rfl | rfl
  · exact ⟨⟨by decide, rfl⟩, ⟨by decide, rfl⟩, ⟨by decide, rfl⟩⟩
  · exact ⟨⟨by decide, rfl⟩, ⟨by decide, rfl⟩, ⟨by decide, rfl⟩⟩
  · exact ⟨⟨by decide, rfl⟩, ⟨by decide, rfl⟩, ⟨by decide, rfl⟩⟩
  · exact ⟨⟨by decide, rfl⟩, ⟨by decide, rfl⟩, ⟨by decide, rfl⟩⟩
theorem gF1_e : ∀ i, i < 3 → gC1 (309 + 2 * i) := by
  intro i hi
  rcases (show i = 0 ∨ i = 1 ∨ i = 2 by omega) with rfl | rfl | rfl
  · exact ⟨⟨by decide, rfl⟩, ⟨by decide, rfl⟩⟩
  · exact ⟨⟨by decide, rfl⟩, ⟨by decide, rfl⟩⟩
  · exact ⟨⟨by decide, rfl⟩, ⟨by decide, rfl⟩⟩
def gC10 : Prop := (0 < 315 ∧ shX 0 = .inl (9, [some (1), some (5), some (9), some (13), some (18), some (23), some (153), some (283), some (290), some (292), some (294), some (295), some (296), none, none, none, none, none])) ∧ gC5 1 ∧ gC5 5 ∧ gC5 9 ∧ gC3 13 ∧ gC3 18 ∧ gC6 23 ∧ gC0 153 ∧ gC9 283 ∧ gC7 290 ∧ gC4 292 ∧ (294 < 315 ∧ shX (294) = .inr (3, 4, 297, 3)) ∧ (∀ i, i < 4 → gC8 (297 + 3 * i)) ∧ (295 < 315 ∧ shX (295) = .inr (4, 3, 309, 2)) ∧ (∀ i, i < 3 → gC1 (309 + 2 * i)) ∧ (296 < 315 ∧ shX (296) = .inr (0, 7, 0, 0))
theorem gF10 : gC10 := ⟨⟨by decide, rfl⟩, gF5_1, gF5_5, gF5_9, gF3_13, gF3_18, gF6_23, gF0_153, gF9_283, gF7_290, gF4_292, ⟨by decide, rfl⟩, gF8_e, ⟨by decide, rfl⟩, gF1_e, ⟨by decide, rfl⟩⟩
def gC11 : Prop := (0 < 22 ∧ shM 0 = .inl (10, [none, none, none, some (1), some (2), some (3), some (4), none, none, some (5), none, some (6), some (7), none, some (8), none, none, none, none, none, none, some (9), none, some (10), some (11), some (12), none, some (13), some (14), some (15), some (16), some (17), some (18), none, none, none, some (19), some (20), some (21)])) ∧ (1 < 22 ∧ shM (1) = .inr (0, 7, 0, 0)) ∧ (2 < 22 ∧ shM (2) = .inr (0, 7, 0, 0)) ∧ (3 < 22 ∧ shM (3) = .inr (0, 8, 0, 0)) ∧ (4 < 22 ∧ shM (4) = .inr (0, 7, 0, 0)) ∧ (5 < 22 ∧ shM (5) = .inr (0, 5040, 0, 0)) ∧ (6 < 22 ∧ shM (6) = .inr (0, 128, 0, 0)) ∧ (7 < 22 ∧ shM (7) = .inr (0, 128, 0, 0)) ∧ (8 < 22 ∧ shM (8) = .inr (0, 100, 0, 0)) ∧ (9 < 22 ∧ shM (9) = .inr (0, 100, 0, 0)) ∧ (10 < 22 ∧ shM (10) = .inr (0, 7, 0, 0)) ∧ (11 < 22 ∧ shM (11) = .inr (0, 7, 0, 0)) ∧ (12 < 22 ∧ shM (12) = .inr (0, 500, 0, 0)) ∧ (13 < 22 ∧ shM (13) = .inr (1, 4, 0, 0)) ∧ (14 < 22 ∧ shM (14) = .inr (0, 4, 0, 0)) ∧ (15 < 22 ∧ shM (15) = .inr (0, 1200, 0, 0)) ∧ (16 < 22 ∧ shM (16) = .inr (0, 1200, 0, 0)) ∧ (17 < 22 ∧ shM (17) = .inr (0, 3, 0, 0)) ∧ (18 < 22 ∧ shM (18) = .inr (0, 90, 0, 0)) ∧ (19 < 22 ∧ shM (19) = .inr (0, 7, 0, 0)) ∧ (20 < 22 ∧ shM (20) = .inr (0, 7, 0, 0)) ∧ (21 < 22 ∧ shM (21) = .inr (0, 8, 0, 0))
theorem gF11 : gC11 := ⟨⟨by decide, rfl⟩, ⟨by decide, rfl⟩, ⟨by decide, rfl⟩, ⟨by decide, rfl⟩, ⟨by decide, rfl⟩, ⟨by decide, rfl⟩, ⟨by decide, rfl⟩, ⟨by decide, rfl⟩, ⟨by decide, rfl⟩, ⟨by decide, rfl⟩, ⟨by decide, rfl⟩, ⟨by decide, rfl⟩, ⟨by decide, rfl⟩, ⟨by decide, rfl⟩, ⟨by decide, rfl⟩, ⟨by decide, rfl⟩, ⟨by decide, rfl⟩, ⟨by decide, rfl⟩, ⟨by decide, rfl⟩, ⟨by decide, rfl⟩, ⟨by decide, rfl⟩, ⟨by decide, rfl⟩⟩
