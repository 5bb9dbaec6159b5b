/-! the state that the two constructors leave, and the start -/
theorem z_0z {k : Nat} (h : k ≠ 309 ∧ k ≠ 311 ∧ k ≠ 313) : z_0 k = fun _ => 0 := by
  funext j
  unfold z_0
  rw [if_neg (by omega)]
theorem up1_ne {ce : Nat → va_E} {a k : Nat} {e : va_E} (h : k ≠ a) : up1 ce a e k = ce k := if_neg h
set_option maxRecDepth 100000 in
theorem st_row (cA : Nat → ClassId) (h1 : Nat) (ce : Nat → va_E) (k : Nat) (hk : 25 ≤ k ∧ k < 153) : ce_X10_init cA h1 ce k = .inl (cA 0, 41, .inl (fun _ => 0)) := by
  unfold ce_X10_init
  repeat (first | refine (up1_ne (by omega)).trans ?_ | refine (upM_lt (by omega)).trans ?_ | exact upM_row (by omega))
set_option maxRecDepth 100000 in
theorem st_row2 (cA : Nat → ClassId) (h1 : Nat) (ce : Nat → va_E) (k : Nat) (hk : 155 ≤ k ∧ k < 283) : ce_X10_init cA h1 ce k = .inl (cA 0, 7, .inl (fun _ => 0)) := by
  unfold ce_X10_init
  repeat (first | refine (up1_ne (by omega)).trans ?_ | refine (upM_lt (by omega)).trans ?_ | exact upM_row (by omega))
theorem st_f1 (h1 : Nat) (n b : Nat) : (fun i => if i < n then some (h1 + b + 1 + i) else none : Nat → Option Nat) = fun i => if i < n then some (h1 + (b + 1 + 1 * i)) else none := by
  funext i
  rw [show h1 + (b + 1 + 1 * i) = h1 + b + 1 + i by omega]
theorem st_f4 (h1 : Nat) : va_up (va_up (va_up (va_up (fun _ => none) (nI 0).toNatClampNeg (some (h1 + 297))) (nI 1).toNatClampNeg (some (h1 + 300))) (nI 2).toNatClampNeg (some (h1 + 303))) (nI 3).toNatClampNeg (some (h1 + 306)) = fun i => if i < 4 then some (h1 + (297 + 3 * i)) else none := by
  have e0 : (nI 0).toNatClampNeg = 0 := by decide
  have e1 : (nI 1).toNatClampNeg = 1 := by decide
  have e2 : (nI 2).toNatClampNeg = 2 := by decide
  have e3 : (nI 3).toNatClampNeg = 3 := by decide
  rw [e0, e1, e2, e3]
  funext i
  match i with
  | 0 => rfl
  | 1 => rfl
  | 2 => rfl
  | 3 => rfl
  | i + 4 => simp [va_up]
theorem st_f3 (h1 : Nat) : va_up (va_up (va_up (fun _ => none) (nI 0).toNatClampNeg (some (h1 + 309))) (nI 1).toNatClampNeg (some (h1 + 311))) (nI 2).toNatClampNeg (some (h1 + 313)) = fun i => if i < 3 then some (h1 + (309 + 2 * i)) else none := by
  have e0 : (nI 0).toNatClampNeg = 0 := by decide
  have e1 : (nI 1).toNatClampNeg = 1 := by decide
  have e2 : (nI 2).toNatClampNeg = 2 := by decide
  rw [e0, e1, e2]
  funext i
  match i with
  | 0 => rfl
  | 1 => rfl
  | 2 => rfl
  | i + 3 => simp [va_up]
theorem st_fs : upd (upd (upd (fun _ => (0 : Int32)) (nI 0).toNatClampNeg (-1)) (nI 1).toNatClampNeg (-1)) (nI 2).toNatClampNeg (-1) = fun j => if j < 3 then -1 else 0 := by
  have e0 : (nI 0).toNatClampNeg = 0 := by decide
  have e1 : (nI 1).toNatClampNeg = 1 := by decide
  have e2 : (nI 2).toNatClampNeg = 2 := by decide
  rw [e0, e1, e2]
  funext i
  match i with
  | 0 => rfl
  | 1 => rfl
  | 2 => rfl
  | i + 3 => simp [upd]
set_option maxHeartbeats 8000000 in
set_option maxRecDepth 100000 in
theorem st_X (cA : Nat → ClassId) (h1 : Nat) (ce : Nat → va_E) : ∀ k, k < 315 → gce cA (fun k => h1 + k) (z_0 k) (shX k) = ce_X10_init cA h1 ce k := by
  intro k hk
  by_cases c1 : 25 ≤ k ∧ k < 153
  · rw [st_row cA h1 ce k c1, z_0z (by omega), show shX k = .inr (0, 41, 0, 0) by unfold shX; rw [if_neg (by omega), if_pos (by omega)]]
    rfl
  by_cases c2 : 155 ≤ k ∧ k < 283
  · rw [st_row2 cA h1 ce k c2, z_0z (by omega), show shX k = .inr (0, 7, 0, 0) by unfold shX; rw [if_neg (by omega), if_neg (by omega), if_neg (by omega), if_pos (by omega)]]
    rfl
  by_cases d0 : k = 0
  · subst d0
    rfl
  by_cases d1 : k = 1
  · subst d1
    rfl
  by_cases d2 : k = 2
  · subst d2
    rfl
  by_cases d3 : k = 3
  · subst d3
    rfl
  by_cases d4 : k = 4
  · subst d4
    rfl
  by_cases d5 : k = 5
  · subst d5
    rfl
  by_cases d6 : k = 6
  · subst d6
    rfl
  by_cases d7 : k = 7
  · subst d7
    rfl
  by_cases d8 : k = 8
  · subst d8
    rfl
  by_cases d9 : k = 9
  · subst d9
    rfl
  by_cases d10 : k = 10
  · subst d10
    rfl
  by_cases d11 : k = 11
  · subst d11
    rfl
  by_cases d12 : k = 12
  · subst d12
    rfl
  by_cases d13 : k = 13
  · subst d13
    rfl
  by_cases d14 : k = 14
  · subst d14
    rfl
  by_cases d15 : k = 15
  · subst d15
    rfl
  by_cases d16 : k = 16
  · subst d16
    rfl
  by_cases d17 : k = 17
  · subst d17
    rfl
  by_cases d18 : k = 18
  · subst d18
    rfl
  by_cases d19 : k = 19
  · subst d19
    rfl
  by_cases d20 : k = 20
  · subst d20
    rfl
  by_cases d21 : k = 21
  · subst d21
    rfl
  by_cases d22 : k = 22
  · subst d22
    rfl
  by_cases d23 : k = 23
  · subst d23
    rfl
  by_cases d24 : k = 24
  · subst d24
    exact congrArg (fun f => (Sum.inl (cA 2, 128, .inr (.inr (.inr (.inr f)))) : va_E)) (st_f1 h1 128 24).symm
  by_cases d153 : k = 153
  · subst d153
    rfl
  by_cases d154 : k = 154
  · subst d154
    exact congrArg (fun f => (Sum.inl (cA 2, 128, .inr (.inr (.inr (.inr f)))) : va_E)) (st_f1 h1 128 154).symm
  by_cases d283 : k = 283
  · subst d283
    rfl
  by_cases d284 : k = 284
  · subst d284
    rfl
  by_cases d285 : k = 285
  · subst d285
    rfl
  by_cases d286 : k = 286
  · subst d286
    rfl
  by_cases d287 : k = 287
  · subst d287
    rfl
  by_cases d288 : k = 288
  · subst d288
    rfl
  by_cases d289 : k = 289
  · subst d289
    rfl
  by_cases d290 : k = 290
  · subst d290
    rfl
  by_cases d291 : k = 291
  · subst d291
    rfl
  by_cases d292 : k = 292
  · subst d292
    rfl
  by_cases d293 : k = 293
  · subst d293
    rfl
  by_cases d294 : k = 294
  · subst d294
    exact congrArg (fun f => (Sum.inl (cA 3, 4, .inr (.inr (.inr (.inr f)))) : va_E)) (st_f4 h1).symm
  by_cases d295 : k = 295
  · subst d295
    exact congrArg (fun f => (Sum.inl (cA 4, 3, .inr (.inr (.inr (.inr f)))) : va_E)) (st_f3 h1).symm
  by_cases d296 : k = 296
  · subst d296
    rfl
  by_cases d297 : k = 297
  · subst d297
    rfl
  by_cases d298 : k = 298
  · subst d298
    rfl
  by_cases d299 : k = 299
  · subst d299
    rfl
  by_cases d300 : k = 300
  · subst d300
    rfl
  by_cases d301 : k = 301
  · subst d301
    rfl
  by_cases d302 : k = 302
  · subst d302
    rfl
  by_cases d303 : k = 303
  · subst d303
    rfl
  by_cases d304 : k = 304
  · subst d304
    rfl
  by_cases d305 : k = 305
  · subst d305
    rfl
  by_cases d306 : k = 306
  · subst d306
    rfl
  by_cases d307 : k = 307
  · subst d307
    rfl
  by_cases d308 : k = 308
  · subst d308
    rfl
  by_cases d309 : k = 309
  · subst d309
    rfl
  by_cases d310 : k = 310
  · subst d310
    rfl
  by_cases d311 : k = 311
  · subst d311
    rfl
  by_cases d312 : k = 312
  · subst d312
    rfl
  by_cases d313 : k = 313
  · subst d313
    rfl
  by_cases d314 : k = 314
  · subst d314
    rfl
  omega
set_option maxHeartbeats 8000000 in
set_option maxRecDepth 100000 in
theorem st_M (cA : Nat → ClassId) (h2 : Nat) (ce : Nat → va_E) : ∀ k, k < 22 → gce cA (fun k => h2 + k) (w_0 k) (shM k) = ce_X11_init cA h2 ce k := by
  intro k hk
  by_cases d0 : k = 0
  · subst d0
    rfl
  by_cases d1 : k = 1
  · subst d1
    rfl
  by_cases d2 : k = 2
  · subst d2
    rfl
  by_cases d3 : k = 3
  · subst d3
    rfl
  by_cases d4 : k = 4
  · subst d4
    rfl
  by_cases d5 : k = 5
  · subst d5
    rfl
  by_cases d6 : k = 6
  · subst d6
    rfl
  by_cases d7 : k = 7
  · subst d7
    rfl
  by_cases d8 : k = 8
  · subst d8
    rfl
  by_cases d9 : k = 9
  · subst d9
    rfl
  by_cases d10 : k = 10
  · subst d10
    rfl
  by_cases d11 : k = 11
  · subst d11
    rfl
  by_cases d12 : k = 12
  · subst d12
    rfl
  by_cases d13 : k = 13
  · subst d13
    rfl
  by_cases d14 : k = 14
  · subst d14
    rfl
  by_cases d15 : k = 15
  · subst d15
    rfl
  by_cases d16 : k = 16
  · subst d16
    rfl
  by_cases d17 : k = 17
  · subst d17
    exact (congrArg (fun f => (Sum.inl (cA 0, 3, .inl f) : va_E)) (st_fs.trans (by funext j; simp [w_0]))).symm
  by_cases d18 : k = 18
  · subst d18
    rfl
  by_cases d19 : k = 19
  · subst d19
    rfl
  by_cases d20 : k = 20
  · subst d20
    rfl
  by_cases d21 : k = 21
  · subst d21
    rfl
  omega
