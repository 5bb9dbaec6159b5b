theorem st_arr {args : Array Value} {s : State} {ty : FieldType} (h : (Cond.arrayClass ty).before args s = true) : ∃ cA : ClassId, ArrOfT s cA ty ∧ s.vm.findClass ("[" ++ ty.toString) = some cA := by
  obtain ⟨c, k, comp, h1, h2, h3⟩ := Cond.arrayClass_spec h
  exact ⟨c, fun n z => ⟨(fun k h => by cases h), k, h2, comp, h3⟩, h1⟩
theorem st_arrO {args : Array Value} {s : State} {C : String} (h : (Cond.arrayOver (.object C)).before args s = true) : ∃ cA : ClassId, ArrOfT s cA (.object C) ∧ va_RA s cA (.object C) := by
  obtain ⟨comp, c, k, h1, h2, h3, h4, h5⟩ := Cond.arrayOver_spec h
  exact ⟨c, fun n z => ⟨(fun k h => by cases h), k, h3, comp, h4⟩, ⟨k, comp, h3, h4, h1, h5⟩⟩
theorem st_arrA {args : Array Value} {s : State} {t : FieldType} (h : (Cond.arrayOver (.array t)).before args s = true) : ∃ cA : ClassId, ArrOfT s cA (.array t) ∧ va_RA s cA (.array t) := by
  obtain ⟨comp, c, k, h1, h2, h3, h4, h5⟩ := arrayOverA_spec h
  exact ⟨c, fun n z => ⟨(fun k h => by cases h), k, h3, comp, h4⟩, h5⟩
set_option maxHeartbeats 8000000 in
set_option maxRecDepth 100000 in
theorem st_K {s : State} {b : Addr} (hts : ∀ w ∈ lw_tbl, w.before #[Value.ref b] s = true) : ∃ (D : va_G) (cA : Nat → ClassId), va_K D vwCl (gty cA) s ∧ gE s := by
  obtain ⟨c0, i0, hk0⟩ := u_known (C := RX0) (T := TX0) (N := 2) (n := 2) hts inX0 (hts (.instantiable RX0 2) (by decide +kernel))
  obtain ⟨c1, i1, hk1⟩ := u_known (C := RX1) (T := TX1) (N := 2) (n := 2) hts inX1 (hts (.instantiable RX1 2) (by decide +kernel))
  obtain ⟨c2, i2, hk2⟩ := u_known (C := RX3) (T := TX3) (N := 7) (n := 7) hts inX3 (hts (.instantiable RX3 7) (by decide +kernel))
  obtain ⟨c3, i3, hk3⟩ := u_known (C := RX4) (T := TX4) (N := 2) (n := 2) hts inX4 (hts (.instantiable RX4 2) (by decide +kernel))
  obtain ⟨c4, i4, hk4⟩ := u_known (C := RX5) (T := TX5) (N := 5) (n := 5) hts inX5 (hts (.instantiable RX5 5) (by decide +kernel))
  obtain ⟨c5, i5, hk5⟩ := u_known (C := RX6) (T := TX6) (N := 1) (n := 1) hts inX6 (hts (.instantiable RX6 1) (by decide +kernel))
  obtain ⟨c6, i6, hk6⟩ := u_known (C := RX7) (T := TX7) (N := 6) (n := 6) hts inX7 (hts (.instantiable RX7 6) (by decide +kernel))
  obtain ⟨c7, i7, hk7⟩ := u_known (C := RX8) (T := TX8) (N := 4) (n := 4) hts inX8 (hts (.instantiable RX8 4) (by decide +kernel))
  obtain ⟨c8, i8, hk8⟩ := u_known (C := RX9) (T := TX9) (N := 9) (n := 9) hts inX9 (hts (.instantiable RX9 9) (by decide +kernel))
  obtain ⟨c9, i9, hk9⟩ := u_known (C := RX10) (T := TX10) (N := 18) (n := 18) hts inX10 (hts (.instantiable RX10 18) (by decide +kernel))
  obtain ⟨c10, i10, hk10⟩ := u_known (C := RX11) (T := TX11) (N := 39) (n := 39) hts inX11 (hts (.instantiable RX11 39) (by decide +kernel))
  have hT : (Cond.arrayOver (.object RX8)).before #[Value.ref b] s = true := hts _ (by decide +kernel)
  have hI : (Cond.arrayOver (.object RX1)).before #[Value.ref b] s = true := hts _ (by decide +kernel)
  have hA2 : (Cond.arrayOver (.array .int)).before #[Value.ref b] s = true := hts _ (by decide +kernel)
  obtain ⟨a0, x0, y0⟩ := st_arr (hts (.arrayClass .int) (by decide +kernel))
  obtain ⟨a1, x1, y1⟩ := st_arr (hts (.arrayClass .boolean) (by decide +kernel))
  obtain ⟨a2, x2, y2⟩ := st_arrA hA2
  obtain ⟨a3, x3, y3⟩ := st_arrO hT
  obtain ⟨a4, x4, y4⟩ := st_arrO hI
  refine ⟨(fun k => match k with | 0 => c0 | 1 => c1 | 2 => c2 | 3 => c3 | 4 => c4 | 5 => c5 | 6 => c6 | 7 => c7 | 8 => c8 | 9 => c9 | _ => c10, fun k => match k with | 0 => i0 | 1 => i1 | 2 => i2 | 3 => i3 | 4 => i4 | 5 => i5 | 6 => i6 | 7 => i7 | 8 => i8 | 9 => i9 | _ => i10), fun k => match k with | 0 => a0 | 1 => a1 | 2 => a2 | 3 => a3 | _ => a4, ⟨?_, ?_⟩, va_AO.of hT, va_AO.of hI, over_moved (Vm.Alike.refl s.vm) hA2, ?_⟩
  · intro k q hq
    match k, hq with
    | 0, hq => cases hq; exact hk0
    | 1, hq => cases hq; exact hk1
    | 2, hq => cases hq; exact hk2
    | 3, hq => cases hq; exact hk3
    | 4, hq => cases hq; exact hk4
    | 5, hq => cases hq; exact hk5
    | 6, hq => cases hq; exact hk6
    | 7, hq => cases hq; exact hk7
    | 8, hq => cases hq; exact hk8
    | 9, hq => cases hq; exact hk9
    | 10, hq => cases hq; exact hk10
    | k + 11, hq => simp [vwCl] at hq
  · intro k q hq
    match k, hq with
    | 0, hq => cases hq; exact ⟨x0, y0⟩
    | 1, hq => cases hq; exact ⟨x1, y1⟩
    | 2, hq => cases hq; exact ⟨x2, y2⟩
    | 3, hq => cases hq; exact ⟨x3, y3⟩
    | 4, hq => cases hq; exact ⟨x4, y4⟩
    | k + 5, hq => simp [gty] at hq
  · intro q hq
    have h : ∀ q ∈ gNest, Cond.methodLinkNest RX10 q.1 q.2 RX10 ∈ lw_tbl := by decide +kernel
    exact va_Nw.of rfl (hts _ (h q hq))
theorem st_S {s : State} {b : Addr} (hts : ∀ w ∈ lw_tbl, w.before #[Value.ref b] s = true) (hgv : (Jvm.Cond.and given_1 narrow_1).before #[Value.ref b] s = true) : ∃ tw : Nat, gSt tw (gAL s) s s.heap := by
  have hs := flat_of_before _ hgv
  have harr : (Cond.arrayOf (.static "FindOrder$Names" "WORTH" "[I") .int).before #[Value.ref b] s = true := hs _ (by decide +kernel)
  have hlen : (Cond.eq (.length (.static "FindOrder$Names" "WORTH" "[I")) (.int 6)).before #[Value.ref b] s = true := hs _ (by decide +kernel)
  have hel : ∀ j : Nat, j < 6 → (Cond.eq (.elem (.static "FindOrder$Names" "WORTH" "[I") (.int (Int32.ofNat j))) (.int (gWo j))).before #[Value.ref b] s = true := by
    intro j hj
    rcases (show j = 0 ∨ j = 1 ∨ j = 2 ∨ j = 3 ∨ j = 4 ∨ j = 5 by omega) with rfl | rfl | rfl | rfl | rfl | rfl <;> exact hs _ (by decide +kernel)
  obtain ⟨t, ht, hT⟩ := va_Tof (A := gAL s) (f := fun j => .int (gWo j)) (by decide) harr (va_eqt hlen) (fun j hj => va_eqt (hel j hj)) (fun a h => Nat.not_le.mpr h)
  exact ⟨t, va_Zof (hts (.laysStatic "FindOrder$Names" "WORTH" "[I") (by decide +kernel)) (hts (.initialized "FindOrder$Names") (by decide +kernel)) ht (fun a h => Nat.not_le.mpr h), hT⟩
set_option maxHeartbeats 8000000 in
set_option maxRecDepth 100000 in
theorem whole_start {p : Program} {e : Env} {s : State} {m : MethodId} {below : List Frame} {meth : Method} {c : Code} (l : Launch) (hflags : l.flags = flags0) {b L : Nat} {xs : Nat → Int32} (hL : L ≤ 2048) (C0 : lw_At p s m meth c b L xs) : W p l e room_1 s m #[Value.ref b] below meth c s.heap [] 0 0 (lw_Z below #[Value.ref b] s) (entryFrame m ([Value.ref b] : List Value).toArray 4) := by
  obtain ⟨hx, hb, hr, hml, hown, hts0, hX, hbl, hlocks, hgv⟩ := id C0
  have hb : c.code = cL_law := hb
  obtain ⟨D, cA, hK, hE⟩ := st_K hts0
  obtain ⟨tw, hZ⟩ := st_S hts0 hgv
  have hts := hts0
  have hown : s.vm.findClass RL = some m.cls := hown
  have hl := lv_entry ([.ref b]) (n := 4) (Nat.le_of_ble_eq_true rfl)
  rw [lg_entry_eq]
  generalize (lg_sl ([.ref b]) ++ List.replicate (4 - (lg_sl ([.ref b])).length) Slot.unset).toArray = ls at hl ⊢
  have hl : lv_has ls 4 [(0, .ref b)] := hl
  obtain ⟨h1, eh1⟩ : ∃ h, h = s.heap.size := ⟨_, rfl⟩
  have hz : s.heap.size = h1 + 0 := by omega
  have hP : va_P D vwCl (gx h1 0 (fun _ => .inr (0, []))) s.heap := fun k q h => by simp [gx] at h
  have hS : va_S (gB h1) s.heap s.heap [] := va_S.rf
  refine fx_new (ci := 9) (fs := [.null, .null, .null, .null, .null, .null, .null, .null, .null, .null, .null, .null, .null, .int 0, .int 0, .int 0, .int 0, .int 0]) hx hb hts0 inX10 tyX10_ok hown (hts0 _ (by decide +kernel)) (hts0 (.instantiable RX10 18) (by decide +kernel)) (hts0 (.initialized RX10) (by decide +kernel)) hK hz hP hS rfl (fun j hj => by rcases (show j = 0 ∨ j = 1 ∨ j = 2 ∨ j = 3 ∨ j = 4 ∨ j = 5 ∨ j = 6 ∨ j = 7 ∨ j = 8 ∨ j = 9 ∨ j = 10 ∨ j = 11 ∨ j = 12 ∨ j = 13 ∨ j = 14 ∨ j = 15 ∨ j = 16 ∨ j = 17 by omega) with rfl | rfl | rfl | rfl | rfl | rfl | rfl | rfl | rfl | rfl | rfl | rfl | rfl | rfl | rfl | rfl | rfl | rfl <;> rfl) (Nat.le_of_ble_eq_true rfl) (Nat.le_of_ble_eq_true rfl) dL_law_0 (fun H hz hP hS => ?_)
  refine lv_dup hx hb dL_law_3 rfl ?_
  have hst : (up1 (fun _ => .inr (0, [])) 0 (.inr (9, [.null, .null, .null, .null, .null, .null, .null, .null, .null, .null, .null, .null, .null, .int 0, .int 0, .int 0, .int 0, .int 0]))) 0 = .inr (9, [.null, .null, .null, .null, .null, .null, .null, .null, .null, .null, .null, .null, .null, .int 0, .int 0, .int 0, .int 0, .int 0]) := rfl
  refine fx_call (As := []) (rest := [.ref (h1 + 0)]) ⟨hx, hb, hml, hown, hts⟩ (ct_X10_init l D cA h1 _ hst) (cwI 0 hts gT_X10_init rfl rfl rfl (hts0 (.initialized RX10) (by decide +kernel)) (hts0 (.methodLink RL 9 yX10_init) (by decide +kernel)) (hts0 (.instanceMethod yX10_init) (by decide +kernel)) rfl hdI_X10_init ⟨Nat.le_of_ble_eq_true rfl, Nat.le_of_ble_eq_true rfl⟩) hK hE hz hP hS rfl hl _ rfl (Nat.le_of_ble_eq_true rfl) dL_law_4 ⟨Nat.le_of_ble_eq_true rfl, Nat.le_of_ble_eq_true rfl⟩ (fun H locs hz hP hS => ?_)
  have hP1 : va_P D vwCl (gw cA (fun k => h1 + k) shX 315 z_0) H := gx_ext (ce' := fun k => gce cA (fun k => h1 + k) (z_0 k) (shX k)) hP (st_X cA h1 _)
  have hS1 : va_S (gAL s) s.heap H locs := by rw [eh1] at hS; exact hS
  refine va_forget (fun q hq => hS1.2.2 q hq) ?_
  refine lv_astore_n (lv' := [(1, .ref (h1 + 0)), (0, .ref b)]) hx hb dL_law_7 rfl hl (by decide) rfl (fun ls hl => ?_)
  obtain ⟨h2, eh2⟩ : ∃ h, h = h1 + 315 := ⟨_, rfl⟩
  have hz : H.size = h2 + 0 := by omega
  have hP : va_P D vwCl (gx h2 0 (fun _ => .inr (0, []))) H := fun k q h => by simp [gx] at h
  have hS : va_S (gB h2) H H [] := va_S.rf
  refine fx_new (ci := 10) (fs := [.int 0, .int 0, .int 0, .null, .null, .null, .null, .int 0, .int 0, .null, .int 0, .null, .null, .int 0, .null, .int 0, .int 0, .int 0, .int 0, .int 0, .int 0, .null, .int 0, .null, .null, .null, .int 0, .null, .null, .null, .null, .null, .null, .int 0, .int 0, .int 0, .null, .null, .null]) hx hb hts0 inX11 tyX11_ok hown (hts0 _ (by decide +kernel)) (hts0 (.instantiable RX11 39) (by decide +kernel)) (hts0 (.initialized RX11) (by decide +kernel)) hK hz hP hS rfl (fun j hj => by rcases (show j = 0 ∨ j = 1 ∨ j = 2 ∨ j = 3 ∨ j = 4 ∨ j = 5 ∨ j = 6 ∨ j = 7 ∨ j = 8 ∨ j = 9 ∨ j = 10 ∨ j = 11 ∨ j = 12 ∨ j = 13 ∨ j = 14 ∨ j = 15 ∨ j = 16 ∨ j = 17 ∨ j = 18 ∨ j = 19 ∨ j = 20 ∨ j = 21 ∨ j = 22 ∨ j = 23 ∨ j = 24 ∨ j = 25 ∨ j = 26 ∨ j = 27 ∨ j = 28 ∨ j = 29 ∨ j = 30 ∨ j = 31 ∨ j = 32 ∨ j = 33 ∨ j = 34 ∨ j = 35 ∨ j = 36 ∨ j = 37 ∨ j = 38 by omega) with rfl | rfl | rfl | rfl | rfl | rfl | rfl | rfl | rfl | rfl | rfl | rfl | rfl | rfl | rfl | rfl | rfl | rfl | rfl | rfl | rfl | rfl | rfl | rfl | rfl | rfl | rfl | rfl | rfl | rfl | rfl | rfl | rfl | rfl | rfl | rfl | rfl | rfl | rfl <;> rfl) (Nat.le_of_ble_eq_true rfl) (Nat.le_of_ble_eq_true rfl) dL_law_8 (fun H2 hz2 hP2 hS2 => ?_)
  refine lv_dup hx hb dL_law_11 rfl ?_
  have hst : (up1 (fun _ => .inr (0, [])) 0 (.inr (10, [.int 0, .int 0, .int 0, .null, .null, .null, .null, .int 0, .int 0, .null, .int 0, .null, .null, .int 0, .null, .int 0, .int 0, .int 0, .int 0, .int 0, .int 0, .null, .int 0, .null, .null, .null, .int 0, .null, .null, .null, .null, .null, .null, .int 0, .int 0, .int 0, .null, .null, .null]))) 0 = .inr (10, [.int 0, .int 0, .int 0, .null, .null, .null, .null, .int 0, .int 0, .null, .int 0, .null, .null, .int 0, .null, .int 0, .int 0, .int 0, .int 0, .int 0, .int 0, .null, .int 0, .null, .null, .null, .int 0, .null, .null, .null, .null, .null, .null, .int 0, .int 0, .int 0, .null, .null, .null]) := rfl
  refine fx_call (As := []) (rest := [.ref (h2 + 0)]) ⟨hx, hb, hml, hown, hts⟩ (ct_X11_init l D cA h2 _ hst) (cwI 0 hts gT_X11_init rfl rfl rfl (hts0 (.initialized RX11) (by decide +kernel)) (hts0 (.methodLink RL 12 yX11_init) (by decide +kernel)) (hts0 (.instanceMethod yX11_init) (by decide +kernel)) rfl hdI_X11_init ⟨Nat.le_of_ble_eq_true rfl, Nat.le_of_ble_eq_true rfl⟩) hK hE hz2 hP2 hS2 rfl hl _ rfl (Nat.le_of_ble_eq_true rfl) dL_law_12 ⟨Nat.le_of_ble_eq_true rfl, Nat.le_of_ble_eq_true rfl⟩ (fun H3 locs3 hz3 hP3 hS3 => ?_)
  have hQ : va_P D vwCl (gw cA (fun k => h2 + k) shM 22 w_0) H3 := gx_ext (ce' := fun k => gce cA (fun k => h2 + k) (w_0 k) (shM k)) hP3 (st_M cA h2 _)
  have hP4 : va_P D vwCl (gw cA (fun k => h1 + k) shX 315 z_0) H3 := hP1.kept (fun k q hq => by
    obtain ⟨g1, g2⟩ := gw_mem hq
    exact hS3.2.1 q.1 (hP1 k q hq).lt (by rw [g2]; show ¬ h2 ≤ h1 + k; omega))
  have hS4 : va_S (gAL s) s.heap H3 [] := ⟨Nat.le_trans hS1.1 hS3.1, fun q g1 g2 => (hS3.2.1 q (Nat.lt_of_lt_of_le g1 hS1.1) (by show ¬ h2 ≤ q; omega)).trans (hS1.2.1 q g1 g2), fun q hq => by cases hq⟩
  refine va_forget (fun q hq => by have : h2 ≤ q.base := hS3.2.2 q hq; omega) ?_
  refine lv_astore_n (lv' := [(2, .ref (h2 + 0)), (1, .ref (h1 + 0)), (0, .ref b)]) hx hb dL_law_15 rfl hl (by decide) rfl (fun ls hl => ?_)
  refine lv_iconst (v := nI 0) hx hb dL_law_16 (by decide) ?_
  refine lv_istore_n (lv' := [(3, .int (nI 0)), (2, .ref (h2 + 0)), (1, .ref (h1 + 0)), (0, .ref b)]) hx hb dL_law_17 rfl hl (by decide) rfl (fun ls hl => ?_)
  exact law_loop C0 hK hZ (by omega) (by omega) (Nat.le_of_ble_eq_true rfl) (Nat.le_of_ble_eq_true rfl) gF (nI 0) z_0 w_0 H3 [] ls (pure_ok xs L hL) hP4 hQ hS4 (lv_sub hl [0, 3, 2, 1] rfl)
