theorem in_X4_append_X4 : ∀ w ∈ wsX40, w ∈ wsX4_append := fun w h => List.mem_cons_of_mem _ (List.mem_append_right _ (h))
theorem hdV_X4_append : yX4_append.cls = RX4 ∧ yX4_append.cls ≠ "java/lang/invoke/MethodHandle" ∧ yX4_append.cls ≠ "java/lang/invoke/VarHandle" ∧ (parseMethodDescriptor yX4_append.desc).map (fun d => d.parameters.length) = some 1 := by decide +kernel
set_option maxHeartbeats 4000000 in
set_option maxRecDepth 100000 in
theorem k_X4_append (l : Launch) (D : va_G) (cA : Nat → ClassId) (ad : Nat → Nat) (tw : Nat) (hG : gOk ad 315) (z : gS) (p0 : Nat) (hp0 : gC4 p0) (a1 : Int32) (res : gS) (h : f_X4_append p0 a1 z = some res) : gMv l yX4_append wsX4_append (gRm 0 0) D cA ad tw shX 315 [.ref (ad p0), .int a1] z res := by
  refine Met.ofW (cc := cX4_append) (maxL := 2) (ret := none) (by decide) rfl ?_
  intro p e s m args below meth c s₁ B hml hv
  obtain ⟨rfl, hP, hK, hZ⟩ := hv
  have hx := B.exec
  have hb := B.bytes
  have hr := B.returns
  have hts := atoms_spec (ws := wsX4_append) B.pre
  have hown : s.vm.findClass RX4 = some m.cls := findClass_of_methodNamed B.named
  have hlocks := B.notSynchronized
  have hS : va_S (gA ad 315) s.heap s.heap [] := va_S.rf
  have hl := lv_entry ([.ref (ad p0), .int a1]) (n := 2) (Nat.le_of_ble_eq_true rfl)
  rw [lg_entry_eq]
  generalize (lg_sl ([.ref (ad p0), .int a1]) ++ List.replicate (2 - (lg_sl ([.ref (ad p0), .int a1])).length) Slot.unset).toArray = ls at hl ⊢
  have hl : lv_has ls 2 [(0, .ref (ad p0)), (1, .int a1)] := hl
  unfold f_X4_append at h
  refine lv_aload_n hx hb dX4_append_0 rfl (lv_at hl 0 rfl) ?_
  refine fw_geti hx hb hts in_X4_append_X4 hown hK hP hp0.1.1 hp0.1.2 rfl 1 (by decide) rfl (hts _ (List.mem_of_getElem? (i := 1) rfl)) rfl dX4_append_1 ?_
  refine lv_sipush (v := (nI 420)) hx hb dX4_append_4 (by decide) ?_
  refine lv_icmp_ge (tgt := 30) hx hb dX4_append_7 (by decide) (fun c1 => ?_) (fun c1 => ?_)
  · replace h := gif_t h c1
    exact fw_vret hx hb hr hlocks (Option.some.inj h) hK hZ hP hS dX4_append_30
  · replace h := gif_f h c1
    refine lv_aload_n hx hb dX4_append_10 rfl (lv_at hl 0 rfl) ?_
    refine fw_getr hx hb hts in_X4_append_X4 hown hK hP hp0.1.1 hp0.1.2 rfl 0 (by decide) rfl (hts _ (List.mem_of_getElem? (i := 2) rfl)) rfl dX4_append_11 ?_
    refine lv_aload_n hx hb dX4_append_14 rfl (lv_at hl 0 rfl) ?_
    refine fw_geti hx hb hts in_X4_append_X4 hown hK hP hp0.1.1 hp0.1.2 rfl 1 (by decide) rfl (hts _ (List.mem_of_getElem? (i := 1) rfl)) rfl dX4_append_15 ?_
    refine lv_iload_n hx hb dX4_append_18 rfl (lv_at hl 1 rfl) ?_
    obtain ⟨h2, h⟩ := gg_s h
    refine fw_iast hx hb hK hG hP hS hp0.2.1 hp0.2.2 h2 dX4_append_19 (fun z3 H locs ez3 hP hS => ?_)
    replace h := gl_s h ez3
    refine lv_aload_n hx hb dX4_append_20 rfl (lv_at hl 0 rfl) ?_
    refine lv_dup hx hb dX4_append_21 rfl ?_
    refine fw_geti hx hb hts in_X4_append_X4 hown hK hP hp0.1.1 hp0.1.2 rfl 1 (by decide) rfl (hts _ (List.mem_of_getElem? (i := 1) rfl)) rfl dX4_append_22 ?_
    refine lv_iconst (v := (nI 1)) hx hb dX4_append_25 (by decide) ?_
    refine lv_iadd hx hb dX4_append_26 ?_
    refine fw_put hx hb hts in_X4_append_X4 tyX4_ok nmX4 hown hK hG hP hS hp0.1.1 hp0.1.2 rfl 1 (by decide) rfl (hts _ (List.mem_of_getElem? (i := 1) rfl)) rfl rfl (ty := .int) rfl rfl rfl dX4_append_27 (fun z4 H locs ez4 hP hS => ?_)
    replace h := gl_s h ez4
    exact fw_vret hx hb hr hlocks (Option.some.inj h) hK hZ hP hS dX4_append_30
theorem hdV_X4_writeAge : yX4_writeAge.cls = RX4 ∧ yX4_writeAge.cls ≠ "java/lang/invoke/MethodHandle" ∧ yX4_writeAge.cls ≠ "java/lang/invoke/VarHandle" ∧ (parseMethodDescriptor yX4_writeAge.desc).map (fun d => d.parameters.length) = some 1 := by decide +kernel
set_option maxHeartbeats 4000000 in
set_option maxRecDepth 100000 in
theorem k_X4_writeAge (l : Launch) (D : va_G) (cA : Nat → ClassId) (ad : Nat → Nat) (tw : Nat) (hG : gOk ad 315) (z : gS) (p0 : Nat) (hp0 : gC4 p0) (a1 : Int32) (res : gS) (h : f_X4_writeAge p0 a1 z = some res) : gMv l yX4_writeAge wsX4_writeAge (gRm 1 21) D cA ad tw shX 315 [.ref (ad p0), .int a1] z res := by
  refine Met.ofW (cc := cX4_writeAge) (maxL := 2) (ret := none) (by decide) rfl ?_
  intro p e s m args below meth c s₁ B hml hv
  obtain ⟨rfl, hP, hK, hZ⟩ := hv
  have hx := B.exec
  have hb := B.bytes
  have hr := B.returns
  have hts := atoms_spec (ws := wsX4_writeAge) B.pre
  have hown : s.vm.findClass RX4 = some m.cls := findClass_of_methodNamed B.named
  have hlocks := B.notSynchronized
  have hS : va_S (gA ad 315) s.heap s.heap [] := va_S.rf
  have hl := lv_entry ([.ref (ad p0), .int a1]) (n := 2) (Nat.le_of_ble_eq_true rfl)
  rw [lg_entry_eq]
  generalize (lg_sl ([.ref (ad p0), .int a1]) ++ List.replicate (2 - (lg_sl ([.ref (ad p0), .int a1])).length) Slot.unset).toArray = ls at hl ⊢
  have hl : lv_has ls 2 [(0, .ref (ad p0)), (1, .int a1)] := hl
  have j17 : ∀ (x1 : Int32) (z : gS) (H : Heap) (locs : List Loc) (ls : Array Slot), f_X4_writeAge_17 p0 x1 z = some res → va_P D vwCl (gw cA ad shX 315 z) H → va_S (gA ad 315) s.heap H locs → lv_has ls 2 [(0, .ref (ad p0)), (1, .int x1)] → W p l e (headSpec wsX4_writeAge (gRm 1 21)).room s m ([.ref (ad p0), .int a1] : List Value).toArray below meth c H locs 0 0 (MQ below (va_Qv (fun u => u = res) (gPr D cA ad tw shX 315) (gA ad 315)) ([.ref (ad p0), .int a1] : List Value).toArray s 0 0 (gA ad 315)) (F0 m 17 ls []) := by
    intro x1 z H locs ls h hP hS hl
    unfold f_X4_writeAge_17 at h
    refine lv_iload_n hx hb dX4_writeAge_17 rfl (lv_at hl 1 rfl) ?_
    refine lv_bipush (v := (nI 9)) hx hb dX4_writeAge_18 (by decide) ?_
    refine lv_icmp_le (tgt := 37) hx hb dX4_writeAge_20 (by decide) (fun c3 => ?_) (fun c3 => ?_)
    · replace h := gif_t h c3
      refine lv_aload_n hx hb dX4_writeAge_37 rfl (lv_at hl 0 rfl) ?_
      refine lv_bipush (v := (nI 48)) hx hb dX4_writeAge_38 (by decide) ?_
      refine lv_iload_n hx hb dX4_writeAge_40 rfl (lv_at hl 1 rfl) ?_
      refine lv_bipush (v := (nI 10)) hx hb dX4_writeAge_41 (by decide) ?_
      refine lv_irem hx hb dX4_writeAge_43 (by decide) ?_
      refine lv_iadd hx hb dX4_writeAge_44 ?_
      obtain ⟨q4, hq4, h⟩ := gb_s h
      refine fw_vv (As := [.int ((nI 48) + (x1 - x1 / (nI 10) * (nI 10)))]) (rest := []) ⟨hx, hb, hml, hown, hts⟩ (k_X4_append l D cA ad tw hG z p0 (hp0) ((nI 48) + (x1 - x1 / (nI 10) * (nI 10))) q4 hq4) (cwV 1 hts gX4_writeAge_X4_append rfl rfl rfl hdV_X4_append ⟨Nat.le_of_ble_eq_true rfl, Nat.le_of_ble_eq_true rfl⟩) (fw_preV hp0.1.1 hp0.1.2 rfl rfl hK hZ hP hS) rfl hl _ rfl (Nat.le_of_ble_eq_true rfl) hS dX4_writeAge_45 ⟨Nat.zero_le _, Nat.zero_le _⟩ (fun H locs hP hS => ?_)
      exact fw_vret hx hb hr hlocks (Option.some.inj h) hK hZ hP hS dX4_writeAge_48
    · replace h := gif_f h c3
      refine lv_aload_n hx hb dX4_writeAge_23 rfl (lv_at hl 0 rfl) ?_
      refine lv_bipush (v := (nI 48)) hx hb dX4_writeAge_24 (by decide) ?_
      refine lv_iload_n hx hb dX4_writeAge_26 rfl (lv_at hl 1 rfl) ?_
      refine lv_bipush (v := (nI 10)) hx hb dX4_writeAge_27 (by decide) ?_
      refine lv_idiv hx hb dX4_writeAge_29 (by decide) ?_
      refine lv_bipush (v := (nI 10)) hx hb dX4_writeAge_30 (by decide) ?_
      refine lv_irem hx hb dX4_writeAge_32 (by decide) ?_
      refine lv_iadd hx hb dX4_writeAge_33 ?_
      obtain ⟨q5, hq5, h⟩ := gb_s h
      refine fw_vv (As := [.int ((nI 48) + ((x1 / (nI 10)) - (x1 / (nI 10)) / (nI 10) * (nI 10)))]) (rest := []) ⟨hx, hb, hml, hown, hts⟩ (k_X4_append l D cA ad tw hG z p0 (hp0) ((nI 48) + ((x1 / (nI 10)) - (x1 / (nI 10)) / (nI 10) * (nI 10))) q5 hq5) (cwV 1 hts gX4_writeAge_X4_append rfl rfl rfl hdV_X4_append ⟨Nat.le_of_ble_eq_true rfl, Nat.le_of_ble_eq_true rfl⟩) (fw_preV hp0.1.1 hp0.1.2 rfl rfl hK hZ hP hS) rfl hl _ rfl (Nat.le_of_ble_eq_true rfl) hS dX4_writeAge_34 ⟨Nat.zero_le _, Nat.zero_le _⟩ (fun H locs hP hS => ?_)
      refine lv_aload_n hx hb dX4_writeAge_37 rfl (lv_at hl 0 rfl) ?_
      refine lv_bipush (v := (nI 48)) hx hb dX4_writeAge_38 (by decide) ?_
      refine lv_iload_n hx hb dX4_writeAge_40 rfl (lv_at hl 1 rfl) ?_
      refine lv_bipush (v := (nI 10)) hx hb dX4_writeAge_41 (by decide) ?_
      refine lv_irem hx hb dX4_writeAge_43 (by decide) ?_
      refine lv_iadd hx hb dX4_writeAge_44 ?_
      obtain ⟨q6, hq6, h⟩ := gb_s h
      refine fw_vv (As := [.int ((nI 48) + (x1 - x1 / (nI 10) * (nI 10)))]) (rest := []) ⟨hx, hb, hml, hown, hts⟩ (k_X4_append l D cA ad tw hG q5 p0 (hp0) ((nI 48) + (x1 - x1 / (nI 10) * (nI 10))) q6 hq6) (cwV 1 hts gX4_writeAge_X4_append rfl rfl rfl hdV_X4_append ⟨Nat.le_of_ble_eq_true rfl, Nat.le_of_ble_eq_true rfl⟩) (fw_preV hp0.1.1 hp0.1.2 rfl rfl hK hZ hP hS) rfl hl _ rfl (Nat.le_of_ble_eq_true rfl) hS dX4_writeAge_45 ⟨Nat.zero_le _, Nat.zero_le _⟩ (fun H locs hP hS => ?_)
      exact fw_vret hx hb hr hlocks (Option.some.inj h) hK hZ hP hS dX4_writeAge_48
  unfold f_X4_writeAge at h
  refine lv_iload_n hx hb dX4_writeAge_0 rfl (lv_at hl 1 rfl) ?_
  refine lv_bipush (v := (nI 99)) hx hb dX4_writeAge_1 (by decide) ?_
  refine lv_icmp_le (tgt := 17) hx hb dX4_writeAge_3 (by decide) (fun c1 => ?_) (fun c1 => ?_)
  · replace h := gif_t h c1
    exact j17 a1 z _ _ ls h hP hS (lv_sub hl [0, 1] rfl)
  · replace h := gif_f h c1
    refine lv_aload_n hx hb dX4_writeAge_6 rfl (lv_at hl 0 rfl) ?_
    refine lv_bipush (v := (nI 48)) hx hb dX4_writeAge_7 (by decide) ?_
    refine lv_iload_n hx hb dX4_writeAge_9 rfl (lv_at hl 1 rfl) ?_
    refine lv_bipush (v := (nI 100)) hx hb dX4_writeAge_10 (by decide) ?_
    refine lv_idiv hx hb dX4_writeAge_12 (by decide) ?_
    refine lv_iadd hx hb dX4_writeAge_13 ?_
    obtain ⟨q2, hq2, h⟩ := gb_s h
    refine fw_vv (As := [.int ((nI 48) + (a1 / (nI 100)))]) (rest := []) ⟨hx, hb, hml, hown, hts⟩ (k_X4_append l D cA ad tw hG z p0 (hp0) ((nI 48) + (a1 / (nI 100))) q2 hq2) (cwV 1 hts gX4_writeAge_X4_append rfl rfl rfl hdV_X4_append ⟨Nat.le_of_ble_eq_true rfl, Nat.le_of_ble_eq_true rfl⟩) (fw_preV hp0.1.1 hp0.1.2 rfl rfl hK hZ hP hS) rfl hl _ rfl (Nat.le_of_ble_eq_true rfl) hS dX4_writeAge_14 ⟨Nat.zero_le _, Nat.zero_le _⟩ (fun H locs hP hS => ?_)
    exact j17 a1 q2 _ _ ls h hP hS (lv_sub hl [0, 1] rfl)
theorem in_X4_writeNames_X5 : ∀ w ∈ wsX50, w ∈ wsX4_writeNames := fun w h => List.mem_cons_of_mem _ (List.mem_append_left _ (List.mem_append_right _ (h)))
theorem hdV_X4_writeNames : yX4_writeNames.cls = RX4 ∧ yX4_writeNames.cls ≠ "java/lang/invoke/MethodHandle" ∧ yX4_writeNames.cls ≠ "java/lang/invoke/VarHandle" ∧ (parseMethodDescriptor yX4_writeNames.desc).map (fun d => d.parameters.length) = some 2 := by decide +kernel
set_option maxHeartbeats 4000000 in
set_option maxRecDepth 100000 in
theorem k_X4_writeNames (l : Launch) (D : va_G) (cA : Nat → ClassId) (ad : Nat → Nat) (tw : Nat) (hG : gOk ad 315) (z : gS) (p0 : Nat) (hp0 : gC4 p0) (p1 : Nat) (hp1 : gC5 p1) (a2 : Int32) (res : gS) (h : f_X4_writeNames p0 p1 a2 z = some res) : gMv l yX4_writeNames wsX4_writeNames (gRm 3 67) D cA ad tw shX 315 [.ref (ad p0), .ref (ad p1), .int a2] z res := by
  refine Met.ofW (cc := cX4_writeNames) (maxL := 8) (ret := none) (by decide) rfl ?_
  intro p e s m args below meth c s₁ B hml hv
  obtain ⟨rfl, hP, hK, hZ⟩ := hv
  have hx := B.exec
  have hb := B.bytes
  have hr := B.returns
  have hts := atoms_spec (ws := wsX4_writeNames) B.pre
  have hown : s.vm.findClass RX4 = some m.cls := findClass_of_methodNamed B.named
  have hlocks := B.notSynchronized
  have hS : va_S (gA ad 315) s.heap s.heap [] := va_S.rf
  have hl := lv_entry ([.ref (ad p0), .ref (ad p1), .int a2]) (n := 8) (Nat.le_of_ble_eq_true rfl)
  rw [lg_entry_eq]
  generalize (lg_sl ([.ref (ad p0), .ref (ad p1), .int a2]) ++ List.replicate (8 - (lg_sl ([.ref (ad p0), .ref (ad p1), .int a2])).length) Slot.unset).toArray = ls at hl ⊢
  have hl : lv_has ls 8 [(0, .ref (ad p0)), (1, .ref (ad p1)), (2, .int a2)] := hl
  have j50 : ∀ (x2 : Int32) (x4 : Int32) (x5 : Int32) (x6 : Int32) (K10 : Int32 → Int32 → gS → Option gS) (hK10 : ∀ (x3' : Int32) (x4' : Int32) (z' : gS) (H : Heap) (locs : List Loc) (ls : Array Slot), K10 x3' x4' z' = some res → va_P D vwCl (gw cA ad shX 315 z') H → va_S (gA ad 315) s.heap H locs → lv_has ls 8 [(0, .ref (ad p0)), (1, .ref (ad p1)), (2, .int x2), (3, .int x3'), (4, .int x4')] → W p l e (headSpec wsX4_writeNames (gRm 3 67)).room s m ([.ref (ad p0), .ref (ad p1), .int a2] : List Value).toArray below meth c H locs 0 0 (MQ below (va_Qv (fun u => u = res) (gPr D cA ad tw shX 315) (gA ad 315)) ([.ref (ad p0), .ref (ad p1), .int a2] : List Value).toArray s 0 0 (gA ad 315)) (F0 m 10 ls [])) (n : Nat) (x7 : Int32) (z : gS) (H : Heap) (locs : List Loc) (ls : Array Slot), f_X4_writeNames_50 p0 p1 x2 x4 x5 x6 K10 n x7 z = some res → va_P D vwCl (gw cA ad shX 315 z) H → va_S (gA ad 315) s.heap H locs → lv_has ls 8 [(0, .ref (ad p0)), (1, .ref (ad p1)), (2, .int x2), (4, .int x4), (5, .int x5), (6, .int x6), (7, .int x7)] → W p l e (headSpec wsX4_writeNames (gRm 3 67)).room s m ([.ref (ad p0), .ref (ad p1), .int a2] : List Value).toArray below meth c H locs 0 0 (MQ below (va_Qv (fun u => u = res) (gPr D cA ad tw shX 315) (gA ad 315)) ([.ref (ad p0), .ref (ad p1), .int a2] : List Value).toArray s 0 0 (gA ad 315)) (F0 m 50 ls []) := by
    intro x2 x4 x5 x6 K10 hK10 n
    induction n with
    | zero => intro x7 z H locs ls h; exact (gno h).elim
    | succ n hK50 =>
      intro x7 z H locs ls h hP hS hl
      replace h : f_X4_writeNames_50_b p0 p1 x2 x4 x5 x6 K10 (f_X4_writeNames_50 p0 p1 x2 x4 x5 x6 K10 n) x7 z = some res := h
      unfold f_X4_writeNames_50_b at h
      refine lv_iload hx hb dX4_writeNames_50 (lv_at hl 6 rfl) ?_
      refine lv_iload hx hb dX4_writeNames_52 (lv_at hl 5 rfl) ?_
      refine lv_icmp_ge (tgt := 74) hx hb dX4_writeNames_54 (by decide) (fun c12 => ?_) (fun c12 => ?_)
      · replace h := gif_t h c12
        refine lv_aload_n hx hb dX4_writeNames_74 rfl (lv_at hl 1 rfl) ?_
        refine lv_iload_n hx hb dX4_writeNames_75 rfl (lv_at hl 2 rfl) ?_
        refine lv_iload hx hb dX4_writeNames_76 (lv_at hl 4 rfl) ?_
        obtain ⟨q13, hq13, h⟩ := gb_s h
        refine fw_viR (As := [.int x2, .int x5]) (rest := []) ⟨hx, hb, hml, hown, hts⟩ (k_X5_typeBehind l D cA ad tw hG z p1 (hp1) x2 x5 q13 hq13) (cwV 2 hts gX4_writeNames_X5_typeBehind rfl rfl rfl hdV_X5_typeBehind ⟨Nat.le_of_ble_eq_true rfl, Nat.le_of_ble_eq_true rfl⟩) (fw_preV hp1.1.1 hp1.1.2 rfl rfl hK hZ hP hS) rfl hl _ rfl (Nat.le_of_ble_eq_true rfl) hS dX4_writeNames_78 ⟨Nat.zero_le _, Nat.zero_le _⟩ (fun H locs hP hS => ?_)
        refine lv_istore_n (lv' := [(3, .int q13), (0, .ref (ad p0)), (1, .ref (ad p1)), (2, .int x2), (4, .int x4), (5, .int x5), (6, .int x6), (7, .int x7)]) hx hb dX4_writeNames_81 rfl hl (by decide) rfl (fun ls hl => ?_)
        refine lv_iinc (v := x4 + (nI 1)) (lv' := [(4, .int (x4 + (nI 1))), (3, .int q13), (0, .ref (ad p0)), (1, .ref (ad p1)), (2, .int x2), (5, .int x5), (6, .int x6), (7, .int x7)]) hx hb dX4_writeNames_82 hl (k := 4) rfl rfl (by decide) rfl (fun ls hl => ?_)
        refine lv_goto (tgt := 10) hx hb dX4_writeNames_85 (by decide) ?_
        exact hK10 q13 (x4 + (nI 1)) z _ _ ls h hP hS (lv_sub hl [2, 3, 4, 1, 0] rfl)
      · replace h := gif_f h c12
        refine lv_aload_n hx hb dX4_writeNames_57 rfl (lv_at hl 0 rfl) ?_
        refine lv_iload hx hb dX4_writeNames_58 (lv_at hl 4 rfl) ?_
        refine lv_iload hx hb dX4_writeNames_60 (lv_at hl 6 rfl) ?_
        obtain ⟨q14, hq14, h⟩ := gb_s h
        refine fw_siR (As := [.int x5, .int x7]) (rest := [.ref (ad p0)]) ⟨hx, hb, hml, hown, hts⟩ (k_X2_letter l D cA ad tw hG z x5 x7 q14 hq14) (va_cwS 2 hts gX4_writeNames_X2_letter rfl rfl rfl hdS_X2_letter ⟨Nat.le_of_ble_eq_true rfl, Nat.le_of_ble_eq_true rfl⟩) hK hZ hP rfl hl _ rfl (Nat.le_of_ble_eq_true rfl) hS dX4_writeNames_62 ⟨Nat.zero_le _, Nat.zero_le _⟩ (fun H locs hP hS => ?_)
        obtain ⟨q15, hq15, h⟩ := gb_s h
        refine fw_vv (As := [.int q14]) (rest := []) ⟨hx, hb, hml, hown, hts⟩ (k_X4_append l D cA ad tw hG z p0 (hp0) q14 q15 hq15) (cwV 1 hts gX4_writeNames_X4_append rfl rfl rfl hdV_X4_append ⟨Nat.le_of_ble_eq_true rfl, Nat.le_of_ble_eq_true rfl⟩) (fw_preV hp0.1.1 hp0.1.2 rfl rfl hK hZ hP hS) rfl hl _ rfl (Nat.le_of_ble_eq_true rfl) hS dX4_writeNames_65 ⟨Nat.zero_le _, Nat.zero_le _⟩ (fun H locs hP hS => ?_)
        refine lv_iinc (v := x7 + (nI 1)) (lv' := [(7, .int (x7 + (nI 1))), (0, .ref (ad p0)), (1, .ref (ad p1)), (2, .int x2), (4, .int x4), (5, .int x5), (6, .int x6)]) hx hb dX4_writeNames_68 hl (k := 6) rfl rfl (by decide) rfl (fun ls hl => ?_)
        refine lv_goto (tgt := 50) hx hb dX4_writeNames_71 (by decide) ?_
        exact hK50 (x7 + (nI 1)) q15 _ _ ls h hP hS (lv_sub hl [1, 2, 3, 4, 5, 6, 0] rfl)
  have j10 : ∀ (x2 : Int32) (n : Nat) (x3 : Int32) (x4 : Int32) (z : gS) (H : Heap) (locs : List Loc) (ls : Array Slot), f_X4_writeNames_10 p0 p1 x2 n x3 x4 z = some res → va_P D vwCl (gw cA ad shX 315 z) H → va_S (gA ad 315) s.heap H locs → lv_has ls 8 [(0, .ref (ad p0)), (1, .ref (ad p1)), (2, .int x2), (3, .int x3), (4, .int x4)] → W p l e (headSpec wsX4_writeNames (gRm 3 67)).room s m ([.ref (ad p0), .ref (ad p1), .int a2] : List Value).toArray below meth c H locs 0 0 (MQ below (va_Qv (fun u => u = res) (gPr D cA ad tw shX 315) (gA ad 315)) ([.ref (ad p0), .ref (ad p1), .int a2] : List Value).toArray s 0 0 (gA ad 315)) (F0 m 10 ls []) := by
    intro x2 n
    induction n with
    | zero => intro x3 x4 z H locs ls h; exact (gno h).elim
    | succ n hK10 =>
      intro x3 x4 z H locs ls h hP hS hl
      replace h : f_X4_writeNames_10_b p0 p1 x2 (f_X4_writeNames_10 p0 p1 x2 n) x3 x4 z = some res := h
      unfold f_X4_writeNames_10_b at h
      refine lv_iload hx hb dX4_writeNames_10 (lv_at hl 4 rfl) ?_
      refine lv_bipush (v := (nI 8)) hx hb dX4_writeNames_12 (by decide) ?_
      refine lv_icmp_ge (tgt := 88) hx hb dX4_writeNames_14 (by decide) (fun c2 => ?_) (fun c2 => ?_)
      · replace h := gif_t h c2
        exact fw_vret hx hb hr hlocks (Option.some.inj h) hK hZ hP hS dX4_writeNames_88
      · replace h := gif_f h c2
        refine lv_iload_n hx hb dX4_writeNames_17 rfl (lv_at hl 3 rfl) ?_
        refine lv_if_lt (tgt := 88) hx hb dX4_writeNames_18 (by decide) (fun c3 => ?_) (fun c3 => ?_)
        · replace h := gif_t h c3
          exact fw_vret hx hb hr hlocks (Option.some.inj h) hK hZ hP hS dX4_writeNames_88
        · replace h := gif_f h c3
          refine lv_iload hx hb dX4_writeNames_21 (lv_at hl 4 rfl) ?_
          refine lv_if_le (tgt := 32) hx hb dX4_writeNames_23 (by decide) (fun c4 => ?_) (fun c4 => ?_)
          · replace h := gif_t h c4
            refine lv_aload_n hx hb dX4_writeNames_32 rfl (lv_at hl 1 rfl) ?_
            refine fw_getr hx hb hts in_X4_writeNames_X5 hown hK hP hp1.1.1 hp1.1.2 rfl 4 (by decide) rfl (hts _ (List.mem_of_getElem? (i := 1) rfl)) rfl dX4_writeNames_33 ?_
            refine lv_iload_n hx hb dX4_writeNames_36 rfl (lv_at hl 3 rfl) ?_
            obtain ⟨h5, h⟩ := gg_s h
            refine fw_iald hx hb hK hP hp1.2.2.2.1 hp1.2.2.2.2 h5 dX4_writeNames_37 ?_
            refine lv_topi (fun y6 ey6 => ?_)
            replace h := gl_s h ey6
            refine lv_istore (lv' := [(5, .int y6), (0, .ref (ad p0)), (1, .ref (ad p1)), (2, .int x2), (3, .int x3), (4, .int x4)]) hx hb dX4_writeNames_38 hl (by decide) rfl (fun ls hl => ?_)
            refine lv_iload hx hb dX4_writeNames_40 (lv_at hl 0 rfl) ?_
            obtain ⟨q7, hq7, h⟩ := gb_s h
            refine fw_siR (As := [.int y6]) (rest := []) ⟨hx, hb, hml, hown, hts⟩ (k_X2_length l D cA ad tw hG z y6 q7 hq7) (va_cwS 1 hts gX4_writeNames_X2_length rfl rfl rfl hdS_X2_length ⟨Nat.le_of_ble_eq_true rfl, Nat.le_of_ble_eq_true rfl⟩) hK hZ hP rfl hl _ rfl (Nat.le_of_ble_eq_true rfl) hS dX4_writeNames_42 ⟨Nat.zero_le _, Nat.zero_le _⟩ (fun H locs hP hS => ?_)
            refine lv_istore (lv' := [(6, .int q7), (5, .int y6), (0, .ref (ad p0)), (1, .ref (ad p1)), (2, .int x2), (3, .int x3), (4, .int x4)]) hx hb dX4_writeNames_45 hl (by decide) rfl (fun ls hl => ?_)
            refine lv_iconst (v := (nI 0)) hx hb dX4_writeNames_47 (by decide) ?_
            refine lv_istore (lv' := [(7, .int (nI 0)), (6, .int q7), (5, .int y6), (0, .ref (ad p0)), (1, .ref (ad p1)), (2, .int x2), (3, .int x3), (4, .int x4)]) hx hb dX4_writeNames_48 hl (by decide) rfl (fun ls hl => ?_)
            exact j50 x2 x4 y6 q7 _ hK10 gF (nI 0) z _ _ ls h hP hS (lv_sub hl [3, 4, 5, 7, 2, 1, 0] rfl)
          · replace h := gif_f h c4
            refine lv_aload_n hx hb dX4_writeNames_26 rfl (lv_at hl 0 rfl) ?_
            refine lv_bipush (v := (nI 44)) hx hb dX4_writeNames_27 (by decide) ?_
            obtain ⟨q8, hq8, h⟩ := gb_s h
            refine fw_vv (As := [.int (nI 44)]) (rest := []) ⟨hx, hb, hml, hown, hts⟩ (k_X4_append l D cA ad tw hG z p0 (hp0) (nI 44) q8 hq8) (cwV 1 hts gX4_writeNames_X4_append rfl rfl rfl hdV_X4_append ⟨Nat.le_of_ble_eq_true rfl, Nat.le_of_ble_eq_true rfl⟩) (fw_preV hp0.1.1 hp0.1.2 rfl rfl hK hZ hP hS) rfl hl _ rfl (Nat.le_of_ble_eq_true rfl) hS dX4_writeNames_29 ⟨Nat.zero_le _, Nat.zero_le _⟩ (fun H locs hP hS => ?_)
            refine lv_aload_n hx hb dX4_writeNames_32 rfl (lv_at hl 1 rfl) ?_
            refine fw_getr hx hb hts in_X4_writeNames_X5 hown hK hP hp1.1.1 hp1.1.2 rfl 4 (by decide) rfl (hts _ (List.mem_of_getElem? (i := 1) rfl)) rfl dX4_writeNames_33 ?_
            refine lv_iload_n hx hb dX4_writeNames_36 rfl (lv_at hl 3 rfl) ?_
            obtain ⟨h9, h⟩ := gg_s h
            refine fw_iald hx hb hK hP hp1.2.2.2.1 hp1.2.2.2.2 h9 dX4_writeNames_37 ?_
            refine lv_topi (fun y10 ey10 => ?_)
            replace h := gl_s h ey10
            refine lv_istore (lv' := [(5, .int y10), (0, .ref (ad p0)), (1, .ref (ad p1)), (2, .int x2), (3, .int x3), (4, .int x4)]) hx hb dX4_writeNames_38 hl (by decide) rfl (fun ls hl => ?_)
            refine lv_iload hx hb dX4_writeNames_40 (lv_at hl 0 rfl) ?_
            obtain ⟨q11, hq11, h⟩ := gb_s h
            refine fw_siR (As := [.int y10]) (rest := []) ⟨hx, hb, hml, hown, hts⟩ (k_X2_length l D cA ad tw hG q8 y10 q11 hq11) (va_cwS 1 hts gX4_writeNames_X2_length rfl rfl rfl hdS_X2_length ⟨Nat.le_of_ble_eq_true rfl, Nat.le_of_ble_eq_true rfl⟩) hK hZ hP rfl hl _ rfl (Nat.le_of_ble_eq_true rfl) hS dX4_writeNames_42 ⟨Nat.zero_le _, Nat.zero_le _⟩ (fun H locs hP hS => ?_)
            refine lv_istore (lv' := [(6, .int q11), (5, .int y10), (0, .ref (ad p0)), (1, .ref (ad p1)), (2, .int x2), (3, .int x3), (4, .int x4)]) hx hb dX4_writeNames_45 hl (by decide) rfl (fun ls hl => ?_)
            refine lv_iconst (v := (nI 0)) hx hb dX4_writeNames_47 (by decide) ?_
            refine lv_istore (lv' := [(7, .int (nI 0)), (6, .int q11), (5, .int y10), (0, .ref (ad p0)), (1, .ref (ad p1)), (2, .int x2), (3, .int x3), (4, .int x4)]) hx hb dX4_writeNames_48 hl (by decide) rfl (fun ls hl => ?_)
            exact j50 x2 x4 y10 q11 _ hK10 gF (nI 0) q8 _ _ ls h hP hS (lv_sub hl [3, 4, 5, 7, 2, 1, 0] rfl)
  unfold f_X4_writeNames at h
  refine lv_aload_n hx hb dX4_writeNames_0 rfl (lv_at hl 1 rfl) ?_
  refine lv_iload_n hx hb dX4_writeNames_1 rfl (lv_at hl 2 rfl) ?_
  refine lv_iconst (v := (nI 0)) hx hb dX4_writeNames_2 (by decide) ?_
  obtain ⟨q1, hq1, h⟩ := gb_s h
  refine fw_viR (As := [.int a2, .int (nI 0)]) (rest := []) ⟨hx, hb, hml, hown, hts⟩ (k_X5_typeBehind l D cA ad tw hG z p1 (hp1) a2 (nI 0) q1 hq1) (cwV 2 hts gX4_writeNames_X5_typeBehind rfl rfl rfl hdV_X5_typeBehind ⟨Nat.le_of_ble_eq_true rfl, Nat.le_of_ble_eq_true rfl⟩) (fw_preV hp1.1.1 hp1.1.2 rfl rfl hK hZ hP hS) rfl hl _ rfl (Nat.le_of_ble_eq_true rfl) hS dX4_writeNames_3 ⟨Nat.zero_le _, Nat.zero_le _⟩ (fun H locs hP hS => ?_)
  refine lv_istore_n (lv' := [(3, .int q1), (0, .ref (ad p0)), (1, .ref (ad p1)), (2, .int a2)]) hx hb dX4_writeNames_6 rfl hl (by decide) rfl (fun ls hl => ?_)
  refine lv_iconst (v := (nI 0)) hx hb dX4_writeNames_7 (by decide) ?_
  refine lv_istore (lv' := [(4, .int (nI 0)), (3, .int q1), (0, .ref (ad p0)), (1, .ref (ad p1)), (2, .int a2)]) hx hb dX4_writeNames_8 hl (by decide) rfl (fun ls hl => ?_)
  exact j10 a2 gF q1 (nI 0) z _ _ ls h hP hS (lv_sub hl [2, 3, 4, 1, 0] rfl)
theorem in_X4_write_X4 : ∀ w ∈ wsX40, w ∈ wsX4_write := fun w h => List.mem_cons_of_mem _ (List.mem_append_left _ (List.mem_append_right _ (h)))
theorem in_X4_write_X5 : ∀ w ∈ wsX50, w ∈ wsX4_write := fun w h => List.mem_cons_of_mem _ (List.mem_append_right _ (h))
theorem hdV_X4_write : yX4_write.cls = RX4 ∧ yX4_write.cls ≠ "java/lang/invoke/MethodHandle" ∧ yX4_write.cls ≠ "java/lang/invoke/VarHandle" ∧ (parseMethodDescriptor yX4_write.desc).map (fun d => d.parameters.length) = some 1 := by decide +kernel
set_option maxHeartbeats 4000000 in
set_option maxRecDepth 100000 in
theorem k_X4_write (l : Launch) (D : va_G) (cA : Nat → ClassId) (ad : Nat → Nat) (tw : Nat) (hG : gOk ad 315) (z : gS) (p0 : Nat) (hp0 : gC4 p0) (p1 : Nat) (hp1 : gC5 p1) (res : gS) (h : f_X4_write p0 p1 z = some res) : gMv l yX4_write wsX4_write (gRm 4 94) D cA ad tw shX 315 [.ref (ad p0), .ref (ad p1)] z res := by
  refine Met.ofW (cc := cX4_write) (maxL := 3) (ret := none) (by decide) rfl ?_
  intro p e s m args below meth c s₁ B hml hv
  obtain ⟨rfl, hP, hK, hZ⟩ := hv
  have hx := B.exec
  have hb := B.bytes
  have hr := B.returns
  have hts := atoms_spec (ws := wsX4_write) B.pre
  have hown : s.vm.findClass RX4 = some m.cls := findClass_of_methodNamed B.named
  have hlocks := B.notSynchronized
  have hS : va_S (gA ad 315) s.heap s.heap [] := va_S.rf
  have hl := lv_entry ([.ref (ad p0), .ref (ad p1)]) (n := 3) (Nat.le_of_ble_eq_true rfl)
  rw [lg_entry_eq]
  generalize (lg_sl ([.ref (ad p0), .ref (ad p1)]) ++ List.replicate (3 - (lg_sl ([.ref (ad p0), .ref (ad p1)])).length) Slot.unset).toArray = ls at hl ⊢
  have hl : lv_has ls 3 [(0, .ref (ad p0)), (1, .ref (ad p1))] := hl
  have j7 : ∀  (n : Nat) (x2 : Int32) (z : gS) (H : Heap) (locs : List Loc) (ls : Array Slot), f_X4_write_7 p0 p1 n x2 z = some res → va_P D vwCl (gw cA ad shX 315 z) H → va_S (gA ad 315) s.heap H locs → lv_has ls 3 [(0, .ref (ad p0)), (1, .ref (ad p1)), (2, .int x2)] → W p l e (headSpec wsX4_write (gRm 4 94)).room s m ([.ref (ad p0), .ref (ad p1)] : List Value).toArray below meth c H locs 0 0 (MQ below (va_Qv (fun u => u = res) (gPr D cA ad tw shX 315) (gA ad 315)) ([.ref (ad p0), .ref (ad p1)] : List Value).toArray s 0 0 (gA ad 315)) (F0 m 7 ls []) := by
    intro n
    induction n with
    | zero => intro x2 z H locs ls h; exact (gno h).elim
    | succ n hK7 =>
      intro x2 z H locs ls h hP hS hl
      replace h : f_X4_write_7_b p0 p1 (f_X4_write_7 p0 p1 n) x2 z = some res := h
      unfold f_X4_write_7_b at h
      refine lv_iload_n hx hb dX4_write_7 rfl (lv_at hl 2 rfl) ?_
      refine lv_aload_n hx hb dX4_write_8 rfl (lv_at hl 1 rfl) ?_
      refine fw_geti hx hb hts in_X4_write_X5 hown hK hP hp1.1.1 hp1.1.2 rfl 0 (by decide) rfl (hts _ (List.mem_of_getElem? (i := 2) rfl)) rfl dX4_write_9 ?_
      refine lv_icmp_ge (tgt := 53) hx hb dX4_write_12 (by decide) (fun c2 => ?_) (fun c2 => ?_)
      · replace h := gif_t h c2
        exact fw_vret hx hb hr hlocks (Option.some.inj h) hK hZ hP hS dX4_write_53
      · replace h := gif_f h c2
        refine lv_iload_n hx hb dX4_write_15 rfl (lv_at hl 2 rfl) ?_
        refine lv_if_le (tgt := 25) hx hb dX4_write_16 (by decide) (fun c3 => ?_) (fun c3 => ?_)
        · replace h := gif_t h c3
          refine lv_aload_n hx hb dX4_write_25 rfl (lv_at hl 0 rfl) ?_
          refine lv_aload_n hx hb dX4_write_26 rfl (lv_at hl 1 rfl) ?_
          refine fw_getr hx hb hts in_X4_write_X5 hown hK hP hp1.1.1 hp1.1.2 rfl 2 (by decide) rfl (hts _ (List.mem_of_getElem? (i := 3) rfl)) rfl dX4_write_27 ?_
          refine lv_iload_n hx hb dX4_write_30 rfl (lv_at hl 2 rfl) ?_
          obtain ⟨h4, h⟩ := gg_s h
          refine fw_iald hx hb hK hP hp1.2.1.1 hp1.2.1.2 h4 dX4_write_31 ?_
          obtain ⟨q5, hq5, h⟩ := gb_s h
          refine fw_vv (As := [.int (z (p1 + 1) x2.toNatClampNeg)]) (rest := []) ⟨hx, hb, hml, hown, hts⟩ (k_X4_writeAge l D cA ad tw hG z p0 (hp0) (z (p1 + 1) x2.toNatClampNeg) q5 hq5) (cwV 1 hts gX4_write_X4_writeAge rfl rfl rfl hdV_X4_writeAge ⟨Nat.le_of_ble_eq_true rfl, Nat.le_of_ble_eq_true rfl⟩) (fw_preV hp0.1.1 hp0.1.2 rfl rfl hK hZ hP hS) rfl hl _ rfl (Nat.le_of_ble_eq_true rfl) hS dX4_write_32 ⟨Nat.zero_le _, Nat.zero_le _⟩ (fun H locs hP hS => ?_)
          refine lv_aload_n hx hb dX4_write_35 rfl (lv_at hl 0 rfl) ?_
          refine lv_bipush (v := (nI 58)) hx hb dX4_write_36 (by decide) ?_
          obtain ⟨q6, hq6, h⟩ := gb_s h
          refine fw_vv (As := [.int (nI 58)]) (rest := []) ⟨hx, hb, hml, hown, hts⟩ (k_X4_append l D cA ad tw hG q5 p0 (hp0) (nI 58) q6 hq6) (cwV 1 hts gX4_write_X4_append rfl rfl rfl hdV_X4_append ⟨Nat.le_of_ble_eq_true rfl, Nat.le_of_ble_eq_true rfl⟩) (fw_preV hp0.1.1 hp0.1.2 rfl rfl hK hZ hP hS) rfl hl _ rfl (Nat.le_of_ble_eq_true rfl) hS dX4_write_38 ⟨Nat.zero_le _, Nat.zero_le _⟩ (fun H locs hP hS => ?_)
          refine lv_aload_n hx hb dX4_write_41 rfl (lv_at hl 0 rfl) ?_
          refine lv_aload_n hx hb dX4_write_42 rfl (lv_at hl 1 rfl) ?_
          refine lv_iload_n hx hb dX4_write_43 rfl (lv_at hl 2 rfl) ?_
          obtain ⟨q7, hq7, h⟩ := gb_s h
          refine fw_vv (As := [.ref (ad p1), .int x2]) (rest := []) ⟨hx, hb, hml, hown, hts⟩ (k_X4_writeNames l D cA ad tw hG q6 p0 (hp0) p1 (hp1) x2 q7 hq7) (cwV 2 hts gX4_write_X4_writeNames rfl rfl rfl hdV_X4_writeNames ⟨Nat.le_of_ble_eq_true rfl, Nat.le_of_ble_eq_true rfl⟩) (fw_preV hp0.1.1 hp0.1.2 rfl rfl hK hZ hP hS) rfl hl _ rfl (Nat.le_of_ble_eq_true rfl) hS dX4_write_44 ⟨Nat.zero_le _, Nat.zero_le _⟩ (fun H locs hP hS => ?_)
          refine lv_iinc (v := x2 + (nI 1)) (lv' := [(2, .int (x2 + (nI 1))), (0, .ref (ad p0)), (1, .ref (ad p1))]) hx hb dX4_write_47 hl (k := 2) rfl rfl (by decide) rfl (fun ls hl => ?_)
          refine lv_goto (tgt := 7) hx hb dX4_write_50 (by decide) ?_
          exact hK7 (x2 + (nI 1)) q7 _ _ ls h hP hS (lv_sub hl [1, 2, 0] rfl)
        · replace h := gif_f h c3
          refine lv_aload_n hx hb dX4_write_19 rfl (lv_at hl 0 rfl) ?_
          refine lv_bipush (v := (nI 59)) hx hb dX4_write_20 (by decide) ?_
          obtain ⟨q8, hq8, h⟩ := gb_s h
          refine fw_vv (As := [.int (nI 59)]) (rest := []) ⟨hx, hb, hml, hown, hts⟩ (k_X4_append l D cA ad tw hG z p0 (hp0) (nI 59) q8 hq8) (cwV 1 hts gX4_write_X4_append rfl rfl rfl hdV_X4_append ⟨Nat.le_of_ble_eq_true rfl, Nat.le_of_ble_eq_true rfl⟩) (fw_preV hp0.1.1 hp0.1.2 rfl rfl hK hZ hP hS) rfl hl _ rfl (Nat.le_of_ble_eq_true rfl) hS dX4_write_22 ⟨Nat.zero_le _, Nat.zero_le _⟩ (fun H locs hP hS => ?_)
          refine lv_aload_n hx hb dX4_write_25 rfl (lv_at hl 0 rfl) ?_
          refine lv_aload_n hx hb dX4_write_26 rfl (lv_at hl 1 rfl) ?_
          refine fw_getr hx hb hts in_X4_write_X5 hown hK hP hp1.1.1 hp1.1.2 rfl 2 (by decide) rfl (hts _ (List.mem_of_getElem? (i := 3) rfl)) rfl dX4_write_27 ?_
          refine lv_iload_n hx hb dX4_write_30 rfl (lv_at hl 2 rfl) ?_
          obtain ⟨h9, h⟩ := gg_s h
          refine fw_iald hx hb hK hP hp1.2.1.1 hp1.2.1.2 h9 dX4_write_31 ?_
          obtain ⟨q10, hq10, h⟩ := gb_s h
          refine fw_vv (As := [.int (q8 (p1 + 1) x2.toNatClampNeg)]) (rest := []) ⟨hx, hb, hml, hown, hts⟩ (k_X4_writeAge l D cA ad tw hG q8 p0 (hp0) (q8 (p1 + 1) x2.toNatClampNeg) q10 hq10) (cwV 1 hts gX4_write_X4_writeAge rfl rfl rfl hdV_X4_writeAge ⟨Nat.le_of_ble_eq_true rfl, Nat.le_of_ble_eq_true rfl⟩) (fw_preV hp0.1.1 hp0.1.2 rfl rfl hK hZ hP hS) rfl hl _ rfl (Nat.le_of_ble_eq_true rfl) hS dX4_write_32 ⟨Nat.zero_le _, Nat.zero_le _⟩ (fun H locs hP hS => ?_)
          refine lv_aload_n hx hb dX4_write_35 rfl (lv_at hl 0 rfl) ?_
          refine lv_bipush (v := (nI 58)) hx hb dX4_write_36 (by decide) ?_
          obtain ⟨q11, hq11, h⟩ := gb_s h
          refine fw_vv (As := [.int (nI 58)]) (rest := []) ⟨hx, hb, hml, hown, hts⟩ (k_X4_append l D cA ad tw hG q10 p0 (hp0) (nI 58) q11 hq11) (cwV 1 hts gX4_write_X4_append rfl rfl rfl hdV_X4_append ⟨Nat.le_of_ble_eq_true rfl, Nat.le_of_ble_eq_true rfl⟩) (fw_preV hp0.1.1 hp0.1.2 rfl rfl hK hZ hP hS) rfl hl _ rfl (Nat.le_of_ble_eq_true rfl) hS dX4_write_38 ⟨Nat.zero_le _, Nat.zero_le _⟩ (fun H locs hP hS => ?_)
          refine lv_aload_n hx hb dX4_write_41 rfl (lv_at hl 0 rfl) ?_
          refine lv_aload_n hx hb dX4_write_42 rfl (lv_at hl 1 rfl) ?_
          refine lv_iload_n hx hb dX4_write_43 rfl (lv_at hl 2 rfl) ?_
          obtain ⟨q12, hq12, h⟩ := gb_s h
          refine fw_vv (As := [.ref (ad p1), .int x2]) (rest := []) ⟨hx, hb, hml, hown, hts⟩ (k_X4_writeNames l D cA ad tw hG q11 p0 (hp0) p1 (hp1) x2 q12 hq12) (cwV 2 hts gX4_write_X4_writeNames rfl rfl rfl hdV_X4_writeNames ⟨Nat.le_of_ble_eq_true rfl, Nat.le_of_ble_eq_true rfl⟩) (fw_preV hp0.1.1 hp0.1.2 rfl rfl hK hZ hP hS) rfl hl _ rfl (Nat.le_of_ble_eq_true rfl) hS dX4_write_44 ⟨Nat.zero_le _, Nat.zero_le _⟩ (fun H locs hP hS => ?_)
          refine lv_iinc (v := x2 + (nI 1)) (lv' := [(2, .int (x2 + (nI 1))), (0, .ref (ad p0)), (1, .ref (ad p1))]) hx hb dX4_write_47 hl (k := 2) rfl rfl (by decide) rfl (fun ls hl => ?_)
          refine lv_goto (tgt := 7) hx hb dX4_write_50 (by decide) ?_
          exact hK7 (x2 + (nI 1)) q12 _ _ ls h hP hS (lv_sub hl [1, 2, 0] rfl)
  unfold f_X4_write at h
  refine lv_aload_n hx hb dX4_write_0 rfl (lv_at hl 0 rfl) ?_
  refine lv_iconst (v := (nI 0)) hx hb dX4_write_1 (by decide) ?_
  refine fw_put hx hb hts in_X4_write_X4 tyX4_ok nmX4 hown hK hG hP hS hp0.1.1 hp0.1.2 rfl 1 (by decide) rfl (hts _ (List.mem_of_getElem? (i := 1) rfl)) rfl rfl (ty := .int) rfl rfl rfl dX4_write_2 (fun z1 H locs ez1 hP hS => ?_)
  replace h := gl_s h ez1
  refine lv_iconst (v := (nI 0)) hx hb dX4_write_5 (by decide) ?_
  refine lv_istore_n (lv' := [(2, .int (nI 0)), (0, .ref (ad p0)), (1, .ref (ad p1))]) hx hb dX4_write_6 rfl hl (by decide) rfl (fun ls hl => ?_)
  exact j7  gF (nI 0) z1 _ _ ls h hP hS (lv_sub hl [1, 2, 0] rfl)
theorem in_X7_append_X7 : ∀ w ∈ wsX70, w ∈ wsX7_append := fun w h => List.mem_cons_of_mem _ (List.mem_append_right _ (h))
theorem hdV_X7_append : yX7_append.cls = RX7 ∧ yX7_append.cls ≠ "java/lang/invoke/MethodHandle" ∧ yX7_append.cls ≠ "java/lang/invoke/VarHandle" ∧ (parseMethodDescriptor yX7_append.desc).map (fun d => d.parameters.length) = some 1 := by decide +kernel
set_option maxHeartbeats 4000000 in
set_option maxRecDepth 100000 in
theorem k_X7_append (l : Launch) (D : va_G) (cA : Nat → ClassId) (ad : Nat → Nat) (tw : Nat) (hG : gOk ad 315) (z : gS) (p0 : Nat) (hp0 : gC7 p0) (a1 : Int32) (res : Int32 × gS) (h : f_X7_append p0 a1 z = some res) : gMi l yX7_append wsX7_append (gRm 0 0) D cA ad tw shX 315 [.ref (ad p0), .int a1] z res := by
  refine Met.ofW (cc := cX7_append) (maxL := 2) (ret := (some .boolean)) (by decide) rfl ?_
  intro p e s m args below meth c s₁ B hml hv
  obtain ⟨rfl, hP, hK, hZ⟩ := hv
  have hx := B.exec
  have hb := B.bytes
  have hr := B.returns
  have hts := atoms_spec (ws := wsX7_append) B.pre
  have hown : s.vm.findClass RX7 = some m.cls := findClass_of_methodNamed B.named
  have hlocks := B.notSynchronized
  have hS : va_S (gA ad 315) s.heap s.heap [] := va_S.rf
  have hl := lv_entry ([.ref (ad p0), .int a1]) (n := 2) (Nat.le_of_ble_eq_true rfl)
  rw [lg_entry_eq]
  generalize (lg_sl ([.ref (ad p0), .int a1]) ++ List.replicate (2 - (lg_sl ([.ref (ad p0), .int a1])).length) Slot.unset).toArray = ls at hl ⊢
  have hl : lv_has ls 2 [(0, .ref (ad p0)), (1, .int a1)] := hl
  unfold f_X7_append at h
  refine lv_aload_n hx hb dX7_append_0 rfl (lv_at hl 0 rfl) ?_
  refine fw_geti hx hb hts in_X7_append_X7 hown hK hP hp0.1.1 hp0.1.2 rfl 1 (by decide) rfl (hts _ (List.mem_of_getElem? (i := 1) rfl)) rfl dX7_append_1 ?_
  refine lv_bipush (v := (nI 100)) hx hb dX7_append_4 (by decide) ?_
  refine lv_icmp_lt (tgt := 11) hx hb dX7_append_6 (by decide) (fun c1 => ?_) (fun c1 => ?_)
  · replace h := gif_t h c1
    refine lv_aload_n hx hb dX7_append_11 rfl (lv_at hl 0 rfl) ?_
    refine fw_getr hx hb hts in_X7_append_X7 hown hK hP hp0.1.1 hp0.1.2 rfl 0 (by decide) rfl (hts _ (List.mem_of_getElem? (i := 2) rfl)) rfl dX7_append_12 ?_
    refine lv_aload_n hx hb dX7_append_15 rfl (lv_at hl 0 rfl) ?_
    refine fw_geti hx hb hts in_X7_append_X7 hown hK hP hp0.1.1 hp0.1.2 rfl 1 (by decide) rfl (hts _ (List.mem_of_getElem? (i := 1) rfl)) rfl dX7_append_16 ?_
    refine lv_iload_n hx hb dX7_append_19 rfl (lv_at hl 1 rfl) ?_
    obtain ⟨h2, h⟩ := gg_s h
    refine fw_iast hx hb hK hG hP hS hp0.2.1 hp0.2.2 h2 dX7_append_20 (fun z3 H locs ez3 hP hS => ?_)
    replace h := gl_s h ez3
    refine lv_aload_n hx hb dX7_append_21 rfl (lv_at hl 0 rfl) ?_
    refine lv_dup hx hb dX7_append_22 rfl ?_
    refine fw_geti hx hb hts in_X7_append_X7 hown hK hP hp0.1.1 hp0.1.2 rfl 1 (by decide) rfl (hts _ (List.mem_of_getElem? (i := 1) rfl)) rfl dX7_append_23 ?_
    refine lv_iconst (v := (nI 1)) hx hb dX7_append_26 (by decide) ?_
    refine lv_iadd hx hb dX7_append_27 ?_
    refine fw_put hx hb hts in_X7_append_X7 tyX7_ok nmX7 hown hK hG hP hS hp0.1.1 hp0.1.2 rfl 1 (by decide) rfl (hts _ (List.mem_of_getElem? (i := 1) rfl)) rfl rfl (ty := .int) rfl rfl rfl dX7_append_28 (fun z4 H locs ez4 hP hS => ?_)
    replace h := gl_s h ez4
    refine lv_iconst (v := (nI 1)) hx hb dX7_append_31 (by decide) ?_
    exact fw_iretz hx hb hr hlocks (by decide) (Option.some.inj h) hK hZ hP hS dX7_append_32
  · replace h := gif_f h c1
    refine lv_iconst (v := (nI 0)) hx hb dX7_append_9 (by decide) ?_
    exact fw_iretz hx hb hr hlocks (by decide) (Option.some.inj h) hK hZ hP hS dX7_append_10
theorem in_X7_here_X7 : ∀ w ∈ wsX70, w ∈ wsX7_here := fun w h => List.mem_cons_of_mem _ (List.mem_append_right _ (h))
theorem hdV_X7_here : yX7_here.cls = RX7 ∧ yX7_here.cls ≠ "java/lang/invoke/MethodHandle" ∧ yX7_here.cls ≠ "java/lang/invoke/VarHandle" ∧ (parseMethodDescriptor yX7_here.desc).map (fun d => d.parameters.length) = some 0 := by decide +kernel
set_option maxHeartbeats 4000000 in
set_option maxRecDepth 100000 in
theorem k_X7_here (l : Launch) (D : va_G) (cA : Nat → ClassId) (ad : Nat → Nat) (tw : Nat) (hG : gOk ad 315) (z : gS) (p0 : Nat) (hp0 : gC7 p0) (res : Int32) (h : f_X7_here p0 z = some res) : gMi l yX7_here wsX7_here (gRm 0 0) D cA ad tw shX 315 [.ref (ad p0)] z (res, z) := by
  refine Met.ofW (cc := cX7_here) (maxL := 1) (ret := (some .int)) (by decide) rfl ?_
  intro p e s m args below meth c s₁ B hml hv
  obtain ⟨rfl, hP, hK, hZ⟩ := hv
  have hx := B.exec
  have hb := B.bytes
  have hr := B.returns
  have hts := atoms_spec (ws := wsX7_here) B.pre
  have hown : s.vm.findClass RX7 = some m.cls := findClass_of_methodNamed B.named
  have hlocks := B.notSynchronized
  have hS : va_S (gA ad 315) s.heap s.heap [] := va_S.rf
  have hl := lv_entry ([.ref (ad p0)]) (n := 1) (Nat.le_of_ble_eq_true rfl)
  rw [lg_entry_eq]
  generalize (lg_sl ([.ref (ad p0)]) ++ List.replicate (1 - (lg_sl ([.ref (ad p0)])).length) Slot.unset).toArray = ls at hl ⊢
  have hl : lv_has ls 1 [(0, .ref (ad p0))] := hl
  unfold f_X7_here at h
  refine lv_aload_n hx hb dX7_here_0 rfl (lv_at hl 0 rfl) ?_
  refine fw_geti hx hb hts in_X7_here_X7 hown hK hP hp0.1.1 hp0.1.2 rfl 2 (by decide) rfl (hts _ (List.mem_of_getElem? (i := 1) rfl)) rfl dX7_here_1 ?_
  refine lv_if_lt (tgt := 30) hx hb dX7_here_4 (by decide) (fun c1 => ?_) (fun c1 => ?_)
  · replace h := gif_t h c1
    refine lv_iconst (v := gm1) hx hb dX7_here_30 (by decide) ?_
    exact fw_ireti hx hb hr hlocks (congrArg (fun q => (q, z)) (Option.some.inj h)) hK hZ hP hS dX7_here_31
  · replace h := gif_f h c1
    refine lv_aload_n hx hb dX7_here_7 rfl (lv_at hl 0 rfl) ?_
    refine fw_geti hx hb hts in_X7_here_X7 hown hK hP hp0.1.1 hp0.1.2 rfl 2 (by decide) rfl (hts _ (List.mem_of_getElem? (i := 1) rfl)) rfl dX7_here_8 ?_
    refine lv_aload_n hx hb dX7_here_11 rfl (lv_at hl 0 rfl) ?_
    refine fw_geti hx hb hts in_X7_here_X7 hown hK hP hp0.1.1 hp0.1.2 rfl 1 (by decide) rfl (hts _ (List.mem_of_getElem? (i := 2) rfl)) rfl dX7_here_12 ?_
    refine lv_icmp_ge (tgt := 30) hx hb dX7_here_15 (by decide) (fun c2 => ?_) (fun c2 => ?_)
    · replace h := gif_t h c2
      refine lv_iconst (v := gm1) hx hb dX7_here_30 (by decide) ?_
      exact fw_ireti hx hb hr hlocks (congrArg (fun q => (q, z)) (Option.some.inj h)) hK hZ hP hS dX7_here_31
    · replace h := gif_f h c2
      refine lv_aload_n hx hb dX7_here_18 rfl (lv_at hl 0 rfl) ?_
      refine fw_getr hx hb hts in_X7_here_X7 hown hK hP hp0.1.1 hp0.1.2 rfl 0 (by decide) rfl (hts _ (List.mem_of_getElem? (i := 3) rfl)) rfl dX7_here_19 ?_
      refine lv_aload_n hx hb dX7_here_22 rfl (lv_at hl 0 rfl) ?_
      refine fw_geti hx hb hts in_X7_here_X7 hown hK hP hp0.1.1 hp0.1.2 rfl 2 (by decide) rfl (hts _ (List.mem_of_getElem? (i := 1) rfl)) rfl dX7_here_23 ?_
      obtain ⟨h3, h⟩ := gg_s h
      refine fw_iald hx hb hK hP hp0.2.1 hp0.2.2 h3 dX7_here_26 ?_
      refine lv_goto (tgt := 31) hx hb dX7_here_27 (by decide) ?_
      exact fw_ireti hx hb hr hlocks (congrArg (fun q => (q, z)) (Option.some.inj h)) hK hZ hP hS dX7_here_31
theorem in_X7_figures_X7 : ∀ w ∈ wsX70, w ∈ wsX7_figures := fun w h => List.mem_cons_of_mem _ (List.mem_append_right _ (h))
theorem hdV_X7_figures : yX7_figures.cls = RX7 ∧ yX7_figures.cls ≠ "java/lang/invoke/MethodHandle" ∧ yX7_figures.cls ≠ "java/lang/invoke/VarHandle" ∧ (parseMethodDescriptor yX7_figures.desc).map (fun d => d.parameters.length) = some 1 := by decide +kernel
set_option maxHeartbeats 4000000 in
set_option maxRecDepth 100000 in
theorem k_X7_figures (l : Launch) (D : va_G) (cA : Nat → ClassId) (ad : Nat → Nat) (tw : Nat) (hG : gOk ad 315) (z : gS) (p0 : Nat) (hp0 : gC7 p0) (a1 : Int32) (res : Int32 × gS) (h : f_X7_figures p0 a1 z = some res) : gMi l yX7_figures wsX7_figures (gRm 1 20) D cA ad tw shX 315 [.ref (ad p0), .int a1] z res := by
  refine Met.ofW (cc := cX7_figures) (maxL := 4) (ret := (some .boolean)) (by decide) rfl ?_
  intro p e s m args below meth c s₁ B hml hv
  obtain ⟨rfl, hP, hK, hZ⟩ := hv
  have hx := B.exec
  have hb := B.bytes
  have hr := B.returns
  have hts := atoms_spec (ws := wsX7_figures) B.pre
  have hown : s.vm.findClass RX7 = some m.cls := findClass_of_methodNamed B.named
  have hlocks := B.notSynchronized
  have hS : va_S (gA ad 315) s.heap s.heap [] := va_S.rf
  have hl := lv_entry ([.ref (ad p0), .int a1]) (n := 4) (Nat.le_of_ble_eq_true rfl)
  rw [lg_entry_eq]
  generalize (lg_sl ([.ref (ad p0), .int a1]) ++ List.replicate (4 - (lg_sl ([.ref (ad p0), .int a1])).length) Slot.unset).toArray = ls at hl ⊢
  have hl : lv_has ls 4 [(0, .ref (ad p0)), (1, .int a1)] := hl
  have j12 : ∀ (x1 : Int32) (x2 : Int32) (n : Nat) (x3 : Int32) (z : gS) (H : Heap) (locs : List Loc) (ls : Array Slot), f_X7_figures_12 p0 x1 x2 n x3 z = some res → va_P D vwCl (gw cA ad shX 315 z) H → va_S (gA ad 315) s.heap H locs → lv_has ls 4 [(0, .ref (ad p0)), (1, .int x1), (2, .int x2), (3, .int x3)] → W p l e (headSpec wsX7_figures (gRm 1 20)).room s m ([.ref (ad p0), .int a1] : List Value).toArray below meth c H locs 0 0 (MQ below (va_Qi (fun r u => (r, u) = res) (gPr D cA ad tw shX 315) (gA ad 315)) ([.ref (ad p0), .int a1] : List Value).toArray s 0 0 (gA ad 315)) (F0 m 12 ls []) := by
    intro x1 x2 n
    induction n with
    | zero => intro x3 z H locs ls h; exact (gno h).elim
    | succ n hK12 =>
      intro x3 z H locs ls h hP hS hl
      replace h : f_X7_figures_12_b p0 x1 x2 (f_X7_figures_12 p0 x1 x2 n) x3 z = some res := h
      unfold f_X7_figures_12_b at h
      refine lv_iload_n hx hb dX7_figures_12 rfl (lv_at hl 3 rfl) ?_
      refine lv_iload_n hx hb dX7_figures_13 rfl (lv_at hl 1 rfl) ?_
      refine lv_icmp_ge (tgt := 70) hx hb dX7_figures_14 (by decide) (fun c3 => ?_) (fun c3 => ?_)
      · replace h := gif_t h c3
        refine lv_aload_n hx hb dX7_figures_70 rfl (lv_at hl 0 rfl) ?_
        refine fw_geti hx hb hts in_X7_figures_X7 hown hK hP hp0.1.1 hp0.1.2 rfl 2 (by decide) rfl (hts _ (List.mem_of_getElem? (i := 1) rfl)) rfl dX7_figures_71 ?_
        refine lv_iload_n hx hb dX7_figures_74 rfl (lv_at hl 2 rfl) ?_
        refine lv_icmp_le (tgt := 82) hx hb dX7_figures_75 (by decide) (fun c4 => ?_) (fun c4 => ?_)
        · replace h := gif_t h c4
          refine lv_iconst (v := (nI 0)) hx hb dX7_figures_82 (by decide) ?_
          exact fw_iretz hx hb hr hlocks (by decide) (Option.some.inj h) hK hZ hP hS dX7_figures_83
        · replace h := gif_f h c4
          refine lv_iconst (v := (nI 1)) hx hb dX7_figures_78 (by decide) ?_
          refine lv_goto (tgt := 83) hx hb dX7_figures_79 (by decide) ?_
          exact fw_iretz hx hb hr hlocks (by decide) (Option.some.inj h) hK hZ hP hS dX7_figures_83
      · replace h := gif_f h c3
        refine lv_aload_n hx hb dX7_figures_17 rfl (lv_at hl 0 rfl) ?_
        obtain ⟨q5, hq5, h⟩ := gb_s h
        refine fw_viR (As := []) (rest := []) ⟨hx, hb, hml, hown, hts⟩ (k_X7_here l D cA ad tw hG z p0 (hp0) q5 hq5) (cwV 0 hts gX7_figures_X7_here rfl rfl rfl hdV_X7_here ⟨Nat.le_of_ble_eq_true rfl, Nat.le_of_ble_eq_true rfl⟩) (fw_preV hp0.1.1 hp0.1.2 rfl rfl hK hZ hP hS) rfl hl _ rfl (Nat.le_of_ble_eq_true rfl) hS dX7_figures_18 ⟨Nat.zero_le _, Nat.zero_le _⟩ (fun H locs hP hS => ?_)
        refine lv_bipush (v := (nI 48)) hx hb dX7_figures_21 (by decide) ?_
        refine lv_icmp_lt (tgt := 70) hx hb dX7_figures_23 (by decide) (fun c6 => ?_) (fun c6 => ?_)
        · replace h := gif_t h c6
          refine lv_aload_n hx hb dX7_figures_70 rfl (lv_at hl 0 rfl) ?_
          refine fw_geti hx hb hts in_X7_figures_X7 hown hK hP hp0.1.1 hp0.1.2 rfl 2 (by decide) rfl (hts _ (List.mem_of_getElem? (i := 1) rfl)) rfl dX7_figures_71 ?_
          refine lv_iload_n hx hb dX7_figures_74 rfl (lv_at hl 2 rfl) ?_
          refine lv_icmp_le (tgt := 82) hx hb dX7_figures_75 (by decide) (fun c7 => ?_) (fun c7 => ?_)
          · replace h := gif_t h c7
            refine lv_iconst (v := (nI 0)) hx hb dX7_figures_82 (by decide) ?_
            exact fw_iretz hx hb hr hlocks (by decide) (Option.some.inj h) hK hZ hP hS dX7_figures_83
          · replace h := gif_f h c7
            refine lv_iconst (v := (nI 1)) hx hb dX7_figures_78 (by decide) ?_
            refine lv_goto (tgt := 83) hx hb dX7_figures_79 (by decide) ?_
            exact fw_iretz hx hb hr hlocks (by decide) (Option.some.inj h) hK hZ hP hS dX7_figures_83
        · replace h := gif_f h c6
          refine lv_aload_n hx hb dX7_figures_26 rfl (lv_at hl 0 rfl) ?_
          obtain ⟨q8, hq8, h⟩ := gb_s h
          refine fw_viR (As := []) (rest := []) ⟨hx, hb, hml, hown, hts⟩ (k_X7_here l D cA ad tw hG z p0 (hp0) q8 hq8) (cwV 0 hts gX7_figures_X7_here rfl rfl rfl hdV_X7_here ⟨Nat.le_of_ble_eq_true rfl, Nat.le_of_ble_eq_true rfl⟩) (fw_preV hp0.1.1 hp0.1.2 rfl rfl hK hZ hP hS) rfl hl _ rfl (Nat.le_of_ble_eq_true rfl) hS dX7_figures_27 ⟨Nat.zero_le _, Nat.zero_le _⟩ (fun H locs hP hS => ?_)
          refine lv_bipush (v := (nI 57)) hx hb dX7_figures_30 (by decide) ?_
          refine lv_icmp_gt (tgt := 70) hx hb dX7_figures_32 (by decide) (fun c9 => ?_) (fun c9 => ?_)
          · replace h := gif_t h c9
            refine lv_aload_n hx hb dX7_figures_70 rfl (lv_at hl 0 rfl) ?_
            refine fw_geti hx hb hts in_X7_figures_X7 hown hK hP hp0.1.1 hp0.1.2 rfl 2 (by decide) rfl (hts _ (List.mem_of_getElem? (i := 1) rfl)) rfl dX7_figures_71 ?_
            refine lv_iload_n hx hb dX7_figures_74 rfl (lv_at hl 2 rfl) ?_
            refine lv_icmp_le (tgt := 82) hx hb dX7_figures_75 (by decide) (fun c10 => ?_) (fun c10 => ?_)
            · replace h := gif_t h c10
              refine lv_iconst (v := (nI 0)) hx hb dX7_figures_82 (by decide) ?_
              exact fw_iretz hx hb hr hlocks (by decide) (Option.some.inj h) hK hZ hP hS dX7_figures_83
            · replace h := gif_f h c10
              refine lv_iconst (v := (nI 1)) hx hb dX7_figures_78 (by decide) ?_
              refine lv_goto (tgt := 83) hx hb dX7_figures_79 (by decide) ?_
              exact fw_iretz hx hb hr hlocks (by decide) (Option.some.inj h) hK hZ hP hS dX7_figures_83
          · replace h := gif_f h c9
            refine lv_aload_n hx hb dX7_figures_35 rfl (lv_at hl 0 rfl) ?_
            refine lv_aload_n hx hb dX7_figures_36 rfl (lv_at hl 0 rfl) ?_
            refine fw_geti hx hb hts in_X7_figures_X7 hown hK hP hp0.1.1 hp0.1.2 rfl 3 (by decide) rfl (hts _ (List.mem_of_getElem? (i := 2) rfl)) rfl dX7_figures_37 ?_
            refine lv_bipush (v := (nI 10)) hx hb dX7_figures_40 (by decide) ?_
            refine lv_imul hx hb dX7_figures_42 ?_
            refine lv_aload_n hx hb dX7_figures_43 rfl (lv_at hl 0 rfl) ?_
            obtain ⟨q11, hq11, h⟩ := gb_s h
            refine fw_viR (As := []) (rest := [.int ((z p0 3) * (nI 10)), .ref (ad p0)]) ⟨hx, hb, hml, hown, hts⟩ (k_X7_here l D cA ad tw hG z p0 (hp0) q11 hq11) (cwV 0 hts gX7_figures_X7_here rfl rfl rfl hdV_X7_here ⟨Nat.le_of_ble_eq_true rfl, Nat.le_of_ble_eq_true rfl⟩) (fw_preV hp0.1.1 hp0.1.2 rfl rfl hK hZ hP hS) rfl hl _ rfl (Nat.le_of_ble_eq_true rfl) hS dX7_figures_44 ⟨Nat.zero_le _, Nat.zero_le _⟩ (fun H locs hP hS => ?_)
            refine lv_iadd hx hb dX7_figures_47 ?_
            refine lv_bipush (v := (nI 48)) hx hb dX7_figures_48 (by decide) ?_
            refine lv_isub hx hb dX7_figures_50 ?_
            refine fw_put hx hb hts in_X7_figures_X7 tyX7_ok nmX7 hown hK hG hP hS hp0.1.1 hp0.1.2 rfl 3 (by decide) rfl (hts _ (List.mem_of_getElem? (i := 2) rfl)) rfl rfl (ty := .int) rfl rfl rfl dX7_figures_51 (fun z12 H locs ez12 hP hS => ?_)
            replace h := gl_s h ez12
            refine lv_aload_n hx hb dX7_figures_54 rfl (lv_at hl 0 rfl) ?_
            refine lv_dup hx hb dX7_figures_55 rfl ?_
            refine fw_geti hx hb hts in_X7_figures_X7 hown hK hP hp0.1.1 hp0.1.2 rfl 2 (by decide) rfl (hts _ (List.mem_of_getElem? (i := 1) rfl)) rfl dX7_figures_56 ?_
            refine lv_iconst (v := (nI 1)) hx hb dX7_figures_59 (by decide) ?_
            refine lv_iadd hx hb dX7_figures_60 ?_
            refine fw_put hx hb hts in_X7_figures_X7 tyX7_ok nmX7 hown hK hG hP hS hp0.1.1 hp0.1.2 rfl 2 (by decide) rfl (hts _ (List.mem_of_getElem? (i := 1) rfl)) rfl rfl (ty := .int) rfl rfl rfl dX7_figures_61 (fun z13 H locs ez13 hP hS => ?_)
            replace h := gl_s h ez13
            refine lv_iinc (v := x3 + (nI 1)) (lv' := [(3, .int (x3 + (nI 1))), (0, .ref (ad p0)), (1, .int x1), (2, .int x2)]) hx hb dX7_figures_64 hl (k := 3) rfl rfl (by decide) rfl (fun ls hl => ?_)
            refine lv_goto (tgt := 12) hx hb dX7_figures_67 (by decide) ?_
            exact hK12 (x3 + (nI 1)) z13 _ _ ls h hP hS (lv_sub hl [1, 2, 3, 0] rfl)
  unfold f_X7_figures at h
  refine lv_aload_n hx hb dX7_figures_0 rfl (lv_at hl 0 rfl) ?_
  refine fw_geti hx hb hts in_X7_figures_X7 hown hK hP hp0.1.1 hp0.1.2 rfl 2 (by decide) rfl (hts _ (List.mem_of_getElem? (i := 1) rfl)) rfl dX7_figures_1 ?_
  refine lv_topi (fun y1 ey1 => ?_)
  replace h := gl_s h ey1
  refine lv_istore_n (lv' := [(2, .int y1), (0, .ref (ad p0)), (1, .int a1)]) hx hb dX7_figures_4 rfl hl (by decide) rfl (fun ls hl => ?_)
  refine lv_aload_n hx hb dX7_figures_5 rfl (lv_at hl 1 rfl) ?_
  refine lv_iconst (v := (nI 0)) hx hb dX7_figures_6 (by decide) ?_
  refine fw_put hx hb hts in_X7_figures_X7 tyX7_ok nmX7 hown hK hG hP hS hp0.1.1 hp0.1.2 rfl 3 (by decide) rfl (hts _ (List.mem_of_getElem? (i := 2) rfl)) rfl rfl (ty := .int) rfl rfl rfl dX7_figures_7 (fun z2 H locs ez2 hP hS => ?_)
  replace h := gl_s h ez2
  refine lv_iconst (v := (nI 0)) hx hb dX7_figures_10 (by decide) ?_
  refine lv_istore_n (lv' := [(3, .int (nI 0)), (2, .int y1), (0, .ref (ad p0)), (1, .int a1)]) hx hb dX7_figures_11 rfl hl (by decide) rfl (fun ls hl => ?_)
  exact j12 a1 y1 gF (nI 0) z2 _ _ ls h hP hS (lv_sub hl [2, 3, 1, 0] rfl)
theorem hdS_X7_isLetter : yX7_isLetter.cls ≠ "java/lang/invoke/MethodHandle" ∧ yX7_isLetter.cls ≠ "java/lang/invoke/VarHandle" ∧ (parseMethodDescriptor yX7_isLetter.desc).map (fun d => d.parameters.length) = some 1 := by decide +kernel
set_option maxHeartbeats 4000000 in
set_option maxRecDepth 100000 in
theorem k_X7_isLetter (l : Launch) (D : va_G) (cA : Nat → ClassId) (ad : Nat → Nat) (tw : Nat) (hG : gOk ad 315) (z : gS) (a0 : Int32) (res : Int32) (h : f_X7_isLetter a0 z = some res) : gMi l yX7_isLetter wsX7_isLetter (gRm 0 0) D cA ad tw shX 315 [.int a0] z (res, z) := by
  refine Met.ofW (cc := cX7_isLetter) (maxL := 1) (ret := (some .boolean)) (by decide) rfl ?_
  intro p e s m args below meth c s₁ B hml hv
  obtain ⟨rfl, hP, hK, hZ⟩ := hv
  have hx := B.exec
  have hb := B.bytes
  have hr := B.returns
  have hts := atoms_spec (ws := wsX7_isLetter) B.pre
  have hown : s.vm.findClass RX7 = some m.cls := findClass_of_methodNamed B.named
  have hlocks := B.notSynchronized
  have hS : va_S (gA ad 315) s.heap s.heap [] := va_S.rf
  have hl := lv_entry ([.int a0]) (n := 1) (Nat.le_of_ble_eq_true rfl)
  rw [lg_entry_eq]
  generalize (lg_sl ([.int a0]) ++ List.replicate (1 - (lg_sl ([.int a0])).length) Slot.unset).toArray = ls at hl ⊢
  have hl : lv_has ls 1 [(0, .int a0)] := hl
  unfold f_X7_isLetter at h
  refine lv_iload_n hx hb dX7_isLetter_0 rfl (lv_at hl 0 rfl) ?_
  refine lv_bipush (v := (nI 97)) hx hb dX7_isLetter_1 (by decide) ?_
  refine lv_icmp_lt (tgt := 16) hx hb dX7_isLetter_3 (by decide) (fun c1 => ?_) (fun c1 => ?_)
  · replace h := gif_t h c1
    refine lv_iconst (v := (nI 0)) hx hb dX7_isLetter_16 (by decide) ?_
    exact fw_iretz hx hb hr hlocks (by decide) (congrArg (fun q => (q, z)) (Option.some.inj h)) hK hZ hP hS dX7_isLetter_17
  · replace h := gif_f h c1
    refine lv_iload_n hx hb dX7_isLetter_6 rfl (lv_at hl 0 rfl) ?_
    refine lv_bipush (v := (nI 122)) hx hb dX7_isLetter_7 (by decide) ?_
    refine lv_icmp_gt (tgt := 16) hx hb dX7_isLetter_9 (by decide) (fun c2 => ?_) (fun c2 => ?_)
    · replace h := gif_t h c2
      refine lv_iconst (v := (nI 0)) hx hb dX7_isLetter_16 (by decide) ?_
      exact fw_iretz hx hb hr hlocks (by decide) (congrArg (fun q => (q, z)) (Option.some.inj h)) hK hZ hP hS dX7_isLetter_17
    · replace h := gif_f h c2
      refine lv_iconst (v := (nI 1)) hx hb dX7_isLetter_12 (by decide) ?_
      refine lv_goto (tgt := 17) hx hb dX7_isLetter_13 (by decide) ?_
      exact fw_iretz hx hb hr hlocks (by decide) (congrArg (fun q => (q, z)) (Option.some.inj h)) hK hZ hP hS dX7_isLetter_17
theorem in_X7_letters_X7 : ∀ w ∈ wsX70, w ∈ wsX7_letters := fun w h => List.mem_cons_of_mem _ (List.mem_append_right _ (h))
theorem hdV_X7_letters : yX7_letters.cls = RX7 ∧ yX7_letters.cls ≠ "java/lang/invoke/MethodHandle" ∧ yX7_letters.cls ≠ "java/lang/invoke/VarHandle" ∧ (parseMethodDescriptor yX7_letters.desc).map (fun d => d.parameters.length) = some 0 := by decide +kernel
set_option maxHeartbeats 4000000 in
set_option maxRecDepth 100000 in
theorem k_X7_letters (l : Launch) (D : va_G) (cA : Nat → ClassId) (ad : Nat → Nat) (tw : Nat) (hG : gOk ad 315) (z : gS) (p0 : Nat) (hp0 : gC7 p0) (res : Int32 × gS) (h : f_X7_letters p0 z = some res) : gMi l yX7_letters wsX7_letters (gRm 1 20) D cA ad tw shX 315 [.ref (ad p0)] z res := by
  refine Met.ofW (cc := cX7_letters) (maxL := 3) (ret := (some .boolean)) (by decide) rfl ?_
  intro p e s m args below meth c s₁ B hml hv
  obtain ⟨rfl, hP, hK, hZ⟩ := hv
  have hx := B.exec
  have hb := B.bytes
  have hr := B.returns
  have hts := atoms_spec (ws := wsX7_letters) B.pre
  have hown : s.vm.findClass RX7 = some m.cls := findClass_of_methodNamed B.named
  have hlocks := B.notSynchronized
  have hS : va_S (gA ad 315) s.heap s.heap [] := va_S.rf
  have hl := lv_entry ([.ref (ad p0)]) (n := 3) (Nat.le_of_ble_eq_true rfl)
  rw [lg_entry_eq]
  generalize (lg_sl ([.ref (ad p0)]) ++ List.replicate (3 - (lg_sl ([.ref (ad p0)])).length) Slot.unset).toArray = ls at hl ⊢
  have hl : lv_has ls 3 [(0, .ref (ad p0))] := hl
  have j12 : ∀ (x1 : Int32) (n : Nat) (x2 : Int32) (z : gS) (H : Heap) (locs : List Loc) (ls : Array Slot), f_X7_letters_12 p0 x1 n x2 z = some res → va_P D vwCl (gw cA ad shX 315 z) H → va_S (gA ad 315) s.heap H locs → lv_has ls 3 [(0, .ref (ad p0)), (1, .int x1), (2, .int x2)] → W p l e (headSpec wsX7_letters (gRm 1 20)).room s m ([.ref (ad p0)] : List Value).toArray below meth c H locs 0 0 (MQ below (va_Qi (fun r u => (r, u) = res) (gPr D cA ad tw shX 315) (gA ad 315)) ([.ref (ad p0)] : List Value).toArray s 0 0 (gA ad 315)) (F0 m 12 ls []) := by
    intro x1 n
    induction n with
    | zero => intro x2 z H locs ls h; exact (gno h).elim
    | succ n hK12 =>
      intro x2 z H locs ls h hP hS hl
      replace h : f_X7_letters_12_b p0 x1 (f_X7_letters_12 p0 x1 n) x2 z = some res := h
      unfold f_X7_letters_12_b at h
      refine lv_iload_n hx hb dX7_letters_12 rfl (lv_at hl 2 rfl) ?_
      refine lv_bipush (v := (nI 6)) hx hb dX7_letters_13 (by decide) ?_
      refine lv_icmp_ge (tgt := 83) hx hb dX7_letters_15 (by decide) (fun c3 => ?_) (fun c3 => ?_)
      · replace h := gif_t h c3
        refine lv_aload_n hx hb dX7_letters_83 rfl (lv_at hl 0 rfl) ?_
        refine fw_geti hx hb hts in_X7_letters_X7 hown hK hP hp0.1.1 hp0.1.2 rfl 2 (by decide) rfl (hts _ (List.mem_of_getElem? (i := 1) rfl)) rfl dX7_letters_84 ?_
        refine lv_iload_n hx hb dX7_letters_87 rfl (lv_at hl 1 rfl) ?_
        refine lv_icmp_le (tgt := 95) hx hb dX7_letters_88 (by decide) (fun c4 => ?_) (fun c4 => ?_)
        · replace h := gif_t h c4
          refine lv_iconst (v := (nI 0)) hx hb dX7_letters_95 (by decide) ?_
          exact fw_iretz hx hb hr hlocks (by decide) (Option.some.inj h) hK hZ hP hS dX7_letters_96
        · replace h := gif_f h c4
          refine lv_iconst (v := (nI 1)) hx hb dX7_letters_91 (by decide) ?_
          refine lv_goto (tgt := 96) hx hb dX7_letters_92 (by decide) ?_
          exact fw_iretz hx hb hr hlocks (by decide) (Option.some.inj h) hK hZ hP hS dX7_letters_96
      · replace h := gif_f h c3
        refine lv_aload_n hx hb dX7_letters_18 rfl (lv_at hl 0 rfl) ?_
        refine lv_dup hx hb dX7_letters_19 rfl ?_
        refine fw_geti hx hb hts in_X7_letters_X7 hown hK hP hp0.1.1 hp0.1.2 rfl 4 (by decide) rfl (hts _ (List.mem_of_getElem? (i := 2) rfl)) rfl dX7_letters_20 ?_
        refine lv_bipush (v := (nI 27)) hx hb dX7_letters_23 (by decide) ?_
        refine lv_imul hx hb dX7_letters_25 ?_
        refine fw_put hx hb hts in_X7_letters_X7 tyX7_ok nmX7 hown hK hG hP hS hp0.1.1 hp0.1.2 rfl 4 (by decide) rfl (hts _ (List.mem_of_getElem? (i := 2) rfl)) rfl rfl (ty := .int) rfl rfl rfl dX7_letters_26 (fun z5 H locs ez5 hP hS => ?_)
        replace h := gl_s h ez5
        refine lv_aload_n hx hb dX7_letters_29 rfl (lv_at hl 0 rfl) ?_
        refine fw_geti hx hb hts in_X7_letters_X7 hown hK hP hp0.1.1 hp0.1.2 rfl 2 (by decide) rfl (hts _ (List.mem_of_getElem? (i := 1) rfl)) rfl dX7_letters_30 ?_
        refine lv_iload_n hx hb dX7_letters_33 rfl (lv_at hl 1 rfl) ?_
        refine lv_iload_n hx hb dX7_letters_34 rfl (lv_at hl 2 rfl) ?_
        refine lv_iadd hx hb dX7_letters_35 ?_
        refine lv_icmp_ne (tgt := 77) hx hb dX7_letters_36 (by decide) (fun c6 => ?_) (fun c6 => ?_)
        · replace h := gif_f h c6
          refine lv_iinc (v := x2 + (nI 1)) (lv' := [(2, .int (x2 + (nI 1))), (0, .ref (ad p0)), (1, .int x1)]) hx hb dX7_letters_77 hl (k := 2) rfl rfl (by decide) rfl (fun ls hl => ?_)
          refine lv_goto (tgt := 12) hx hb dX7_letters_80 (by decide) ?_
          exact hK12 (x2 + (nI 1)) z5 _ _ ls h hP hS (lv_sub hl [1, 2, 0] rfl)
        · replace h := gif_t h c6
          refine lv_aload_n hx hb dX7_letters_39 rfl (lv_at hl 0 rfl) ?_
          obtain ⟨q7, hq7, h⟩ := gb_s h
          refine fw_viR (As := []) (rest := []) ⟨hx, hb, hml, hown, hts⟩ (k_X7_here l D cA ad tw hG z5 p0 (hp0) q7 hq7) (cwV 0 hts gX7_letters_X7_here rfl rfl rfl hdV_X7_here ⟨Nat.le_of_ble_eq_true rfl, Nat.le_of_ble_eq_true rfl⟩) (fw_preV hp0.1.1 hp0.1.2 rfl rfl hK hZ hP hS) rfl hl _ rfl (Nat.le_of_ble_eq_true rfl) hS dX7_letters_40 ⟨Nat.zero_le _, Nat.zero_le _⟩ (fun H locs hP hS => ?_)
          obtain ⟨q8, hq8, h⟩ := gb_s h
          refine fw_siR (As := [.int q7]) (rest := []) ⟨hx, hb, hml, hown, hts⟩ (k_X7_isLetter l D cA ad tw hG z5 q7 q8 hq8) (va_cwS 1 hts gX7_letters_X7_isLetter rfl rfl rfl hdS_X7_isLetter ⟨Nat.le_of_ble_eq_true rfl, Nat.le_of_ble_eq_true rfl⟩) hK hZ hP rfl hl _ rfl (Nat.le_of_ble_eq_true rfl) hS dX7_letters_43 ⟨Nat.zero_le _, Nat.zero_le _⟩ (fun H locs hP hS => ?_)
          refine lv_if_eq (tgt := 77) hx hb dX7_letters_46 (by decide) (fun c9 => ?_) (fun c9 => ?_)
          · replace h := gif_t h c9
            refine lv_iinc (v := x2 + (nI 1)) (lv' := [(2, .int (x2 + (nI 1))), (0, .ref (ad p0)), (1, .int x1)]) hx hb dX7_letters_77 hl (k := 2) rfl rfl (by decide) rfl (fun ls hl => ?_)
            refine lv_goto (tgt := 12) hx hb dX7_letters_80 (by decide) ?_
            exact hK12 (x2 + (nI 1)) z5 _ _ ls h hP hS (lv_sub hl [1, 2, 0] rfl)
          · replace h := gif_f h c9
            refine lv_aload_n hx hb dX7_letters_49 rfl (lv_at hl 0 rfl) ?_
            refine lv_dup hx hb dX7_letters_50 rfl ?_
            refine fw_geti hx hb hts in_X7_letters_X7 hown hK hP hp0.1.1 hp0.1.2 rfl 4 (by decide) rfl (hts _ (List.mem_of_getElem? (i := 2) rfl)) rfl dX7_letters_51 ?_
            refine lv_aload_n hx hb dX7_letters_54 rfl (lv_at hl 0 rfl) ?_
            obtain ⟨q10, hq10, h⟩ := gb_s h
            refine fw_viR (As := []) (rest := [.int (z5 p0 4), .ref (ad p0)]) ⟨hx, hb, hml, hown, hts⟩ (k_X7_here l D cA ad tw hG z5 p0 (hp0) q10 hq10) (cwV 0 hts gX7_letters_X7_here rfl rfl rfl hdV_X7_here ⟨Nat.le_of_ble_eq_true rfl, Nat.le_of_ble_eq_true rfl⟩) (fw_preV hp0.1.1 hp0.1.2 rfl rfl hK hZ hP hS) rfl hl _ rfl (Nat.le_of_ble_eq_true rfl) hS dX7_letters_55 ⟨Nat.zero_le _, Nat.zero_le _⟩ (fun H locs hP hS => ?_)
            refine lv_bipush (v := (nI 97)) hx hb dX7_letters_58 (by decide) ?_
            refine lv_isub hx hb dX7_letters_60 ?_
            refine lv_iconst (v := (nI 1)) hx hb dX7_letters_61 (by decide) ?_
            refine lv_iadd hx hb dX7_letters_62 ?_
            refine lv_iadd hx hb dX7_letters_63 ?_
            refine fw_put hx hb hts in_X7_letters_X7 tyX7_ok nmX7 hown hK hG hP hS hp0.1.1 hp0.1.2 rfl 4 (by decide) rfl (hts _ (List.mem_of_getElem? (i := 2) rfl)) rfl rfl (ty := .int) rfl rfl rfl dX7_letters_64 (fun z11 H locs ez11 hP hS => ?_)
            replace h := gl_s h ez11
            refine lv_aload_n hx hb dX7_letters_67 rfl (lv_at hl 0 rfl) ?_
            refine lv_dup hx hb dX7_letters_68 rfl ?_
            refine fw_geti hx hb hts in_X7_letters_X7 hown hK hP hp0.1.1 hp0.1.2 rfl 2 (by decide) rfl (hts _ (List.mem_of_getElem? (i := 1) rfl)) rfl dX7_letters_69 ?_
            refine lv_iconst (v := (nI 1)) hx hb dX7_letters_72 (by decide) ?_
            refine lv_iadd hx hb dX7_letters_73 ?_
            refine fw_put hx hb hts in_X7_letters_X7 tyX7_ok nmX7 hown hK hG hP hS hp0.1.1 hp0.1.2 rfl 2 (by decide) rfl (hts _ (List.mem_of_getElem? (i := 1) rfl)) rfl rfl (ty := .int) rfl rfl rfl dX7_letters_74 (fun z12 H locs ez12 hP hS => ?_)
            replace h := gl_s h ez12
            refine lv_iinc (v := x2 + (nI 1)) (lv' := [(2, .int (x2 + (nI 1))), (0, .ref (ad p0)), (1, .int x1)]) hx hb dX7_letters_77 hl (k := 2) rfl rfl (by decide) rfl (fun ls hl => ?_)
            refine lv_goto (tgt := 12) hx hb dX7_letters_80 (by decide) ?_
            exact hK12 (x2 + (nI 1)) z12 _ _ ls h hP hS (lv_sub hl [1, 2, 0] rfl)
  unfold f_X7_letters at h
  refine lv_aload_n hx hb dX7_letters_0 rfl (lv_at hl 0 rfl) ?_
  refine fw_geti hx hb hts in_X7_letters_X7 hown hK hP hp0.1.1 hp0.1.2 rfl 2 (by decide) rfl (hts _ (List.mem_of_getElem? (i := 1) rfl)) rfl dX7_letters_1 ?_
  refine lv_topi (fun y1 ey1 => ?_)
  replace h := gl_s h ey1
  refine lv_istore_n (lv' := [(1, .int y1), (0, .ref (ad p0))]) hx hb dX7_letters_4 rfl hl (by decide) rfl (fun ls hl => ?_)
  refine lv_aload_n hx hb dX7_letters_5 rfl (lv_at hl 1 rfl) ?_
  refine lv_iconst (v := (nI 0)) hx hb dX7_letters_6 (by decide) ?_
  refine fw_put hx hb hts in_X7_letters_X7 tyX7_ok nmX7 hown hK hG hP hS hp0.1.1 hp0.1.2 rfl 4 (by decide) rfl (hts _ (List.mem_of_getElem? (i := 2) rfl)) rfl rfl (ty := .int) rfl rfl rfl dX7_letters_7 (fun z2 H locs ez2 hP hS => ?_)
  replace h := gl_s h ez2
  refine lv_iconst (v := (nI 0)) hx hb dX7_letters_10 (by decide) ?_
  refine lv_istore_n (lv' := [(2, .int (nI 0)), (1, .int y1), (0, .ref (ad p0))]) hx hb dX7_letters_11 rfl hl (by decide) rfl (fun ls hl => ?_)
  exact j12 y1 gF (nI 0) z2 _ _ ls h hP hS (lv_sub hl [2, 1, 0] rfl)
theorem in_X7_correction_X7 : ∀ w ∈ wsX70, w ∈ wsX7_correction := fun w h => List.mem_cons_of_mem _ (List.mem_append_left _ (List.mem_append_right _ (h)))
theorem hdV_X7_correction : yX7_correction.cls = RX7 ∧ yX7_correction.cls ≠ "java/lang/invoke/MethodHandle" ∧ yX7_correction.cls ≠ "java/lang/invoke/VarHandle" ∧ (parseMethodDescriptor yX7_correction.desc).map (fun d => d.parameters.length) = some 2 := by decide +kernel
set_option maxHeartbeats 4000000 in
set_option maxRecDepth 100000 in
theorem k_X7_correction (l : Launch) (D : va_G) (cA : Nat → ClassId) (ad : Nat → Nat) (tw : Nat) (hG : gOk ad 315) (z : gS) (p0 : Nat) (hp0 : gC7 p0) (p1 : Nat) (hp1 : gC5 p1) (a2 : Int32) (res : Int32 × gS) (h : f_X7_correction p0 p1 a2 z = some res) : gMi l yX7_correction wsX7_correction (gRm 2 44) D cA ad tw shX 315 [.ref (ad p0), .ref (ad p1), .int a2] z res := by
  refine Met.ofW (cc := cX7_correction) (maxL := 3) (ret := (some .boolean)) (by decide) rfl ?_
  intro p e s m args below meth c s₁ B hml hv
  obtain ⟨rfl, hP, hK, hZ⟩ := hv
  have hx := B.exec
  have hb := B.bytes
  have hr := B.returns
  have hts := atoms_spec (ws := wsX7_correction) B.pre
  have hown : s.vm.findClass RX7 = some m.cls := findClass_of_methodNamed B.named
  have hlocks := B.notSynchronized
  have hS : va_S (gA ad 315) s.heap s.heap [] := va_S.rf
  have hl := lv_entry ([.ref (ad p0), .ref (ad p1), .int a2]) (n := 3) (Nat.le_of_ble_eq_true rfl)
  rw [lg_entry_eq]
  generalize (lg_sl ([.ref (ad p0), .ref (ad p1), .int a2]) ++ List.replicate (3 - (lg_sl ([.ref (ad p0), .ref (ad p1), .int a2])).length) Slot.unset).toArray = ls at hl ⊢
  have hl : lv_has ls 3 [(0, .ref (ad p0)), (1, .ref (ad p1)), (2, .int a2)] := hl
  unfold f_X7_correction at h
  refine lv_aload_n hx hb dX7_correction_0 rfl (lv_at hl 0 rfl) ?_
  refine lv_dup hx hb dX7_correction_1 rfl ?_
  refine fw_geti hx hb hts in_X7_correction_X7 hown hK hP hp0.1.1 hp0.1.2 rfl 2 (by decide) rfl (hts _ (List.mem_of_getElem? (i := 1) rfl)) rfl dX7_correction_2 ?_
  refine lv_iconst (v := (nI 1)) hx hb dX7_correction_5 (by decide) ?_
  refine lv_iadd hx hb dX7_correction_6 ?_
  refine fw_put hx hb hts in_X7_correction_X7 tyX7_ok nmX7 hown hK hG hP hS hp0.1.1 hp0.1.2 rfl 2 (by decide) rfl (hts _ (List.mem_of_getElem? (i := 1) rfl)) rfl rfl (ty := .int) rfl rfl rfl dX7_correction_7 (fun z1 H locs ez1 hP hS => ?_)
  replace h := gl_s h ez1
  refine lv_aload_n hx hb dX7_correction_10 rfl (lv_at hl 0 rfl) ?_
  refine lv_iconst (v := (nI 1)) hx hb dX7_correction_11 (by decide) ?_
  obtain ⟨q2, hq2, h⟩ := gb_s h
  refine fw_vi (As := [.int (nI 1)]) (rest := []) ⟨hx, hb, hml, hown, hts⟩ (k_X7_figures l D cA ad tw hG z1 p0 (hp0) (nI 1) q2 hq2) (cwV 1 hts gX7_correction_X7_figures rfl rfl rfl hdV_X7_figures ⟨Nat.le_of_ble_eq_true rfl, Nat.le_of_ble_eq_true rfl⟩) (fw_preV hp0.1.1 hp0.1.2 rfl rfl hK hZ hP hS) rfl hl _ rfl (Nat.le_of_ble_eq_true rfl) hS dX7_correction_12 ⟨Nat.zero_le _, Nat.zero_le _⟩ (fun H locs hP hS => ?_)
  refine lv_if_eq (tgt := 25) hx hb dX7_correction_15 (by decide) (fun c3 => ?_) (fun c3 => ?_)
  · replace h := gif_t h c3
    refine lv_iconst (v := (nI 0)) hx hb dX7_correction_25 (by decide) ?_
    exact fw_iretz hx hb hr hlocks (by decide) (Option.some.inj h) hK hZ hP hS dX7_correction_26
  · replace h := gif_f h c3
    refine lv_aload_n hx hb dX7_correction_18 rfl (lv_at hl 0 rfl) ?_
    obtain ⟨q4, hq4, h⟩ := gb_s h
    refine fw_vi (As := []) (rest := []) ⟨hx, hb, hml, hown, hts⟩ (k_X7_letters l D cA ad tw hG q2.2 p0 (hp0) q4 hq4) (cwV 0 hts gX7_correction_X7_letters rfl rfl rfl hdV_X7_letters ⟨Nat.le_of_ble_eq_true rfl, Nat.le_of_ble_eq_true rfl⟩) (fw_preV hp0.1.1 hp0.1.2 rfl rfl hK hZ hP hS) rfl hl _ rfl (Nat.le_of_ble_eq_true rfl) hS dX7_correction_19 ⟨Nat.zero_le _, Nat.zero_le _⟩ (fun H locs hP hS => ?_)
    refine lv_if_ne (tgt := 27) hx hb dX7_correction_22 (by decide) (fun c5 => ?_) (fun c5 => ?_)
    · replace h := gif_f h c5
      refine lv_aload_n hx hb dX7_correction_27 rfl (lv_at hl 0 rfl) ?_
      refine lv_aload_n hx hb dX7_correction_28 rfl (lv_at hl 1 rfl) ?_
      refine lv_aload_n hx hb dX7_correction_29 rfl (lv_at hl 0 rfl) ?_
      refine fw_geti hx hb hts in_X7_correction_X7 hown hK hP hp0.1.1 hp0.1.2 rfl 3 (by decide) rfl (hts _ (List.mem_of_getElem? (i := 2) rfl)) rfl dX7_correction_30 ?_
      refine lv_aload_n hx hb dX7_correction_33 rfl (lv_at hl 1 rfl) ?_
      refine lv_aload_n hx hb dX7_correction_34 rfl (lv_at hl 0 rfl) ?_
      refine fw_geti hx hb hts in_X7_correction_X7 hown hK hP hp0.1.1 hp0.1.2 rfl 4 (by decide) rfl (hts _ (List.mem_of_getElem? (i := 3) rfl)) rfl dX7_correction_35 ?_
      obtain ⟨q6, hq6, h⟩ := gb_s h
      refine fw_vi (As := [.int (q4.2 p0 4)]) (rest := [.int (q4.2 p0 3), .ref (ad p1), .ref (ad p0)]) ⟨hx, hb, hml, hown, hts⟩ (k_X5_named l D cA ad tw hG q4.2 p1 (hp1) (q4.2 p0 4) q6 hq6) (cwV 1 hts gX7_correction_X5_named rfl rfl rfl hdV_X5_named ⟨Nat.le_of_ble_eq_true rfl, Nat.le_of_ble_eq_true rfl⟩) (fw_preV hp1.1.1 hp1.1.2 rfl rfl hK hZ hP hS) rfl hl _ rfl (Nat.le_of_ble_eq_true rfl) hS dX7_correction_38 ⟨Nat.zero_le _, Nat.zero_le _⟩ (fun H locs hP hS => ?_)
      refine lv_iload_n hx hb dX7_correction_41 rfl (lv_at hl 2 rfl) ?_
      obtain ⟨q7, hq7, h⟩ := gb_s h
      refine fw_vi (As := [.int (q4.2 p0 3), .int q6.1, .int a2]) (rest := [.ref (ad p0)]) ⟨hx, hb, hml, hown, hts⟩ (k_X5_mark l D cA ad tw hG q6.2 p1 (hp1) (q4.2 p0 3) q6.1 a2 q7 hq7) (cwV 3 hts gX7_correction_X5_mark rfl rfl rfl hdV_X5_mark ⟨Nat.le_of_ble_eq_true rfl, Nat.le_of_ble_eq_true rfl⟩) (fw_preV hp1.1.1 hp1.1.2 rfl rfl hK hZ hP hS) rfl hl _ rfl (Nat.le_of_ble_eq_true rfl) hS dX7_correction_42 ⟨Nat.zero_le _, Nat.zero_le _⟩ (fun H locs hP hS => ?_)
      obtain ⟨h8, h⟩ := gz_s h
      refine fw_put hx hb hts in_X7_correction_X7 tyX7_ok nmX7 hown hK hG hP hS hp0.1.1 hp0.1.2 rfl 5 (by decide) rfl (hts _ (List.mem_of_getElem? (i := 4) rfl)) rfl rfl (ty := .boolean) rfl (gnar h8) (gfit h8) dX7_correction_45 (fun z9 H locs ez9 hP hS => ?_)
      replace h := gl_s h ez9
      refine lv_iconst (v := (nI 1)) hx hb dX7_correction_48 (by decide) ?_
      exact fw_iretz hx hb hr hlocks (by decide) (Option.some.inj h) hK hZ hP hS dX7_correction_49
    · replace h := gif_t h c5
      refine lv_iconst (v := (nI 0)) hx hb dX7_correction_25 (by decide) ?_
      exact fw_iretz hx hb hr hlocks (by decide) (Option.some.inj h) hK hZ hP hS dX7_correction_26
theorem in_X7_burial_X7 : ∀ w ∈ wsX70, w ∈ wsX7_burial := fun w h => List.mem_cons_of_mem _ (List.mem_append_left _ (List.mem_append_right _ (h)))
theorem hdV_X7_burial : yX7_burial.cls = RX7 ∧ yX7_burial.cls ≠ "java/lang/invoke/MethodHandle" ∧ yX7_burial.cls ≠ "java/lang/invoke/VarHandle" ∧ (parseMethodDescriptor yX7_burial.desc).map (fun d => d.parameters.length) = some 1 := by decide +kernel
set_option maxHeartbeats 4000000 in
set_option maxRecDepth 100000 in
theorem k_X7_burial (l : Launch) (D : va_G) (cA : Nat → ClassId) (ad : Nat → Nat) (tw : Nat) (hG : gOk ad 315) (z : gS) (p0 : Nat) (hp0 : gC7 p0) (p1 : Nat) (hp1 : gC5 p1) (res : Int32 × gS) (h : f_X7_burial p0 p1 z = some res) : gMi l yX7_burial wsX7_burial (gRm 2 44) D cA ad tw shX 315 [.ref (ad p0), .ref (ad p1)] z res := by
  refine Met.ofW (cc := cX7_burial) (maxL := 5) (ret := (some .boolean)) (by decide) rfl ?_
  intro p e s m args below meth c s₁ B hml hv
  obtain ⟨rfl, hP, hK, hZ⟩ := hv
  have hx := B.exec
  have hb := B.bytes
  have hr := B.returns
  have hts := atoms_spec (ws := wsX7_burial) B.pre
  have hown : s.vm.findClass RX7 = some m.cls := findClass_of_methodNamed B.named
  have hlocks := B.notSynchronized
  have hS : va_S (gA ad 315) s.heap s.heap [] := va_S.rf
  have hl := lv_entry ([.ref (ad p0), .ref (ad p1)]) (n := 5) (Nat.le_of_ble_eq_true rfl)
  rw [lg_entry_eq]
  generalize (lg_sl ([.ref (ad p0), .ref (ad p1)]) ++ List.replicate (5 - (lg_sl ([.ref (ad p0), .ref (ad p1)])).length) Slot.unset).toArray = ls at hl ⊢
  have hl : lv_has ls 5 [(0, .ref (ad p0)), (1, .ref (ad p1))] := hl
  have j123 : ∀ (x2 : Int32) (x3 : Int32) (K65 : Int32 → gS → Option (Int32 × gS)) (hK65 : ∀ (x3' : Int32) (z' : gS) (H : Heap) (locs : List Loc) (ls : Array Slot), K65 x3' z' = some res → va_P D vwCl (gw cA ad shX 315 z') H → va_S (gA ad 315) s.heap H locs → lv_has ls 5 [(0, .ref (ad p0)), (1, .ref (ad p1)), (2, .int x2), (3, .int x3')] → W p l e (headSpec wsX7_burial (gRm 2 44)).room s m ([.ref (ad p0), .ref (ad p1)] : List Value).toArray below meth c H locs 0 0 (MQ below (va_Qi (fun r u => (r, u) = res) (gPr D cA ad tw shX 315) (gA ad 315)) ([.ref (ad p0), .ref (ad p1)] : List Value).toArray s 0 0 (gA ad 315)) (F0 m 65 ls [])) (z : gS) (H : Heap) (locs : List Loc) (ls : Array Slot), f_X7_burial_123 p0 p1 x2 x3 K65 z = some res → va_P D vwCl (gw cA ad shX 315 z) H → va_S (gA ad 315) s.heap H locs → lv_has ls 5 [(0, .ref (ad p0)), (1, .ref (ad p1)), (2, .int x2), (3, .int x3)] → W p l e (headSpec wsX7_burial (gRm 2 44)).room s m ([.ref (ad p0), .ref (ad p1)] : List Value).toArray below meth c H locs 0 0 (MQ below (va_Qi (fun r u => (r, u) = res) (gPr D cA ad tw shX 315) (gA ad 315)) ([.ref (ad p0), .ref (ad p1)] : List Value).toArray s 0 0 (gA ad 315)) (F0 m 123 ls [.ref (ad p0)]) := by
    intro x2 x3 K65 hK65 z H locs ls h hP hS hl
    unfold f_X7_burial_123 at h
    refine lv_iconst (v := (nI 0)) hx hb dX7_burial_123 (by decide) ?_
    refine fw_put hx hb hts in_X7_burial_X7 tyX7_ok nmX7 hown hK hG hP hS hp0.1.1 hp0.1.2 rfl 5 (by decide) rfl (hts _ (List.mem_of_getElem? (i := 3) rfl)) rfl rfl (ty := .boolean) rfl rfl rfl dX7_burial_124 (fun z29 H locs ez29 hP hS => ?_)
    replace h := gl_s h ez29
    refine lv_aload_n hx hb dX7_burial_127 rfl (lv_at hl 0 rfl) ?_
    obtain ⟨q30, hq30, h⟩ := gb_s h
    refine fw_viR (As := []) (rest := []) ⟨hx, hb, hml, hown, hts⟩ (k_X7_here l D cA ad tw hG z29 p0 (hp0) q30 hq30) (cwV 0 hts gX7_burial_X7_here rfl rfl rfl hdV_X7_here ⟨Nat.le_of_ble_eq_true rfl, Nat.le_of_ble_eq_true rfl⟩) (fw_preV hp0.1.1 hp0.1.2 rfl rfl hK hZ hP hS) rfl hl _ rfl (Nat.le_of_ble_eq_true rfl) hS dX7_burial_128 ⟨Nat.zero_le _, Nat.zero_le _⟩ (fun H locs hP hS => ?_)
    refine lv_bipush (v := (nI 44)) hx hb dX7_burial_131 (by decide) ?_
    refine lv_icmp_eq (tgt := 138) hx hb dX7_burial_133 (by decide) (fun c31 => ?_) (fun c31 => ?_)
    · replace h := gif_t h c31
      refine lv_aload_n hx hb dX7_burial_138 rfl (lv_at hl 0 rfl) ?_
      refine lv_dup hx hb dX7_burial_139 rfl ?_
      refine fw_geti hx hb hts in_X7_burial_X7 hown hK hP hp0.1.1 hp0.1.2 rfl 2 (by decide) rfl (hts _ (List.mem_of_getElem? (i := 1) rfl)) rfl dX7_burial_140 ?_
      refine lv_iconst (v := (nI 1)) hx hb dX7_burial_143 (by decide) ?_
      refine lv_iadd hx hb dX7_burial_144 ?_
      refine fw_put hx hb hts in_X7_burial_X7 tyX7_ok nmX7 hown hK hG hP hS hp0.1.1 hp0.1.2 rfl 2 (by decide) rfl (hts _ (List.mem_of_getElem? (i := 1) rfl)) rfl rfl (ty := .int) rfl rfl rfl dX7_burial_145 (fun z32 H locs ez32 hP hS => ?_)
      replace h := gl_s h ez32
      refine lv_iinc (v := x3 + (nI 1)) (lv' := [(3, .int (x3 + (nI 1))), (0, .ref (ad p0)), (1, .ref (ad p1)), (2, .int x2)]) hx hb dX7_burial_148 hl (k := 3) rfl rfl (by decide) rfl (fun ls hl => ?_)
      refine lv_goto (tgt := 65) hx hb dX7_burial_151 (by decide) ?_
      exact hK65 (x3 + (nI 1)) z32 _ _ ls h hP hS (lv_sub hl [1, 2, 3, 0] rfl)
    · replace h := gif_f h c31
      refine lv_iconst (v := (nI 1)) hx hb dX7_burial_136 (by decide) ?_
      exact fw_iretz hx hb hr hlocks (by decide) (Option.some.inj h) hK hZ hP hS dX7_burial_137
  have j65 : ∀ (x2 : Int32) (n : Nat) (x3 : Int32) (z : gS) (H : Heap) (locs : List Loc) (ls : Array Slot), f_X7_burial_65 p0 p1 x2 n x3 z = some res → va_P D vwCl (gw cA ad shX 315 z) H → va_S (gA ad 315) s.heap H locs → lv_has ls 5 [(0, .ref (ad p0)), (1, .ref (ad p1)), (2, .int x2), (3, .int x3)] → W p l e (headSpec wsX7_burial (gRm 2 44)).room s m ([.ref (ad p0), .ref (ad p1)] : List Value).toArray below meth c H locs 0 0 (MQ below (va_Qi (fun r u => (r, u) = res) (gPr D cA ad tw shX 315) (gA ad 315)) ([.ref (ad p0), .ref (ad p1)] : List Value).toArray s 0 0 (gA ad 315)) (F0 m 65 ls []) := by
    intro x2 n
    induction n with
    | zero => intro x3 z H locs ls h; exact (gno h).elim
    | succ n hK65 =>
      intro x3 z H locs ls h hP hS hl
      replace h : f_X7_burial_65_b p0 p1 x2 (f_X7_burial_65 p0 p1 x2 n) x3 z = some res := h
      unfold f_X7_burial_65_b at h
      refine lv_iload_n hx hb dX7_burial_65 rfl (lv_at hl 3 rfl) ?_
      refine lv_bipush (v := (nI 100)) hx hb dX7_burial_66 (by decide) ?_
      refine lv_icmp_ge (tgt := 154) hx hb dX7_burial_68 (by decide) (fun c16 => ?_) (fun c16 => ?_)
      · replace h := gif_t h c16
        refine lv_iconst (v := (nI 0)) hx hb dX7_burial_154 (by decide) ?_
        exact fw_iretz hx hb hr hlocks (by decide) (Option.some.inj h) hK hZ hP hS dX7_burial_155
      · replace h := gif_f h c16
        refine lv_aload_n hx hb dX7_burial_71 rfl (lv_at hl 0 rfl) ?_
        obtain ⟨q17, hq17, h⟩ := gb_s h
        refine fw_vi (As := []) (rest := []) ⟨hx, hb, hml, hown, hts⟩ (k_X7_letters l D cA ad tw hG z p0 (hp0) q17 hq17) (cwV 0 hts gX7_burial_X7_letters rfl rfl rfl hdV_X7_letters ⟨Nat.le_of_ble_eq_true rfl, Nat.le_of_ble_eq_true rfl⟩) (fw_preV hp0.1.1 hp0.1.2 rfl rfl hK hZ hP hS) rfl hl _ rfl (Nat.le_of_ble_eq_true rfl) hS dX7_burial_72 ⟨Nat.zero_le _, Nat.zero_le _⟩ (fun H locs hP hS => ?_)
        refine lv_if_ne (tgt := 80) hx hb dX7_burial_75 (by decide) (fun c18 => ?_) (fun c18 => ?_)
        · replace h := gif_f h c18
          refine lv_aload_n hx hb dX7_burial_80 rfl (lv_at hl 1 rfl) ?_
          refine lv_aload_n hx hb dX7_burial_81 rfl (lv_at hl 0 rfl) ?_
          refine fw_geti hx hb hts in_X7_burial_X7 hown hK hP hp0.1.1 hp0.1.2 rfl 4 (by decide) rfl (hts _ (List.mem_of_getElem? (i := 4) rfl)) rfl dX7_burial_82 ?_
          obtain ⟨q19, hq19, h⟩ := gb_s h
          refine fw_vi (As := [.int (q17.2 p0 4)]) (rest := []) ⟨hx, hb, hml, hown, hts⟩ (k_X5_named l D cA ad tw hG q17.2 p1 (hp1) (q17.2 p0 4) q19 hq19) (cwV 1 hts gX7_burial_X5_named rfl rfl rfl hdV_X5_named ⟨Nat.le_of_ble_eq_true rfl, Nat.le_of_ble_eq_true rfl⟩) (fw_preV hp1.1.1 hp1.1.2 rfl rfl hK hZ hP hS) rfl hl _ rfl (Nat.le_of_ble_eq_true rfl) hS dX7_burial_85 ⟨Nat.zero_le _, Nat.zero_le _⟩ (fun H locs hP hS => ?_)
          refine lv_istore (lv' := [(4, .int q19.1), (0, .ref (ad p0)), (1, .ref (ad p1)), (2, .int x2), (3, .int x3)]) hx hb dX7_burial_88 hl (by decide) rfl (fun ls hl => ?_)
          refine lv_aload_n hx hb dX7_burial_90 rfl (lv_at hl 1 rfl) ?_
          refine lv_aload_n hx hb dX7_burial_91 rfl (lv_at hl 1 rfl) ?_
          refine fw_geti hx hb hts in_X7_burial_X7 hown hK hP hp0.1.1 hp0.1.2 rfl 5 (by decide) rfl (hts _ (List.mem_of_getElem? (i := 3) rfl)) rfl dX7_burial_92 ?_
          refine lv_if_eq (tgt := 123) hx hb dX7_burial_95 (by decide) (fun c20 => ?_) (fun c20 => ?_)
          · replace h := gif_t h c20
            exact j123 x2 x3 _ hK65 q19.2 _ _ ls h hP hS (lv_sub hl [1, 2, 3, 4] rfl)
          · replace h := gif_f h c20
            refine lv_aload_n hx hb dX7_burial_98 rfl (lv_at hl 2 rfl) ?_
            refine lv_iload_n hx hb dX7_burial_99 rfl (lv_at hl 3 rfl) ?_
            refine lv_iload hx hb dX7_burial_100 (lv_at hl 0 rfl) ?_
            obtain ⟨q21, hq21, h⟩ := gb_s h
            refine fw_viR (As := [.int x2, .int q19.1]) (rest := [.ref (ad p0)]) ⟨hx, hb, hml, hown, hts⟩ (k_X5_owns l D cA ad tw hG q19.2 p1 (hp1) x2 q19.1 q21 hq21) (cwV 2 hts gX7_burial_X5_owns rfl rfl rfl hdV_X5_owns ⟨Nat.le_of_ble_eq_true rfl, Nat.le_of_ble_eq_true rfl⟩) (fw_preV hp1.1.1 hp1.1.2 rfl rfl hK hZ hP hS) rfl hl _ rfl (Nat.le_of_ble_eq_true rfl) hS dX7_burial_102 ⟨Nat.zero_le _, Nat.zero_le _⟩ (fun H locs hP hS => ?_)
            refine lv_if_ne (tgt := 123) hx hb dX7_burial_105 (by decide) (fun c22 => ?_) (fun c22 => ?_)
            · replace h := gif_f h c22
              exact j123 x2 x3 _ hK65 q19.2 _ _ ls h hP hS (lv_sub hl [1, 2, 3, 4] rfl)
            · replace h := gif_t h c22
              refine lv_aload_n hx hb dX7_burial_108 rfl (lv_at hl 2 rfl) ?_
              refine lv_iload_n hx hb dX7_burial_109 rfl (lv_at hl 3 rfl) ?_
              refine lv_iload hx hb dX7_burial_110 (lv_at hl 0 rfl) ?_
              refine lv_iconst (v := (nI 1)) hx hb dX7_burial_112 (by decide) ?_
              obtain ⟨q23, hq23, h⟩ := gb_s h
              refine fw_vi (As := [.int x2, .int q19.1, .int (nI 1)]) (rest := [.ref (ad p0)]) ⟨hx, hb, hml, hown, hts⟩ (k_X5_mark l D cA ad tw hG q19.2 p1 (hp1) x2 q19.1 (nI 1) q23 hq23) (cwV 3 hts gX7_burial_X5_mark rfl rfl rfl hdV_X5_mark ⟨Nat.le_of_ble_eq_true rfl, Nat.le_of_ble_eq_true rfl⟩) (fw_preV hp1.1.1 hp1.1.2 rfl rfl hK hZ hP hS) rfl hl _ rfl (Nat.le_of_ble_eq_true rfl) hS dX7_burial_113 ⟨Nat.zero_le _, Nat.zero_le _⟩ (fun H locs hP hS => ?_)
              refine lv_if_eq (tgt := 123) hx hb dX7_burial_116 (by decide) (fun c24 => ?_) (fun c24 => ?_)
              · replace h := gif_t h c24
                exact j123 x2 x3 _ hK65 q23.2 _ _ ls h hP hS (lv_sub hl [1, 2, 3, 4] rfl)
              · replace h := gif_f h c24
                refine lv_iconst (v := (nI 1)) hx hb dX7_burial_119 (by decide) ?_
                refine lv_goto (tgt := 124) hx hb dX7_burial_120 (by decide) ?_
                refine fw_put hx hb hts in_X7_burial_X7 tyX7_ok nmX7 hown hK hG hP hS hp0.1.1 hp0.1.2 rfl 5 (by decide) rfl (hts _ (List.mem_of_getElem? (i := 3) rfl)) rfl rfl (ty := .boolean) rfl rfl rfl dX7_burial_124 (fun z25 H locs ez25 hP hS => ?_)
                replace h := gl_s h ez25
                refine lv_aload_n hx hb dX7_burial_127 rfl (lv_at hl 1 rfl) ?_
                obtain ⟨q26, hq26, h⟩ := gb_s h
                refine fw_viR (As := []) (rest := []) ⟨hx, hb, hml, hown, hts⟩ (k_X7_here l D cA ad tw hG z25 p0 (hp0) q26 hq26) (cwV 0 hts gX7_burial_X7_here rfl rfl rfl hdV_X7_here ⟨Nat.le_of_ble_eq_true rfl, Nat.le_of_ble_eq_true rfl⟩) (fw_preV hp0.1.1 hp0.1.2 rfl rfl hK hZ hP hS) rfl hl _ rfl (Nat.le_of_ble_eq_true rfl) hS dX7_burial_128 ⟨Nat.zero_le _, Nat.zero_le _⟩ (fun H locs hP hS => ?_)
                refine lv_bipush (v := (nI 44)) hx hb dX7_burial_131 (by decide) ?_
                refine lv_icmp_eq (tgt := 138) hx hb dX7_burial_133 (by decide) (fun c27 => ?_) (fun c27 => ?_)
                · replace h := gif_t h c27
                  refine lv_aload_n hx hb dX7_burial_138 rfl (lv_at hl 1 rfl) ?_
                  refine lv_dup hx hb dX7_burial_139 rfl ?_
                  refine fw_geti hx hb hts in_X7_burial_X7 hown hK hP hp0.1.1 hp0.1.2 rfl 2 (by decide) rfl (hts _ (List.mem_of_getElem? (i := 1) rfl)) rfl dX7_burial_140 ?_
                  refine lv_iconst (v := (nI 1)) hx hb dX7_burial_143 (by decide) ?_
                  refine lv_iadd hx hb dX7_burial_144 ?_
                  refine fw_put hx hb hts in_X7_burial_X7 tyX7_ok nmX7 hown hK hG hP hS hp0.1.1 hp0.1.2 rfl 2 (by decide) rfl (hts _ (List.mem_of_getElem? (i := 1) rfl)) rfl rfl (ty := .int) rfl rfl rfl dX7_burial_145 (fun z28 H locs ez28 hP hS => ?_)
                  replace h := gl_s h ez28
                  refine lv_iinc (v := x3 + (nI 1)) (lv' := [(3, .int (x3 + (nI 1))), (4, .int q19.1), (0, .ref (ad p0)), (1, .ref (ad p1)), (2, .int x2)]) hx hb dX7_burial_148 hl (k := 4) rfl rfl (by decide) rfl (fun ls hl => ?_)
                  refine lv_goto (tgt := 65) hx hb dX7_burial_151 (by decide) ?_
                  exact hK65 (x3 + (nI 1)) z28 _ _ ls h hP hS (lv_sub hl [2, 3, 4, 0] rfl)
                · replace h := gif_f h c27
                  refine lv_iconst (v := (nI 1)) hx hb dX7_burial_136 (by decide) ?_
                  exact fw_iretz hx hb hr hlocks (by decide) (Option.some.inj h) hK hZ hP hS dX7_burial_137
        · replace h := gif_t h c18
          refine lv_iconst (v := (nI 0)) hx hb dX7_burial_78 (by decide) ?_
          exact fw_iretz hx hb hr hlocks (by decide) (Option.some.inj h) hK hZ hP hS dX7_burial_79
  unfold f_X7_burial at h
  refine lv_aload_n hx hb dX7_burial_0 rfl (lv_at hl 0 rfl) ?_
  refine lv_iconst (v := (nI 3)) hx hb dX7_burial_1 (by decide) ?_
  obtain ⟨q1, hq1, h⟩ := gb_s h
  refine fw_vi (As := [.int (nI 3)]) (rest := []) ⟨hx, hb, hml, hown, hts⟩ (k_X7_figures l D cA ad tw hG z p0 (hp0) (nI 3) q1 hq1) (cwV 1 hts gX7_burial_X7_figures rfl rfl rfl hdV_X7_figures ⟨Nat.le_of_ble_eq_true rfl, Nat.le_of_ble_eq_true rfl⟩) (fw_preV hp0.1.1 hp0.1.2 rfl rfl hK hZ hP hS) rfl hl _ rfl (Nat.le_of_ble_eq_true rfl) hS dX7_burial_2 ⟨Nat.zero_le _, Nat.zero_le _⟩ (fun H locs hP hS => ?_)
  refine lv_if_eq (tgt := 17) hx hb dX7_burial_5 (by decide) (fun c2 => ?_) (fun c2 => ?_)
  · replace h := gif_t h c2
    refine lv_iconst (v := (nI 0)) hx hb dX7_burial_17 (by decide) ?_
    exact fw_iretz hx hb hr hlocks (by decide) (Option.some.inj h) hK hZ hP hS dX7_burial_18
  · replace h := gif_f h c2
    refine lv_aload_n hx hb dX7_burial_8 rfl (lv_at hl 0 rfl) ?_
    obtain ⟨q3, hq3, h⟩ := gb_s h
    refine fw_viR (As := []) (rest := []) ⟨hx, hb, hml, hown, hts⟩ (k_X7_here l D cA ad tw hG q1.2 p0 (hp0) q3 hq3) (cwV 0 hts gX7_burial_X7_here rfl rfl rfl hdV_X7_here ⟨Nat.le_of_ble_eq_true rfl, Nat.le_of_ble_eq_true rfl⟩) (fw_preV hp0.1.1 hp0.1.2 rfl rfl hK hZ hP hS) rfl hl _ rfl (Nat.le_of_ble_eq_true rfl) hS dX7_burial_9 ⟨Nat.zero_le _, Nat.zero_le _⟩ (fun H locs hP hS => ?_)
    refine lv_bipush (v := (nI 58)) hx hb dX7_burial_12 (by decide) ?_
    refine lv_icmp_eq (tgt := 19) hx hb dX7_burial_14 (by decide) (fun c4 => ?_) (fun c4 => ?_)
    · replace h := gif_t h c4
      refine lv_aload_n hx hb dX7_burial_19 rfl (lv_at hl 0 rfl) ?_
      refine lv_dup hx hb dX7_burial_20 rfl ?_
      refine fw_geti hx hb hts in_X7_burial_X7 hown hK hP hp0.1.1 hp0.1.2 rfl 2 (by decide) rfl (hts _ (List.mem_of_getElem? (i := 1) rfl)) rfl dX7_burial_21 ?_
      refine lv_iconst (v := (nI 1)) hx hb dX7_burial_24 (by decide) ?_
      refine lv_iadd hx hb dX7_burial_25 ?_
      refine fw_put hx hb hts in_X7_burial_X7 tyX7_ok nmX7 hown hK hG hP hS hp0.1.1 hp0.1.2 rfl 2 (by decide) rfl (hts _ (List.mem_of_getElem? (i := 1) rfl)) rfl rfl (ty := .int) rfl rfl rfl dX7_burial_26 (fun z5 H locs ez5 hP hS => ?_)
      replace h := gl_s h ez5
      refine lv_aload_n hx hb dX7_burial_29 rfl (lv_at hl 1 rfl) ?_
      refine lv_aload_n hx hb dX7_burial_30 rfl (lv_at hl 0 rfl) ?_
      refine fw_geti hx hb hts in_X7_burial_X7 hown hK hP hp0.1.1 hp0.1.2 rfl 3 (by decide) rfl (hts _ (List.mem_of_getElem? (i := 2) rfl)) rfl dX7_burial_31 ?_
      obtain ⟨q6, hq6, h⟩ := gb_s h
      refine fw_vi (As := [.int (z5 p0 3)]) (rest := []) ⟨hx, hb, hml, hown, hts⟩ (k_X5_dig l D cA ad tw hG z5 p1 (hp1) (z5 p0 3) q6 hq6) (cwV 1 hts gX7_burial_X5_dig rfl rfl rfl hdV_X5_dig ⟨Nat.le_of_ble_eq_true rfl, Nat.le_of_ble_eq_true rfl⟩) (fw_preV hp1.1.1 hp1.1.2 rfl rfl hK hZ hP hS) rfl hl _ rfl (Nat.le_of_ble_eq_true rfl) hS dX7_burial_34 ⟨Nat.zero_le _, Nat.zero_le _⟩ (fun H locs hP hS => ?_)
      refine lv_istore_n (lv' := [(2, .int q6.1), (0, .ref (ad p0)), (1, .ref (ad p1))]) hx hb dX7_burial_37 rfl hl (by decide) rfl (fun ls hl => ?_)
      refine lv_aload_n hx hb dX7_burial_38 rfl (lv_at hl 1 rfl) ?_
      refine lv_iload_n hx hb dX7_burial_39 rfl (lv_at hl 0 rfl) ?_
      refine lv_if_lt (tgt := 47) hx hb dX7_burial_40 (by decide) (fun c7 => ?_) (fun c7 => ?_)
      · replace h := gif_t h c7
        refine lv_iconst (v := (nI 0)) hx hb dX7_burial_47 (by decide) ?_
        refine fw_put hx hb hts in_X7_burial_X7 tyX7_ok nmX7 hown hK hG hP hS hp0.1.1 hp0.1.2 rfl 5 (by decide) rfl (hts _ (List.mem_of_getElem? (i := 3) rfl)) rfl rfl (ty := .boolean) rfl rfl rfl dX7_burial_48 (fun z8 H locs ez8 hP hS => ?_)
        replace h := gl_s h ez8
        refine lv_aload_n hx hb dX7_burial_51 rfl (lv_at hl 1 rfl) ?_
        obtain ⟨q9, hq9, h⟩ := gb_s h
        refine fw_viR (As := []) (rest := []) ⟨hx, hb, hml, hown, hts⟩ (k_X7_here l D cA ad tw hG z8 p0 (hp0) q9 hq9) (cwV 0 hts gX7_burial_X7_here rfl rfl rfl hdV_X7_here ⟨Nat.le_of_ble_eq_true rfl, Nat.le_of_ble_eq_true rfl⟩) (fw_preV hp0.1.1 hp0.1.2 rfl rfl hK hZ hP hS) rfl hl _ rfl (Nat.le_of_ble_eq_true rfl) hS dX7_burial_52 ⟨Nat.zero_le _, Nat.zero_le _⟩ (fun H locs hP hS => ?_)
        obtain ⟨q10, hq10, h⟩ := gb_s h
        refine fw_siR (As := [.int q9]) (rest := []) ⟨hx, hb, hml, hown, hts⟩ (k_X7_isLetter l D cA ad tw hG z8 q9 q10 hq10) (va_cwS 1 hts gX7_burial_X7_isLetter rfl rfl rfl hdS_X7_isLetter ⟨Nat.le_of_ble_eq_true rfl, Nat.le_of_ble_eq_true rfl⟩) hK hZ hP rfl hl _ rfl (Nat.le_of_ble_eq_true rfl) hS dX7_burial_55 ⟨Nat.zero_le _, Nat.zero_le _⟩ (fun H locs hP hS => ?_)
        refine lv_if_ne (tgt := 63) hx hb dX7_burial_58 (by decide) (fun c11 => ?_) (fun c11 => ?_)
        · replace h := gif_f h c11
          refine lv_iconst (v := (nI 0)) hx hb dX7_burial_63 (by decide) ?_
          refine lv_istore_n (lv' := [(3, .int (nI 0)), (2, .int q6.1), (0, .ref (ad p0)), (1, .ref (ad p1))]) hx hb dX7_burial_64 rfl hl (by decide) rfl (fun ls hl => ?_)
          exact j65 q6.1 gF (nI 0) z8 _ _ ls h hP hS (lv_sub hl [2, 3, 1, 0] rfl)
        · replace h := gif_t h c11
          refine lv_iconst (v := (nI 1)) hx hb dX7_burial_61 (by decide) ?_
          exact fw_iretz hx hb hr hlocks (by decide) (Option.some.inj h) hK hZ hP hS dX7_burial_62
      · replace h := gif_f h c7
        refine lv_iconst (v := (nI 1)) hx hb dX7_burial_43 (by decide) ?_
        refine lv_goto (tgt := 48) hx hb dX7_burial_44 (by decide) ?_
        refine fw_put hx hb hts in_X7_burial_X7 tyX7_ok nmX7 hown hK hG hP hS hp0.1.1 hp0.1.2 rfl 5 (by decide) rfl (hts _ (List.mem_of_getElem? (i := 3) rfl)) rfl rfl (ty := .boolean) rfl rfl rfl dX7_burial_48 (fun z12 H locs ez12 hP hS => ?_)
        replace h := gl_s h ez12
        refine lv_aload_n hx hb dX7_burial_51 rfl (lv_at hl 1 rfl) ?_
        obtain ⟨q13, hq13, h⟩ := gb_s h
        refine fw_viR (As := []) (rest := []) ⟨hx, hb, hml, hown, hts⟩ (k_X7_here l D cA ad tw hG z12 p0 (hp0) q13 hq13) (cwV 0 hts gX7_burial_X7_here rfl rfl rfl hdV_X7_here ⟨Nat.le_of_ble_eq_true rfl, Nat.le_of_ble_eq_true rfl⟩) (fw_preV hp0.1.1 hp0.1.2 rfl rfl hK hZ hP hS) rfl hl _ rfl (Nat.le_of_ble_eq_true rfl) hS dX7_burial_52 ⟨Nat.zero_le _, Nat.zero_le _⟩ (fun H locs hP hS => ?_)
        obtain ⟨q14, hq14, h⟩ := gb_s h
        refine fw_siR (As := [.int q13]) (rest := []) ⟨hx, hb, hml, hown, hts⟩ (k_X7_isLetter l D cA ad tw hG z12 q13 q14 hq14) (va_cwS 1 hts gX7_burial_X7_isLetter rfl rfl rfl hdS_X7_isLetter ⟨Nat.le_of_ble_eq_true rfl, Nat.le_of_ble_eq_true rfl⟩) hK hZ hP rfl hl _ rfl (Nat.le_of_ble_eq_true rfl) hS dX7_burial_55 ⟨Nat.zero_le _, Nat.zero_le _⟩ (fun H locs hP hS => ?_)
        refine lv_if_ne (tgt := 63) hx hb dX7_burial_58 (by decide) (fun c15 => ?_) (fun c15 => ?_)
        · replace h := gif_f h c15
          refine lv_iconst (v := (nI 0)) hx hb dX7_burial_63 (by decide) ?_
          refine lv_istore_n (lv' := [(3, .int (nI 0)), (2, .int q6.1), (0, .ref (ad p0)), (1, .ref (ad p1))]) hx hb dX7_burial_64 rfl hl (by decide) rfl (fun ls hl => ?_)
          exact j65 q6.1 gF (nI 0) z12 _ _ ls h hP hS (lv_sub hl [2, 3, 1, 0] rfl)
        · replace h := gif_t h c15
          refine lv_iconst (v := (nI 1)) hx hb dX7_burial_61 (by decide) ?_
          exact fw_iretz hx hb hr hlocks (by decide) (Option.some.inj h) hK hZ hP hS dX7_burial_62
    · replace h := gif_f h c4
      refine lv_iconst (v := (nI 0)) hx hb dX7_burial_17 (by decide) ?_
      exact fw_iretz hx hb hr hlocks (by decide) (Option.some.inj h) hK hZ hP hS dX7_burial_18
theorem hdV_X7_statement : yX7_statement.cls = RX7 ∧ yX7_statement.cls ≠ "java/lang/invoke/MethodHandle" ∧ yX7_statement.cls ≠ "java/lang/invoke/VarHandle" ∧ (parseMethodDescriptor yX7_statement.desc).map (fun d => d.parameters.length) = some 1 := by decide +kernel
set_option maxHeartbeats 4000000 in
set_option maxRecDepth 100000 in
theorem k_X7_statement (l : Launch) (D : va_G) (cA : Nat → ClassId) (ad : Nat → Nat) (tw : Nat) (hG : gOk ad 315) (z : gS) (p0 : Nat) (hp0 : gC7 p0) (p1 : Nat) (hp1 : gC5 p1) (res : Int32 × gS) (h : f_X7_statement p0 p1 z = some res) : gMi l yX7_statement wsX7_statement (gRm 3 68) D cA ad tw shX 315 [.ref (ad p0), .ref (ad p1)] z res := by
  refine Met.ofW (cc := cX7_statement) (maxL := 3) (ret := (some .boolean)) (by decide) rfl ?_
  intro p e s m args below meth c s₁ B hml hv
  obtain ⟨rfl, hP, hK, hZ⟩ := hv
  have hx := B.exec
  have hb := B.bytes
  have hr := B.returns
  have hts := atoms_spec (ws := wsX7_statement) B.pre
  have hown : s.vm.findClass RX7 = some m.cls := findClass_of_methodNamed B.named
  have hlocks := B.notSynchronized
  have hS : va_S (gA ad 315) s.heap s.heap [] := va_S.rf
  have hl := lv_entry ([.ref (ad p0), .ref (ad p1)]) (n := 3) (Nat.le_of_ble_eq_true rfl)
  rw [lg_entry_eq]
  generalize (lg_sl ([.ref (ad p0), .ref (ad p1)]) ++ List.replicate (3 - (lg_sl ([.ref (ad p0), .ref (ad p1)])).length) Slot.unset).toArray = ls at hl ⊢
  have hl : lv_has ls 3 [(0, .ref (ad p0)), (1, .ref (ad p1))] := hl
  unfold f_X7_statement at h
  refine lv_aload_n hx hb dX7_statement_0 rfl (lv_at hl 0 rfl) ?_
  obtain ⟨q1, hq1, h⟩ := gb_s h
  refine fw_viR (As := []) (rest := []) ⟨hx, hb, hml, hown, hts⟩ (k_X7_here l D cA ad tw hG z p0 (hp0) q1 hq1) (cwV 0 hts gX7_statement_X7_here rfl rfl rfl hdV_X7_here ⟨Nat.le_of_ble_eq_true rfl, Nat.le_of_ble_eq_true rfl⟩) (fw_preV hp0.1.1 hp0.1.2 rfl rfl hK hZ hP hS) rfl hl _ rfl (Nat.le_of_ble_eq_true rfl) hS dX7_statement_1 ⟨Nat.zero_le _, Nat.zero_le _⟩ (fun H locs hP hS => ?_)
  refine lv_istore_n (lv' := [(2, .int q1), (0, .ref (ad p0)), (1, .ref (ad p1))]) hx hb dX7_statement_4 rfl hl (by decide) rfl (fun ls hl => ?_)
  refine lv_iload_n hx hb dX7_statement_5 rfl (lv_at hl 0 rfl) ?_
  refine lv_bipush (v := (nI 43)) hx hb dX7_statement_6 (by decide) ?_
  refine lv_icmp_eq (tgt := 17) hx hb dX7_statement_8 (by decide) (fun c2 => ?_) (fun c2 => ?_)
  · replace h := gif_t h c2
    refine lv_aload_n hx hb dX7_statement_17 rfl (lv_at hl 1 rfl) ?_
    refine lv_aload_n hx hb dX7_statement_18 rfl (lv_at hl 2 rfl) ?_
    refine lv_iload_n hx hb dX7_statement_19 rfl (lv_at hl 0 rfl) ?_
    refine lv_bipush (v := (nI 43)) hx hb dX7_statement_20 (by decide) ?_
    refine lv_icmp_ne (tgt := 29) hx hb dX7_statement_22 (by decide) (fun c3 => ?_) (fun c3 => ?_)
    · replace h := gif_f h c3
      refine lv_iconst (v := (nI 0)) hx hb dX7_statement_29 (by decide) ?_
      obtain ⟨q4, hq4, h⟩ := gb_s h
      refine fw_vi (As := [.ref (ad p1), .int (nI 0)]) (rest := []) ⟨hx, hb, hml, hown, hts⟩ (k_X7_correction l D cA ad tw hG z p0 (hp0) p1 (hp1) (nI 0) q4 hq4) (cwV 2 hts gX7_statement_X7_correction rfl rfl rfl hdV_X7_correction ⟨Nat.le_of_ble_eq_true rfl, Nat.le_of_ble_eq_true rfl⟩) (fw_preV hp0.1.1 hp0.1.2 rfl rfl hK hZ hP hS) rfl hl _ rfl (Nat.le_of_ble_eq_true rfl) hS dX7_statement_30 ⟨Nat.zero_le _, Nat.zero_le _⟩ (fun H locs hP hS => ?_)
      refine lv_goto (tgt := 41) hx hb dX7_statement_33 (by decide) ?_
      obtain ⟨h5, h⟩ := gz_s h
      exact fw_iretz hx hb hr hlocks h5 (Option.some.inj h) hK hZ hP hS dX7_statement_41
    · replace h := gif_t h c3
      refine lv_iconst (v := (nI 1)) hx hb dX7_statement_25 (by decide) ?_
      refine lv_goto (tgt := 30) hx hb dX7_statement_26 (by decide) ?_
      obtain ⟨q6, hq6, h⟩ := gb_s h
      refine fw_vi (As := [.ref (ad p1), .int (nI 1)]) (rest := []) ⟨hx, hb, hml, hown, hts⟩ (k_X7_correction l D cA ad tw hG z p0 (hp0) p1 (hp1) (nI 1) q6 hq6) (cwV 2 hts gX7_statement_X7_correction rfl rfl rfl hdV_X7_correction ⟨Nat.le_of_ble_eq_true rfl, Nat.le_of_ble_eq_true rfl⟩) (fw_preV hp0.1.1 hp0.1.2 rfl rfl hK hZ hP hS) rfl hl _ rfl (Nat.le_of_ble_eq_true rfl) hS dX7_statement_30 ⟨Nat.zero_le _, Nat.zero_le _⟩ (fun H locs hP hS => ?_)
      refine lv_goto (tgt := 41) hx hb dX7_statement_33 (by decide) ?_
      obtain ⟨h7, h⟩ := gz_s h
      exact fw_iretz hx hb hr hlocks h7 (Option.some.inj h) hK hZ hP hS dX7_statement_41
  · replace h := gif_f h c2
    refine lv_iload_n hx hb dX7_statement_11 rfl (lv_at hl 0 rfl) ?_
    refine lv_bipush (v := (nI 45)) hx hb dX7_statement_12 (by decide) ?_
    refine lv_icmp_ne (tgt := 36) hx hb dX7_statement_14 (by decide) (fun c8 => ?_) (fun c8 => ?_)
    · replace h := gif_f h c8
      refine lv_aload_n hx hb dX7_statement_36 rfl (lv_at hl 1 rfl) ?_
      refine lv_aload_n hx hb dX7_statement_37 rfl (lv_at hl 2 rfl) ?_
      obtain ⟨q9, hq9, h⟩ := gb_s h
      refine fw_vi (As := [.ref (ad p1)]) (rest := []) ⟨hx, hb, hml, hown, hts⟩ (k_X7_burial l D cA ad tw hG z p0 (hp0) p1 (hp1) q9 hq9) (cwV 1 hts gX7_statement_X7_burial rfl rfl rfl hdV_X7_burial ⟨Nat.le_of_ble_eq_true rfl, Nat.le_of_ble_eq_true rfl⟩) (fw_preV hp0.1.1 hp0.1.2 rfl rfl hK hZ hP hS) rfl hl _ rfl (Nat.le_of_ble_eq_true rfl) hS dX7_statement_38 ⟨Nat.zero_le _, Nat.zero_le _⟩ (fun H locs hP hS => ?_)
      obtain ⟨h10, h⟩ := gz_s h
      exact fw_iretz hx hb hr hlocks h10 (Option.some.inj h) hK hZ hP hS dX7_statement_41
    · replace h := gif_t h c8
      refine lv_aload_n hx hb dX7_statement_17 rfl (lv_at hl 1 rfl) ?_
      refine lv_aload_n hx hb dX7_statement_18 rfl (lv_at hl 2 rfl) ?_
      refine lv_iload_n hx hb dX7_statement_19 rfl (lv_at hl 0 rfl) ?_
      refine lv_bipush (v := (nI 43)) hx hb dX7_statement_20 (by decide) ?_
      refine lv_icmp_ne (tgt := 29) hx hb dX7_statement_22 (by decide) (fun c11 => ?_) (fun c11 => ?_)
      · replace h := gif_f h c11
        refine lv_iconst (v := (nI 0)) hx hb dX7_statement_29 (by decide) ?_
        obtain ⟨q12, hq12, h⟩ := gb_s h
        refine fw_vi (As := [.ref (ad p1), .int (nI 0)]) (rest := []) ⟨hx, hb, hml, hown, hts⟩ (k_X7_correction l D cA ad tw hG z p0 (hp0) p1 (hp1) (nI 0) q12 hq12) (cwV 2 hts gX7_statement_X7_correction rfl rfl rfl hdV_X7_correction ⟨Nat.le_of_ble_eq_true rfl, Nat.le_of_ble_eq_true rfl⟩) (fw_preV hp0.1.1 hp0.1.2 rfl rfl hK hZ hP hS) rfl hl _ rfl (Nat.le_of_ble_eq_true rfl) hS dX7_statement_30 ⟨Nat.zero_le _, Nat.zero_le _⟩ (fun H locs hP hS => ?_)
        refine lv_goto (tgt := 41) hx hb dX7_statement_33 (by decide) ?_
        obtain ⟨h13, h⟩ := gz_s h
        exact fw_iretz hx hb hr hlocks h13 (Option.some.inj h) hK hZ hP hS dX7_statement_41
      · replace h := gif_t h c11
        refine lv_iconst (v := (nI 1)) hx hb dX7_statement_25 (by decide) ?_
        refine lv_goto (tgt := 30) hx hb dX7_statement_26 (by decide) ?_
        obtain ⟨q14, hq14, h⟩ := gb_s h
        refine fw_vi (As := [.ref (ad p1), .int (nI 1)]) (rest := []) ⟨hx, hb, hml, hown, hts⟩ (k_X7_correction l D cA ad tw hG z p0 (hp0) p1 (hp1) (nI 1) q14 hq14) (cwV 2 hts gX7_statement_X7_correction rfl rfl rfl hdV_X7_correction ⟨Nat.le_of_ble_eq_true rfl, Nat.le_of_ble_eq_true rfl⟩) (fw_preV hp0.1.1 hp0.1.2 rfl rfl hK hZ hP hS) rfl hl _ rfl (Nat.le_of_ble_eq_true rfl) hS dX7_statement_30 ⟨Nat.zero_le _, Nat.zero_le _⟩ (fun H locs hP hS => ?_)
        refine lv_goto (tgt := 41) hx hb dX7_statement_33 (by decide) ?_
        obtain ⟨h15, h⟩ := gz_s h
        exact fw_iretz hx hb hr hlocks h15 (Option.some.inj h) hK hZ hP hS dX7_statement_41
theorem in_X7_statements_X7 : ∀ w ∈ wsX70, w ∈ wsX7_statements := fun w h => List.mem_cons_of_mem _ (List.mem_append_left _ (List.mem_append_right _ (h)))
theorem hdV_X7_statements : yX7_statements.cls = RX7 ∧ yX7_statements.cls ≠ "java/lang/invoke/MethodHandle" ∧ yX7_statements.cls ≠ "java/lang/invoke/VarHandle" ∧ (parseMethodDescriptor yX7_statements.desc).map (fun d => d.parameters.length) = some 1 := by decide +kernel
set_option maxHeartbeats 4000000 in
set_option maxRecDepth 100000 in
theorem k_X7_statements (l : Launch) (D : va_G) (cA : Nat → ClassId) (ad : Nat → Nat) (tw : Nat) (hG : gOk ad 315) (z : gS) (p0 : Nat) (hp0 : gC7 p0) (p1 : Nat) (hp1 : gC5 p1) (res : Int32 × gS) (h : f_X7_statements p0 p1 z = some res) : gMi l yX7_statements wsX7_statements (gRm 4 90) D cA ad tw shX 315 [.ref (ad p0), .ref (ad p1)] z res := by
  refine Met.ofW (cc := cX7_statements) (maxL := 5) (ret := (some .int)) (by decide) rfl ?_
  intro p e s m args below meth c s₁ B hml hv
  obtain ⟨rfl, hP, hK, hZ⟩ := hv
  have hx := B.exec
  have hb := B.bytes
  have hr := B.returns
  have hts := atoms_spec (ws := wsX7_statements) B.pre
  have hown : s.vm.findClass RX7 = some m.cls := findClass_of_methodNamed B.named
  have hlocks := B.notSynchronized
  have hS : va_S (gA ad 315) s.heap s.heap [] := va_S.rf
  have hl := lv_entry ([.ref (ad p0), .ref (ad p1)]) (n := 5) (Nat.le_of_ble_eq_true rfl)
  rw [lg_entry_eq]
  generalize (lg_sl ([.ref (ad p0), .ref (ad p1)]) ++ List.replicate (5 - (lg_sl ([.ref (ad p0), .ref (ad p1)])).length) Slot.unset).toArray = ls at hl ⊢
  have hl : lv_has ls 5 [(0, .ref (ad p0)), (1, .ref (ad p1))] := hl
  have j46 : ∀ (x2 : Int32) (x3 : Int32) (K9 : Int32 → Int32 → gS → Option (Int32 × gS)) (hK9 : ∀ (x2' : Int32) (x3' : Int32) (z' : gS) (H : Heap) (locs : List Loc) (ls : Array Slot), K9 x2' x3' z' = some res → va_P D vwCl (gw cA ad shX 315 z') H → va_S (gA ad 315) s.heap H locs → lv_has ls 5 [(0, .ref (ad p0)), (1, .ref (ad p1)), (2, .int x2'), (3, .int x3')] → W p l e (headSpec wsX7_statements (gRm 4 90)).room s m ([.ref (ad p0), .ref (ad p1)] : List Value).toArray below meth c H locs 0 0 (MQ below (va_Qi (fun r u => (r, u) = res) (gPr D cA ad tw shX 315) (gA ad 315)) ([.ref (ad p0), .ref (ad p1)] : List Value).toArray s 0 0 (gA ad 315)) (F0 m 9 ls [])) (z : gS) (H : Heap) (locs : List Loc) (ls : Array Slot), f_X7_statements_46 p0 p1 x2 x3 K9 z = some res → va_P D vwCl (gw cA ad shX 315 z) H → va_S (gA ad 315) s.heap H locs → lv_has ls 5 [(0, .ref (ad p0)), (1, .ref (ad p1)), (2, .int x2), (3, .int x3)] → W p l e (headSpec wsX7_statements (gRm 4 90)).room s m ([.ref (ad p0), .ref (ad p1)] : List Value).toArray below meth c H locs 0 0 (MQ below (va_Qi (fun r u => (r, u) = res) (gPr D cA ad tw shX 315) (gA ad 315)) ([.ref (ad p0), .ref (ad p1)] : List Value).toArray s 0 0 (gA ad 315)) (F0 m 46 ls []) := by
    intro x2 x3 K9 hK9 z H locs ls h hP hS hl
    unfold f_X7_statements_46 at h
    refine lv_aload_n hx hb dX7_statements_46 rfl (lv_at hl 0 rfl) ?_
    refine fw_geti hx hb hts in_X7_statements_X7 hown hK hP hp0.1.1 hp0.1.2 rfl 2 (by decide) rfl (hts _ (List.mem_of_getElem? (i := 1) rfl)) rfl dX7_statements_47 ?_
    refine lv_aload_n hx hb dX7_statements_50 rfl (lv_at hl 0 rfl) ?_
    refine fw_geti hx hb hts in_X7_statements_X7 hown hK hP hp0.1.1 hp0.1.2 rfl 1 (by decide) rfl (hts _ (List.mem_of_getElem? (i := 3) rfl)) rfl dX7_statements_51 ?_
    refine lv_icmp_lt (tgt := 71) hx hb dX7_statements_54 (by decide) (fun c8 => ?_) (fun c8 => ?_)
    · replace h := gif_t h c8
      refine lv_aload_n hx hb dX7_statements_71 rfl (lv_at hl 0 rfl) ?_
      obtain ⟨q9, hq9, h⟩ := gb_s h
      refine fw_viR (As := []) (rest := []) ⟨hx, hb, hml, hown, hts⟩ (k_X7_here l D cA ad tw hG z p0 (hp0) q9 hq9) (cwV 0 hts gX7_statements_X7_here rfl rfl rfl hdV_X7_here ⟨Nat.le_of_ble_eq_true rfl, Nat.le_of_ble_eq_true rfl⟩) (fw_preV hp0.1.1 hp0.1.2 rfl rfl hK hZ hP hS) rfl hl _ rfl (Nat.le_of_ble_eq_true rfl) hS dX7_statements_72 ⟨Nat.zero_le _, Nat.zero_le _⟩ (fun H locs hP hS => ?_)
      refine lv_bipush (v := (nI 59)) hx hb dX7_statements_75 (by decide) ?_
      refine lv_icmp_eq (tgt := 83) hx hb dX7_statements_77 (by decide) (fun c10 => ?_) (fun c10 => ?_)
      · replace h := gif_t h c10
        refine lv_aload_n hx hb dX7_statements_83 rfl (lv_at hl 0 rfl) ?_
        refine lv_dup hx hb dX7_statements_84 rfl ?_
        refine fw_geti hx hb hts in_X7_statements_X7 hown hK hP hp0.1.1 hp0.1.2 rfl 2 (by decide) rfl (hts _ (List.mem_of_getElem? (i := 1) rfl)) rfl dX7_statements_85 ?_
        refine lv_iconst (v := (nI 1)) hx hb dX7_statements_88 (by decide) ?_
        refine lv_iadd hx hb dX7_statements_89 ?_
        refine fw_put hx hb hts in_X7_statements_X7 tyX7_ok nmX7 hown hK hG hP hS hp0.1.1 hp0.1.2 rfl 2 (by decide) rfl (hts _ (List.mem_of_getElem? (i := 1) rfl)) rfl rfl (ty := .int) rfl rfl rfl dX7_statements_90 (fun z11 H locs ez11 hP hS => ?_)
        replace h := gl_s h ez11
        refine lv_iinc (v := x3 + (nI 1)) (lv' := [(3, .int (x3 + (nI 1))), (0, .ref (ad p0)), (1, .ref (ad p1)), (2, .int x2)]) hx hb dX7_statements_93 hl (k := 3) rfl rfl (by decide) rfl (fun ls hl => ?_)
        refine lv_goto (tgt := 9) hx hb dX7_statements_96 (by decide) ?_
        exact hK9 x2 (x3 + (nI 1)) z11 _ _ ls h hP hS (lv_sub hl [1, 2, 3, 0] rfl)
      · replace h := gif_f h c10
        refine lv_goto (tgt := 99) hx hb dX7_statements_80 (by decide) ?_
        refine lv_bipush (v := (-100)) hx hb dX7_statements_99 (by decide) ?_
        refine lv_aload_n hx hb dX7_statements_101 rfl (lv_at hl 0 rfl) ?_
        refine fw_geti hx hb hts in_X7_statements_X7 hown hK hP hp0.1.1 hp0.1.2 rfl 2 (by decide) rfl (hts _ (List.mem_of_getElem? (i := 1) rfl)) rfl dX7_statements_102 ?_
        refine lv_isub hx hb dX7_statements_105 ?_
        exact fw_ireti hx hb hr hlocks (Option.some.inj h) hK hZ hP hS dX7_statements_106
    · replace h := gif_f h c8
      refine lv_iload_n hx hb dX7_statements_57 rfl (lv_at hl 2 rfl) ?_
      refine lv_if_ge (tgt := 65) hx hb dX7_statements_58 (by decide) (fun c12 => ?_) (fun c12 => ?_)
      · replace h := gif_t h c12
        refine lv_sipush (v := (-300)) hx hb dX7_statements_65 (by decide) ?_
        refine lv_iload_n hx hb dX7_statements_68 rfl (lv_at hl 2 rfl) ?_
        refine lv_isub hx hb dX7_statements_69 ?_
        exact fw_ireti hx hb hr hlocks (Option.some.inj h) hK hZ hP hS dX7_statements_70
      · replace h := gif_f h c12
        refine lv_iload_n hx hb dX7_statements_61 rfl (lv_at hl 3 rfl) ?_
        refine lv_goto (tgt := 70) hx hb dX7_statements_62 (by decide) ?_
        exact fw_ireti hx hb hr hlocks (Option.some.inj h) hK hZ hP hS dX7_statements_70
  have j9 : ∀  (n : Nat) (x2 : Int32) (x3 : Int32) (z : gS) (H : Heap) (locs : List Loc) (ls : Array Slot), f_X7_statements_9 p0 p1 n x2 x3 z = some res → va_P D vwCl (gw cA ad shX 315 z) H → va_S (gA ad 315) s.heap H locs → lv_has ls 5 [(0, .ref (ad p0)), (1, .ref (ad p1)), (2, .int x2), (3, .int x3)] → W p l e (headSpec wsX7_statements (gRm 4 90)).room s m ([.ref (ad p0), .ref (ad p1)] : List Value).toArray below meth c H locs 0 0 (MQ below (va_Qi (fun r u => (r, u) = res) (gPr D cA ad tw shX 315) (gA ad 315)) ([.ref (ad p0), .ref (ad p1)] : List Value).toArray s 0 0 (gA ad 315)) (F0 m 9 ls []) := by
    intro n
    induction n with
    | zero => intro x2 x3 z H locs ls h; exact (gno h).elim
    | succ n hK9 =>
      intro x2 x3 z H locs ls h hP hS hl
      replace h : f_X7_statements_9_b p0 p1 (f_X7_statements_9 p0 p1 n) x2 x3 z = some res := h
      unfold f_X7_statements_9_b at h
      refine lv_iload_n hx hb dX7_statements_9 rfl (lv_at hl 3 rfl) ?_
      refine lv_bipush (v := (nI 100)) hx hb dX7_statements_10 (by decide) ?_
      refine lv_icmp_gt (tgt := 99) hx hb dX7_statements_12 (by decide) (fun c2 => ?_) (fun c2 => ?_)
      · replace h := gif_t h c2
        refine lv_bipush (v := (-100)) hx hb dX7_statements_99 (by decide) ?_
        refine lv_aload_n hx hb dX7_statements_101 rfl (lv_at hl 0 rfl) ?_
        refine fw_geti hx hb hts in_X7_statements_X7 hown hK hP hp0.1.1 hp0.1.2 rfl 2 (by decide) rfl (hts _ (List.mem_of_getElem? (i := 1) rfl)) rfl dX7_statements_102 ?_
        refine lv_isub hx hb dX7_statements_105 ?_
        exact fw_ireti hx hb hr hlocks (Option.some.inj h) hK hZ hP hS dX7_statements_106
      · replace h := gif_f h c2
        refine lv_aload_n hx hb dX7_statements_15 rfl (lv_at hl 0 rfl) ?_
        refine fw_geti hx hb hts in_X7_statements_X7 hown hK hP hp0.1.1 hp0.1.2 rfl 2 (by decide) rfl (hts _ (List.mem_of_getElem? (i := 1) rfl)) rfl dX7_statements_16 ?_
        refine lv_topi (fun y3 ey3 => ?_)
        replace h := gl_s h ey3
        refine lv_istore (lv' := [(4, .int y3), (0, .ref (ad p0)), (1, .ref (ad p1)), (2, .int x2), (3, .int x3)]) hx hb dX7_statements_19 hl (by decide) rfl (fun ls hl => ?_)
        refine lv_aload_n hx hb dX7_statements_21 rfl (lv_at hl 1 rfl) ?_
        refine lv_aload_n hx hb dX7_statements_22 rfl (lv_at hl 2 rfl) ?_
        obtain ⟨q4, hq4, h⟩ := gb_s h
        refine fw_vi (As := [.ref (ad p1)]) (rest := []) ⟨hx, hb, hml, hown, hts⟩ (k_X7_statement l D cA ad tw hG z p0 (hp0) p1 (hp1) q4 hq4) (cwV 1 hts gX7_statements_X7_statement rfl rfl rfl hdV_X7_statement ⟨Nat.le_of_ble_eq_true rfl, Nat.le_of_ble_eq_true rfl⟩) (fw_preV hp0.1.1 hp0.1.2 rfl rfl hK hZ hP hS) rfl hl _ rfl (Nat.le_of_ble_eq_true rfl) hS dX7_statements_23 ⟨Nat.zero_le _, Nat.zero_le _⟩ (fun H locs hP hS => ?_)
        refine lv_if_ne (tgt := 32) hx hb dX7_statements_26 (by decide) (fun c5 => ?_) (fun c5 => ?_)
        · replace h := gif_f h c5
          refine lv_aload_n hx hb dX7_statements_32 rfl (lv_at hl 1 rfl) ?_
          refine fw_geti hx hb hts in_X7_statements_X7 hown hK hP hp0.1.1 hp0.1.2 rfl 5 (by decide) rfl (hts _ (List.mem_of_getElem? (i := 2) rfl)) rfl dX7_statements_33 ?_
          refine lv_if_ne (tgt := 46) hx hb dX7_statements_36 (by decide) (fun c6 => ?_) (fun c6 => ?_)
          · replace h := gif_f h c6
            exact j46 x2 x3 _ hK9 q4.2 _ _ ls h hP hS (lv_sub hl [1, 2, 3, 4] rfl)
          · replace h := gif_t h c6
            refine lv_iload_n hx hb dX7_statements_39 rfl (lv_at hl 3 rfl) ?_
            refine lv_if_ge (tgt := 46) hx hb dX7_statements_40 (by decide) (fun c7 => ?_) (fun c7 => ?_)
            · replace h := gif_t h c7
              exact j46 x2 x3 _ hK9 q4.2 _ _ ls h hP hS (lv_sub hl [1, 2, 3, 4] rfl)
            · replace h := gif_f h c7
              refine lv_iload hx hb dX7_statements_43 (lv_at hl 0 rfl) ?_
              refine lv_istore_n (lv' := [(2, .int y3), (4, .int y3), (0, .ref (ad p0)), (1, .ref (ad p1)), (3, .int x3)]) hx hb dX7_statements_45 rfl hl (by decide) rfl (fun ls hl => ?_)
              exact j46 y3 x3 _ hK9 q4.2 _ _ ls h hP hS (lv_sub hl [2, 3, 0, 4] rfl)
        · replace h := gif_t h c5
          refine lv_goto (tgt := 99) hx hb dX7_statements_29 (by decide) ?_
          refine lv_bipush (v := (-100)) hx hb dX7_statements_99 (by decide) ?_
          refine lv_aload_n hx hb dX7_statements_101 rfl (lv_at hl 1 rfl) ?_
          refine fw_geti hx hb hts in_X7_statements_X7 hown hK hP hp0.1.1 hp0.1.2 rfl 2 (by decide) rfl (hts _ (List.mem_of_getElem? (i := 1) rfl)) rfl dX7_statements_102 ?_
          refine lv_isub hx hb dX7_statements_105 ?_
          exact fw_ireti hx hb hr hlocks (Option.some.inj h) hK hZ hP hS dX7_statements_106
  unfold f_X7_statements at h
  refine lv_iconst (v := gm1) hx hb dX7_statements_0 (by decide) ?_
  refine lv_istore_n (lv' := [(2, .int gm1), (0, .ref (ad p0)), (1, .ref (ad p1))]) hx hb dX7_statements_1 rfl hl (by decide) rfl (fun ls hl => ?_)
  refine lv_aload_n hx hb dX7_statements_2 rfl (lv_at hl 1 rfl) ?_
  refine lv_iconst (v := (nI 0)) hx hb dX7_statements_3 (by decide) ?_
  refine fw_put hx hb hts in_X7_statements_X7 tyX7_ok nmX7 hown hK hG hP hS hp0.1.1 hp0.1.2 rfl 2 (by decide) rfl (hts _ (List.mem_of_getElem? (i := 1) rfl)) rfl rfl (ty := .int) rfl rfl rfl dX7_statements_4 (fun z1 H locs ez1 hP hS => ?_)
  replace h := gl_s h ez1
  refine lv_iconst (v := (nI 1)) hx hb dX7_statements_7 (by decide) ?_
  refine lv_istore_n (lv' := [(3, .int (nI 1)), (2, .int gm1), (0, .ref (ad p0)), (1, .ref (ad p1))]) hx hb dX7_statements_8 rfl hl (by decide) rfl (fun ls hl => ?_)
  exact j9  gF gm1 (nI 1) z1 _ _ ls h hP hS (lv_sub hl [2, 3, 1, 0] rfl)
theorem in_X7_tellTo_X7 : ∀ w ∈ wsX70, w ∈ wsX7_tellTo := fun w h => List.mem_cons_of_mem _ (List.mem_append_left _ (List.mem_append_right _ (h)))
theorem hdV_X7_tellTo : yX7_tellTo.cls = RX7 ∧ yX7_tellTo.cls ≠ "java/lang/invoke/MethodHandle" ∧ yX7_tellTo.cls ≠ "java/lang/invoke/VarHandle" ∧ (parseMethodDescriptor yX7_tellTo.desc).map (fun d => d.parameters.length) = some 1 := by decide +kernel
set_option maxHeartbeats 4000000 in
set_option maxRecDepth 100000 in
theorem k_X7_tellTo (l : Launch) (D : va_G) (cA : Nat → ClassId) (ad : Nat → Nat) (tw : Nat) (hG : gOk ad 315) (z : gS) (p0 : Nat) (hp0 : gC7 p0) (p1 : Nat) (hp1 : gC5 p1) (res : Int32 × gS) (h : f_X7_tellTo p0 p1 z = some res) : gMi l yX7_tellTo wsX7_tellTo (gRm 5 114) D cA ad tw shX 315 [.ref (ad p0), .ref (ad p1)] z res := by
  refine Met.ofW (cc := cX7_tellTo) (maxL := 3) (ret := (some .int)) (by decide) rfl ?_
  intro p e s m args below meth c s₁ B hml hv
  obtain ⟨rfl, hP, hK, hZ⟩ := hv
  have hx := B.exec
  have hb := B.bytes
  have hr := B.returns
  have hts := atoms_spec (ws := wsX7_tellTo) B.pre
  have hown : s.vm.findClass RX7 = some m.cls := findClass_of_methodNamed B.named
  have hlocks := B.notSynchronized
  have hS : va_S (gA ad 315) s.heap s.heap [] := va_S.rf
  have hl := lv_entry ([.ref (ad p0), .ref (ad p1)]) (n := 3) (Nat.le_of_ble_eq_true rfl)
  rw [lg_entry_eq]
  generalize (lg_sl ([.ref (ad p0), .ref (ad p1)]) ++ List.replicate (3 - (lg_sl ([.ref (ad p0), .ref (ad p1)])).length) Slot.unset).toArray = ls at hl ⊢
  have hl : lv_has ls 3 [(0, .ref (ad p0)), (1, .ref (ad p1))] := hl
  unfold f_X7_tellTo at h
  refine lv_aload_n hx hb dX7_tellTo_0 rfl (lv_at hl 0 rfl) ?_
  refine lv_aload_n hx hb dX7_tellTo_1 rfl (lv_at hl 1 rfl) ?_
  obtain ⟨q1, hq1, h⟩ := gb_s h
  refine fw_vi (As := [.ref (ad p1)]) (rest := []) ⟨hx, hb, hml, hown, hts⟩ (k_X7_statements l D cA ad tw hG z p0 (hp0) p1 (hp1) q1 hq1) (cwV 1 hts gX7_tellTo_X7_statements rfl rfl rfl hdV_X7_statements ⟨Nat.le_of_ble_eq_true rfl, Nat.le_of_ble_eq_true rfl⟩) (fw_preV hp0.1.1 hp0.1.2 rfl rfl hK hZ hP hS) rfl hl _ rfl (Nat.le_of_ble_eq_true rfl) hS dX7_tellTo_2 ⟨Nat.zero_le _, Nat.zero_le _⟩ (fun H locs hP hS => ?_)
  refine lv_istore_n (lv' := [(2, .int q1.1), (0, .ref (ad p0)), (1, .ref (ad p1))]) hx hb dX7_tellTo_5 rfl hl (by decide) rfl (fun ls hl => ?_)
  refine lv_aload_n hx hb dX7_tellTo_6 rfl (lv_at hl 1 rfl) ?_
  refine lv_iconst (v := (nI 0)) hx hb dX7_tellTo_7 (by decide) ?_
  refine fw_put hx hb hts in_X7_tellTo_X7 tyX7_ok nmX7 hown hK hG hP hS hp0.1.1 hp0.1.2 rfl 1 (by decide) rfl (hts _ (List.mem_of_getElem? (i := 1) rfl)) rfl rfl (ty := .int) rfl rfl rfl dX7_tellTo_8 (fun z2 H locs ez2 hP hS => ?_)
  replace h := gl_s h ez2
  refine lv_iload_n hx hb dX7_tellTo_11 rfl (lv_at hl 0 rfl) ?_
  exact fw_ireti hx hb hr hlocks (Option.some.inj h) hK hZ hP hS dX7_tellTo_12
