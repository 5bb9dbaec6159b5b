theorem in_X5_everybody_X5 : ∀ w ∈ wsX50, w ∈ wsX5_everybody := fun w h => List.mem_cons_of_mem _ (List.mem_append_right _ (h))
theorem hdV_X5_everybody : yX5_everybody.cls = RX5 ∧ yX5_everybody.cls ≠ "java/lang/invoke/MethodHandle" ∧ yX5_everybody.cls ≠ "java/lang/invoke/VarHandle" ∧ (parseMethodDescriptor yX5_everybody.desc).map (fun d => d.parameters.length) = some 0 := by decide +kernel
set_option maxHeartbeats 4000000 in
set_option maxRecDepth 100000 in
theorem k_X5_everybody (l : Launch) (D : va_G) (cA : Nat → ClassId) (ad : Nat → Nat) (tw : Nat) (hG : gOk ad 315) (z : gS) (p0 : Nat) (hp0 : gC5 p0) (res : Int32) (h : f_X5_everybody p0 z = some res) : gMi l yX5_everybody wsX5_everybody (gRm 0 0) D cA ad tw shX 315 [.ref (ad p0)] z (res, z) := by
  refine Met.ofW (cc := cX5_everybody) (maxL := 1) (ret := (some .int)) (by decide) rfl ?_
  intro p e s m args below meth c s₁ B hml hv
  obtain ⟨rfl, hP, hK, hZ⟩ := hv
  have hx := B.exec
  have hb := B.bytes
  have hr := B.returns
  have hts := atoms_spec (ws := wsX5_everybody) B.pre
  have hown : s.vm.findClass RX5 = some m.cls := findClass_of_methodNamed B.named
  have hlocks := B.notSynchronized
  have hS : va_S (gA ad 315) s.heap s.heap [] := va_S.rf
  have hl := lv_entry ([.ref (ad p0)]) (n := 1) (Nat.le_of_ble_eq_true rfl)
  rw [lg_entry_eq]
  generalize (lg_sl ([.ref (ad p0)]) ++ List.replicate (1 - (lg_sl ([.ref (ad p0)])).length) Slot.unset).toArray = ls at hl ⊢
  have hl : lv_has ls 1 [(0, .ref (ad p0))] := hl
  unfold f_X5_everybody at h
  refine lv_iconst (v := (nI 1)) hx hb dX5_everybody_0 (by decide) ?_
  refine lv_aload_n hx hb dX5_everybody_1 rfl (lv_at hl 0 rfl) ?_
  refine fw_geti hx hb hts in_X5_everybody_X5 hown hK hP hp0.1.1 hp0.1.2 rfl 0 (by decide) rfl (hts _ (List.mem_of_getElem? (i := 1) rfl)) rfl dX5_everybody_2 ?_
  refine lv_ishl hx hb dX5_everybody_5 ?_
  refine lv_iconst (v := (nI 1)) hx hb dX5_everybody_6 (by decide) ?_
  refine lv_isub hx hb dX5_everybody_7 ?_
  exact fw_ireti hx hb hr hlocks (congrArg (fun q => (q, z)) (Option.some.inj h)) hK hZ hP hS dX5_everybody_8
theorem in_X5_holds_X5 : ∀ w ∈ wsX50, w ∈ wsX5_holds := fun w h => List.mem_cons_of_mem _ (List.mem_append_right _ (h))
theorem hdV_X5_holds : yX5_holds.cls = RX5 ∧ yX5_holds.cls ≠ "java/lang/invoke/MethodHandle" ∧ yX5_holds.cls ≠ "java/lang/invoke/VarHandle" ∧ (parseMethodDescriptor yX5_holds.desc).map (fun d => d.parameters.length) = some 1 := by decide +kernel
set_option maxHeartbeats 4000000 in
set_option maxRecDepth 100000 in
theorem k_X5_holds (l : Launch) (D : va_G) (cA : Nat → ClassId) (ad : Nat → Nat) (tw : Nat) (hG : gOk ad 315) (z : gS) (p0 : Nat) (hp0 : gC5 p0) (a1 : Int32) (res : Int32) (h : f_X5_holds p0 a1 z = some res) : gMi l yX5_holds wsX5_holds (gRm 0 0) D cA ad tw shX 315 [.ref (ad p0), .int a1] z (res, z) := by
  refine Met.ofW (cc := cX5_holds) (maxL := 2) (ret := (some .boolean)) (by decide) rfl ?_
  intro p e s m args below meth c s₁ B hml hv
  obtain ⟨rfl, hP, hK, hZ⟩ := hv
  have hx := B.exec
  have hb := B.bytes
  have hr := B.returns
  have hts := atoms_spec (ws := wsX5_holds) B.pre
  have hown : s.vm.findClass RX5 = some m.cls := findClass_of_methodNamed B.named
  have hlocks := B.notSynchronized
  have hS : va_S (gA ad 315) s.heap s.heap [] := va_S.rf
  have hl := lv_entry ([.ref (ad p0), .int a1]) (n := 2) (Nat.le_of_ble_eq_true rfl)
  rw [lg_entry_eq]
  generalize (lg_sl ([.ref (ad p0), .int a1]) ++ List.replicate (2 - (lg_sl ([.ref (ad p0), .int a1])).length) Slot.unset).toArray = ls at hl ⊢
  have hl : lv_has ls 2 [(0, .ref (ad p0)), (1, .int a1)] := hl
  unfold f_X5_holds at h
  refine lv_iload_n hx hb dX5_holds_0 rfl (lv_at hl 1 rfl) ?_
  refine lv_if_lt (tgt := 16) hx hb dX5_holds_1 (by decide) (fun c1 => ?_) (fun c1 => ?_)
  · replace h := gif_t h c1
    refine lv_iconst (v := (nI 0)) hx hb dX5_holds_16 (by decide) ?_
    exact fw_iretz hx hb hr hlocks (by decide) (congrArg (fun q => (q, z)) (Option.some.inj h)) hK hZ hP hS dX5_holds_17
  · replace h := gif_f h c1
    refine lv_iload_n hx hb dX5_holds_4 rfl (lv_at hl 1 rfl) ?_
    refine lv_aload_n hx hb dX5_holds_5 rfl (lv_at hl 0 rfl) ?_
    refine fw_geti hx hb hts in_X5_holds_X5 hown hK hP hp0.1.1 hp0.1.2 rfl 0 (by decide) rfl (hts _ (List.mem_of_getElem? (i := 1) rfl)) rfl dX5_holds_6 ?_
    refine lv_icmp_ge (tgt := 16) hx hb dX5_holds_9 (by decide) (fun c2 => ?_) (fun c2 => ?_)
    · replace h := gif_t h c2
      refine lv_iconst (v := (nI 0)) hx hb dX5_holds_16 (by decide) ?_
      exact fw_iretz hx hb hr hlocks (by decide) (congrArg (fun q => (q, z)) (Option.some.inj h)) hK hZ hP hS dX5_holds_17
    · replace h := gif_f h c2
      refine lv_iconst (v := (nI 1)) hx hb dX5_holds_12 (by decide) ?_
      refine lv_goto (tgt := 17) hx hb dX5_holds_13 (by decide) ?_
      exact fw_iretz hx hb hr hlocks (by decide) (congrArg (fun q => (q, z)) (Option.some.inj h)) hK hZ hP hS dX5_holds_17
theorem hdS_J6_bitCount_0f7a4 : yJ6_bitCount_0f7a4.cls ≠ "java/lang/invoke/MethodHandle" ∧ yJ6_bitCount_0f7a4.cls ≠ "java/lang/invoke/VarHandle" ∧ (parseMethodDescriptor yJ6_bitCount_0f7a4.desc).map (fun d => d.parameters.length) = some 1 := by decide +kernel
set_option maxHeartbeats 4000000 in
set_option maxRecDepth 100000 in
theorem k_J6_bitCount_0f7a4 (l : Launch) (D : va_G) (cA : Nat → ClassId) (ad : Nat → Nat) (tw : Nat) (hG : gOk ad 315) (z : gS) (a0 : Int32) (res : Int32) (h : f_J6_bitCount_0f7a4 a0 z = some res) : gMi l yJ6_bitCount_0f7a4 wsJ6_bitCount_0f7a4 (gRm 0 0) D cA ad tw shX 315 [.int a0] z (res, z) := by
  refine Met.ofW (cc := cJ6_bitCount_0f7a4) (maxL := 1) (ret := (some .int)) (by decide) rfl ?_
  intro p e s m args below meth c s₁ B hml hv
  obtain ⟨rfl, hP, hK, hZ⟩ := hv
  have hx := B.exec
  have hb := B.bytes
  have hr := B.returns
  have hts := atoms_spec (ws := wsJ6_bitCount_0f7a4) B.pre
  have hown : s.vm.findClass RJ6 = some m.cls := findClass_of_methodNamed B.named
  have hlocks := B.notSynchronized
  have hS : va_S (gA ad 315) s.heap s.heap [] := va_S.rf
  have hl := lv_entry ([.int a0]) (n := 1) (Nat.le_of_ble_eq_true rfl)
  rw [lg_entry_eq]
  generalize (lg_sl ([.int a0]) ++ List.replicate (1 - (lg_sl ([.int a0])).length) Slot.unset).toArray = ls at hl ⊢
  have hl : lv_has ls 1 [(0, .int a0)] := hl
  unfold f_J6_bitCount_0f7a4 at h
  refine lv_iload_n hx hb dJ6_bitCount_0f7a4_0 rfl (lv_at hl 0 rfl) ?_
  refine lv_iload_n hx hb dJ6_bitCount_0f7a4_1 rfl (lv_at hl 0 rfl) ?_
  refine lv_iconst (v := (nI 1)) hx hb dJ6_bitCount_0f7a4_2 (by decide) ?_
  refine lv_iushr (v := (a0.toUInt32 >>> ((nI 1).toUInt32 &&& Int32.toUInt32 31)).toInt32) hx hb dJ6_bitCount_0f7a4_3 rfl ?_
  refine lv_ldcw (v := (1431655765 : Int32)) hx hb hown (hts _ (List.mem_of_getElem? (i := 1) rfl)) dJ6_bitCount_0f7a4_4 ?_
  refine lv_iand hx hb dJ6_bitCount_0f7a4_7 ?_
  refine lv_isub hx hb dJ6_bitCount_0f7a4_8 ?_
  refine lv_topi (fun y1 ey1 => ?_)
  replace h := gl_s h ey1
  refine lv_istore_n (lv' := [(0, .int y1)]) hx hb dJ6_bitCount_0f7a4_9 rfl hl (by decide) rfl (fun ls hl => ?_)
  refine lv_iload_n hx hb dJ6_bitCount_0f7a4_10 rfl (lv_at hl 0 rfl) ?_
  refine lv_ldcw (v := (858993459 : Int32)) hx hb hown (hts _ (List.mem_of_getElem? (i := 2) rfl)) dJ6_bitCount_0f7a4_11 ?_
  refine lv_iand hx hb dJ6_bitCount_0f7a4_14 ?_
  refine lv_iload_n hx hb dJ6_bitCount_0f7a4_15 rfl (lv_at hl 0 rfl) ?_
  refine lv_iconst (v := (nI 2)) hx hb dJ6_bitCount_0f7a4_16 (by decide) ?_
  refine lv_iushr (v := (y1.toUInt32 >>> ((nI 2).toUInt32 &&& Int32.toUInt32 31)).toInt32) hx hb dJ6_bitCount_0f7a4_17 rfl ?_
  refine lv_ldcw (v := (858993459 : Int32)) hx hb hown (hts _ (List.mem_of_getElem? (i := 2) rfl)) dJ6_bitCount_0f7a4_18 ?_
  refine lv_iand hx hb dJ6_bitCount_0f7a4_21 ?_
  refine lv_iadd hx hb dJ6_bitCount_0f7a4_22 ?_
  refine lv_topi (fun y2 ey2 => ?_)
  replace h := gl_s h ey2
  refine lv_istore_n (lv' := [(0, .int y2)]) hx hb dJ6_bitCount_0f7a4_23 rfl hl (by decide) rfl (fun ls hl => ?_)
  refine lv_iload_n hx hb dJ6_bitCount_0f7a4_24 rfl (lv_at hl 0 rfl) ?_
  refine lv_iload_n hx hb dJ6_bitCount_0f7a4_25 rfl (lv_at hl 0 rfl) ?_
  refine lv_iconst (v := (nI 4)) hx hb dJ6_bitCount_0f7a4_26 (by decide) ?_
  refine lv_iushr (v := (y2.toUInt32 >>> ((nI 4).toUInt32 &&& Int32.toUInt32 31)).toInt32) hx hb dJ6_bitCount_0f7a4_27 rfl ?_
  refine lv_iadd hx hb dJ6_bitCount_0f7a4_28 ?_
  refine lv_ldcw (v := (252645135 : Int32)) hx hb hown (hts _ (List.mem_of_getElem? (i := 3) rfl)) dJ6_bitCount_0f7a4_29 ?_
  refine lv_iand hx hb dJ6_bitCount_0f7a4_32 ?_
  refine lv_topi (fun y3 ey3 => ?_)
  replace h := gl_s h ey3
  refine lv_istore_n (lv' := [(0, .int y3)]) hx hb dJ6_bitCount_0f7a4_33 rfl hl (by decide) rfl (fun ls hl => ?_)
  refine lv_iload_n hx hb dJ6_bitCount_0f7a4_34 rfl (lv_at hl 0 rfl) ?_
  refine lv_iload_n hx hb dJ6_bitCount_0f7a4_35 rfl (lv_at hl 0 rfl) ?_
  refine lv_bipush (v := (nI 8)) hx hb dJ6_bitCount_0f7a4_36 (by decide) ?_
  refine lv_iushr (v := (y3.toUInt32 >>> ((nI 8).toUInt32 &&& Int32.toUInt32 31)).toInt32) hx hb dJ6_bitCount_0f7a4_38 rfl ?_
  refine lv_iadd hx hb dJ6_bitCount_0f7a4_39 ?_
  refine lv_topi (fun y4 ey4 => ?_)
  replace h := gl_s h ey4
  refine lv_istore_n (lv' := [(0, .int y4)]) hx hb dJ6_bitCount_0f7a4_40 rfl hl (by decide) rfl (fun ls hl => ?_)
  refine lv_iload_n hx hb dJ6_bitCount_0f7a4_41 rfl (lv_at hl 0 rfl) ?_
  refine lv_iload_n hx hb dJ6_bitCount_0f7a4_42 rfl (lv_at hl 0 rfl) ?_
  refine lv_bipush (v := (nI 16)) hx hb dJ6_bitCount_0f7a4_43 (by decide) ?_
  refine lv_iushr (v := (y4.toUInt32 >>> ((nI 16).toUInt32 &&& Int32.toUInt32 31)).toInt32) hx hb dJ6_bitCount_0f7a4_45 rfl ?_
  refine lv_iadd hx hb dJ6_bitCount_0f7a4_46 ?_
  refine lv_topi (fun y5 ey5 => ?_)
  replace h := gl_s h ey5
  refine lv_istore_n (lv' := [(0, .int y5)]) hx hb dJ6_bitCount_0f7a4_47 rfl hl (by decide) rfl (fun ls hl => ?_)
  refine lv_iload_n hx hb dJ6_bitCount_0f7a4_48 rfl (lv_at hl 0 rfl) ?_
  refine lv_bipush (v := (nI 63)) hx hb dJ6_bitCount_0f7a4_49 (by decide) ?_
  refine lv_iand hx hb dJ6_bitCount_0f7a4_51 ?_
  exact fw_ireti hx hb hr hlocks (congrArg (fun q => (q, z)) (Option.some.inj h)) hK hZ hP hS dJ6_bitCount_0f7a4_52
theorem in_X5_common_X5 : ∀ w ∈ wsX50, w ∈ wsX5_common := fun w h => List.mem_cons_of_mem _ (List.mem_append_right _ (h))
theorem hdV_X5_common : yX5_common.cls = RX5 ∧ yX5_common.cls ≠ "java/lang/invoke/MethodHandle" ∧ yX5_common.cls ≠ "java/lang/invoke/VarHandle" ∧ (parseMethodDescriptor yX5_common.desc).map (fun d => d.parameters.length) = some 2 := by decide +kernel
set_option maxHeartbeats 4000000 in
set_option maxRecDepth 100000 in
theorem k_X5_common (l : Launch) (D : va_G) (cA : Nat → ClassId) (ad : Nat → Nat) (tw : Nat) (hG : gOk ad 315) (z : gS) (p0 : Nat) (hp0 : gC5 p0) (a1 : Int32) (a2 : Int32) (res : Int32) (h : f_X5_common p0 a1 a2 z = some res) : gMi l yX5_common wsX5_common (gRm 1 21) D cA ad tw shX 315 [.ref (ad p0), .int a1, .int a2] z (res, z) := by
  refine Met.ofW (cc := cX5_common) (maxL := 3) (ret := (some .int)) (by decide) rfl ?_
  intro p e s m args below meth c s₁ B hml hv
  obtain ⟨rfl, hP, hK, hZ⟩ := hv
  have hx := B.exec
  have hb := B.bytes
  have hr := B.returns
  have hts := atoms_spec (ws := wsX5_common) B.pre
  have hown : s.vm.findClass RX5 = some m.cls := findClass_of_methodNamed B.named
  have hlocks := B.notSynchronized
  have hS : va_S (gA ad 315) s.heap s.heap [] := va_S.rf
  have hl := lv_entry ([.ref (ad p0), .int a1, .int a2]) (n := 3) (Nat.le_of_ble_eq_true rfl)
  rw [lg_entry_eq]
  generalize (lg_sl ([.ref (ad p0), .int a1, .int a2]) ++ List.replicate (3 - (lg_sl ([.ref (ad p0), .int a1, .int a2])).length) Slot.unset).toArray = ls at hl ⊢
  have hl : lv_has ls 3 [(0, .ref (ad p0)), (1, .int a1), (2, .int a2)] := hl
  unfold f_X5_common at h
  refine lv_aload_n hx hb dX5_common_0 rfl (lv_at hl 0 rfl) ?_
  refine lv_iload_n hx hb dX5_common_1 rfl (lv_at hl 1 rfl) ?_
  obtain ⟨q1, hq1, h⟩ := gb_s h
  refine fw_viR (As := [.int a1]) (rest := []) ⟨hx, hb, hml, hown, hts⟩ (k_X5_holds l D cA ad tw hG z p0 (hp0) a1 q1 hq1) (cwV 1 hts gX5_common_X5_holds rfl rfl rfl hdV_X5_holds ⟨Nat.le_of_ble_eq_true rfl, Nat.le_of_ble_eq_true rfl⟩) (fw_preV hp0.1.1 hp0.1.2 rfl rfl hK hZ hP hS) rfl hl _ rfl (Nat.le_of_ble_eq_true rfl) hS dX5_common_2 ⟨Nat.zero_le _, Nat.zero_le _⟩ (fun H locs hP hS => ?_)
  refine lv_if_eq (tgt := 35) hx hb dX5_common_5 (by decide) (fun c2 => ?_) (fun c2 => ?_)
  · replace h := gif_t h c2
    refine lv_iconst (v := (nI 0)) hx hb dX5_common_35 (by decide) ?_
    exact fw_ireti hx hb hr hlocks (congrArg (fun q => (q, z)) (Option.some.inj h)) hK hZ hP hS dX5_common_36
  · replace h := gif_f h c2
    refine lv_aload_n hx hb dX5_common_8 rfl (lv_at hl 0 rfl) ?_
    refine lv_iload_n hx hb dX5_common_9 rfl (lv_at hl 2 rfl) ?_
    obtain ⟨q3, hq3, h⟩ := gb_s h
    refine fw_viR (As := [.int a2]) (rest := []) ⟨hx, hb, hml, hown, hts⟩ (k_X5_holds l D cA ad tw hG z p0 (hp0) a2 q3 hq3) (cwV 1 hts gX5_common_X5_holds rfl rfl rfl hdV_X5_holds ⟨Nat.le_of_ble_eq_true rfl, Nat.le_of_ble_eq_true rfl⟩) (fw_preV hp0.1.1 hp0.1.2 rfl rfl hK hZ hP hS) rfl hl _ rfl (Nat.le_of_ble_eq_true rfl) hS dX5_common_10 ⟨Nat.zero_le _, Nat.zero_le _⟩ (fun H locs hP hS => ?_)
    refine lv_if_eq (tgt := 35) hx hb dX5_common_13 (by decide) (fun c4 => ?_) (fun c4 => ?_)
    · replace h := gif_t h c4
      refine lv_iconst (v := (nI 0)) hx hb dX5_common_35 (by decide) ?_
      exact fw_ireti hx hb hr hlocks (congrArg (fun q => (q, z)) (Option.some.inj h)) hK hZ hP hS dX5_common_36
    · replace h := gif_f h c4
      refine lv_aload_n hx hb dX5_common_16 rfl (lv_at hl 0 rfl) ?_
      refine fw_getr hx hb hts in_X5_common_X5 hown hK hP hp0.1.1 hp0.1.2 rfl 3 (by decide) rfl (hts _ (List.mem_of_getElem? (i := 1) rfl)) rfl dX5_common_17 ?_
      refine lv_iload_n hx hb dX5_common_20 rfl (lv_at hl 1 rfl) ?_
      obtain ⟨h5, h⟩ := gg_s h
      refine fw_iald hx hb hK hP hp0.2.2.1.1 hp0.2.2.1.2 h5 dX5_common_21 ?_
      refine lv_aload_n hx hb dX5_common_22 rfl (lv_at hl 0 rfl) ?_
      refine fw_getr hx hb hts in_X5_common_X5 hown hK hP hp0.1.1 hp0.1.2 rfl 3 (by decide) rfl (hts _ (List.mem_of_getElem? (i := 1) rfl)) rfl dX5_common_23 ?_
      refine lv_iload_n hx hb dX5_common_26 rfl (lv_at hl 2 rfl) ?_
      obtain ⟨h6, h⟩ := gg_s h
      refine fw_iald hx hb hK hP hp0.2.2.1.1 hp0.2.2.1.2 h6 dX5_common_27 ?_
      refine lv_iand hx hb dX5_common_28 ?_
      obtain ⟨q7, hq7, h⟩ := gb_s h
      refine fw_siR (As := [.int ((z (p0 + 2) a1.toNatClampNeg) &&& (z (p0 + 2) a2.toNatClampNeg))]) (rest := []) ⟨hx, hb, hml, hown, hts⟩ (k_J6_bitCount_0f7a4 l D cA ad tw hG z ((z (p0 + 2) a1.toNatClampNeg) &&& (z (p0 + 2) a2.toNatClampNeg)) q7 hq7) (va_cwS 1 hts gX5_common_J6_bitCount_0f7a4 rfl rfl rfl hdS_J6_bitCount_0f7a4 ⟨Nat.le_of_ble_eq_true rfl, Nat.le_of_ble_eq_true rfl⟩) hK hZ hP rfl hl _ rfl (Nat.le_of_ble_eq_true rfl) hS dX5_common_29 ⟨Nat.zero_le _, Nat.zero_le _⟩ (fun H locs hP hS => ?_)
      refine lv_goto (tgt := 36) hx hb dX5_common_32 (by decide) ?_
      exact fw_ireti hx hb hr hlocks (congrArg (fun q => (q, z)) (Option.some.inj h)) hK hZ hP hS dX5_common_36
theorem in_X1_become_X1 : ∀ w ∈ wsX10, w ∈ wsX1_become := fun w h => List.mem_cons_of_mem _ (List.mem_append_right _ (h))
theorem hdV_X1_become : yX1_become.cls = RX1 ∧ yX1_become.cls ≠ "java/lang/invoke/MethodHandle" ∧ yX1_become.cls ≠ "java/lang/invoke/VarHandle" ∧ (parseMethodDescriptor yX1_become.desc).map (fun d => d.parameters.length) = some 1 := by decide +kernel
set_option maxHeartbeats 4000000 in
set_option maxRecDepth 100000 in
theorem k_X1_become (l : Launch) (D : va_G) (cA : Nat → ClassId) (ad : Nat → Nat) (tw : Nat) (hG : gOk ad 315) (z : gS) (p0 : Nat) (hp0 : gC1 p0) (a1 : Int32) (res : gS) (h : f_X1_become p0 a1 z = some res) : gMv l yX1_become wsX1_become (gRm 0 0) D cA ad tw shX 315 [.ref (ad p0), .int a1] z res := by
  refine Met.ofW (cc := cX1_become) (maxL := 3) (ret := none) (by decide) rfl ?_
  intro p e s m args below meth c s₁ B hml hv
  obtain ⟨rfl, hP, hK, hZ⟩ := hv
  have hx := B.exec
  have hb := B.bytes
  have hr := B.returns
  have hts := atoms_spec (ws := wsX1_become) B.pre
  have hown : s.vm.findClass RX1 = some m.cls := findClass_of_methodNamed B.named
  have hlocks := B.notSynchronized
  have hS : va_S (gA ad 315) s.heap s.heap [] := va_S.rf
  have hl := lv_entry ([.ref (ad p0), .int a1]) (n := 3) (Nat.le_of_ble_eq_true rfl)
  rw [lg_entry_eq]
  generalize (lg_sl ([.ref (ad p0), .int a1]) ++ List.replicate (3 - (lg_sl ([.ref (ad p0), .int a1])).length) Slot.unset).toArray = ls at hl ⊢
  have hl : lv_has ls 3 [(0, .ref (ad p0)), (1, .int a1)] := hl
  have j7 : ∀  (n : Nat) (x2 : Int32) (z : gS) (H : Heap) (locs : List Loc) (ls : Array Slot), f_X1_become_7 p0 n x2 z = some res → va_P D vwCl (gw cA ad shX 315 z) H → va_S (gA ad 315) s.heap H locs → lv_has ls 3 [(0, .ref (ad p0)), (2, .int x2)] → W p l e (headSpec wsX1_become (gRm 0 0)).room s m ([.ref (ad p0), .int a1] : List Value).toArray below meth c H locs 0 0 (MQ below (va_Qv (fun u => u = res) (gPr D cA ad tw shX 315) (gA ad 315)) ([.ref (ad p0), .int a1] : List Value).toArray s 0 0 (gA ad 315)) (F0 m 7 ls []) := by
    intro n
    induction n with
    | zero => intro x2 z H locs ls h; exact (gno h).elim
    | succ n hK7 =>
      intro x2 z H locs ls h hP hS hl
      replace h : f_X1_become_7_b p0 (f_X1_become_7 p0 n) x2 z = some res := h
      unfold f_X1_become_7_b at h
      refine lv_iload_n hx hb dX1_become_7 rfl (lv_at hl 1 rfl) ?_
      refine lv_bipush (v := (nI 30)) hx hb dX1_become_8 (by decide) ?_
      refine lv_icmp_ge (tgt := 26) hx hb dX1_become_10 (by decide) (fun c2 => ?_) (fun c2 => ?_)
      · replace h := gif_t h c2
        exact fw_vret hx hb hr hlocks (Option.some.inj h) hK hZ hP hS dX1_become_26
      · replace h := gif_f h c2
        refine lv_aload_n hx hb dX1_become_13 rfl (lv_at hl 0 rfl) ?_
        refine fw_getr hx hb hts in_X1_become_X1 hown hK hP hp0.1.1 hp0.1.2 rfl 1 (by decide) rfl (hts _ (List.mem_of_getElem? (i := 2) rfl)) rfl dX1_become_14 ?_
        refine lv_iload_n hx hb dX1_become_17 rfl (lv_at hl 1 rfl) ?_
        refine lv_iconst (v := (nI 0)) hx hb dX1_become_18 (by decide) ?_
        obtain ⟨h3, h⟩ := gg_s h
        refine fw_iast hx hb hK hG hP hS hp0.2.1 hp0.2.2 h3 dX1_become_19 (fun z4 H locs ez4 hP hS => ?_)
        replace h := gl_s h ez4
        refine lv_iinc (v := x2 + (nI 1)) (lv' := [(2, .int (x2 + (nI 1))), (0, .ref (ad p0))]) hx hb dX1_become_20 hl (k := 1) rfl rfl (by decide) rfl (fun ls hl => ?_)
        refine lv_goto (tgt := 7) hx hb dX1_become_23 (by decide) ?_
        exact hK7 (x2 + (nI 1)) z4 _ _ ls h hP hS (lv_sub hl [1, 0] rfl)
  unfold f_X1_become at h
  refine lv_aload_n hx hb dX1_become_0 rfl (lv_at hl 0 rfl) ?_
  refine lv_iload_n hx hb dX1_become_1 rfl (lv_at hl 1 rfl) ?_
  refine fw_put hx hb hts in_X1_become_X1 tyX1_ok nmX1 hown hK hG hP hS hp0.1.1 hp0.1.2 rfl 0 (by decide) rfl (hts _ (List.mem_of_getElem? (i := 1) rfl)) rfl rfl (ty := .int) rfl rfl rfl dX1_become_2 (fun z1 H locs ez1 hP hS => ?_)
  replace h := gl_s h ez1
  refine lv_iconst (v := (nI 0)) hx hb dX1_become_5 (by decide) ?_
  refine lv_istore_n (lv' := [(2, .int (nI 0)), (0, .ref (ad p0)), (1, .int a1)]) hx hb dX1_become_6 rfl hl (by decide) rfl (fun ls hl => ?_)
  exact j7  gF (nI 0) z1 _ _ ls h hP hS (lv_sub hl [1, 0] rfl)
theorem in_X1_isMissing_X1 : ∀ w ∈ wsX10, w ∈ wsX1_isMissing := fun w h => List.mem_cons_of_mem _ (List.mem_append_right _ (h))
theorem hdV_X1_isMissing : yX1_isMissing.cls = RX1 ∧ yX1_isMissing.cls ≠ "java/lang/invoke/MethodHandle" ∧ yX1_isMissing.cls ≠ "java/lang/invoke/VarHandle" ∧ (parseMethodDescriptor yX1_isMissing.desc).map (fun d => d.parameters.length) = some 0 := by decide +kernel
set_option maxHeartbeats 4000000 in
set_option maxRecDepth 100000 in
theorem k_X1_isMissing (l : Launch) (D : va_G) (cA : Nat → ClassId) (ad : Nat → Nat) (tw : Nat) (hG : gOk ad 315) (z : gS) (p0 : Nat) (hp0 : gC1 p0) (res : Int32) (h : f_X1_isMissing p0 z = some res) : gMi l yX1_isMissing wsX1_isMissing (gRm 0 0) D cA ad tw shX 315 [.ref (ad p0)] z (res, z) := by
  refine Met.ofW (cc := cX1_isMissing) (maxL := 1) (ret := (some .boolean)) (by decide) rfl ?_
  intro p e s m args below meth c s₁ B hml hv
  obtain ⟨rfl, hP, hK, hZ⟩ := hv
  have hx := B.exec
  have hb := B.bytes
  have hr := B.returns
  have hts := atoms_spec (ws := wsX1_isMissing) B.pre
  have hown : s.vm.findClass RX1 = some m.cls := findClass_of_methodNamed B.named
  have hlocks := B.notSynchronized
  have hS : va_S (gA ad 315) s.heap s.heap [] := va_S.rf
  have hl := lv_entry ([.ref (ad p0)]) (n := 1) (Nat.le_of_ble_eq_true rfl)
  rw [lg_entry_eq]
  generalize (lg_sl ([.ref (ad p0)]) ++ List.replicate (1 - (lg_sl ([.ref (ad p0)])).length) Slot.unset).toArray = ls at hl ⊢
  have hl : lv_has ls 1 [(0, .ref (ad p0))] := hl
  unfold f_X1_isMissing at h
  refine lv_aload_n hx hb dX1_isMissing_0 rfl (lv_at hl 0 rfl) ?_
  refine fw_geti hx hb hts in_X1_isMissing_X1 hown hK hP hp0.1.1 hp0.1.2 rfl 0 (by decide) rfl (hts _ (List.mem_of_getElem? (i := 1) rfl)) rfl dX1_isMissing_1 ?_
  refine lv_if_ge (tgt := 11) hx hb dX1_isMissing_4 (by decide) (fun c1 => ?_) (fun c1 => ?_)
  · replace h := gif_t h c1
    refine lv_iconst (v := (nI 0)) hx hb dX1_isMissing_11 (by decide) ?_
    exact fw_iretz hx hb hr hlocks (by decide) (congrArg (fun q => (q, z)) (Option.some.inj h)) hK hZ hP hS dX1_isMissing_12
  · replace h := gif_f h c1
    refine lv_iconst (v := (nI 1)) hx hb dX1_isMissing_7 (by decide) ?_
    refine lv_goto (tgt := 12) hx hb dX1_isMissing_8 (by decide) ?_
    exact fw_iretz hx hb hr hlocks (by decide) (congrArg (fun q => (q, z)) (Option.some.inj h)) hK hZ hP hS dX1_isMissing_12
theorem in_X1_reaches_X1 : ∀ w ∈ wsX10, w ∈ wsX1_reaches := fun w h => List.mem_cons_of_mem _ (List.mem_append_right _ (h))
theorem hdV_X1_reaches : yX1_reaches.cls = RX1 ∧ yX1_reaches.cls ≠ "java/lang/invoke/MethodHandle" ∧ yX1_reaches.cls ≠ "java/lang/invoke/VarHandle" ∧ (parseMethodDescriptor yX1_reaches.desc).map (fun d => d.parameters.length) = some 1 := by decide +kernel
set_option maxHeartbeats 4000000 in
set_option maxRecDepth 100000 in
theorem k_X1_reaches (l : Launch) (D : va_G) (cA : Nat → ClassId) (ad : Nat → Nat) (tw : Nat) (hG : gOk ad 315) (z : gS) (p0 : Nat) (hp0 : gC1 p0) (a1 : Int32) (res : Int32) (h : f_X1_reaches p0 a1 z = some res) : gMi l yX1_reaches wsX1_reaches (gRm 0 0) D cA ad tw shX 315 [.ref (ad p0), .int a1] z (res, z) := by
  refine Met.ofW (cc := cX1_reaches) (maxL := 2) (ret := (some .boolean)) (by decide) rfl ?_
  intro p e s m args below meth c s₁ B hml hv
  obtain ⟨rfl, hP, hK, hZ⟩ := hv
  have hx := B.exec
  have hb := B.bytes
  have hr := B.returns
  have hts := atoms_spec (ws := wsX1_reaches) B.pre
  have hown : s.vm.findClass RX1 = some m.cls := findClass_of_methodNamed B.named
  have hlocks := B.notSynchronized
  have hS : va_S (gA ad 315) s.heap s.heap [] := va_S.rf
  have hl := lv_entry ([.ref (ad p0), .int a1]) (n := 2) (Nat.le_of_ble_eq_true rfl)
  rw [lg_entry_eq]
  generalize (lg_sl ([.ref (ad p0), .int a1]) ++ List.replicate (2 - (lg_sl ([.ref (ad p0), .int a1])).length) Slot.unset).toArray = ls at hl ⊢
  have hl : lv_has ls 2 [(0, .ref (ad p0)), (1, .int a1)] := hl
  unfold f_X1_reaches at h
  refine lv_iload_n hx hb dX1_reaches_0 rfl (lv_at hl 1 rfl) ?_
  refine lv_if_lt (tgt := 16) hx hb dX1_reaches_1 (by decide) (fun c1 => ?_) (fun c1 => ?_)
  · replace h := gif_t h c1
    refine lv_iconst (v := (nI 0)) hx hb dX1_reaches_16 (by decide) ?_
    exact fw_iretz hx hb hr hlocks (by decide) (congrArg (fun q => (q, z)) (Option.some.inj h)) hK hZ hP hS dX1_reaches_17
  · replace h := gif_f h c1
    refine lv_iload_n hx hb dX1_reaches_4 rfl (lv_at hl 1 rfl) ?_
    refine lv_aload_n hx hb dX1_reaches_5 rfl (lv_at hl 0 rfl) ?_
    refine fw_geti hx hb hts in_X1_reaches_X1 hown hK hP hp0.1.1 hp0.1.2 rfl 0 (by decide) rfl (hts _ (List.mem_of_getElem? (i := 1) rfl)) rfl dX1_reaches_6 ?_
    refine lv_icmp_ge (tgt := 16) hx hb dX1_reaches_9 (by decide) (fun c2 => ?_) (fun c2 => ?_)
    · replace h := gif_t h c2
      refine lv_iconst (v := (nI 0)) hx hb dX1_reaches_16 (by decide) ?_
      exact fw_iretz hx hb hr hlocks (by decide) (congrArg (fun q => (q, z)) (Option.some.inj h)) hK hZ hP hS dX1_reaches_17
    · replace h := gif_f h c2
      refine lv_iconst (v := (nI 1)) hx hb dX1_reaches_12 (by decide) ?_
      refine lv_goto (tgt := 17) hx hb dX1_reaches_13 (by decide) ?_
      exact fw_iretz hx hb hr hlocks (by decide) (congrArg (fun q => (q, z)) (Option.some.inj h)) hK hZ hP hS dX1_reaches_17
theorem hdS_X2_letter : yX2_letter.cls ≠ "java/lang/invoke/MethodHandle" ∧ yX2_letter.cls ≠ "java/lang/invoke/VarHandle" ∧ (parseMethodDescriptor yX2_letter.desc).map (fun d => d.parameters.length) = some 2 := by decide +kernel
set_option maxHeartbeats 4000000 in
set_option maxRecDepth 100000 in
theorem k_X2_letter (l : Launch) (D : va_G) (cA : Nat → ClassId) (ad : Nat → Nat) (tw : Nat) (hG : gOk ad 315) (z : gS) (a0 : Int32) (a1 : Int32) (res : Int32) (h : f_X2_letter a0 a1 z = some res) : gMi l yX2_letter wsX2_letter (gRm 0 0) D cA ad tw shX 315 [.int a0, .int a1] z (res, z) := by
  refine Met.ofW (cc := cX2_letter) (maxL := 3) (ret := (some .int)) (by decide) rfl ?_
  intro p e s m args below meth c s₁ B hml hv
  obtain ⟨rfl, hP, hK, hZ⟩ := hv
  have hx := B.exec
  have hb := B.bytes
  have hr := B.returns
  have hts := atoms_spec (ws := wsX2_letter) B.pre
  have hown : s.vm.findClass RX2 = some m.cls := findClass_of_methodNamed B.named
  have hlocks := B.notSynchronized
  have hS : va_S (gA ad 315) s.heap s.heap [] := va_S.rf
  have hl := lv_entry ([.int a0, .int a1]) (n := 3) (Nat.le_of_ble_eq_true rfl)
  rw [lg_entry_eq]
  generalize (lg_sl ([.int a0, .int a1]) ++ List.replicate (3 - (lg_sl ([.int a0, .int a1])).length) Slot.unset).toArray = ls at hl ⊢
  have hl : lv_has ls 3 [(0, .int a0), (1, .int a1)] := hl
  unfold f_X2_letter at h
  refine lv_iload_n hx hb dX2_letter_0 rfl (lv_at hl 1 rfl) ?_
  refine lv_if_lt (tgt := 10) hx hb dX2_letter_1 (by decide) (fun c1 => ?_) (fun c1 => ?_)
  · replace h := gif_t h c1
    refine lv_iconst (v := gm1) hx hb dX2_letter_10 (by decide) ?_
    exact fw_ireti hx hb hr hlocks (congrArg (fun q => (q, z)) (Option.some.inj h)) hK hZ hP hS dX2_letter_11
  · replace h := gif_f h c1
    refine lv_iload_n hx hb dX2_letter_4 rfl (lv_at hl 1 rfl) ?_
    refine lv_bipush (v := (nI 6)) hx hb dX2_letter_5 (by decide) ?_
    refine lv_icmp_lt (tgt := 12) hx hb dX2_letter_7 (by decide) (fun c2 => ?_) (fun c2 => ?_)
    · replace h := gif_t h c2
      refine lv_iload_n hx hb dX2_letter_12 rfl (lv_at hl 0 rfl) ?_
      refine fw_gets hx hb hZ hS hown (hts _ (List.mem_of_getElem? (i := 1) rfl)) dX2_letter_13 ?_
      refine lv_iload_n hx hb dX2_letter_16 rfl (lv_at hl 1 rfl) ?_
      obtain ⟨h3, h⟩ := gg_s h
      refine fw_wald hx hb hZ hS h3 dX2_letter_17 ?_
      obtain ⟨h4, h⟩ := gn_s h
      refine lv_idiv hx hb dX2_letter_18 h4 ?_
      refine lv_bipush (v := (nI 27)) hx hb dX2_letter_19 (by decide) ?_
      refine lv_irem hx hb dX2_letter_21 (by decide) ?_
      refine lv_topi (fun y5 ey5 => ?_)
      replace h := gl_s h ey5
      refine lv_istore_n (lv' := [(2, .int y5), (0, .int a0), (1, .int a1)]) hx hb dX2_letter_22 rfl hl (by decide) rfl (fun ls hl => ?_)
      refine lv_iload_n hx hb dX2_letter_23 rfl (lv_at hl 0 rfl) ?_
      refine lv_if_ne (tgt := 31) hx hb dX2_letter_24 (by decide) (fun c6 => ?_) (fun c6 => ?_)
      · replace h := gif_f h c6
        refine lv_bipush (v := (nI 97)) hx hb dX2_letter_31 (by decide) ?_
        refine lv_iload_n hx hb dX2_letter_33 rfl (lv_at hl 0 rfl) ?_
        refine lv_iadd hx hb dX2_letter_34 ?_
        refine lv_iconst (v := (nI 1)) hx hb dX2_letter_35 (by decide) ?_
        refine lv_isub hx hb dX2_letter_36 ?_
        exact fw_ireti hx hb hr hlocks (congrArg (fun q => (q, z)) (Option.some.inj h)) hK hZ hP hS dX2_letter_37
      · replace h := gif_t h c6
        refine lv_iconst (v := gm1) hx hb dX2_letter_27 (by decide) ?_
        refine lv_goto (tgt := 37) hx hb dX2_letter_28 (by decide) ?_
        exact fw_ireti hx hb hr hlocks (congrArg (fun q => (q, z)) (Option.some.inj h)) hK hZ hP hS dX2_letter_37
    · replace h := gif_f h c2
      refine lv_iconst (v := gm1) hx hb dX2_letter_10 (by decide) ?_
      exact fw_ireti hx hb hr hlocks (congrArg (fun q => (q, z)) (Option.some.inj h)) hK hZ hP hS dX2_letter_11
theorem hdS_X2_length : yX2_length.cls ≠ "java/lang/invoke/MethodHandle" ∧ yX2_length.cls ≠ "java/lang/invoke/VarHandle" ∧ (parseMethodDescriptor yX2_length.desc).map (fun d => d.parameters.length) = some 1 := by decide +kernel
set_option maxHeartbeats 4000000 in
set_option maxRecDepth 100000 in
theorem k_X2_length (l : Launch) (D : va_G) (cA : Nat → ClassId) (ad : Nat → Nat) (tw : Nat) (hG : gOk ad 315) (z : gS) (a0 : Int32) (res : Int32) (h : f_X2_length a0 z = some res) : gMi l yX2_length wsX2_length (gRm 1 22) D cA ad tw shX 315 [.int a0] z (res, z) := by
  refine Met.ofW (cc := cX2_length) (maxL := 3) (ret := (some .int)) (by decide) rfl ?_
  intro p e s m args below meth c s₁ B hml hv
  obtain ⟨rfl, hP, hK, hZ⟩ := hv
  have hx := B.exec
  have hb := B.bytes
  have hr := B.returns
  have hts := atoms_spec (ws := wsX2_length) B.pre
  have hown : s.vm.findClass RX2 = some m.cls := findClass_of_methodNamed B.named
  have hlocks := B.notSynchronized
  have hS : va_S (gA ad 315) s.heap s.heap [] := va_S.rf
  have hl := lv_entry ([.int a0]) (n := 3) (Nat.le_of_ble_eq_true rfl)
  rw [lg_entry_eq]
  generalize (lg_sl ([.int a0]) ++ List.replicate (3 - (lg_sl ([.int a0])).length) Slot.unset).toArray = ls at hl ⊢
  have hl : lv_has ls 3 [(0, .int a0)] := hl
  have j4 : ∀ (x0 : Int32) (n : Nat) (x1 : Int32) (x2 : Int32) (H : Heap) (locs : List Loc) (ls : Array Slot), f_X2_length_4 z x0 n x1 x2 = some res → va_P D vwCl (gw cA ad shX 315 z) H → va_S (gA ad 315) s.heap H locs → lv_has ls 3 [(0, .int x0), (1, .int x1), (2, .int x2)] → W p l e (headSpec wsX2_length (gRm 1 22)).room s m ([.int a0] : List Value).toArray below meth c H locs 0 0 (MQ below (va_Qi (fun r u => (r, u) = (res, z)) (gPr D cA ad tw shX 315) (gA ad 315)) ([.int a0] : List Value).toArray s 0 0 (gA ad 315)) (F0 m 4 ls []) := by
    intro x0 n
    induction n with
    | zero => intro x1 x2 H locs ls h; exact (gno h).elim
    | succ n hK4 =>
      intro x1 x2 H locs ls h hP hS hl
      replace h : f_X2_length_4_b z x0 (f_X2_length_4 z x0 n) x1 x2 = some res := h
      unfold f_X2_length_4_b at h
      refine lv_iload_n hx hb dX2_length_4 rfl (lv_at hl 2 rfl) ?_
      refine lv_bipush (v := (nI 6)) hx hb dX2_length_5 (by decide) ?_
      refine lv_icmp_ge (tgt := 27) hx hb dX2_length_7 (by decide) (fun c1 => ?_) (fun c1 => ?_)
      · replace h := gif_t h c1
        refine lv_iload_n hx hb dX2_length_27 rfl (lv_at hl 1 rfl) ?_
        exact fw_ireti hx hb hr hlocks (congrArg (fun q => (q, z)) (Option.some.inj h)) hK hZ hP hS dX2_length_28
      · replace h := gif_f h c1
        refine lv_iload_n hx hb dX2_length_10 rfl (lv_at hl 0 rfl) ?_
        refine lv_iload_n hx hb dX2_length_11 rfl (lv_at hl 2 rfl) ?_
        obtain ⟨q2, hq2, h⟩ := gb_s h
        refine fw_siR (As := [.int x0, .int x2]) (rest := []) ⟨hx, hb, hml, hown, hts⟩ (k_X2_letter l D cA ad tw hG z x0 x2 q2 hq2) (va_cwS 2 hts gX2_length_X2_letter rfl rfl rfl hdS_X2_letter ⟨Nat.le_of_ble_eq_true rfl, Nat.le_of_ble_eq_true rfl⟩) hK hZ hP rfl hl _ rfl (Nat.le_of_ble_eq_true rfl) hS dX2_length_12 ⟨Nat.zero_le _, Nat.zero_le _⟩ (fun H locs hP hS => ?_)
        refine lv_if_lt (tgt := 27) hx hb dX2_length_15 (by decide) (fun c3 => ?_) (fun c3 => ?_)
        · replace h := gif_t h c3
          refine lv_iload_n hx hb dX2_length_27 rfl (lv_at hl 1 rfl) ?_
          exact fw_ireti hx hb hr hlocks (congrArg (fun q => (q, z)) (Option.some.inj h)) hK hZ hP hS dX2_length_28
        · replace h := gif_f h c3
          refine lv_iinc (v := x1 + (nI 1)) (lv' := [(1, .int (x1 + (nI 1))), (0, .int x0), (2, .int x2)]) hx hb dX2_length_18 hl (k := 1) rfl rfl (by decide) rfl (fun ls hl => ?_)
          refine lv_iinc (v := x2 + (nI 1)) (lv' := [(2, .int (x2 + (nI 1))), (1, .int (x1 + (nI 1))), (0, .int x0)]) hx hb dX2_length_21 hl (k := 2) rfl rfl (by decide) rfl (fun ls hl => ?_)
          refine lv_goto (tgt := 4) hx hb dX2_length_24 (by decide) ?_
          exact hK4 (x1 + (nI 1)) (x2 + (nI 1)) _ _ ls h hP hS (lv_sub hl [2, 1, 0] rfl)
  unfold f_X2_length at h
  refine lv_iconst (v := (nI 0)) hx hb dX2_length_0 (by decide) ?_
  refine lv_istore_n (lv' := [(1, .int (nI 0)), (0, .int a0)]) hx hb dX2_length_1 rfl hl (by decide) rfl (fun ls hl => ?_)
  refine lv_iconst (v := (nI 0)) hx hb dX2_length_2 (by decide) ?_
  refine lv_istore_n (lv' := [(2, .int (nI 0)), (1, .int (nI 0)), (0, .int a0)]) hx hb dX2_length_3 rfl hl (by decide) rfl (fun ls hl => ?_)
  exact j4 a0 gF (nI 0) (nI 0) _ _ ls h hP hS (lv_sub hl [2, 1, 0] rfl)
theorem hdS_J6_numberOfTrailingZeros_0f7a4 : yJ6_numberOfTrailingZeros_0f7a4.cls ≠ "java/lang/invoke/MethodHandle" ∧ yJ6_numberOfTrailingZeros_0f7a4.cls ≠ "java/lang/invoke/VarHandle" ∧ (parseMethodDescriptor yJ6_numberOfTrailingZeros_0f7a4.desc).map (fun d => d.parameters.length) = some 1 := by decide +kernel
set_option maxHeartbeats 4000000 in
set_option maxRecDepth 100000 in
theorem k_J6_numberOfTrailingZeros_0f7a4 (l : Launch) (D : va_G) (cA : Nat → ClassId) (ad : Nat → Nat) (tw : Nat) (hG : gOk ad 315) (z : gS) (a0 : Int32) (res : Int32) (h : f_J6_numberOfTrailingZeros_0f7a4 a0 z = some res) : gMi l yJ6_numberOfTrailingZeros_0f7a4 wsJ6_numberOfTrailingZeros_0f7a4 (gRm 0 0) D cA ad tw shX 315 [.int a0] z (res, z) := by
  refine Met.ofW (cc := cJ6_numberOfTrailingZeros_0f7a4) (maxL := 2) (ret := (some .int)) (by decide) rfl ?_
  intro p e s m args below meth c s₁ B hml hv
  obtain ⟨rfl, hP, hK, hZ⟩ := hv
  have hx := B.exec
  have hb := B.bytes
  have hr := B.returns
  have hts := atoms_spec (ws := wsJ6_numberOfTrailingZeros_0f7a4) B.pre
  have hown : s.vm.findClass RJ6 = some m.cls := findClass_of_methodNamed B.named
  have hlocks := B.notSynchronized
  have hS : va_S (gA ad 315) s.heap s.heap [] := va_S.rf
  have hl := lv_entry ([.int a0]) (n := 2) (Nat.le_of_ble_eq_true rfl)
  rw [lg_entry_eq]
  generalize (lg_sl ([.int a0]) ++ List.replicate (2 - (lg_sl ([.int a0])).length) Slot.unset).toArray = ls at hl ⊢
  have hl : lv_has ls 2 [(0, .int a0)] := hl
  have j49 : ∀ (x0 : Int32) (x1 : Int32) (H : Heap) (locs : List Loc) (ls : Array Slot), f_J6_numberOfTrailingZeros_0f7a4_49 x0 x1 z = some res → va_P D vwCl (gw cA ad shX 315 z) H → va_S (gA ad 315) s.heap H locs → lv_has ls 2 [(0, .int x0), (1, .int x1)] → W p l e (headSpec wsJ6_numberOfTrailingZeros_0f7a4 (gRm 0 0)).room s m ([.int a0] : List Value).toArray below meth c H locs 0 0 (MQ below (va_Qi (fun r u => (r, u) = (res, z)) (gPr D cA ad tw shX 315) (gA ad 315)) ([.int a0] : List Value).toArray s 0 0 (gA ad 315)) (F0 m 49 ls []) := by
    intro x0 x1 H locs ls h hP hS hl
    unfold f_J6_numberOfTrailingZeros_0f7a4_49 at h
    refine lv_iload_n hx hb dJ6_numberOfTrailingZeros_0f7a4_49 rfl (lv_at hl 0 rfl) ?_
    refine lv_bipush (v := (nI 16)) hx hb dJ6_numberOfTrailingZeros_0f7a4_50 (by decide) ?_
    refine lv_icmp_le (tgt := 62) hx hb dJ6_numberOfTrailingZeros_0f7a4_52 (by decide) (fun c9 => ?_) (fun c9 => ?_)
    · replace h := gif_t h c9
      refine lv_iload_n hx hb dJ6_numberOfTrailingZeros_0f7a4_62 rfl (lv_at hl 0 rfl) ?_
      refine lv_iconst (v := (nI 4)) hx hb dJ6_numberOfTrailingZeros_0f7a4_63 (by decide) ?_
      refine lv_icmp_le (tgt := 74) hx hb dJ6_numberOfTrailingZeros_0f7a4_64 (by decide) (fun c10 => ?_) (fun c10 => ?_)
      · replace h := gif_t h c10
        refine lv_iload_n hx hb dJ6_numberOfTrailingZeros_0f7a4_74 rfl (lv_at hl 1 rfl) ?_
        refine lv_iload_n hx hb dJ6_numberOfTrailingZeros_0f7a4_75 rfl (lv_at hl 0 rfl) ?_
        refine lv_iconst (v := (nI 1)) hx hb dJ6_numberOfTrailingZeros_0f7a4_76 (by decide) ?_
        refine lv_iushr (v := (x0.toUInt32 >>> ((nI 1).toUInt32 &&& Int32.toUInt32 31)).toInt32) hx hb dJ6_numberOfTrailingZeros_0f7a4_77 rfl ?_
        refine lv_iadd hx hb dJ6_numberOfTrailingZeros_0f7a4_78 ?_
        exact fw_ireti hx hb hr hlocks (congrArg (fun q => (q, z)) (Option.some.inj h)) hK hZ hP hS dJ6_numberOfTrailingZeros_0f7a4_79
      · replace h := gif_f h c10
        refine lv_iinc (v := x1 + (nI 2)) (lv' := [(1, .int (x1 + (nI 2))), (0, .int x0)]) hx hb dJ6_numberOfTrailingZeros_0f7a4_67 hl (k := 1) rfl rfl (by decide) rfl (fun ls hl => ?_)
        refine lv_iload_n hx hb dJ6_numberOfTrailingZeros_0f7a4_70 rfl (lv_at hl 1 rfl) ?_
        refine lv_iconst (v := (nI 2)) hx hb dJ6_numberOfTrailingZeros_0f7a4_71 (by decide) ?_
        refine lv_iushr (v := (x0.toUInt32 >>> ((nI 2).toUInt32 &&& Int32.toUInt32 31)).toInt32) hx hb dJ6_numberOfTrailingZeros_0f7a4_72 rfl ?_
        refine lv_topi (fun y11 ey11 => ?_)
        replace h := gl_s h ey11
        refine lv_istore_n (lv' := [(0, .int y11), (1, .int (x1 + (nI 2)))]) hx hb dJ6_numberOfTrailingZeros_0f7a4_73 rfl hl (by decide) rfl (fun ls hl => ?_)
        refine lv_iload_n hx hb dJ6_numberOfTrailingZeros_0f7a4_74 rfl (lv_at hl 1 rfl) ?_
        refine lv_iload_n hx hb dJ6_numberOfTrailingZeros_0f7a4_75 rfl (lv_at hl 0 rfl) ?_
        refine lv_iconst (v := (nI 1)) hx hb dJ6_numberOfTrailingZeros_0f7a4_76 (by decide) ?_
        refine lv_iushr (v := (y11.toUInt32 >>> ((nI 1).toUInt32 &&& Int32.toUInt32 31)).toInt32) hx hb dJ6_numberOfTrailingZeros_0f7a4_77 rfl ?_
        refine lv_iadd hx hb dJ6_numberOfTrailingZeros_0f7a4_78 ?_
        exact fw_ireti hx hb hr hlocks (congrArg (fun q => (q, z)) (Option.some.inj h)) hK hZ hP hS dJ6_numberOfTrailingZeros_0f7a4_79
    · replace h := gif_f h c9
      refine lv_iinc (v := x1 + (nI 4)) (lv' := [(1, .int (x1 + (nI 4))), (0, .int x0)]) hx hb dJ6_numberOfTrailingZeros_0f7a4_55 hl (k := 1) rfl rfl (by decide) rfl (fun ls hl => ?_)
      refine lv_iload_n hx hb dJ6_numberOfTrailingZeros_0f7a4_58 rfl (lv_at hl 1 rfl) ?_
      refine lv_iconst (v := (nI 4)) hx hb dJ6_numberOfTrailingZeros_0f7a4_59 (by decide) ?_
      refine lv_iushr (v := (x0.toUInt32 >>> ((nI 4).toUInt32 &&& Int32.toUInt32 31)).toInt32) hx hb dJ6_numberOfTrailingZeros_0f7a4_60 rfl ?_
      refine lv_topi (fun y12 ey12 => ?_)
      replace h := gl_s h ey12
      refine lv_istore_n (lv' := [(0, .int y12), (1, .int (x1 + (nI 4)))]) hx hb dJ6_numberOfTrailingZeros_0f7a4_61 rfl hl (by decide) rfl (fun ls hl => ?_)
      refine lv_iload_n hx hb dJ6_numberOfTrailingZeros_0f7a4_62 rfl (lv_at hl 0 rfl) ?_
      refine lv_iconst (v := (nI 4)) hx hb dJ6_numberOfTrailingZeros_0f7a4_63 (by decide) ?_
      refine lv_icmp_le (tgt := 74) hx hb dJ6_numberOfTrailingZeros_0f7a4_64 (by decide) (fun c13 => ?_) (fun c13 => ?_)
      · replace h := gif_t h c13
        refine lv_iload_n hx hb dJ6_numberOfTrailingZeros_0f7a4_74 rfl (lv_at hl 1 rfl) ?_
        refine lv_iload_n hx hb dJ6_numberOfTrailingZeros_0f7a4_75 rfl (lv_at hl 0 rfl) ?_
        refine lv_iconst (v := (nI 1)) hx hb dJ6_numberOfTrailingZeros_0f7a4_76 (by decide) ?_
        refine lv_iushr (v := (y12.toUInt32 >>> ((nI 1).toUInt32 &&& Int32.toUInt32 31)).toInt32) hx hb dJ6_numberOfTrailingZeros_0f7a4_77 rfl ?_
        refine lv_iadd hx hb dJ6_numberOfTrailingZeros_0f7a4_78 ?_
        exact fw_ireti hx hb hr hlocks (congrArg (fun q => (q, z)) (Option.some.inj h)) hK hZ hP hS dJ6_numberOfTrailingZeros_0f7a4_79
      · replace h := gif_f h c13
        refine lv_iinc (v := (x1 + (nI 4)) + (nI 2)) (lv' := [(1, .int ((x1 + (nI 4)) + (nI 2))), (0, .int y12)]) hx hb dJ6_numberOfTrailingZeros_0f7a4_67 hl (k := 1) rfl rfl (by decide) rfl (fun ls hl => ?_)
        refine lv_iload_n hx hb dJ6_numberOfTrailingZeros_0f7a4_70 rfl (lv_at hl 1 rfl) ?_
        refine lv_iconst (v := (nI 2)) hx hb dJ6_numberOfTrailingZeros_0f7a4_71 (by decide) ?_
        refine lv_iushr (v := (y12.toUInt32 >>> ((nI 2).toUInt32 &&& Int32.toUInt32 31)).toInt32) hx hb dJ6_numberOfTrailingZeros_0f7a4_72 rfl ?_
        refine lv_topi (fun y14 ey14 => ?_)
        replace h := gl_s h ey14
        refine lv_istore_n (lv' := [(0, .int y14), (1, .int ((x1 + (nI 4)) + (nI 2)))]) hx hb dJ6_numberOfTrailingZeros_0f7a4_73 rfl hl (by decide) rfl (fun ls hl => ?_)
        refine lv_iload_n hx hb dJ6_numberOfTrailingZeros_0f7a4_74 rfl (lv_at hl 1 rfl) ?_
        refine lv_iload_n hx hb dJ6_numberOfTrailingZeros_0f7a4_75 rfl (lv_at hl 0 rfl) ?_
        refine lv_iconst (v := (nI 1)) hx hb dJ6_numberOfTrailingZeros_0f7a4_76 (by decide) ?_
        refine lv_iushr (v := (y14.toUInt32 >>> ((nI 1).toUInt32 &&& Int32.toUInt32 31)).toInt32) hx hb dJ6_numberOfTrailingZeros_0f7a4_77 rfl ?_
        refine lv_iadd hx hb dJ6_numberOfTrailingZeros_0f7a4_78 ?_
        exact fw_ireti hx hb hr hlocks (congrArg (fun q => (q, z)) (Option.some.inj h)) hK hZ hP hS dJ6_numberOfTrailingZeros_0f7a4_79
  unfold f_J6_numberOfTrailingZeros_0f7a4 at h
  refine lv_iload_n hx hb dJ6_numberOfTrailingZeros_0f7a4_0 rfl (lv_at hl 0 rfl) ?_
  refine lv_iconst (v := gm1) hx hb dJ6_numberOfTrailingZeros_0f7a4_1 (by decide) ?_
  refine lv_ixor hx hb dJ6_numberOfTrailingZeros_0f7a4_2 ?_
  refine lv_iload_n hx hb dJ6_numberOfTrailingZeros_0f7a4_3 rfl (lv_at hl 0 rfl) ?_
  refine lv_iconst (v := (nI 1)) hx hb dJ6_numberOfTrailingZeros_0f7a4_4 (by decide) ?_
  refine lv_isub hx hb dJ6_numberOfTrailingZeros_0f7a4_5 ?_
  refine lv_iand hx hb dJ6_numberOfTrailingZeros_0f7a4_6 ?_
  refine lv_topi (fun y1 ey1 => ?_)
  replace h := gl_s h ey1
  refine lv_istore_n (lv' := [(0, .int y1)]) hx hb dJ6_numberOfTrailingZeros_0f7a4_7 rfl hl (by decide) rfl (fun ls hl => ?_)
  refine lv_iload_n hx hb dJ6_numberOfTrailingZeros_0f7a4_8 rfl (lv_at hl 0 rfl) ?_
  refine lv_if_gt (tgt := 17) hx hb dJ6_numberOfTrailingZeros_0f7a4_9 (by decide) (fun c2 => ?_) (fun c2 => ?_)
  · replace h := gif_t h c2
    refine lv_iconst (v := (nI 1)) hx hb dJ6_numberOfTrailingZeros_0f7a4_17 (by decide) ?_
    refine lv_istore_n (lv' := [(1, .int (nI 1)), (0, .int y1)]) hx hb dJ6_numberOfTrailingZeros_0f7a4_18 rfl hl (by decide) rfl (fun ls hl => ?_)
    refine lv_iload_n hx hb dJ6_numberOfTrailingZeros_0f7a4_19 rfl (lv_at hl 1 rfl) ?_
    refine lv_ldcw (v := (65536 : Int32)) hx hb hown (hts _ (List.mem_of_getElem? (i := 1) rfl)) dJ6_numberOfTrailingZeros_0f7a4_20 ?_
    refine lv_icmp_le (tgt := 34) hx hb dJ6_numberOfTrailingZeros_0f7a4_23 (by decide) (fun c3 => ?_) (fun c3 => ?_)
    · replace h := gif_t h c3
      refine lv_iload_n hx hb dJ6_numberOfTrailingZeros_0f7a4_34 rfl (lv_at hl 1 rfl) ?_
      refine lv_sipush (v := (nI 256)) hx hb dJ6_numberOfTrailingZeros_0f7a4_35 (by decide) ?_
      refine lv_icmp_le (tgt := 49) hx hb dJ6_numberOfTrailingZeros_0f7a4_38 (by decide) (fun c4 => ?_) (fun c4 => ?_)
      · replace h := gif_t h c4
        exact j49 y1 (nI 1) _ _ ls h hP hS (lv_sub hl [1, 0] rfl)
      · replace h := gif_f h c4
        refine lv_iinc (v := (nI 1) + (nI 8)) (lv' := [(1, .int ((nI 1) + (nI 8))), (0, .int y1)]) hx hb dJ6_numberOfTrailingZeros_0f7a4_41 hl (k := 0) rfl rfl (by decide) rfl (fun ls hl => ?_)
        refine lv_iload_n hx hb dJ6_numberOfTrailingZeros_0f7a4_44 rfl (lv_at hl 1 rfl) ?_
        refine lv_bipush (v := (nI 8)) hx hb dJ6_numberOfTrailingZeros_0f7a4_45 (by decide) ?_
        refine lv_iushr (v := (y1.toUInt32 >>> ((nI 8).toUInt32 &&& Int32.toUInt32 31)).toInt32) hx hb dJ6_numberOfTrailingZeros_0f7a4_47 rfl ?_
        refine lv_topi (fun y5 ey5 => ?_)
        replace h := gl_s h ey5
        refine lv_istore_n (lv' := [(0, .int y5), (1, .int ((nI 1) + (nI 8)))]) hx hb dJ6_numberOfTrailingZeros_0f7a4_48 rfl hl (by decide) rfl (fun ls hl => ?_)
        exact j49 y5 ((nI 1) + (nI 8)) _ _ ls h hP hS (lv_sub hl [0, 1] rfl)
    · replace h := gif_f h c3
      refine lv_iinc (v := (nI 1) + (nI 16)) (lv' := [(1, .int ((nI 1) + (nI 16))), (0, .int y1)]) hx hb dJ6_numberOfTrailingZeros_0f7a4_26 hl (k := 0) rfl rfl (by decide) rfl (fun ls hl => ?_)
      refine lv_iload_n hx hb dJ6_numberOfTrailingZeros_0f7a4_29 rfl (lv_at hl 1 rfl) ?_
      refine lv_bipush (v := (nI 16)) hx hb dJ6_numberOfTrailingZeros_0f7a4_30 (by decide) ?_
      refine lv_iushr (v := (y1.toUInt32 >>> ((nI 16).toUInt32 &&& Int32.toUInt32 31)).toInt32) hx hb dJ6_numberOfTrailingZeros_0f7a4_32 rfl ?_
      refine lv_topi (fun y6 ey6 => ?_)
      replace h := gl_s h ey6
      refine lv_istore_n (lv' := [(0, .int y6), (1, .int ((nI 1) + (nI 16)))]) hx hb dJ6_numberOfTrailingZeros_0f7a4_33 rfl hl (by decide) rfl (fun ls hl => ?_)
      refine lv_iload_n hx hb dJ6_numberOfTrailingZeros_0f7a4_34 rfl (lv_at hl 0 rfl) ?_
      refine lv_sipush (v := (nI 256)) hx hb dJ6_numberOfTrailingZeros_0f7a4_35 (by decide) ?_
      refine lv_icmp_le (tgt := 49) hx hb dJ6_numberOfTrailingZeros_0f7a4_38 (by decide) (fun c7 => ?_) (fun c7 => ?_)
      · replace h := gif_t h c7
        exact j49 y6 ((nI 1) + (nI 16)) _ _ ls h hP hS (lv_sub hl [0, 1] rfl)
      · replace h := gif_f h c7
        refine lv_iinc (v := ((nI 1) + (nI 16)) + (nI 8)) (lv' := [(1, .int (((nI 1) + (nI 16)) + (nI 8))), (0, .int y6)]) hx hb dJ6_numberOfTrailingZeros_0f7a4_41 hl (k := 1) rfl rfl (by decide) rfl (fun ls hl => ?_)
        refine lv_iload_n hx hb dJ6_numberOfTrailingZeros_0f7a4_44 rfl (lv_at hl 1 rfl) ?_
        refine lv_bipush (v := (nI 8)) hx hb dJ6_numberOfTrailingZeros_0f7a4_45 (by decide) ?_
        refine lv_iushr (v := (y6.toUInt32 >>> ((nI 8).toUInt32 &&& Int32.toUInt32 31)).toInt32) hx hb dJ6_numberOfTrailingZeros_0f7a4_47 rfl ?_
        refine lv_topi (fun y8 ey8 => ?_)
        replace h := gl_s h ey8
        refine lv_istore_n (lv' := [(0, .int y8), (1, .int (((nI 1) + (nI 16)) + (nI 8)))]) hx hb dJ6_numberOfTrailingZeros_0f7a4_48 rfl hl (by decide) rfl (fun ls hl => ?_)
        exact j49 y8 (((nI 1) + (nI 16)) + (nI 8)) _ _ ls h hP hS (lv_sub hl [0, 1] rfl)
  · replace h := gif_f h c2
    refine lv_iload_n hx hb dJ6_numberOfTrailingZeros_0f7a4_12 rfl (lv_at hl 0 rfl) ?_
    refine lv_bipush (v := (nI 32)) hx hb dJ6_numberOfTrailingZeros_0f7a4_13 (by decide) ?_
    refine lv_iand hx hb dJ6_numberOfTrailingZeros_0f7a4_15 ?_
    exact fw_ireti hx hb hr hlocks (congrArg (fun q => (q, z)) (Option.some.inj h)) hK hZ hP hS dJ6_numberOfTrailingZeros_0f7a4_16
theorem in_X5_owns_X5 : ∀ w ∈ wsX50, w ∈ wsX5_owns := fun w h => List.mem_cons_of_mem _ (List.mem_append_right _ (h))
theorem hdV_X5_owns : yX5_owns.cls = RX5 ∧ yX5_owns.cls ≠ "java/lang/invoke/MethodHandle" ∧ yX5_owns.cls ≠ "java/lang/invoke/VarHandle" ∧ (parseMethodDescriptor yX5_owns.desc).map (fun d => d.parameters.length) = some 2 := by decide +kernel
set_option maxHeartbeats 4000000 in
set_option maxRecDepth 100000 in
theorem k_X5_owns (l : Launch) (D : va_G) (cA : Nat → ClassId) (ad : Nat → Nat) (tw : Nat) (hG : gOk ad 315) (z : gS) (p0 : Nat) (hp0 : gC5 p0) (a1 : Int32) (a2 : Int32) (res : Int32) (h : f_X5_owns p0 a1 a2 z = some res) : gMi l yX5_owns wsX5_owns (gRm 1 21) D cA ad tw shX 315 [.ref (ad p0), .int a1, .int a2] z (res, z) := by
  refine Met.ofW (cc := cX5_owns) (maxL := 3) (ret := (some .boolean)) (by decide) rfl ?_
  intro p e s m args below meth c s₁ B hml hv
  obtain ⟨rfl, hP, hK, hZ⟩ := hv
  have hx := B.exec
  have hb := B.bytes
  have hr := B.returns
  have hts := atoms_spec (ws := wsX5_owns) B.pre
  have hown : s.vm.findClass RX5 = some m.cls := findClass_of_methodNamed B.named
  have hlocks := B.notSynchronized
  have hS : va_S (gA ad 315) s.heap s.heap [] := va_S.rf
  have hl := lv_entry ([.ref (ad p0), .int a1, .int a2]) (n := 3) (Nat.le_of_ble_eq_true rfl)
  rw [lg_entry_eq]
  generalize (lg_sl ([.ref (ad p0), .int a1, .int a2]) ++ List.replicate (3 - (lg_sl ([.ref (ad p0), .int a1, .int a2])).length) Slot.unset).toArray = ls at hl ⊢
  have hl : lv_has ls 3 [(0, .ref (ad p0)), (1, .int a1), (2, .int a2)] := hl
  unfold f_X5_owns at h
  refine lv_aload_n hx hb dX5_owns_0 rfl (lv_at hl 0 rfl) ?_
  refine lv_iload_n hx hb dX5_owns_1 rfl (lv_at hl 1 rfl) ?_
  obtain ⟨q1, hq1, h⟩ := gb_s h
  refine fw_viR (As := [.int a1]) (rest := []) ⟨hx, hb, hml, hown, hts⟩ (k_X5_holds l D cA ad tw hG z p0 (hp0) a1 q1 hq1) (cwV 1 hts gX5_owns_X5_holds rfl rfl rfl hdV_X5_holds ⟨Nat.le_of_ble_eq_true rfl, Nat.le_of_ble_eq_true rfl⟩) (fw_preV hp0.1.1 hp0.1.2 rfl rfl hK hZ hP hS) rfl hl _ rfl (Nat.le_of_ble_eq_true rfl) hS dX5_owns_2 ⟨Nat.zero_le _, Nat.zero_le _⟩ (fun H locs hP hS => ?_)
  refine lv_if_eq (tgt := 25) hx hb dX5_owns_5 (by decide) (fun c2 => ?_) (fun c2 => ?_)
  · replace h := gif_t h c2
    refine lv_iconst (v := (nI 0)) hx hb dX5_owns_25 (by decide) ?_
    exact fw_iretz hx hb hr hlocks (by decide) (congrArg (fun q => (q, z)) (Option.some.inj h)) hK hZ hP hS dX5_owns_26
  · replace h := gif_f h c2
    refine lv_aload_n hx hb dX5_owns_8 rfl (lv_at hl 0 rfl) ?_
    refine fw_getr hx hb hts in_X5_owns_X5 hown hK hP hp0.1.1 hp0.1.2 rfl 3 (by decide) rfl (hts _ (List.mem_of_getElem? (i := 1) rfl)) rfl dX5_owns_9 ?_
    refine lv_iload_n hx hb dX5_owns_12 rfl (lv_at hl 1 rfl) ?_
    obtain ⟨h3, h⟩ := gg_s h
    refine fw_iald hx hb hK hP hp0.2.2.1.1 hp0.2.2.1.2 h3 dX5_owns_13 ?_
    refine lv_iload_n hx hb dX5_owns_14 rfl (lv_at hl 2 rfl) ?_
    refine lv_ishr hx hb dX5_owns_15 ?_
    refine lv_iconst (v := (nI 1)) hx hb dX5_owns_16 (by decide) ?_
    refine lv_iand hx hb dX5_owns_17 ?_
    refine lv_if_eq (tgt := 25) hx hb dX5_owns_18 (by decide) (fun c4 => ?_) (fun c4 => ?_)
    · replace h := gif_t h c4
      refine lv_iconst (v := (nI 0)) hx hb dX5_owns_25 (by decide) ?_
      exact fw_iretz hx hb hr hlocks (by decide) (congrArg (fun q => (q, z)) (Option.some.inj h)) hK hZ hP hS dX5_owns_26
    · replace h := gif_f h c4
      refine lv_iconst (v := (nI 1)) hx hb dX5_owns_21 (by decide) ?_
      refine lv_goto (tgt := 26) hx hb dX5_owns_22 (by decide) ?_
      exact fw_iretz hx hb hr hlocks (by decide) (congrArg (fun q => (q, z)) (Option.some.inj h)) hK hZ hP hS dX5_owns_26
theorem in_X5_typeBehind_X5 : ∀ w ∈ wsX50, w ∈ wsX5_typeBehind := fun w h => List.mem_cons_of_mem _ (List.mem_append_right _ (h))
theorem hdV_X5_typeBehind : yX5_typeBehind.cls = RX5 ∧ yX5_typeBehind.cls ≠ "java/lang/invoke/MethodHandle" ∧ yX5_typeBehind.cls ≠ "java/lang/invoke/VarHandle" ∧ (parseMethodDescriptor yX5_typeBehind.desc).map (fun d => d.parameters.length) = some 2 := by decide +kernel
set_option maxHeartbeats 4000000 in
set_option maxRecDepth 100000 in
theorem k_X5_typeBehind (l : Launch) (D : va_G) (cA : Nat → ClassId) (ad : Nat → Nat) (tw : Nat) (hG : gOk ad 315) (z : gS) (p0 : Nat) (hp0 : gC5 p0) (a1 : Int32) (a2 : Int32) (res : Int32) (h : f_X5_typeBehind p0 a1 a2 z = some res) : gMi l yX5_typeBehind wsX5_typeBehind (gRm 2 43) D cA ad tw shX 315 [.ref (ad p0), .int a1, .int a2] z (res, z) := by
  refine Met.ofW (cc := cX5_typeBehind) (maxL := 5) (ret := (some .int)) (by decide) rfl ?_
  intro p e s m args below meth c s₁ B hml hv
  obtain ⟨rfl, hP, hK, hZ⟩ := hv
  have hx := B.exec
  have hb := B.bytes
  have hr := B.returns
  have hts := atoms_spec (ws := wsX5_typeBehind) B.pre
  have hown : s.vm.findClass RX5 = some m.cls := findClass_of_methodNamed B.named
  have hlocks := B.notSynchronized
  have hS : va_S (gA ad 315) s.heap s.heap [] := va_S.rf
  have hl := lv_entry ([.ref (ad p0), .int a1, .int a2]) (n := 5) (Nat.le_of_ble_eq_true rfl)
  rw [lg_entry_eq]
  generalize (lg_sl ([.ref (ad p0), .int a1, .int a2]) ++ List.replicate (5 - (lg_sl ([.ref (ad p0), .int a1, .int a2])).length) Slot.unset).toArray = ls at hl ⊢
  have hl : lv_has ls 5 [(0, .ref (ad p0)), (1, .int a1), (2, .int a2)] := hl
  have j5 : ∀ (x1 : Int32) (x2 : Int32) (n : Nat) (x3 : Int32) (x4 : Int32) (H : Heap) (locs : List Loc) (ls : Array Slot), f_X5_typeBehind_5 p0 z x1 x2 n x3 x4 = some res → va_P D vwCl (gw cA ad shX 315 z) H → va_S (gA ad 315) s.heap H locs → lv_has ls 5 [(0, .ref (ad p0)), (1, .int x1), (2, .int x2), (3, .int x3), (4, .int x4)] → W p l e (headSpec wsX5_typeBehind (gRm 2 43)).room s m ([.ref (ad p0), .int a1, .int a2] : List Value).toArray below meth c H locs 0 0 (MQ below (va_Qi (fun r u => (r, u) = (res, z)) (gPr D cA ad tw shX 315) (gA ad 315)) ([.ref (ad p0), .int a1, .int a2] : List Value).toArray s 0 0 (gA ad 315)) (F0 m 5 ls []) := by
    intro x1 x2 n
    induction n with
    | zero => intro x3 x4 H locs ls h; exact (gno h).elim
    | succ n hK5 =>
      intro x3 x4 H locs ls h hP hS hl
      replace h : f_X5_typeBehind_5_b p0 z x1 x2 (f_X5_typeBehind_5 p0 z x1 x2 n) x3 x4 = some res := h
      unfold f_X5_typeBehind_5_b at h
      refine lv_iload hx hb dX5_typeBehind_5 (lv_at hl 4 rfl) ?_
      refine lv_aload_n hx hb dX5_typeBehind_7 rfl (lv_at hl 0 rfl) ?_
      refine fw_geti hx hb hts in_X5_typeBehind_X5 hown hK hP hp0.1.1 hp0.1.2 rfl 1 (by decide) rfl (hts _ (List.mem_of_getElem? (i := 1) rfl)) rfl dX5_typeBehind_8 ?_
      refine lv_icmp_ge (tgt := 64) hx hb dX5_typeBehind_11 (by decide) (fun c1 => ?_) (fun c1 => ?_)
      · replace h := gif_t h c1
        refine lv_iload_n hx hb dX5_typeBehind_64 rfl (lv_at hl 3 rfl) ?_
        exact fw_ireti hx hb hr hlocks (congrArg (fun q => (q, z)) (Option.some.inj h)) hK hZ hP hS dX5_typeBehind_65
      · replace h := gif_f h c1
        refine lv_aload_n hx hb dX5_typeBehind_14 rfl (lv_at hl 0 rfl) ?_
        refine lv_iload_n hx hb dX5_typeBehind_15 rfl (lv_at hl 1 rfl) ?_
        refine lv_iload hx hb dX5_typeBehind_16 (lv_at hl 4 rfl) ?_
        obtain ⟨q2, hq2, h⟩ := gb_s h
        refine fw_viR (As := [.int x1, .int x4]) (rest := []) ⟨hx, hb, hml, hown, hts⟩ (k_X5_owns l D cA ad tw hG z p0 (hp0) x1 x4 q2 hq2) (cwV 2 hts gX5_typeBehind_X5_owns rfl rfl rfl hdV_X5_owns ⟨Nat.le_of_ble_eq_true rfl, Nat.le_of_ble_eq_true rfl⟩) (fw_preV hp0.1.1 hp0.1.2 rfl rfl hK hZ hP hS) rfl hl _ rfl (Nat.le_of_ble_eq_true rfl) hS dX5_typeBehind_18 ⟨Nat.zero_le _, Nat.zero_le _⟩ (fun H locs hP hS => ?_)
        refine lv_if_eq (tgt := 58) hx hb dX5_typeBehind_21 (by decide) (fun c3 => ?_) (fun c3 => ?_)
        · replace h := gif_t h c3
          refine lv_iinc (v := x4 + (nI 1)) (lv' := [(4, .int (x4 + (nI 1))), (0, .ref (ad p0)), (1, .int x1), (2, .int x2), (3, .int x3)]) hx hb dX5_typeBehind_58 hl (k := 4) rfl rfl (by decide) rfl (fun ls hl => ?_)
          refine lv_goto (tgt := 5) hx hb dX5_typeBehind_61 (by decide) ?_
          exact hK5 x3 (x4 + (nI 1)) _ _ ls h hP hS (lv_sub hl [1, 2, 3, 4, 0] rfl)
        · replace h := gif_f h c3
          refine lv_aload_n hx hb dX5_typeBehind_24 rfl (lv_at hl 0 rfl) ?_
          refine fw_getr hx hb hts in_X5_typeBehind_X5 hown hK hP hp0.1.1 hp0.1.2 rfl 4 (by decide) rfl (hts _ (List.mem_of_getElem? (i := 2) rfl)) rfl dX5_typeBehind_25 ?_
          refine lv_iload hx hb dX5_typeBehind_28 (lv_at hl 4 rfl) ?_
          obtain ⟨h4, h⟩ := gg_s h
          refine fw_iald hx hb hK hP hp0.2.2.2.1 hp0.2.2.2.2 h4 dX5_typeBehind_30 ?_
          refine lv_iload_n hx hb dX5_typeBehind_31 rfl (lv_at hl 2 rfl) ?_
          refine lv_icmp_le (tgt := 58) hx hb dX5_typeBehind_32 (by decide) (fun c5 => ?_) (fun c5 => ?_)
          · replace h := gif_t h c5
            refine lv_iinc (v := x4 + (nI 1)) (lv' := [(4, .int (x4 + (nI 1))), (0, .ref (ad p0)), (1, .int x1), (2, .int x2), (3, .int x3)]) hx hb dX5_typeBehind_58 hl (k := 4) rfl rfl (by decide) rfl (fun ls hl => ?_)
            refine lv_goto (tgt := 5) hx hb dX5_typeBehind_61 (by decide) ?_
            exact hK5 x3 (x4 + (nI 1)) _ _ ls h hP hS (lv_sub hl [1, 2, 3, 4, 0] rfl)
          · replace h := gif_f h c5
            refine lv_iload_n hx hb dX5_typeBehind_35 rfl (lv_at hl 3 rfl) ?_
            refine lv_if_lt (tgt := 55) hx hb dX5_typeBehind_36 (by decide) (fun c6 => ?_) (fun c6 => ?_)
            · replace h := gif_t h c6
              refine lv_iload hx hb dX5_typeBehind_55 (lv_at hl 4 rfl) ?_
              refine lv_istore_n (lv' := [(3, .int x4), (0, .ref (ad p0)), (1, .int x1), (2, .int x2), (4, .int x4)]) hx hb dX5_typeBehind_57 rfl hl (by decide) rfl (fun ls hl => ?_)
              refine lv_iinc (v := x4 + (nI 1)) (lv' := [(4, .int (x4 + (nI 1))), (3, .int x4), (0, .ref (ad p0)), (1, .int x1), (2, .int x2)]) hx hb dX5_typeBehind_58 hl (k := 4) rfl rfl (by decide) rfl (fun ls hl => ?_)
              refine lv_goto (tgt := 5) hx hb dX5_typeBehind_61 (by decide) ?_
              exact hK5 x4 (x4 + (nI 1)) _ _ ls h hP hS (lv_sub hl [2, 3, 4, 1, 0] rfl)
            · replace h := gif_f h c6
              refine lv_aload_n hx hb dX5_typeBehind_39 rfl (lv_at hl 0 rfl) ?_
              refine fw_getr hx hb hts in_X5_typeBehind_X5 hown hK hP hp0.1.1 hp0.1.2 rfl 4 (by decide) rfl (hts _ (List.mem_of_getElem? (i := 2) rfl)) rfl dX5_typeBehind_40 ?_
              refine lv_iload hx hb dX5_typeBehind_43 (lv_at hl 4 rfl) ?_
              obtain ⟨h7, h⟩ := gg_s h
              refine fw_iald hx hb hK hP hp0.2.2.2.1 hp0.2.2.2.2 h7 dX5_typeBehind_45 ?_
              refine lv_aload_n hx hb dX5_typeBehind_46 rfl (lv_at hl 0 rfl) ?_
              refine fw_getr hx hb hts in_X5_typeBehind_X5 hown hK hP hp0.1.1 hp0.1.2 rfl 4 (by decide) rfl (hts _ (List.mem_of_getElem? (i := 2) rfl)) rfl dX5_typeBehind_47 ?_
              refine lv_iload_n hx hb dX5_typeBehind_50 rfl (lv_at hl 3 rfl) ?_
              obtain ⟨h8, h⟩ := gg_s h
              refine fw_iald hx hb hK hP hp0.2.2.2.1 hp0.2.2.2.2 h8 dX5_typeBehind_51 ?_
              refine lv_icmp_ge (tgt := 58) hx hb dX5_typeBehind_52 (by decide) (fun c9 => ?_) (fun c9 => ?_)
              · replace h := gif_t h c9
                refine lv_iinc (v := x4 + (nI 1)) (lv' := [(4, .int (x4 + (nI 1))), (0, .ref (ad p0)), (1, .int x1), (2, .int x2), (3, .int x3)]) hx hb dX5_typeBehind_58 hl (k := 4) rfl rfl (by decide) rfl (fun ls hl => ?_)
                refine lv_goto (tgt := 5) hx hb dX5_typeBehind_61 (by decide) ?_
                exact hK5 x3 (x4 + (nI 1)) _ _ ls h hP hS (lv_sub hl [1, 2, 3, 4, 0] rfl)
              · replace h := gif_f h c9
                refine lv_iload hx hb dX5_typeBehind_55 (lv_at hl 4 rfl) ?_
                refine lv_istore_n (lv' := [(3, .int x4), (0, .ref (ad p0)), (1, .int x1), (2, .int x2), (4, .int x4)]) hx hb dX5_typeBehind_57 rfl hl (by decide) rfl (fun ls hl => ?_)
                refine lv_iinc (v := x4 + (nI 1)) (lv' := [(4, .int (x4 + (nI 1))), (3, .int x4), (0, .ref (ad p0)), (1, .int x1), (2, .int x2)]) hx hb dX5_typeBehind_58 hl (k := 4) rfl rfl (by decide) rfl (fun ls hl => ?_)
                refine lv_goto (tgt := 5) hx hb dX5_typeBehind_61 (by decide) ?_
                exact hK5 x4 (x4 + (nI 1)) _ _ ls h hP hS (lv_sub hl [2, 3, 4, 1, 0] rfl)
  unfold f_X5_typeBehind at h
  refine lv_iconst (v := gm1) hx hb dX5_typeBehind_0 (by decide) ?_
  refine lv_istore_n (lv' := [(3, .int gm1), (0, .ref (ad p0)), (1, .int a1), (2, .int a2)]) hx hb dX5_typeBehind_1 rfl hl (by decide) rfl (fun ls hl => ?_)
  refine lv_iconst (v := (nI 0)) hx hb dX5_typeBehind_2 (by decide) ?_
  refine lv_istore (lv' := [(4, .int (nI 0)), (3, .int gm1), (0, .ref (ad p0)), (1, .int a1), (2, .int a2)]) hx hb dX5_typeBehind_3 hl (by decide) rfl (fun ls hl => ?_)
  exact j5 a1 a2 gF gm1 (nI 0) _ _ ls h hP hS (lv_sub hl [2, 3, 4, 1, 0] rfl)
theorem in_X5_become_X5 : ∀ w ∈ wsX50, w ∈ wsX5_become := fun w h => List.mem_cons_of_mem _ (List.mem_append_right _ (h))
theorem hdV_X5_become : yX5_become.cls = RX5 ∧ yX5_become.cls ≠ "java/lang/invoke/MethodHandle" ∧ yX5_become.cls ≠ "java/lang/invoke/VarHandle" ∧ (parseMethodDescriptor yX5_become.desc).map (fun d => d.parameters.length) = some 1 := by decide +kernel
set_option maxHeartbeats 4000000 in
set_option maxRecDepth 100000 in
theorem k_X5_become (l : Launch) (D : va_G) (cA : Nat → ClassId) (ad : Nat → Nat) (tw : Nat) (hG : gOk ad 315) (z : gS) (p0 : Nat) (hp0 : gC5 p0) (p1 : Nat) (hp1 : gC5 p1) (res : gS) (h : f_X5_become p0 p1 z = some res) : gMv l yX5_become wsX5_become (gRm 1 60) D cA ad tw shX 315 [.ref (ad p0), .ref (ad p1)] z res := by
  refine Met.ofW (cc := cX5_become) (maxL := 2) (ret := none) (by decide) rfl ?_
  intro p e s m args below meth c s₁ B hml hv
  obtain ⟨rfl, hP, hK, hZ⟩ := hv
  have hx := B.exec
  have hb := B.bytes
  have hr := B.returns
  have hts := atoms_spec (ws := wsX5_become) B.pre
  have hown : s.vm.findClass RX5 = some m.cls := findClass_of_methodNamed B.named
  have hlocks := B.notSynchronized
  have hS : va_S (gA ad 315) s.heap s.heap [] := va_S.rf
  have hl := lv_entry ([.ref (ad p0), .ref (ad p1)]) (n := 2) (Nat.le_of_ble_eq_true rfl)
  rw [lg_entry_eq]
  generalize (lg_sl ([.ref (ad p0), .ref (ad p1)]) ++ List.replicate (2 - (lg_sl ([.ref (ad p0), .ref (ad p1)])).length) Slot.unset).toArray = ls at hl ⊢
  have hl : lv_has ls 2 [(0, .ref (ad p0)), (1, .ref (ad p1))] := hl
  unfold f_X5_become at h
  refine lv_aload_n hx hb dX5_become_0 rfl (lv_at hl 0 rfl) ?_
  refine lv_aload_n hx hb dX5_become_1 rfl (lv_at hl 1 rfl) ?_
  refine fw_geti hx hb hts in_X5_become_X5 hown hK hP hp1.1.1 hp1.1.2 rfl 0 (by decide) rfl (hts _ (List.mem_of_getElem? (i := 1) rfl)) rfl dX5_become_2 ?_
  refine fw_put hx hb hts in_X5_become_X5 tyX5_ok nmX5 hown hK hG hP hS hp0.1.1 hp0.1.2 rfl 0 (by decide) rfl (hts _ (List.mem_of_getElem? (i := 1) rfl)) rfl rfl (ty := .int) rfl rfl rfl dX5_become_5 (fun z1 H locs ez1 hP hS => ?_)
  replace h := gl_s h ez1
  refine lv_aload_n hx hb dX5_become_8 rfl (lv_at hl 0 rfl) ?_
  refine lv_aload_n hx hb dX5_become_9 rfl (lv_at hl 1 rfl) ?_
  refine fw_geti hx hb hts in_X5_become_X5 hown hK hP hp1.1.1 hp1.1.2 rfl 1 (by decide) rfl (hts _ (List.mem_of_getElem? (i := 2) rfl)) rfl dX5_become_10 ?_
  refine fw_put hx hb hts in_X5_become_X5 tyX5_ok nmX5 hown hK hG hP hS hp0.1.1 hp0.1.2 rfl 1 (by decide) rfl (hts _ (List.mem_of_getElem? (i := 2) rfl)) rfl rfl (ty := .int) rfl rfl rfl dX5_become_13 (fun z2 H locs ez2 hP hS => ?_)
  replace h := gl_s h ez2
  refine lv_aload_n hx hb dX5_become_16 rfl (lv_at hl 1 rfl) ?_
  refine fw_getr hx hb hts in_X5_become_X5 hown hK hP hp1.1.1 hp1.1.2 rfl 2 (by decide) rfl (hts _ (List.mem_of_getElem? (i := 3) rfl)) rfl dX5_become_17 ?_
  refine lv_iconst (v := (nI 0)) hx hb dX5_become_20 (by decide) ?_
  refine lv_aload_n hx hb dX5_become_21 rfl (lv_at hl 0 rfl) ?_
  refine fw_getr hx hb hts in_X5_become_X5 hown hK hP hp0.1.1 hp0.1.2 rfl 2 (by decide) rfl (hts _ (List.mem_of_getElem? (i := 3) rfl)) rfl dX5_become_22 ?_
  refine lv_iconst (v := (nI 0)) hx hb dX5_become_25 (by decide) ?_
  refine lv_bipush (v := (nI 7)) hx hb dX5_become_26 (by decide) ?_
  obtain ⟨h3, h⟩ := gc_s h
  refine fw_copy hx hb (by rw [hml]; exact hl.1.symm) hown (hts _ (List.mem_of_getElem? (i := 4) rfl)) (hts _ (List.mem_of_getElem? (i := 5) rfl)) (hts _ (List.mem_of_getElem? (i := 6) rfl)) (hts _ (List.mem_of_getElem? (i := 7) rfl)) hK hG hP hS hp1.2.1.1 hp1.2.1.2 hp0.2.1.1 hp0.2.1.2 h3 (Nat.le_of_ble_eq_true rfl) (Nat.le_of_ble_eq_true rfl) dX5_become_28 (fun z4 H locs ez4 hP hS => ?_)
  replace h := gl_s h ez4
  refine lv_aload_n hx hb dX5_become_31 rfl (lv_at hl 1 rfl) ?_
  refine fw_getr hx hb hts in_X5_become_X5 hown hK hP hp1.1.1 hp1.1.2 rfl 3 (by decide) rfl (hts _ (List.mem_of_getElem? (i := 8) rfl)) rfl dX5_become_32 ?_
  refine lv_iconst (v := (nI 0)) hx hb dX5_become_35 (by decide) ?_
  refine lv_aload_n hx hb dX5_become_36 rfl (lv_at hl 0 rfl) ?_
  refine fw_getr hx hb hts in_X5_become_X5 hown hK hP hp0.1.1 hp0.1.2 rfl 3 (by decide) rfl (hts _ (List.mem_of_getElem? (i := 8) rfl)) rfl dX5_become_37 ?_
  refine lv_iconst (v := (nI 0)) hx hb dX5_become_40 (by decide) ?_
  refine lv_bipush (v := (nI 7)) hx hb dX5_become_41 (by decide) ?_
  obtain ⟨h5, h⟩ := gc_s h
  refine fw_copy hx hb (by rw [hml]; exact hl.1.symm) hown (hts _ (List.mem_of_getElem? (i := 4) rfl)) (hts _ (List.mem_of_getElem? (i := 5) rfl)) (hts _ (List.mem_of_getElem? (i := 6) rfl)) (hts _ (List.mem_of_getElem? (i := 7) rfl)) hK hG hP hS hp1.2.2.1.1 hp1.2.2.1.2 hp0.2.2.1.1 hp0.2.2.1.2 h5 (Nat.le_of_ble_eq_true rfl) (Nat.le_of_ble_eq_true rfl) dX5_become_43 (fun z6 H locs ez6 hP hS => ?_)
  replace h := gl_s h ez6
  refine lv_aload_n hx hb dX5_become_46 rfl (lv_at hl 1 rfl) ?_
  refine fw_getr hx hb hts in_X5_become_X5 hown hK hP hp1.1.1 hp1.1.2 rfl 4 (by decide) rfl (hts _ (List.mem_of_getElem? (i := 9) rfl)) rfl dX5_become_47 ?_
  refine lv_iconst (v := (nI 0)) hx hb dX5_become_50 (by decide) ?_
  refine lv_aload_n hx hb dX5_become_51 rfl (lv_at hl 0 rfl) ?_
  refine fw_getr hx hb hts in_X5_become_X5 hown hK hP hp0.1.1 hp0.1.2 rfl 4 (by decide) rfl (hts _ (List.mem_of_getElem? (i := 9) rfl)) rfl dX5_become_52 ?_
  refine lv_iconst (v := (nI 0)) hx hb dX5_become_55 (by decide) ?_
  refine lv_bipush (v := (nI 8)) hx hb dX5_become_56 (by decide) ?_
  obtain ⟨h7, h⟩ := gc_s h
  refine fw_copy hx hb (by rw [hml]; exact hl.1.symm) hown (hts _ (List.mem_of_getElem? (i := 4) rfl)) (hts _ (List.mem_of_getElem? (i := 5) rfl)) (hts _ (List.mem_of_getElem? (i := 6) rfl)) (hts _ (List.mem_of_getElem? (i := 7) rfl)) hK hG hP hS hp1.2.2.2.1 hp1.2.2.2.2 hp0.2.2.2.1 hp0.2.2.2.2 h7 (Nat.le_of_ble_eq_true rfl) (Nat.le_of_ble_eq_true rfl) dX5_become_58 (fun z8 H locs ez8 hP hS => ?_)
  replace h := gl_s h ez8
  exact fw_vret hx hb hr hlocks (Option.some.inj h) hK hZ hP hS dX5_become_61
theorem in_X5_knows_X5 : ∀ w ∈ wsX50, w ∈ wsX5_knows := fun w h => List.mem_cons_of_mem _ (List.mem_append_right _ (h))
theorem hdV_X5_knows : yX5_knows.cls = RX5 ∧ yX5_knows.cls ≠ "java/lang/invoke/MethodHandle" ∧ yX5_knows.cls ≠ "java/lang/invoke/VarHandle" ∧ (parseMethodDescriptor yX5_knows.desc).map (fun d => d.parameters.length) = some 1 := by decide +kernel
set_option maxHeartbeats 4000000 in
set_option maxRecDepth 100000 in
theorem k_X5_knows (l : Launch) (D : va_G) (cA : Nat → ClassId) (ad : Nat → Nat) (tw : Nat) (hG : gOk ad 315) (z : gS) (p0 : Nat) (hp0 : gC5 p0) (a1 : Int32) (res : Int32) (h : f_X5_knows p0 a1 z = some res) : gMi l yX5_knows wsX5_knows (gRm 0 0) D cA ad tw shX 315 [.ref (ad p0), .int a1] z (res, z) := by
  refine Met.ofW (cc := cX5_knows) (maxL := 2) (ret := (some .boolean)) (by decide) rfl ?_
  intro p e s m args below meth c s₁ B hml hv
  obtain ⟨rfl, hP, hK, hZ⟩ := hv
  have hx := B.exec
  have hb := B.bytes
  have hr := B.returns
  have hts := atoms_spec (ws := wsX5_knows) B.pre
  have hown : s.vm.findClass RX5 = some m.cls := findClass_of_methodNamed B.named
  have hlocks := B.notSynchronized
  have hS : va_S (gA ad 315) s.heap s.heap [] := va_S.rf
  have hl := lv_entry ([.ref (ad p0), .int a1]) (n := 2) (Nat.le_of_ble_eq_true rfl)
  rw [lg_entry_eq]
  generalize (lg_sl ([.ref (ad p0), .int a1]) ++ List.replicate (2 - (lg_sl ([.ref (ad p0), .int a1])).length) Slot.unset).toArray = ls at hl ⊢
  have hl : lv_has ls 2 [(0, .ref (ad p0)), (1, .int a1)] := hl
  unfold f_X5_knows at h
  refine lv_iload_n hx hb dX5_knows_0 rfl (lv_at hl 1 rfl) ?_
  refine lv_if_lt (tgt := 16) hx hb dX5_knows_1 (by decide) (fun c1 => ?_) (fun c1 => ?_)
  · replace h := gif_t h c1
    refine lv_iconst (v := (nI 0)) hx hb dX5_knows_16 (by decide) ?_
    exact fw_iretz hx hb hr hlocks (by decide) (congrArg (fun q => (q, z)) (Option.some.inj h)) hK hZ hP hS dX5_knows_17
  · replace h := gif_f h c1
    refine lv_iload_n hx hb dX5_knows_4 rfl (lv_at hl 1 rfl) ?_
    refine lv_aload_n hx hb dX5_knows_5 rfl (lv_at hl 0 rfl) ?_
    refine fw_geti hx hb hts in_X5_knows_X5 hown hK hP hp0.1.1 hp0.1.2 rfl 1 (by decide) rfl (hts _ (List.mem_of_getElem? (i := 1) rfl)) rfl dX5_knows_6 ?_
    refine lv_icmp_ge (tgt := 16) hx hb dX5_knows_9 (by decide) (fun c2 => ?_) (fun c2 => ?_)
    · replace h := gif_t h c2
      refine lv_iconst (v := (nI 0)) hx hb dX5_knows_16 (by decide) ?_
      exact fw_iretz hx hb hr hlocks (by decide) (congrArg (fun q => (q, z)) (Option.some.inj h)) hK hZ hP hS dX5_knows_17
    · replace h := gif_f h c2
      refine lv_iconst (v := (nI 1)) hx hb dX5_knows_12 (by decide) ?_
      refine lv_goto (tgt := 17) hx hb dX5_knows_13 (by decide) ?_
      exact fw_iretz hx hb hr hlocks (by decide) (congrArg (fun q => (q, z)) (Option.some.inj h)) hK hZ hP hS dX5_knows_17
theorem in_X5_everything_X5 : ∀ w ∈ wsX50, w ∈ wsX5_everything := fun w h => List.mem_cons_of_mem _ (List.mem_append_right _ (h))
theorem hdV_X5_everything : yX5_everything.cls = RX5 ∧ yX5_everything.cls ≠ "java/lang/invoke/MethodHandle" ∧ yX5_everything.cls ≠ "java/lang/invoke/VarHandle" ∧ (parseMethodDescriptor yX5_everything.desc).map (fun d => d.parameters.length) = some 0 := by decide +kernel
set_option maxHeartbeats 4000000 in
set_option maxRecDepth 100000 in
theorem k_X5_everything (l : Launch) (D : va_G) (cA : Nat → ClassId) (ad : Nat → Nat) (tw : Nat) (hG : gOk ad 315) (z : gS) (p0 : Nat) (hp0 : gC5 p0) (res : Int32) (h : f_X5_everything p0 z = some res) : gMi l yX5_everything wsX5_everything (gRm 0 0) D cA ad tw shX 315 [.ref (ad p0)] z (res, z) := by
  refine Met.ofW (cc := cX5_everything) (maxL := 1) (ret := (some .int)) (by decide) rfl ?_
  intro p e s m args below meth c s₁ B hml hv
  obtain ⟨rfl, hP, hK, hZ⟩ := hv
  have hx := B.exec
  have hb := B.bytes
  have hr := B.returns
  have hts := atoms_spec (ws := wsX5_everything) B.pre
  have hown : s.vm.findClass RX5 = some m.cls := findClass_of_methodNamed B.named
  have hlocks := B.notSynchronized
  have hS : va_S (gA ad 315) s.heap s.heap [] := va_S.rf
  have hl := lv_entry ([.ref (ad p0)]) (n := 1) (Nat.le_of_ble_eq_true rfl)
  rw [lg_entry_eq]
  generalize (lg_sl ([.ref (ad p0)]) ++ List.replicate (1 - (lg_sl ([.ref (ad p0)])).length) Slot.unset).toArray = ls at hl ⊢
  have hl : lv_has ls 1 [(0, .ref (ad p0))] := hl
  unfold f_X5_everything at h
  refine lv_iconst (v := (nI 1)) hx hb dX5_everything_0 (by decide) ?_
  refine lv_aload_n hx hb dX5_everything_1 rfl (lv_at hl 0 rfl) ?_
  refine fw_geti hx hb hts in_X5_everything_X5 hown hK hP hp0.1.1 hp0.1.2 rfl 1 (by decide) rfl (hts _ (List.mem_of_getElem? (i := 1) rfl)) rfl dX5_everything_2 ?_
  refine lv_ishl hx hb dX5_everything_5 ?_
  refine lv_iconst (v := (nI 1)) hx hb dX5_everything_6 (by decide) ?_
  refine lv_isub hx hb dX5_everything_7 ?_
  exact fw_ireti hx hb hr hlocks (congrArg (fun q => (q, z)) (Option.some.inj h)) hK hZ hP hS dX5_everything_8
theorem in_X5_dig_X5 : ∀ w ∈ wsX50, w ∈ wsX5_dig := fun w h => List.mem_cons_of_mem _ (List.mem_append_right _ (h))
theorem hdV_X5_dig : yX5_dig.cls = RX5 ∧ yX5_dig.cls ≠ "java/lang/invoke/MethodHandle" ∧ yX5_dig.cls ≠ "java/lang/invoke/VarHandle" ∧ (parseMethodDescriptor yX5_dig.desc).map (fun d => d.parameters.length) = some 1 := by decide +kernel
set_option maxHeartbeats 4000000 in
set_option maxRecDepth 100000 in
theorem k_X5_dig (l : Launch) (D : va_G) (cA : Nat → ClassId) (ad : Nat → Nat) (tw : Nat) (hG : gOk ad 315) (z : gS) (p0 : Nat) (hp0 : gC5 p0) (a1 : Int32) (res : Int32 × gS) (h : f_X5_dig p0 a1 z = some res) : gMi l yX5_dig wsX5_dig (gRm 0 0) D cA ad tw shX 315 [.ref (ad p0), .int a1] z res := by
  refine Met.ofW (cc := cX5_dig) (maxL := 2) (ret := (some .int)) (by decide) rfl ?_
  intro p e s m args below meth c s₁ B hml hv
  obtain ⟨rfl, hP, hK, hZ⟩ := hv
  have hx := B.exec
  have hb := B.bytes
  have hr := B.returns
  have hts := atoms_spec (ws := wsX5_dig) B.pre
  have hown : s.vm.findClass RX5 = some m.cls := findClass_of_methodNamed B.named
  have hlocks := B.notSynchronized
  have hS : va_S (gA ad 315) s.heap s.heap [] := va_S.rf
  have hl := lv_entry ([.ref (ad p0), .int a1]) (n := 2) (Nat.le_of_ble_eq_true rfl)
  rw [lg_entry_eq]
  generalize (lg_sl ([.ref (ad p0), .int a1]) ++ List.replicate (2 - (lg_sl ([.ref (ad p0), .int a1])).length) Slot.unset).toArray = ls at hl ⊢
  have hl : lv_has ls 2 [(0, .ref (ad p0)), (1, .int a1)] := hl
  unfold f_X5_dig at h
  refine lv_aload_n hx hb dX5_dig_0 rfl (lv_at hl 0 rfl) ?_
  refine fw_geti hx hb hts in_X5_dig_X5 hown hK hP hp0.1.1 hp0.1.2 rfl 0 (by decide) rfl (hts _ (List.mem_of_getElem? (i := 1) rfl)) rfl dX5_dig_1 ?_
  refine lv_bipush (v := (nI 7)) hx hb dX5_dig_4 (by decide) ?_
  refine lv_icmp_lt (tgt := 11) hx hb dX5_dig_6 (by decide) (fun c1 => ?_) (fun c1 => ?_)
  · replace h := gif_t h c1
    refine lv_aload_n hx hb dX5_dig_11 rfl (lv_at hl 0 rfl) ?_
    refine fw_getr hx hb hts in_X5_dig_X5 hown hK hP hp0.1.1 hp0.1.2 rfl 2 (by decide) rfl (hts _ (List.mem_of_getElem? (i := 2) rfl)) rfl dX5_dig_12 ?_
    refine lv_aload_n hx hb dX5_dig_15 rfl (lv_at hl 0 rfl) ?_
    refine fw_geti hx hb hts in_X5_dig_X5 hown hK hP hp0.1.1 hp0.1.2 rfl 0 (by decide) rfl (hts _ (List.mem_of_getElem? (i := 1) rfl)) rfl dX5_dig_16 ?_
    refine lv_iload_n hx hb dX5_dig_19 rfl (lv_at hl 1 rfl) ?_
    obtain ⟨h2, h⟩ := gg_s h
    refine fw_iast hx hb hK hG hP hS hp0.2.1.1 hp0.2.1.2 h2 dX5_dig_20 (fun z3 H locs ez3 hP hS => ?_)
    replace h := gl_s h ez3
    refine lv_aload_n hx hb dX5_dig_21 rfl (lv_at hl 0 rfl) ?_
    refine fw_getr hx hb hts in_X5_dig_X5 hown hK hP hp0.1.1 hp0.1.2 rfl 3 (by decide) rfl (hts _ (List.mem_of_getElem? (i := 3) rfl)) rfl dX5_dig_22 ?_
    refine lv_aload_n hx hb dX5_dig_25 rfl (lv_at hl 0 rfl) ?_
    refine fw_geti hx hb hts in_X5_dig_X5 hown hK hP hp0.1.1 hp0.1.2 rfl 0 (by decide) rfl (hts _ (List.mem_of_getElem? (i := 1) rfl)) rfl dX5_dig_26 ?_
    refine lv_iconst (v := (nI 0)) hx hb dX5_dig_29 (by decide) ?_
    obtain ⟨h4, h⟩ := gg_s h
    refine fw_iast hx hb hK hG hP hS hp0.2.2.1.1 hp0.2.2.1.2 h4 dX5_dig_30 (fun z5 H locs ez5 hP hS => ?_)
    replace h := gl_s h ez5
    refine lv_aload_n hx hb dX5_dig_31 rfl (lv_at hl 0 rfl) ?_
    refine lv_dup hx hb dX5_dig_32 rfl ?_
    refine fw_geti hx hb hts in_X5_dig_X5 hown hK hP hp0.1.1 hp0.1.2 rfl 0 (by decide) rfl (hts _ (List.mem_of_getElem? (i := 1) rfl)) rfl dX5_dig_33 ?_
    refine lv_dup_x1 hx hb dX5_dig_36 rfl rfl ?_
    refine lv_iconst (v := (nI 1)) hx hb dX5_dig_37 (by decide) ?_
    refine lv_iadd hx hb dX5_dig_38 ?_
    refine fw_put hx hb hts in_X5_dig_X5 tyX5_ok nmX5 hown hK hG hP hS hp0.1.1 hp0.1.2 rfl 0 (by decide) rfl (hts _ (List.mem_of_getElem? (i := 1) rfl)) rfl rfl (ty := .int) rfl rfl rfl dX5_dig_39 (fun z6 H locs ez6 hP hS => ?_)
    replace h := gl_s h ez6
    exact fw_ireti hx hb hr hlocks (Option.some.inj h) hK hZ hP hS dX5_dig_42
  · replace h := gif_f h c1
    refine lv_iconst (v := gm1) hx hb dX5_dig_9 (by decide) ?_
    exact fw_ireti hx hb hr hlocks (Option.some.inj h) hK hZ hP hS dX5_dig_10
theorem in_X5_remove_X5 : ∀ w ∈ wsX50, w ∈ wsX5_remove := fun w h => List.mem_cons_of_mem _ (List.mem_append_right _ (h))
theorem hdV_X5_remove : yX5_remove.cls = RX5 ∧ yX5_remove.cls ≠ "java/lang/invoke/MethodHandle" ∧ yX5_remove.cls ≠ "java/lang/invoke/VarHandle" ∧ (parseMethodDescriptor yX5_remove.desc).map (fun d => d.parameters.length) = some 1 := by decide +kernel
set_option maxHeartbeats 4000000 in
set_option maxRecDepth 100000 in
theorem k_X5_remove (l : Launch) (D : va_G) (cA : Nat → ClassId) (ad : Nat → Nat) (tw : Nat) (hG : gOk ad 315) (z : gS) (p0 : Nat) (hp0 : gC5 p0) (a1 : Int32) (res : gS) (h : f_X5_remove p0 a1 z = some res) : gMv l yX5_remove wsX5_remove (gRm 0 0) D cA ad tw shX 315 [.ref (ad p0), .int a1] z res := by
  refine Met.ofW (cc := cX5_remove) (maxL := 3) (ret := none) (by decide) rfl ?_
  intro p e s m args below meth c s₁ B hml hv
  obtain ⟨rfl, hP, hK, hZ⟩ := hv
  have hx := B.exec
  have hb := B.bytes
  have hr := B.returns
  have hts := atoms_spec (ws := wsX5_remove) B.pre
  have hown : s.vm.findClass RX5 = some m.cls := findClass_of_methodNamed B.named
  have hlocks := B.notSynchronized
  have hS : va_S (gA ad 315) s.heap s.heap [] := va_S.rf
  have hl := lv_entry ([.ref (ad p0), .int a1]) (n := 3) (Nat.le_of_ble_eq_true rfl)
  rw [lg_entry_eq]
  generalize (lg_sl ([.ref (ad p0), .int a1]) ++ List.replicate (3 - (lg_sl ([.ref (ad p0), .int a1])).length) Slot.unset).toArray = ls at hl ⊢
  have hl : lv_has ls 3 [(0, .ref (ad p0)), (1, .int a1)] := hl
  have j2 : ∀  (n : Nat) (x2 : Int32) (z : gS) (H : Heap) (locs : List Loc) (ls : Array Slot), f_X5_remove_2 p0 n x2 z = some res → va_P D vwCl (gw cA ad shX 315 z) H → va_S (gA ad 315) s.heap H locs → lv_has ls 3 [(0, .ref (ad p0)), (2, .int x2)] → W p l e (headSpec wsX5_remove (gRm 0 0)).room s m ([.ref (ad p0), .int a1] : List Value).toArray below meth c H locs 0 0 (MQ below (va_Qv (fun u => u = res) (gPr D cA ad tw shX 315) (gA ad 315)) ([.ref (ad p0), .int a1] : List Value).toArray s 0 0 (gA ad 315)) (F0 m 2 ls []) := by
    intro n
    induction n with
    | zero => intro x2 z H locs ls h; exact (gno h).elim
    | succ n hK2 =>
      intro x2 z H locs ls h hP hS hl
      replace h : f_X5_remove_2_b p0 (f_X5_remove_2 p0 n) x2 z = some res := h
      unfold f_X5_remove_2_b at h
      refine lv_iload_n hx hb dX5_remove_2 rfl (lv_at hl 1 rfl) ?_
      refine lv_iconst (v := (nI 1)) hx hb dX5_remove_3 (by decide) ?_
      refine lv_iadd hx hb dX5_remove_4 ?_
      refine lv_aload_n hx hb dX5_remove_5 rfl (lv_at hl 0 rfl) ?_
      refine fw_geti hx hb hts in_X5_remove_X5 hown hK hP hp0.1.1 hp0.1.2 rfl 0 (by decide) rfl (hts _ (List.mem_of_getElem? (i := 1) rfl)) rfl dX5_remove_6 ?_
      refine lv_icmp_ge (tgt := 46) hx hb dX5_remove_9 (by decide) (fun c1 => ?_) (fun c1 => ?_)
      · replace h := gif_t h c1
        refine lv_aload_n hx hb dX5_remove_46 rfl (lv_at hl 0 rfl) ?_
        refine lv_dup hx hb dX5_remove_47 rfl ?_
        refine fw_geti hx hb hts in_X5_remove_X5 hown hK hP hp0.1.1 hp0.1.2 rfl 0 (by decide) rfl (hts _ (List.mem_of_getElem? (i := 1) rfl)) rfl dX5_remove_48 ?_
        refine lv_iconst (v := (nI 1)) hx hb dX5_remove_51 (by decide) ?_
        refine lv_isub hx hb dX5_remove_52 ?_
        refine fw_put hx hb hts in_X5_remove_X5 tyX5_ok nmX5 hown hK hG hP hS hp0.1.1 hp0.1.2 rfl 0 (by decide) rfl (hts _ (List.mem_of_getElem? (i := 1) rfl)) rfl rfl (ty := .int) rfl rfl rfl dX5_remove_53 (fun z2 H locs ez2 hP hS => ?_)
        replace h := gl_s h ez2
        exact fw_vret hx hb hr hlocks (Option.some.inj h) hK hZ hP hS dX5_remove_56
      · replace h := gif_f h c1
        refine lv_aload_n hx hb dX5_remove_12 rfl (lv_at hl 0 rfl) ?_
        refine fw_getr hx hb hts in_X5_remove_X5 hown hK hP hp0.1.1 hp0.1.2 rfl 2 (by decide) rfl (hts _ (List.mem_of_getElem? (i := 2) rfl)) rfl dX5_remove_13 ?_
        refine lv_iload_n hx hb dX5_remove_16 rfl (lv_at hl 1 rfl) ?_
        refine lv_aload_n hx hb dX5_remove_17 rfl (lv_at hl 0 rfl) ?_
        refine fw_getr hx hb hts in_X5_remove_X5 hown hK hP hp0.1.1 hp0.1.2 rfl 2 (by decide) rfl (hts _ (List.mem_of_getElem? (i := 2) rfl)) rfl dX5_remove_18 ?_
        refine lv_iload_n hx hb dX5_remove_21 rfl (lv_at hl 1 rfl) ?_
        refine lv_iconst (v := (nI 1)) hx hb dX5_remove_22 (by decide) ?_
        refine lv_iadd hx hb dX5_remove_23 ?_
        obtain ⟨h3, h⟩ := gg_s h
        refine fw_iald hx hb hK hP hp0.2.1.1 hp0.2.1.2 h3 dX5_remove_24 ?_
        obtain ⟨h4, h⟩ := gg_s h
        refine fw_iast hx hb hK hG hP hS hp0.2.1.1 hp0.2.1.2 h4 dX5_remove_25 (fun z5 H locs ez5 hP hS => ?_)
        replace h := gl_s h ez5
        refine lv_aload_n hx hb dX5_remove_26 rfl (lv_at hl 0 rfl) ?_
        refine fw_getr hx hb hts in_X5_remove_X5 hown hK hP hp0.1.1 hp0.1.2 rfl 3 (by decide) rfl (hts _ (List.mem_of_getElem? (i := 3) rfl)) rfl dX5_remove_27 ?_
        refine lv_iload_n hx hb dX5_remove_30 rfl (lv_at hl 1 rfl) ?_
        refine lv_aload_n hx hb dX5_remove_31 rfl (lv_at hl 0 rfl) ?_
        refine fw_getr hx hb hts in_X5_remove_X5 hown hK hP hp0.1.1 hp0.1.2 rfl 3 (by decide) rfl (hts _ (List.mem_of_getElem? (i := 3) rfl)) rfl dX5_remove_32 ?_
        refine lv_iload_n hx hb dX5_remove_35 rfl (lv_at hl 1 rfl) ?_
        refine lv_iconst (v := (nI 1)) hx hb dX5_remove_36 (by decide) ?_
        refine lv_iadd hx hb dX5_remove_37 ?_
        obtain ⟨h6, h⟩ := gg_s h
        refine fw_iald hx hb hK hP hp0.2.2.1.1 hp0.2.2.1.2 h6 dX5_remove_38 ?_
        obtain ⟨h7, h⟩ := gg_s h
        refine fw_iast hx hb hK hG hP hS hp0.2.2.1.1 hp0.2.2.1.2 h7 dX5_remove_39 (fun z8 H locs ez8 hP hS => ?_)
        replace h := gl_s h ez8
        refine lv_iinc (v := x2 + (nI 1)) (lv' := [(2, .int (x2 + (nI 1))), (0, .ref (ad p0))]) hx hb dX5_remove_40 hl (k := 1) rfl rfl (by decide) rfl (fun ls hl => ?_)
        refine lv_goto (tgt := 2) hx hb dX5_remove_43 (by decide) ?_
        exact hK2 (x2 + (nI 1)) z8 _ _ ls h hP hS (lv_sub hl [1, 0] rfl)
  unfold f_X5_remove at h
  refine lv_iload_n hx hb dX5_remove_0 rfl (lv_at hl 1 rfl) ?_
  refine lv_istore_n (lv' := [(2, .int a1), (0, .ref (ad p0)), (1, .int a1)]) hx hb dX5_remove_1 rfl hl (by decide) rfl (fun ls hl => ?_)
  exact j2  gF a1 z _ _ ls h hP hS (lv_sub hl [1, 0] rfl)
theorem in_X5_named_X5 : ∀ w ∈ wsX50, w ∈ wsX5_named := fun w h => List.mem_cons_of_mem _ (List.mem_append_right _ (h))
theorem hdV_X5_named : yX5_named.cls = RX5 ∧ yX5_named.cls ≠ "java/lang/invoke/MethodHandle" ∧ yX5_named.cls ≠ "java/lang/invoke/VarHandle" ∧ (parseMethodDescriptor yX5_named.desc).map (fun d => d.parameters.length) = some 1 := by decide +kernel
set_option maxHeartbeats 4000000 in
set_option maxRecDepth 100000 in
theorem k_X5_named (l : Launch) (D : va_G) (cA : Nat → ClassId) (ad : Nat → Nat) (tw : Nat) (hG : gOk ad 315) (z : gS) (p0 : Nat) (hp0 : gC5 p0) (a1 : Int32) (res : Int32 × gS) (h : f_X5_named p0 a1 z = some res) : gMi l yX5_named wsX5_named (gRm 0 0) D cA ad tw shX 315 [.ref (ad p0), .int a1] z res := by
  refine Met.ofW (cc := cX5_named) (maxL := 3) (ret := (some .int)) (by decide) rfl ?_
  intro p e s m args below meth c s₁ B hml hv
  obtain ⟨rfl, hP, hK, hZ⟩ := hv
  have hx := B.exec
  have hb := B.bytes
  have hr := B.returns
  have hts := atoms_spec (ws := wsX5_named) B.pre
  have hown : s.vm.findClass RX5 = some m.cls := findClass_of_methodNamed B.named
  have hlocks := B.notSynchronized
  have hS : va_S (gA ad 315) s.heap s.heap [] := va_S.rf
  have hl := lv_entry ([.ref (ad p0), .int a1]) (n := 3) (Nat.le_of_ble_eq_true rfl)
  rw [lg_entry_eq]
  generalize (lg_sl ([.ref (ad p0), .int a1]) ++ List.replicate (3 - (lg_sl ([.ref (ad p0), .int a1])).length) Slot.unset).toArray = ls at hl ⊢
  have hl : lv_has ls 3 [(0, .ref (ad p0)), (1, .int a1)] := hl
  have j2 : ∀ (z : gS) (x1 : Int32) (n : Nat) (x2 : Int32) (H : Heap) (locs : List Loc) (ls : Array Slot), f_X5_named_2 p0 z x1 n x2 = some res → va_P D vwCl (gw cA ad shX 315 z) H → va_S (gA ad 315) s.heap H locs → lv_has ls 3 [(0, .ref (ad p0)), (1, .int x1), (2, .int x2)] → W p l e (headSpec wsX5_named (gRm 0 0)).room s m ([.ref (ad p0), .int a1] : List Value).toArray below meth c H locs 0 0 (MQ below (va_Qi (fun r u => (r, u) = res) (gPr D cA ad tw shX 315) (gA ad 315)) ([.ref (ad p0), .int a1] : List Value).toArray s 0 0 (gA ad 315)) (F0 m 2 ls []) := by
    intro z x1 n
    induction n with
    | zero => intro x2 H locs ls h; exact (gno h).elim
    | succ n hK2 =>
      intro x2 H locs ls h hP hS hl
      replace h : f_X5_named_2_b p0 z x1 (f_X5_named_2 p0 z x1 n) x2 = some res := h
      unfold f_X5_named_2_b at h
      refine lv_iload_n hx hb dX5_named_2 rfl (lv_at hl 2 rfl) ?_
      refine lv_aload_n hx hb dX5_named_3 rfl (lv_at hl 0 rfl) ?_
      refine fw_geti hx hb hts in_X5_named_X5 hown hK hP hp0.1.1 hp0.1.2 rfl 1 (by decide) rfl (hts _ (List.mem_of_getElem? (i := 1) rfl)) rfl dX5_named_4 ?_
      refine lv_icmp_ge (tgt := 28) hx hb dX5_named_7 (by decide) (fun c1 => ?_) (fun c1 => ?_)
      · replace h := gif_t h c1
        refine lv_aload_n hx hb dX5_named_28 rfl (lv_at hl 0 rfl) ?_
        refine fw_geti hx hb hts in_X5_named_X5 hown hK hP hp0.1.1 hp0.1.2 rfl 1 (by decide) rfl (hts _ (List.mem_of_getElem? (i := 1) rfl)) rfl dX5_named_29 ?_
        refine lv_bipush (v := (nI 8)) hx hb dX5_named_32 (by decide) ?_
        refine lv_icmp_lt (tgt := 39) hx hb dX5_named_34 (by decide) (fun c2 => ?_) (fun c2 => ?_)
        · replace h := gif_t h c2
          refine lv_aload_n hx hb dX5_named_39 rfl (lv_at hl 0 rfl) ?_
          refine fw_getr hx hb hts in_X5_named_X5 hown hK hP hp0.1.1 hp0.1.2 rfl 4 (by decide) rfl (hts _ (List.mem_of_getElem? (i := 2) rfl)) rfl dX5_named_40 ?_
          refine lv_aload_n hx hb dX5_named_43 rfl (lv_at hl 0 rfl) ?_
          refine fw_geti hx hb hts in_X5_named_X5 hown hK hP hp0.1.1 hp0.1.2 rfl 1 (by decide) rfl (hts _ (List.mem_of_getElem? (i := 1) rfl)) rfl dX5_named_44 ?_
          refine lv_iload_n hx hb dX5_named_47 rfl (lv_at hl 1 rfl) ?_
          obtain ⟨h3, h⟩ := gg_s h
          refine fw_iast hx hb hK hG hP hS hp0.2.2.2.1 hp0.2.2.2.2 h3 dX5_named_48 (fun z4 H locs ez4 hP hS => ?_)
          replace h := gl_s h ez4
          refine lv_aload_n hx hb dX5_named_49 rfl (lv_at hl 0 rfl) ?_
          refine lv_dup hx hb dX5_named_50 rfl ?_
          refine fw_geti hx hb hts in_X5_named_X5 hown hK hP hp0.1.1 hp0.1.2 rfl 1 (by decide) rfl (hts _ (List.mem_of_getElem? (i := 1) rfl)) rfl dX5_named_51 ?_
          refine lv_dup_x1 hx hb dX5_named_54 rfl rfl ?_
          refine lv_iconst (v := (nI 1)) hx hb dX5_named_55 (by decide) ?_
          refine lv_iadd hx hb dX5_named_56 ?_
          refine fw_put hx hb hts in_X5_named_X5 tyX5_ok nmX5 hown hK hG hP hS hp0.1.1 hp0.1.2 rfl 1 (by decide) rfl (hts _ (List.mem_of_getElem? (i := 1) rfl)) rfl rfl (ty := .int) rfl rfl rfl dX5_named_57 (fun z5 H locs ez5 hP hS => ?_)
          replace h := gl_s h ez5
          exact fw_ireti hx hb hr hlocks (Option.some.inj h) hK hZ hP hS dX5_named_60
        · replace h := gif_f h c2
          refine lv_iconst (v := gm1) hx hb dX5_named_37 (by decide) ?_
          exact fw_ireti hx hb hr hlocks (Option.some.inj h) hK hZ hP hS dX5_named_38
      · replace h := gif_f h c1
        refine lv_aload_n hx hb dX5_named_10 rfl (lv_at hl 0 rfl) ?_
        refine fw_getr hx hb hts in_X5_named_X5 hown hK hP hp0.1.1 hp0.1.2 rfl 4 (by decide) rfl (hts _ (List.mem_of_getElem? (i := 2) rfl)) rfl dX5_named_11 ?_
        refine lv_iload_n hx hb dX5_named_14 rfl (lv_at hl 2 rfl) ?_
        obtain ⟨h6, h⟩ := gg_s h
        refine fw_iald hx hb hK hP hp0.2.2.2.1 hp0.2.2.2.2 h6 dX5_named_15 ?_
        refine lv_iload_n hx hb dX5_named_16 rfl (lv_at hl 1 rfl) ?_
        refine lv_icmp_ne (tgt := 22) hx hb dX5_named_17 (by decide) (fun c7 => ?_) (fun c7 => ?_)
        · replace h := gif_f h c7
          refine lv_iinc (v := x2 + (nI 1)) (lv' := [(2, .int (x2 + (nI 1))), (0, .ref (ad p0)), (1, .int x1)]) hx hb dX5_named_22 hl (k := 2) rfl rfl (by decide) rfl (fun ls hl => ?_)
          refine lv_goto (tgt := 2) hx hb dX5_named_25 (by decide) ?_
          exact hK2 (x2 + (nI 1)) _ _ ls h hP hS (lv_sub hl [1, 2, 0] rfl)
        · replace h := gif_t h c7
          refine lv_iload_n hx hb dX5_named_20 rfl (lv_at hl 2 rfl) ?_
          exact fw_ireti hx hb hr hlocks (Option.some.inj h) hK hZ hP hS dX5_named_21
  unfold f_X5_named at h
  refine lv_iconst (v := (nI 0)) hx hb dX5_named_0 (by decide) ?_
  refine lv_istore_n (lv' := [(2, .int (nI 0)), (0, .ref (ad p0)), (1, .int a1)]) hx hb dX5_named_1 rfl hl (by decide) rfl (fun ls hl => ?_)
  exact j2 z a1 gF (nI 0) _ _ ls h hP hS (lv_sub hl [1, 2, 0] rfl)
theorem in_X5_mark_X5 : ∀ w ∈ wsX50, w ∈ wsX5_mark := fun w h => List.mem_cons_of_mem _ (List.mem_append_right _ (h))
theorem hdV_X5_mark : yX5_mark.cls = RX5 ∧ yX5_mark.cls ≠ "java/lang/invoke/MethodHandle" ∧ yX5_mark.cls ≠ "java/lang/invoke/VarHandle" ∧ (parseMethodDescriptor yX5_mark.desc).map (fun d => d.parameters.length) = some 3 := by decide +kernel
set_option maxHeartbeats 4000000 in
set_option maxRecDepth 100000 in
theorem k_X5_mark (l : Launch) (D : va_G) (cA : Nat → ClassId) (ad : Nat → Nat) (tw : Nat) (hG : gOk ad 315) (z : gS) (p0 : Nat) (hp0 : gC5 p0) (a1 : Int32) (a2 : Int32) (a3 : Int32) (res : Int32 × gS) (h : f_X5_mark p0 a1 a2 a3 z = some res) : gMi l yX5_mark wsX5_mark (gRm 1 21) D cA ad tw shX 315 [.ref (ad p0), .int a1, .int a2, .int a3] z res := by
  refine Met.ofW (cc := cX5_mark) (maxL := 4) (ret := (some .boolean)) (by decide) rfl ?_
  intro p e s m args below meth c s₁ B hml hv
  obtain ⟨rfl, hP, hK, hZ⟩ := hv
  have hx := B.exec
  have hb := B.bytes
  have hr := B.returns
  have hts := atoms_spec (ws := wsX5_mark) B.pre
  have hown : s.vm.findClass RX5 = some m.cls := findClass_of_methodNamed B.named
  have hlocks := B.notSynchronized
  have hS : va_S (gA ad 315) s.heap s.heap [] := va_S.rf
  have hl := lv_entry ([.ref (ad p0), .int a1, .int a2, .int a3]) (n := 4) (Nat.le_of_ble_eq_true rfl)
  rw [lg_entry_eq]
  generalize (lg_sl ([.ref (ad p0), .int a1, .int a2, .int a3]) ++ List.replicate (4 - (lg_sl ([.ref (ad p0), .int a1, .int a2, .int a3])).length) Slot.unset).toArray = ls at hl ⊢
  have hl : lv_has ls 4 [(0, .ref (ad p0)), (1, .int a1), (2, .int a2), (3, .int a3)] := hl
  unfold f_X5_mark at h
  refine lv_aload_n hx hb dX5_mark_0 rfl (lv_at hl 0 rfl) ?_
  refine lv_iload_n hx hb dX5_mark_1 rfl (lv_at hl 1 rfl) ?_
  obtain ⟨q1, hq1, h⟩ := gb_s h
  refine fw_viR (As := [.int a1]) (rest := []) ⟨hx, hb, hml, hown, hts⟩ (k_X5_holds l D cA ad tw hG z p0 (hp0) a1 q1 hq1) (cwV 1 hts gX5_mark_X5_holds rfl rfl rfl hdV_X5_holds ⟨Nat.le_of_ble_eq_true rfl, Nat.le_of_ble_eq_true rfl⟩) (fw_preV hp0.1.1 hp0.1.2 rfl rfl hK hZ hP hS) rfl hl _ rfl (Nat.le_of_ble_eq_true rfl) hS dX5_mark_2 ⟨Nat.zero_le _, Nat.zero_le _⟩ (fun H locs hP hS => ?_)
  refine lv_if_eq (tgt := 16) hx hb dX5_mark_5 (by decide) (fun c2 => ?_) (fun c2 => ?_)
  · replace h := gif_t h c2
    refine lv_iconst (v := (nI 0)) hx hb dX5_mark_16 (by decide) ?_
    exact fw_iretz hx hb hr hlocks (by decide) (Option.some.inj h) hK hZ hP hS dX5_mark_17
  · replace h := gif_f h c2
    refine lv_aload_n hx hb dX5_mark_8 rfl (lv_at hl 0 rfl) ?_
    refine lv_iload_n hx hb dX5_mark_9 rfl (lv_at hl 2 rfl) ?_
    obtain ⟨q3, hq3, h⟩ := gb_s h
    refine fw_viR (As := [.int a2]) (rest := []) ⟨hx, hb, hml, hown, hts⟩ (k_X5_knows l D cA ad tw hG z p0 (hp0) a2 q3 hq3) (cwV 1 hts gX5_mark_X5_knows rfl rfl rfl hdV_X5_knows ⟨Nat.le_of_ble_eq_true rfl, Nat.le_of_ble_eq_true rfl⟩) (fw_preV hp0.1.1 hp0.1.2 rfl rfl hK hZ hP hS) rfl hl _ rfl (Nat.le_of_ble_eq_true rfl) hS dX5_mark_10 ⟨Nat.zero_le _, Nat.zero_le _⟩ (fun H locs hP hS => ?_)
    refine lv_if_ne (tgt := 18) hx hb dX5_mark_13 (by decide) (fun c4 => ?_) (fun c4 => ?_)
    · replace h := gif_f h c4
      refine lv_aload_n hx hb dX5_mark_18 rfl (lv_at hl 0 rfl) ?_
      refine fw_getr hx hb hts in_X5_mark_X5 hown hK hP hp0.1.1 hp0.1.2 rfl 3 (by decide) rfl (hts _ (List.mem_of_getElem? (i := 1) rfl)) rfl dX5_mark_19 ?_
      refine lv_iload_n hx hb dX5_mark_22 rfl (lv_at hl 1 rfl) ?_
      refine lv_iload_n hx hb dX5_mark_23 rfl (lv_at hl 3 rfl) ?_
      refine lv_if_eq (tgt := 40) hx hb dX5_mark_24 (by decide) (fun c5 => ?_) (fun c5 => ?_)
      · replace h := gif_t h c5
        refine lv_aload_n hx hb dX5_mark_40 rfl (lv_at hl 0 rfl) ?_
        refine fw_getr hx hb hts in_X5_mark_X5 hown hK hP hp0.1.1 hp0.1.2 rfl 3 (by decide) rfl (hts _ (List.mem_of_getElem? (i := 1) rfl)) rfl dX5_mark_41 ?_
        refine lv_iload_n hx hb dX5_mark_44 rfl (lv_at hl 1 rfl) ?_
        obtain ⟨h6, h⟩ := gg_s h
        refine fw_iald hx hb hK hP hp0.2.2.1.1 hp0.2.2.1.2 h6 dX5_mark_45 ?_
        refine lv_iconst (v := (nI 1)) hx hb dX5_mark_46 (by decide) ?_
        refine lv_iload_n hx hb dX5_mark_47 rfl (lv_at hl 2 rfl) ?_
        refine lv_ishl hx hb dX5_mark_48 ?_
        refine lv_iconst (v := gm1) hx hb dX5_mark_49 (by decide) ?_
        refine lv_ixor hx hb dX5_mark_50 ?_
        refine lv_iand hx hb dX5_mark_51 ?_
        obtain ⟨h7, h⟩ := gg_s h
        refine fw_iast hx hb hK hG hP hS hp0.2.2.1.1 hp0.2.2.1.2 h7 dX5_mark_52 (fun z8 H locs ez8 hP hS => ?_)
        replace h := gl_s h ez8
        refine lv_iconst (v := (nI 1)) hx hb dX5_mark_53 (by decide) ?_
        exact fw_iretz hx hb hr hlocks (by decide) (Option.some.inj h) hK hZ hP hS dX5_mark_54
      · replace h := gif_f h c5
        refine lv_aload_n hx hb dX5_mark_27 rfl (lv_at hl 0 rfl) ?_
        refine fw_getr hx hb hts in_X5_mark_X5 hown hK hP hp0.1.1 hp0.1.2 rfl 3 (by decide) rfl (hts _ (List.mem_of_getElem? (i := 1) rfl)) rfl dX5_mark_28 ?_
        refine lv_iload_n hx hb dX5_mark_31 rfl (lv_at hl 1 rfl) ?_
        obtain ⟨h9, h⟩ := gg_s h
        refine fw_iald hx hb hK hP hp0.2.2.1.1 hp0.2.2.1.2 h9 dX5_mark_32 ?_
        refine lv_iconst (v := (nI 1)) hx hb dX5_mark_33 (by decide) ?_
        refine lv_iload_n hx hb dX5_mark_34 rfl (lv_at hl 2 rfl) ?_
        refine lv_ishl hx hb dX5_mark_35 ?_
        refine lv_ior hx hb dX5_mark_36 ?_
        refine lv_goto (tgt := 52) hx hb dX5_mark_37 (by decide) ?_
        obtain ⟨h10, h⟩ := gg_s h
        refine fw_iast hx hb hK hG hP hS hp0.2.2.1.1 hp0.2.2.1.2 h10 dX5_mark_52 (fun z11 H locs ez11 hP hS => ?_)
        replace h := gl_s h ez11
        refine lv_iconst (v := (nI 1)) hx hb dX5_mark_53 (by decide) ?_
        exact fw_iretz hx hb hr hlocks (by decide) (Option.some.inj h) hK hZ hP hS dX5_mark_54
    · replace h := gif_t h c4
      refine lv_iconst (v := (nI 0)) hx hb dX5_mark_16 (by decide) ?_
      exact fw_iretz hx hb hr hlocks (by decide) (Option.some.inj h) hK hZ hP hS dX5_mark_17
theorem in_X5_owners_X5 : ∀ w ∈ wsX50, w ∈ wsX5_owners := fun w h => List.mem_cons_of_mem _ (List.mem_append_right _ (h))
theorem hdV_X5_owners : yX5_owners.cls = RX5 ∧ yX5_owners.cls ≠ "java/lang/invoke/MethodHandle" ∧ yX5_owners.cls ≠ "java/lang/invoke/VarHandle" ∧ (parseMethodDescriptor yX5_owners.desc).map (fun d => d.parameters.length) = some 1 := by decide +kernel
set_option maxHeartbeats 4000000 in
set_option maxRecDepth 100000 in
theorem k_X5_owners (l : Launch) (D : va_G) (cA : Nat → ClassId) (ad : Nat → Nat) (tw : Nat) (hG : gOk ad 315) (z : gS) (p0 : Nat) (hp0 : gC5 p0) (a1 : Int32) (res : Int32) (h : f_X5_owners p0 a1 z = some res) : gMi l yX5_owners wsX5_owners (gRm 2 43) D cA ad tw shX 315 [.ref (ad p0), .int a1] z (res, z) := by
  refine Met.ofW (cc := cX5_owners) (maxL := 4) (ret := (some .int)) (by decide) rfl ?_
  intro p e s m args below meth c s₁ B hml hv
  obtain ⟨rfl, hP, hK, hZ⟩ := hv
  have hx := B.exec
  have hb := B.bytes
  have hr := B.returns
  have hts := atoms_spec (ws := wsX5_owners) B.pre
  have hown : s.vm.findClass RX5 = some m.cls := findClass_of_methodNamed B.named
  have hlocks := B.notSynchronized
  have hS : va_S (gA ad 315) s.heap s.heap [] := va_S.rf
  have hl := lv_entry ([.ref (ad p0), .int a1]) (n := 4) (Nat.le_of_ble_eq_true rfl)
  rw [lg_entry_eq]
  generalize (lg_sl ([.ref (ad p0), .int a1]) ++ List.replicate (4 - (lg_sl ([.ref (ad p0), .int a1])).length) Slot.unset).toArray = ls at hl ⊢
  have hl : lv_has ls 4 [(0, .ref (ad p0)), (1, .int a1)] := hl
  have j4 : ∀ (x1 : Int32) (n : Nat) (x2 : Int32) (x3 : Int32) (H : Heap) (locs : List Loc) (ls : Array Slot), f_X5_owners_4 p0 z x1 n x2 x3 = some res → va_P D vwCl (gw cA ad shX 315 z) H → va_S (gA ad 315) s.heap H locs → lv_has ls 4 [(0, .ref (ad p0)), (1, .int x1), (2, .int x2), (3, .int x3)] → W p l e (headSpec wsX5_owners (gRm 2 43)).room s m ([.ref (ad p0), .int a1] : List Value).toArray below meth c H locs 0 0 (MQ below (va_Qi (fun r u => (r, u) = (res, z)) (gPr D cA ad tw shX 315) (gA ad 315)) ([.ref (ad p0), .int a1] : List Value).toArray s 0 0 (gA ad 315)) (F0 m 4 ls []) := by
    intro x1 n
    induction n with
    | zero => intro x2 x3 H locs ls h; exact (gno h).elim
    | succ n hK4 =>
      intro x2 x3 H locs ls h hP hS hl
      replace h : f_X5_owners_4_b p0 z x1 (f_X5_owners_4 p0 z x1 n) x2 x3 = some res := h
      unfold f_X5_owners_4_b at h
      refine lv_iload_n hx hb dX5_owners_4 rfl (lv_at hl 3 rfl) ?_
      refine lv_aload_n hx hb dX5_owners_5 rfl (lv_at hl 0 rfl) ?_
      refine fw_geti hx hb hts in_X5_owners_X5 hown hK hP hp0.1.1 hp0.1.2 rfl 0 (by decide) rfl (hts _ (List.mem_of_getElem? (i := 1) rfl)) rfl dX5_owners_6 ?_
      refine lv_icmp_ge (tgt := 33) hx hb dX5_owners_9 (by decide) (fun c1 => ?_) (fun c1 => ?_)
      · replace h := gif_t h c1
        refine lv_iload_n hx hb dX5_owners_33 rfl (lv_at hl 2 rfl) ?_
        exact fw_ireti hx hb hr hlocks (congrArg (fun q => (q, z)) (Option.some.inj h)) hK hZ hP hS dX5_owners_34
      · replace h := gif_f h c1
        refine lv_aload_n hx hb dX5_owners_12 rfl (lv_at hl 0 rfl) ?_
        refine lv_iload_n hx hb dX5_owners_13 rfl (lv_at hl 3 rfl) ?_
        refine lv_iload_n hx hb dX5_owners_14 rfl (lv_at hl 1 rfl) ?_
        obtain ⟨q2, hq2, h⟩ := gb_s h
        refine fw_viR (As := [.int x3, .int x1]) (rest := []) ⟨hx, hb, hml, hown, hts⟩ (k_X5_owns l D cA ad tw hG z p0 (hp0) x3 x1 q2 hq2) (cwV 2 hts gX5_owners_X5_owns rfl rfl rfl hdV_X5_owns ⟨Nat.le_of_ble_eq_true rfl, Nat.le_of_ble_eq_true rfl⟩) (fw_preV hp0.1.1 hp0.1.2 rfl rfl hK hZ hP hS) rfl hl _ rfl (Nat.le_of_ble_eq_true rfl) hS dX5_owners_15 ⟨Nat.zero_le _, Nat.zero_le _⟩ (fun H locs hP hS => ?_)
        refine lv_if_eq (tgt := 27) hx hb dX5_owners_18 (by decide) (fun c3 => ?_) (fun c3 => ?_)
        · replace h := gif_t h c3
          refine lv_iinc (v := x3 + (nI 1)) (lv' := [(3, .int (x3 + (nI 1))), (0, .ref (ad p0)), (1, .int x1), (2, .int x2)]) hx hb dX5_owners_27 hl (k := 3) rfl rfl (by decide) rfl (fun ls hl => ?_)
          refine lv_goto (tgt := 4) hx hb dX5_owners_30 (by decide) ?_
          exact hK4 x2 (x3 + (nI 1)) _ _ ls h hP hS (lv_sub hl [1, 2, 3, 0] rfl)
        · replace h := gif_f h c3
          refine lv_iload_n hx hb dX5_owners_21 rfl (lv_at hl 2 rfl) ?_
          refine lv_iconst (v := (nI 1)) hx hb dX5_owners_22 (by decide) ?_
          refine lv_iload_n hx hb dX5_owners_23 rfl (lv_at hl 3 rfl) ?_
          refine lv_ishl hx hb dX5_owners_24 ?_
          refine lv_ior hx hb dX5_owners_25 ?_
          refine lv_topi (fun y4 ey4 => ?_)
          replace h := gl_s h ey4
          refine lv_istore_n (lv' := [(2, .int y4), (0, .ref (ad p0)), (1, .int x1), (3, .int x3)]) hx hb dX5_owners_26 rfl hl (by decide) rfl (fun ls hl => ?_)
          refine lv_iinc (v := x3 + (nI 1)) (lv' := [(3, .int (x3 + (nI 1))), (2, .int y4), (0, .ref (ad p0)), (1, .int x1)]) hx hb dX5_owners_27 hl (k := 3) rfl rfl (by decide) rfl (fun ls hl => ?_)
          refine lv_goto (tgt := 4) hx hb dX5_owners_30 (by decide) ?_
          exact hK4 y4 (x3 + (nI 1)) _ _ ls h hP hS (lv_sub hl [2, 3, 1, 0] rfl)
  unfold f_X5_owners at h
  refine lv_iconst (v := (nI 0)) hx hb dX5_owners_0 (by decide) ?_
  refine lv_istore_n (lv' := [(2, .int (nI 0)), (0, .ref (ad p0)), (1, .int a1)]) hx hb dX5_owners_1 rfl hl (by decide) rfl (fun ls hl => ?_)
  refine lv_iconst (v := (nI 0)) hx hb dX5_owners_2 (by decide) ?_
  refine lv_istore_n (lv' := [(3, .int (nI 0)), (2, .int (nI 0)), (0, .ref (ad p0)), (1, .int a1)]) hx hb dX5_owners_3 rfl hl (by decide) rfl (fun ls hl => ?_)
  exact j4 a1 gF (nI 0) (nI 0) _ _ ls h hP hS (lv_sub hl [2, 3, 1, 0] rfl)
theorem in_X5_peers_X5 : ∀ w ∈ wsX50, w ∈ wsX5_peers := fun w h => List.mem_cons_of_mem _ (List.mem_append_right _ (h))
theorem hdV_X5_peers : yX5_peers.cls = RX5 ∧ yX5_peers.cls ≠ "java/lang/invoke/MethodHandle" ∧ yX5_peers.cls ≠ "java/lang/invoke/VarHandle" ∧ (parseMethodDescriptor yX5_peers.desc).map (fun d => d.parameters.length) = some 1 := by decide +kernel
set_option maxHeartbeats 4000000 in
set_option maxRecDepth 100000 in
theorem k_X5_peers (l : Launch) (D : va_G) (cA : Nat → ClassId) (ad : Nat → Nat) (tw : Nat) (hG : gOk ad 315) (z : gS) (p0 : Nat) (hp0 : gC5 p0) (a1 : Int32) (res : Int32) (h : f_X5_peers p0 a1 z = some res) : gMi l yX5_peers wsX5_peers (gRm 0 0) D cA ad tw shX 315 [.ref (ad p0), .int a1] z (res, z) := by
  refine Met.ofW (cc := cX5_peers) (maxL := 4) (ret := (some .int)) (by decide) rfl ?_
  intro p e s m args below meth c s₁ B hml hv
  obtain ⟨rfl, hP, hK, hZ⟩ := hv
  have hx := B.exec
  have hb := B.bytes
  have hr := B.returns
  have hts := atoms_spec (ws := wsX5_peers) B.pre
  have hown : s.vm.findClass RX5 = some m.cls := findClass_of_methodNamed B.named
  have hlocks := B.notSynchronized
  have hS : va_S (gA ad 315) s.heap s.heap [] := va_S.rf
  have hl := lv_entry ([.ref (ad p0), .int a1]) (n := 4) (Nat.le_of_ble_eq_true rfl)
  rw [lg_entry_eq]
  generalize (lg_sl ([.ref (ad p0), .int a1]) ++ List.replicate (4 - (lg_sl ([.ref (ad p0), .int a1])).length) Slot.unset).toArray = ls at hl ⊢
  have hl : lv_has ls 4 [(0, .ref (ad p0)), (1, .int a1)] := hl
  have j4 : ∀ (x1 : Int32) (n : Nat) (x2 : Int32) (x3 : Int32) (H : Heap) (locs : List Loc) (ls : Array Slot), f_X5_peers_4 p0 z x1 n x2 x3 = some res → va_P D vwCl (gw cA ad shX 315 z) H → va_S (gA ad 315) s.heap H locs → lv_has ls 4 [(0, .ref (ad p0)), (1, .int x1), (2, .int x2), (3, .int x3)] → W p l e (headSpec wsX5_peers (gRm 0 0)).room s m ([.ref (ad p0), .int a1] : List Value).toArray below meth c H locs 0 0 (MQ below (va_Qi (fun r u => (r, u) = (res, z)) (gPr D cA ad tw shX 315) (gA ad 315)) ([.ref (ad p0), .int a1] : List Value).toArray s 0 0 (gA ad 315)) (F0 m 4 ls []) := by
    intro x1 n
    induction n with
    | zero => intro x2 x3 H locs ls h; exact (gno h).elim
    | succ n hK4 =>
      intro x2 x3 H locs ls h hP hS hl
      replace h : f_X5_peers_4_b p0 z x1 (f_X5_peers_4 p0 z x1 n) x2 x3 = some res := h
      unfold f_X5_peers_4_b at h
      refine lv_iload_n hx hb dX5_peers_4 rfl (lv_at hl 3 rfl) ?_
      refine lv_aload_n hx hb dX5_peers_5 rfl (lv_at hl 0 rfl) ?_
      refine fw_geti hx hb hts in_X5_peers_X5 hown hK hP hp0.1.1 hp0.1.2 rfl 0 (by decide) rfl (hts _ (List.mem_of_getElem? (i := 1) rfl)) rfl dX5_peers_6 ?_
      refine lv_icmp_ge (tgt := 57) hx hb dX5_peers_9 (by decide) (fun c1 => ?_) (fun c1 => ?_)
      · replace h := gif_t h c1
        refine lv_iload_n hx hb dX5_peers_57 rfl (lv_at hl 2 rfl) ?_
        exact fw_ireti hx hb hr hlocks (congrArg (fun q => (q, z)) (Option.some.inj h)) hK hZ hP hS dX5_peers_58
      · replace h := gif_f h c1
        refine lv_aload_n hx hb dX5_peers_12 rfl (lv_at hl 0 rfl) ?_
        refine fw_getr hx hb hts in_X5_peers_X5 hown hK hP hp0.1.1 hp0.1.2 rfl 3 (by decide) rfl (hts _ (List.mem_of_getElem? (i := 2) rfl)) rfl dX5_peers_13 ?_
        refine lv_iload_n hx hb dX5_peers_16 rfl (lv_at hl 3 rfl) ?_
        obtain ⟨h2, h⟩ := gg_s h
        refine fw_iald hx hb hK hP hp0.2.2.1.1 hp0.2.2.1.2 h2 dX5_peers_17 ?_
        refine lv_aload_n hx hb dX5_peers_18 rfl (lv_at hl 0 rfl) ?_
        refine fw_getr hx hb hts in_X5_peers_X5 hown hK hP hp0.1.1 hp0.1.2 rfl 3 (by decide) rfl (hts _ (List.mem_of_getElem? (i := 2) rfl)) rfl dX5_peers_19 ?_
        refine lv_iload_n hx hb dX5_peers_22 rfl (lv_at hl 1 rfl) ?_
        obtain ⟨h3, h⟩ := gg_s h
        refine fw_iald hx hb hK hP hp0.2.2.1.1 hp0.2.2.1.2 h3 dX5_peers_23 ?_
        refine lv_icmp_ne (tgt := 51) hx hb dX5_peers_24 (by decide) (fun c4 => ?_) (fun c4 => ?_)
        · replace h := gif_f h c4
          refine lv_iinc (v := x3 + (nI 1)) (lv' := [(3, .int (x3 + (nI 1))), (0, .ref (ad p0)), (1, .int x1), (2, .int x2)]) hx hb dX5_peers_51 hl (k := 3) rfl rfl (by decide) rfl (fun ls hl => ?_)
          refine lv_goto (tgt := 4) hx hb dX5_peers_54 (by decide) ?_
          exact hK4 x2 (x3 + (nI 1)) _ _ ls h hP hS (lv_sub hl [1, 2, 3, 0] rfl)
        · replace h := gif_t h c4
          refine lv_aload_n hx hb dX5_peers_27 rfl (lv_at hl 0 rfl) ?_
          refine fw_getr hx hb hts in_X5_peers_X5 hown hK hP hp0.1.1 hp0.1.2 rfl 2 (by decide) rfl (hts _ (List.mem_of_getElem? (i := 3) rfl)) rfl dX5_peers_28 ?_
          refine lv_iload_n hx hb dX5_peers_31 rfl (lv_at hl 3 rfl) ?_
          obtain ⟨h5, h⟩ := gg_s h
          refine fw_iald hx hb hK hP hp0.2.1.1 hp0.2.1.2 h5 dX5_peers_32 ?_
          refine lv_bipush (v := (nI 100)) hx hb dX5_peers_33 (by decide) ?_
          refine lv_irem hx hb dX5_peers_35 (by decide) ?_
          refine lv_aload_n hx hb dX5_peers_36 rfl (lv_at hl 0 rfl) ?_
          refine fw_getr hx hb hts in_X5_peers_X5 hown hK hP hp0.1.1 hp0.1.2 rfl 2 (by decide) rfl (hts _ (List.mem_of_getElem? (i := 3) rfl)) rfl dX5_peers_37 ?_
          refine lv_iload_n hx hb dX5_peers_40 rfl (lv_at hl 1 rfl) ?_
          obtain ⟨h6, h⟩ := gg_s h
          refine fw_iald hx hb hK hP hp0.2.1.1 hp0.2.1.2 h6 dX5_peers_41 ?_
          refine lv_bipush (v := (nI 100)) hx hb dX5_peers_42 (by decide) ?_
          refine lv_irem hx hb dX5_peers_44 (by decide) ?_
          refine lv_icmp_ne (tgt := 51) hx hb dX5_peers_45 (by decide) (fun c7 => ?_) (fun c7 => ?_)
          · replace h := gif_f h c7
            refine lv_iinc (v := x3 + (nI 1)) (lv' := [(3, .int (x3 + (nI 1))), (0, .ref (ad p0)), (1, .int x1), (2, .int x2)]) hx hb dX5_peers_51 hl (k := 3) rfl rfl (by decide) rfl (fun ls hl => ?_)
            refine lv_goto (tgt := 4) hx hb dX5_peers_54 (by decide) ?_
            exact hK4 x2 (x3 + (nI 1)) _ _ ls h hP hS (lv_sub hl [1, 2, 3, 0] rfl)
          · replace h := gif_t h c7
            refine lv_iinc (v := x2 + (nI 1)) (lv' := [(2, .int (x2 + (nI 1))), (0, .ref (ad p0)), (1, .int x1), (3, .int x3)]) hx hb dX5_peers_48 hl (k := 2) rfl rfl (by decide) rfl (fun ls hl => ?_)
            refine lv_iinc (v := x3 + (nI 1)) (lv' := [(3, .int (x3 + (nI 1))), (2, .int (x2 + (nI 1))), (0, .ref (ad p0)), (1, .int x1)]) hx hb dX5_peers_51 hl (k := 3) rfl rfl (by decide) rfl (fun ls hl => ?_)
            refine lv_goto (tgt := 4) hx hb dX5_peers_54 (by decide) ?_
            exact hK4 (x2 + (nI 1)) (x3 + (nI 1)) _ _ ls h hP hS (lv_sub hl [2, 3, 1, 0] rfl)
  unfold f_X5_peers at h
  refine lv_iconst (v := (nI 0)) hx hb dX5_peers_0 (by decide) ?_
  refine lv_istore_n (lv' := [(2, .int (nI 0)), (0, .ref (ad p0)), (1, .int a1)]) hx hb dX5_peers_1 rfl hl (by decide) rfl (fun ls hl => ?_)
  refine lv_iconst (v := (nI 0)) hx hb dX5_peers_2 (by decide) ?_
  refine lv_istore_n (lv' := [(3, .int (nI 0)), (2, .int (nI 0)), (0, .ref (ad p0)), (1, .int a1)]) hx hb dX5_peers_3 rfl hl (by decide) rfl (fun ls hl => ?_)
  exact j4 a1 gF (nI 0) (nI 0) _ _ ls h hP hS (lv_sub hl [2, 3, 1, 0] rfl)
theorem in_X5_friends_X5 : ∀ w ∈ wsX50, w ∈ wsX5_friends := fun w h => List.mem_cons_of_mem _ (List.mem_append_right _ (h))
theorem hdV_X5_friends : yX5_friends.cls = RX5 ∧ yX5_friends.cls ≠ "java/lang/invoke/MethodHandle" ∧ yX5_friends.cls ≠ "java/lang/invoke/VarHandle" ∧ (parseMethodDescriptor yX5_friends.desc).map (fun d => d.parameters.length) = some 1 := by decide +kernel
set_option maxHeartbeats 4000000 in
set_option maxRecDepth 100000 in
theorem k_X5_friends (l : Launch) (D : va_G) (cA : Nat → ClassId) (ad : Nat → Nat) (tw : Nat) (hG : gOk ad 315) (z : gS) (p0 : Nat) (hp0 : gC5 p0) (a1 : Int32) (res : Int32) (h : f_X5_friends p0 a1 z = some res) : gMi l yX5_friends wsX5_friends (gRm 2 43) D cA ad tw shX 315 [.ref (ad p0), .int a1] z (res, z) := by
  refine Met.ofW (cc := cX5_friends) (maxL := 4) (ret := (some .int)) (by decide) rfl ?_
  intro p e s m args below meth c s₁ B hml hv
  obtain ⟨rfl, hP, hK, hZ⟩ := hv
  have hx := B.exec
  have hb := B.bytes
  have hr := B.returns
  have hts := atoms_spec (ws := wsX5_friends) B.pre
  have hown : s.vm.findClass RX5 = some m.cls := findClass_of_methodNamed B.named
  have hlocks := B.notSynchronized
  have hS : va_S (gA ad 315) s.heap s.heap [] := va_S.rf
  have hl := lv_entry ([.ref (ad p0), .int a1]) (n := 4) (Nat.le_of_ble_eq_true rfl)
  rw [lg_entry_eq]
  generalize (lg_sl ([.ref (ad p0), .int a1]) ++ List.replicate (4 - (lg_sl ([.ref (ad p0), .int a1])).length) Slot.unset).toArray = ls at hl ⊢
  have hl : lv_has ls 4 [(0, .ref (ad p0)), (1, .int a1)] := hl
  have j4 : ∀ (x1 : Int32) (n : Nat) (x2 : Int32) (x3 : Int32) (H : Heap) (locs : List Loc) (ls : Array Slot), f_X5_friends_4 p0 z x1 n x2 x3 = some res → va_P D vwCl (gw cA ad shX 315 z) H → va_S (gA ad 315) s.heap H locs → lv_has ls 4 [(0, .ref (ad p0)), (1, .int x1), (2, .int x2), (3, .int x3)] → W p l e (headSpec wsX5_friends (gRm 2 43)).room s m ([.ref (ad p0), .int a1] : List Value).toArray below meth c H locs 0 0 (MQ below (va_Qi (fun r u => (r, u) = (res, z)) (gPr D cA ad tw shX 315) (gA ad 315)) ([.ref (ad p0), .int a1] : List Value).toArray s 0 0 (gA ad 315)) (F0 m 4 ls []) := by
    intro x1 n
    induction n with
    | zero => intro x2 x3 H locs ls h; exact (gno h).elim
    | succ n hK4 =>
      intro x2 x3 H locs ls h hP hS hl
      replace h : f_X5_friends_4_b p0 z x1 (f_X5_friends_4 p0 z x1 n) x2 x3 = some res := h
      unfold f_X5_friends_4_b at h
      refine lv_iload_n hx hb dX5_friends_4 rfl (lv_at hl 3 rfl) ?_
      refine lv_aload_n hx hb dX5_friends_5 rfl (lv_at hl 0 rfl) ?_
      refine fw_geti hx hb hts in_X5_friends_X5 hown hK hP hp0.1.1 hp0.1.2 rfl 0 (by decide) rfl (hts _ (List.mem_of_getElem? (i := 1) rfl)) rfl dX5_friends_6 ?_
      refine lv_icmp_ge (tgt := 35) hx hb dX5_friends_9 (by decide) (fun c1 => ?_) (fun c1 => ?_)
      · replace h := gif_t h c1
        refine lv_iload_n hx hb dX5_friends_35 rfl (lv_at hl 2 rfl) ?_
        exact fw_ireti hx hb hr hlocks (congrArg (fun q => (q, z)) (Option.some.inj h)) hK hZ hP hS dX5_friends_36
      · replace h := gif_f h c1
        refine lv_iload_n hx hb dX5_friends_12 rfl (lv_at hl 3 rfl) ?_
        refine lv_iload_n hx hb dX5_friends_13 rfl (lv_at hl 1 rfl) ?_
        refine lv_icmp_eq (tgt := 29) hx hb dX5_friends_14 (by decide) (fun c2 => ?_) (fun c2 => ?_)
        · replace h := gif_t h c2
          refine lv_iinc (v := x3 + (nI 1)) (lv' := [(3, .int (x3 + (nI 1))), (0, .ref (ad p0)), (1, .int x1), (2, .int x2)]) hx hb dX5_friends_29 hl (k := 3) rfl rfl (by decide) rfl (fun ls hl => ?_)
          refine lv_goto (tgt := 4) hx hb dX5_friends_32 (by decide) ?_
          exact hK4 x2 (x3 + (nI 1)) _ _ ls h hP hS (lv_sub hl [1, 2, 3, 0] rfl)
        · replace h := gif_f h c2
          refine lv_aload_n hx hb dX5_friends_17 rfl (lv_at hl 0 rfl) ?_
          refine lv_iload_n hx hb dX5_friends_18 rfl (lv_at hl 3 rfl) ?_
          refine lv_iload_n hx hb dX5_friends_19 rfl (lv_at hl 1 rfl) ?_
          obtain ⟨q3, hq3, h⟩ := gb_s h
          refine fw_viR (As := [.int x3, .int x1]) (rest := []) ⟨hx, hb, hml, hown, hts⟩ (k_X5_common l D cA ad tw hG z p0 (hp0) x3 x1 q3 hq3) (cwV 2 hts gX5_friends_X5_common rfl rfl rfl hdV_X5_common ⟨Nat.le_of_ble_eq_true rfl, Nat.le_of_ble_eq_true rfl⟩) (fw_preV hp0.1.1 hp0.1.2 rfl rfl hK hZ hP hS) rfl hl _ rfl (Nat.le_of_ble_eq_true rfl) hS dX5_friends_20 ⟨Nat.zero_le _, Nat.zero_le _⟩ (fun H locs hP hS => ?_)
          refine lv_if_le (tgt := 29) hx hb dX5_friends_23 (by decide) (fun c4 => ?_) (fun c4 => ?_)
          · replace h := gif_t h c4
            refine lv_iinc (v := x3 + (nI 1)) (lv' := [(3, .int (x3 + (nI 1))), (0, .ref (ad p0)), (1, .int x1), (2, .int x2)]) hx hb dX5_friends_29 hl (k := 3) rfl rfl (by decide) rfl (fun ls hl => ?_)
            refine lv_goto (tgt := 4) hx hb dX5_friends_32 (by decide) ?_
            exact hK4 x2 (x3 + (nI 1)) _ _ ls h hP hS (lv_sub hl [1, 2, 3, 0] rfl)
          · replace h := gif_f h c4
            refine lv_iinc (v := x2 + (nI 1)) (lv' := [(2, .int (x2 + (nI 1))), (0, .ref (ad p0)), (1, .int x1), (3, .int x3)]) hx hb dX5_friends_26 hl (k := 2) rfl rfl (by decide) rfl (fun ls hl => ?_)
            refine lv_iinc (v := x3 + (nI 1)) (lv' := [(3, .int (x3 + (nI 1))), (2, .int (x2 + (nI 1))), (0, .ref (ad p0)), (1, .int x1)]) hx hb dX5_friends_29 hl (k := 3) rfl rfl (by decide) rfl (fun ls hl => ?_)
            refine lv_goto (tgt := 4) hx hb dX5_friends_32 (by decide) ?_
            exact hK4 (x2 + (nI 1)) (x3 + (nI 1)) _ _ ls h hP hS (lv_sub hl [2, 3, 1, 0] rfl)
  unfold f_X5_friends at h
  refine lv_iconst (v := (nI 0)) hx hb dX5_friends_0 (by decide) ?_
  refine lv_istore_n (lv' := [(2, .int (nI 0)), (0, .ref (ad p0)), (1, .int a1)]) hx hb dX5_friends_1 rfl hl (by decide) rfl (fun ls hl => ?_)
  refine lv_iconst (v := (nI 0)) hx hb dX5_friends_2 (by decide) ?_
  refine lv_istore_n (lv' := [(3, .int (nI 0)), (2, .int (nI 0)), (0, .ref (ad p0)), (1, .int a1)]) hx hb dX5_friends_3 rfl hl (by decide) rfl (fun ls hl => ?_)
  exact j4 a1 gF (nI 0) (nI 0) _ _ ls h hP hS (lv_sub hl [2, 3, 1, 0] rfl)
theorem in_X5_bare_X5 : ∀ w ∈ wsX50, w ∈ wsX5_bare := fun w h => List.mem_cons_of_mem _ (List.mem_append_right _ (h))
theorem hdV_X5_bare : yX5_bare.cls = RX5 ∧ yX5_bare.cls ≠ "java/lang/invoke/MethodHandle" ∧ yX5_bare.cls ≠ "java/lang/invoke/VarHandle" ∧ (parseMethodDescriptor yX5_bare.desc).map (fun d => d.parameters.length) = some 0 := by decide +kernel
set_option maxHeartbeats 4000000 in
set_option maxRecDepth 100000 in
theorem k_X5_bare (l : Launch) (D : va_G) (cA : Nat → ClassId) (ad : Nat → Nat) (tw : Nat) (hG : gOk ad 315) (z : gS) (p0 : Nat) (hp0 : gC5 p0) (res : Int32) (h : f_X5_bare p0 z = some res) : gMi l yX5_bare wsX5_bare (gRm 0 0) D cA ad tw shX 315 [.ref (ad p0)] z (res, z) := by
  refine Met.ofW (cc := cX5_bare) (maxL := 3) (ret := (some .int)) (by decide) rfl ?_
  intro p e s m args below meth c s₁ B hml hv
  obtain ⟨rfl, hP, hK, hZ⟩ := hv
  have hx := B.exec
  have hb := B.bytes
  have hr := B.returns
  have hts := atoms_spec (ws := wsX5_bare) B.pre
  have hown : s.vm.findClass RX5 = some m.cls := findClass_of_methodNamed B.named
  have hlocks := B.notSynchronized
  have hS : va_S (gA ad 315) s.heap s.heap [] := va_S.rf
  have hl := lv_entry ([.ref (ad p0)]) (n := 3) (Nat.le_of_ble_eq_true rfl)
  rw [lg_entry_eq]
  generalize (lg_sl ([.ref (ad p0)]) ++ List.replicate (3 - (lg_sl ([.ref (ad p0)])).length) Slot.unset).toArray = ls at hl ⊢
  have hl : lv_has ls 3 [(0, .ref (ad p0))] := hl
  have j4 : ∀  (n : Nat) (x1 : Int32) (x2 : Int32) (H : Heap) (locs : List Loc) (ls : Array Slot), f_X5_bare_4 p0 z n x1 x2 = some res → va_P D vwCl (gw cA ad shX 315 z) H → va_S (gA ad 315) s.heap H locs → lv_has ls 3 [(0, .ref (ad p0)), (1, .int x1), (2, .int x2)] → W p l e (headSpec wsX5_bare (gRm 0 0)).room s m ([.ref (ad p0)] : List Value).toArray below meth c H locs 0 0 (MQ below (va_Qi (fun r u => (r, u) = (res, z)) (gPr D cA ad tw shX 315) (gA ad 315)) ([.ref (ad p0)] : List Value).toArray s 0 0 (gA ad 315)) (F0 m 4 ls []) := by
    intro n
    induction n with
    | zero => intro x1 x2 H locs ls h; exact (gno h).elim
    | succ n hK4 =>
      intro x1 x2 H locs ls h hP hS hl
      replace h : f_X5_bare_4_b p0 z (f_X5_bare_4 p0 z n) x1 x2 = some res := h
      unfold f_X5_bare_4_b at h
      refine lv_iload_n hx hb dX5_bare_4 rfl (lv_at hl 2 rfl) ?_
      refine lv_aload_n hx hb dX5_bare_5 rfl (lv_at hl 0 rfl) ?_
      refine fw_geti hx hb hts in_X5_bare_X5 hown hK hP hp0.1.1 hp0.1.2 rfl 0 (by decide) rfl (hts _ (List.mem_of_getElem? (i := 1) rfl)) rfl dX5_bare_6 ?_
      refine lv_icmp_ge (tgt := 30) hx hb dX5_bare_9 (by decide) (fun c1 => ?_) (fun c1 => ?_)
      · replace h := gif_t h c1
        refine lv_iload_n hx hb dX5_bare_30 rfl (lv_at hl 1 rfl) ?_
        exact fw_ireti hx hb hr hlocks (congrArg (fun q => (q, z)) (Option.some.inj h)) hK hZ hP hS dX5_bare_31
      · replace h := gif_f h c1
        refine lv_aload_n hx hb dX5_bare_12 rfl (lv_at hl 0 rfl) ?_
        refine fw_getr hx hb hts in_X5_bare_X5 hown hK hP hp0.1.1 hp0.1.2 rfl 3 (by decide) rfl (hts _ (List.mem_of_getElem? (i := 2) rfl)) rfl dX5_bare_13 ?_
        refine lv_iload_n hx hb dX5_bare_16 rfl (lv_at hl 2 rfl) ?_
        obtain ⟨h2, h⟩ := gg_s h
        refine fw_iald hx hb hK hP hp0.2.2.1.1 hp0.2.2.1.2 h2 dX5_bare_17 ?_
        refine lv_if_ne (tgt := 24) hx hb dX5_bare_18 (by decide) (fun c3 => ?_) (fun c3 => ?_)
        · replace h := gif_f h c3
          refine lv_iinc (v := x2 + (nI 1)) (lv' := [(2, .int (x2 + (nI 1))), (0, .ref (ad p0)), (1, .int x1)]) hx hb dX5_bare_24 hl (k := 2) rfl rfl (by decide) rfl (fun ls hl => ?_)
          refine lv_goto (tgt := 4) hx hb dX5_bare_27 (by decide) ?_
          exact hK4 x1 (x2 + (nI 1)) _ _ ls h hP hS (lv_sub hl [1, 2, 0] rfl)
        · replace h := gif_t h c3
          refine lv_iinc (v := x1 + (nI 1)) (lv' := [(1, .int (x1 + (nI 1))), (0, .ref (ad p0)), (2, .int x2)]) hx hb dX5_bare_21 hl (k := 1) rfl rfl (by decide) rfl (fun ls hl => ?_)
          refine lv_iinc (v := x2 + (nI 1)) (lv' := [(2, .int (x2 + (nI 1))), (1, .int (x1 + (nI 1))), (0, .ref (ad p0))]) hx hb dX5_bare_24 hl (k := 2) rfl rfl (by decide) rfl (fun ls hl => ?_)
          refine lv_goto (tgt := 4) hx hb dX5_bare_27 (by decide) ?_
          exact hK4 (x1 + (nI 1)) (x2 + (nI 1)) _ _ ls h hP hS (lv_sub hl [2, 1, 0] rfl)
  unfold f_X5_bare at h
  refine lv_iconst (v := (nI 0)) hx hb dX5_bare_0 (by decide) ?_
  refine lv_istore_n (lv' := [(1, .int (nI 0)), (0, .ref (ad p0))]) hx hb dX5_bare_1 rfl hl (by decide) rfl (fun ls hl => ?_)
  refine lv_iconst (v := (nI 0)) hx hb dX5_bare_2 (by decide) ?_
  refine lv_istore_n (lv' := [(2, .int (nI 0)), (1, .int (nI 0)), (0, .ref (ad p0))]) hx hb dX5_bare_3 rfl hl (by decide) rfl (fun ls hl => ?_)
  exact j4  gF (nI 0) (nI 0) _ _ ls h hP hS (lv_sub hl [2, 1, 0] rfl)
theorem in_X5_sharesWithin_X5 : ∀ w ∈ wsX50, w ∈ wsX5_sharesWithin := fun w h => List.mem_cons_of_mem _ (List.mem_append_right _ (h))
theorem hdV_X5_sharesWithin : yX5_sharesWithin.cls = RX5 ∧ yX5_sharesWithin.cls ≠ "java/lang/invoke/MethodHandle" ∧ yX5_sharesWithin.cls ≠ "java/lang/invoke/VarHandle" ∧ (parseMethodDescriptor yX5_sharesWithin.desc).map (fun d => d.parameters.length) = some 2 := by decide +kernel
set_option maxHeartbeats 4000000 in
set_option maxRecDepth 100000 in
theorem k_X5_sharesWithin (l : Launch) (D : va_G) (cA : Nat → ClassId) (ad : Nat → Nat) (tw : Nat) (hG : gOk ad 315) (z : gS) (p0 : Nat) (hp0 : gC5 p0) (a1 : Int32) (a2 : Int32) (res : Int32) (h : f_X5_sharesWithin p0 a1 a2 z = some res) : gMi l yX5_sharesWithin wsX5_sharesWithin (gRm 2 43) D cA ad tw shX 315 [.ref (ad p0), .int a1, .int a2] z (res, z) := by
  refine Met.ofW (cc := cX5_sharesWithin) (maxL := 4) (ret := (some .boolean)) (by decide) rfl ?_
  intro p e s m args below meth c s₁ B hml hv
  obtain ⟨rfl, hP, hK, hZ⟩ := hv
  have hx := B.exec
  have hb := B.bytes
  have hr := B.returns
  have hts := atoms_spec (ws := wsX5_sharesWithin) B.pre
  have hown : s.vm.findClass RX5 = some m.cls := findClass_of_methodNamed B.named
  have hlocks := B.notSynchronized
  have hS : va_S (gA ad 315) s.heap s.heap [] := va_S.rf
  have hl := lv_entry ([.ref (ad p0), .int a1, .int a2]) (n := 4) (Nat.le_of_ble_eq_true rfl)
  rw [lg_entry_eq]
  generalize (lg_sl ([.ref (ad p0), .int a1, .int a2]) ++ List.replicate (4 - (lg_sl ([.ref (ad p0), .int a1, .int a2])).length) Slot.unset).toArray = ls at hl ⊢
  have hl : lv_has ls 4 [(0, .ref (ad p0)), (1, .int a1), (2, .int a2)] := hl
  have j2 : ∀ (x1 : Int32) (x2 : Int32) (n : Nat) (x3 : Int32) (H : Heap) (locs : List Loc) (ls : Array Slot), f_X5_sharesWithin_2 p0 z x1 x2 n x3 = some res → va_P D vwCl (gw cA ad shX 315 z) H → va_S (gA ad 315) s.heap H locs → lv_has ls 4 [(0, .ref (ad p0)), (1, .int x1), (2, .int x2), (3, .int x3)] → W p l e (headSpec wsX5_sharesWithin (gRm 2 43)).room s m ([.ref (ad p0), .int a1, .int a2] : List Value).toArray below meth c H locs 0 0 (MQ below (va_Qi (fun r u => (r, u) = (res, z)) (gPr D cA ad tw shX 315) (gA ad 315)) ([.ref (ad p0), .int a1, .int a2] : List Value).toArray s 0 0 (gA ad 315)) (F0 m 2 ls []) := by
    intro x1 x2 n
    induction n with
    | zero => intro x3 H locs ls h; exact (gno h).elim
    | succ n hK2 =>
      intro x3 H locs ls h hP hS hl
      replace h : f_X5_sharesWithin_2_b p0 z x1 x2 (f_X5_sharesWithin_2 p0 z x1 x2 n) x3 = some res := h
      unfold f_X5_sharesWithin_2_b at h
      refine lv_iload_n hx hb dX5_sharesWithin_2 rfl (lv_at hl 3 rfl) ?_
      refine lv_aload_n hx hb dX5_sharesWithin_3 rfl (lv_at hl 0 rfl) ?_
      refine fw_geti hx hb hts in_X5_sharesWithin_X5 hown hK hP hp0.1.1 hp0.1.2 rfl 0 (by decide) rfl (hts _ (List.mem_of_getElem? (i := 1) rfl)) rfl dX5_sharesWithin_4 ?_
      refine lv_icmp_ge (tgt := 35) hx hb dX5_sharesWithin_7 (by decide) (fun c1 => ?_) (fun c1 => ?_)
      · replace h := gif_t h c1
        refine lv_iconst (v := (nI 0)) hx hb dX5_sharesWithin_35 (by decide) ?_
        exact fw_iretz hx hb hr hlocks (by decide) (congrArg (fun q => (q, z)) (Option.some.inj h)) hK hZ hP hS dX5_sharesWithin_36
      · replace h := gif_f h c1
        refine lv_iload_n hx hb dX5_sharesWithin_10 rfl (lv_at hl 2 rfl) ?_
        refine lv_iload_n hx hb dX5_sharesWithin_11 rfl (lv_at hl 3 rfl) ?_
        refine lv_ishr hx hb dX5_sharesWithin_12 ?_
        refine lv_iconst (v := (nI 1)) hx hb dX5_sharesWithin_13 (by decide) ?_
        refine lv_iand hx hb dX5_sharesWithin_14 ?_
        refine lv_if_eq (tgt := 29) hx hb dX5_sharesWithin_15 (by decide) (fun c2 => ?_) (fun c2 => ?_)
        · replace h := gif_t h c2
          refine lv_iinc (v := x3 + (nI 1)) (lv' := [(3, .int (x3 + (nI 1))), (0, .ref (ad p0)), (1, .int x1), (2, .int x2)]) hx hb dX5_sharesWithin_29 hl (k := 3) rfl rfl (by decide) rfl (fun ls hl => ?_)
          refine lv_goto (tgt := 2) hx hb dX5_sharesWithin_32 (by decide) ?_
          exact hK2 (x3 + (nI 1)) _ _ ls h hP hS (lv_sub hl [1, 2, 3, 0] rfl)
        · replace h := gif_f h c2
          refine lv_aload_n hx hb dX5_sharesWithin_18 rfl (lv_at hl 0 rfl) ?_
          refine lv_iload_n hx hb dX5_sharesWithin_19 rfl (lv_at hl 1 rfl) ?_
          refine lv_iload_n hx hb dX5_sharesWithin_20 rfl (lv_at hl 3 rfl) ?_
          obtain ⟨q3, hq3, h⟩ := gb_s h
          refine fw_viR (As := [.int x1, .int x3]) (rest := []) ⟨hx, hb, hml, hown, hts⟩ (k_X5_common l D cA ad tw hG z p0 (hp0) x1 x3 q3 hq3) (cwV 2 hts gX5_sharesWithin_X5_common rfl rfl rfl hdV_X5_common ⟨Nat.le_of_ble_eq_true rfl, Nat.le_of_ble_eq_true rfl⟩) (fw_preV hp0.1.1 hp0.1.2 rfl rfl hK hZ hP hS) rfl hl _ rfl (Nat.le_of_ble_eq_true rfl) hS dX5_sharesWithin_21 ⟨Nat.zero_le _, Nat.zero_le _⟩ (fun H locs hP hS => ?_)
          refine lv_if_le (tgt := 29) hx hb dX5_sharesWithin_24 (by decide) (fun c4 => ?_) (fun c4 => ?_)
          · replace h := gif_t h c4
            refine lv_iinc (v := x3 + (nI 1)) (lv' := [(3, .int (x3 + (nI 1))), (0, .ref (ad p0)), (1, .int x1), (2, .int x2)]) hx hb dX5_sharesWithin_29 hl (k := 3) rfl rfl (by decide) rfl (fun ls hl => ?_)
            refine lv_goto (tgt := 2) hx hb dX5_sharesWithin_32 (by decide) ?_
            exact hK2 (x3 + (nI 1)) _ _ ls h hP hS (lv_sub hl [1, 2, 3, 0] rfl)
          · replace h := gif_f h c4
            refine lv_iconst (v := (nI 1)) hx hb dX5_sharesWithin_27 (by decide) ?_
            exact fw_iretz hx hb hr hlocks (by decide) (congrArg (fun q => (q, z)) (Option.some.inj h)) hK hZ hP hS dX5_sharesWithin_28
  unfold f_X5_sharesWithin at h
  refine lv_iconst (v := (nI 0)) hx hb dX5_sharesWithin_0 (by decide) ?_
  refine lv_istore_n (lv' := [(3, .int (nI 0)), (0, .ref (ad p0)), (1, .int a1), (2, .int a2)]) hx hb dX5_sharesWithin_1 rfl hl (by decide) rfl (fun ls hl => ?_)
  exact j2 a1 a2 gF (nI 0) _ _ ls h hP hS (lv_sub hl [1, 2, 3, 0] rfl)
theorem in_X5_partOf_X5 : ∀ w ∈ wsX50, w ∈ wsX5_partOf := fun w h => List.mem_cons_of_mem _ (List.mem_append_right _ (h))
theorem hdV_X5_partOf : yX5_partOf.cls = RX5 ∧ yX5_partOf.cls ≠ "java/lang/invoke/MethodHandle" ∧ yX5_partOf.cls ≠ "java/lang/invoke/VarHandle" ∧ (parseMethodDescriptor yX5_partOf.desc).map (fun d => d.parameters.length) = some 1 := by decide +kernel
set_option maxHeartbeats 4000000 in
set_option maxRecDepth 100000 in
theorem k_X5_partOf (l : Launch) (D : va_G) (cA : Nat → ClassId) (ad : Nat → Nat) (tw : Nat) (hG : gOk ad 315) (z : gS) (p0 : Nat) (hp0 : gC5 p0) (a1 : Int32) (res : Int32) (h : f_X5_partOf p0 a1 z = some res) : gMi l yX5_partOf wsX5_partOf (gRm 3 66) D cA ad tw shX 315 [.ref (ad p0), .int a1] z (res, z) := by
  refine Met.ofW (cc := cX5_partOf) (maxL := 5) (ret := (some .int)) (by decide) rfl ?_
  intro p e s m args below meth c s₁ B hml hv
  obtain ⟨rfl, hP, hK, hZ⟩ := hv
  have hx := B.exec
  have hb := B.bytes
  have hr := B.returns
  have hts := atoms_spec (ws := wsX5_partOf) B.pre
  have hown : s.vm.findClass RX5 = some m.cls := findClass_of_methodNamed B.named
  have hlocks := B.notSynchronized
  have hS : va_S (gA ad 315) s.heap s.heap [] := va_S.rf
  have hl := lv_entry ([.ref (ad p0), .int a1]) (n := 5) (Nat.le_of_ble_eq_true rfl)
  rw [lg_entry_eq]
  generalize (lg_sl ([.ref (ad p0), .int a1]) ++ List.replicate (5 - (lg_sl ([.ref (ad p0), .int a1])).length) Slot.unset).toArray = ls at hl ⊢
  have hl : lv_has ls 5 [(0, .ref (ad p0)), (1, .int a1)] := hl
  have j17 : ∀ (x3 : Int32) (K6 : Int32 → Int32 → Option Int32) (hK6 : ∀ (x2' : Int32) (x3' : Int32) (H : Heap) (locs : List Loc) (ls : Array Slot), K6 x2' x3' = some res → va_P D vwCl (gw cA ad shX 315 z) H → va_S (gA ad 315) s.heap H locs → lv_has ls 5 [(0, .ref (ad p0)), (2, .int x2'), (3, .int x3')] → W p l e (headSpec wsX5_partOf (gRm 3 66)).room s m ([.ref (ad p0), .int a1] : List Value).toArray below meth c H locs 0 0 (MQ below (va_Qi (fun r u => (r, u) = (res, z)) (gPr D cA ad tw shX 315) (gA ad 315)) ([.ref (ad p0), .int a1] : List Value).toArray s 0 0 (gA ad 315)) (F0 m 6 ls [])) (n : Nat) (x2 : Int32) (x4 : Int32) (H : Heap) (locs : List Loc) (ls : Array Slot), f_X5_partOf_17 p0 z x3 K6 n x2 x4 = some res → va_P D vwCl (gw cA ad shX 315 z) H → va_S (gA ad 315) s.heap H locs → lv_has ls 5 [(0, .ref (ad p0)), (2, .int x2), (3, .int x3), (4, .int x4)] → W p l e (headSpec wsX5_partOf (gRm 3 66)).room s m ([.ref (ad p0), .int a1] : List Value).toArray below meth c H locs 0 0 (MQ below (va_Qi (fun r u => (r, u) = (res, z)) (gPr D cA ad tw shX 315) (gA ad 315)) ([.ref (ad p0), .int a1] : List Value).toArray s 0 0 (gA ad 315)) (F0 m 17 ls []) := by
    intro x3 K6 hK6 n
    induction n with
    | zero => intro x2 x4 H locs ls h; exact (gno h).elim
    | succ n hK17 =>
      intro x2 x4 H locs ls h hP hS hl
      replace h : f_X5_partOf_17_b p0 z x3 K6 (f_X5_partOf_17 p0 z x3 K6 n) x2 x4 = some res := h
      unfold f_X5_partOf_17_b at h
      refine lv_iload hx hb dX5_partOf_17 (lv_at hl 3 rfl) ?_
      refine lv_aload_n hx hb dX5_partOf_19 rfl (lv_at hl 0 rfl) ?_
      refine fw_geti hx hb hts in_X5_partOf_X5 hown hK hP hp0.1.1 hp0.1.2 rfl 0 (by decide) rfl (hts _ (List.mem_of_getElem? (i := 1) rfl)) rfl dX5_partOf_20 ?_
      refine lv_icmp_ge (tgt := 49) hx hb dX5_partOf_23 (by decide) (fun c3 => ?_) (fun c3 => ?_)
      · replace h := gif_t h c3
        refine lv_iinc (v := x3 + (nI 1)) (lv' := [(3, .int (x3 + (nI 1))), (0, .ref (ad p0)), (2, .int x2), (4, .int x4)]) hx hb dX5_partOf_49 hl (k := 2) rfl rfl (by decide) rfl (fun ls hl => ?_)
        refine lv_goto (tgt := 6) hx hb dX5_partOf_52 (by decide) ?_
        exact hK6 x2 (x3 + (nI 1)) _ _ ls h hP hS (lv_sub hl [1, 2, 0] rfl)
      · replace h := gif_f h c3
        refine lv_aload_n hx hb dX5_partOf_26 rfl (lv_at hl 0 rfl) ?_
        refine lv_iload hx hb dX5_partOf_27 (lv_at hl 3 rfl) ?_
        refine lv_iload_n hx hb dX5_partOf_29 rfl (lv_at hl 1 rfl) ?_
        obtain ⟨q4, hq4, h⟩ := gb_s h
        refine fw_viR (As := [.int x4, .int x2]) (rest := []) ⟨hx, hb, hml, hown, hts⟩ (k_X5_sharesWithin l D cA ad tw hG z p0 (hp0) x4 x2 q4 hq4) (cwV 2 hts gX5_partOf_X5_sharesWithin rfl rfl rfl hdV_X5_sharesWithin ⟨Nat.le_of_ble_eq_true rfl, Nat.le_of_ble_eq_true rfl⟩) (fw_preV hp0.1.1 hp0.1.2 rfl rfl hK hZ hP hS) rfl hl _ rfl (Nat.le_of_ble_eq_true rfl) hS dX5_partOf_30 ⟨Nat.zero_le _, Nat.zero_le _⟩ (fun H locs hP hS => ?_)
        refine lv_if_eq (tgt := 43) hx hb dX5_partOf_33 (by decide) (fun c5 => ?_) (fun c5 => ?_)
        · replace h := gif_t h c5
          refine lv_iinc (v := x4 + (nI 1)) (lv' := [(4, .int (x4 + (nI 1))), (0, .ref (ad p0)), (2, .int x2), (3, .int x3)]) hx hb dX5_partOf_43 hl (k := 3) rfl rfl (by decide) rfl (fun ls hl => ?_)
          refine lv_goto (tgt := 17) hx hb dX5_partOf_46 (by decide) ?_
          exact hK17 x2 (x4 + (nI 1)) _ _ ls h hP hS (lv_sub hl [1, 2, 3, 0] rfl)
        · replace h := gif_f h c5
          refine lv_iload_n hx hb dX5_partOf_36 rfl (lv_at hl 1 rfl) ?_
          refine lv_iconst (v := (nI 1)) hx hb dX5_partOf_37 (by decide) ?_
          refine lv_iload hx hb dX5_partOf_38 (lv_at hl 3 rfl) ?_
          refine lv_ishl hx hb dX5_partOf_40 ?_
          refine lv_ior hx hb dX5_partOf_41 ?_
          refine lv_topi (fun y6 ey6 => ?_)
          replace h := gl_s h ey6
          refine lv_istore_n (lv' := [(2, .int y6), (0, .ref (ad p0)), (3, .int x3), (4, .int x4)]) hx hb dX5_partOf_42 rfl hl (by decide) rfl (fun ls hl => ?_)
          refine lv_iinc (v := x4 + (nI 1)) (lv' := [(4, .int (x4 + (nI 1))), (2, .int y6), (0, .ref (ad p0)), (3, .int x3)]) hx hb dX5_partOf_43 hl (k := 3) rfl rfl (by decide) rfl (fun ls hl => ?_)
          refine lv_goto (tgt := 17) hx hb dX5_partOf_46 (by decide) ?_
          exact hK17 y6 (x4 + (nI 1)) _ _ ls h hP hS (lv_sub hl [2, 1, 3, 0] rfl)
  have j6 : ∀  (n : Nat) (x2 : Int32) (x3 : Int32) (H : Heap) (locs : List Loc) (ls : Array Slot), f_X5_partOf_6 p0 z n x2 x3 = some res → va_P D vwCl (gw cA ad shX 315 z) H → va_S (gA ad 315) s.heap H locs → lv_has ls 5 [(0, .ref (ad p0)), (2, .int x2), (3, .int x3)] → W p l e (headSpec wsX5_partOf (gRm 3 66)).room s m ([.ref (ad p0), .int a1] : List Value).toArray below meth c H locs 0 0 (MQ below (va_Qi (fun r u => (r, u) = (res, z)) (gPr D cA ad tw shX 315) (gA ad 315)) ([.ref (ad p0), .int a1] : List Value).toArray s 0 0 (gA ad 315)) (F0 m 6 ls []) := by
    intro n
    induction n with
    | zero => intro x2 x3 H locs ls h; exact (gno h).elim
    | succ n hK6 =>
      intro x2 x3 H locs ls h hP hS hl
      replace h : f_X5_partOf_6_b p0 z (f_X5_partOf_6 p0 z n) x2 x3 = some res := h
      unfold f_X5_partOf_6_b at h
      refine lv_iload_n hx hb dX5_partOf_6 rfl (lv_at hl 2 rfl) ?_
      refine lv_aload_n hx hb dX5_partOf_7 rfl (lv_at hl 0 rfl) ?_
      refine fw_geti hx hb hts in_X5_partOf_X5 hown hK hP hp0.1.1 hp0.1.2 rfl 0 (by decide) rfl (hts _ (List.mem_of_getElem? (i := 1) rfl)) rfl dX5_partOf_8 ?_
      refine lv_icmp_ge (tgt := 55) hx hb dX5_partOf_11 (by decide) (fun c2 => ?_) (fun c2 => ?_)
      · replace h := gif_t h c2
        refine lv_iload_n hx hb dX5_partOf_55 rfl (lv_at hl 1 rfl) ?_
        exact fw_ireti hx hb hr hlocks (congrArg (fun q => (q, z)) (Option.some.inj h)) hK hZ hP hS dX5_partOf_56
      · replace h := gif_f h c2
        refine lv_iconst (v := (nI 0)) hx hb dX5_partOf_14 (by decide) ?_
        refine lv_istore (lv' := [(4, .int (nI 0)), (0, .ref (ad p0)), (2, .int x2), (3, .int x3)]) hx hb dX5_partOf_15 hl (by decide) rfl (fun ls hl => ?_)
        exact j17 x3 _ hK6 gF x2 (nI 0) _ _ ls h hP hS (lv_sub hl [1, 2, 3, 0] rfl)
  unfold f_X5_partOf at h
  refine lv_iconst (v := (nI 1)) hx hb dX5_partOf_0 (by decide) ?_
  refine lv_iload_n hx hb dX5_partOf_1 rfl (lv_at hl 1 rfl) ?_
  refine lv_ishl hx hb dX5_partOf_2 ?_
  refine lv_topi (fun y1 ey1 => ?_)
  replace h := gl_s h ey1
  refine lv_istore_n (lv' := [(2, .int y1), (0, .ref (ad p0)), (1, .int a1)]) hx hb dX5_partOf_3 rfl hl (by decide) rfl (fun ls hl => ?_)
  refine lv_iconst (v := (nI 0)) hx hb dX5_partOf_4 (by decide) ?_
  refine lv_istore_n (lv' := [(3, .int (nI 0)), (2, .int y1), (0, .ref (ad p0)), (1, .int a1)]) hx hb dX5_partOf_5 rfl hl (by decide) rfl (fun ls hl => ?_)
  exact j6  gF y1 (nI 0) _ _ ls h hP hS (lv_sub hl [2, 1, 0] rfl)
theorem in_X5_parts_X5 : ∀ w ∈ wsX50, w ∈ wsX5_parts := fun w h => List.mem_cons_of_mem _ (List.mem_append_right _ (h))
theorem hdV_X5_parts : yX5_parts.cls = RX5 ∧ yX5_parts.cls ≠ "java/lang/invoke/MethodHandle" ∧ yX5_parts.cls ≠ "java/lang/invoke/VarHandle" ∧ (parseMethodDescriptor yX5_parts.desc).map (fun d => d.parameters.length) = some 0 := by decide +kernel
set_option maxHeartbeats 4000000 in
set_option maxRecDepth 100000 in
theorem k_X5_parts (l : Launch) (D : va_G) (cA : Nat → ClassId) (ad : Nat → Nat) (tw : Nat) (hG : gOk ad 315) (z : gS) (p0 : Nat) (hp0 : gC5 p0) (res : Int32) (h : f_X5_parts p0 z = some res) : gMi l yX5_parts wsX5_parts (gRm 4 90) D cA ad tw shX 315 [.ref (ad p0)] z (res, z) := by
  refine Met.ofW (cc := cX5_parts) (maxL := 4) (ret := (some .int)) (by decide) rfl ?_
  intro p e s m args below meth c s₁ B hml hv
  obtain ⟨rfl, hP, hK, hZ⟩ := hv
  have hx := B.exec
  have hb := B.bytes
  have hr := B.returns
  have hts := atoms_spec (ws := wsX5_parts) B.pre
  have hown : s.vm.findClass RX5 = some m.cls := findClass_of_methodNamed B.named
  have hlocks := B.notSynchronized
  have hS : va_S (gA ad 315) s.heap s.heap [] := va_S.rf
  have hl := lv_entry ([.ref (ad p0)]) (n := 4) (Nat.le_of_ble_eq_true rfl)
  rw [lg_entry_eq]
  generalize (lg_sl ([.ref (ad p0)]) ++ List.replicate (4 - (lg_sl ([.ref (ad p0)])).length) Slot.unset).toArray = ls at hl ⊢
  have hl : lv_has ls 4 [(0, .ref (ad p0))] := hl
  have j6 : ∀  (n : Nat) (x1 : Int32) (x2 : Int32) (x3 : Int32) (H : Heap) (locs : List Loc) (ls : Array Slot), f_X5_parts_6 p0 z n x1 x2 x3 = some res → va_P D vwCl (gw cA ad shX 315 z) H → va_S (gA ad 315) s.heap H locs → lv_has ls 4 [(0, .ref (ad p0)), (1, .int x1), (2, .int x2), (3, .int x3)] → W p l e (headSpec wsX5_parts (gRm 4 90)).room s m ([.ref (ad p0)] : List Value).toArray below meth c H locs 0 0 (MQ below (va_Qi (fun r u => (r, u) = (res, z)) (gPr D cA ad tw shX 315) (gA ad 315)) ([.ref (ad p0)] : List Value).toArray s 0 0 (gA ad 315)) (F0 m 6 ls []) := by
    intro n
    induction n with
    | zero => intro x1 x2 x3 H locs ls h; exact (gno h).elim
    | succ n hK6 =>
      intro x1 x2 x3 H locs ls h hP hS hl
      replace h : f_X5_parts_6_b p0 z (f_X5_parts_6 p0 z n) x1 x2 x3 = some res := h
      unfold f_X5_parts_6_b at h
      refine lv_iload_n hx hb dX5_parts_6 rfl (lv_at hl 3 rfl) ?_
      refine lv_aload_n hx hb dX5_parts_7 rfl (lv_at hl 0 rfl) ?_
      refine fw_geti hx hb hts in_X5_parts_X5 hown hK hP hp0.1.1 hp0.1.2 rfl 0 (by decide) rfl (hts _ (List.mem_of_getElem? (i := 1) rfl)) rfl dX5_parts_8 ?_
      refine lv_icmp_ge (tgt := 39) hx hb dX5_parts_11 (by decide) (fun c1 => ?_) (fun c1 => ?_)
      · replace h := gif_t h c1
        refine lv_iload_n hx hb dX5_parts_39 rfl (lv_at hl 2 rfl) ?_
        exact fw_ireti hx hb hr hlocks (congrArg (fun q => (q, z)) (Option.some.inj h)) hK hZ hP hS dX5_parts_40
      · replace h := gif_f h c1
        refine lv_iload_n hx hb dX5_parts_14 rfl (lv_at hl 1 rfl) ?_
        refine lv_iload_n hx hb dX5_parts_15 rfl (lv_at hl 3 rfl) ?_
        refine lv_ishr hx hb dX5_parts_16 ?_
        refine lv_iconst (v := (nI 1)) hx hb dX5_parts_17 (by decide) ?_
        refine lv_iand hx hb dX5_parts_18 ?_
        refine lv_if_ne (tgt := 33) hx hb dX5_parts_19 (by decide) (fun c2 => ?_) (fun c2 => ?_)
        · replace h := gif_f h c2
          refine lv_iinc (v := x3 + (nI 1)) (lv' := [(3, .int (x3 + (nI 1))), (0, .ref (ad p0)), (1, .int x1), (2, .int x2)]) hx hb dX5_parts_33 hl (k := 3) rfl rfl (by decide) rfl (fun ls hl => ?_)
          refine lv_goto (tgt := 6) hx hb dX5_parts_36 (by decide) ?_
          exact hK6 x1 x2 (x3 + (nI 1)) _ _ ls h hP hS (lv_sub hl [1, 2, 3, 0] rfl)
        · replace h := gif_t h c2
          refine lv_iload_n hx hb dX5_parts_22 rfl (lv_at hl 1 rfl) ?_
          refine lv_aload_n hx hb dX5_parts_23 rfl (lv_at hl 0 rfl) ?_
          refine lv_iload_n hx hb dX5_parts_24 rfl (lv_at hl 3 rfl) ?_
          obtain ⟨q3, hq3, h⟩ := gb_s h
          refine fw_viR (As := [.int x3]) (rest := [.int x1]) ⟨hx, hb, hml, hown, hts⟩ (k_X5_partOf l D cA ad tw hG z p0 (hp0) x3 q3 hq3) (cwV 1 hts gX5_parts_X5_partOf rfl rfl rfl hdV_X5_partOf ⟨Nat.le_of_ble_eq_true rfl, Nat.le_of_ble_eq_true rfl⟩) (fw_preV hp0.1.1 hp0.1.2 rfl rfl hK hZ hP hS) rfl hl _ rfl (Nat.le_of_ble_eq_true rfl) hS dX5_parts_25 ⟨Nat.zero_le _, Nat.zero_le _⟩ (fun H locs hP hS => ?_)
          refine lv_ior hx hb dX5_parts_28 ?_
          refine lv_topi (fun y4 ey4 => ?_)
          replace h := gl_s h ey4
          refine lv_istore_n (lv' := [(1, .int y4), (0, .ref (ad p0)), (2, .int x2), (3, .int x3)]) hx hb dX5_parts_29 rfl hl (by decide) rfl (fun ls hl => ?_)
          refine lv_iinc (v := x2 + (nI 1)) (lv' := [(2, .int (x2 + (nI 1))), (1, .int y4), (0, .ref (ad p0)), (3, .int x3)]) hx hb dX5_parts_30 hl (k := 2) rfl rfl (by decide) rfl (fun ls hl => ?_)
          refine lv_iinc (v := x3 + (nI 1)) (lv' := [(3, .int (x3 + (nI 1))), (2, .int (x2 + (nI 1))), (1, .int y4), (0, .ref (ad p0))]) hx hb dX5_parts_33 hl (k := 3) rfl rfl (by decide) rfl (fun ls hl => ?_)
          refine lv_goto (tgt := 6) hx hb dX5_parts_36 (by decide) ?_
          exact hK6 y4 (x2 + (nI 1)) (x3 + (nI 1)) _ _ ls h hP hS (lv_sub hl [3, 2, 1, 0] rfl)
  unfold f_X5_parts at h
  refine lv_iconst (v := (nI 0)) hx hb dX5_parts_0 (by decide) ?_
  refine lv_istore_n (lv' := [(1, .int (nI 0)), (0, .ref (ad p0))]) hx hb dX5_parts_1 rfl hl (by decide) rfl (fun ls hl => ?_)
  refine lv_iconst (v := (nI 0)) hx hb dX5_parts_2 (by decide) ?_
  refine lv_istore_n (lv' := [(2, .int (nI 0)), (1, .int (nI 0)), (0, .ref (ad p0))]) hx hb dX5_parts_3 rfl hl (by decide) rfl (fun ls hl => ?_)
  refine lv_iconst (v := (nI 0)) hx hb dX5_parts_4 (by decide) ?_
  refine lv_istore_n (lv' := [(3, .int (nI 0)), (2, .int (nI 0)), (1, .int (nI 0)), (0, .ref (ad p0))]) hx hb dX5_parts_5 rfl hl (by decide) rfl (fun ls hl => ?_)
  exact j6  gF (nI 0) (nI 0) (nI 0) _ _ ls h hP hS (lv_sub hl [3, 2, 1, 0] rfl)
theorem in_X5_isNearer_X5 : ∀ w ∈ wsX50, w ∈ wsX5_isNearer := fun w h => List.mem_cons_of_mem _ (List.mem_append_right _ (h))
theorem hdV_X5_isNearer : yX5_isNearer.cls = RX5 ∧ yX5_isNearer.cls ≠ "java/lang/invoke/MethodHandle" ∧ yX5_isNearer.cls ≠ "java/lang/invoke/VarHandle" ∧ (parseMethodDescriptor yX5_isNearer.desc).map (fun d => d.parameters.length) = some 3 := by decide +kernel
set_option maxHeartbeats 4000000 in
set_option maxRecDepth 100000 in
theorem k_X5_isNearer (l : Launch) (D : va_G) (cA : Nat → ClassId) (ad : Nat → Nat) (tw : Nat) (hG : gOk ad 315) (z : gS) (p0 : Nat) (hp0 : gC5 p0) (a1 : Int32) (a2 : Int32) (a3 : Int32) (res : Int32) (h : f_X5_isNearer p0 a1 a2 a3 z = some res) : gMi l yX5_isNearer wsX5_isNearer (gRm 2 43) D cA ad tw shX 315 [.ref (ad p0), .int a1, .int a2, .int a3] z (res, z) := by
  refine Met.ofW (cc := cX5_isNearer) (maxL := 5) (ret := (some .boolean)) (by decide) rfl ?_
  intro p e s m args below meth c s₁ B hml hv
  obtain ⟨rfl, hP, hK, hZ⟩ := hv
  have hx := B.exec
  have hb := B.bytes
  have hr := B.returns
  have hts := atoms_spec (ws := wsX5_isNearer) B.pre
  have hown : s.vm.findClass RX5 = some m.cls := findClass_of_methodNamed B.named
  have hlocks := B.notSynchronized
  have hS : va_S (gA ad 315) s.heap s.heap [] := va_S.rf
  have hl := lv_entry ([.ref (ad p0), .int a1, .int a2, .int a3]) (n := 5) (Nat.le_of_ble_eq_true rfl)
  rw [lg_entry_eq]
  generalize (lg_sl ([.ref (ad p0), .int a1, .int a2, .int a3]) ++ List.replicate (5 - (lg_sl ([.ref (ad p0), .int a1, .int a2, .int a3])).length) Slot.unset).toArray = ls at hl ⊢
  have hl : lv_has ls 5 [(0, .ref (ad p0)), (1, .int a1), (2, .int a2), (3, .int a3)] := hl
  unfold f_X5_isNearer at h
  refine lv_aload_n hx hb dX5_isNearer_0 rfl (lv_at hl 0 rfl) ?_
  refine lv_iload_n hx hb dX5_isNearer_1 rfl (lv_at hl 1 rfl) ?_
  refine lv_iload_n hx hb dX5_isNearer_2 rfl (lv_at hl 3 rfl) ?_
  obtain ⟨q1, hq1, h⟩ := gb_s h
  refine fw_viR (As := [.int a1, .int a3]) (rest := []) ⟨hx, hb, hml, hown, hts⟩ (k_X5_common l D cA ad tw hG z p0 (hp0) a1 a3 q1 hq1) (cwV 2 hts gX5_isNearer_X5_common rfl rfl rfl hdV_X5_common ⟨Nat.le_of_ble_eq_true rfl, Nat.le_of_ble_eq_true rfl⟩) (fw_preV hp0.1.1 hp0.1.2 rfl rfl hK hZ hP hS) rfl hl _ rfl (Nat.le_of_ble_eq_true rfl) hS dX5_isNearer_3 ⟨Nat.zero_le _, Nat.zero_le _⟩ (fun H locs hP hS => ?_)
  refine lv_aload_n hx hb dX5_isNearer_6 rfl (lv_at hl 0 rfl) ?_
  refine lv_iload_n hx hb dX5_isNearer_7 rfl (lv_at hl 2 rfl) ?_
  refine lv_iload_n hx hb dX5_isNearer_8 rfl (lv_at hl 3 rfl) ?_
  obtain ⟨q2, hq2, h⟩ := gb_s h
  refine fw_viR (As := [.int a2, .int a3]) (rest := [.int q1]) ⟨hx, hb, hml, hown, hts⟩ (k_X5_common l D cA ad tw hG z p0 (hp0) a2 a3 q2 hq2) (cwV 2 hts gX5_isNearer_X5_common rfl rfl rfl hdV_X5_common ⟨Nat.le_of_ble_eq_true rfl, Nat.le_of_ble_eq_true rfl⟩) (fw_preV hp0.1.1 hp0.1.2 rfl rfl hK hZ hP hS) rfl hl _ rfl (Nat.le_of_ble_eq_true rfl) hS dX5_isNearer_9 ⟨Nat.zero_le _, Nat.zero_le _⟩ (fun H locs hP hS => ?_)
  refine lv_isub hx hb dX5_isNearer_12 ?_
  refine lv_topi (fun y3 ey3 => ?_)
  replace h := gl_s h ey3
  refine lv_istore (lv' := [(4, .int y3), (0, .ref (ad p0)), (1, .int a1), (2, .int a2), (3, .int a3)]) hx hb dX5_isNearer_13 hl (by decide) rfl (fun ls hl => ?_)
  refine lv_iload hx hb dX5_isNearer_15 (lv_at hl 0 rfl) ?_
  refine lv_if_gt (tgt := 40) hx hb dX5_isNearer_17 (by decide) (fun c4 => ?_) (fun c4 => ?_)
  · replace h := gif_t h c4
    refine lv_iconst (v := (nI 1)) hx hb dX5_isNearer_40 (by decide) ?_
    refine lv_goto (tgt := 45) hx hb dX5_isNearer_41 (by decide) ?_
    exact fw_iretz hx hb hr hlocks (by decide) (congrArg (fun q => (q, z)) (Option.some.inj h)) hK hZ hP hS dX5_isNearer_45
  · replace h := gif_f h c4
    refine lv_iload hx hb dX5_isNearer_20 (lv_at hl 0 rfl) ?_
    refine lv_if_ne (tgt := 44) hx hb dX5_isNearer_22 (by decide) (fun c5 => ?_) (fun c5 => ?_)
    · replace h := gif_f h c5
      refine lv_iconst (v := (nI 0)) hx hb dX5_isNearer_44 (by decide) ?_
      exact fw_iretz hx hb hr hlocks (by decide) (congrArg (fun q => (q, z)) (Option.some.inj h)) hK hZ hP hS dX5_isNearer_45
    · replace h := gif_t h c5
      refine lv_aload_n hx hb dX5_isNearer_25 rfl (lv_at hl 1 rfl) ?_
      refine fw_getr hx hb hts in_X5_isNearer_X5 hown hK hP hp0.1.1 hp0.1.2 rfl 2 (by decide) rfl (hts _ (List.mem_of_getElem? (i := 1) rfl)) rfl dX5_isNearer_26 ?_
      refine lv_iload_n hx hb dX5_isNearer_29 rfl (lv_at hl 2 rfl) ?_
      obtain ⟨h6, h⟩ := gg_s h
      refine fw_iald hx hb hK hP hp0.2.1.1 hp0.2.1.2 h6 dX5_isNearer_30 ?_
      refine lv_aload_n hx hb dX5_isNearer_31 rfl (lv_at hl 1 rfl) ?_
      refine fw_getr hx hb hts in_X5_isNearer_X5 hown hK hP hp0.1.1 hp0.1.2 rfl 2 (by decide) rfl (hts _ (List.mem_of_getElem? (i := 1) rfl)) rfl dX5_isNearer_32 ?_
      refine lv_iload_n hx hb dX5_isNearer_35 rfl (lv_at hl 3 rfl) ?_
      obtain ⟨h7, h⟩ := gg_s h
      refine fw_iald hx hb hK hP hp0.2.1.1 hp0.2.1.2 h7 dX5_isNearer_36 ?_
      refine lv_icmp_ge (tgt := 44) hx hb dX5_isNearer_37 (by decide) (fun c8 => ?_) (fun c8 => ?_)
      · replace h := gif_t h c8
        refine lv_iconst (v := (nI 0)) hx hb dX5_isNearer_44 (by decide) ?_
        exact fw_iretz hx hb hr hlocks (by decide) (congrArg (fun q => (q, z)) (Option.some.inj h)) hK hZ hP hS dX5_isNearer_45
      · replace h := gif_f h c8
        refine lv_iconst (v := (nI 1)) hx hb dX5_isNearer_40 (by decide) ?_
        refine lv_goto (tgt := 45) hx hb dX5_isNearer_41 (by decide) ?_
        exact fw_iretz hx hb hr hlocks (by decide) (congrArg (fun q => (q, z)) (Option.some.inj h)) hK hZ hP hS dX5_isNearer_45
theorem in_X5_nearest_X5 : ∀ w ∈ wsX50, w ∈ wsX5_nearest := fun w h => List.mem_cons_of_mem _ (List.mem_append_right _ (h))
theorem hdV_X5_nearest : yX5_nearest.cls = RX5 ∧ yX5_nearest.cls ≠ "java/lang/invoke/MethodHandle" ∧ yX5_nearest.cls ≠ "java/lang/invoke/VarHandle" ∧ (parseMethodDescriptor yX5_nearest.desc).map (fun d => d.parameters.length) = some 2 := by decide +kernel
set_option maxHeartbeats 4000000 in
set_option maxRecDepth 100000 in
theorem k_X5_nearest (l : Launch) (D : va_G) (cA : Nat → ClassId) (ad : Nat → Nat) (tw : Nat) (hG : gOk ad 315) (z : gS) (p0 : Nat) (hp0 : gC5 p0) (a1 : Int32) (a2 : Int32) (res : Int32) (h : f_X5_nearest p0 a1 a2 z = some res) : gMi l yX5_nearest wsX5_nearest (gRm 3 67) D cA ad tw shX 315 [.ref (ad p0), .int a1, .int a2] z (res, z) := by
  refine Met.ofW (cc := cX5_nearest) (maxL := 5) (ret := (some .int)) (by decide) rfl ?_
  intro p e s m args below meth c s₁ B hml hv
  obtain ⟨rfl, hP, hK, hZ⟩ := hv
  have hx := B.exec
  have hb := B.bytes
  have hr := B.returns
  have hts := atoms_spec (ws := wsX5_nearest) B.pre
  have hown : s.vm.findClass RX5 = some m.cls := findClass_of_methodNamed B.named
  have hlocks := B.notSynchronized
  have hS : va_S (gA ad 315) s.heap s.heap [] := va_S.rf
  have hl := lv_entry ([.ref (ad p0), .int a1, .int a2]) (n := 5) (Nat.le_of_ble_eq_true rfl)
  rw [lg_entry_eq]
  generalize (lg_sl ([.ref (ad p0), .int a1, .int a2]) ++ List.replicate (5 - (lg_sl ([.ref (ad p0), .int a1, .int a2])).length) Slot.unset).toArray = ls at hl ⊢
  have hl : lv_has ls 5 [(0, .ref (ad p0)), (1, .int a1), (2, .int a2)] := hl
  have j5 : ∀ (x1 : Int32) (x2 : Int32) (n : Nat) (x3 : Int32) (x4 : Int32) (H : Heap) (locs : List Loc) (ls : Array Slot), f_X5_nearest_5 p0 z x1 x2 n x3 x4 = some res → va_P D vwCl (gw cA ad shX 315 z) H → va_S (gA ad 315) s.heap H locs → lv_has ls 5 [(0, .ref (ad p0)), (1, .int x1), (2, .int x2), (3, .int x3), (4, .int x4)] → W p l e (headSpec wsX5_nearest (gRm 3 67)).room s m ([.ref (ad p0), .int a1, .int a2] : List Value).toArray below meth c H locs 0 0 (MQ below (va_Qi (fun r u => (r, u) = (res, z)) (gPr D cA ad tw shX 315) (gA ad 315)) ([.ref (ad p0), .int a1, .int a2] : List Value).toArray s 0 0 (gA ad 315)) (F0 m 5 ls []) := by
    intro x1 x2 n
    induction n with
    | zero => intro x3 x4 H locs ls h; exact (gno h).elim
    | succ n hK5 =>
      intro x3 x4 H locs ls h hP hS hl
      replace h : f_X5_nearest_5_b p0 z x1 x2 (f_X5_nearest_5 p0 z x1 x2 n) x3 x4 = some res := h
      unfold f_X5_nearest_5_b at h
      refine lv_iload hx hb dX5_nearest_5 (lv_at hl 4 rfl) ?_
      refine lv_aload_n hx hb dX5_nearest_7 rfl (lv_at hl 0 rfl) ?_
      refine fw_geti hx hb hts in_X5_nearest_X5 hown hK hP hp0.1.1 hp0.1.2 rfl 0 (by decide) rfl (hts _ (List.mem_of_getElem? (i := 1) rfl)) rfl dX5_nearest_8 ?_
      refine lv_icmp_ge (tgt := 47) hx hb dX5_nearest_11 (by decide) (fun c1 => ?_) (fun c1 => ?_)
      · replace h := gif_t h c1
        refine lv_iload_n hx hb dX5_nearest_47 rfl (lv_at hl 3 rfl) ?_
        exact fw_ireti hx hb hr hlocks (congrArg (fun q => (q, z)) (Option.some.inj h)) hK hZ hP hS dX5_nearest_48
      · replace h := gif_f h c1
        refine lv_iload_n hx hb dX5_nearest_14 rfl (lv_at hl 2 rfl) ?_
        refine lv_iload hx hb dX5_nearest_15 (lv_at hl 4 rfl) ?_
        refine lv_ishr hx hb dX5_nearest_17 ?_
        refine lv_iconst (v := (nI 1)) hx hb dX5_nearest_18 (by decide) ?_
        refine lv_iand hx hb dX5_nearest_19 ?_
        refine lv_if_ne (tgt := 41) hx hb dX5_nearest_20 (by decide) (fun c2 => ?_) (fun c2 => ?_)
        · replace h := gif_f h c2
          refine lv_iinc (v := x4 + (nI 1)) (lv' := [(4, .int (x4 + (nI 1))), (0, .ref (ad p0)), (1, .int x1), (2, .int x2), (3, .int x3)]) hx hb dX5_nearest_41 hl (k := 4) rfl rfl (by decide) rfl (fun ls hl => ?_)
          refine lv_goto (tgt := 5) hx hb dX5_nearest_44 (by decide) ?_
          exact hK5 x3 (x4 + (nI 1)) _ _ ls h hP hS (lv_sub hl [1, 2, 3, 4, 0] rfl)
        · replace h := gif_t h c2
          refine lv_iload_n hx hb dX5_nearest_23 rfl (lv_at hl 3 rfl) ?_
          refine lv_if_lt (tgt := 38) hx hb dX5_nearest_24 (by decide) (fun c3 => ?_) (fun c3 => ?_)
          · replace h := gif_t h c3
            refine lv_iload hx hb dX5_nearest_38 (lv_at hl 4 rfl) ?_
            refine lv_istore_n (lv' := [(3, .int x4), (0, .ref (ad p0)), (1, .int x1), (2, .int x2), (4, .int x4)]) hx hb dX5_nearest_40 rfl hl (by decide) rfl (fun ls hl => ?_)
            refine lv_iinc (v := x4 + (nI 1)) (lv' := [(4, .int (x4 + (nI 1))), (3, .int x4), (0, .ref (ad p0)), (1, .int x1), (2, .int x2)]) hx hb dX5_nearest_41 hl (k := 4) rfl rfl (by decide) rfl (fun ls hl => ?_)
            refine lv_goto (tgt := 5) hx hb dX5_nearest_44 (by decide) ?_
            exact hK5 x4 (x4 + (nI 1)) _ _ ls h hP hS (lv_sub hl [2, 3, 4, 1, 0] rfl)
          · replace h := gif_f h c3
            refine lv_aload_n hx hb dX5_nearest_27 rfl (lv_at hl 0 rfl) ?_
            refine lv_iload hx hb dX5_nearest_28 (lv_at hl 4 rfl) ?_
            refine lv_iload_n hx hb dX5_nearest_30 rfl (lv_at hl 3 rfl) ?_
            refine lv_iload_n hx hb dX5_nearest_31 rfl (lv_at hl 1 rfl) ?_
            obtain ⟨q4, hq4, h⟩ := gb_s h
            refine fw_viR (As := [.int x4, .int x3, .int x1]) (rest := []) ⟨hx, hb, hml, hown, hts⟩ (k_X5_isNearer l D cA ad tw hG z p0 (hp0) x4 x3 x1 q4 hq4) (cwV 3 hts gX5_nearest_X5_isNearer rfl rfl rfl hdV_X5_isNearer ⟨Nat.le_of_ble_eq_true rfl, Nat.le_of_ble_eq_true rfl⟩) (fw_preV hp0.1.1 hp0.1.2 rfl rfl hK hZ hP hS) rfl hl _ rfl (Nat.le_of_ble_eq_true rfl) hS dX5_nearest_32 ⟨Nat.zero_le _, Nat.zero_le _⟩ (fun H locs hP hS => ?_)
            refine lv_if_eq (tgt := 41) hx hb dX5_nearest_35 (by decide) (fun c5 => ?_) (fun c5 => ?_)
            · replace h := gif_t h c5
              refine lv_iinc (v := x4 + (nI 1)) (lv' := [(4, .int (x4 + (nI 1))), (0, .ref (ad p0)), (1, .int x1), (2, .int x2), (3, .int x3)]) hx hb dX5_nearest_41 hl (k := 4) rfl rfl (by decide) rfl (fun ls hl => ?_)
              refine lv_goto (tgt := 5) hx hb dX5_nearest_44 (by decide) ?_
              exact hK5 x3 (x4 + (nI 1)) _ _ ls h hP hS (lv_sub hl [1, 2, 3, 4, 0] rfl)
            · replace h := gif_f h c5
              refine lv_iload hx hb dX5_nearest_38 (lv_at hl 4 rfl) ?_
              refine lv_istore_n (lv' := [(3, .int x4), (0, .ref (ad p0)), (1, .int x1), (2, .int x2), (4, .int x4)]) hx hb dX5_nearest_40 rfl hl (by decide) rfl (fun ls hl => ?_)
              refine lv_iinc (v := x4 + (nI 1)) (lv' := [(4, .int (x4 + (nI 1))), (3, .int x4), (0, .ref (ad p0)), (1, .int x1), (2, .int x2)]) hx hb dX5_nearest_41 hl (k := 4) rfl rfl (by decide) rfl (fun ls hl => ?_)
              refine lv_goto (tgt := 5) hx hb dX5_nearest_44 (by decide) ?_
              exact hK5 x4 (x4 + (nI 1)) _ _ ls h hP hS (lv_sub hl [2, 3, 4, 1, 0] rfl)
  unfold f_X5_nearest at h
  refine lv_iconst (v := gm1) hx hb dX5_nearest_0 (by decide) ?_
  refine lv_istore_n (lv' := [(3, .int gm1), (0, .ref (ad p0)), (1, .int a1), (2, .int a2)]) hx hb dX5_nearest_1 rfl hl (by decide) rfl (fun ls hl => ?_)
  refine lv_iconst (v := (nI 0)) hx hb dX5_nearest_2 (by decide) ?_
  refine lv_istore (lv' := [(4, .int (nI 0)), (3, .int gm1), (0, .ref (ad p0)), (1, .int a1), (2, .int a2)]) hx hb dX5_nearest_3 hl (by decide) rfl (fun ls hl => ?_)
  exact j5 a1 a2 gF gm1 (nI 0) _ _ ls h hP hS (lv_sub hl [2, 3, 4, 1, 0] rfl)
theorem in_X5_weight_X5 : ∀ w ∈ wsX50, w ∈ wsX5_weight := fun w h => List.mem_cons_of_mem _ (List.mem_append_right _ (h))
theorem hdV_X5_weight : yX5_weight.cls = RX5 ∧ yX5_weight.cls ≠ "java/lang/invoke/MethodHandle" ∧ yX5_weight.cls ≠ "java/lang/invoke/VarHandle" ∧ (parseMethodDescriptor yX5_weight.desc).map (fun d => d.parameters.length) = some 2 := by decide +kernel
set_option maxHeartbeats 4000000 in
set_option maxRecDepth 100000 in
theorem k_X5_weight (l : Launch) (D : va_G) (cA : Nat → ClassId) (ad : Nat → Nat) (tw : Nat) (hG : gOk ad 315) (z : gS) (p0 : Nat) (hp0 : gC5 p0) (a1 : Int32) (a2 : Int32) (res : Int32) (h : f_X5_weight p0 a1 a2 z = some res) : gMi l yX5_weight wsX5_weight (gRm 3 66) D cA ad tw shX 315 [.ref (ad p0), .int a1, .int a2] z (res, z) := by
  refine Met.ofW (cc := cX5_weight) (maxL := 3) (ret := (some .int)) (by decide) rfl ?_
  intro p e s m args below meth c s₁ B hml hv
  obtain ⟨rfl, hP, hK, hZ⟩ := hv
  have hx := B.exec
  have hb := B.bytes
  have hr := B.returns
  have hts := atoms_spec (ws := wsX5_weight) B.pre
  have hown : s.vm.findClass RX5 = some m.cls := findClass_of_methodNamed B.named
  have hlocks := B.notSynchronized
  have hS : va_S (gA ad 315) s.heap s.heap [] := va_S.rf
  have hl := lv_entry ([.ref (ad p0), .int a1, .int a2]) (n := 3) (Nat.le_of_ble_eq_true rfl)
  rw [lg_entry_eq]
  generalize (lg_sl ([.ref (ad p0), .int a1, .int a2]) ++ List.replicate (3 - (lg_sl ([.ref (ad p0), .int a1, .int a2])).length) Slot.unset).toArray = ls at hl ⊢
  have hl : lv_has ls 3 [(0, .ref (ad p0)), (1, .int a1), (2, .int a2)] := hl
  unfold f_X5_weight at h
  refine lv_iload_n hx hb dX5_weight_0 rfl (lv_at hl 2 rfl) ?_
  by_cases c1 : a2 = (nI 0)
  · replace h := gif_t h c1
    refine lv_tableIn (tgt := 28) hx hb dX5_weight_1 (by rw [c1]; decide) (by rw [c1]; decide) (by rw [c1]; rfl) (by decide) ?_
    refine lv_aload_n hx hb dX5_weight_28 rfl (lv_at hl 0 rfl) ?_
    refine fw_getr hx hb hts in_X5_weight_X5 hown hK hP hp0.1.1 hp0.1.2 rfl 2 (by decide) rfl (hts _ (List.mem_of_getElem? (i := 1) rfl)) rfl dX5_weight_29 ?_
    refine lv_iload_n hx hb dX5_weight_32 rfl (lv_at hl 1 rfl) ?_
    obtain ⟨h2, h⟩ := gg_s h
    refine fw_iald hx hb hK hP hp0.2.1.1 hp0.2.1.2 h2 dX5_weight_33 ?_
    refine lv_ineg hx hb dX5_weight_34 ?_
    exact fw_ireti hx hb hr hlocks (congrArg (fun q => (q, z)) (Option.some.inj h)) hK hZ hP hS dX5_weight_35
  replace h := gif_f h c1
  by_cases c3 : a2 = (nI 1)
  · replace h := gif_t h c3
    refine lv_tableIn (tgt := 36) hx hb dX5_weight_1 (by rw [c3]; decide) (by rw [c3]; decide) (by rw [c3]; rfl) (by decide) ?_
    refine lv_aload_n hx hb dX5_weight_36 rfl (lv_at hl 0 rfl) ?_
    refine fw_getr hx hb hts in_X5_weight_X5 hown hK hP hp0.1.1 hp0.1.2 rfl 3 (by decide) rfl (hts _ (List.mem_of_getElem? (i := 2) rfl)) rfl dX5_weight_37 ?_
    refine lv_iload_n hx hb dX5_weight_40 rfl (lv_at hl 1 rfl) ?_
    obtain ⟨h4, h⟩ := gg_s h
    refine fw_iald hx hb hK hP hp0.2.2.1.1 hp0.2.2.1.2 h4 dX5_weight_41 ?_
    obtain ⟨q5, hq5, h⟩ := gb_s h
    refine fw_siR (As := [.int (z (p0 + 2) a1.toNatClampNeg)]) (rest := []) ⟨hx, hb, hml, hown, hts⟩ (k_J6_bitCount_0f7a4 l D cA ad tw hG z (z (p0 + 2) a1.toNatClampNeg) q5 hq5) (va_cwS 1 hts gX5_weight_J6_bitCount_0f7a4 rfl rfl rfl hdS_J6_bitCount_0f7a4 ⟨Nat.le_of_ble_eq_true rfl, Nat.le_of_ble_eq_true rfl⟩) hK hZ hP rfl hl _ rfl (Nat.le_of_ble_eq_true rfl) hS dX5_weight_42 ⟨Nat.zero_le _, Nat.zero_le _⟩ (fun H locs hP hS => ?_)
    exact fw_ireti hx hb hr hlocks (congrArg (fun q => (q, z)) (Option.some.inj h)) hK hZ hP hS dX5_weight_45
  replace h := gif_f h c3
  by_cases c6 : a2 = (nI 2)
  · replace h := gif_t h c6
    refine lv_tableIn (tgt := 46) hx hb dX5_weight_1 (by rw [c6]; decide) (by rw [c6]; decide) (by rw [c6]; rfl) (by decide) ?_
    refine lv_aload_n hx hb dX5_weight_46 rfl (lv_at hl 0 rfl) ?_
    refine lv_iload_n hx hb dX5_weight_47 rfl (lv_at hl 1 rfl) ?_
    obtain ⟨q7, hq7, h⟩ := gb_s h
    refine fw_viR (As := [.int a1]) (rest := []) ⟨hx, hb, hml, hown, hts⟩ (k_X5_friends l D cA ad tw hG z p0 (hp0) a1 q7 hq7) (cwV 1 hts gX5_weight_X5_friends rfl rfl rfl hdV_X5_friends ⟨Nat.le_of_ble_eq_true rfl, Nat.le_of_ble_eq_true rfl⟩) (fw_preV hp0.1.1 hp0.1.2 rfl rfl hK hZ hP hS) rfl hl _ rfl (Nat.le_of_ble_eq_true rfl) hS dX5_weight_48 ⟨Nat.zero_le _, Nat.zero_le _⟩ (fun H locs hP hS => ?_)
    exact fw_ireti hx hb hr hlocks (congrArg (fun q => (q, z)) (Option.some.inj h)) hK hZ hP hS dX5_weight_51
  replace h := gif_f h c6
  refine lv_tableOut (tgt := 52) hx hb dX5_weight_1 (by have nc1 := gne (w := 0) c1 rfl; have nc3 := gne (w := 1) c3 rfl; have nc6 := gne (w := 2) c6 rfl; omega) (by decide) ?_
  refine lv_aload_n hx hb dX5_weight_52 rfl (lv_at hl 0 rfl) ?_
  refine fw_getr hx hb hts in_X5_weight_X5 hown hK hP hp0.1.1 hp0.1.2 rfl 3 (by decide) rfl (hts _ (List.mem_of_getElem? (i := 2) rfl)) rfl dX5_weight_53 ?_
  refine lv_iload_n hx hb dX5_weight_56 rfl (lv_at hl 1 rfl) ?_
  obtain ⟨h8, h⟩ := gg_s h
  refine fw_iald hx hb hK hP hp0.2.2.1.1 hp0.2.2.1.2 h8 dX5_weight_57 ?_
  refine lv_ineg hx hb dX5_weight_58 ?_
  exact fw_ireti hx hb hr hlocks (congrArg (fun q => (q, z)) (Option.some.inj h)) hK hZ hP hS dX5_weight_59
theorem in_X5_foremost_X5 : ∀ w ∈ wsX50, w ∈ wsX5_foremost := fun w h => List.mem_cons_of_mem _ (List.mem_append_right _ (h))
theorem hdV_X5_foremost : yX5_foremost.cls = RX5 ∧ yX5_foremost.cls ≠ "java/lang/invoke/MethodHandle" ∧ yX5_foremost.cls ≠ "java/lang/invoke/VarHandle" ∧ (parseMethodDescriptor yX5_foremost.desc).map (fun d => d.parameters.length) = some 2 := by decide +kernel
set_option maxHeartbeats 4000000 in
set_option maxRecDepth 100000 in
theorem k_X5_foremost (l : Launch) (D : va_G) (cA : Nat → ClassId) (ad : Nat → Nat) (tw : Nat) (hG : gOk ad 315) (z : gS) (p0 : Nat) (hp0 : gC5 p0) (a1 : Int32) (a2 : Int32) (res : Int32) (h : f_X5_foremost p0 a1 a2 z = some res) : gMi l yX5_foremost wsX5_foremost (gRm 4 88) D cA ad tw shX 315 [.ref (ad p0), .int a1, .int a2] z (res, z) := by
  refine Met.ofW (cc := cX5_foremost) (maxL := 7) (ret := (some .int)) (by decide) rfl ?_
  intro p e s m args below meth c s₁ B hml hv
  obtain ⟨rfl, hP, hK, hZ⟩ := hv
  have hx := B.exec
  have hb := B.bytes
  have hr := B.returns
  have hts := atoms_spec (ws := wsX5_foremost) B.pre
  have hown : s.vm.findClass RX5 = some m.cls := findClass_of_methodNamed B.named
  have hlocks := B.notSynchronized
  have hS : va_S (gA ad 315) s.heap s.heap [] := va_S.rf
  have hl := lv_entry ([.ref (ad p0), .int a1, .int a2]) (n := 7) (Nat.le_of_ble_eq_true rfl)
  rw [lg_entry_eq]
  generalize (lg_sl ([.ref (ad p0), .int a1, .int a2]) ++ List.replicate (7 - (lg_sl ([.ref (ad p0), .int a1, .int a2])).length) Slot.unset).toArray = ls at hl ⊢
  have hl : lv_has ls 7 [(0, .ref (ad p0)), (1, .int a1), (2, .int a2)] := hl
  have j8 : ∀ (x1 : Int32) (x2 : Int32) (n : Nat) (x3 : Int32) (x4 : Int32) (x5 : Int32) (H : Heap) (locs : List Loc) (ls : Array Slot), f_X5_foremost_8 p0 z x1 x2 n x3 x4 x5 = some res → va_P D vwCl (gw cA ad shX 315 z) H → va_S (gA ad 315) s.heap H locs → lv_has ls 7 [(0, .ref (ad p0)), (1, .int x1), (2, .int x2), (3, .int x3), (4, .int x4), (5, .int x5)] → W p l e (headSpec wsX5_foremost (gRm 4 88)).room s m ([.ref (ad p0), .int a1, .int a2] : List Value).toArray below meth c H locs 0 0 (MQ below (va_Qi (fun r u => (r, u) = (res, z)) (gPr D cA ad tw shX 315) (gA ad 315)) ([.ref (ad p0), .int a1, .int a2] : List Value).toArray s 0 0 (gA ad 315)) (F0 m 8 ls []) := by
    intro x1 x2 n
    induction n with
    | zero => intro x3 x4 x5 H locs ls h; exact (gno h).elim
    | succ n hK8 =>
      intro x3 x4 x5 H locs ls h hP hS hl
      replace h : f_X5_foremost_8_b p0 z x1 x2 (f_X5_foremost_8 p0 z x1 x2 n) x3 x4 x5 = some res := h
      unfold f_X5_foremost_8_b at h
      refine lv_iload hx hb dX5_foremost_8 (lv_at hl 5 rfl) ?_
      refine lv_aload_n hx hb dX5_foremost_10 rfl (lv_at hl 0 rfl) ?_
      refine fw_geti hx hb hts in_X5_foremost_X5 hown hK hP hp0.1.1 hp0.1.2 rfl 0 (by decide) rfl (hts _ (List.mem_of_getElem? (i := 1) rfl)) rfl dX5_foremost_11 ?_
      refine lv_icmp_ge (tgt := 59) hx hb dX5_foremost_14 (by decide) (fun c1 => ?_) (fun c1 => ?_)
      · replace h := gif_t h c1
        refine lv_iload_n hx hb dX5_foremost_59 rfl (lv_at hl 3 rfl) ?_
        exact fw_ireti hx hb hr hlocks (congrArg (fun q => (q, z)) (Option.some.inj h)) hK hZ hP hS dX5_foremost_60
      · replace h := gif_f h c1
        refine lv_iload_n hx hb dX5_foremost_17 rfl (lv_at hl 2 rfl) ?_
        refine lv_iload hx hb dX5_foremost_18 (lv_at hl 5 rfl) ?_
        refine lv_ishr hx hb dX5_foremost_20 ?_
        refine lv_iconst (v := (nI 1)) hx hb dX5_foremost_21 (by decide) ?_
        refine lv_iand hx hb dX5_foremost_22 ?_
        refine lv_if_ne (tgt := 53) hx hb dX5_foremost_23 (by decide) (fun c2 => ?_) (fun c2 => ?_)
        · replace h := gif_f h c2
          refine lv_iinc (v := x5 + (nI 1)) (lv' := [(5, .int (x5 + (nI 1))), (0, .ref (ad p0)), (1, .int x1), (2, .int x2), (3, .int x3), (4, .int x4)]) hx hb dX5_foremost_53 hl (k := 5) rfl rfl (by decide) rfl (fun ls hl => ?_)
          refine lv_goto (tgt := 8) hx hb dX5_foremost_56 (by decide) ?_
          exact hK8 x3 x4 (x5 + (nI 1)) _ _ ls h hP hS (lv_sub hl [1, 2, 3, 4, 5, 0] rfl)
        · replace h := gif_t h c2
          refine lv_aload_n hx hb dX5_foremost_26 rfl (lv_at hl 0 rfl) ?_
          refine lv_iload hx hb dX5_foremost_27 (lv_at hl 5 rfl) ?_
          refine lv_iload_n hx hb dX5_foremost_29 rfl (lv_at hl 1 rfl) ?_
          obtain ⟨q3, hq3, h⟩ := gb_s h
          refine fw_viR (As := [.int x5, .int x1]) (rest := []) ⟨hx, hb, hml, hown, hts⟩ (k_X5_weight l D cA ad tw hG z p0 (hp0) x5 x1 q3 hq3) (cwV 2 hts gX5_foremost_X5_weight rfl rfl rfl hdV_X5_weight ⟨Nat.le_of_ble_eq_true rfl, Nat.le_of_ble_eq_true rfl⟩) (fw_preV hp0.1.1 hp0.1.2 rfl rfl hK hZ hP hS) rfl hl _ rfl (Nat.le_of_ble_eq_true rfl) hS dX5_foremost_30 ⟨Nat.zero_le _, Nat.zero_le _⟩ (fun H locs hP hS => ?_)
          refine lv_istore (lv' := [(6, .int q3), (0, .ref (ad p0)), (1, .int x1), (2, .int x2), (3, .int x3), (4, .int x4), (5, .int x5)]) hx hb dX5_foremost_33 hl (by decide) rfl (fun ls hl => ?_)
          refine lv_iload_n hx hb dX5_foremost_35 rfl (lv_at hl 4 rfl) ?_
          refine lv_if_lt (tgt := 46) hx hb dX5_foremost_36 (by decide) (fun c4 => ?_) (fun c4 => ?_)
          · replace h := gif_t h c4
            refine lv_iload hx hb dX5_foremost_46 (lv_at hl 6 rfl) ?_
            refine lv_istore_n (lv' := [(3, .int x5), (6, .int q3), (0, .ref (ad p0)), (1, .int x1), (2, .int x2), (4, .int x4), (5, .int x5)]) hx hb dX5_foremost_48 rfl hl (by decide) rfl (fun ls hl => ?_)
            refine lv_iload hx hb dX5_foremost_49 (lv_at hl 1 rfl) ?_
            refine lv_istore (lv' := [(4, .int q3), (3, .int x5), (6, .int q3), (0, .ref (ad p0)), (1, .int x1), (2, .int x2), (5, .int x5)]) hx hb dX5_foremost_51 hl (by decide) rfl (fun ls hl => ?_)
            refine lv_iinc (v := x5 + (nI 1)) (lv' := [(5, .int (x5 + (nI 1))), (4, .int q3), (3, .int x5), (6, .int q3), (0, .ref (ad p0)), (1, .int x1), (2, .int x2)]) hx hb dX5_foremost_53 hl (k := 6) rfl rfl (by decide) rfl (fun ls hl => ?_)
            refine lv_goto (tgt := 8) hx hb dX5_foremost_56 (by decide) ?_
            exact hK8 x5 q3 (x5 + (nI 1)) _ _ ls h hP hS (lv_sub hl [4, 5, 6, 2, 1, 0] rfl)
          · replace h := gif_f h c4
            refine lv_iload hx hb dX5_foremost_39 (lv_at hl 0 rfl) ?_
            refine lv_iload hx hb dX5_foremost_41 (lv_at hl 5 rfl) ?_
            refine lv_icmp_le (tgt := 53) hx hb dX5_foremost_43 (by decide) (fun c5 => ?_) (fun c5 => ?_)
            · replace h := gif_t h c5
              refine lv_iinc (v := x5 + (nI 1)) (lv' := [(5, .int (x5 + (nI 1))), (6, .int q3), (0, .ref (ad p0)), (1, .int x1), (2, .int x2), (3, .int x3), (4, .int x4)]) hx hb dX5_foremost_53 hl (k := 6) rfl rfl (by decide) rfl (fun ls hl => ?_)
              refine lv_goto (tgt := 8) hx hb dX5_foremost_56 (by decide) ?_
              exact hK8 x3 x4 (x5 + (nI 1)) _ _ ls h hP hS (lv_sub hl [2, 3, 4, 5, 6, 0] rfl)
            · replace h := gif_f h c5
              refine lv_iload hx hb dX5_foremost_46 (lv_at hl 6 rfl) ?_
              refine lv_istore_n (lv' := [(3, .int x5), (6, .int q3), (0, .ref (ad p0)), (1, .int x1), (2, .int x2), (4, .int x4), (5, .int x5)]) hx hb dX5_foremost_48 rfl hl (by decide) rfl (fun ls hl => ?_)
              refine lv_iload hx hb dX5_foremost_49 (lv_at hl 1 rfl) ?_
              refine lv_istore (lv' := [(4, .int q3), (3, .int x5), (6, .int q3), (0, .ref (ad p0)), (1, .int x1), (2, .int x2), (5, .int x5)]) hx hb dX5_foremost_51 hl (by decide) rfl (fun ls hl => ?_)
              refine lv_iinc (v := x5 + (nI 1)) (lv' := [(5, .int (x5 + (nI 1))), (4, .int q3), (3, .int x5), (6, .int q3), (0, .ref (ad p0)), (1, .int x1), (2, .int x2)]) hx hb dX5_foremost_53 hl (k := 6) rfl rfl (by decide) rfl (fun ls hl => ?_)
              refine lv_goto (tgt := 8) hx hb dX5_foremost_56 (by decide) ?_
              exact hK8 x5 q3 (x5 + (nI 1)) _ _ ls h hP hS (lv_sub hl [4, 5, 6, 2, 1, 0] rfl)
  unfold f_X5_foremost at h
  refine lv_iconst (v := gm1) hx hb dX5_foremost_0 (by decide) ?_
  refine lv_istore_n (lv' := [(3, .int gm1), (0, .ref (ad p0)), (1, .int a1), (2, .int a2)]) hx hb dX5_foremost_1 rfl hl (by decide) rfl (fun ls hl => ?_)
  refine lv_iconst (v := (nI 0)) hx hb dX5_foremost_2 (by decide) ?_
  refine lv_istore (lv' := [(4, .int (nI 0)), (3, .int gm1), (0, .ref (ad p0)), (1, .int a1), (2, .int a2)]) hx hb dX5_foremost_3 hl (by decide) rfl (fun ls hl => ?_)
  refine lv_iconst (v := (nI 0)) hx hb dX5_foremost_5 (by decide) ?_
  refine lv_istore (lv' := [(5, .int (nI 0)), (4, .int (nI 0)), (3, .int gm1), (0, .ref (ad p0)), (1, .int a1), (2, .int a2)]) hx hb dX5_foremost_6 hl (by decide) rfl (fun ls hl => ?_)
  exact j8 a1 a2 gF gm1 (nI 0) (nI 0) _ _ ls h hP hS (lv_sub hl [3, 4, 5, 2, 1, 0] rfl)
theorem in_X8_find_X8 : ∀ w ∈ wsX80, w ∈ wsX8_find := fun w h => List.mem_cons_of_mem _ (List.mem_append_right _ (h))
theorem hdV_X8_find : yX8_find.cls = RX8 ∧ yX8_find.cls ≠ "java/lang/invoke/MethodHandle" ∧ yX8_find.cls ≠ "java/lang/invoke/VarHandle" ∧ (parseMethodDescriptor yX8_find.desc).map (fun d => d.parameters.length) = some 1 := by decide +kernel
set_option maxHeartbeats 4000000 in
set_option maxRecDepth 100000 in
theorem k_X8_find (l : Launch) (D : va_G) (cA : Nat → ClassId) (ad : Nat → Nat) (tw : Nat) (hG : gOk ad 315) (z : gS) (p0 : Nat) (hp0 : gC8 p0) (a1 : Int32) (res : Int32) (h : f_X8_find p0 a1 z = some res) : gMi l yX8_find wsX8_find (gRm 0 0) D cA ad tw shX 315 [.ref (ad p0), .int a1] z (res, z) := by
  refine Met.ofW (cc := cX8_find) (maxL := 3) (ret := (some .int)) (by decide) rfl ?_
  intro p e s m args below meth c s₁ B hml hv
  obtain ⟨rfl, hP, hK, hZ⟩ := hv
  have hx := B.exec
  have hb := B.bytes
  have hr := B.returns
  have hts := atoms_spec (ws := wsX8_find) B.pre
  have hown : s.vm.findClass RX8 = some m.cls := findClass_of_methodNamed B.named
  have hlocks := B.notSynchronized
  have hS : va_S (gA ad 315) s.heap s.heap [] := va_S.rf
  have hl := lv_entry ([.ref (ad p0), .int a1]) (n := 3) (Nat.le_of_ble_eq_true rfl)
  rw [lg_entry_eq]
  generalize (lg_sl ([.ref (ad p0), .int a1]) ++ List.replicate (3 - (lg_sl ([.ref (ad p0), .int a1])).length) Slot.unset).toArray = ls at hl ⊢
  have hl : lv_has ls 3 [(0, .ref (ad p0)), (1, .int a1)] := hl
  have j2 : ∀ (x1 : Int32) (n : Nat) (x2 : Int32) (H : Heap) (locs : List Loc) (ls : Array Slot), f_X8_find_2 p0 z x1 n x2 = some res → va_P D vwCl (gw cA ad shX 315 z) H → va_S (gA ad 315) s.heap H locs → lv_has ls 3 [(0, .ref (ad p0)), (1, .int x1), (2, .int x2)] → W p l e (headSpec wsX8_find (gRm 0 0)).room s m ([.ref (ad p0), .int a1] : List Value).toArray below meth c H locs 0 0 (MQ below (va_Qi (fun r u => (r, u) = (res, z)) (gPr D cA ad tw shX 315) (gA ad 315)) ([.ref (ad p0), .int a1] : List Value).toArray s 0 0 (gA ad 315)) (F0 m 2 ls []) := by
    intro x1 n
    induction n with
    | zero => intro x2 H locs ls h; exact (gno h).elim
    | succ n hK2 =>
      intro x2 H locs ls h hP hS hl
      replace h : f_X8_find_2_b p0 z x1 (f_X8_find_2 p0 z x1 n) x2 = some res := h
      unfold f_X8_find_2_b at h
      refine lv_iload_n hx hb dX8_find_2 rfl (lv_at hl 2 rfl) ?_
      refine lv_aload_n hx hb dX8_find_3 rfl (lv_at hl 0 rfl) ?_
      refine fw_geti hx hb hts in_X8_find_X8 hown hK hP hp0.1.1 hp0.1.2 rfl 1 (by decide) rfl (hts _ (List.mem_of_getElem? (i := 1) rfl)) rfl dX8_find_4 ?_
      refine lv_icmp_ge (tgt := 28) hx hb dX8_find_7 (by decide) (fun c1 => ?_) (fun c1 => ?_)
      · replace h := gif_t h c1
        refine lv_iconst (v := gm1) hx hb dX8_find_28 (by decide) ?_
        exact fw_ireti hx hb hr hlocks (congrArg (fun q => (q, z)) (Option.some.inj h)) hK hZ hP hS dX8_find_29
      · replace h := gif_f h c1
        refine lv_aload_n hx hb dX8_find_10 rfl (lv_at hl 0 rfl) ?_
        refine fw_getr hx hb hts in_X8_find_X8 hown hK hP hp0.1.1 hp0.1.2 rfl 2 (by decide) rfl (hts _ (List.mem_of_getElem? (i := 2) rfl)) rfl dX8_find_11 ?_
        refine lv_iload_n hx hb dX8_find_14 rfl (lv_at hl 2 rfl) ?_
        obtain ⟨h2, h⟩ := gg_s h
        refine fw_iald hx hb hK hP hp0.2.1.1 hp0.2.1.2 h2 dX8_find_15 ?_
        refine lv_iload_n hx hb dX8_find_16 rfl (lv_at hl 1 rfl) ?_
        refine lv_icmp_ne (tgt := 22) hx hb dX8_find_17 (by decide) (fun c3 => ?_) (fun c3 => ?_)
        · replace h := gif_f h c3
          refine lv_iinc (v := x2 + (nI 1)) (lv' := [(2, .int (x2 + (nI 1))), (0, .ref (ad p0)), (1, .int x1)]) hx hb dX8_find_22 hl (k := 2) rfl rfl (by decide) rfl (fun ls hl => ?_)
          refine lv_goto (tgt := 2) hx hb dX8_find_25 (by decide) ?_
          exact hK2 (x2 + (nI 1)) _ _ ls h hP hS (lv_sub hl [1, 2, 0] rfl)
        · replace h := gif_t h c3
          refine lv_iload_n hx hb dX8_find_20 rfl (lv_at hl 2 rfl) ?_
          exact fw_ireti hx hb hr hlocks (congrArg (fun q => (q, z)) (Option.some.inj h)) hK hZ hP hS dX8_find_21
  unfold f_X8_find at h
  refine lv_iconst (v := (nI 0)) hx hb dX8_find_0 (by decide) ?_
  refine lv_istore_n (lv' := [(2, .int (nI 0)), (0, .ref (ad p0)), (1, .int a1)]) hx hb dX8_find_1 rfl hl (by decide) rfl (fun ls hl => ?_)
  exact j2 a1 gF (nI 0) _ _ ls h hP hS (lv_sub hl [1, 2, 0] rfl)
theorem in_X8_add_X8 : ∀ w ∈ wsX80, w ∈ wsX8_add := fun w h => List.mem_cons_of_mem _ (List.mem_append_right _ (h))
theorem hdV_X8_add : yX8_add.cls = RX8 ∧ yX8_add.cls ≠ "java/lang/invoke/MethodHandle" ∧ yX8_add.cls ≠ "java/lang/invoke/VarHandle" ∧ (parseMethodDescriptor yX8_add.desc).map (fun d => d.parameters.length) = some 1 := by decide +kernel
set_option maxHeartbeats 4000000 in
set_option maxRecDepth 100000 in
theorem k_X8_add (l : Launch) (D : va_G) (cA : Nat → ClassId) (ad : Nat → Nat) (tw : Nat) (hG : gOk ad 315) (z : gS) (p0 : Nat) (hp0 : gC8 p0) (a1 : Int32) (res : gS) (h : f_X8_add p0 a1 z = some res) : gMv l yX8_add wsX8_add (gRm 1 22) D cA ad tw shX 315 [.ref (ad p0), .int a1] z res := by
  refine Met.ofW (cc := cX8_add) (maxL := 3) (ret := none) (by decide) rfl ?_
  intro p e s m args below meth c s₁ B hml hv
  obtain ⟨rfl, hP, hK, hZ⟩ := hv
  have hx := B.exec
  have hb := B.bytes
  have hr := B.returns
  have hts := atoms_spec (ws := wsX8_add) B.pre
  have hown : s.vm.findClass RX8 = some m.cls := findClass_of_methodNamed B.named
  have hlocks := B.notSynchronized
  have hS : va_S (gA ad 315) s.heap s.heap [] := va_S.rf
  have hl := lv_entry ([.ref (ad p0), .int a1]) (n := 3) (Nat.le_of_ble_eq_true rfl)
  rw [lg_entry_eq]
  generalize (lg_sl ([.ref (ad p0), .int a1]) ++ List.replicate (3 - (lg_sl ([.ref (ad p0), .int a1])).length) Slot.unset).toArray = ls at hl ⊢
  have hl : lv_has ls 3 [(0, .ref (ad p0)), (1, .int a1)] := hl
  unfold f_X8_add at h
  refine lv_aload_n hx hb dX8_add_0 rfl (lv_at hl 0 rfl) ?_
  refine lv_iload_n hx hb dX8_add_1 rfl (lv_at hl 1 rfl) ?_
  obtain ⟨q1, hq1, h⟩ := gb_s h
  refine fw_viR (As := [.int a1]) (rest := []) ⟨hx, hb, hml, hown, hts⟩ (k_X8_find l D cA ad tw hG z p0 (hp0) a1 q1 hq1) (cwV 1 hts gX8_add_X8_find rfl rfl rfl hdV_X8_find ⟨Nat.le_of_ble_eq_true rfl, Nat.le_of_ble_eq_true rfl⟩) (fw_preV hp0.1.1 hp0.1.2 rfl rfl hK hZ hP hS) rfl hl _ rfl (Nat.le_of_ble_eq_true rfl) hS dX8_add_2 ⟨Nat.zero_le _, Nat.zero_le _⟩ (fun H locs hP hS => ?_)
  refine lv_istore_n (lv' := [(2, .int q1), (0, .ref (ad p0)), (1, .int a1)]) hx hb dX8_add_5 rfl hl (by decide) rfl (fun ls hl => ?_)
  refine lv_iload_n hx hb dX8_add_6 rfl (lv_at hl 0 rfl) ?_
  refine lv_if_lt (tgt := 23) hx hb dX8_add_7 (by decide) (fun c2 => ?_) (fun c2 => ?_)
  · replace h := gif_t h c2
    refine lv_aload_n hx hb dX8_add_23 rfl (lv_at hl 1 rfl) ?_
    refine fw_geti hx hb hts in_X8_add_X8 hown hK hP hp0.1.1 hp0.1.2 rfl 1 (by decide) rfl (hts _ (List.mem_of_getElem? (i := 2) rfl)) rfl dX8_add_24 ?_
    refine lv_sipush (v := (nI 512)) hx hb dX8_add_27 (by decide) ?_
    refine lv_icmp_ge (tgt := 63) hx hb dX8_add_30 (by decide) (fun c3 => ?_) (fun c3 => ?_)
    · replace h := gif_t h c3
      exact fw_vret hx hb hr hlocks (Option.some.inj h) hK hZ hP hS dX8_add_63
    · replace h := gif_f h c3
      refine lv_aload_n hx hb dX8_add_33 rfl (lv_at hl 1 rfl) ?_
      refine fw_getr hx hb hts in_X8_add_X8 hown hK hP hp0.1.1 hp0.1.2 rfl 2 (by decide) rfl (hts _ (List.mem_of_getElem? (i := 3) rfl)) rfl dX8_add_34 ?_
      refine lv_aload_n hx hb dX8_add_37 rfl (lv_at hl 1 rfl) ?_
      refine fw_geti hx hb hts in_X8_add_X8 hown hK hP hp0.1.1 hp0.1.2 rfl 1 (by decide) rfl (hts _ (List.mem_of_getElem? (i := 2) rfl)) rfl dX8_add_38 ?_
      refine lv_iload_n hx hb dX8_add_41 rfl (lv_at hl 2 rfl) ?_
      obtain ⟨h4, h⟩ := gg_s h
      refine fw_iast hx hb hK hG hP hS hp0.2.1.1 hp0.2.1.2 h4 dX8_add_42 (fun z5 H locs ez5 hP hS => ?_)
      replace h := gl_s h ez5
      refine lv_aload_n hx hb dX8_add_43 rfl (lv_at hl 1 rfl) ?_
      refine fw_getr hx hb hts in_X8_add_X8 hown hK hP hp0.1.1 hp0.1.2 rfl 3 (by decide) rfl (hts _ (List.mem_of_getElem? (i := 1) rfl)) rfl dX8_add_44 ?_
      refine lv_aload_n hx hb dX8_add_47 rfl (lv_at hl 1 rfl) ?_
      refine fw_geti hx hb hts in_X8_add_X8 hown hK hP hp0.1.1 hp0.1.2 rfl 1 (by decide) rfl (hts _ (List.mem_of_getElem? (i := 2) rfl)) rfl dX8_add_48 ?_
      refine lv_iconst (v := (nI 1)) hx hb dX8_add_51 (by decide) ?_
      obtain ⟨h6, h⟩ := gg_s h
      refine fw_iast hx hb hK hG hP hS hp0.2.2.1 hp0.2.2.2 h6 dX8_add_52 (fun z7 H locs ez7 hP hS => ?_)
      replace h := gl_s h ez7
      refine lv_aload_n hx hb dX8_add_53 rfl (lv_at hl 1 rfl) ?_
      refine lv_dup hx hb dX8_add_54 rfl ?_
      refine fw_geti hx hb hts in_X8_add_X8 hown hK hP hp0.1.1 hp0.1.2 rfl 1 (by decide) rfl (hts _ (List.mem_of_getElem? (i := 2) rfl)) rfl dX8_add_55 ?_
      refine lv_iconst (v := (nI 1)) hx hb dX8_add_58 (by decide) ?_
      refine lv_iadd hx hb dX8_add_59 ?_
      refine fw_put hx hb hts in_X8_add_X8 tyX8_ok nmX8 hown hK hG hP hS hp0.1.1 hp0.1.2 rfl 1 (by decide) rfl (hts _ (List.mem_of_getElem? (i := 2) rfl)) rfl rfl (ty := .int) rfl rfl rfl dX8_add_60 (fun z8 H locs ez8 hP hS => ?_)
      replace h := gl_s h ez8
      exact fw_vret hx hb hr hlocks (Option.some.inj h) hK hZ hP hS dX8_add_63
  · replace h := gif_f h c2
    refine lv_aload_n hx hb dX8_add_10 rfl (lv_at hl 1 rfl) ?_
    refine fw_getr hx hb hts in_X8_add_X8 hown hK hP hp0.1.1 hp0.1.2 rfl 3 (by decide) rfl (hts _ (List.mem_of_getElem? (i := 1) rfl)) rfl dX8_add_11 ?_
    refine lv_iload_n hx hb dX8_add_14 rfl (lv_at hl 0 rfl) ?_
    refine lv_dup2_11 hx hb dX8_add_15 rfl rfl ?_
    obtain ⟨h9, h⟩ := gg_s h
    refine fw_iald hx hb hK hP hp0.2.2.1 hp0.2.2.2 h9 dX8_add_16 ?_
    refine lv_iconst (v := (nI 1)) hx hb dX8_add_17 (by decide) ?_
    refine lv_iadd hx hb dX8_add_18 ?_
    obtain ⟨h10, h⟩ := gg_s h
    refine fw_iast hx hb hK hG hP hS hp0.2.2.1 hp0.2.2.2 h10 dX8_add_19 (fun z11 H locs ez11 hP hS => ?_)
    replace h := gl_s h ez11
    refine lv_goto (tgt := 63) hx hb dX8_add_20 (by decide) ?_
    exact fw_vret hx hb hr hlocks (Option.some.inj h) hK hZ hP hS dX8_add_63
