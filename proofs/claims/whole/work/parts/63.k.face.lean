theorem in_X10_siteChanged_X10 : ∀ w ∈ wsX100, w ∈ wsX10_siteChanged := fun w h => List.mem_cons_of_mem _ (List.mem_append_right _ (h))
theorem hdV_X10_siteChanged : yX10_siteChanged.cls = RX10 ∧ yX10_siteChanged.cls ≠ "java/lang/invoke/MethodHandle" ∧ yX10_siteChanged.cls ≠ "java/lang/invoke/VarHandle" ∧ (parseMethodDescriptor yX10_siteChanged.desc).map (fun d => d.parameters.length) = some 0 := by decide +kernel
set_option maxHeartbeats 4000000 in
set_option maxRecDepth 100000 in
theorem k_X10_siteChanged (l : Launch) (D : va_G) (cA : Nat → ClassId) (ad : Nat → Nat) (tw : Nat) (hG : gOk ad 315) (z : gS)  (res : gS) (h : f_X10_siteChanged  z = some res) : gMv l yX10_siteChanged wsX10_siteChanged (gRm 0 0) D cA ad tw shX 315 [.ref (ad 0)] z res := by
  refine Met.ofW (cc := cX10_siteChanged) (maxL := 1) (ret := none) (by decide) rfl ?_
  intro p e s m args below meth c s₁ B hml hv
  obtain ⟨rfl, hP, hK, hZ⟩ := hv
  have hx := B.exec
  have hb := B.bytes
  have hr := B.returns
  have hts := atoms_spec (ws := wsX10_siteChanged) B.pre
  have hown : s.vm.findClass RX10 = some m.cls := findClass_of_methodNamed B.named
  have hlocks := B.notSynchronized
  have hS : va_S (gA ad 315) s.heap s.heap [] := va_S.rf
  have hl := lv_entry ([.ref (ad 0)]) (n := 1) (Nat.le_of_ble_eq_true rfl)
  rw [lg_entry_eq]
  generalize (lg_sl ([.ref (ad 0)]) ++ List.replicate (1 - (lg_sl ([.ref (ad 0)])).length) Slot.unset).toArray = ls at hl ⊢
  have hl : lv_has ls 1 [(0, .ref (ad 0))] := hl
  unfold f_X10_siteChanged at h
  refine lv_aload_n hx hb dX10_siteChanged_0 rfl (lv_at hl 0 rfl) ?_
  refine lv_iconst (v := (nI 0)) hx hb dX10_siteChanged_1 (by decide) ?_
  refine fw_put hx hb hts in_X10_siteChanged_X10 tyX10_ok nmX10 hown hK hG hP hS gF10.1.1 gF10.1.2 rfl 15 (by decide) rfl (hts _ (List.mem_of_getElem? (i := 1) rfl)) rfl rfl (ty := .boolean) rfl rfl rfl dX10_siteChanged_2 (fun z1 H locs ez1 hP hS => ?_)
  replace h := gl_s h ez1
  refine lv_aload_n hx hb dX10_siteChanged_5 rfl (lv_at hl 0 rfl) ?_
  refine lv_iconst (v := (nI 0)) hx hb dX10_siteChanged_6 (by decide) ?_
  refine fw_put hx hb hts in_X10_siteChanged_X10 tyX10_ok nmX10 hown hK hG hP hS gF10.1.1 gF10.1.2 rfl 16 (by decide) rfl (hts _ (List.mem_of_getElem? (i := 2) rfl)) rfl rfl (ty := .boolean) rfl rfl rfl dX10_siteChanged_7 (fun z2 H locs ez2 hP hS => ?_)
  replace h := gl_s h ez2
  refine lv_aload_n hx hb dX10_siteChanged_10 rfl (lv_at hl 0 rfl) ?_
  refine lv_iconst (v := (nI 0)) hx hb dX10_siteChanged_11 (by decide) ?_
  refine fw_put hx hb hts in_X10_siteChanged_X10 tyX10_ok nmX10 hown hK hG hP hS gF10.1.1 gF10.1.2 rfl 17 (by decide) rfl (hts _ (List.mem_of_getElem? (i := 3) rfl)) rfl rfl (ty := .boolean) rfl rfl rfl dX10_siteChanged_12 (fun z3 H locs ez3 hP hS => ?_)
  replace h := gl_s h ez3
  exact fw_vret hx hb hr hlocks (Option.some.inj h) hK hZ hP hS dX10_siteChanged_15
theorem in_X10_grave_X10 : ∀ w ∈ wsX100, w ∈ wsX10_grave := fun w h => List.mem_cons_of_mem _ (List.mem_append_left _ (List.mem_append_right _ (h)))
theorem hdV_X10_grave : yX10_grave.cls = RX10 ∧ yX10_grave.cls ≠ "java/lang/invoke/MethodHandle" ∧ yX10_grave.cls ≠ "java/lang/invoke/VarHandle" ∧ (parseMethodDescriptor yX10_grave.desc).map (fun d => d.parameters.length) = some 1 := by decide +kernel
set_option maxHeartbeats 4000000 in
set_option maxRecDepth 100000 in
theorem k_X10_grave (l : Launch) (D : va_G) (cA : Nat → ClassId) (ad : Nat → Nat) (tw : Nat) (hG : gOk ad 315) (z : gS) (a1 : Int32) (res : Int32 × gS) (h : f_X10_grave a1 z = some res) : gMi l yX10_grave wsX10_grave (gRm 1 21) D cA ad tw shX 315 [.ref (ad 0), .int a1] z res := by
  refine Met.ofW (cc := cX10_grave) (maxL := 3) (ret := (some .int)) (by decide) rfl ?_
  intro p e s m args below meth c s₁ B hml hv
  obtain ⟨rfl, hP, hK, hZ⟩ := hv
  have hx := B.exec
  have hb := B.bytes
  have hr := B.returns
  have hts := atoms_spec (ws := wsX10_grave) B.pre
  have hown : s.vm.findClass RX10 = some m.cls := findClass_of_methodNamed B.named
  have hlocks := B.notSynchronized
  have hS : va_S (gA ad 315) s.heap s.heap [] := va_S.rf
  have hl := lv_entry ([.ref (ad 0), .int a1]) (n := 3) (Nat.le_of_ble_eq_true rfl)
  rw [lg_entry_eq]
  generalize (lg_sl ([.ref (ad 0), .int a1]) ++ List.replicate (3 - (lg_sl ([.ref (ad 0), .int a1])).length) Slot.unset).toArray = ls at hl ⊢
  have hl : lv_has ls 3 [(0, .ref (ad 0)), (1, .int a1)] := hl
  unfold f_X10_grave at h
  refine lv_iload_n hx hb dX10_grave_0 rfl (lv_at hl 1 rfl) ?_
  refine lv_if_lt (tgt := 11) hx hb dX10_grave_1 (by decide) (fun c1 => ?_) (fun c1 => ?_)
  · replace h := gif_t h c1
    refine lv_bipush (v := (-2)) hx hb dX10_grave_11 (by decide) ?_
    exact fw_ireti hx hb hr hlocks (Option.some.inj h) hK hZ hP hS dX10_grave_13
  · replace h := gif_f h c1
    refine lv_iload_n hx hb dX10_grave_4 rfl (lv_at hl 1 rfl) ?_
    refine lv_sipush (v := (nI 999)) hx hb dX10_grave_5 (by decide) ?_
    refine lv_icmp_le (tgt := 14) hx hb dX10_grave_8 (by decide) (fun c2 => ?_) (fun c2 => ?_)
    · replace h := gif_t h c2
      refine lv_aload_n hx hb dX10_grave_14 rfl (lv_at hl 0 rfl) ?_
      refine fw_getr hx hb hts in_X10_grave_X10 hown hK hP gF10.1.1 gF10.1.2 rfl 0 (by decide) rfl (hts _ (List.mem_of_getElem? (i := 1) rfl)) rfl dX10_grave_15 ?_
      refine lv_iload_n hx hb dX10_grave_18 rfl (lv_at hl 1 rfl) ?_
      obtain ⟨q3, hq3, h⟩ := gb_s h
      refine fw_vi (As := [.int a1]) (rest := []) ⟨hx, hb, hml, hown, hts⟩ (k_X5_dig l D cA ad tw hG z 1 (gF10.2.1) a1 q3 hq3) (cwV 1 hts gX10_grave_X5_dig rfl rfl rfl hdV_X5_dig ⟨Nat.le_of_ble_eq_true rfl, Nat.le_of_ble_eq_true rfl⟩) (fw_preV gF10.2.1.1.1 gF10.2.1.1.2 rfl rfl hK hZ hP hS) rfl hl _ rfl (Nat.le_of_ble_eq_true rfl) hS dX10_grave_19 ⟨Nat.zero_le _, Nat.zero_le _⟩ (fun H locs hP hS => ?_)
      refine lv_istore_n (lv' := [(2, .int q3.1), (0, .ref (ad 0)), (1, .int a1)]) hx hb dX10_grave_22 rfl hl (by decide) rfl (fun ls hl => ?_)
      refine lv_iload_n hx hb dX10_grave_23 rfl (lv_at hl 0 rfl) ?_
      refine lv_if_ge (tgt := 30) hx hb dX10_grave_24 (by decide) (fun c4 => ?_) (fun c4 => ?_)
      · replace h := gif_t h c4
        refine lv_aload_n hx hb dX10_grave_30 rfl (lv_at hl 1 rfl) ?_
        obtain ⟨q5, hq5, h⟩ := gb_s h
        refine fw_vv (As := []) (rest := []) ⟨hx, hb, hml, hown, hts⟩ (k_X10_siteChanged l D cA ad tw hG q3.2  q5 hq5) (cwV 0 hts gX10_grave_X10_siteChanged rfl rfl rfl hdV_X10_siteChanged ⟨Nat.le_of_ble_eq_true rfl, Nat.le_of_ble_eq_true rfl⟩) (fw_preV gF10.1.1 gF10.1.2 rfl rfl hK hZ hP hS) rfl hl _ rfl (Nat.le_of_ble_eq_true rfl) hS dX10_grave_31 ⟨Nat.zero_le _, Nat.zero_le _⟩ (fun H locs hP hS => ?_)
        refine lv_iload_n hx hb dX10_grave_34 rfl (lv_at hl 0 rfl) ?_
        exact fw_ireti hx hb hr hlocks (Option.some.inj h) hK hZ hP hS dX10_grave_35
      · replace h := gif_f h c4
        refine lv_bipush (v := (-4)) hx hb dX10_grave_27 (by decide) ?_
        exact fw_ireti hx hb hr hlocks (Option.some.inj h) hK hZ hP hS dX10_grave_29
    · replace h := gif_f h c2
      refine lv_bipush (v := (-2)) hx hb dX10_grave_11 (by decide) ?_
      exact fw_ireti hx hb hr hlocks (Option.some.inj h) hK hZ hP hS dX10_grave_13
theorem in_X10_has_X10 : ∀ w ∈ wsX100, w ∈ wsX10_has := fun w h => List.mem_cons_of_mem _ (List.mem_append_left _ (List.mem_append_right _ (h)))
theorem hdV_X10_has : yX10_has.cls = RX10 ∧ yX10_has.cls ≠ "java/lang/invoke/MethodHandle" ∧ yX10_has.cls ≠ "java/lang/invoke/VarHandle" ∧ (parseMethodDescriptor yX10_has.desc).map (fun d => d.parameters.length) = some 3 := by decide +kernel
set_option maxHeartbeats 4000000 in
set_option maxRecDepth 100000 in
theorem k_X10_has (l : Launch) (D : va_G) (cA : Nat → ClassId) (ad : Nat → Nat) (tw : Nat) (hG : gOk ad 315) (z : gS) (a1 : Int32) (a2 : Int32) (a3 : Int32) (res : Int32 × gS) (h : f_X10_has a1 a2 a3 z = some res) : gMi l yX10_has wsX10_has (gRm 2 44) D cA ad tw shX 315 [.ref (ad 0), .int a1, .int a2, .int a3] z res := by
  refine Met.ofW (cc := cX10_has) (maxL := 5) (ret := (some .int)) (by decide) rfl ?_
  intro p e s m args below meth c s₁ B hml hv
  obtain ⟨rfl, hP, hK, hZ⟩ := hv
  have hx := B.exec
  have hb := B.bytes
  have hr := B.returns
  have hts := atoms_spec (ws := wsX10_has) B.pre
  have hown : s.vm.findClass RX10 = some m.cls := findClass_of_methodNamed B.named
  have hlocks := B.notSynchronized
  have hS : va_S (gA ad 315) s.heap s.heap [] := va_S.rf
  have hl := lv_entry ([.ref (ad 0), .int a1, .int a2, .int a3]) (n := 5) (Nat.le_of_ble_eq_true rfl)
  rw [lg_entry_eq]
  generalize (lg_sl ([.ref (ad 0), .int a1, .int a2, .int a3]) ++ List.replicate (5 - (lg_sl ([.ref (ad 0), .int a1, .int a2, .int a3])).length) Slot.unset).toArray = ls at hl ⊢
  have hl : lv_has ls 5 [(0, .ref (ad 0)), (1, .int a1), (2, .int a2), (3, .int a3)] := hl
  have j53 : ∀ (x1 : Int32) (x2 : Int32) (x3 : Int32) (s0 : Int32) (z : gS) (H : Heap) (locs : List Loc) (ls : Array Slot), f_X10_has_53 x1 x2 x3 s0 z = some res → va_P D vwCl (gw cA ad shX 315 z) H → va_S (gA ad 315) s.heap H locs → lv_has ls 5 [(0, .ref (ad 0)), (1, .int x1), (2, .int x2), (3, .int x3)] → W p l e (headSpec wsX10_has (gRm 2 44)).room s m ([.ref (ad 0), .int a1, .int a2, .int a3] : List Value).toArray below meth c H locs 0 0 (MQ below (va_Qi (fun r u => (r, u) = res) (gPr D cA ad tw shX 315) (gA ad 315)) ([.ref (ad 0), .int a1, .int a2, .int a3] : List Value).toArray s 0 0 (gA ad 315)) (F0 m 53 ls [.int s0]) := by
    intro x1 x2 x3 s0 z H locs ls h hP hS hl
    unfold f_X10_has_53 at h
    refine lv_istore (lv' := [(4, .int s0), (0, .ref (ad 0)), (1, .int x1), (2, .int x2), (3, .int x3)]) hx hb dX10_has_53 hl (by decide) rfl (fun ls hl => ?_)
    refine lv_aload_n hx hb dX10_has_55 rfl (lv_at hl 1 rfl) ?_
    refine fw_getr hx hb hts in_X10_has_X10 hown hK hP gF10.1.1 gF10.1.2 rfl 0 (by decide) rfl (hts _ (List.mem_of_getElem? (i := 1) rfl)) rfl dX10_has_56 ?_
    refine lv_iload_n hx hb dX10_has_59 rfl (lv_at hl 2 rfl) ?_
    refine lv_iload_n hx hb dX10_has_60 rfl (lv_at hl 3 rfl) ?_
    refine lv_iload_n hx hb dX10_has_61 rfl (lv_at hl 4 rfl) ?_
    refine lv_iconst (v := (nI 1)) hx hb dX10_has_62 (by decide) ?_
    refine lv_icmp_ne (tgt := 70) hx hb dX10_has_63 (by decide) (fun c11 => ?_) (fun c11 => ?_)
    · replace h := gif_f h c11
      refine lv_iconst (v := (nI 0)) hx hb dX10_has_70 (by decide) ?_
      obtain ⟨q12, hq12, h⟩ := gb_s h
      refine fw_vi (As := [.int x1, .int x2, .int (nI 0)]) (rest := []) ⟨hx, hb, hml, hown, hts⟩ (k_X5_mark l D cA ad tw hG z 1 (gF10.2.1) x1 x2 (nI 0) q12 hq12) (cwV 3 hts gX10_has_X5_mark rfl rfl rfl hdV_X5_mark ⟨Nat.le_of_ble_eq_true rfl, Nat.le_of_ble_eq_true rfl⟩) (fw_preV gF10.2.1.1.1 gF10.2.1.1.2 rfl rfl hK hZ hP hS) rfl hl _ rfl (Nat.le_of_ble_eq_true rfl) hS dX10_has_71 ⟨Nat.zero_le _, Nat.zero_le _⟩ (fun H locs hP hS => ?_)
      refine lv_pop hx hb dX10_has_74 rfl ?_
      refine lv_aload_n hx hb dX10_has_75 rfl (lv_at hl 1 rfl) ?_
      obtain ⟨q13, hq13, h⟩ := gb_s h
      refine fw_vv (As := []) (rest := []) ⟨hx, hb, hml, hown, hts⟩ (k_X10_siteChanged l D cA ad tw hG q12.2  q13 hq13) (cwV 0 hts gX10_has_X10_siteChanged rfl rfl rfl hdV_X10_siteChanged ⟨Nat.le_of_ble_eq_true rfl, Nat.le_of_ble_eq_true rfl⟩) (fw_preV gF10.1.1 gF10.1.2 rfl rfl hK hZ hP hS) rfl hl _ rfl (Nat.le_of_ble_eq_true rfl) hS dX10_has_76 ⟨Nat.zero_le _, Nat.zero_le _⟩ (fun H locs hP hS => ?_)
      refine lv_iload hx hb dX10_has_79 (lv_at hl 0 rfl) ?_
      exact fw_ireti hx hb hr hlocks (Option.some.inj h) hK hZ hP hS dX10_has_81
    · replace h := gif_t h c11
      refine lv_iconst (v := (nI 1)) hx hb dX10_has_66 (by decide) ?_
      refine lv_goto (tgt := 71) hx hb dX10_has_67 (by decide) ?_
      obtain ⟨q14, hq14, h⟩ := gb_s h
      refine fw_vi (As := [.int x1, .int x2, .int (nI 1)]) (rest := []) ⟨hx, hb, hml, hown, hts⟩ (k_X5_mark l D cA ad tw hG z 1 (gF10.2.1) x1 x2 (nI 1) q14 hq14) (cwV 3 hts gX10_has_X5_mark rfl rfl rfl hdV_X5_mark ⟨Nat.le_of_ble_eq_true rfl, Nat.le_of_ble_eq_true rfl⟩) (fw_preV gF10.2.1.1.1 gF10.2.1.1.2 rfl rfl hK hZ hP hS) rfl hl _ rfl (Nat.le_of_ble_eq_true rfl) hS dX10_has_71 ⟨Nat.zero_le _, Nat.zero_le _⟩ (fun H locs hP hS => ?_)
      refine lv_pop hx hb dX10_has_74 rfl ?_
      refine lv_aload_n hx hb dX10_has_75 rfl (lv_at hl 1 rfl) ?_
      obtain ⟨q15, hq15, h⟩ := gb_s h
      refine fw_vv (As := []) (rest := []) ⟨hx, hb, hml, hown, hts⟩ (k_X10_siteChanged l D cA ad tw hG q14.2  q15 hq15) (cwV 0 hts gX10_has_X10_siteChanged rfl rfl rfl hdV_X10_siteChanged ⟨Nat.le_of_ble_eq_true rfl, Nat.le_of_ble_eq_true rfl⟩) (fw_preV gF10.1.1 gF10.1.2 rfl rfl hK hZ hP hS) rfl hl _ rfl (Nat.le_of_ble_eq_true rfl) hS dX10_has_76 ⟨Nat.zero_le _, Nat.zero_le _⟩ (fun H locs hP hS => ?_)
      refine lv_iload hx hb dX10_has_79 (lv_at hl 0 rfl) ?_
      exact fw_ireti hx hb hr hlocks (Option.some.inj h) hK hZ hP hS dX10_has_81
  unfold f_X10_has at h
  refine lv_aload_n hx hb dX10_has_0 rfl (lv_at hl 0 rfl) ?_
  refine fw_getr hx hb hts in_X10_has_X10 hown hK hP gF10.1.1 gF10.1.2 rfl 0 (by decide) rfl (hts _ (List.mem_of_getElem? (i := 1) rfl)) rfl dX10_has_1 ?_
  refine lv_iload_n hx hb dX10_has_4 rfl (lv_at hl 1 rfl) ?_
  obtain ⟨q1, hq1, h⟩ := gb_s h
  refine fw_viR (As := [.int a1]) (rest := []) ⟨hx, hb, hml, hown, hts⟩ (k_X5_holds l D cA ad tw hG z 1 (gF10.2.1) a1 q1 hq1) (cwV 1 hts gX10_has_X5_holds rfl rfl rfl hdV_X5_holds ⟨Nat.le_of_ble_eq_true rfl, Nat.le_of_ble_eq_true rfl⟩) (fw_preV gF10.2.1.1.1 gF10.2.1.1.2 rfl rfl hK hZ hP hS) rfl hl _ rfl (Nat.le_of_ble_eq_true rfl) hS dX10_has_5 ⟨Nat.zero_le _, Nat.zero_le _⟩ (fun H locs hP hS => ?_)
  refine lv_if_eq (tgt := 22) hx hb dX10_has_8 (by decide) (fun c2 => ?_) (fun c2 => ?_)
  · replace h := gif_t h c2
    refine lv_iconst (v := gm1) hx hb dX10_has_22 (by decide) ?_
    exact fw_ireti hx hb hr hlocks (Option.some.inj h) hK hZ hP hS dX10_has_23
  · replace h := gif_f h c2
    refine lv_aload_n hx hb dX10_has_11 rfl (lv_at hl 0 rfl) ?_
    refine fw_getr hx hb hts in_X10_has_X10 hown hK hP gF10.1.1 gF10.1.2 rfl 0 (by decide) rfl (hts _ (List.mem_of_getElem? (i := 1) rfl)) rfl dX10_has_12 ?_
    refine lv_iload_n hx hb dX10_has_15 rfl (lv_at hl 2 rfl) ?_
    obtain ⟨q3, hq3, h⟩ := gb_s h
    refine fw_viR (As := [.int a2]) (rest := []) ⟨hx, hb, hml, hown, hts⟩ (k_X5_knows l D cA ad tw hG z 1 (gF10.2.1) a2 q3 hq3) (cwV 1 hts gX10_has_X5_knows rfl rfl rfl hdV_X5_knows ⟨Nat.le_of_ble_eq_true rfl, Nat.le_of_ble_eq_true rfl⟩) (fw_preV gF10.2.1.1.1 gF10.2.1.1.2 rfl rfl hK hZ hP hS) rfl hl _ rfl (Nat.le_of_ble_eq_true rfl) hS dX10_has_16 ⟨Nat.zero_le _, Nat.zero_le _⟩ (fun H locs hP hS => ?_)
    refine lv_if_ne (tgt := 24) hx hb dX10_has_19 (by decide) (fun c4 => ?_) (fun c4 => ?_)
    · replace h := gif_f h c4
      refine lv_iload_n hx hb dX10_has_24 rfl (lv_at hl 3 rfl) ?_
      refine lv_if_eq (tgt := 36) hx hb dX10_has_25 (by decide) (fun c5 => ?_) (fun c5 => ?_)
      · replace h := gif_t h c5
        refine lv_aload_n hx hb dX10_has_36 rfl (lv_at hl 0 rfl) ?_
        refine fw_getr hx hb hts in_X10_has_X10 hown hK hP gF10.1.1 gF10.1.2 rfl 0 (by decide) rfl (hts _ (List.mem_of_getElem? (i := 1) rfl)) rfl dX10_has_37 ?_
        refine lv_iload_n hx hb dX10_has_40 rfl (lv_at hl 1 rfl) ?_
        refine lv_iload_n hx hb dX10_has_41 rfl (lv_at hl 2 rfl) ?_
        obtain ⟨q6, hq6, h⟩ := gb_s h
        refine fw_viR (As := [.int a1, .int a2]) (rest := []) ⟨hx, hb, hml, hown, hts⟩ (k_X5_owns l D cA ad tw hG z 1 (gF10.2.1) a1 a2 q6 hq6) (cwV 2 hts gX10_has_X5_owns rfl rfl rfl hdV_X5_owns ⟨Nat.le_of_ble_eq_true rfl, Nat.le_of_ble_eq_true rfl⟩) (fw_preV gF10.2.1.1.1 gF10.2.1.1.2 rfl rfl hK hZ hP hS) rfl hl _ rfl (Nat.le_of_ble_eq_true rfl) hS dX10_has_42 ⟨Nat.zero_le _, Nat.zero_le _⟩ (fun H locs hP hS => ?_)
        refine lv_if_eq (tgt := 52) hx hb dX10_has_45 (by decide) (fun c7 => ?_) (fun c7 => ?_)
        · replace h := gif_t h c7
          refine lv_iconst (v := (nI 0)) hx hb dX10_has_52 (by decide) ?_
          exact j53 a1 a2 a3 (nI 0) z _ _ ls h hP hS (lv_sub hl [0, 1, 2, 3] rfl)
        · replace h := gif_f h c7
          refine lv_iconst (v := (nI 1)) hx hb dX10_has_48 (by decide) ?_
          refine lv_goto (tgt := 53) hx hb dX10_has_49 (by decide) ?_
          exact j53 a1 a2 a3 (nI 1) z _ _ ls h hP hS (lv_sub hl [0, 1, 2, 3] rfl)
      · replace h := gif_f h c5
        refine lv_iload_n hx hb dX10_has_28 rfl (lv_at hl 3 rfl) ?_
        refine lv_iconst (v := (nI 1)) hx hb dX10_has_29 (by decide) ?_
        refine lv_icmp_eq (tgt := 36) hx hb dX10_has_30 (by decide) (fun c8 => ?_) (fun c8 => ?_)
        · replace h := gif_t h c8
          refine lv_aload_n hx hb dX10_has_36 rfl (lv_at hl 0 rfl) ?_
          refine fw_getr hx hb hts in_X10_has_X10 hown hK hP gF10.1.1 gF10.1.2 rfl 0 (by decide) rfl (hts _ (List.mem_of_getElem? (i := 1) rfl)) rfl dX10_has_37 ?_
          refine lv_iload_n hx hb dX10_has_40 rfl (lv_at hl 1 rfl) ?_
          refine lv_iload_n hx hb dX10_has_41 rfl (lv_at hl 2 rfl) ?_
          obtain ⟨q9, hq9, h⟩ := gb_s h
          refine fw_viR (As := [.int a1, .int a2]) (rest := []) ⟨hx, hb, hml, hown, hts⟩ (k_X5_owns l D cA ad tw hG z 1 (gF10.2.1) a1 a2 q9 hq9) (cwV 2 hts gX10_has_X5_owns rfl rfl rfl hdV_X5_owns ⟨Nat.le_of_ble_eq_true rfl, Nat.le_of_ble_eq_true rfl⟩) (fw_preV gF10.2.1.1.1 gF10.2.1.1.2 rfl rfl hK hZ hP hS) rfl hl _ rfl (Nat.le_of_ble_eq_true rfl) hS dX10_has_42 ⟨Nat.zero_le _, Nat.zero_le _⟩ (fun H locs hP hS => ?_)
          refine lv_if_eq (tgt := 52) hx hb dX10_has_45 (by decide) (fun c10 => ?_) (fun c10 => ?_)
          · replace h := gif_t h c10
            refine lv_iconst (v := (nI 0)) hx hb dX10_has_52 (by decide) ?_
            exact j53 a1 a2 a3 (nI 0) z _ _ ls h hP hS (lv_sub hl [0, 1, 2, 3] rfl)
          · replace h := gif_f h c10
            refine lv_iconst (v := (nI 1)) hx hb dX10_has_48 (by decide) ?_
            refine lv_goto (tgt := 53) hx hb dX10_has_49 (by decide) ?_
            exact j53 a1 a2 a3 (nI 1) z _ _ ls h hP hS (lv_sub hl [0, 1, 2, 3] rfl)
        · replace h := gif_f h c8
          refine lv_bipush (v := (-2)) hx hb dX10_has_33 (by decide) ?_
          exact fw_ireti hx hb hr hlocks (Option.some.inj h) hK hZ hP hS dX10_has_35
    · replace h := gif_t h c4
      refine lv_iconst (v := gm1) hx hb dX10_has_22 (by decide) ?_
      exact fw_ireti hx hb hr hlocks (Option.some.inj h) hK hZ hP hS dX10_has_23
theorem in_X10_of_X10 : ∀ w ∈ wsX100, w ∈ wsX10_of := fun w h => List.mem_cons_of_mem _ (List.mem_append_left _ (List.mem_append_right _ (h)))
theorem in_X10_of_X5 : ∀ w ∈ wsX50, w ∈ wsX10_of := fun w h => List.mem_cons_of_mem _ (List.mem_append_right _ (h))
theorem hdV_X10_of : yX10_of.cls = RX10 ∧ yX10_of.cls ≠ "java/lang/invoke/MethodHandle" ∧ yX10_of.cls ≠ "java/lang/invoke/VarHandle" ∧ (parseMethodDescriptor yX10_of.desc).map (fun d => d.parameters.length) = some 2 := by decide +kernel
set_option maxHeartbeats 4000000 in
set_option maxRecDepth 100000 in
theorem k_X10_of (l : Launch) (D : va_G) (cA : Nat → ClassId) (ad : Nat → Nat) (tw : Nat) (hG : gOk ad 315) (z : gS) (a1 : Int32) (a2 : Int32) (res : Int32) (h : f_X10_of a1 a2 z = some res) : gMi l yX10_of wsX10_of (gRm 3 66) D cA ad tw shX 315 [.ref (ad 0), .int a1, .int a2] z (res, z) := by
  refine Met.ofW (cc := cX10_of) (maxL := 3) (ret := (some .int)) (by decide) rfl ?_
  intro p e s m args below meth c s₁ B hml hv
  obtain ⟨rfl, hP, hK, hZ⟩ := hv
  have hx := B.exec
  have hb := B.bytes
  have hr := B.returns
  have hts := atoms_spec (ws := wsX10_of) B.pre
  have hown : s.vm.findClass RX10 = some m.cls := findClass_of_methodNamed B.named
  have hlocks := B.notSynchronized
  have hS : va_S (gA ad 315) s.heap s.heap [] := va_S.rf
  have hl := lv_entry ([.ref (ad 0), .int a1, .int a2]) (n := 3) (Nat.le_of_ble_eq_true rfl)
  rw [lg_entry_eq]
  generalize (lg_sl ([.ref (ad 0), .int a1, .int a2]) ++ List.replicate (3 - (lg_sl ([.ref (ad 0), .int a1, .int a2])).length) Slot.unset).toArray = ls at hl ⊢
  have hl : lv_has ls 3 [(0, .ref (ad 0)), (1, .int a1), (2, .int a2)] := hl
  unfold f_X10_of at h
  refine lv_aload_n hx hb dX10_of_0 rfl (lv_at hl 0 rfl) ?_
  refine fw_getr hx hb hts in_X10_of_X10 hown hK hP gF10.1.1 gF10.1.2 rfl 0 (by decide) rfl (hts _ (List.mem_of_getElem? (i := 1) rfl)) rfl dX10_of_1 ?_
  refine lv_iload_n hx hb dX10_of_4 rfl (lv_at hl 1 rfl) ?_
  obtain ⟨q1, hq1, h⟩ := gb_s h
  refine fw_viR (As := [.int a1]) (rest := []) ⟨hx, hb, hml, hown, hts⟩ (k_X5_holds l D cA ad tw hG z 1 (gF10.2.1) a1 q1 hq1) (cwV 1 hts gX10_of_X5_holds rfl rfl rfl hdV_X5_holds ⟨Nat.le_of_ble_eq_true rfl, Nat.le_of_ble_eq_true rfl⟩) (fw_preV gF10.2.1.1.1 gF10.2.1.1.2 rfl rfl hK hZ hP hS) rfl hl _ rfl (Nat.le_of_ble_eq_true rfl) hS dX10_of_5 ⟨Nat.zero_le _, Nat.zero_le _⟩ (fun H locs hP hS => ?_)
  refine lv_if_ne (tgt := 13) hx hb dX10_of_8 (by decide) (fun c2 => ?_) (fun c2 => ?_)
  · replace h := gif_f h c2
    refine lv_iload_n hx hb dX10_of_13 rfl (lv_at hl 2 rfl) ?_
    by_cases c3 : a2 = (nI 0)
    · replace h := gif_t h c3
      refine lv_tableIn (tgt := 44) hx hb dX10_of_14 (by rw [c3]; decide) (by rw [c3]; decide) (by rw [c3]; rfl) (by decide) ?_
      refine lv_aload_n hx hb dX10_of_44 rfl (lv_at hl 0 rfl) ?_
      refine fw_getr hx hb hts in_X10_of_X10 hown hK hP gF10.1.1 gF10.1.2 rfl 0 (by decide) rfl (hts _ (List.mem_of_getElem? (i := 1) rfl)) rfl dX10_of_45 ?_
      refine fw_getr hx hb hts in_X10_of_X5 hown hK hP gF10.2.1.1.1 gF10.2.1.1.2 rfl 2 (by decide) rfl (hts _ (List.mem_of_getElem? (i := 2) rfl)) rfl dX10_of_48 ?_
      refine lv_iload_n hx hb dX10_of_51 rfl (lv_at hl 1 rfl) ?_
      obtain ⟨h4, h⟩ := gg_s h
      refine fw_iald hx hb hK hP gF10.2.1.2.1.1 gF10.2.1.2.1.2 h4 dX10_of_52 ?_
      exact fw_ireti hx hb hr hlocks (congrArg (fun q => (q, z)) (Option.some.inj h)) hK hZ hP hS dX10_of_53
    replace h := gif_f h c3
    by_cases c5 : a2 = (nI 1)
    · replace h := gif_t h c5
      refine lv_tableIn (tgt := 54) hx hb dX10_of_14 (by rw [c5]; decide) (by rw [c5]; decide) (by rw [c5]; rfl) (by decide) ?_
      refine lv_aload_n hx hb dX10_of_54 rfl (lv_at hl 0 rfl) ?_
      refine fw_getr hx hb hts in_X10_of_X10 hown hK hP gF10.1.1 gF10.1.2 rfl 0 (by decide) rfl (hts _ (List.mem_of_getElem? (i := 1) rfl)) rfl dX10_of_55 ?_
      refine fw_getr hx hb hts in_X10_of_X5 hown hK hP gF10.2.1.1.1 gF10.2.1.1.2 rfl 3 (by decide) rfl (hts _ (List.mem_of_getElem? (i := 3) rfl)) rfl dX10_of_58 ?_
      refine lv_iload_n hx hb dX10_of_61 rfl (lv_at hl 1 rfl) ?_
      obtain ⟨h6, h⟩ := gg_s h
      refine fw_iald hx hb hK hP gF10.2.1.2.2.1.1 gF10.2.1.2.2.1.2 h6 dX10_of_62 ?_
      exact fw_ireti hx hb hr hlocks (congrArg (fun q => (q, z)) (Option.some.inj h)) hK hZ hP hS dX10_of_63
    replace h := gif_f h c5
    by_cases c7 : a2 = (nI 2)
    · replace h := gif_t h c7
      refine lv_tableIn (tgt := 64) hx hb dX10_of_14 (by rw [c7]; decide) (by rw [c7]; decide) (by rw [c7]; rfl) (by decide) ?_
      refine lv_aload_n hx hb dX10_of_64 rfl (lv_at hl 0 rfl) ?_
      refine fw_getr hx hb hts in_X10_of_X10 hown hK hP gF10.1.1 gF10.1.2 rfl 0 (by decide) rfl (hts _ (List.mem_of_getElem? (i := 1) rfl)) rfl dX10_of_65 ?_
      refine lv_iload_n hx hb dX10_of_68 rfl (lv_at hl 1 rfl) ?_
      obtain ⟨q8, hq8, h⟩ := gb_s h
      refine fw_viR (As := [.int a1]) (rest := []) ⟨hx, hb, hml, hown, hts⟩ (k_X5_peers l D cA ad tw hG z 1 (gF10.2.1) a1 q8 hq8) (cwV 1 hts gX10_of_X5_peers rfl rfl rfl hdV_X5_peers ⟨Nat.le_of_ble_eq_true rfl, Nat.le_of_ble_eq_true rfl⟩) (fw_preV gF10.2.1.1.1 gF10.2.1.1.2 rfl rfl hK hZ hP hS) rfl hl _ rfl (Nat.le_of_ble_eq_true rfl) hS dX10_of_69 ⟨Nat.zero_le _, Nat.zero_le _⟩ (fun H locs hP hS => ?_)
      exact fw_ireti hx hb hr hlocks (congrArg (fun q => (q, z)) (Option.some.inj h)) hK hZ hP hS dX10_of_72
    replace h := gif_f h c7
    by_cases c9 : a2 = (nI 3)
    · replace h := gif_t h c9
      refine lv_tableIn (tgt := 73) hx hb dX10_of_14 (by rw [c9]; decide) (by rw [c9]; decide) (by rw [c9]; rfl) (by decide) ?_
      refine lv_aload_n hx hb dX10_of_73 rfl (lv_at hl 0 rfl) ?_
      refine fw_getr hx hb hts in_X10_of_X10 hown hK hP gF10.1.1 gF10.1.2 rfl 0 (by decide) rfl (hts _ (List.mem_of_getElem? (i := 1) rfl)) rfl dX10_of_74 ?_
      refine lv_iload_n hx hb dX10_of_77 rfl (lv_at hl 1 rfl) ?_
      obtain ⟨q10, hq10, h⟩ := gb_s h
      refine fw_viR (As := [.int a1]) (rest := []) ⟨hx, hb, hml, hown, hts⟩ (k_X5_friends l D cA ad tw hG z 1 (gF10.2.1) a1 q10 hq10) (cwV 1 hts gX10_of_X5_friends rfl rfl rfl hdV_X5_friends ⟨Nat.le_of_ble_eq_true rfl, Nat.le_of_ble_eq_true rfl⟩) (fw_preV gF10.2.1.1.1 gF10.2.1.1.2 rfl rfl hK hZ hP hS) rfl hl _ rfl (Nat.le_of_ble_eq_true rfl) hS dX10_of_78 ⟨Nat.zero_le _, Nat.zero_le _⟩ (fun H locs hP hS => ?_)
      exact fw_ireti hx hb hr hlocks (congrArg (fun q => (q, z)) (Option.some.inj h)) hK hZ hP hS dX10_of_81
    replace h := gif_f h c9
    refine lv_tableOut (tgt := 82) hx hb dX10_of_14 (by have nc3 := gne (w := 0) c3 rfl; have nc5 := gne (w := 1) c5 rfl; have nc7 := gne (w := 2) c7 rfl; have nc9 := gne (w := 3) c9 rfl; omega) (by decide) ?_
    refine lv_iconst (v := gm1) hx hb dX10_of_82 (by decide) ?_
    exact fw_ireti hx hb hr hlocks (congrArg (fun q => (q, z)) (Option.some.inj h)) hK hZ hP hS dX10_of_83
  · replace h := gif_t h c2
    refine lv_iconst (v := gm1) hx hb dX10_of_11 (by decide) ?_
    exact fw_ireti hx hb hr hlocks (congrArg (fun q => (q, z)) (Option.some.inj h)) hK hZ hP hS dX10_of_12
theorem in_X10_type_X10 : ∀ w ∈ wsX100, w ∈ wsX10_type := fun w h => List.mem_cons_of_mem _ (List.mem_append_left _ (List.mem_append_right _ (h)))
theorem in_X10_type_X5 : ∀ w ∈ wsX50, w ∈ wsX10_type := fun w h => List.mem_cons_of_mem _ (List.mem_append_right _ (h))
theorem hdV_X10_type : yX10_type.cls = RX10 ∧ yX10_type.cls ≠ "java/lang/invoke/MethodHandle" ∧ yX10_type.cls ≠ "java/lang/invoke/VarHandle" ∧ (parseMethodDescriptor yX10_type.desc).map (fun d => d.parameters.length) = some 2 := by decide +kernel
set_option maxHeartbeats 4000000 in
set_option maxRecDepth 100000 in
theorem k_X10_type (l : Launch) (D : va_G) (cA : Nat → ClassId) (ad : Nat → Nat) (tw : Nat) (hG : gOk ad 315) (z : gS) (a1 : Int32) (a2 : Int32) (res : Int32) (h : f_X10_type a1 a2 z = some res) : gMi l yX10_type wsX10_type (gRm 3 66) D cA ad tw shX 315 [.ref (ad 0), .int a1, .int a2] z (res, z) := by
  refine Met.ofW (cc := cX10_type) (maxL := 4) (ret := (some .int)) (by decide) rfl ?_
  intro p e s m args below meth c s₁ B hml hv
  obtain ⟨rfl, hP, hK, hZ⟩ := hv
  have hx := B.exec
  have hb := B.bytes
  have hr := B.returns
  have hts := atoms_spec (ws := wsX10_type) B.pre
  have hown : s.vm.findClass RX10 = some m.cls := findClass_of_methodNamed B.named
  have hlocks := B.notSynchronized
  have hS : va_S (gA ad 315) s.heap s.heap [] := va_S.rf
  have hl := lv_entry ([.ref (ad 0), .int a1, .int a2]) (n := 4) (Nat.le_of_ble_eq_true rfl)
  rw [lg_entry_eq]
  generalize (lg_sl ([.ref (ad 0), .int a1, .int a2]) ++ List.replicate (4 - (lg_sl ([.ref (ad 0), .int a1, .int a2])).length) Slot.unset).toArray = ls at hl ⊢
  have hl : lv_has ls 4 [(0, .ref (ad 0)), (1, .int a1), (2, .int a2)] := hl
  unfold f_X10_type at h
  refine lv_aload_n hx hb dX10_type_0 rfl (lv_at hl 0 rfl) ?_
  refine fw_getr hx hb hts in_X10_type_X10 hown hK hP gF10.1.1 gF10.1.2 rfl 0 (by decide) rfl (hts _ (List.mem_of_getElem? (i := 1) rfl)) rfl dX10_type_1 ?_
  refine lv_iload_n hx hb dX10_type_4 rfl (lv_at hl 1 rfl) ?_
  obtain ⟨q1, hq1, h⟩ := gb_s h
  refine fw_viR (As := [.int a1]) (rest := []) ⟨hx, hb, hml, hown, hts⟩ (k_X5_knows l D cA ad tw hG z 1 (gF10.2.1) a1 q1 hq1) (cwV 1 hts gX10_type_X5_knows rfl rfl rfl hdV_X5_knows ⟨Nat.le_of_ble_eq_true rfl, Nat.le_of_ble_eq_true rfl⟩) (fw_preV gF10.2.1.1.1 gF10.2.1.1.2 rfl rfl hK hZ hP hS) rfl hl _ rfl (Nat.le_of_ble_eq_true rfl) hS dX10_type_5 ⟨Nat.zero_le _, Nat.zero_le _⟩ (fun H locs hP hS => ?_)
  refine lv_if_eq (tgt := 21) hx hb dX10_type_8 (by decide) (fun c2 => ?_) (fun c2 => ?_)
  · replace h := gif_t h c2
    refine lv_iconst (v := gm1) hx hb dX10_type_21 (by decide) ?_
    exact fw_ireti hx hb hr hlocks (congrArg (fun q => (q, z)) (Option.some.inj h)) hK hZ hP hS dX10_type_22
  · replace h := gif_f h c2
    refine lv_iload_n hx hb dX10_type_11 rfl (lv_at hl 2 rfl) ?_
    refine lv_if_lt (tgt := 21) hx hb dX10_type_12 (by decide) (fun c3 => ?_) (fun c3 => ?_)
    · replace h := gif_t h c3
      refine lv_iconst (v := gm1) hx hb dX10_type_21 (by decide) ?_
      exact fw_ireti hx hb hr hlocks (congrArg (fun q => (q, z)) (Option.some.inj h)) hK hZ hP hS dX10_type_22
    · replace h := gif_f h c3
      refine lv_iload_n hx hb dX10_type_15 rfl (lv_at hl 2 rfl) ?_
      refine lv_bipush (v := (nI 7)) hx hb dX10_type_16 (by decide) ?_
      refine lv_icmp_le (tgt := 23) hx hb dX10_type_18 (by decide) (fun c4 => ?_) (fun c4 => ?_)
      · replace h := gif_t h c4
        refine lv_iload_n hx hb dX10_type_23 rfl (lv_at hl 2 rfl) ?_
        refine lv_if_ne (tgt := 36) hx hb dX10_type_24 (by decide) (fun c5 => ?_) (fun c5 => ?_)
        · replace h := gif_f h c5
          refine lv_aload_n hx hb dX10_type_36 rfl (lv_at hl 0 rfl) ?_
          refine fw_getr hx hb hts in_X10_type_X10 hown hK hP gF10.1.1 gF10.1.2 rfl 0 (by decide) rfl (hts _ (List.mem_of_getElem? (i := 1) rfl)) rfl dX10_type_37 ?_
          refine fw_getr hx hb hts in_X10_type_X5 hown hK hP gF10.2.1.1.1 gF10.2.1.1.2 rfl 4 (by decide) rfl (hts _ (List.mem_of_getElem? (i := 2) rfl)) rfl dX10_type_40 ?_
          refine lv_iload_n hx hb dX10_type_43 rfl (lv_at hl 1 rfl) ?_
          obtain ⟨h6, h⟩ := gg_s h
          refine fw_iald hx hb hK hP gF10.2.1.2.2.2.1 gF10.2.1.2.2.2.2 h6 dX10_type_44 ?_
          refine lv_topi (fun y7 ey7 => ?_)
          replace h := gl_s h ey7
          refine lv_istore_n (lv' := [(3, .int y7), (0, .ref (ad 0)), (1, .int a1), (2, .int a2)]) hx hb dX10_type_45 rfl hl (by decide) rfl (fun ls hl => ?_)
          refine lv_iload_n hx hb dX10_type_46 rfl (lv_at hl 3 rfl) ?_
          refine lv_iconst (v := (nI 1)) hx hb dX10_type_47 (by decide) ?_
          refine lv_icmp_ne (tgt := 58) hx hb dX10_type_48 (by decide) (fun c8 => ?_) (fun c8 => ?_)
          · replace h := gif_f h c8
            refine lv_iload_n hx hb dX10_type_58 rfl (lv_at hl 0 rfl) ?_
            refine lv_iload_n hx hb dX10_type_59 rfl (lv_at hl 3 rfl) ?_
            refine lv_iconst (v := (nI 2)) hx hb dX10_type_60 (by decide) ?_
            refine lv_isub hx hb dX10_type_61 ?_
            obtain ⟨q9, hq9, h⟩ := gb_s h
            refine fw_siR (As := [.int y7, .int (a2 - (nI 2))]) (rest := []) ⟨hx, hb, hml, hown, hts⟩ (k_X2_letter l D cA ad tw hG z y7 (a2 - (nI 2)) q9 hq9) (va_cwS 2 hts gX10_type_X2_letter rfl rfl rfl hdS_X2_letter ⟨Nat.le_of_ble_eq_true rfl, Nat.le_of_ble_eq_true rfl⟩) hK hZ hP rfl hl _ rfl (Nat.le_of_ble_eq_true rfl) hS dX10_type_62 ⟨Nat.zero_le _, Nat.zero_le _⟩ (fun H locs hP hS => ?_)
            exact fw_ireti hx hb hr hlocks (congrArg (fun q => (q, z)) (Option.some.inj h)) hK hZ hP hS dX10_type_65
          · replace h := gif_t h c8
            refine lv_iload_n hx hb dX10_type_51 rfl (lv_at hl 0 rfl) ?_
            obtain ⟨q10, hq10, h⟩ := gb_s h
            refine fw_siR (As := [.int y7]) (rest := []) ⟨hx, hb, hml, hown, hts⟩ (k_X2_length l D cA ad tw hG z y7 q10 hq10) (va_cwS 1 hts gX10_type_X2_length rfl rfl rfl hdS_X2_length ⟨Nat.le_of_ble_eq_true rfl, Nat.le_of_ble_eq_true rfl⟩) hK hZ hP rfl hl _ rfl (Nat.le_of_ble_eq_true rfl) hS dX10_type_52 ⟨Nat.zero_le _, Nat.zero_le _⟩ (fun H locs hP hS => ?_)
            refine lv_goto (tgt := 65) hx hb dX10_type_55 (by decide) ?_
            exact fw_ireti hx hb hr hlocks (congrArg (fun q => (q, z)) (Option.some.inj h)) hK hZ hP hS dX10_type_65
        · replace h := gif_t h c5
          refine lv_aload_n hx hb dX10_type_27 rfl (lv_at hl 0 rfl) ?_
          refine fw_getr hx hb hts in_X10_type_X10 hown hK hP gF10.1.1 gF10.1.2 rfl 0 (by decide) rfl (hts _ (List.mem_of_getElem? (i := 1) rfl)) rfl dX10_type_28 ?_
          refine lv_iload_n hx hb dX10_type_31 rfl (lv_at hl 1 rfl) ?_
          obtain ⟨q11, hq11, h⟩ := gb_s h
          refine fw_viR (As := [.int a1]) (rest := []) ⟨hx, hb, hml, hown, hts⟩ (k_X5_owners l D cA ad tw hG z 1 (gF10.2.1) a1 q11 hq11) (cwV 1 hts gX10_type_X5_owners rfl rfl rfl hdV_X5_owners ⟨Nat.le_of_ble_eq_true rfl, Nat.le_of_ble_eq_true rfl⟩) (fw_preV gF10.2.1.1.1 gF10.2.1.1.2 rfl rfl hK hZ hP hS) rfl hl _ rfl (Nat.le_of_ble_eq_true rfl) hS dX10_type_32 ⟨Nat.zero_le _, Nat.zero_le _⟩ (fun H locs hP hS => ?_)
          exact fw_ireti hx hb hr hlocks (congrArg (fun q => (q, z)) (Option.some.inj h)) hK hZ hP hS dX10_type_35
      · replace h := gif_f h c4
        refine lv_iconst (v := gm1) hx hb dX10_type_21 (by decide) ?_
        exact fw_ireti hx hb hr hlocks (congrArg (fun q => (q, z)) (Option.some.inj h)) hK hZ hP hS dX10_type_22
theorem in_X10_drop_X10 : ∀ w ∈ wsX100, w ∈ wsX10_drop := fun w h => List.mem_cons_of_mem _ (List.mem_append_left _ (List.mem_append_right _ (h)))
theorem in_X10_drop_X5 : ∀ w ∈ wsX50, w ∈ wsX10_drop := fun w h => List.mem_cons_of_mem _ (List.mem_append_right _ (h))
theorem hdV_X10_drop : yX10_drop.cls = RX10 ∧ yX10_drop.cls ≠ "java/lang/invoke/MethodHandle" ∧ yX10_drop.cls ≠ "java/lang/invoke/VarHandle" ∧ (parseMethodDescriptor yX10_drop.desc).map (fun d => d.parameters.length) = some 1 := by decide +kernel
set_option maxHeartbeats 4000000 in
set_option maxRecDepth 100000 in
theorem k_X10_drop (l : Launch) (D : va_G) (cA : Nat → ClassId) (ad : Nat → Nat) (tw : Nat) (hG : gOk ad 315) (z : gS) (a1 : Int32) (res : Int32 × gS) (h : f_X10_drop a1 z = some res) : gMi l yX10_drop wsX10_drop (gRm 1 22) D cA ad tw shX 315 [.ref (ad 0), .int a1] z res := by
  refine Met.ofW (cc := cX10_drop) (maxL := 2) (ret := (some .int)) (by decide) rfl ?_
  intro p e s m args below meth c s₁ B hml hv
  obtain ⟨rfl, hP, hK, hZ⟩ := hv
  have hx := B.exec
  have hb := B.bytes
  have hr := B.returns
  have hts := atoms_spec (ws := wsX10_drop) B.pre
  have hown : s.vm.findClass RX10 = some m.cls := findClass_of_methodNamed B.named
  have hlocks := B.notSynchronized
  have hS : va_S (gA ad 315) s.heap s.heap [] := va_S.rf
  have hl := lv_entry ([.ref (ad 0), .int a1]) (n := 2) (Nat.le_of_ble_eq_true rfl)
  rw [lg_entry_eq]
  generalize (lg_sl ([.ref (ad 0), .int a1]) ++ List.replicate (2 - (lg_sl ([.ref (ad 0), .int a1])).length) Slot.unset).toArray = ls at hl ⊢
  have hl : lv_has ls 2 [(0, .ref (ad 0)), (1, .int a1)] := hl
  unfold f_X10_drop at h
  refine lv_aload_n hx hb dX10_drop_0 rfl (lv_at hl 0 rfl) ?_
  refine fw_getr hx hb hts in_X10_drop_X10 hown hK hP gF10.1.1 gF10.1.2 rfl 0 (by decide) rfl (hts _ (List.mem_of_getElem? (i := 1) rfl)) rfl dX10_drop_1 ?_
  refine lv_iload_n hx hb dX10_drop_4 rfl (lv_at hl 1 rfl) ?_
  obtain ⟨q1, hq1, h⟩ := gb_s h
  refine fw_viR (As := [.int a1]) (rest := []) ⟨hx, hb, hml, hown, hts⟩ (k_X5_holds l D cA ad tw hG z 1 (gF10.2.1) a1 q1 hq1) (cwV 1 hts gX10_drop_X5_holds rfl rfl rfl hdV_X5_holds ⟨Nat.le_of_ble_eq_true rfl, Nat.le_of_ble_eq_true rfl⟩) (fw_preV gF10.2.1.1.1 gF10.2.1.1.2 rfl rfl hK hZ hP hS) rfl hl _ rfl (Nat.le_of_ble_eq_true rfl) hS dX10_drop_5 ⟨Nat.zero_le _, Nat.zero_le _⟩ (fun H locs hP hS => ?_)
  refine lv_if_ne (tgt := 13) hx hb dX10_drop_8 (by decide) (fun c2 => ?_) (fun c2 => ?_)
  · replace h := gif_f h c2
    refine lv_aload_n hx hb dX10_drop_13 rfl (lv_at hl 0 rfl) ?_
    refine fw_getr hx hb hts in_X10_drop_X10 hown hK hP gF10.1.1 gF10.1.2 rfl 0 (by decide) rfl (hts _ (List.mem_of_getElem? (i := 1) rfl)) rfl dX10_drop_14 ?_
    refine lv_iload_n hx hb dX10_drop_17 rfl (lv_at hl 1 rfl) ?_
    obtain ⟨q3, hq3, h⟩ := gb_s h
    refine fw_vv (As := [.int a1]) (rest := []) ⟨hx, hb, hml, hown, hts⟩ (k_X5_remove l D cA ad tw hG z 1 (gF10.2.1) a1 q3 hq3) (cwV 1 hts gX10_drop_X5_remove rfl rfl rfl hdV_X5_remove ⟨Nat.le_of_ble_eq_true rfl, Nat.le_of_ble_eq_true rfl⟩) (fw_preV gF10.2.1.1.1 gF10.2.1.1.2 rfl rfl hK hZ hP hS) rfl hl _ rfl (Nat.le_of_ble_eq_true rfl) hS dX10_drop_18 ⟨Nat.zero_le _, Nat.zero_le _⟩ (fun H locs hP hS => ?_)
    refine lv_aload_n hx hb dX10_drop_21 rfl (lv_at hl 0 rfl) ?_
    obtain ⟨q4, hq4, h⟩ := gb_s h
    refine fw_vv (As := []) (rest := []) ⟨hx, hb, hml, hown, hts⟩ (k_X10_siteChanged l D cA ad tw hG q3  q4 hq4) (cwV 0 hts gX10_drop_X10_siteChanged rfl rfl rfl hdV_X10_siteChanged ⟨Nat.le_of_ble_eq_true rfl, Nat.le_of_ble_eq_true rfl⟩) (fw_preV gF10.1.1 gF10.1.2 rfl rfl hK hZ hP hS) rfl hl _ rfl (Nat.le_of_ble_eq_true rfl) hS dX10_drop_22 ⟨Nat.zero_le _, Nat.zero_le _⟩ (fun H locs hP hS => ?_)
    refine lv_aload_n hx hb dX10_drop_25 rfl (lv_at hl 0 rfl) ?_
    refine fw_getr hx hb hts in_X10_drop_X10 hown hK hP gF10.1.1 gF10.1.2 rfl 0 (by decide) rfl (hts _ (List.mem_of_getElem? (i := 1) rfl)) rfl dX10_drop_26 ?_
    refine fw_geti hx hb hts in_X10_drop_X5 hown hK hP gF10.2.1.1.1 gF10.2.1.1.2 rfl 0 (by decide) rfl (hts _ (List.mem_of_getElem? (i := 2) rfl)) rfl dX10_drop_29 ?_
    exact fw_ireti hx hb hr hlocks (Option.some.inj h) hK hZ hP hS dX10_drop_32
  · replace h := gif_t h c2
    refine lv_iconst (v := gm1) hx hb dX10_drop_11 (by decide) ?_
    exact fw_ireti hx hb hr hlocks (Option.some.inj h) hK hZ hP hS dX10_drop_12
theorem in_X10_count_X10 : ∀ w ∈ wsX100, w ∈ wsX10_count := fun w h => List.mem_cons_of_mem _ (List.mem_append_left _ (List.mem_append_left _ (List.mem_append_right _ (h))))
theorem in_X10_count_X5 : ∀ w ∈ wsX50, w ∈ wsX10_count := fun w h => List.mem_cons_of_mem _ (List.mem_append_left _ (List.mem_append_right _ (h)))
theorem in_X10_count_X7 : ∀ w ∈ wsX70, w ∈ wsX10_count := fun w h => List.mem_cons_of_mem _ (List.mem_append_right _ (h))
theorem hdV_X10_count : yX10_count.cls = RX10 ∧ yX10_count.cls ≠ "java/lang/invoke/MethodHandle" ∧ yX10_count.cls ≠ "java/lang/invoke/VarHandle" ∧ (parseMethodDescriptor yX10_count.desc).map (fun d => d.parameters.length) = some 1 := by decide +kernel
set_option maxHeartbeats 4000000 in
set_option maxRecDepth 100000 in
theorem k_X10_count (l : Launch) (D : va_G) (cA : Nat → ClassId) (ad : Nat → Nat) (tw : Nat) (hG : gOk ad 315) (z : gS) (a1 : Int32) (res : Int32) (h : f_X10_count a1 z = some res) : gMi l yX10_count wsX10_count (gRm 5 113) D cA ad tw shX 315 [.ref (ad 0), .int a1] z (res, z) := by
  refine Met.ofW (cc := cX10_count) (maxL := 2) (ret := (some .int)) (by decide) rfl ?_
  intro p e s m args below meth c s₁ B hml hv
  obtain ⟨rfl, hP, hK, hZ⟩ := hv
  have hx := B.exec
  have hb := B.bytes
  have hr := B.returns
  have hts := atoms_spec (ws := wsX10_count) B.pre
  have hown : s.vm.findClass RX10 = some m.cls := findClass_of_methodNamed B.named
  have hlocks := B.notSynchronized
  have hS : va_S (gA ad 315) s.heap s.heap [] := va_S.rf
  have hl := lv_entry ([.ref (ad 0), .int a1]) (n := 2) (Nat.le_of_ble_eq_true rfl)
  rw [lg_entry_eq]
  generalize (lg_sl ([.ref (ad 0), .int a1]) ++ List.replicate (2 - (lg_sl ([.ref (ad 0), .int a1])).length) Slot.unset).toArray = ls at hl ⊢
  have hl : lv_has ls 2 [(0, .ref (ad 0)), (1, .int a1)] := hl
  unfold f_X10_count at h
  refine lv_iload_n hx hb dX10_count_0 rfl (lv_at hl 1 rfl) ?_
  by_cases c1 : a1 = (nI 0)
  · replace h := gif_t h c1
    refine lv_tableIn (tgt := 40) hx hb dX10_count_1 (by rw [c1]; decide) (by rw [c1]; decide) (by rw [c1]; rfl) (by decide) ?_
    refine lv_aload_n hx hb dX10_count_40 rfl (lv_at hl 0 rfl) ?_
    refine fw_getr hx hb hts in_X10_count_X10 hown hK hP gF10.1.1 gF10.1.2 rfl 0 (by decide) rfl (hts _ (List.mem_of_getElem? (i := 1) rfl)) rfl dX10_count_41 ?_
    refine fw_geti hx hb hts in_X10_count_X5 hown hK hP gF10.2.1.1.1 gF10.2.1.1.2 rfl 0 (by decide) rfl (hts _ (List.mem_of_getElem? (i := 2) rfl)) rfl dX10_count_44 ?_
    exact fw_ireti hx hb hr hlocks (congrArg (fun q => (q, z)) (Option.some.inj h)) hK hZ hP hS dX10_count_47
  replace h := gif_f h c1
  by_cases c2 : a1 = (nI 1)
  · replace h := gif_t h c2
    refine lv_tableIn (tgt := 48) hx hb dX10_count_1 (by rw [c2]; decide) (by rw [c2]; decide) (by rw [c2]; rfl) (by decide) ?_
    refine lv_aload_n hx hb dX10_count_48 rfl (lv_at hl 0 rfl) ?_
    refine fw_getr hx hb hts in_X10_count_X10 hown hK hP gF10.1.1 gF10.1.2 rfl 0 (by decide) rfl (hts _ (List.mem_of_getElem? (i := 1) rfl)) rfl dX10_count_49 ?_
    refine fw_geti hx hb hts in_X10_count_X5 hown hK hP gF10.2.1.1.1 gF10.2.1.1.2 rfl 1 (by decide) rfl (hts _ (List.mem_of_getElem? (i := 3) rfl)) rfl dX10_count_52 ?_
    exact fw_ireti hx hb hr hlocks (congrArg (fun q => (q, z)) (Option.some.inj h)) hK hZ hP hS dX10_count_55
  replace h := gif_f h c2
  by_cases c3 : a1 = (nI 2)
  · replace h := gif_t h c3
    refine lv_tableIn (tgt := 56) hx hb dX10_count_1 (by rw [c3]; decide) (by rw [c3]; decide) (by rw [c3]; rfl) (by decide) ?_
    refine lv_aload_n hx hb dX10_count_56 rfl (lv_at hl 0 rfl) ?_
    refine fw_getr hx hb hts in_X10_count_X10 hown hK hP gF10.1.1 gF10.1.2 rfl 0 (by decide) rfl (hts _ (List.mem_of_getElem? (i := 1) rfl)) rfl dX10_count_57 ?_
    obtain ⟨q4, hq4, h⟩ := gb_s h
    refine fw_viR (As := []) (rest := []) ⟨hx, hb, hml, hown, hts⟩ (k_X5_parts l D cA ad tw hG z 1 (gF10.2.1) q4 hq4) (cwV 0 hts gX10_count_X5_parts rfl rfl rfl hdV_X5_parts ⟨Nat.le_of_ble_eq_true rfl, Nat.le_of_ble_eq_true rfl⟩) (fw_preV gF10.2.1.1.1 gF10.2.1.1.2 rfl rfl hK hZ hP hS) rfl hl _ rfl (Nat.le_of_ble_eq_true rfl) hS dX10_count_60 ⟨Nat.zero_le _, Nat.zero_le _⟩ (fun H locs hP hS => ?_)
    exact fw_ireti hx hb hr hlocks (congrArg (fun q => (q, z)) (Option.some.inj h)) hK hZ hP hS dX10_count_63
  replace h := gif_f h c3
  by_cases c5 : a1 = (nI 3)
  · replace h := gif_t h c5
    refine lv_tableIn (tgt := 64) hx hb dX10_count_1 (by rw [c5]; decide) (by rw [c5]; decide) (by rw [c5]; rfl) (by decide) ?_
    refine lv_aload_n hx hb dX10_count_64 rfl (lv_at hl 0 rfl) ?_
    refine fw_getr hx hb hts in_X10_count_X10 hown hK hP gF10.1.1 gF10.1.2 rfl 8 (by decide) rfl (hts _ (List.mem_of_getElem? (i := 4) rfl)) rfl dX10_count_65 ?_
    refine fw_geti hx hb hts in_X10_count_X7 hown hK hP gF10.2.2.2.2.2.2.2.2.2.1.1.1 gF10.2.2.2.2.2.2.2.2.2.1.1.2 rfl 1 (by decide) rfl (hts _ (List.mem_of_getElem? (i := 5) rfl)) rfl dX10_count_68 ?_
    exact fw_ireti hx hb hr hlocks (congrArg (fun q => (q, z)) (Option.some.inj h)) hK hZ hP hS dX10_count_71
  replace h := gif_f h c5
  by_cases c6 : a1 = (nI 4)
  · replace h := gif_t h c6
    refine lv_tableIn (tgt := 72) hx hb dX10_count_1 (by rw [c6]; decide) (by rw [c6]; decide) (by rw [c6]; rfl) (by decide) ?_
    refine lv_aload_n hx hb dX10_count_72 rfl (lv_at hl 0 rfl) ?_
    refine fw_geti hx hb hts in_X10_count_X10 hown hK hP gF10.1.1 gF10.1.2 rfl 13 (by decide) rfl (hts _ (List.mem_of_getElem? (i := 6) rfl)) rfl dX10_count_73 ?_
    exact fw_ireti hx hb hr hlocks (congrArg (fun q => (q, z)) (Option.some.inj h)) hK hZ hP hS dX10_count_76
  replace h := gif_f h c6
  by_cases c7 : a1 = (nI 5)
  · replace h := gif_t h c7
    refine lv_tableIn (tgt := 77) hx hb dX10_count_1 (by rw [c7]; decide) (by rw [c7]; decide) (by rw [c7]; rfl) (by decide) ?_
    refine lv_aload_n hx hb dX10_count_77 rfl (lv_at hl 0 rfl) ?_
    refine fw_getr hx hb hts in_X10_count_X10 hown hK hP gF10.1.1 gF10.1.2 rfl 0 (by decide) rfl (hts _ (List.mem_of_getElem? (i := 1) rfl)) rfl dX10_count_78 ?_
    obtain ⟨q8, hq8, h⟩ := gb_s h
    refine fw_viR (As := []) (rest := []) ⟨hx, hb, hml, hown, hts⟩ (k_X5_bare l D cA ad tw hG z 1 (gF10.2.1) q8 hq8) (cwV 0 hts gX10_count_X5_bare rfl rfl rfl hdV_X5_bare ⟨Nat.le_of_ble_eq_true rfl, Nat.le_of_ble_eq_true rfl⟩) (fw_preV gF10.2.1.1.1 gF10.2.1.1.2 rfl rfl hK hZ hP hS) rfl hl _ rfl (Nat.le_of_ble_eq_true rfl) hS dX10_count_81 ⟨Nat.zero_le _, Nat.zero_le _⟩ (fun H locs hP hS => ?_)
    exact fw_ireti hx hb hr hlocks (congrArg (fun q => (q, z)) (Option.some.inj h)) hK hZ hP hS dX10_count_84
  replace h := gif_f h c7
  refine lv_tableOut (tgt := 85) hx hb dX10_count_1 (by have nc1 := gne (w := 0) c1 rfl; have nc2 := gne (w := 1) c2 rfl; have nc3 := gne (w := 2) c3 rfl; have nc5 := gne (w := 3) c5 rfl; have nc6 := gne (w := 4) c6 rfl; have nc7 := gne (w := 5) c7 rfl; omega) (by decide) ?_
  refine lv_bipush (v := (-2)) hx hb dX10_count_85 (by decide) ?_
  exact fw_ireti hx hb hr hlocks (congrArg (fun q => (q, z)) (Option.some.inj h)) hK hZ hP hS dX10_count_87
theorem in_X10_readyPlan_X10 : ∀ w ∈ wsX100, w ∈ wsX10_readyPlan := fun w h => List.mem_cons_of_mem _ (List.mem_append_left _ (List.mem_append_left _ (List.mem_append_right _ (h))))
theorem hdV_X10_readyPlan : yX10_readyPlan.cls = RX10 ∧ yX10_readyPlan.cls ≠ "java/lang/invoke/MethodHandle" ∧ yX10_readyPlan.cls ≠ "java/lang/invoke/VarHandle" ∧ (parseMethodDescriptor yX10_readyPlan.desc).map (fun d => d.parameters.length) = some 0 := by decide +kernel
set_option maxHeartbeats 4000000 in
set_option maxRecDepth 100000 in
theorem k_X10_readyPlan (l : Launch) (D : va_G) (cA : Nat → ClassId) (ad : Nat → Nat) (tw : Nat) (hG : gOk ad 315) (z : gS)  (res : gS) (h : f_X10_readyPlan  z = some res) : gMr l yX10_readyPlan wsX10_readyPlan (gRm 4 94) D cA ad tw shX 315 [.ref (ad 0)] z 13 res := by
  refine Met.ofW (cc := cX10_readyPlan) (maxL := 1) (ret := (some (.object "FindOrder$Plan"))) (by decide) rfl ?_
  intro p e s m args below meth c s₁ B hml hv
  obtain ⟨rfl, hP, hK, hZ⟩ := hv
  have hx := B.exec
  have hb := B.bytes
  have hr := B.returns
  have hts := atoms_spec (ws := wsX10_readyPlan) B.pre
  have hown : s.vm.findClass RX10 = some m.cls := findClass_of_methodNamed B.named
  have hlocks := B.notSynchronized
  have hS : va_S (gA ad 315) s.heap s.heap [] := va_S.rf
  have hl := lv_entry ([.ref (ad 0)]) (n := 1) (Nat.le_of_ble_eq_true rfl)
  rw [lg_entry_eq]
  generalize (lg_sl ([.ref (ad 0)]) ++ List.replicate (1 - (lg_sl ([.ref (ad 0)])).length) Slot.unset).toArray = ls at hl ⊢
  have hl : lv_has ls 1 [(0, .ref (ad 0))] := hl
  unfold f_X10_readyPlan at h
  refine lv_aload_n hx hb dX10_readyPlan_0 rfl (lv_at hl 0 rfl) ?_
  refine fw_geti hx hb hts in_X10_readyPlan_X10 hown hK hP gF10.1.1 gF10.1.2 rfl 15 (by decide) rfl (hts _ (List.mem_of_getElem? (i := 1) rfl)) rfl dX10_readyPlan_1 ?_
  refine lv_if_ne (tgt := 39) hx hb dX10_readyPlan_4 (by decide) (fun c1 => ?_) (fun c1 => ?_)
  · replace h := gif_f h c1
    refine lv_aload_n hx hb dX10_readyPlan_39 rfl (lv_at hl 0 rfl) ?_
    refine fw_getr hx hb hts in_X10_readyPlan_X10 hown hK hP gF10.1.1 gF10.1.2 rfl 3 (by decide) rfl (hts _ (List.mem_of_getElem? (i := 2) rfl)) rfl dX10_readyPlan_40 ?_
    exact fw_aret hx hb hr hlocks (Option.some.inj h) hK hZ hP hS dX10_readyPlan_43
  · replace h := gif_t h c1
    refine lv_aload_n hx hb dX10_readyPlan_7 rfl (lv_at hl 0 rfl) ?_
    refine fw_getr hx hb hts in_X10_readyPlan_X10 hown hK hP gF10.1.1 gF10.1.2 rfl 3 (by decide) rfl (hts _ (List.mem_of_getElem? (i := 2) rfl)) rfl dX10_readyPlan_8 ?_
    refine lv_aload_n hx hb dX10_readyPlan_11 rfl (lv_at hl 0 rfl) ?_
    refine fw_getr hx hb hts in_X10_readyPlan_X10 hown hK hP gF10.1.1 gF10.1.2 rfl 0 (by decide) rfl (hts _ (List.mem_of_getElem? (i := 3) rfl)) rfl dX10_readyPlan_12 ?_
    refine lv_aload_n hx hb dX10_readyPlan_15 rfl (lv_at hl 0 rfl) ?_
    refine fw_getr hx hb hts in_X10_readyPlan_X10 hown hK hP gF10.1.1 gF10.1.2 rfl 0 (by decide) rfl (hts _ (List.mem_of_getElem? (i := 3) rfl)) rfl dX10_readyPlan_16 ?_
    obtain ⟨q2, hq2, h⟩ := gb_s h
    refine fw_viR (As := []) (rest := [.ref (ad 1), .ref (ad 13)]) ⟨hx, hb, hml, hown, hts⟩ (k_X5_everybody l D cA ad tw hG z 1 (gF10.2.1) q2 hq2) (cwV 0 hts gX10_readyPlan_X5_everybody rfl rfl rfl hdV_X5_everybody ⟨Nat.le_of_ble_eq_true rfl, Nat.le_of_ble_eq_true rfl⟩) (fw_preV gF10.2.1.1.1 gF10.2.1.1.2 rfl rfl hK hZ hP hS) rfl hl _ rfl (Nat.le_of_ble_eq_true rfl) hS dX10_readyPlan_19 ⟨Nat.zero_le _, Nat.zero_le _⟩ (fun H locs hP hS => ?_)
    refine lv_aload_n hx hb dX10_readyPlan_22 rfl (lv_at hl 0 rfl) ?_
    refine fw_getr hx hb hts in_X10_readyPlan_X10 hown hK hP gF10.1.1 gF10.1.2 rfl 0 (by decide) rfl (hts _ (List.mem_of_getElem? (i := 3) rfl)) rfl dX10_readyPlan_23 ?_
    obtain ⟨q3, hq3, h⟩ := gb_s h
    refine fw_viR (As := []) (rest := [.int q2, .ref (ad 1), .ref (ad 13)]) ⟨hx, hb, hml, hown, hts⟩ (k_X5_everything l D cA ad tw hG z 1 (gF10.2.1) q3 hq3) (cwV 0 hts gX10_readyPlan_X5_everything rfl rfl rfl hdV_X5_everything ⟨Nat.le_of_ble_eq_true rfl, Nat.le_of_ble_eq_true rfl⟩) (fw_preV gF10.2.1.1.1 gF10.2.1.1.2 rfl rfl hK hZ hP hS) rfl hl _ rfl (Nat.le_of_ble_eq_true rfl) hS dX10_readyPlan_26 ⟨Nat.zero_le _, Nat.zero_le _⟩ (fun H locs hP hS => ?_)
    refine lv_iconst (v := gm1) hx hb dX10_readyPlan_29 (by decide) ?_
    refine lv_iconst (v := gm1) hx hb dX10_readyPlan_30 (by decide) ?_
    obtain ⟨q4, hq4, h⟩ := gb_s h
    refine fw_vv (As := [.ref (ad 1), .int q2, .int q3, .int gm1, .int gm1]) (rest := []) ⟨hx, hb, hml, hown, hts⟩ (k_X3_make l D cA ad tw hG z 13 (gF10.2.2.2.2.1) 1 (gF10.2.1) q2 q3 gm1 gm1 q4 hq4) (cwV 5 hts gX10_readyPlan_X3_make rfl rfl rfl hdV_X3_make ⟨Nat.le_of_ble_eq_true rfl, Nat.le_of_ble_eq_true rfl⟩) (fw_preV gF10.2.2.2.2.1.1.1 gF10.2.2.2.2.1.1.2 rfl rfl hK hZ hP hS) rfl hl _ rfl (Nat.le_of_ble_eq_true rfl) hS dX10_readyPlan_31 ⟨Nat.zero_le _, Nat.zero_le _⟩ (fun H locs hP hS => ?_)
    refine lv_aload_n hx hb dX10_readyPlan_34 rfl (lv_at hl 0 rfl) ?_
    refine lv_iconst (v := (nI 1)) hx hb dX10_readyPlan_35 (by decide) ?_
    refine fw_put hx hb hts in_X10_readyPlan_X10 tyX10_ok nmX10 hown hK hG hP hS gF10.1.1 gF10.1.2 rfl 15 (by decide) rfl (hts _ (List.mem_of_getElem? (i := 1) rfl)) rfl rfl (ty := .boolean) rfl rfl rfl dX10_readyPlan_36 (fun z5 H locs ez5 hP hS => ?_)
    replace h := gl_s h ez5
    refine lv_aload_n hx hb dX10_readyPlan_39 rfl (lv_at hl 0 rfl) ?_
    refine fw_getr hx hb hts in_X10_readyPlan_X10 hown hK hP gF10.1.1 gF10.1.2 rfl 3 (by decide) rfl (hts _ (List.mem_of_getElem? (i := 2) rfl)) rfl dX10_readyPlan_40 ?_
    exact fw_aret hx hb hr hlocks (Option.some.inj h) hK hZ hP hS dX10_readyPlan_43
theorem in_X10_orders_X10 : ∀ w ∈ wsX100, w ∈ wsX10_orders := fun w h => List.mem_cons_of_mem _ (List.mem_append_left _ (List.mem_append_left _ (List.mem_append_left _ (List.mem_append_right _ (h)))))
theorem hdV_X10_orders : yX10_orders.cls = RX10 ∧ yX10_orders.cls ≠ "java/lang/invoke/MethodHandle" ∧ yX10_orders.cls ≠ "java/lang/invoke/VarHandle" ∧ (parseMethodDescriptor yX10_orders.desc).map (fun d => d.parameters.length) = some 1 := by decide +kernel
set_option maxHeartbeats 4000000 in
set_option maxRecDepth 100000 in
theorem k_X10_orders (l : Launch) (D : va_G) (cA : Nat → ClassId) (ad : Nat → Nat) (tw : Nat) (hG : gOk ad 315) (z : gS) (a1 : Int32) (res : Int32 × gS) (h : f_X10_orders a1 z = some res) : gMi l yX10_orders wsX10_orders (gRm 5 114) D cA ad tw shX 315 [.ref (ad 0), .int a1] z res := by
  refine Met.ofW (cc := cX10_orders) (maxL := 2) (ret := (some .int)) (by decide) rfl ?_
  intro p e s m args below meth c s₁ B hml hv
  obtain ⟨rfl, hP, hK, hZ⟩ := hv
  have hx := B.exec
  have hb := B.bytes
  have hr := B.returns
  have hts := atoms_spec (ws := wsX10_orders) B.pre
  have hown : s.vm.findClass RX10 = some m.cls := findClass_of_methodNamed B.named
  have hlocks := B.notSynchronized
  have hS : va_S (gA ad 315) s.heap s.heap [] := va_S.rf
  have hl := lv_entry ([.ref (ad 0), .int a1]) (n := 2) (Nat.le_of_ble_eq_true rfl)
  rw [lg_entry_eq]
  generalize (lg_sl ([.ref (ad 0), .int a1]) ++ List.replicate (2 - (lg_sl ([.ref (ad 0), .int a1])).length) Slot.unset).toArray = ls at hl ⊢
  have hl : lv_has ls 2 [(0, .ref (ad 0)), (1, .int a1)] := hl
  unfold f_X10_orders at h
  refine lv_iload_n hx hb dX10_orders_0 rfl (lv_at hl 1 rfl) ?_
  refine lv_if_lt (tgt := 10) hx hb dX10_orders_1 (by decide) (fun c1 => ?_) (fun c1 => ?_)
  · replace h := gif_t h c1
    refine lv_bipush (v := (-2)) hx hb dX10_orders_10 (by decide) ?_
    exact fw_ireti hx hb hr hlocks (Option.some.inj h) hK hZ hP hS dX10_orders_12
  · replace h := gif_f h c1
    refine lv_iload_n hx hb dX10_orders_4 rfl (lv_at hl 1 rfl) ?_
    refine lv_bipush (v := (nI 60)) hx hb dX10_orders_5 (by decide) ?_
    refine lv_icmp_le (tgt := 13) hx hb dX10_orders_7 (by decide) (fun c2 => ?_) (fun c2 => ?_)
    · replace h := gif_t h c2
      refine lv_aload_n hx hb dX10_orders_13 rfl (lv_at hl 0 rfl) ?_
      refine fw_getr hx hb hts in_X10_orders_X10 hown hK hP gF10.1.1 gF10.1.2 rfl 5 (by decide) rfl (hts _ (List.mem_of_getElem? (i := 1) rfl)) rfl dX10_orders_14 ?_
      refine lv_aload_n hx hb dX10_orders_17 rfl (lv_at hl 0 rfl) ?_
      obtain ⟨q3, hq3, h⟩ := gb_s h
      refine fw_vr (As := []) (rest := [.ref (ad 23)]) ⟨hx, hb, hml, hown, hts⟩ (k_X10_readyPlan l D cA ad tw hG z  q3 hq3) (cwV 0 hts gX10_orders_X10_readyPlan rfl rfl rfl hdV_X10_readyPlan ⟨Nat.le_of_ble_eq_true rfl, Nat.le_of_ble_eq_true rfl⟩) (fw_preV gF10.1.1 gF10.1.2 rfl rfl hK hZ hP hS) rfl hl _ rfl (Nat.le_of_ble_eq_true rfl) hS dX10_orders_18 ⟨Nat.zero_le _, Nat.zero_le _⟩ (fun H locs hP hS => ?_)
      refine lv_iload_n hx hb dX10_orders_21 rfl (lv_at hl 1 rfl) ?_
      obtain ⟨q4, hq4, h⟩ := gb_s h
      refine fw_vi (As := [.ref (ad 13), .int a1]) (rest := []) ⟨hx, hb, hml, hown, hts⟩ (k_X6_within l D cA ad tw hG q3 23 (gF10.2.2.2.2.2.2.1) 13 (gF10.2.2.2.2.1) a1 q4 hq4) (cwV 2 hts gX10_orders_X6_within rfl rfl rfl hdV_X6_within ⟨Nat.le_of_ble_eq_true rfl, Nat.le_of_ble_eq_true rfl⟩) (fw_preV gF10.2.2.2.2.2.2.1.1.1 gF10.2.2.2.2.2.2.1.1.2 rfl rfl hK hZ hP hS) rfl hl _ rfl (Nat.le_of_ble_eq_true rfl) hS dX10_orders_22 ⟨Nat.zero_le _, Nat.zero_le _⟩ (fun H locs hP hS => ?_)
      exact fw_ireti hx hb hr hlocks (Option.some.inj h) hK hZ hP hS dX10_orders_25
    · replace h := gif_f h c2
      refine lv_bipush (v := (-2)) hx hb dX10_orders_10 (by decide) ?_
      exact fw_ireti hx hb hr hlocks (Option.some.inj h) hK hZ hP hS dX10_orders_12
theorem hdV_X10_gapless : yX10_gapless.cls = RX10 ∧ yX10_gapless.cls ≠ "java/lang/invoke/MethodHandle" ∧ yX10_gapless.cls ≠ "java/lang/invoke/VarHandle" ∧ (parseMethodDescriptor yX10_gapless.desc).map (fun d => d.parameters.length) = some 1 := by decide +kernel
set_option maxHeartbeats 4000000 in
set_option maxRecDepth 100000 in
theorem k_X10_gapless (l : Launch) (D : va_G) (cA : Nat → ClassId) (ad : Nat → Nat) (tw : Nat) (hG : gOk ad 315) (z : gS) (a1 : Int32) (res : Int32 × gS) (h : f_X10_gapless a1 z = some res) : gMi l yX10_gapless wsX10_gapless (gRm 5 114) D cA ad tw shX 315 [.ref (ad 0), .int a1] z res := by
  refine Met.ofW (cc := cX10_gapless) (maxL := 3) (ret := (some .int)) (by decide) rfl ?_
  intro p e s m args below meth c s₁ B hml hv
  obtain ⟨rfl, hP, hK, hZ⟩ := hv
  have hx := B.exec
  have hb := B.bytes
  have hr := B.returns
  have hts := atoms_spec (ws := wsX10_gapless) B.pre
  have hown : s.vm.findClass RX10 = some m.cls := findClass_of_methodNamed B.named
  have hlocks := B.notSynchronized
  have hS : va_S (gA ad 315) s.heap s.heap [] := va_S.rf
  have hl := lv_entry ([.ref (ad 0), .int a1]) (n := 3) (Nat.le_of_ble_eq_true rfl)
  rw [lg_entry_eq]
  generalize (lg_sl ([.ref (ad 0), .int a1]) ++ List.replicate (3 - (lg_sl ([.ref (ad 0), .int a1])).length) Slot.unset).toArray = ls at hl ⊢
  have hl : lv_has ls 3 [(0, .ref (ad 0)), (1, .int a1)] := hl
  unfold f_X10_gapless at h
  refine lv_aload_n hx hb dX10_gapless_0 rfl (lv_at hl 0 rfl) ?_
  obtain ⟨q1, hq1, h⟩ := gb_s h
  refine fw_vr (As := []) (rest := []) ⟨hx, hb, hml, hown, hts⟩ (k_X10_readyPlan l D cA ad tw hG z  q1 hq1) (cwV 0 hts gX10_gapless_X10_readyPlan rfl rfl rfl hdV_X10_readyPlan ⟨Nat.le_of_ble_eq_true rfl, Nat.le_of_ble_eq_true rfl⟩) (fw_preV gF10.1.1 gF10.1.2 rfl rfl hK hZ hP hS) rfl hl _ rfl (Nat.le_of_ble_eq_true rfl) hS dX10_gapless_1 ⟨Nat.zero_le _, Nat.zero_le _⟩ (fun H locs hP hS => ?_)
  refine lv_astore_n (lv' := [(2, .ref (ad 13)), (0, .ref (ad 0)), (1, .int a1)]) hx hb dX10_gapless_4 rfl hl (by decide) rfl (fun ls hl => ?_)
  refine lv_iload_n hx hb dX10_gapless_5 rfl (lv_at hl 2 rfl) ?_
  refine lv_if_lt (tgt := 17) hx hb dX10_gapless_6 (by decide) (fun c2 => ?_) (fun c2 => ?_)
  · replace h := gif_t h c2
    refine lv_iconst (v := gm1) hx hb dX10_gapless_17 (by decide) ?_
    refine lv_goto (tgt := 26) hx hb dX10_gapless_18 (by decide) ?_
    exact fw_ireti hx hb hr hlocks (Option.some.inj h) hK hZ hP hS dX10_gapless_26
  · replace h := gif_f h c2
    refine lv_iload_n hx hb dX10_gapless_9 rfl (lv_at hl 2 rfl) ?_
    refine lv_aload_n hx hb dX10_gapless_10 rfl (lv_at hl 0 rfl) ?_
    obtain ⟨q3, hq3, h⟩ := gb_s h
    refine fw_viR (As := []) (rest := [.int a1]) ⟨hx, hb, hml, hown, hts⟩ (k_X3_smoothOrders l D cA ad tw hG q1 13 (gF10.2.2.2.2.1) q3 hq3) (cwV 0 hts gX10_gapless_X3_smoothOrders rfl rfl rfl hdV_X3_smoothOrders ⟨Nat.le_of_ble_eq_true rfl, Nat.le_of_ble_eq_true rfl⟩) (fw_preV gF10.2.2.2.2.1.1.1 gF10.2.2.2.2.1.1.2 rfl rfl hK hZ hP hS) rfl hl _ rfl (Nat.le_of_ble_eq_true rfl) hS dX10_gapless_11 ⟨Nat.zero_le _, Nat.zero_le _⟩ (fun H locs hP hS => ?_)
    refine lv_icmp_lt (tgt := 21) hx hb dX10_gapless_14 (by decide) (fun c4 => ?_) (fun c4 => ?_)
    · replace h := gif_t h c4
      refine lv_aload_n hx hb dX10_gapless_21 rfl (lv_at hl 0 rfl) ?_
      refine lv_iload_n hx hb dX10_gapless_22 rfl (lv_at hl 2 rfl) ?_
      obtain ⟨q5, hq5, h⟩ := gb_s h
      refine fw_viR (As := [.int a1]) (rest := []) ⟨hx, hb, hml, hown, hts⟩ (k_X3_pick l D cA ad tw hG q1 13 (gF10.2.2.2.2.1) a1 q5 hq5) (cwV 1 hts gX10_gapless_X3_pick rfl rfl rfl hdV_X3_pick ⟨Nat.le_of_ble_eq_true rfl, Nat.le_of_ble_eq_true rfl⟩) (fw_preV gF10.2.2.2.2.1.1.1 gF10.2.2.2.2.1.1.2 rfl rfl hK hZ hP hS) rfl hl _ rfl (Nat.le_of_ble_eq_true rfl) hS dX10_gapless_23 ⟨Nat.zero_le _, Nat.zero_le _⟩ (fun H locs hP hS => ?_)
      exact fw_ireti hx hb hr hlocks (Option.some.inj h) hK hZ hP hS dX10_gapless_26
    · replace h := gif_f h c4
      refine lv_iconst (v := gm1) hx hb dX10_gapless_17 (by decide) ?_
      refine lv_goto (tgt := 26) hx hb dX10_gapless_18 (by decide) ?_
      exact fw_ireti hx hb hr hlocks (Option.some.inj h) hK hZ hP hS dX10_gapless_26
theorem in_X10_fewest_X3 : ∀ w ∈ wsX30, w ∈ wsX10_fewest := fun w h => List.mem_cons_of_mem _ (List.mem_append_left _ (List.mem_append_left _ (List.mem_append_right _ (h))))
theorem hdV_X10_fewest : yX10_fewest.cls = RX10 ∧ yX10_fewest.cls ≠ "java/lang/invoke/MethodHandle" ∧ yX10_fewest.cls ≠ "java/lang/invoke/VarHandle" ∧ (parseMethodDescriptor yX10_fewest.desc).map (fun d => d.parameters.length) = some 1 := by decide +kernel
set_option maxHeartbeats 4000000 in
set_option maxRecDepth 100000 in
theorem k_X10_fewest (l : Launch) (D : va_G) (cA : Nat → ClassId) (ad : Nat → Nat) (tw : Nat) (hG : gOk ad 315) (z : gS) (a1 : Int32) (res : Int32 × gS) (h : f_X10_fewest a1 z = some res) : gMi l yX10_fewest wsX10_fewest (gRm 5 114) D cA ad tw shX 315 [.ref (ad 0), .int a1] z res := by
  refine Met.ofW (cc := cX10_fewest) (maxL := 3) (ret := (some .int)) (by decide) rfl ?_
  intro p e s m args below meth c s₁ B hml hv
  obtain ⟨rfl, hP, hK, hZ⟩ := hv
  have hx := B.exec
  have hb := B.bytes
  have hr := B.returns
  have hts := atoms_spec (ws := wsX10_fewest) B.pre
  have hown : s.vm.findClass RX10 = some m.cls := findClass_of_methodNamed B.named
  have hlocks := B.notSynchronized
  have hS : va_S (gA ad 315) s.heap s.heap [] := va_S.rf
  have hl := lv_entry ([.ref (ad 0), .int a1]) (n := 3) (Nat.le_of_ble_eq_true rfl)
  rw [lg_entry_eq]
  generalize (lg_sl ([.ref (ad 0), .int a1]) ++ List.replicate (3 - (lg_sl ([.ref (ad 0), .int a1])).length) Slot.unset).toArray = ls at hl ⊢
  have hl : lv_has ls 3 [(0, .ref (ad 0)), (1, .int a1)] := hl
  unfold f_X10_fewest at h
  refine lv_iload_n hx hb dX10_fewest_0 rfl (lv_at hl 1 rfl) ?_
  refine lv_if_lt (tgt := 9) hx hb dX10_fewest_1 (by decide) (fun c1 => ?_) (fun c1 => ?_)
  · replace h := gif_t h c1
    refine lv_bipush (v := (-2)) hx hb dX10_fewest_9 (by decide) ?_
    exact fw_ireti hx hb hr hlocks (Option.some.inj h) hK hZ hP hS dX10_fewest_11
  · replace h := gif_f h c1
    refine lv_iload_n hx hb dX10_fewest_4 rfl (lv_at hl 1 rfl) ?_
    refine lv_iconst (v := (nI 2)) hx hb dX10_fewest_5 (by decide) ?_
    refine lv_icmp_le (tgt := 12) hx hb dX10_fewest_6 (by decide) (fun c2 => ?_) (fun c2 => ?_)
    · replace h := gif_t h c2
      refine lv_aload_n hx hb dX10_fewest_12 rfl (lv_at hl 0 rfl) ?_
      obtain ⟨q3, hq3, h⟩ := gb_s h
      refine fw_vr (As := []) (rest := []) ⟨hx, hb, hml, hown, hts⟩ (k_X10_readyPlan l D cA ad tw hG z  q3 hq3) (cwV 0 hts gX10_fewest_X10_readyPlan rfl rfl rfl hdV_X10_readyPlan ⟨Nat.le_of_ble_eq_true rfl, Nat.le_of_ble_eq_true rfl⟩) (fw_preV gF10.1.1 gF10.1.2 rfl rfl hK hZ hP hS) rfl hl _ rfl (Nat.le_of_ble_eq_true rfl) hS dX10_fewest_13 ⟨Nat.zero_le _, Nat.zero_le _⟩ (fun H locs hP hS => ?_)
      refine lv_astore_n (lv' := [(2, .ref (ad 13)), (0, .ref (ad 0)), (1, .int a1)]) hx hb dX10_fewest_16 rfl hl (by decide) rfl (fun ls hl => ?_)
      refine lv_iload_n hx hb dX10_fewest_17 rfl (lv_at hl 2 rfl) ?_
      by_cases c4 : a1 = (nI 0)
      · replace h := gif_t h c4
        refine lv_lookup (tgt := 44) (off := 26) hx hb dX10_fewest_18 (by decide) (by rw [c4] <;> rfl) (by decide) ?_
        refine lv_aload_n hx hb dX10_fewest_44 rfl (lv_at hl 0 rfl) ?_
        obtain ⟨q5, hq5, h⟩ := gb_s h
        refine fw_viR (As := []) (rest := []) ⟨hx, hb, hml, hown, hts⟩ (k_X3_least l D cA ad tw hG q3 13 (gF10.2.2.2.2.1) q5 hq5) (cwV 0 hts gX10_fewest_X3_least rfl rfl rfl hdV_X3_least ⟨Nat.le_of_ble_eq_true rfl, Nat.le_of_ble_eq_true rfl⟩) (fw_preV gF10.2.2.2.2.1.1.1 gF10.2.2.2.2.1.1.2 rfl rfl hK hZ hP hS) rfl hl _ rfl (Nat.le_of_ble_eq_true rfl) hS dX10_fewest_45 ⟨Nat.zero_le _, Nat.zero_le _⟩ (fun H locs hP hS => ?_)
        exact fw_ireti hx hb hr hlocks (Option.some.inj h) hK hZ hP hS dX10_fewest_48
      replace h := gif_f h c4
      by_cases c6 : a1 = (nI 1)
      · replace h := gif_t h c6
        refine lv_lookup (tgt := 49) (off := 31) hx hb dX10_fewest_18 (by decide) (by rw [c6] <;> rfl) (by decide) ?_
        refine lv_aload_n hx hb dX10_fewest_49 rfl (lv_at hl 0 rfl) ?_
        refine fw_getr hx hb hts in_X10_fewest_X3 hown hK hP gF10.2.2.2.2.1.1.1 gF10.2.2.2.2.1.1.2 rfl 3 (by decide) rfl (hts _ (List.mem_of_getElem? (i := 1) rfl)) rfl dX10_fewest_50 ?_
        refine lv_iconst (v := (nI 0)) hx hb dX10_fewest_53 (by decide) ?_
        obtain ⟨h7, h⟩ := gg_s h
        refine fw_iald hx hb hK hP gF10.2.2.2.2.1.2.2.2.2.1 gF10.2.2.2.2.1.2.2.2.2.2 h7 dX10_fewest_54 ?_
        exact fw_ireti hx hb hr hlocks (Option.some.inj h) hK hZ hP hS dX10_fewest_55
      replace h := gif_f h c6
      refine lv_lookup (tgt := 56) (off := 38) hx hb dX10_fewest_18 (by decide) (by have nc4 := Ne.symm (gne (w := 0) c4 rfl); have nc6 := Ne.symm (gne (w := 1) c6 rfl); simp [Op.lookupswitch.offset, nc4, nc6]) (by decide) ?_
      refine lv_aload_n hx hb dX10_fewest_56 rfl (lv_at hl 0 rfl) ?_
      refine lv_iconst (v := (nI 0)) hx hb dX10_fewest_57 (by decide) ?_
      obtain ⟨q8, hq8, h⟩ := gb_s h
      refine fw_viR (As := [.int (nI 0)]) (rest := []) ⟨hx, hb, hml, hown, hts⟩ (k_X3_pick l D cA ad tw hG q3 13 (gF10.2.2.2.2.1) (nI 0) q8 hq8) (cwV 1 hts gX10_fewest_X3_pick rfl rfl rfl hdV_X3_pick ⟨Nat.le_of_ble_eq_true rfl, Nat.le_of_ble_eq_true rfl⟩) (fw_preV gF10.2.2.2.2.1.1.1 gF10.2.2.2.2.1.1.2 rfl rfl hK hZ hP hS) rfl hl _ rfl (Nat.le_of_ble_eq_true rfl) hS dX10_fewest_58 ⟨Nat.zero_le _, Nat.zero_le _⟩ (fun H locs hP hS => ?_)
      exact fw_ireti hx hb hr hlocks (Option.some.inj h) hK hZ hP hS dX10_fewest_61
    · replace h := gif_f h c2
      refine lv_bipush (v := (-2)) hx hb dX10_fewest_9 (by decide) ?_
      exact fw_ireti hx hb hr hlocks (Option.some.inj h) hK hZ hP hS dX10_fewest_11
theorem in_X10_ends_X10 : ∀ w ∈ wsX100, w ∈ wsX10_ends := fun w h => List.mem_cons_of_mem _ (List.mem_append_left _ (List.mem_append_left _ (List.mem_append_right _ (h))))
theorem in_X10_ends_X5 : ∀ w ∈ wsX50, w ∈ wsX10_ends := fun w h => List.mem_cons_of_mem _ (List.mem_append_left _ (List.mem_append_right _ (h)))
theorem hdV_X10_ends : yX10_ends.cls = RX10 ∧ yX10_ends.cls ≠ "java/lang/invoke/MethodHandle" ∧ yX10_ends.cls ≠ "java/lang/invoke/VarHandle" ∧ (parseMethodDescriptor yX10_ends.desc).map (fun d => d.parameters.length) = some 3 := by decide +kernel
set_option maxHeartbeats 4000000 in
set_option maxRecDepth 100000 in
theorem k_X10_ends (l : Launch) (D : va_G) (cA : Nat → ClassId) (ad : Nat → Nat) (tw : Nat) (hG : gOk ad 315) (z : gS) (a1 : Int32) (a2 : Int32) (a3 : Int32) (res : Int32 × gS) (h : f_X10_ends a1 a2 a3 z = some res) : gMi l yX10_ends wsX10_ends (gRm 4 94) D cA ad tw shX 315 [.ref (ad 0), .int a1, .int a2, .int a3] z res := by
  refine Met.ofW (cc := cX10_ends) (maxL := 4) (ret := (some .int)) (by decide) rfl ?_
  intro p e s m args below meth c s₁ B hml hv
  obtain ⟨rfl, hP, hK, hZ⟩ := hv
  have hx := B.exec
  have hb := B.bytes
  have hr := B.returns
  have hts := atoms_spec (ws := wsX10_ends) B.pre
  have hown : s.vm.findClass RX10 = some m.cls := findClass_of_methodNamed B.named
  have hlocks := B.notSynchronized
  have hS : va_S (gA ad 315) s.heap s.heap [] := va_S.rf
  have hl := lv_entry ([.ref (ad 0), .int a1, .int a2, .int a3]) (n := 4) (Nat.le_of_ble_eq_true rfl)
  rw [lg_entry_eq]
  generalize (lg_sl ([.ref (ad 0), .int a1, .int a2, .int a3]) ++ List.replicate (4 - (lg_sl ([.ref (ad 0), .int a1, .int a2, .int a3])).length) Slot.unset).toArray = ls at hl ⊢
  have hl : lv_has ls 4 [(0, .ref (ad 0)), (1, .int a1), (2, .int a2), (3, .int a3)] := hl
  have j43 : ∀ (x1 : Int32) (x2 : Int32) (x3 : Int32) (z : gS) (H : Heap) (locs : List Loc) (ls : Array Slot), f_X10_ends_43 x1 x2 x3 z = some res → va_P D vwCl (gw cA ad shX 315 z) H → va_S (gA ad 315) s.heap H locs → lv_has ls 4 [(0, .ref (ad 0)), (1, .int x1), (2, .int x2), (3, .int x3)] → W p l e (headSpec wsX10_ends (gRm 4 94)).room s m ([.ref (ad 0), .int a1, .int a2, .int a3] : List Value).toArray below meth c H locs 0 0 (MQ below (va_Qi (fun r u => (r, u) = res) (gPr D cA ad tw shX 315) (gA ad 315)) ([.ref (ad 0), .int a1, .int a2, .int a3] : List Value).toArray s 0 0 (gA ad 315)) (F0 m 43 ls []) := by
    intro x1 x2 x3 z H locs ls h hP hS hl
    unfold f_X10_ends_43 at h
    refine lv_iload_n hx hb dX10_ends_43 rfl (lv_at hl 3 rfl) ?_
    refine lv_if_lt (tgt := 52) hx hb dX10_ends_44 (by decide) (fun c7 => ?_) (fun c7 => ?_)
    · replace h := gif_t h c7
      refine lv_bipush (v := (-2)) hx hb dX10_ends_52 (by decide) ?_
      exact fw_ireti hx hb hr hlocks (Option.some.inj h) hK hZ hP hS dX10_ends_54
    · replace h := gif_f h c7
      refine lv_iload_n hx hb dX10_ends_47 rfl (lv_at hl 3 rfl) ?_
      refine lv_iconst (v := (nI 2)) hx hb dX10_ends_48 (by decide) ?_
      refine lv_icmp_le (tgt := 55) hx hb dX10_ends_49 (by decide) (fun c8 => ?_) (fun c8 => ?_)
      · replace h := gif_t h c8
        refine lv_aload_n hx hb dX10_ends_55 rfl (lv_at hl 0 rfl) ?_
        refine fw_getr hx hb hts in_X10_ends_X10 hown hK hP gF10.1.1 gF10.1.2 rfl 4 (by decide) rfl (hts _ (List.mem_of_getElem? (i := 3) rfl)) rfl dX10_ends_56 ?_
        refine lv_aload_n hx hb dX10_ends_59 rfl (lv_at hl 0 rfl) ?_
        refine fw_getr hx hb hts in_X10_ends_X10 hown hK hP gF10.1.1 gF10.1.2 rfl 0 (by decide) rfl (hts _ (List.mem_of_getElem? (i := 1) rfl)) rfl dX10_ends_60 ?_
        refine lv_aload_n hx hb dX10_ends_63 rfl (lv_at hl 0 rfl) ?_
        refine fw_getr hx hb hts in_X10_ends_X10 hown hK hP gF10.1.1 gF10.1.2 rfl 0 (by decide) rfl (hts _ (List.mem_of_getElem? (i := 1) rfl)) rfl dX10_ends_64 ?_
        obtain ⟨q9, hq9, h⟩ := gb_s h
        refine fw_viR (As := []) (rest := [.ref (ad 1), .ref (ad 18)]) ⟨hx, hb, hml, hown, hts⟩ (k_X5_everybody l D cA ad tw hG z 1 (gF10.2.1) q9 hq9) (cwV 0 hts gX10_ends_X5_everybody rfl rfl rfl hdV_X5_everybody ⟨Nat.le_of_ble_eq_true rfl, Nat.le_of_ble_eq_true rfl⟩) (fw_preV gF10.2.1.1.1 gF10.2.1.1.2 rfl rfl hK hZ hP hS) rfl hl _ rfl (Nat.le_of_ble_eq_true rfl) hS dX10_ends_67 ⟨Nat.zero_le _, Nat.zero_le _⟩ (fun H locs hP hS => ?_)
        refine lv_aload_n hx hb dX10_ends_70 rfl (lv_at hl 0 rfl) ?_
        refine fw_getr hx hb hts in_X10_ends_X10 hown hK hP gF10.1.1 gF10.1.2 rfl 0 (by decide) rfl (hts _ (List.mem_of_getElem? (i := 1) rfl)) rfl dX10_ends_71 ?_
        obtain ⟨q10, hq10, h⟩ := gb_s h
        refine fw_viR (As := []) (rest := [.int q9, .ref (ad 1), .ref (ad 18)]) ⟨hx, hb, hml, hown, hts⟩ (k_X5_everything l D cA ad tw hG z 1 (gF10.2.1) q10 hq10) (cwV 0 hts gX10_ends_X5_everything rfl rfl rfl hdV_X5_everything ⟨Nat.le_of_ble_eq_true rfl, Nat.le_of_ble_eq_true rfl⟩) (fw_preV gF10.2.1.1.1 gF10.2.1.1.2 rfl rfl hK hZ hP hS) rfl hl _ rfl (Nat.le_of_ble_eq_true rfl) hS dX10_ends_74 ⟨Nat.zero_le _, Nat.zero_le _⟩ (fun H locs hP hS => ?_)
        refine lv_iload_n hx hb dX10_ends_77 rfl (lv_at hl 1 rfl) ?_
        refine lv_iload_n hx hb dX10_ends_78 rfl (lv_at hl 2 rfl) ?_
        obtain ⟨q11, hq11, h⟩ := gb_s h
        refine fw_vv (As := [.ref (ad 1), .int q9, .int q10, .int x1, .int x2]) (rest := []) ⟨hx, hb, hml, hown, hts⟩ (k_X3_make l D cA ad tw hG z 18 (gF10.2.2.2.2.2.1) 1 (gF10.2.1) q9 q10 x1 x2 q11 hq11) (cwV 5 hts gX10_ends_X3_make rfl rfl rfl hdV_X3_make ⟨Nat.le_of_ble_eq_true rfl, Nat.le_of_ble_eq_true rfl⟩) (fw_preV gF10.2.2.2.2.2.1.1.1 gF10.2.2.2.2.2.1.1.2 rfl rfl hK hZ hP hS) rfl hl _ rfl (Nat.le_of_ble_eq_true rfl) hS dX10_ends_79 ⟨Nat.zero_le _, Nat.zero_le _⟩ (fun H locs hP hS => ?_)
        refine lv_iload_n hx hb dX10_ends_82 rfl (lv_at hl 3 rfl) ?_
        by_cases c12 : x3 = (nI 0)
        · replace h := gif_t h c12
          refine lv_lookup (tgt := 108) (off := 25) hx hb dX10_ends_83 (by decide) (by rw [c12] <;> rfl) (by decide) ?_
          refine lv_aload_n hx hb dX10_ends_108 rfl (lv_at hl 0 rfl) ?_
          refine fw_getr hx hb hts in_X10_ends_X10 hown hK hP gF10.1.1 gF10.1.2 rfl 4 (by decide) rfl (hts _ (List.mem_of_getElem? (i := 3) rfl)) rfl dX10_ends_109 ?_
          obtain ⟨q13, hq13, h⟩ := gb_s h
          refine fw_viR (As := []) (rest := []) ⟨hx, hb, hml, hown, hts⟩ (k_X3_smoothOrders l D cA ad tw hG q11 18 (gF10.2.2.2.2.2.1) q13 hq13) (cwV 0 hts gX10_ends_X3_smoothOrders rfl rfl rfl hdV_X3_smoothOrders ⟨Nat.le_of_ble_eq_true rfl, Nat.le_of_ble_eq_true rfl⟩) (fw_preV gF10.2.2.2.2.2.1.1.1 gF10.2.2.2.2.2.1.1.2 rfl rfl hK hZ hP hS) rfl hl _ rfl (Nat.le_of_ble_eq_true rfl) hS dX10_ends_112 ⟨Nat.zero_le _, Nat.zero_le _⟩ (fun H locs hP hS => ?_)
          exact fw_ireti hx hb hr hlocks (Option.some.inj h) hK hZ hP hS dX10_ends_115
        replace h := gif_f h c12
        by_cases c14 : x3 = (nI 1)
        · replace h := gif_t h c14
          refine lv_lookup (tgt := 116) (off := 33) hx hb dX10_ends_83 (by decide) (by rw [c14] <;> rfl) (by decide) ?_
          refine lv_aload_n hx hb dX10_ends_116 rfl (lv_at hl 0 rfl) ?_
          refine fw_getr hx hb hts in_X10_ends_X10 hown hK hP gF10.1.1 gF10.1.2 rfl 4 (by decide) rfl (hts _ (List.mem_of_getElem? (i := 3) rfl)) rfl dX10_ends_117 ?_
          obtain ⟨q15, hq15, h⟩ := gb_s h
          refine fw_viR (As := []) (rest := []) ⟨hx, hb, hml, hown, hts⟩ (k_X3_least l D cA ad tw hG q11 18 (gF10.2.2.2.2.2.1) q15 hq15) (cwV 0 hts gX10_ends_X3_least rfl rfl rfl hdV_X3_least ⟨Nat.le_of_ble_eq_true rfl, Nat.le_of_ble_eq_true rfl⟩) (fw_preV gF10.2.2.2.2.2.1.1.1 gF10.2.2.2.2.2.1.1.2 rfl rfl hK hZ hP hS) rfl hl _ rfl (Nat.le_of_ble_eq_true rfl) hS dX10_ends_120 ⟨Nat.zero_le _, Nat.zero_le _⟩ (fun H locs hP hS => ?_)
          exact fw_ireti hx hb hr hlocks (Option.some.inj h) hK hZ hP hS dX10_ends_123
        replace h := gif_f h c14
        refine lv_lookup (tgt := 124) (off := 41) hx hb dX10_ends_83 (by decide) (by have nc12 := Ne.symm (gne (w := 0) c12 rfl); have nc14 := Ne.symm (gne (w := 1) c14 rfl); simp [Op.lookupswitch.offset, nc12, nc14]) (by decide) ?_
        refine lv_aload_n hx hb dX10_ends_124 rfl (lv_at hl 0 rfl) ?_
        refine fw_getr hx hb hts in_X10_ends_X10 hown hK hP gF10.1.1 gF10.1.2 rfl 4 (by decide) rfl (hts _ (List.mem_of_getElem? (i := 3) rfl)) rfl dX10_ends_125 ?_
        refine lv_iconst (v := (nI 0)) hx hb dX10_ends_128 (by decide) ?_
        obtain ⟨q16, hq16, h⟩ := gb_s h
        refine fw_viR (As := [.int (nI 0)]) (rest := []) ⟨hx, hb, hml, hown, hts⟩ (k_X3_pick l D cA ad tw hG q11 18 (gF10.2.2.2.2.2.1) (nI 0) q16 hq16) (cwV 1 hts gX10_ends_X3_pick rfl rfl rfl hdV_X3_pick ⟨Nat.le_of_ble_eq_true rfl, Nat.le_of_ble_eq_true rfl⟩) (fw_preV gF10.2.2.2.2.2.1.1.1 gF10.2.2.2.2.2.1.1.2 rfl rfl hK hZ hP hS) rfl hl _ rfl (Nat.le_of_ble_eq_true rfl) hS dX10_ends_129 ⟨Nat.zero_le _, Nat.zero_le _⟩ (fun H locs hP hS => ?_)
        exact fw_ireti hx hb hr hlocks (Option.some.inj h) hK hZ hP hS dX10_ends_132
      · replace h := gif_f h c8
        refine lv_bipush (v := (-2)) hx hb dX10_ends_52 (by decide) ?_
        exact fw_ireti hx hb hr hlocks (Option.some.inj h) hK hZ hP hS dX10_ends_54
  unfold f_X10_ends at h
  refine lv_aload_n hx hb dX10_ends_0 rfl (lv_at hl 0 rfl) ?_
  refine fw_getr hx hb hts in_X10_ends_X10 hown hK hP gF10.1.1 gF10.1.2 rfl 0 (by decide) rfl (hts _ (List.mem_of_getElem? (i := 1) rfl)) rfl dX10_ends_1 ?_
  refine lv_iload_n hx hb dX10_ends_4 rfl (lv_at hl 1 rfl) ?_
  obtain ⟨q1, hq1, h⟩ := gb_s h
  refine fw_viR (As := [.int a1]) (rest := []) ⟨hx, hb, hml, hown, hts⟩ (k_X5_holds l D cA ad tw hG z 1 (gF10.2.1) a1 q1 hq1) (cwV 1 hts gX10_ends_X5_holds rfl rfl rfl hdV_X5_holds ⟨Nat.le_of_ble_eq_true rfl, Nat.le_of_ble_eq_true rfl⟩) (fw_preV gF10.2.1.1.1 gF10.2.1.1.2 rfl rfl hK hZ hP hS) rfl hl _ rfl (Nat.le_of_ble_eq_true rfl) hS dX10_ends_5 ⟨Nat.zero_le _, Nat.zero_le _⟩ (fun H locs hP hS => ?_)
  refine lv_if_eq (tgt := 22) hx hb dX10_ends_8 (by decide) (fun c2 => ?_) (fun c2 => ?_)
  · replace h := gif_t h c2
    refine lv_iconst (v := gm1) hx hb dX10_ends_22 (by decide) ?_
    exact fw_ireti hx hb hr hlocks (Option.some.inj h) hK hZ hP hS dX10_ends_23
  · replace h := gif_f h c2
    refine lv_aload_n hx hb dX10_ends_11 rfl (lv_at hl 0 rfl) ?_
    refine fw_getr hx hb hts in_X10_ends_X10 hown hK hP gF10.1.1 gF10.1.2 rfl 0 (by decide) rfl (hts _ (List.mem_of_getElem? (i := 1) rfl)) rfl dX10_ends_12 ?_
    refine lv_iload_n hx hb dX10_ends_15 rfl (lv_at hl 2 rfl) ?_
    obtain ⟨q3, hq3, h⟩ := gb_s h
    refine fw_viR (As := [.int a2]) (rest := []) ⟨hx, hb, hml, hown, hts⟩ (k_X5_holds l D cA ad tw hG z 1 (gF10.2.1) a2 q3 hq3) (cwV 1 hts gX10_ends_X5_holds rfl rfl rfl hdV_X5_holds ⟨Nat.le_of_ble_eq_true rfl, Nat.le_of_ble_eq_true rfl⟩) (fw_preV gF10.2.1.1.1 gF10.2.1.1.2 rfl rfl hK hZ hP hS) rfl hl _ rfl (Nat.le_of_ble_eq_true rfl) hS dX10_ends_16 ⟨Nat.zero_le _, Nat.zero_le _⟩ (fun H locs hP hS => ?_)
    refine lv_if_ne (tgt := 24) hx hb dX10_ends_19 (by decide) (fun c4 => ?_) (fun c4 => ?_)
    · replace h := gif_f h c4
      refine lv_iload_n hx hb dX10_ends_24 rfl (lv_at hl 1 rfl) ?_
      refine lv_iload_n hx hb dX10_ends_25 rfl (lv_at hl 2 rfl) ?_
      refine lv_icmp_ne (tgt := 43) hx hb dX10_ends_26 (by decide) (fun c5 => ?_) (fun c5 => ?_)
      · replace h := gif_f h c5
        exact j43 a1 a2 a3 z _ _ ls h hP hS (lv_sub hl [0, 1, 2, 3] rfl)
      · replace h := gif_t h c5
        refine lv_aload_n hx hb dX10_ends_29 rfl (lv_at hl 0 rfl) ?_
        refine fw_getr hx hb hts in_X10_ends_X10 hown hK hP gF10.1.1 gF10.1.2 rfl 0 (by decide) rfl (hts _ (List.mem_of_getElem? (i := 1) rfl)) rfl dX10_ends_30 ?_
        refine fw_geti hx hb hts in_X10_ends_X5 hown hK hP gF10.2.1.1.1 gF10.2.1.1.2 rfl 0 (by decide) rfl (hts _ (List.mem_of_getElem? (i := 2) rfl)) rfl dX10_ends_33 ?_
        refine lv_iconst (v := (nI 1)) hx hb dX10_ends_36 (by decide) ?_
        refine lv_icmp_le (tgt := 43) hx hb dX10_ends_37 (by decide) (fun c6 => ?_) (fun c6 => ?_)
        · replace h := gif_t h c6
          exact j43 a1 a2 a3 z _ _ ls h hP hS (lv_sub hl [0, 1, 2, 3] rfl)
        · replace h := gif_f h c6
          refine lv_bipush (v := (-5)) hx hb dX10_ends_40 (by decide) ?_
          exact fw_ireti hx hb hr hlocks (Option.some.inj h) hK hZ hP hS dX10_ends_42
    · replace h := gif_t h c4
      refine lv_iconst (v := gm1) hx hb dX10_ends_22 (by decide) ?_
      exact fw_ireti hx hb hr hlocks (Option.some.inj h) hK hZ hP hS dX10_ends_23
theorem in_X10_readyTree_X10 : ∀ w ∈ wsX100, w ∈ wsX10_readyTree := fun w h => List.mem_cons_of_mem _ (List.mem_append_left _ (List.mem_append_left _ (List.mem_append_left _ (List.mem_append_right _ (h)))))
theorem hdV_X10_readyTree : yX10_readyTree.cls = RX10 ∧ yX10_readyTree.cls ≠ "java/lang/invoke/MethodHandle" ∧ yX10_readyTree.cls ≠ "java/lang/invoke/VarHandle" ∧ (parseMethodDescriptor yX10_readyTree.desc).map (fun d => d.parameters.length) = some 0 := by decide +kernel
set_option maxHeartbeats 4000000 in
set_option maxRecDepth 100000 in
theorem k_X10_readyTree (l : Launch) (D : va_G) (cA : Nat → ClassId) (ad : Nat → Nat) (tw : Nat) (hG : gOk ad 315) (z : gS)  (res : gS) (h : f_X10_readyTree  z = some res) : gMr l yX10_readyTree wsX10_readyTree (gRm 5 114) D cA ad tw shX 315 [.ref (ad 0)] z 283 res := by
  refine Met.ofW (cc := cX10_readyTree) (maxL := 1) (ret := (some (.object "FindOrder$Tree"))) (by decide) rfl ?_
  intro p e s m args below meth c s₁ B hml hv
  obtain ⟨rfl, hP, hK, hZ⟩ := hv
  have hx := B.exec
  have hb := B.bytes
  have hr := B.returns
  have hts := atoms_spec (ws := wsX10_readyTree) B.pre
  have hown : s.vm.findClass RX10 = some m.cls := findClass_of_methodNamed B.named
  have hlocks := B.notSynchronized
  have hS : va_S (gA ad 315) s.heap s.heap [] := va_S.rf
  have hl := lv_entry ([.ref (ad 0)]) (n := 1) (Nat.le_of_ble_eq_true rfl)
  rw [lg_entry_eq]
  generalize (lg_sl ([.ref (ad 0)]) ++ List.replicate (1 - (lg_sl ([.ref (ad 0)])).length) Slot.unset).toArray = ls at hl ⊢
  have hl : lv_has ls 1 [(0, .ref (ad 0))] := hl
  unfold f_X10_readyTree at h
  refine lv_aload_n hx hb dX10_readyTree_0 rfl (lv_at hl 0 rfl) ?_
  refine fw_geti hx hb hts in_X10_readyTree_X10 hown hK hP gF10.1.1 gF10.1.2 rfl 16 (by decide) rfl (hts _ (List.mem_of_getElem? (i := 1) rfl)) rfl dX10_readyTree_1 ?_
  refine lv_if_ne (tgt := 23) hx hb dX10_readyTree_4 (by decide) (fun c1 => ?_) (fun c1 => ?_)
  · replace h := gif_f h c1
    refine lv_aload_n hx hb dX10_readyTree_23 rfl (lv_at hl 0 rfl) ?_
    refine fw_getr hx hb hts in_X10_readyTree_X10 hown hK hP gF10.1.1 gF10.1.2 rfl 7 (by decide) rfl (hts _ (List.mem_of_getElem? (i := 2) rfl)) rfl dX10_readyTree_24 ?_
    exact fw_aret hx hb hr hlocks (Option.some.inj h) hK hZ hP hS dX10_readyTree_27
  · replace h := gif_t h c1
    refine lv_aload_n hx hb dX10_readyTree_7 rfl (lv_at hl 0 rfl) ?_
    refine fw_getr hx hb hts in_X10_readyTree_X10 hown hK hP gF10.1.1 gF10.1.2 rfl 7 (by decide) rfl (hts _ (List.mem_of_getElem? (i := 2) rfl)) rfl dX10_readyTree_8 ?_
    refine lv_aload_n hx hb dX10_readyTree_11 rfl (lv_at hl 0 rfl) ?_
    obtain ⟨q2, hq2, h⟩ := gb_s h
    refine fw_vr (As := []) (rest := [.ref (ad 283)]) ⟨hx, hb, hml, hown, hts⟩ (k_X10_readyPlan l D cA ad tw hG z  q2 hq2) (cwV 0 hts gX10_readyTree_X10_readyPlan rfl rfl rfl hdV_X10_readyPlan ⟨Nat.le_of_ble_eq_true rfl, Nat.le_of_ble_eq_true rfl⟩) (fw_preV gF10.1.1 gF10.1.2 rfl rfl hK hZ hP hS) rfl hl _ rfl (Nat.le_of_ble_eq_true rfl) hS dX10_readyTree_12 ⟨Nat.zero_le _, Nat.zero_le _⟩ (fun H locs hP hS => ?_)
    obtain ⟨q3, hq3, h⟩ := gb_s h
    refine fw_vv (As := [.ref (ad 13)]) (rest := []) ⟨hx, hb, hml, hown, hts⟩ (k_X9_make l D cA ad tw hG q2 283 (gF10.2.2.2.2.2.2.2.2.1) 13 (gF10.2.2.2.2.1) q3 hq3) (cwV 1 hts gX10_readyTree_X9_make rfl rfl rfl hdV_X9_make ⟨Nat.le_of_ble_eq_true rfl, Nat.le_of_ble_eq_true rfl⟩) (fw_preV gF10.2.2.2.2.2.2.2.2.1.1.1 gF10.2.2.2.2.2.2.2.2.1.1.2 rfl rfl hK hZ hP hS) rfl hl _ rfl (Nat.le_of_ble_eq_true rfl) hS dX10_readyTree_15 ⟨Nat.zero_le _, Nat.zero_le _⟩ (fun H locs hP hS => ?_)
    refine lv_aload_n hx hb dX10_readyTree_18 rfl (lv_at hl 0 rfl) ?_
    refine lv_iconst (v := (nI 1)) hx hb dX10_readyTree_19 (by decide) ?_
    refine fw_put hx hb hts in_X10_readyTree_X10 tyX10_ok nmX10 hown hK hG hP hS gF10.1.1 gF10.1.2 rfl 16 (by decide) rfl (hts _ (List.mem_of_getElem? (i := 1) rfl)) rfl rfl (ty := .boolean) rfl rfl rfl dX10_readyTree_20 (fun z4 H locs ez4 hP hS => ?_)
    replace h := gl_s h ez4
    refine lv_aload_n hx hb dX10_readyTree_23 rfl (lv_at hl 0 rfl) ?_
    refine fw_getr hx hb hts in_X10_readyTree_X10 hown hK hP gF10.1.1 gF10.1.2 rfl 7 (by decide) rfl (hts _ (List.mem_of_getElem? (i := 2) rfl)) rfl dX10_readyTree_24 ?_
    exact fw_aret hx hb hr hlocks (Option.some.inj h) hK hZ hP hS dX10_readyTree_27
theorem in_X10_clusters_X9 : ∀ w ∈ wsX90, w ∈ wsX10_clusters := fun w h => List.mem_cons_of_mem _ (List.mem_append_left _ (List.mem_append_left _ (List.mem_append_left _ (List.mem_append_right _ (h)))))
theorem hdV_X10_clusters : yX10_clusters.cls = RX10 ∧ yX10_clusters.cls ≠ "java/lang/invoke/MethodHandle" ∧ yX10_clusters.cls ≠ "java/lang/invoke/VarHandle" ∧ (parseMethodDescriptor yX10_clusters.desc).map (fun d => d.parameters.length) = some 0 := by decide +kernel
set_option maxHeartbeats 4000000 in
set_option maxRecDepth 100000 in
theorem k_X10_clusters (l : Launch) (D : va_G) (cA : Nat → ClassId) (ad : Nat → Nat) (tw : Nat) (hG : gOk ad 315) (z : gS)  (res : Int32 × gS) (h : f_X10_clusters  z = some res) : gMi l yX10_clusters wsX10_clusters (gRm 6 134) D cA ad tw shX 315 [.ref (ad 0)] z res := by
  refine Met.ofW (cc := cX10_clusters) (maxL := 1) (ret := (some .int)) (by decide) rfl ?_
  intro p e s m args below meth c s₁ B hml hv
  obtain ⟨rfl, hP, hK, hZ⟩ := hv
  have hx := B.exec
  have hb := B.bytes
  have hr := B.returns
  have hts := atoms_spec (ws := wsX10_clusters) B.pre
  have hown : s.vm.findClass RX10 = some m.cls := findClass_of_methodNamed B.named
  have hlocks := B.notSynchronized
  have hS : va_S (gA ad 315) s.heap s.heap [] := va_S.rf
  have hl := lv_entry ([.ref (ad 0)]) (n := 1) (Nat.le_of_ble_eq_true rfl)
  rw [lg_entry_eq]
  generalize (lg_sl ([.ref (ad 0)]) ++ List.replicate (1 - (lg_sl ([.ref (ad 0)])).length) Slot.unset).toArray = ls at hl ⊢
  have hl : lv_has ls 1 [(0, .ref (ad 0))] := hl
  unfold f_X10_clusters at h
  refine lv_aload_n hx hb dX10_clusters_0 rfl (lv_at hl 0 rfl) ?_
  obtain ⟨q1, hq1, h⟩ := gb_s h
  refine fw_vr (As := []) (rest := []) ⟨hx, hb, hml, hown, hts⟩ (k_X10_readyPlan l D cA ad tw hG z  q1 hq1) (cwV 0 hts gX10_clusters_X10_readyPlan rfl rfl rfl hdV_X10_readyPlan ⟨Nat.le_of_ble_eq_true rfl, Nat.le_of_ble_eq_true rfl⟩) (fw_preV gF10.1.1 gF10.1.2 rfl rfl hK hZ hP hS) rfl hl _ rfl (Nat.le_of_ble_eq_true rfl) hS dX10_clusters_1 ⟨Nat.zero_le _, Nat.zero_le _⟩ (fun H locs hP hS => ?_)
  obtain ⟨q2, hq2, h⟩ := gb_s h
  refine fw_viR (As := []) (rest := []) ⟨hx, hb, hml, hown, hts⟩ (k_X3_least l D cA ad tw hG q1 13 (gF10.2.2.2.2.1) q2 hq2) (cwV 0 hts gX10_clusters_X3_least rfl rfl rfl hdV_X3_least ⟨Nat.le_of_ble_eq_true rfl, Nat.le_of_ble_eq_true rfl⟩) (fw_preV gF10.2.2.2.2.1.1.1 gF10.2.2.2.2.1.1.2 rfl rfl hK hZ hP hS) rfl hl _ rfl (Nat.le_of_ble_eq_true rfl) hS dX10_clusters_4 ⟨Nat.zero_le _, Nat.zero_le _⟩ (fun H locs hP hS => ?_)
  refine lv_if_eq (tgt := 15) hx hb dX10_clusters_7 (by decide) (fun c3 => ?_) (fun c3 => ?_)
  · replace h := gif_t h c3
    refine lv_aload_n hx hb dX10_clusters_15 rfl (lv_at hl 0 rfl) ?_
    obtain ⟨q4, hq4, h⟩ := gb_s h
    refine fw_vr (As := []) (rest := []) ⟨hx, hb, hml, hown, hts⟩ (k_X10_readyTree l D cA ad tw hG q1  q4 hq4) (cwV 0 hts gX10_clusters_X10_readyTree rfl rfl rfl hdV_X10_readyTree ⟨Nat.le_of_ble_eq_true rfl, Nat.le_of_ble_eq_true rfl⟩) (fw_preV gF10.1.1 gF10.1.2 rfl rfl hK hZ hP hS) rfl hl _ rfl (Nat.le_of_ble_eq_true rfl) hS dX10_clusters_16 ⟨Nat.zero_le _, Nat.zero_le _⟩ (fun H locs hP hS => ?_)
    refine fw_geti hx hb hts in_X10_clusters_X9 hown hK hP gF10.2.2.2.2.2.2.2.2.1.1.1 gF10.2.2.2.2.2.2.2.2.1.1.2 rfl 3 (by decide) rfl (hts _ (List.mem_of_getElem? (i := 1) rfl)) rfl dX10_clusters_19 ?_
    exact fw_ireti hx hb hr hlocks (Option.some.inj h) hK hZ hP hS dX10_clusters_22
  · replace h := gif_f h c3
    refine lv_bipush (v := (-3)) hx hb dX10_clusters_10 (by decide) ?_
    refine lv_goto (tgt := 22) hx hb dX10_clusters_12 (by decide) ?_
    exact fw_ireti hx hb hr hlocks (Option.some.inj h) hK hZ hP hS dX10_clusters_22
theorem in_X10_knots_X9 : ∀ w ∈ wsX90, w ∈ wsX10_knots := fun w h => List.mem_cons_of_mem _ (List.mem_append_left _ (List.mem_append_left _ (List.mem_append_left _ (List.mem_append_right _ (h)))))
theorem hdV_X10_knots : yX10_knots.cls = RX10 ∧ yX10_knots.cls ≠ "java/lang/invoke/MethodHandle" ∧ yX10_knots.cls ≠ "java/lang/invoke/VarHandle" ∧ (parseMethodDescriptor yX10_knots.desc).map (fun d => d.parameters.length) = some 1 := by decide +kernel
set_option maxHeartbeats 4000000 in
set_option maxRecDepth 100000 in
theorem k_X10_knots (l : Launch) (D : va_G) (cA : Nat → ClassId) (ad : Nat → Nat) (tw : Nat) (hG : gOk ad 315) (z : gS) (a1 : Int32) (res : Int32 × gS) (h : f_X10_knots a1 z = some res) : gMi l yX10_knots wsX10_knots (gRm 6 134) D cA ad tw shX 315 [.ref (ad 0), .int a1] z res := by
  refine Met.ofW (cc := cX10_knots) (maxL := 3) (ret := (some .int)) (by decide) rfl ?_
  intro p e s m args below meth c s₁ B hml hv
  obtain ⟨rfl, hP, hK, hZ⟩ := hv
  have hx := B.exec
  have hb := B.bytes
  have hr := B.returns
  have hts := atoms_spec (ws := wsX10_knots) B.pre
  have hown : s.vm.findClass RX10 = some m.cls := findClass_of_methodNamed B.named
  have hlocks := B.notSynchronized
  have hS : va_S (gA ad 315) s.heap s.heap [] := va_S.rf
  have hl := lv_entry ([.ref (ad 0), .int a1]) (n := 3) (Nat.le_of_ble_eq_true rfl)
  rw [lg_entry_eq]
  generalize (lg_sl ([.ref (ad 0), .int a1]) ++ List.replicate (3 - (lg_sl ([.ref (ad 0), .int a1])).length) Slot.unset).toArray = ls at hl ⊢
  have hl : lv_has ls 3 [(0, .ref (ad 0)), (1, .int a1)] := hl
  unfold f_X10_knots at h
  refine lv_iload_n hx hb dX10_knots_0 rfl (lv_at hl 1 rfl) ?_
  refine lv_if_lt (tgt := 9) hx hb dX10_knots_1 (by decide) (fun c1 => ?_) (fun c1 => ?_)
  · replace h := gif_t h c1
    refine lv_bipush (v := (-2)) hx hb dX10_knots_9 (by decide) ?_
    exact fw_ireti hx hb hr hlocks (Option.some.inj h) hK hZ hP hS dX10_knots_11
  · replace h := gif_f h c1
    refine lv_iload_n hx hb dX10_knots_4 rfl (lv_at hl 1 rfl) ?_
    refine lv_iconst (v := (nI 2)) hx hb dX10_knots_5 (by decide) ?_
    refine lv_icmp_le (tgt := 12) hx hb dX10_knots_6 (by decide) (fun c2 => ?_) (fun c2 => ?_)
    · replace h := gif_t h c2
      refine lv_aload_n hx hb dX10_knots_12 rfl (lv_at hl 0 rfl) ?_
      obtain ⟨q3, hq3, h⟩ := gb_s h
      refine fw_vr (As := []) (rest := []) ⟨hx, hb, hml, hown, hts⟩ (k_X10_readyPlan l D cA ad tw hG z  q3 hq3) (cwV 0 hts gX10_knots_X10_readyPlan rfl rfl rfl hdV_X10_readyPlan ⟨Nat.le_of_ble_eq_true rfl, Nat.le_of_ble_eq_true rfl⟩) (fw_preV gF10.1.1 gF10.1.2 rfl rfl hK hZ hP hS) rfl hl _ rfl (Nat.le_of_ble_eq_true rfl) hS dX10_knots_13 ⟨Nat.zero_le _, Nat.zero_le _⟩ (fun H locs hP hS => ?_)
      obtain ⟨q4, hq4, h⟩ := gb_s h
      refine fw_viR (As := []) (rest := []) ⟨hx, hb, hml, hown, hts⟩ (k_X3_least l D cA ad tw hG q3 13 (gF10.2.2.2.2.1) q4 hq4) (cwV 0 hts gX10_knots_X3_least rfl rfl rfl hdV_X3_least ⟨Nat.le_of_ble_eq_true rfl, Nat.le_of_ble_eq_true rfl⟩) (fw_preV gF10.2.2.2.2.1.1.1 gF10.2.2.2.2.1.1.2 rfl rfl hK hZ hP hS) rfl hl _ rfl (Nat.le_of_ble_eq_true rfl) hS dX10_knots_16 ⟨Nat.zero_le _, Nat.zero_le _⟩ (fun H locs hP hS => ?_)
      refine lv_if_eq (tgt := 25) hx hb dX10_knots_19 (by decide) (fun c5 => ?_) (fun c5 => ?_)
      · replace h := gif_t h c5
        refine lv_aload_n hx hb dX10_knots_25 rfl (lv_at hl 0 rfl) ?_
        obtain ⟨q6, hq6, h⟩ := gb_s h
        refine fw_vr (As := []) (rest := []) ⟨hx, hb, hml, hown, hts⟩ (k_X10_readyTree l D cA ad tw hG q3  q6 hq6) (cwV 0 hts gX10_knots_X10_readyTree rfl rfl rfl hdV_X10_readyTree ⟨Nat.le_of_ble_eq_true rfl, Nat.le_of_ble_eq_true rfl⟩) (fw_preV gF10.1.1 gF10.1.2 rfl rfl hK hZ hP hS) rfl hl _ rfl (Nat.le_of_ble_eq_true rfl) hS dX10_knots_26 ⟨Nat.zero_le _, Nat.zero_le _⟩ (fun H locs hP hS => ?_)
        refine lv_astore_n (lv' := [(2, .ref (ad 283)), (0, .ref (ad 0)), (1, .int a1)]) hx hb dX10_knots_29 rfl hl (by decide) rfl (fun ls hl => ?_)
        refine lv_iload_n hx hb dX10_knots_30 rfl (lv_at hl 2 rfl) ?_
        refine lv_if_ne (tgt := 41) hx hb dX10_knots_31 (by decide) (fun c7 => ?_) (fun c7 => ?_)
        · replace h := gif_f h c7
          refine lv_aload_n hx hb dX10_knots_41 rfl (lv_at hl 0 rfl) ?_
          refine lv_iload_n hx hb dX10_knots_42 rfl (lv_at hl 2 rfl) ?_
          refine lv_iconst (v := (nI 1)) hx hb dX10_knots_43 (by decide) ?_
          refine lv_icmp_ne (tgt := 51) hx hb dX10_knots_44 (by decide) (fun c8 => ?_) (fun c8 => ?_)
          · replace h := gif_f h c8
            refine lv_iconst (v := (nI 2)) hx hb dX10_knots_51 (by decide) ?_
            obtain ⟨q9, hq9, h⟩ := gb_s h
            refine fw_viR (As := [.int (nI 2)]) (rest := []) ⟨hx, hb, hml, hown, hts⟩ (k_X9_ofSort l D cA ad tw hG q6 283 (gF10.2.2.2.2.2.2.2.2.1) (nI 2) q9 hq9) (cwV 1 hts gX10_knots_X9_ofSort rfl rfl rfl hdV_X9_ofSort ⟨Nat.le_of_ble_eq_true rfl, Nat.le_of_ble_eq_true rfl⟩) (fw_preV gF10.2.2.2.2.2.2.2.2.1.1.1 gF10.2.2.2.2.2.2.2.2.1.1.2 rfl rfl hK hZ hP hS) rfl hl _ rfl (Nat.le_of_ble_eq_true rfl) hS dX10_knots_52 ⟨Nat.zero_le _, Nat.zero_le _⟩ (fun H locs hP hS => ?_)
            exact fw_ireti hx hb hr hlocks (Option.some.inj h) hK hZ hP hS dX10_knots_55
          · replace h := gif_t h c8
            refine lv_iconst (v := (nI 1)) hx hb dX10_knots_47 (by decide) ?_
            refine lv_goto (tgt := 52) hx hb dX10_knots_48 (by decide) ?_
            obtain ⟨q10, hq10, h⟩ := gb_s h
            refine fw_viR (As := [.int (nI 1)]) (rest := []) ⟨hx, hb, hml, hown, hts⟩ (k_X9_ofSort l D cA ad tw hG q6 283 (gF10.2.2.2.2.2.2.2.2.1) (nI 1) q10 hq10) (cwV 1 hts gX10_knots_X9_ofSort rfl rfl rfl hdV_X9_ofSort ⟨Nat.le_of_ble_eq_true rfl, Nat.le_of_ble_eq_true rfl⟩) (fw_preV gF10.2.2.2.2.2.2.2.2.1.1.1 gF10.2.2.2.2.2.2.2.2.1.1.2 rfl rfl hK hZ hP hS) rfl hl _ rfl (Nat.le_of_ble_eq_true rfl) hS dX10_knots_52 ⟨Nat.zero_le _, Nat.zero_le _⟩ (fun H locs hP hS => ?_)
            exact fw_ireti hx hb hr hlocks (Option.some.inj h) hK hZ hP hS dX10_knots_55
        · replace h := gif_t h c7
          refine lv_aload_n hx hb dX10_knots_34 rfl (lv_at hl 0 rfl) ?_
          refine fw_geti hx hb hts in_X10_knots_X9 hown hK hP gF10.2.2.2.2.2.2.2.2.1.1.1 gF10.2.2.2.2.2.2.2.2.1.1.2 rfl 4 (by decide) rfl (hts _ (List.mem_of_getElem? (i := 1) rfl)) rfl dX10_knots_35 ?_
          refine lv_goto (tgt := 55) hx hb dX10_knots_38 (by decide) ?_
          exact fw_ireti hx hb hr hlocks (Option.some.inj h) hK hZ hP hS dX10_knots_55
      · replace h := gif_f h c5
        refine lv_bipush (v := (-3)) hx hb dX10_knots_22 (by decide) ?_
        exact fw_ireti hx hb hr hlocks (Option.some.inj h) hK hZ hP hS dX10_knots_24
    · replace h := gif_f h c2
      refine lv_bipush (v := (-2)) hx hb dX10_knots_9 (by decide) ?_
      exact fw_ireti hx hb hr hlocks (Option.some.inj h) hK hZ hP hS dX10_knots_11
theorem in_X10_knot_X9 : ∀ w ∈ wsX90, w ∈ wsX10_knot := fun w h => List.mem_cons_of_mem _ (List.mem_append_left _ (List.mem_append_left _ (List.mem_append_left _ (List.mem_append_right _ (h)))))
theorem hdV_X10_knot : yX10_knot.cls = RX10 ∧ yX10_knot.cls ≠ "java/lang/invoke/MethodHandle" ∧ yX10_knot.cls ≠ "java/lang/invoke/VarHandle" ∧ (parseMethodDescriptor yX10_knot.desc).map (fun d => d.parameters.length) = some 2 := by decide +kernel
set_option maxHeartbeats 4000000 in
set_option maxRecDepth 100000 in
theorem k_X10_knot (l : Launch) (D : va_G) (cA : Nat → ClassId) (ad : Nat → Nat) (tw : Nat) (hG : gOk ad 315) (z : gS) (a1 : Int32) (a2 : Int32) (res : Int32 × gS) (h : f_X10_knot a1 a2 z = some res) : gMi l yX10_knot wsX10_knot (gRm 6 134) D cA ad tw shX 315 [.ref (ad 0), .int a1, .int a2] z res := by
  refine Met.ofW (cc := cX10_knot) (maxL := 4) (ret := (some .int)) (by decide) rfl ?_
  intro p e s m args below meth c s₁ B hml hv
  obtain ⟨rfl, hP, hK, hZ⟩ := hv
  have hx := B.exec
  have hb := B.bytes
  have hr := B.returns
  have hts := atoms_spec (ws := wsX10_knot) B.pre
  have hown : s.vm.findClass RX10 = some m.cls := findClass_of_methodNamed B.named
  have hlocks := B.notSynchronized
  have hS : va_S (gA ad 315) s.heap s.heap [] := va_S.rf
  have hl := lv_entry ([.ref (ad 0), .int a1, .int a2]) (n := 4) (Nat.le_of_ble_eq_true rfl)
  rw [lg_entry_eq]
  generalize (lg_sl ([.ref (ad 0), .int a1, .int a2]) ++ List.replicate (4 - (lg_sl ([.ref (ad 0), .int a1, .int a2])).length) Slot.unset).toArray = ls at hl ⊢
  have hl : lv_has ls 4 [(0, .ref (ad 0)), (1, .int a1), (2, .int a2)] := hl
  unfold f_X10_knot at h
  refine lv_aload_n hx hb dX10_knot_0 rfl (lv_at hl 0 rfl) ?_
  obtain ⟨q1, hq1, h⟩ := gb_s h
  refine fw_vr (As := []) (rest := []) ⟨hx, hb, hml, hown, hts⟩ (k_X10_readyPlan l D cA ad tw hG z  q1 hq1) (cwV 0 hts gX10_knot_X10_readyPlan rfl rfl rfl hdV_X10_readyPlan ⟨Nat.le_of_ble_eq_true rfl, Nat.le_of_ble_eq_true rfl⟩) (fw_preV gF10.1.1 gF10.1.2 rfl rfl hK hZ hP hS) rfl hl _ rfl (Nat.le_of_ble_eq_true rfl) hS dX10_knot_1 ⟨Nat.zero_le _, Nat.zero_le _⟩ (fun H locs hP hS => ?_)
  obtain ⟨q2, hq2, h⟩ := gb_s h
  refine fw_viR (As := []) (rest := []) ⟨hx, hb, hml, hown, hts⟩ (k_X3_least l D cA ad tw hG q1 13 (gF10.2.2.2.2.1) q2 hq2) (cwV 0 hts gX10_knot_X3_least rfl rfl rfl hdV_X3_least ⟨Nat.le_of_ble_eq_true rfl, Nat.le_of_ble_eq_true rfl⟩) (fw_preV gF10.2.2.2.2.1.1.1 gF10.2.2.2.2.1.1.2 rfl rfl hK hZ hP hS) rfl hl _ rfl (Nat.le_of_ble_eq_true rfl) hS dX10_knot_4 ⟨Nat.zero_le _, Nat.zero_le _⟩ (fun H locs hP hS => ?_)
  refine lv_if_eq (tgt := 13) hx hb dX10_knot_7 (by decide) (fun c3 => ?_) (fun c3 => ?_)
  · replace h := gif_t h c3
    refine lv_aload_n hx hb dX10_knot_13 rfl (lv_at hl 0 rfl) ?_
    obtain ⟨q4, hq4, h⟩ := gb_s h
    refine fw_vr (As := []) (rest := []) ⟨hx, hb, hml, hown, hts⟩ (k_X10_readyTree l D cA ad tw hG q1  q4 hq4) (cwV 0 hts gX10_knot_X10_readyTree rfl rfl rfl hdV_X10_readyTree ⟨Nat.le_of_ble_eq_true rfl, Nat.le_of_ble_eq_true rfl⟩) (fw_preV gF10.1.1 gF10.1.2 rfl rfl hK hZ hP hS) rfl hl _ rfl (Nat.le_of_ble_eq_true rfl) hS dX10_knot_14 ⟨Nat.zero_le _, Nat.zero_le _⟩ (fun H locs hP hS => ?_)
    refine lv_astore_n (lv' := [(3, .ref (ad 283)), (0, .ref (ad 0)), (1, .int a1), (2, .int a2)]) hx hb dX10_knot_17 rfl hl (by decide) rfl (fun ls hl => ?_)
    refine lv_iload_n hx hb dX10_knot_18 rfl (lv_at hl 2 rfl) ?_
    refine lv_if_lt (tgt := 30) hx hb dX10_knot_19 (by decide) (fun c5 => ?_) (fun c5 => ?_)
    · replace h := gif_t h c5
      refine lv_iconst (v := gm1) hx hb dX10_knot_30 (by decide) ?_
      exact fw_ireti hx hb hr hlocks (Option.some.inj h) hK hZ hP hS dX10_knot_31
    · replace h := gif_f h c5
      refine lv_iload_n hx hb dX10_knot_22 rfl (lv_at hl 2 rfl) ?_
      refine lv_aload_n hx hb dX10_knot_23 rfl (lv_at hl 0 rfl) ?_
      refine fw_geti hx hb hts in_X10_knot_X9 hown hK hP gF10.2.2.2.2.2.2.2.2.1.1.1 gF10.2.2.2.2.2.2.2.2.1.1.2 rfl 4 (by decide) rfl (hts _ (List.mem_of_getElem? (i := 1) rfl)) rfl dX10_knot_24 ?_
      refine lv_icmp_lt (tgt := 32) hx hb dX10_knot_27 (by decide) (fun c6 => ?_) (fun c6 => ?_)
      · replace h := gif_t h c6
        refine lv_iload_n hx hb dX10_knot_32 rfl (lv_at hl 3 rfl) ?_
        by_cases c7 : a2 = (nI 0)
        · replace h := gif_t h c7
          refine lv_tableIn (tgt := 68) hx hb dX10_knot_33 (by rw [c7]; decide) (by rw [c7]; decide) (by rw [c7]; rfl) (by decide) ?_
          refine lv_aload_n hx hb dX10_knot_68 rfl (lv_at hl 0 rfl) ?_
          refine fw_getr hx hb hts in_X10_knot_X9 hown hK hP gF10.2.2.2.2.2.2.2.2.1.1.1 gF10.2.2.2.2.2.2.2.2.1.1.2 rfl 5 (by decide) rfl (hts _ (List.mem_of_getElem? (i := 2) rfl)) rfl dX10_knot_69 ?_
          refine lv_iload_n hx hb dX10_knot_72 rfl (lv_at hl 2 rfl) ?_
          obtain ⟨h8, h⟩ := gg_s h
          refine fw_iald hx hb hK hP gF10.2.2.2.2.2.2.2.2.1.2.2.2.1.1 gF10.2.2.2.2.2.2.2.2.1.2.2.2.1.2 h8 dX10_knot_73 ?_
          exact fw_ireti hx hb hr hlocks (Option.some.inj h) hK hZ hP hS dX10_knot_74
        replace h := gif_f h c7
        by_cases c9 : a2 = (nI 1)
        · replace h := gif_t h c9
          refine lv_tableIn (tgt := 75) hx hb dX10_knot_33 (by rw [c9]; decide) (by rw [c9]; decide) (by rw [c9]; rfl) (by decide) ?_
          refine lv_aload_n hx hb dX10_knot_75 rfl (lv_at hl 0 rfl) ?_
          refine fw_getr hx hb hts in_X10_knot_X9 hown hK hP gF10.2.2.2.2.2.2.2.2.1.1.1 gF10.2.2.2.2.2.2.2.2.1.1.2 rfl 6 (by decide) rfl (hts _ (List.mem_of_getElem? (i := 3) rfl)) rfl dX10_knot_76 ?_
          refine lv_iload_n hx hb dX10_knot_79 rfl (lv_at hl 2 rfl) ?_
          obtain ⟨h10, h⟩ := gg_s h
          refine fw_iald hx hb hK hP gF10.2.2.2.2.2.2.2.2.1.2.2.2.2.1.1 gF10.2.2.2.2.2.2.2.2.1.2.2.2.2.1.2 h10 dX10_knot_80 ?_
          exact fw_ireti hx hb hr hlocks (Option.some.inj h) hK hZ hP hS dX10_knot_81
        replace h := gif_f h c9
        by_cases c11 : a2 = (nI 2)
        · replace h := gif_t h c11
          refine lv_tableIn (tgt := 110) hx hb dX10_knot_33 (by rw [c11]; decide) (by rw [c11]; decide) (by rw [c11]; rfl) (by decide) ?_
          refine lv_iconst (v := gm1) hx hb dX10_knot_110 (by decide) ?_
          exact fw_ireti hx hb hr hlocks (Option.some.inj h) hK hZ hP hS dX10_knot_111
        replace h := gif_f h c11
        by_cases c12 : a2 = (nI 3)
        · replace h := gif_t h c12
          refine lv_tableIn (tgt := 82) hx hb dX10_knot_33 (by rw [c12]; decide) (by rw [c12]; decide) (by rw [c12]; rfl) (by decide) ?_
          refine lv_aload_n hx hb dX10_knot_82 rfl (lv_at hl 0 rfl) ?_
          refine fw_getr hx hb hts in_X10_knot_X9 hown hK hP gF10.2.2.2.2.2.2.2.2.1.1.1 gF10.2.2.2.2.2.2.2.2.1.1.2 rfl 7 (by decide) rfl (hts _ (List.mem_of_getElem? (i := 4) rfl)) rfl dX10_knot_83 ?_
          refine lv_iload_n hx hb dX10_knot_86 rfl (lv_at hl 2 rfl) ?_
          obtain ⟨h13, h⟩ := gg_s h
          refine fw_iald hx hb hK hP gF10.2.2.2.2.2.2.2.2.1.2.2.2.2.2.1.1 gF10.2.2.2.2.2.2.2.2.1.2.2.2.2.2.1.2 h13 dX10_knot_87 ?_
          exact fw_ireti hx hb hr hlocks (Option.some.inj h) hK hZ hP hS dX10_knot_88
        replace h := gif_f h c12
        by_cases c14 : a2 = (nI 4)
        · replace h := gif_t h c14
          refine lv_tableIn (tgt := 89) hx hb dX10_knot_33 (by rw [c14]; decide) (by rw [c14]; decide) (by rw [c14]; rfl) (by decide) ?_
          refine lv_aload_n hx hb dX10_knot_89 rfl (lv_at hl 0 rfl) ?_
          refine fw_getr hx hb hts in_X10_knot_X9 hown hK hP gF10.2.2.2.2.2.2.2.2.1.1.1 gF10.2.2.2.2.2.2.2.2.1.1.2 rfl 8 (by decide) rfl (hts _ (List.mem_of_getElem? (i := 5) rfl)) rfl dX10_knot_90 ?_
          refine lv_iload_n hx hb dX10_knot_93 rfl (lv_at hl 2 rfl) ?_
          obtain ⟨h15, h⟩ := gg_s h
          refine fw_iald hx hb hK hP gF10.2.2.2.2.2.2.2.2.1.2.2.2.2.2.2.1 gF10.2.2.2.2.2.2.2.2.1.2.2.2.2.2.2.2 h15 dX10_knot_94 ?_
          refine lv_if_ge (tgt := 103) hx hb dX10_knot_95 (by decide) (fun c16 => ?_) (fun c16 => ?_)
          · replace h := gif_t h c16
            refine lv_aload_n hx hb dX10_knot_103 rfl (lv_at hl 0 rfl) ?_
            refine fw_getr hx hb hts in_X10_knot_X9 hown hK hP gF10.2.2.2.2.2.2.2.2.1.1.1 gF10.2.2.2.2.2.2.2.2.1.1.2 rfl 8 (by decide) rfl (hts _ (List.mem_of_getElem? (i := 5) rfl)) rfl dX10_knot_104 ?_
            refine lv_iload_n hx hb dX10_knot_107 rfl (lv_at hl 2 rfl) ?_
            obtain ⟨h17, h⟩ := gg_s h
            refine fw_iald hx hb hK hP gF10.2.2.2.2.2.2.2.2.1.2.2.2.2.2.2.1 gF10.2.2.2.2.2.2.2.2.1.2.2.2.2.2.2.2 h17 dX10_knot_108 ?_
            exact fw_ireti hx hb hr hlocks (Option.some.inj h) hK hZ hP hS dX10_knot_109
          · replace h := gif_f h c16
            refine lv_bipush (v := (-5)) hx hb dX10_knot_98 (by decide) ?_
            refine lv_goto (tgt := 109) hx hb dX10_knot_100 (by decide) ?_
            exact fw_ireti hx hb hr hlocks (Option.some.inj h) hK hZ hP hS dX10_knot_109
        replace h := gif_f h c14
        refine lv_tableOut (tgt := 110) hx hb dX10_knot_33 (by have nc7 := gne (w := 0) c7 rfl; have nc9 := gne (w := 1) c9 rfl; have nc11 := gne (w := 2) c11 rfl; have nc12 := gne (w := 3) c12 rfl; have nc14 := gne (w := 4) c14 rfl; omega) (by decide) ?_
        refine lv_iconst (v := gm1) hx hb dX10_knot_110 (by decide) ?_
        exact fw_ireti hx hb hr hlocks (Option.some.inj h) hK hZ hP hS dX10_knot_111
      · replace h := gif_f h c6
        refine lv_iconst (v := gm1) hx hb dX10_knot_30 (by decide) ?_
        exact fw_ireti hx hb hr hlocks (Option.some.inj h) hK hZ hP hS dX10_knot_31
  · replace h := gif_f h c3
    refine lv_bipush (v := (-3)) hx hb dX10_knot_10 (by decide) ?_
    exact fw_ireti hx hb hr hlocks (Option.some.inj h) hK hZ hP hS dX10_knot_12
theorem hdV_X10_told : yX10_told.cls = RX10 ∧ yX10_told.cls ≠ "java/lang/invoke/MethodHandle" ∧ yX10_told.cls ≠ "java/lang/invoke/VarHandle" ∧ (parseMethodDescriptor yX10_told.desc).map (fun d => d.parameters.length) = some 0 := by decide +kernel
set_option maxHeartbeats 4000000 in
set_option maxRecDepth 100000 in
theorem k_X10_told (l : Launch) (D : va_G) (cA : Nat → ClassId) (ad : Nat → Nat) (tw : Nat) (hG : gOk ad 315) (z : gS)  (res : Int64 × gS) (h : f_X10_told  z = some res) : gMl l yX10_told wsX10_told (gRm 6 134) D cA ad tw shX 315 [.ref (ad 0)] z res := by
  refine Met.ofW (cc := cX10_told) (maxL := 1) (ret := (some .long)) (by decide) rfl ?_
  intro p e s m args below meth c s₁ B hml hv
  obtain ⟨rfl, hP, hK, hZ⟩ := hv
  have hx := B.exec
  have hb := B.bytes
  have hr := B.returns
  have hts := atoms_spec (ws := wsX10_told) B.pre
  have hown : s.vm.findClass RX10 = some m.cls := findClass_of_methodNamed B.named
  have hlocks := B.notSynchronized
  have hS : va_S (gA ad 315) s.heap s.heap [] := va_S.rf
  have hl := lv_entry ([.ref (ad 0)]) (n := 1) (Nat.le_of_ble_eq_true rfl)
  rw [lg_entry_eq]
  generalize (lg_sl ([.ref (ad 0)]) ++ List.replicate (1 - (lg_sl ([.ref (ad 0)])).length) Slot.unset).toArray = ls at hl ⊢
  have hl : lv_has ls 1 [(0, .ref (ad 0))] := hl
  unfold f_X10_told at h
  refine lv_aload_n hx hb dX10_told_0 rfl (lv_at hl 0 rfl) ?_
  obtain ⟨q1, hq1, h⟩ := gb_s h
  refine fw_vr (As := []) (rest := []) ⟨hx, hb, hml, hown, hts⟩ (k_X10_readyPlan l D cA ad tw hG z  q1 hq1) (cwV 0 hts gX10_told_X10_readyPlan rfl rfl rfl hdV_X10_readyPlan ⟨Nat.le_of_ble_eq_true rfl, Nat.le_of_ble_eq_true rfl⟩) (fw_preV gF10.1.1 gF10.1.2 rfl rfl hK hZ hP hS) rfl hl _ rfl (Nat.le_of_ble_eq_true rfl) hS dX10_told_1 ⟨Nat.zero_le _, Nat.zero_le _⟩ (fun H locs hP hS => ?_)
  obtain ⟨q2, hq2, h⟩ := gb_s h
  refine fw_viR (As := []) (rest := []) ⟨hx, hb, hml, hown, hts⟩ (k_X3_least l D cA ad tw hG q1 13 (gF10.2.2.2.2.1) q2 hq2) (cwV 0 hts gX10_told_X3_least rfl rfl rfl hdV_X3_least ⟨Nat.le_of_ble_eq_true rfl, Nat.le_of_ble_eq_true rfl⟩) (fw_preV gF10.2.2.2.2.1.1.1 gF10.2.2.2.2.1.1.2 rfl rfl hK hZ hP hS) rfl hl _ rfl (Nat.le_of_ble_eq_true rfl) hS dX10_told_4 ⟨Nat.zero_le _, Nat.zero_le _⟩ (fun H locs hP hS => ?_)
  refine lv_if_eq (tgt := 16) hx hb dX10_told_7 (by decide) (fun c3 => ?_) (fun c3 => ?_)
  · replace h := gif_t h c3
    refine lv_aload_n hx hb dX10_told_16 rfl (lv_at hl 0 rfl) ?_
    obtain ⟨q4, hq4, h⟩ := gb_s h
    refine fw_vr (As := []) (rest := []) ⟨hx, hb, hml, hown, hts⟩ (k_X10_readyTree l D cA ad tw hG q1  q4 hq4) (cwV 0 hts gX10_told_X10_readyTree rfl rfl rfl hdV_X10_readyTree ⟨Nat.le_of_ble_eq_true rfl, Nat.le_of_ble_eq_true rfl⟩) (fw_preV gF10.1.1 gF10.1.2 rfl rfl hK hZ hP hS) rfl hl _ rfl (Nat.le_of_ble_eq_true rfl) hS dX10_told_17 ⟨Nat.zero_le _, Nat.zero_le _⟩ (fun H locs hP hS => ?_)
    obtain ⟨q5, hq5, h⟩ := gb_s h
    refine fw_vlR (As := []) (rest := []) ⟨hx, hb, hml, hown, hts⟩ (k_X9_product l D cA ad tw hG q4 283 (gF10.2.2.2.2.2.2.2.2.1) q5 hq5) (cwV 0 hts gX10_told_X9_product rfl rfl rfl hdV_X9_product ⟨Nat.le_of_ble_eq_true rfl, Nat.le_of_ble_eq_true rfl⟩) (fw_preV gF10.2.2.2.2.2.2.2.2.1.1.1 gF10.2.2.2.2.2.2.2.2.1.1.2 rfl rfl hK hZ hP hS) rfl hl _ rfl (Nat.le_of_ble_eq_true rfl) hS dX10_told_20 ⟨Nat.zero_le _, Nat.zero_le _⟩ (fun H locs hP hS => ?_)
    exact fw_lret hx hb hr hlocks (Option.some.inj h) hK hZ hP hS dX10_told_23
  · replace h := gif_f h c3
    refine lv_ldc2 (v := (-9223372036854775808)) hx hb hown (hts _ (List.mem_of_getElem? (i := 1) rfl)) dX10_told_10 ?_
    refine lv_goto (tgt := 23) hx hb dX10_told_13 (by decide) ?_
    exact fw_lret hx hb hr hlocks (Option.some.inj h) hK hZ hP hS dX10_told_23
theorem in_X10_spoilingTypes_X10 : ∀ w ∈ wsX100, w ∈ wsX10_spoilingTypes := fun w h => List.mem_cons_of_mem _ (List.mem_append_left _ (List.mem_append_left _ (List.mem_append_right _ (h))))
theorem in_X10_spoilingTypes_X5 : ∀ w ∈ wsX50, w ∈ wsX10_spoilingTypes := fun w h => List.mem_cons_of_mem _ (List.mem_append_left _ (List.mem_append_right _ (h)))
theorem hdV_X10_spoilingTypes : yX10_spoilingTypes.cls = RX10 ∧ yX10_spoilingTypes.cls ≠ "java/lang/invoke/MethodHandle" ∧ yX10_spoilingTypes.cls ≠ "java/lang/invoke/VarHandle" ∧ (parseMethodDescriptor yX10_spoilingTypes.desc).map (fun d => d.parameters.length) = some 0 := by decide +kernel
set_option maxHeartbeats 4000000 in
set_option maxRecDepth 100000 in
theorem k_X10_spoilingTypes (l : Launch) (D : va_G) (cA : Nat → ClassId) (ad : Nat → Nat) (tw : Nat) (hG : gOk ad 315) (z : gS)  (res : Int32 × gS) (h : f_X10_spoilingTypes  z = some res) : gMi l yX10_spoilingTypes wsX10_spoilingTypes (gRm 4 94) D cA ad tw shX 315 [.ref (ad 0)] z res := by
  refine Met.ofW (cc := cX10_spoilingTypes) (maxL := 3) (ret := (some .int)) (by decide) rfl ?_
  intro p e s m args below meth c s₁ B hml hv
  obtain ⟨rfl, hP, hK, hZ⟩ := hv
  have hx := B.exec
  have hb := B.bytes
  have hr := B.returns
  have hts := atoms_spec (ws := wsX10_spoilingTypes) B.pre
  have hown : s.vm.findClass RX10 = some m.cls := findClass_of_methodNamed B.named
  have hlocks := B.notSynchronized
  have hS : va_S (gA ad 315) s.heap s.heap [] := va_S.rf
  have hl := lv_entry ([.ref (ad 0)]) (n := 3) (Nat.le_of_ble_eq_true rfl)
  rw [lg_entry_eq]
  generalize (lg_sl ([.ref (ad 0)]) ++ List.replicate (3 - (lg_sl ([.ref (ad 0)])).length) Slot.unset).toArray = ls at hl ⊢
  have hl : lv_has ls 3 [(0, .ref (ad 0))] := hl
  have j4 : ∀  (n : Nat) (x1 : Int32) (x2 : Int32) (z : gS) (H : Heap) (locs : List Loc) (ls : Array Slot), f_X10_spoilingTypes_4  n x1 x2 z = some res → va_P D vwCl (gw cA ad shX 315 z) H → va_S (gA ad 315) s.heap H locs → lv_has ls 3 [(0, .ref (ad 0)), (1, .int x1), (2, .int x2)] → W p l e (headSpec wsX10_spoilingTypes (gRm 4 94)).room s m ([.ref (ad 0)] : List Value).toArray below meth c H locs 0 0 (MQ below (va_Qi (fun r u => (r, u) = res) (gPr D cA ad tw shX 315) (gA ad 315)) ([.ref (ad 0)] : List Value).toArray s 0 0 (gA ad 315)) (F0 m 4 ls []) := by
    intro n
    induction n with
    | zero => intro x1 x2 z H locs ls h; exact (gno h).elim
    | succ n hK4 =>
      intro x1 x2 z H locs ls h hP hS hl
      replace h : f_X10_spoilingTypes_4_b  (f_X10_spoilingTypes_4  n) x1 x2 z = some res := h
      unfold f_X10_spoilingTypes_4_b at h
      refine lv_iload_n hx hb dX10_spoilingTypes_4 rfl (lv_at hl 2 rfl) ?_
      refine lv_aload_n hx hb dX10_spoilingTypes_5 rfl (lv_at hl 0 rfl) ?_
      refine fw_getr hx hb hts in_X10_spoilingTypes_X10 hown hK hP gF10.1.1 gF10.1.2 rfl 0 (by decide) rfl (hts _ (List.mem_of_getElem? (i := 1) rfl)) rfl dX10_spoilingTypes_6 ?_
      refine fw_geti hx hb hts in_X10_spoilingTypes_X5 hown hK hP gF10.2.1.1.1 gF10.2.1.1.2 rfl 1 (by decide) rfl (hts _ (List.mem_of_getElem? (i := 2) rfl)) rfl dX10_spoilingTypes_9 ?_
      refine lv_icmp_ge (tgt := 70) hx hb dX10_spoilingTypes_12 (by decide) (fun c1 => ?_) (fun c1 => ?_)
      · replace h := gif_t h c1
        refine lv_iload_n hx hb dX10_spoilingTypes_70 rfl (lv_at hl 1 rfl) ?_
        exact fw_ireti hx hb hr hlocks (Option.some.inj h) hK hZ hP hS dX10_spoilingTypes_71
      · replace h := gif_f h c1
        refine lv_aload_n hx hb dX10_spoilingTypes_15 rfl (lv_at hl 0 rfl) ?_
        refine fw_getr hx hb hts in_X10_spoilingTypes_X10 hown hK hP gF10.1.1 gF10.1.2 rfl 4 (by decide) rfl (hts _ (List.mem_of_getElem? (i := 3) rfl)) rfl dX10_spoilingTypes_16 ?_
        refine lv_aload_n hx hb dX10_spoilingTypes_19 rfl (lv_at hl 0 rfl) ?_
        refine fw_getr hx hb hts in_X10_spoilingTypes_X10 hown hK hP gF10.1.1 gF10.1.2 rfl 0 (by decide) rfl (hts _ (List.mem_of_getElem? (i := 1) rfl)) rfl dX10_spoilingTypes_20 ?_
        refine lv_aload_n hx hb dX10_spoilingTypes_23 rfl (lv_at hl 0 rfl) ?_
        refine fw_getr hx hb hts in_X10_spoilingTypes_X10 hown hK hP gF10.1.1 gF10.1.2 rfl 0 (by decide) rfl (hts _ (List.mem_of_getElem? (i := 1) rfl)) rfl dX10_spoilingTypes_24 ?_
        obtain ⟨q2, hq2, h⟩ := gb_s h
        refine fw_viR (As := []) (rest := [.ref (ad 1), .ref (ad 18)]) ⟨hx, hb, hml, hown, hts⟩ (k_X5_everybody l D cA ad tw hG z 1 (gF10.2.1) q2 hq2) (cwV 0 hts gX10_spoilingTypes_X5_everybody rfl rfl rfl hdV_X5_everybody ⟨Nat.le_of_ble_eq_true rfl, Nat.le_of_ble_eq_true rfl⟩) (fw_preV gF10.2.1.1.1 gF10.2.1.1.2 rfl rfl hK hZ hP hS) rfl hl _ rfl (Nat.le_of_ble_eq_true rfl) hS dX10_spoilingTypes_27 ⟨Nat.zero_le _, Nat.zero_le _⟩ (fun H locs hP hS => ?_)
        refine lv_aload_n hx hb dX10_spoilingTypes_30 rfl (lv_at hl 0 rfl) ?_
        refine fw_getr hx hb hts in_X10_spoilingTypes_X10 hown hK hP gF10.1.1 gF10.1.2 rfl 0 (by decide) rfl (hts _ (List.mem_of_getElem? (i := 1) rfl)) rfl dX10_spoilingTypes_31 ?_
        obtain ⟨q3, hq3, h⟩ := gb_s h
        refine fw_viR (As := []) (rest := [.int q2, .ref (ad 1), .ref (ad 18)]) ⟨hx, hb, hml, hown, hts⟩ (k_X5_everything l D cA ad tw hG z 1 (gF10.2.1) q3 hq3) (cwV 0 hts gX10_spoilingTypes_X5_everything rfl rfl rfl hdV_X5_everything ⟨Nat.le_of_ble_eq_true rfl, Nat.le_of_ble_eq_true rfl⟩) (fw_preV gF10.2.1.1.1 gF10.2.1.1.2 rfl rfl hK hZ hP hS) rfl hl _ rfl (Nat.le_of_ble_eq_true rfl) hS dX10_spoilingTypes_34 ⟨Nat.zero_le _, Nat.zero_le _⟩ (fun H locs hP hS => ?_)
        refine lv_iconst (v := (nI 1)) hx hb dX10_spoilingTypes_37 (by decide) ?_
        refine lv_iload_n hx hb dX10_spoilingTypes_38 rfl (lv_at hl 2 rfl) ?_
        refine lv_ishl hx hb dX10_spoilingTypes_39 ?_
        refine lv_iconst (v := gm1) hx hb dX10_spoilingTypes_40 (by decide) ?_
        refine lv_ixor hx hb dX10_spoilingTypes_41 ?_
        refine lv_iand hx hb dX10_spoilingTypes_42 ?_
        refine lv_iconst (v := gm1) hx hb dX10_spoilingTypes_43 (by decide) ?_
        refine lv_iconst (v := gm1) hx hb dX10_spoilingTypes_44 (by decide) ?_
        obtain ⟨q4, hq4, h⟩ := gb_s h
        refine fw_vv (As := [.ref (ad 1), .int q2, .int (q3 &&& (((nI 1) <<< (x2 &&& 31)) ^^^ gm1)), .int gm1, .int gm1]) (rest := []) ⟨hx, hb, hml, hown, hts⟩ (k_X3_make l D cA ad tw hG z 18 (gF10.2.2.2.2.2.1) 1 (gF10.2.1) q2 (q3 &&& (((nI 1) <<< (x2 &&& 31)) ^^^ gm1)) gm1 gm1 q4 hq4) (cwV 5 hts gX10_spoilingTypes_X3_make rfl rfl rfl hdV_X3_make ⟨Nat.le_of_ble_eq_true rfl, Nat.le_of_ble_eq_true rfl⟩) (fw_preV gF10.2.2.2.2.2.1.1.1 gF10.2.2.2.2.2.1.1.2 rfl rfl hK hZ hP hS) rfl hl _ rfl (Nat.le_of_ble_eq_true rfl) hS dX10_spoilingTypes_45 ⟨Nat.zero_le _, Nat.zero_le _⟩ (fun H locs hP hS => ?_)
        refine lv_aload_n hx hb dX10_spoilingTypes_48 rfl (lv_at hl 0 rfl) ?_
        refine fw_getr hx hb hts in_X10_spoilingTypes_X10 hown hK hP gF10.1.1 gF10.1.2 rfl 4 (by decide) rfl (hts _ (List.mem_of_getElem? (i := 3) rfl)) rfl dX10_spoilingTypes_49 ?_
        obtain ⟨q5, hq5, h⟩ := gb_s h
        refine fw_viR (As := []) (rest := []) ⟨hx, hb, hml, hown, hts⟩ (k_X3_least l D cA ad tw hG q4 18 (gF10.2.2.2.2.2.1) q5 hq5) (cwV 0 hts gX10_spoilingTypes_X3_least rfl rfl rfl hdV_X3_least ⟨Nat.le_of_ble_eq_true rfl, Nat.le_of_ble_eq_true rfl⟩) (fw_preV gF10.2.2.2.2.2.1.1.1 gF10.2.2.2.2.2.1.1.2 rfl rfl hK hZ hP hS) rfl hl _ rfl (Nat.le_of_ble_eq_true rfl) hS dX10_spoilingTypes_52 ⟨Nat.zero_le _, Nat.zero_le _⟩ (fun H locs hP hS => ?_)
        refine lv_if_ne (tgt := 64) hx hb dX10_spoilingTypes_55 (by decide) (fun c6 => ?_) (fun c6 => ?_)
        · replace h := gif_f h c6
          refine lv_iinc (v := x2 + (nI 1)) (lv' := [(2, .int (x2 + (nI 1))), (0, .ref (ad 0)), (1, .int x1)]) hx hb dX10_spoilingTypes_64 hl (k := 2) rfl rfl (by decide) rfl (fun ls hl => ?_)
          refine lv_goto (tgt := 4) hx hb dX10_spoilingTypes_67 (by decide) ?_
          exact hK4 x1 (x2 + (nI 1)) q4 _ _ ls h hP hS (lv_sub hl [1, 2, 0] rfl)
        · replace h := gif_t h c6
          refine lv_iload_n hx hb dX10_spoilingTypes_58 rfl (lv_at hl 1 rfl) ?_
          refine lv_iconst (v := (nI 1)) hx hb dX10_spoilingTypes_59 (by decide) ?_
          refine lv_iload_n hx hb dX10_spoilingTypes_60 rfl (lv_at hl 2 rfl) ?_
          refine lv_ishl hx hb dX10_spoilingTypes_61 ?_
          refine lv_ior hx hb dX10_spoilingTypes_62 ?_
          refine lv_topi (fun y7 ey7 => ?_)
          replace h := gl_s h ey7
          refine lv_istore_n (lv' := [(1, .int y7), (0, .ref (ad 0)), (2, .int x2)]) hx hb dX10_spoilingTypes_63 rfl hl (by decide) rfl (fun ls hl => ?_)
          refine lv_iinc (v := x2 + (nI 1)) (lv' := [(2, .int (x2 + (nI 1))), (1, .int y7), (0, .ref (ad 0))]) hx hb dX10_spoilingTypes_64 hl (k := 2) rfl rfl (by decide) rfl (fun ls hl => ?_)
          refine lv_goto (tgt := 4) hx hb dX10_spoilingTypes_67 (by decide) ?_
          exact hK4 y7 (x2 + (nI 1)) q4 _ _ ls h hP hS (lv_sub hl [2, 1, 0] rfl)
  unfold f_X10_spoilingTypes at h
  refine lv_iconst (v := (nI 0)) hx hb dX10_spoilingTypes_0 (by decide) ?_
  refine lv_istore_n (lv' := [(1, .int (nI 0)), (0, .ref (ad 0))]) hx hb dX10_spoilingTypes_1 rfl hl (by decide) rfl (fun ls hl => ?_)
  refine lv_iconst (v := (nI 0)) hx hb dX10_spoilingTypes_2 (by decide) ?_
  refine lv_istore_n (lv' := [(2, .int (nI 0)), (1, .int (nI 0)), (0, .ref (ad 0))]) hx hb dX10_spoilingTypes_3 rfl hl (by decide) rfl (fun ls hl => ?_)
  exact j4  gF (nI 0) (nI 0) z _ _ ls h hP hS (lv_sub hl [2, 1, 0] rfl)
theorem in_X10_spoilingGraves_X10 : ∀ w ∈ wsX100, w ∈ wsX10_spoilingGraves := fun w h => List.mem_cons_of_mem _ (List.mem_append_left _ (List.mem_append_left _ (List.mem_append_right _ (h))))
theorem in_X10_spoilingGraves_X5 : ∀ w ∈ wsX50, w ∈ wsX10_spoilingGraves := fun w h => List.mem_cons_of_mem _ (List.mem_append_left _ (List.mem_append_right _ (h)))
theorem hdV_X10_spoilingGraves : yX10_spoilingGraves.cls = RX10 ∧ yX10_spoilingGraves.cls ≠ "java/lang/invoke/MethodHandle" ∧ yX10_spoilingGraves.cls ≠ "java/lang/invoke/VarHandle" ∧ (parseMethodDescriptor yX10_spoilingGraves.desc).map (fun d => d.parameters.length) = some 0 := by decide +kernel
set_option maxHeartbeats 4000000 in
set_option maxRecDepth 100000 in
theorem k_X10_spoilingGraves (l : Launch) (D : va_G) (cA : Nat → ClassId) (ad : Nat → Nat) (tw : Nat) (hG : gOk ad 315) (z : gS)  (res : Int32 × gS) (h : f_X10_spoilingGraves  z = some res) : gMi l yX10_spoilingGraves wsX10_spoilingGraves (gRm 4 94) D cA ad tw shX 315 [.ref (ad 0)] z res := by
  refine Met.ofW (cc := cX10_spoilingGraves) (maxL := 3) (ret := (some .int)) (by decide) rfl ?_
  intro p e s m args below meth c s₁ B hml hv
  obtain ⟨rfl, hP, hK, hZ⟩ := hv
  have hx := B.exec
  have hb := B.bytes
  have hr := B.returns
  have hts := atoms_spec (ws := wsX10_spoilingGraves) B.pre
  have hown : s.vm.findClass RX10 = some m.cls := findClass_of_methodNamed B.named
  have hlocks := B.notSynchronized
  have hS : va_S (gA ad 315) s.heap s.heap [] := va_S.rf
  have hl := lv_entry ([.ref (ad 0)]) (n := 3) (Nat.le_of_ble_eq_true rfl)
  rw [lg_entry_eq]
  generalize (lg_sl ([.ref (ad 0)]) ++ List.replicate (3 - (lg_sl ([.ref (ad 0)])).length) Slot.unset).toArray = ls at hl ⊢
  have hl : lv_has ls 3 [(0, .ref (ad 0))] := hl
  have j4 : ∀  (n : Nat) (x1 : Int32) (x2 : Int32) (z : gS) (H : Heap) (locs : List Loc) (ls : Array Slot), f_X10_spoilingGraves_4  n x1 x2 z = some res → va_P D vwCl (gw cA ad shX 315 z) H → va_S (gA ad 315) s.heap H locs → lv_has ls 3 [(0, .ref (ad 0)), (1, .int x1), (2, .int x2)] → W p l e (headSpec wsX10_spoilingGraves (gRm 4 94)).room s m ([.ref (ad 0)] : List Value).toArray below meth c H locs 0 0 (MQ below (va_Qi (fun r u => (r, u) = res) (gPr D cA ad tw shX 315) (gA ad 315)) ([.ref (ad 0)] : List Value).toArray s 0 0 (gA ad 315)) (F0 m 4 ls []) := by
    intro n
    induction n with
    | zero => intro x1 x2 z H locs ls h; exact (gno h).elim
    | succ n hK4 =>
      intro x1 x2 z H locs ls h hP hS hl
      replace h : f_X10_spoilingGraves_4_b  (f_X10_spoilingGraves_4  n) x1 x2 z = some res := h
      unfold f_X10_spoilingGraves_4_b at h
      refine lv_iload_n hx hb dX10_spoilingGraves_4 rfl (lv_at hl 2 rfl) ?_
      refine lv_aload_n hx hb dX10_spoilingGraves_5 rfl (lv_at hl 0 rfl) ?_
      refine fw_getr hx hb hts in_X10_spoilingGraves_X10 hown hK hP gF10.1.1 gF10.1.2 rfl 0 (by decide) rfl (hts _ (List.mem_of_getElem? (i := 1) rfl)) rfl dX10_spoilingGraves_6 ?_
      refine fw_geti hx hb hts in_X10_spoilingGraves_X5 hown hK hP gF10.2.1.1.1 gF10.2.1.1.2 rfl 0 (by decide) rfl (hts _ (List.mem_of_getElem? (i := 2) rfl)) rfl dX10_spoilingGraves_9 ?_
      refine lv_icmp_ge (tgt := 70) hx hb dX10_spoilingGraves_12 (by decide) (fun c1 => ?_) (fun c1 => ?_)
      · replace h := gif_t h c1
        refine lv_iload_n hx hb dX10_spoilingGraves_70 rfl (lv_at hl 1 rfl) ?_
        exact fw_ireti hx hb hr hlocks (Option.some.inj h) hK hZ hP hS dX10_spoilingGraves_71
      · replace h := gif_f h c1
        refine lv_aload_n hx hb dX10_spoilingGraves_15 rfl (lv_at hl 0 rfl) ?_
        refine fw_getr hx hb hts in_X10_spoilingGraves_X10 hown hK hP gF10.1.1 gF10.1.2 rfl 4 (by decide) rfl (hts _ (List.mem_of_getElem? (i := 3) rfl)) rfl dX10_spoilingGraves_16 ?_
        refine lv_aload_n hx hb dX10_spoilingGraves_19 rfl (lv_at hl 0 rfl) ?_
        refine fw_getr hx hb hts in_X10_spoilingGraves_X10 hown hK hP gF10.1.1 gF10.1.2 rfl 0 (by decide) rfl (hts _ (List.mem_of_getElem? (i := 1) rfl)) rfl dX10_spoilingGraves_20 ?_
        refine lv_aload_n hx hb dX10_spoilingGraves_23 rfl (lv_at hl 0 rfl) ?_
        refine fw_getr hx hb hts in_X10_spoilingGraves_X10 hown hK hP gF10.1.1 gF10.1.2 rfl 0 (by decide) rfl (hts _ (List.mem_of_getElem? (i := 1) rfl)) rfl dX10_spoilingGraves_24 ?_
        obtain ⟨q2, hq2, h⟩ := gb_s h
        refine fw_viR (As := []) (rest := [.ref (ad 1), .ref (ad 18)]) ⟨hx, hb, hml, hown, hts⟩ (k_X5_everybody l D cA ad tw hG z 1 (gF10.2.1) q2 hq2) (cwV 0 hts gX10_spoilingGraves_X5_everybody rfl rfl rfl hdV_X5_everybody ⟨Nat.le_of_ble_eq_true rfl, Nat.le_of_ble_eq_true rfl⟩) (fw_preV gF10.2.1.1.1 gF10.2.1.1.2 rfl rfl hK hZ hP hS) rfl hl _ rfl (Nat.le_of_ble_eq_true rfl) hS dX10_spoilingGraves_27 ⟨Nat.zero_le _, Nat.zero_le _⟩ (fun H locs hP hS => ?_)
        refine lv_iconst (v := (nI 1)) hx hb dX10_spoilingGraves_30 (by decide) ?_
        refine lv_iload_n hx hb dX10_spoilingGraves_31 rfl (lv_at hl 2 rfl) ?_
        refine lv_ishl hx hb dX10_spoilingGraves_32 ?_
        refine lv_iconst (v := gm1) hx hb dX10_spoilingGraves_33 (by decide) ?_
        refine lv_ixor hx hb dX10_spoilingGraves_34 ?_
        refine lv_iand hx hb dX10_spoilingGraves_35 ?_
        refine lv_aload_n hx hb dX10_spoilingGraves_36 rfl (lv_at hl 0 rfl) ?_
        refine fw_getr hx hb hts in_X10_spoilingGraves_X10 hown hK hP gF10.1.1 gF10.1.2 rfl 0 (by decide) rfl (hts _ (List.mem_of_getElem? (i := 1) rfl)) rfl dX10_spoilingGraves_37 ?_
        obtain ⟨q3, hq3, h⟩ := gb_s h
        refine fw_viR (As := []) (rest := [.int (q2 &&& (((nI 1) <<< (x2 &&& 31)) ^^^ gm1)), .ref (ad 1), .ref (ad 18)]) ⟨hx, hb, hml, hown, hts⟩ (k_X5_everything l D cA ad tw hG z 1 (gF10.2.1) q3 hq3) (cwV 0 hts gX10_spoilingGraves_X5_everything rfl rfl rfl hdV_X5_everything ⟨Nat.le_of_ble_eq_true rfl, Nat.le_of_ble_eq_true rfl⟩) (fw_preV gF10.2.1.1.1 gF10.2.1.1.2 rfl rfl hK hZ hP hS) rfl hl _ rfl (Nat.le_of_ble_eq_true rfl) hS dX10_spoilingGraves_40 ⟨Nat.zero_le _, Nat.zero_le _⟩ (fun H locs hP hS => ?_)
        refine lv_iconst (v := gm1) hx hb dX10_spoilingGraves_43 (by decide) ?_
        refine lv_iconst (v := gm1) hx hb dX10_spoilingGraves_44 (by decide) ?_
        obtain ⟨q4, hq4, h⟩ := gb_s h
        refine fw_vv (As := [.ref (ad 1), .int (q2 &&& (((nI 1) <<< (x2 &&& 31)) ^^^ gm1)), .int q3, .int gm1, .int gm1]) (rest := []) ⟨hx, hb, hml, hown, hts⟩ (k_X3_make l D cA ad tw hG z 18 (gF10.2.2.2.2.2.1) 1 (gF10.2.1) (q2 &&& (((nI 1) <<< (x2 &&& 31)) ^^^ gm1)) q3 gm1 gm1 q4 hq4) (cwV 5 hts gX10_spoilingGraves_X3_make rfl rfl rfl hdV_X3_make ⟨Nat.le_of_ble_eq_true rfl, Nat.le_of_ble_eq_true rfl⟩) (fw_preV gF10.2.2.2.2.2.1.1.1 gF10.2.2.2.2.2.1.1.2 rfl rfl hK hZ hP hS) rfl hl _ rfl (Nat.le_of_ble_eq_true rfl) hS dX10_spoilingGraves_45 ⟨Nat.zero_le _, Nat.zero_le _⟩ (fun H locs hP hS => ?_)
        refine lv_aload_n hx hb dX10_spoilingGraves_48 rfl (lv_at hl 0 rfl) ?_
        refine fw_getr hx hb hts in_X10_spoilingGraves_X10 hown hK hP gF10.1.1 gF10.1.2 rfl 4 (by decide) rfl (hts _ (List.mem_of_getElem? (i := 3) rfl)) rfl dX10_spoilingGraves_49 ?_
        obtain ⟨q5, hq5, h⟩ := gb_s h
        refine fw_viR (As := []) (rest := []) ⟨hx, hb, hml, hown, hts⟩ (k_X3_least l D cA ad tw hG q4 18 (gF10.2.2.2.2.2.1) q5 hq5) (cwV 0 hts gX10_spoilingGraves_X3_least rfl rfl rfl hdV_X3_least ⟨Nat.le_of_ble_eq_true rfl, Nat.le_of_ble_eq_true rfl⟩) (fw_preV gF10.2.2.2.2.2.1.1.1 gF10.2.2.2.2.2.1.1.2 rfl rfl hK hZ hP hS) rfl hl _ rfl (Nat.le_of_ble_eq_true rfl) hS dX10_spoilingGraves_52 ⟨Nat.zero_le _, Nat.zero_le _⟩ (fun H locs hP hS => ?_)
        refine lv_if_ne (tgt := 64) hx hb dX10_spoilingGraves_55 (by decide) (fun c6 => ?_) (fun c6 => ?_)
        · replace h := gif_f h c6
          refine lv_iinc (v := x2 + (nI 1)) (lv' := [(2, .int (x2 + (nI 1))), (0, .ref (ad 0)), (1, .int x1)]) hx hb dX10_spoilingGraves_64 hl (k := 2) rfl rfl (by decide) rfl (fun ls hl => ?_)
          refine lv_goto (tgt := 4) hx hb dX10_spoilingGraves_67 (by decide) ?_
          exact hK4 x1 (x2 + (nI 1)) q4 _ _ ls h hP hS (lv_sub hl [1, 2, 0] rfl)
        · replace h := gif_t h c6
          refine lv_iload_n hx hb dX10_spoilingGraves_58 rfl (lv_at hl 1 rfl) ?_
          refine lv_iconst (v := (nI 1)) hx hb dX10_spoilingGraves_59 (by decide) ?_
          refine lv_iload_n hx hb dX10_spoilingGraves_60 rfl (lv_at hl 2 rfl) ?_
          refine lv_ishl hx hb dX10_spoilingGraves_61 ?_
          refine lv_ior hx hb dX10_spoilingGraves_62 ?_
          refine lv_topi (fun y7 ey7 => ?_)
          replace h := gl_s h ey7
          refine lv_istore_n (lv' := [(1, .int y7), (0, .ref (ad 0)), (2, .int x2)]) hx hb dX10_spoilingGraves_63 rfl hl (by decide) rfl (fun ls hl => ?_)
          refine lv_iinc (v := x2 + (nI 1)) (lv' := [(2, .int (x2 + (nI 1))), (1, .int y7), (0, .ref (ad 0))]) hx hb dX10_spoilingGraves_64 hl (k := 2) rfl rfl (by decide) rfl (fun ls hl => ?_)
          refine lv_goto (tgt := 4) hx hb dX10_spoilingGraves_67 (by decide) ?_
          exact hK4 y7 (x2 + (nI 1)) q4 _ _ ls h hP hS (lv_sub hl [2, 1, 0] rfl)
  unfold f_X10_spoilingGraves at h
  refine lv_iconst (v := (nI 0)) hx hb dX10_spoilingGraves_0 (by decide) ?_
  refine lv_istore_n (lv' := [(1, .int (nI 0)), (0, .ref (ad 0))]) hx hb dX10_spoilingGraves_1 rfl hl (by decide) rfl (fun ls hl => ?_)
  refine lv_iconst (v := (nI 0)) hx hb dX10_spoilingGraves_2 (by decide) ?_
  refine lv_istore_n (lv' := [(2, .int (nI 0)), (1, .int (nI 0)), (0, .ref (ad 0))]) hx hb dX10_spoilingGraves_3 rfl hl (by decide) rfl (fun ls hl => ?_)
  exact j4  gF (nI 0) (nI 0) z _ _ ls h hP hS (lv_sub hl [2, 1, 0] rfl)
theorem hdV_X10_spoils : yX10_spoils.cls = RX10 ∧ yX10_spoils.cls ≠ "java/lang/invoke/MethodHandle" ∧ yX10_spoils.cls ≠ "java/lang/invoke/VarHandle" ∧ (parseMethodDescriptor yX10_spoils.desc).map (fun d => d.parameters.length) = some 1 := by decide +kernel
set_option maxHeartbeats 4000000 in
set_option maxRecDepth 100000 in
theorem k_X10_spoils (l : Launch) (D : va_G) (cA : Nat → ClassId) (ad : Nat → Nat) (tw : Nat) (hG : gOk ad 315) (z : gS) (a1 : Int32) (res : Int32 × gS) (h : f_X10_spoils a1 z = some res) : gMi l yX10_spoils wsX10_spoils (gRm 5 116) D cA ad tw shX 315 [.ref (ad 0), .int a1] z res := by
  refine Met.ofW (cc := cX10_spoils) (maxL := 4) (ret := (some .int)) (by decide) rfl ?_
  intro p e s m args below meth c s₁ B hml hv
  obtain ⟨rfl, hP, hK, hZ⟩ := hv
  have hx := B.exec
  have hb := B.bytes
  have hr := B.returns
  have hts := atoms_spec (ws := wsX10_spoils) B.pre
  have hown : s.vm.findClass RX10 = some m.cls := findClass_of_methodNamed B.named
  have hlocks := B.notSynchronized
  have hS : va_S (gA ad 315) s.heap s.heap [] := va_S.rf
  have hl := lv_entry ([.ref (ad 0), .int a1]) (n := 4) (Nat.le_of_ble_eq_true rfl)
  rw [lg_entry_eq]
  generalize (lg_sl ([.ref (ad 0), .int a1]) ++ List.replicate (4 - (lg_sl ([.ref (ad 0), .int a1])).length) Slot.unset).toArray = ls at hl ⊢
  have hl : lv_has ls 4 [(0, .ref (ad 0)), (1, .int a1)] := hl
  have j27 : ∀ (x1 : Int32) (s0 : Int32) (z : gS) (H : Heap) (locs : List Loc) (ls : Array Slot), f_X10_spoils_27 x1 s0 z = some res → va_P D vwCl (gw cA ad shX 315 z) H → va_S (gA ad 315) s.heap H locs → lv_has ls 4 [(0, .ref (ad 0)), (1, .int x1)] → W p l e (headSpec wsX10_spoils (gRm 5 116)).room s m ([.ref (ad 0), .int a1] : List Value).toArray below meth c H locs 0 0 (MQ below (va_Qi (fun r u => (r, u) = res) (gPr D cA ad tw shX 315) (gA ad 315)) ([.ref (ad 0), .int a1] : List Value).toArray s 0 0 (gA ad 315)) (F0 m 27 ls [.int s0]) := by
    intro x1 s0 z H locs ls h hP hS hl
    unfold f_X10_spoils_27 at h
    refine lv_istore_n (lv' := [(2, .int s0), (0, .ref (ad 0)), (1, .int x1)]) hx hb dX10_spoils_27 rfl hl (by decide) rfl (fun ls hl => ?_)
    refine lv_iload_n hx hb dX10_spoils_28 rfl (lv_at hl 2 rfl) ?_
    refine lv_iconst (v := (nI 1)) hx hb dX10_spoils_29 (by decide) ?_
    refine lv_icmp_ne (tgt := 46) hx hb dX10_spoils_30 (by decide) (fun c6 => ?_) (fun c6 => ?_)
    · replace h := gif_f h c6
      refine lv_iload_n hx hb dX10_spoils_46 rfl (lv_at hl 0 rfl) ?_
      refine lv_if_eq (tgt := 54) hx hb dX10_spoils_47 (by decide) (fun c7 => ?_) (fun c7 => ?_)
      · replace h := gif_t h c7
        refine lv_aload_n hx hb dX10_spoils_54 rfl (lv_at hl 1 rfl) ?_
        obtain ⟨q8, hq8, h⟩ := gb_s h
        refine fw_vi (As := []) (rest := []) ⟨hx, hb, hml, hown, hts⟩ (k_X10_spoilingGraves l D cA ad tw hG z  q8 hq8) (cwV 0 hts gX10_spoils_X10_spoilingGraves rfl rfl rfl hdV_X10_spoilingGraves ⟨Nat.le_of_ble_eq_true rfl, Nat.le_of_ble_eq_true rfl⟩) (fw_preV gF10.1.1 gF10.1.2 rfl rfl hK hZ hP hS) rfl hl _ rfl (Nat.le_of_ble_eq_true rfl) hS dX10_spoils_55 ⟨Nat.zero_le _, Nat.zero_le _⟩ (fun H locs hP hS => ?_)
        refine lv_istore_n (lv' := [(3, .int q8.1), (2, .int s0), (0, .ref (ad 0)), (1, .int x1)]) hx hb dX10_spoils_58 rfl hl (by decide) rfl (fun ls hl => ?_)
        refine lv_iload_n hx hb dX10_spoils_59 rfl (lv_at hl 3 rfl) ?_
        refine lv_if_ne (tgt := 65) hx hb dX10_spoils_60 (by decide) (fun c9 => ?_) (fun c9 => ?_)
        · replace h := gif_f h c9
          refine lv_iload_n hx hb dX10_spoils_65 rfl (lv_at hl 0 rfl) ?_
          refine lv_if_ne (tgt := 74) hx hb dX10_spoils_66 (by decide) (fun c10 => ?_) (fun c10 => ?_)
          · replace h := gif_f h c10
            refine lv_iload_n hx hb dX10_spoils_74 rfl (lv_at hl 0 rfl) ?_
            obtain ⟨q11, hq11, h⟩ := gb_s h
            refine fw_siR (As := [.int q8.1]) (rest := []) ⟨hx, hb, hml, hown, hts⟩ (k_J6_numberOfTrailingZeros_0f7a4 l D cA ad tw hG q8.2 q8.1 q11 hq11) (va_cwS 1 hts gX10_spoils_J6_numberOfTrailingZeros_0f7a4 rfl rfl rfl hdS_J6_numberOfTrailingZeros_0f7a4 ⟨Nat.le_of_ble_eq_true rfl, Nat.le_of_ble_eq_true rfl⟩) hK hZ hP rfl hl _ rfl (Nat.le_of_ble_eq_true rfl) hS dX10_spoils_75 ⟨Nat.zero_le _, Nat.zero_le _⟩ (fun H locs hP hS => ?_)
            exact fw_ireti hx hb hr hlocks (Option.some.inj h) hK hZ hP hS dX10_spoils_78
          · replace h := gif_t h c10
            refine lv_bipush (v := (-5)) hx hb dX10_spoils_69 (by decide) ?_
            refine lv_goto (tgt := 78) hx hb dX10_spoils_71 (by decide) ?_
            exact fw_ireti hx hb hr hlocks (Option.some.inj h) hK hZ hP hS dX10_spoils_78
        · replace h := gif_t h c9
          refine lv_iload_n hx hb dX10_spoils_63 rfl (lv_at hl 0 rfl) ?_
          exact fw_ireti hx hb hr hlocks (Option.some.inj h) hK hZ hP hS dX10_spoils_64
      · replace h := gif_f h c7
        refine lv_iconst (v := (nI 0)) hx hb dX10_spoils_50 (by decide) ?_
        refine lv_goto (tgt := 58) hx hb dX10_spoils_51 (by decide) ?_
        refine lv_istore_n (lv' := [(3, .int (nI 0)), (2, .int s0), (0, .ref (ad 0)), (1, .int x1)]) hx hb dX10_spoils_58 rfl hl (by decide) rfl (fun ls hl => ?_)
        refine lv_iload_n hx hb dX10_spoils_59 rfl (lv_at hl 3 rfl) ?_
        refine lv_if_ne (tgt := 65) hx hb dX10_spoils_60 (by decide) (fun c12 => ?_) (fun c12 => ?_)
        · replace h := gif_f h c12
          refine lv_iload_n hx hb dX10_spoils_65 rfl (lv_at hl 0 rfl) ?_
          refine lv_if_ne (tgt := 74) hx hb dX10_spoils_66 (by decide) (fun c13 => ?_) (fun c13 => ?_)
          · replace h := gif_f h c13
            refine lv_iload_n hx hb dX10_spoils_74 rfl (lv_at hl 0 rfl) ?_
            obtain ⟨q14, hq14, h⟩ := gb_s h
            refine fw_siR (As := [.int (nI 0)]) (rest := []) ⟨hx, hb, hml, hown, hts⟩ (k_J6_numberOfTrailingZeros_0f7a4 l D cA ad tw hG z (nI 0) q14 hq14) (va_cwS 1 hts gX10_spoils_J6_numberOfTrailingZeros_0f7a4 rfl rfl rfl hdS_J6_numberOfTrailingZeros_0f7a4 ⟨Nat.le_of_ble_eq_true rfl, Nat.le_of_ble_eq_true rfl⟩) hK hZ hP rfl hl _ rfl (Nat.le_of_ble_eq_true rfl) hS dX10_spoils_75 ⟨Nat.zero_le _, Nat.zero_le _⟩ (fun H locs hP hS => ?_)
            exact fw_ireti hx hb hr hlocks (Option.some.inj h) hK hZ hP hS dX10_spoils_78
          · replace h := gif_t h c13
            refine lv_bipush (v := (-5)) hx hb dX10_spoils_69 (by decide) ?_
            refine lv_goto (tgt := 78) hx hb dX10_spoils_71 (by decide) ?_
            exact fw_ireti hx hb hr hlocks (Option.some.inj h) hK hZ hP hS dX10_spoils_78
        · replace h := gif_t h c12
          refine lv_iload_n hx hb dX10_spoils_63 rfl (lv_at hl 0 rfl) ?_
          exact fw_ireti hx hb hr hlocks (Option.some.inj h) hK hZ hP hS dX10_spoils_64
    · replace h := gif_t h c6
      refine lv_iload_n hx hb dX10_spoils_33 rfl (lv_at hl 0 rfl) ?_
      refine lv_if_eq (tgt := 41) hx hb dX10_spoils_34 (by decide) (fun c15 => ?_) (fun c15 => ?_)
      · replace h := gif_t h c15
        refine lv_aload_n hx hb dX10_spoils_41 rfl (lv_at hl 1 rfl) ?_
        obtain ⟨q16, hq16, h⟩ := gb_s h
        refine fw_vi (As := []) (rest := []) ⟨hx, hb, hml, hown, hts⟩ (k_X10_spoilingTypes l D cA ad tw hG z  q16 hq16) (cwV 0 hts gX10_spoils_X10_spoilingTypes rfl rfl rfl hdV_X10_spoilingTypes ⟨Nat.le_of_ble_eq_true rfl, Nat.le_of_ble_eq_true rfl⟩) (fw_preV gF10.1.1 gF10.1.2 rfl rfl hK hZ hP hS) rfl hl _ rfl (Nat.le_of_ble_eq_true rfl) hS dX10_spoils_42 ⟨Nat.zero_le _, Nat.zero_le _⟩ (fun H locs hP hS => ?_)
        exact fw_ireti hx hb hr hlocks (Option.some.inj h) hK hZ hP hS dX10_spoils_45
      · replace h := gif_f h c15
        refine lv_iconst (v := (nI 0)) hx hb dX10_spoils_37 (by decide) ?_
        refine lv_goto (tgt := 45) hx hb dX10_spoils_38 (by decide) ?_
        exact fw_ireti hx hb hr hlocks (Option.some.inj h) hK hZ hP hS dX10_spoils_45
  unfold f_X10_spoils at h
  refine lv_iload_n hx hb dX10_spoils_0 rfl (lv_at hl 1 rfl) ?_
  refine lv_if_lt (tgt := 9) hx hb dX10_spoils_1 (by decide) (fun c1 => ?_) (fun c1 => ?_)
  · replace h := gif_t h c1
    refine lv_bipush (v := (-2)) hx hb dX10_spoils_9 (by decide) ?_
    exact fw_ireti hx hb hr hlocks (Option.some.inj h) hK hZ hP hS dX10_spoils_11
  · replace h := gif_f h c1
    refine lv_iload_n hx hb dX10_spoils_4 rfl (lv_at hl 1 rfl) ?_
    refine lv_iconst (v := (nI 2)) hx hb dX10_spoils_5 (by decide) ?_
    refine lv_icmp_le (tgt := 12) hx hb dX10_spoils_6 (by decide) (fun c2 => ?_) (fun c2 => ?_)
    · replace h := gif_t h c2
      refine lv_aload_n hx hb dX10_spoils_12 rfl (lv_at hl 0 rfl) ?_
      obtain ⟨q3, hq3, h⟩ := gb_s h
      refine fw_vr (As := []) (rest := []) ⟨hx, hb, hml, hown, hts⟩ (k_X10_readyPlan l D cA ad tw hG z  q3 hq3) (cwV 0 hts gX10_spoils_X10_readyPlan rfl rfl rfl hdV_X10_readyPlan ⟨Nat.le_of_ble_eq_true rfl, Nat.le_of_ble_eq_true rfl⟩) (fw_preV gF10.1.1 gF10.1.2 rfl rfl hK hZ hP hS) rfl hl _ rfl (Nat.le_of_ble_eq_true rfl) hS dX10_spoils_13 ⟨Nat.zero_le _, Nat.zero_le _⟩ (fun H locs hP hS => ?_)
      obtain ⟨q4, hq4, h⟩ := gb_s h
      refine fw_viR (As := []) (rest := []) ⟨hx, hb, hml, hown, hts⟩ (k_X3_least l D cA ad tw hG q3 13 (gF10.2.2.2.2.1) q4 hq4) (cwV 0 hts gX10_spoils_X3_least rfl rfl rfl hdV_X3_least ⟨Nat.le_of_ble_eq_true rfl, Nat.le_of_ble_eq_true rfl⟩) (fw_preV gF10.2.2.2.2.1.1.1 gF10.2.2.2.2.1.1.2 rfl rfl hK hZ hP hS) rfl hl _ rfl (Nat.le_of_ble_eq_true rfl) hS dX10_spoils_16 ⟨Nat.zero_le _, Nat.zero_le _⟩ (fun H locs hP hS => ?_)
      refine lv_if_ne (tgt := 26) hx hb dX10_spoils_19 (by decide) (fun c5 => ?_) (fun c5 => ?_)
      · replace h := gif_f h c5
        refine lv_iconst (v := (nI 0)) hx hb dX10_spoils_26 (by decide) ?_
        exact j27 a1 (nI 0) q3 _ _ ls h hP hS (lv_sub hl [0, 1] rfl)
      · replace h := gif_t h c5
        refine lv_iconst (v := (nI 1)) hx hb dX10_spoils_22 (by decide) ?_
        refine lv_goto (tgt := 27) hx hb dX10_spoils_23 (by decide) ?_
        exact j27 a1 (nI 1) q3 _ _ ls h hP hS (lv_sub hl [0, 1] rfl)
    · replace h := gif_f h c2
      refine lv_bipush (v := (-2)) hx hb dX10_spoils_9 (by decide) ?_
      exact fw_ireti hx hb hr hlocks (Option.some.inj h) hK hZ hP hS dX10_spoils_11
theorem in_X10_setRow_X10 : ∀ w ∈ wsX100, w ∈ wsX10_setRow := fun w h => List.mem_cons_of_mem _ (List.mem_append_left _ (List.mem_append_right _ (h)))
theorem in_X10_setRow_X5 : ∀ w ∈ wsX50, w ∈ wsX10_setRow := fun w h => List.mem_cons_of_mem _ (List.mem_append_right _ (h))
theorem hdV_X10_setRow : yX10_setRow.cls = RX10 ∧ yX10_setRow.cls ≠ "java/lang/invoke/MethodHandle" ∧ yX10_setRow.cls ≠ "java/lang/invoke/VarHandle" ∧ (parseMethodDescriptor yX10_setRow.desc).map (fun d => d.parameters.length) = some 1 := by decide +kernel
set_option maxHeartbeats 4000000 in
set_option maxRecDepth 100000 in
theorem k_X10_setRow (l : Launch) (D : va_G) (cA : Nat → ClassId) (ad : Nat → Nat) (tw : Nat) (hG : gOk ad 315) (z : gS) (a1 : Int32) (res : Int32 × gS) (h : f_X10_setRow a1 z = some res) : gMi l yX10_setRow wsX10_setRow (gRm 1 21) D cA ad tw shX 315 [.ref (ad 0), .int a1] z res := by
  refine Met.ofW (cc := cX10_setRow) (maxL := 6) (ret := (some .boolean)) (by decide) rfl ?_
  intro p e s m args below meth c s₁ B hml hv
  obtain ⟨rfl, hP, hK, hZ⟩ := hv
  have hx := B.exec
  have hb := B.bytes
  have hr := B.returns
  have hts := atoms_spec (ws := wsX10_setRow) B.pre
  have hown : s.vm.findClass RX10 = some m.cls := findClass_of_methodNamed B.named
  have hlocks := B.notSynchronized
  have hS : va_S (gA ad 315) s.heap s.heap [] := va_S.rf
  have hl := lv_entry ([.ref (ad 0), .int a1]) (n := 6) (Nat.le_of_ble_eq_true rfl)
  rw [lg_entry_eq]
  generalize (lg_sl ([.ref (ad 0), .int a1]) ++ List.replicate (6 - (lg_sl ([.ref (ad 0), .int a1])).length) Slot.unset).toArray = ls at hl ⊢
  have hl : lv_has ls 6 [(0, .ref (ad 0)), (1, .int a1)] := hl
  have j15 : ∀  (n : Nat) (x2 : Int32) (x3 : Int32) (x4 : Int32) (z : gS) (H : Heap) (locs : List Loc) (ls : Array Slot), f_X10_setRow_15  n x2 x3 x4 z = some res → va_P D vwCl (gw cA ad shX 315 z) H → va_S (gA ad 315) s.heap H locs → lv_has ls 6 [(0, .ref (ad 0)), (2, .int x2), (3, .int x3), (4, .int x4)] → W p l e (headSpec wsX10_setRow (gRm 1 21)).room s m ([.ref (ad 0), .int a1] : List Value).toArray below meth c H locs 0 0 (MQ below (va_Qi (fun r u => (r, u) = res) (gPr D cA ad tw shX 315) (gA ad 315)) ([.ref (ad 0), .int a1] : List Value).toArray s 0 0 (gA ad 315)) (F0 m 15 ls []) := by
    intro n
    induction n with
    | zero => intro x2 x3 x4 z H locs ls h; exact (gno h).elim
    | succ n hK15 =>
      intro x2 x3 x4 z H locs ls h hP hS hl
      replace h : f_X10_setRow_15_b  (f_X10_setRow_15  n) x2 x3 x4 z = some res := h
      unfold f_X10_setRow_15_b at h
      refine lv_iload hx hb dX10_setRow_15 (lv_at hl 3 rfl) ?_
      refine lv_if_lt (tgt := 78) hx hb dX10_setRow_17 (by decide) (fun c2 => ?_) (fun c2 => ?_)
      · replace h := gif_t h c2
        refine lv_iload_n hx hb dX10_setRow_78 rfl (lv_at hl 1 rfl) ?_
        refine lv_if_ne (tgt := 86) hx hb dX10_setRow_79 (by decide) (fun c3 => ?_) (fun c3 => ?_)
        · replace h := gif_f h c3
          refine lv_iconst (v := (nI 0)) hx hb dX10_setRow_86 (by decide) ?_
          exact fw_iretz hx hb hr hlocks (by decide) (Option.some.inj h) hK hZ hP hS dX10_setRow_87
        · replace h := gif_t h c3
          refine lv_iconst (v := (nI 1)) hx hb dX10_setRow_82 (by decide) ?_
          refine lv_goto (tgt := 87) hx hb dX10_setRow_83 (by decide) ?_
          exact fw_iretz hx hb hr hlocks (by decide) (Option.some.inj h) hK hZ hP hS dX10_setRow_87
      · replace h := gif_f h c2
        refine lv_iload_n hx hb dX10_setRow_20 rfl (lv_at hl 1 rfl) ?_
        refine lv_bipush (v := (nI 10)) hx hb dX10_setRow_21 (by decide) ?_
        refine lv_irem hx hb dX10_setRow_23 (by decide) ?_
        refine lv_iconst (v := (nI 1)) hx hb dX10_setRow_24 (by decide) ?_
        refine lv_isub hx hb dX10_setRow_25 ?_
        refine lv_topi (fun y4 ey4 => ?_)
        replace h := gl_s h ey4
        refine lv_istore (lv' := [(5, .int y4), (0, .ref (ad 0)), (2, .int x2), (3, .int x3), (4, .int x4)]) hx hb dX10_setRow_26 hl (by decide) rfl (fun ls hl => ?_)
        refine lv_iload_n hx hb dX10_setRow_28 rfl (lv_at hl 2 rfl) ?_
        refine lv_bipush (v := (nI 10)) hx hb dX10_setRow_29 (by decide) ?_
        refine lv_idiv hx hb dX10_setRow_31 (by decide) ?_
        refine lv_topi (fun y5 ey5 => ?_)
        replace h := gl_s h ey5
        refine lv_istore_n (lv' := [(2, .int y5), (5, .int y4), (0, .ref (ad 0)), (3, .int x3), (4, .int x4)]) hx hb dX10_setRow_32 rfl hl (by decide) rfl (fun ls hl => ?_)
        refine lv_aload_n hx hb dX10_setRow_33 rfl (lv_at hl 2 rfl) ?_
        refine fw_getr hx hb hts in_X10_setRow_X10 hown hK hP gF10.1.1 gF10.1.2 rfl 0 (by decide) rfl (hts _ (List.mem_of_getElem? (i := 1) rfl)) rfl dX10_setRow_34 ?_
        refine lv_iload hx hb dX10_setRow_37 (lv_at hl 1 rfl) ?_
        obtain ⟨q6, hq6, h⟩ := gb_s h
        refine fw_viR (As := [.int y4]) (rest := []) ⟨hx, hb, hml, hown, hts⟩ (k_X5_holds l D cA ad tw hG z 1 (gF10.2.1) y4 q6 hq6) (cwV 1 hts gX10_setRow_X5_holds rfl rfl rfl hdV_X5_holds ⟨Nat.le_of_ble_eq_true rfl, Nat.le_of_ble_eq_true rfl⟩) (fw_preV gF10.2.1.1.1 gF10.2.1.1.2 rfl rfl hK hZ hP hS) rfl hl _ rfl (Nat.le_of_ble_eq_true rfl) hS dX10_setRow_39 ⟨Nat.zero_le _, Nat.zero_le _⟩ (fun H locs hP hS => ?_)
        refine lv_if_eq (tgt := 54) hx hb dX10_setRow_42 (by decide) (fun c7 => ?_) (fun c7 => ?_)
        · replace h := gif_t h c7
          refine lv_iconst (v := (nI 0)) hx hb dX10_setRow_54 (by decide) ?_
          exact fw_iretz hx hb hr hlocks (by decide) (Option.some.inj h) hK hZ hP hS dX10_setRow_55
        · replace h := gif_f h c7
          refine lv_iload_n hx hb dX10_setRow_45 rfl (lv_at hl 3 rfl) ?_
          refine lv_iload hx hb dX10_setRow_46 (lv_at hl 1 rfl) ?_
          refine lv_ishr hx hb dX10_setRow_48 ?_
          refine lv_iconst (v := (nI 1)) hx hb dX10_setRow_49 (by decide) ?_
          refine lv_iand hx hb dX10_setRow_50 ?_
          refine lv_if_eq (tgt := 56) hx hb dX10_setRow_51 (by decide) (fun c8 => ?_) (fun c8 => ?_)
          · replace h := gif_t h c8
            refine lv_iload_n hx hb dX10_setRow_56 rfl (lv_at hl 3 rfl) ?_
            refine lv_iconst (v := (nI 1)) hx hb dX10_setRow_57 (by decide) ?_
            refine lv_iload hx hb dX10_setRow_58 (lv_at hl 1 rfl) ?_
            refine lv_ishl hx hb dX10_setRow_60 ?_
            refine lv_ior hx hb dX10_setRow_61 ?_
            refine lv_topi (fun y9 ey9 => ?_)
            replace h := gl_s h ey9
            refine lv_istore_n (lv' := [(3, .int y9), (2, .int y5), (5, .int y4), (0, .ref (ad 0)), (4, .int x4)]) hx hb dX10_setRow_62 rfl hl (by decide) rfl (fun ls hl => ?_)
            refine lv_aload_n hx hb dX10_setRow_63 rfl (lv_at hl 3 rfl) ?_
            refine fw_getr hx hb hts in_X10_setRow_X10 hown hK hP gF10.1.1 gF10.1.2 rfl 12 (by decide) rfl (hts _ (List.mem_of_getElem? (i := 3) rfl)) rfl dX10_setRow_64 ?_
            refine lv_iload hx hb dX10_setRow_67 (lv_at hl 4 rfl) ?_
            refine lv_iload hx hb dX10_setRow_69 (lv_at hl 2 rfl) ?_
            obtain ⟨h10, h⟩ := gg_s h
            refine fw_iast hx hb hK hG hP hS gF10.2.2.2.2.2.2.2.2.2.2.2.2.2.2.2.1 gF10.2.2.2.2.2.2.2.2.2.2.2.2.2.2.2.2 h10 dX10_setRow_71 (fun z11 H locs ez11 hP hS => ?_)
            replace h := gl_s h ez11
            refine lv_iinc (v := x4 + gm1) (lv' := [(4, .int (x4 + gm1)), (3, .int y9), (2, .int y5), (5, .int y4), (0, .ref (ad 0))]) hx hb dX10_setRow_72 hl (k := 4) rfl rfl (by decide) rfl (fun ls hl => ?_)
            refine lv_goto (tgt := 15) hx hb dX10_setRow_75 (by decide) ?_
            exact hK15 y5 y9 (x4 + gm1) z11 _ _ ls h hP hS (lv_sub hl [4, 2, 1, 0] rfl)
          · replace h := gif_f h c8
            refine lv_iconst (v := (nI 0)) hx hb dX10_setRow_54 (by decide) ?_
            exact fw_iretz hx hb hr hlocks (by decide) (Option.some.inj h) hK hZ hP hS dX10_setRow_55
  unfold f_X10_setRow at h
  refine lv_iload_n hx hb dX10_setRow_0 rfl (lv_at hl 1 rfl) ?_
  refine lv_istore_n (lv' := [(2, .int a1), (0, .ref (ad 0)), (1, .int a1)]) hx hb dX10_setRow_1 rfl hl (by decide) rfl (fun ls hl => ?_)
  refine lv_iconst (v := (nI 0)) hx hb dX10_setRow_2 (by decide) ?_
  refine lv_istore_n (lv' := [(3, .int (nI 0)), (2, .int a1), (0, .ref (ad 0)), (1, .int a1)]) hx hb dX10_setRow_3 rfl hl (by decide) rfl (fun ls hl => ?_)
  refine lv_aload_n hx hb dX10_setRow_4 rfl (lv_at hl 2 rfl) ?_
  refine fw_getr hx hb hts in_X10_setRow_X10 hown hK hP gF10.1.1 gF10.1.2 rfl 0 (by decide) rfl (hts _ (List.mem_of_getElem? (i := 1) rfl)) rfl dX10_setRow_5 ?_
  refine fw_geti hx hb hts in_X10_setRow_X5 hown hK hP gF10.2.1.1.1 gF10.2.1.1.2 rfl 0 (by decide) rfl (hts _ (List.mem_of_getElem? (i := 2) rfl)) rfl dX10_setRow_8 ?_
  refine lv_iconst (v := (nI 1)) hx hb dX10_setRow_11 (by decide) ?_
  refine lv_isub hx hb dX10_setRow_12 ?_
  refine lv_topi (fun y1 ey1 => ?_)
  replace h := gl_s h ey1
  refine lv_istore (lv' := [(4, .int y1), (3, .int (nI 0)), (2, .int a1), (0, .ref (ad 0)), (1, .int a1)]) hx hb dX10_setRow_13 hl (by decide) rfl (fun ls hl => ?_)
  exact j15  gF a1 (nI 0) y1 z _ _ ls h hP hS (lv_sub hl [3, 2, 1, 0] rfl)
theorem in_X10_rowGapsOf_X10 : ∀ w ∈ wsX100, w ∈ wsX10_rowGapsOf := fun w h => List.mem_cons_of_mem _ (List.mem_append_left _ (List.mem_append_right _ (h)))
theorem in_X10_rowGapsOf_X5 : ∀ w ∈ wsX50, w ∈ wsX10_rowGapsOf := fun w h => List.mem_cons_of_mem _ (List.mem_append_right _ (h))
theorem hdV_X10_rowGapsOf : yX10_rowGapsOf.cls = RX10 ∧ yX10_rowGapsOf.cls ≠ "java/lang/invoke/MethodHandle" ∧ yX10_rowGapsOf.cls ≠ "java/lang/invoke/VarHandle" ∧ (parseMethodDescriptor yX10_rowGapsOf.desc).map (fun d => d.parameters.length) = some 1 := by decide +kernel
set_option maxHeartbeats 4000000 in
set_option maxRecDepth 100000 in
theorem k_X10_rowGapsOf (l : Launch) (D : va_G) (cA : Nat → ClassId) (ad : Nat → Nat) (tw : Nat) (hG : gOk ad 315) (z : gS) (a1 : Int32) (res : Int32) (h : f_X10_rowGapsOf a1 z = some res) : gMi l yX10_rowGapsOf wsX10_rowGapsOf (gRm 2 43) D cA ad tw shX 315 [.ref (ad 0), .int a1] z (res, z) := by
  refine Met.ofW (cc := cX10_rowGapsOf) (maxL := 6) (ret := (some .int)) (by decide) rfl ?_
  intro p e s m args below meth c s₁ B hml hv
  obtain ⟨rfl, hP, hK, hZ⟩ := hv
  have hx := B.exec
  have hb := B.bytes
  have hr := B.returns
  have hts := atoms_spec (ws := wsX10_rowGapsOf) B.pre
  have hown : s.vm.findClass RX10 = some m.cls := findClass_of_methodNamed B.named
  have hlocks := B.notSynchronized
  have hS : va_S (gA ad 315) s.heap s.heap [] := va_S.rf
  have hl := lv_entry ([.ref (ad 0), .int a1]) (n := 6) (Nat.le_of_ble_eq_true rfl)
  rw [lg_entry_eq]
  generalize (lg_sl ([.ref (ad 0), .int a1]) ++ List.replicate (6 - (lg_sl ([.ref (ad 0), .int a1])).length) Slot.unset).toArray = ls at hl ⊢
  have hl : lv_has ls 6 [(0, .ref (ad 0)), (1, .int a1)] := hl
  have j10 : ∀ (x1 : Int32) (n : Nat) (x2 : Int32) (x3 : Int32) (x4 : Int32) (x5 : Int32) (H : Heap) (locs : List Loc) (ls : Array Slot), f_X10_rowGapsOf_10 z x1 n x2 x3 x4 x5 = some res → va_P D vwCl (gw cA ad shX 315 z) H → va_S (gA ad 315) s.heap H locs → lv_has ls 6 [(0, .ref (ad 0)), (1, .int x1), (2, .int x2), (3, .int x3), (4, .int x4), (5, .int x5)] → W p l e (headSpec wsX10_rowGapsOf (gRm 2 43)).room s m ([.ref (ad 0), .int a1] : List Value).toArray below meth c H locs 0 0 (MQ below (va_Qi (fun r u => (r, u) = (res, z)) (gPr D cA ad tw shX 315) (gA ad 315)) ([.ref (ad 0), .int a1] : List Value).toArray s 0 0 (gA ad 315)) (F0 m 10 ls []) := by
    intro x1 n
    induction n with
    | zero => intro x2 x3 x4 x5 H locs ls h; exact (gno h).elim
    | succ n hK10 =>
      intro x2 x3 x4 x5 H locs ls h hP hS hl
      replace h : f_X10_rowGapsOf_10_b z x1 (f_X10_rowGapsOf_10 z x1 n) x2 x3 x4 x5 = some res := h
      unfold f_X10_rowGapsOf_10_b at h
      refine lv_iload hx hb dX10_rowGapsOf_10 (lv_at hl 5 rfl) ?_
      refine lv_aload_n hx hb dX10_rowGapsOf_12 rfl (lv_at hl 0 rfl) ?_
      refine fw_getr hx hb hts in_X10_rowGapsOf_X10 hown hK hP gF10.1.1 gF10.1.2 rfl 0 (by decide) rfl (hts _ (List.mem_of_getElem? (i := 1) rfl)) rfl dX10_rowGapsOf_13 ?_
      refine fw_geti hx hb hts in_X10_rowGapsOf_X5 hown hK hP gF10.2.1.1.1 gF10.2.1.1.2 rfl 0 (by decide) rfl (hts _ (List.mem_of_getElem? (i := 2) rfl)) rfl dX10_rowGapsOf_16 ?_
      refine lv_icmp_ge (tgt := 66) hx hb dX10_rowGapsOf_19 (by decide) (fun c1 => ?_) (fun c1 => ?_)
      · replace h := gif_t h c1
        refine lv_iload_n hx hb dX10_rowGapsOf_66 rfl (lv_at hl 2 rfl) ?_
        exact fw_ireti hx hb hr hlocks (congrArg (fun q => (q, z)) (Option.some.inj h)) hK hZ hP hS dX10_rowGapsOf_67
      · replace h := gif_f h c1
        refine lv_aload_n hx hb dX10_rowGapsOf_22 rfl (lv_at hl 0 rfl) ?_
        refine fw_getr hx hb hts in_X10_rowGapsOf_X10 hown hK hP gF10.1.1 gF10.1.2 rfl 0 (by decide) rfl (hts _ (List.mem_of_getElem? (i := 1) rfl)) rfl dX10_rowGapsOf_23 ?_
        refine lv_aload_n hx hb dX10_rowGapsOf_26 rfl (lv_at hl 0 rfl) ?_
        refine fw_getr hx hb hts in_X10_rowGapsOf_X10 hown hK hP gF10.1.1 gF10.1.2 rfl 12 (by decide) rfl (hts _ (List.mem_of_getElem? (i := 3) rfl)) rfl dX10_rowGapsOf_27 ?_
        refine lv_iload hx hb dX10_rowGapsOf_30 (lv_at hl 5 rfl) ?_
        obtain ⟨h2, h⟩ := gg_s h
        refine fw_iald hx hb hK hP gF10.2.2.2.2.2.2.2.2.2.2.2.2.2.2.2.1 gF10.2.2.2.2.2.2.2.2.2.2.2.2.2.2.2.2 h2 dX10_rowGapsOf_32 ?_
        refine lv_iload_n hx hb dX10_rowGapsOf_33 rfl (lv_at hl 1 rfl) ?_
        obtain ⟨q3, hq3, h⟩ := gb_s h
        refine fw_viR (As := [.int (z 296 x5.toNatClampNeg), .int x1]) (rest := []) ⟨hx, hb, hml, hown, hts⟩ (k_X5_owns l D cA ad tw hG z 1 (gF10.2.1) (z 296 x5.toNatClampNeg) x1 q3 hq3) (cwV 2 hts gX10_rowGapsOf_X5_owns rfl rfl rfl hdV_X5_owns ⟨Nat.le_of_ble_eq_true rfl, Nat.le_of_ble_eq_true rfl⟩) (fw_preV gF10.2.1.1.1 gF10.2.1.1.2 rfl rfl hK hZ hP hS) rfl hl _ rfl (Nat.le_of_ble_eq_true rfl) hS dX10_rowGapsOf_34 ⟨Nat.zero_le _, Nat.zero_le _⟩ (fun H locs hP hS => ?_)
        refine lv_if_eq (tgt := 52) hx hb dX10_rowGapsOf_37 (by decide) (fun c4 => ?_) (fun c4 => ?_)
        · replace h := gif_t h c4
          refine lv_iload hx hb dX10_rowGapsOf_52 (lv_at hl 4 rfl) ?_
          refine lv_if_eq (tgt := 60) hx hb dX10_rowGapsOf_54 (by decide) (fun c5 => ?_) (fun c5 => ?_)
          · replace h := gif_t h c5
            refine lv_iinc (v := x5 + (nI 1)) (lv' := [(5, .int (x5 + (nI 1))), (0, .ref (ad 0)), (1, .int x1), (2, .int x2), (3, .int x3), (4, .int x4)]) hx hb dX10_rowGapsOf_60 hl (k := 5) rfl rfl (by decide) rfl (fun ls hl => ?_)
            refine lv_goto (tgt := 10) hx hb dX10_rowGapsOf_63 (by decide) ?_
            exact hK10 x2 x3 x4 (x5 + (nI 1)) _ _ ls h hP hS (lv_sub hl [1, 2, 3, 4, 5, 0] rfl)
          · replace h := gif_f h c5
            refine lv_iinc (v := x3 + (nI 1)) (lv' := [(3, .int (x3 + (nI 1))), (0, .ref (ad 0)), (1, .int x1), (2, .int x2), (4, .int x4), (5, .int x5)]) hx hb dX10_rowGapsOf_57 hl (k := 3) rfl rfl (by decide) rfl (fun ls hl => ?_)
            refine lv_iinc (v := x5 + (nI 1)) (lv' := [(5, .int (x5 + (nI 1))), (3, .int (x3 + (nI 1))), (0, .ref (ad 0)), (1, .int x1), (2, .int x2), (4, .int x4)]) hx hb dX10_rowGapsOf_60 hl (k := 5) rfl rfl (by decide) rfl (fun ls hl => ?_)
            refine lv_goto (tgt := 10) hx hb dX10_rowGapsOf_63 (by decide) ?_
            exact hK10 x2 (x3 + (nI 1)) x4 (x5 + (nI 1)) _ _ ls h hP hS (lv_sub hl [2, 3, 4, 1, 5, 0] rfl)
        · replace h := gif_f h c4
          refine lv_iload_n hx hb dX10_rowGapsOf_40 rfl (lv_at hl 2 rfl) ?_
          refine lv_iload_n hx hb dX10_rowGapsOf_41 rfl (lv_at hl 3 rfl) ?_
          refine lv_iadd hx hb dX10_rowGapsOf_42 ?_
          refine lv_topi (fun y6 ey6 => ?_)
          replace h := gl_s h ey6
          refine lv_istore_n (lv' := [(2, .int y6), (0, .ref (ad 0)), (1, .int x1), (3, .int x3), (4, .int x4), (5, .int x5)]) hx hb dX10_rowGapsOf_43 rfl hl (by decide) rfl (fun ls hl => ?_)
          refine lv_iconst (v := (nI 0)) hx hb dX10_rowGapsOf_44 (by decide) ?_
          refine lv_istore_n (lv' := [(3, .int (nI 0)), (2, .int y6), (0, .ref (ad 0)), (1, .int x1), (4, .int x4), (5, .int x5)]) hx hb dX10_rowGapsOf_45 rfl hl (by decide) rfl (fun ls hl => ?_)
          refine lv_iconst (v := (nI 1)) hx hb dX10_rowGapsOf_46 (by decide) ?_
          refine lv_istore (lv' := [(4, .int (nI 1)), (3, .int (nI 0)), (2, .int y6), (0, .ref (ad 0)), (1, .int x1), (5, .int x5)]) hx hb dX10_rowGapsOf_47 hl (by decide) rfl (fun ls hl => ?_)
          refine lv_goto (tgt := 60) hx hb dX10_rowGapsOf_49 (by decide) ?_
          refine lv_iinc (v := x5 + (nI 1)) (lv' := [(5, .int (x5 + (nI 1))), (4, .int (nI 1)), (3, .int (nI 0)), (2, .int y6), (0, .ref (ad 0)), (1, .int x1)]) hx hb dX10_rowGapsOf_60 hl (k := 5) rfl rfl (by decide) rfl (fun ls hl => ?_)
          refine lv_goto (tgt := 10) hx hb dX10_rowGapsOf_63 (by decide) ?_
          exact hK10 y6 (nI 0) (nI 1) (x5 + (nI 1)) _ _ ls h hP hS (lv_sub hl [4, 5, 3, 2, 1, 0] rfl)
  unfold f_X10_rowGapsOf at h
  refine lv_iconst (v := (nI 0)) hx hb dX10_rowGapsOf_0 (by decide) ?_
  refine lv_istore_n (lv' := [(2, .int (nI 0)), (0, .ref (ad 0)), (1, .int a1)]) hx hb dX10_rowGapsOf_1 rfl hl (by decide) rfl (fun ls hl => ?_)
  refine lv_iconst (v := (nI 0)) hx hb dX10_rowGapsOf_2 (by decide) ?_
  refine lv_istore_n (lv' := [(3, .int (nI 0)), (2, .int (nI 0)), (0, .ref (ad 0)), (1, .int a1)]) hx hb dX10_rowGapsOf_3 rfl hl (by decide) rfl (fun ls hl => ?_)
  refine lv_iconst (v := (nI 0)) hx hb dX10_rowGapsOf_4 (by decide) ?_
  refine lv_istore (lv' := [(4, .int (nI 0)), (3, .int (nI 0)), (2, .int (nI 0)), (0, .ref (ad 0)), (1, .int a1)]) hx hb dX10_rowGapsOf_5 hl (by decide) rfl (fun ls hl => ?_)
  refine lv_iconst (v := (nI 0)) hx hb dX10_rowGapsOf_7 (by decide) ?_
  refine lv_istore (lv' := [(5, .int (nI 0)), (4, .int (nI 0)), (3, .int (nI 0)), (2, .int (nI 0)), (0, .ref (ad 0)), (1, .int a1)]) hx hb dX10_rowGapsOf_8 hl (by decide) rfl (fun ls hl => ?_)
  exact j10 a1 gF (nI 0) (nI 0) (nI 0) (nI 0) _ _ ls h hP hS (lv_sub hl [4, 5, 3, 2, 1, 0] rfl)
theorem in_X10_rowGaps_X10 : ∀ w ∈ wsX100, w ∈ wsX10_rowGaps := fun w h => List.mem_cons_of_mem _ (List.mem_append_left _ (List.mem_append_right _ (h)))
theorem in_X10_rowGaps_X5 : ∀ w ∈ wsX50, w ∈ wsX10_rowGaps := fun w h => List.mem_cons_of_mem _ (List.mem_append_right _ (h))
theorem hdV_X10_rowGaps : yX10_rowGaps.cls = RX10 ∧ yX10_rowGaps.cls ≠ "java/lang/invoke/MethodHandle" ∧ yX10_rowGaps.cls ≠ "java/lang/invoke/VarHandle" ∧ (parseMethodDescriptor yX10_rowGaps.desc).map (fun d => d.parameters.length) = some 0 := by decide +kernel
set_option maxHeartbeats 4000000 in
set_option maxRecDepth 100000 in
theorem k_X10_rowGaps (l : Launch) (D : va_G) (cA : Nat → ClassId) (ad : Nat → Nat) (tw : Nat) (hG : gOk ad 315) (z : gS)  (res : Int32) (h : f_X10_rowGaps  z = some res) : gMi l yX10_rowGaps wsX10_rowGaps (gRm 3 68) D cA ad tw shX 315 [.ref (ad 0)] z (res, z) := by
  refine Met.ofW (cc := cX10_rowGaps) (maxL := 3) (ret := (some .int)) (by decide) rfl ?_
  intro p e s m args below meth c s₁ B hml hv
  obtain ⟨rfl, hP, hK, hZ⟩ := hv
  have hx := B.exec
  have hb := B.bytes
  have hr := B.returns
  have hts := atoms_spec (ws := wsX10_rowGaps) B.pre
  have hown : s.vm.findClass RX10 = some m.cls := findClass_of_methodNamed B.named
  have hlocks := B.notSynchronized
  have hS : va_S (gA ad 315) s.heap s.heap [] := va_S.rf
  have hl := lv_entry ([.ref (ad 0)]) (n := 3) (Nat.le_of_ble_eq_true rfl)
  rw [lg_entry_eq]
  generalize (lg_sl ([.ref (ad 0)]) ++ List.replicate (3 - (lg_sl ([.ref (ad 0)])).length) Slot.unset).toArray = ls at hl ⊢
  have hl : lv_has ls 3 [(0, .ref (ad 0))] := hl
  have j4 : ∀  (n : Nat) (x1 : Int32) (x2 : Int32) (H : Heap) (locs : List Loc) (ls : Array Slot), f_X10_rowGaps_4 z n x1 x2 = some res → va_P D vwCl (gw cA ad shX 315 z) H → va_S (gA ad 315) s.heap H locs → lv_has ls 3 [(0, .ref (ad 0)), (1, .int x1), (2, .int x2)] → W p l e (headSpec wsX10_rowGaps (gRm 3 68)).room s m ([.ref (ad 0)] : List Value).toArray below meth c H locs 0 0 (MQ below (va_Qi (fun r u => (r, u) = (res, z)) (gPr D cA ad tw shX 315) (gA ad 315)) ([.ref (ad 0)] : List Value).toArray s 0 0 (gA ad 315)) (F0 m 4 ls []) := by
    intro n
    induction n with
    | zero => intro x1 x2 H locs ls h; exact (gno h).elim
    | succ n hK4 =>
      intro x1 x2 H locs ls h hP hS hl
      replace h : f_X10_rowGaps_4_b z (f_X10_rowGaps_4 z n) x1 x2 = some res := h
      unfold f_X10_rowGaps_4_b at h
      refine lv_iload_n hx hb dX10_rowGaps_4 rfl (lv_at hl 2 rfl) ?_
      refine lv_aload_n hx hb dX10_rowGaps_5 rfl (lv_at hl 0 rfl) ?_
      refine fw_getr hx hb hts in_X10_rowGaps_X10 hown hK hP gF10.1.1 gF10.1.2 rfl 0 (by decide) rfl (hts _ (List.mem_of_getElem? (i := 1) rfl)) rfl dX10_rowGaps_6 ?_
      refine fw_geti hx hb hts in_X10_rowGaps_X5 hown hK hP gF10.2.1.1.1 gF10.2.1.1.2 rfl 1 (by decide) rfl (hts _ (List.mem_of_getElem? (i := 2) rfl)) rfl dX10_rowGaps_9 ?_
      refine lv_icmp_ge (tgt := 29) hx hb dX10_rowGaps_12 (by decide) (fun c1 => ?_) (fun c1 => ?_)
      · replace h := gif_t h c1
        refine lv_iload_n hx hb dX10_rowGaps_29 rfl (lv_at hl 1 rfl) ?_
        exact fw_ireti hx hb hr hlocks (congrArg (fun q => (q, z)) (Option.some.inj h)) hK hZ hP hS dX10_rowGaps_30
      · replace h := gif_f h c1
        refine lv_iload_n hx hb dX10_rowGaps_15 rfl (lv_at hl 1 rfl) ?_
        refine lv_aload_n hx hb dX10_rowGaps_16 rfl (lv_at hl 0 rfl) ?_
        refine lv_iload_n hx hb dX10_rowGaps_17 rfl (lv_at hl 2 rfl) ?_
        obtain ⟨q2, hq2, h⟩ := gb_s h
        refine fw_viR (As := [.int x2]) (rest := [.int x1]) ⟨hx, hb, hml, hown, hts⟩ (k_X10_rowGapsOf l D cA ad tw hG z x2 q2 hq2) (cwV 1 hts gX10_rowGaps_X10_rowGapsOf rfl rfl rfl hdV_X10_rowGapsOf ⟨Nat.le_of_ble_eq_true rfl, Nat.le_of_ble_eq_true rfl⟩) (fw_preV gF10.1.1 gF10.1.2 rfl rfl hK hZ hP hS) rfl hl _ rfl (Nat.le_of_ble_eq_true rfl) hS dX10_rowGaps_18 ⟨Nat.zero_le _, Nat.zero_le _⟩ (fun H locs hP hS => ?_)
        refine lv_iadd hx hb dX10_rowGaps_21 ?_
        refine lv_topi (fun y3 ey3 => ?_)
        replace h := gl_s h ey3
        refine lv_istore_n (lv' := [(1, .int y3), (0, .ref (ad 0)), (2, .int x2)]) hx hb dX10_rowGaps_22 rfl hl (by decide) rfl (fun ls hl => ?_)
        refine lv_iinc (v := x2 + (nI 1)) (lv' := [(2, .int (x2 + (nI 1))), (1, .int y3), (0, .ref (ad 0))]) hx hb dX10_rowGaps_23 hl (k := 2) rfl rfl (by decide) rfl (fun ls hl => ?_)
        refine lv_goto (tgt := 4) hx hb dX10_rowGaps_26 (by decide) ?_
        exact hK4 y3 (x2 + (nI 1)) _ _ ls h hP hS (lv_sub hl [2, 1, 0] rfl)
  unfold f_X10_rowGaps at h
  refine lv_iconst (v := (nI 0)) hx hb dX10_rowGaps_0 (by decide) ?_
  refine lv_istore_n (lv' := [(1, .int (nI 0)), (0, .ref (ad 0))]) hx hb dX10_rowGaps_1 rfl hl (by decide) rfl (fun ls hl => ?_)
  refine lv_iconst (v := (nI 0)) hx hb dX10_rowGaps_2 (by decide) ?_
  refine lv_istore_n (lv' := [(2, .int (nI 0)), (1, .int (nI 0)), (0, .ref (ad 0))]) hx hb dX10_rowGaps_3 rfl hl (by decide) rfl (fun ls hl => ?_)
  exact j4  gF (nI 0) (nI 0) _ _ ls h hP hS (lv_sub hl [2, 1, 0] rfl)
theorem hdV_X10_gaps : yX10_gaps.cls = RX10 ∧ yX10_gaps.cls ≠ "java/lang/invoke/MethodHandle" ∧ yX10_gaps.cls ≠ "java/lang/invoke/VarHandle" ∧ (parseMethodDescriptor yX10_gaps.desc).map (fun d => d.parameters.length) = some 1 := by decide +kernel
set_option maxHeartbeats 4000000 in
set_option maxRecDepth 100000 in
theorem k_X10_gaps (l : Launch) (D : va_G) (cA : Nat → ClassId) (ad : Nat → Nat) (tw : Nat) (hG : gOk ad 315) (z : gS) (a1 : Int32) (res : Int32 × gS) (h : f_X10_gaps a1 z = some res) : gMi l yX10_gaps wsX10_gaps (gRm 4 90) D cA ad tw shX 315 [.ref (ad 0), .int a1] z res := by
  refine Met.ofW (cc := cX10_gaps) (maxL := 2) (ret := (some .int)) (by decide) rfl ?_
  intro p e s m args below meth c s₁ B hml hv
  obtain ⟨rfl, hP, hK, hZ⟩ := hv
  have hx := B.exec
  have hb := B.bytes
  have hr := B.returns
  have hts := atoms_spec (ws := wsX10_gaps) B.pre
  have hown : s.vm.findClass RX10 = some m.cls := findClass_of_methodNamed B.named
  have hlocks := B.notSynchronized
  have hS : va_S (gA ad 315) s.heap s.heap [] := va_S.rf
  have hl := lv_entry ([.ref (ad 0), .int a1]) (n := 2) (Nat.le_of_ble_eq_true rfl)
  rw [lg_entry_eq]
  generalize (lg_sl ([.ref (ad 0), .int a1]) ++ List.replicate (2 - (lg_sl ([.ref (ad 0), .int a1])).length) Slot.unset).toArray = ls at hl ⊢
  have hl : lv_has ls 2 [(0, .ref (ad 0)), (1, .int a1)] := hl
  unfold f_X10_gaps at h
  refine lv_aload_n hx hb dX10_gaps_0 rfl (lv_at hl 0 rfl) ?_
  refine lv_iload_n hx hb dX10_gaps_1 rfl (lv_at hl 1 rfl) ?_
  obtain ⟨q1, hq1, h⟩ := gb_s h
  refine fw_vi (As := [.int a1]) (rest := []) ⟨hx, hb, hml, hown, hts⟩ (k_X10_setRow l D cA ad tw hG z a1 q1 hq1) (cwV 1 hts gX10_gaps_X10_setRow rfl rfl rfl hdV_X10_setRow ⟨Nat.le_of_ble_eq_true rfl, Nat.le_of_ble_eq_true rfl⟩) (fw_preV gF10.1.1 gF10.1.2 rfl rfl hK hZ hP hS) rfl hl _ rfl (Nat.le_of_ble_eq_true rfl) hS dX10_gaps_2 ⟨Nat.zero_le _, Nat.zero_le _⟩ (fun H locs hP hS => ?_)
  refine lv_if_eq (tgt := 15) hx hb dX10_gaps_5 (by decide) (fun c2 => ?_) (fun c2 => ?_)
  · replace h := gif_t h c2
    refine lv_bipush (v := (-2)) hx hb dX10_gaps_15 (by decide) ?_
    exact fw_ireti hx hb hr hlocks (Option.some.inj h) hK hZ hP hS dX10_gaps_17
  · replace h := gif_f h c2
    refine lv_aload_n hx hb dX10_gaps_8 rfl (lv_at hl 0 rfl) ?_
    obtain ⟨q3, hq3, h⟩ := gb_s h
    refine fw_viR (As := []) (rest := []) ⟨hx, hb, hml, hown, hts⟩ (k_X10_rowGaps l D cA ad tw hG q1.2  q3 hq3) (cwV 0 hts gX10_gaps_X10_rowGaps rfl rfl rfl hdV_X10_rowGaps ⟨Nat.le_of_ble_eq_true rfl, Nat.le_of_ble_eq_true rfl⟩) (fw_preV gF10.1.1 gF10.1.2 rfl rfl hK hZ hP hS) rfl hl _ rfl (Nat.le_of_ble_eq_true rfl) hS dX10_gaps_9 ⟨Nat.zero_le _, Nat.zero_le _⟩ (fun H locs hP hS => ?_)
    refine lv_goto (tgt := 17) hx hb dX10_gaps_12 (by decide) ?_
    exact fw_ireti hx hb hr hlocks (Option.some.inj h) hK hZ hP hS dX10_gaps_17
theorem in_X10_runs_X10 : ∀ w ∈ wsX100, w ∈ wsX10_runs := fun w h => List.mem_cons_of_mem _ (List.mem_append_left _ (List.mem_append_right _ (h)))
theorem in_X10_runs_X5 : ∀ w ∈ wsX50, w ∈ wsX10_runs := fun w h => List.mem_cons_of_mem _ (List.mem_append_right _ (h))
theorem hdV_X10_runs : yX10_runs.cls = RX10 ∧ yX10_runs.cls ≠ "java/lang/invoke/MethodHandle" ∧ yX10_runs.cls ≠ "java/lang/invoke/VarHandle" ∧ (parseMethodDescriptor yX10_runs.desc).map (fun d => d.parameters.length) = some 1 := by decide +kernel
set_option maxHeartbeats 4000000 in
set_option maxRecDepth 100000 in
theorem k_X10_runs (l : Launch) (D : va_G) (cA : Nat → ClassId) (ad : Nat → Nat) (tw : Nat) (hG : gOk ad 315) (z : gS) (a1 : Int32) (res : Int32 × gS) (h : f_X10_runs a1 z = some res) : gMi l yX10_runs wsX10_runs (gRm 3 68) D cA ad tw shX 315 [.ref (ad 0), .int a1] z res := by
  refine Met.ofW (cc := cX10_runs) (maxL := 4) (ret := (some .int)) (by decide) rfl ?_
  intro p e s m args below meth c s₁ B hml hv
  obtain ⟨rfl, hP, hK, hZ⟩ := hv
  have hx := B.exec
  have hb := B.bytes
  have hr := B.returns
  have hts := atoms_spec (ws := wsX10_runs) B.pre
  have hown : s.vm.findClass RX10 = some m.cls := findClass_of_methodNamed B.named
  have hlocks := B.notSynchronized
  have hS : va_S (gA ad 315) s.heap s.heap [] := va_S.rf
  have hl := lv_entry ([.ref (ad 0), .int a1]) (n := 4) (Nat.le_of_ble_eq_true rfl)
  rw [lg_entry_eq]
  generalize (lg_sl ([.ref (ad 0), .int a1]) ++ List.replicate (4 - (lg_sl ([.ref (ad 0), .int a1])).length) Slot.unset).toArray = ls at hl ⊢
  have hl : lv_has ls 4 [(0, .ref (ad 0)), (1, .int a1)] := hl
  have j15 : ∀ (z : gS) (n : Nat) (x2 : Int32) (x3 : Int32) (H : Heap) (locs : List Loc) (ls : Array Slot), f_X10_runs_15 z n x2 x3 = some res → va_P D vwCl (gw cA ad shX 315 z) H → va_S (gA ad 315) s.heap H locs → lv_has ls 4 [(0, .ref (ad 0)), (2, .int x2), (3, .int x3)] → W p l e (headSpec wsX10_runs (gRm 3 68)).room s m ([.ref (ad 0), .int a1] : List Value).toArray below meth c H locs 0 0 (MQ below (va_Qi (fun r u => (r, u) = res) (gPr D cA ad tw shX 315) (gA ad 315)) ([.ref (ad 0), .int a1] : List Value).toArray s 0 0 (gA ad 315)) (F0 m 15 ls []) := by
    intro z n
    induction n with
    | zero => intro x2 x3 H locs ls h; exact (gno h).elim
    | succ n hK15 =>
      intro x2 x3 H locs ls h hP hS hl
      replace h : f_X10_runs_15_b z (f_X10_runs_15 z n) x2 x3 = some res := h
      unfold f_X10_runs_15_b at h
      refine lv_iload_n hx hb dX10_runs_15 rfl (lv_at hl 2 rfl) ?_
      refine lv_aload_n hx hb dX10_runs_16 rfl (lv_at hl 0 rfl) ?_
      refine fw_getr hx hb hts in_X10_runs_X10 hown hK hP gF10.1.1 gF10.1.2 rfl 0 (by decide) rfl (hts _ (List.mem_of_getElem? (i := 1) rfl)) rfl dX10_runs_17 ?_
      refine fw_geti hx hb hts in_X10_runs_X5 hown hK hP gF10.2.1.1.1 gF10.2.1.1.2 rfl 1 (by decide) rfl (hts _ (List.mem_of_getElem? (i := 2) rfl)) rfl dX10_runs_20 ?_
      refine lv_icmp_ge (tgt := 46) hx hb dX10_runs_23 (by decide) (fun c3 => ?_) (fun c3 => ?_)
      · replace h := gif_t h c3
        refine lv_iload_n hx hb dX10_runs_46 rfl (lv_at hl 1 rfl) ?_
        exact fw_ireti hx hb hr hlocks (Option.some.inj h) hK hZ hP hS dX10_runs_47
      · replace h := gif_f h c3
        refine lv_aload_n hx hb dX10_runs_26 rfl (lv_at hl 0 rfl) ?_
        refine lv_iload_n hx hb dX10_runs_27 rfl (lv_at hl 2 rfl) ?_
        obtain ⟨q4, hq4, h⟩ := gb_s h
        refine fw_viR (As := [.int x3]) (rest := []) ⟨hx, hb, hml, hown, hts⟩ (k_X10_rowGapsOf l D cA ad tw hG z x3 q4 hq4) (cwV 1 hts gX10_runs_X10_rowGapsOf rfl rfl rfl hdV_X10_rowGapsOf ⟨Nat.le_of_ble_eq_true rfl, Nat.le_of_ble_eq_true rfl⟩) (fw_preV gF10.1.1 gF10.1.2 rfl rfl hK hZ hP hS) rfl hl _ rfl (Nat.le_of_ble_eq_true rfl) hS dX10_runs_28 ⟨Nat.zero_le _, Nat.zero_le _⟩ (fun H locs hP hS => ?_)
        refine lv_if_ne (tgt := 40) hx hb dX10_runs_31 (by decide) (fun c5 => ?_) (fun c5 => ?_)
        · replace h := gif_f h c5
          refine lv_iinc (v := x3 + (nI 1)) (lv' := [(3, .int (x3 + (nI 1))), (0, .ref (ad 0)), (2, .int x2)]) hx hb dX10_runs_40 hl (k := 2) rfl rfl (by decide) rfl (fun ls hl => ?_)
          refine lv_goto (tgt := 15) hx hb dX10_runs_43 (by decide) ?_
          exact hK15 x2 (x3 + (nI 1)) _ _ ls h hP hS (lv_sub hl [1, 2, 0] rfl)
        · replace h := gif_t h c5
          refine lv_iload_n hx hb dX10_runs_34 rfl (lv_at hl 1 rfl) ?_
          refine lv_iconst (v := (nI 1)) hx hb dX10_runs_35 (by decide) ?_
          refine lv_iload_n hx hb dX10_runs_36 rfl (lv_at hl 2 rfl) ?_
          refine lv_ishl hx hb dX10_runs_37 ?_
          refine lv_ior hx hb dX10_runs_38 ?_
          refine lv_topi (fun y6 ey6 => ?_)
          replace h := gl_s h ey6
          refine lv_istore_n (lv' := [(2, .int y6), (0, .ref (ad 0)), (3, .int x3)]) hx hb dX10_runs_39 rfl hl (by decide) rfl (fun ls hl => ?_)
          refine lv_iinc (v := x3 + (nI 1)) (lv' := [(3, .int (x3 + (nI 1))), (2, .int y6), (0, .ref (ad 0))]) hx hb dX10_runs_40 hl (k := 2) rfl rfl (by decide) rfl (fun ls hl => ?_)
          refine lv_goto (tgt := 15) hx hb dX10_runs_43 (by decide) ?_
          exact hK15 y6 (x3 + (nI 1)) _ _ ls h hP hS (lv_sub hl [2, 1, 0] rfl)
  unfold f_X10_runs at h
  refine lv_aload_n hx hb dX10_runs_0 rfl (lv_at hl 0 rfl) ?_
  refine lv_iload_n hx hb dX10_runs_1 rfl (lv_at hl 1 rfl) ?_
  obtain ⟨q1, hq1, h⟩ := gb_s h
  refine fw_vi (As := [.int a1]) (rest := []) ⟨hx, hb, hml, hown, hts⟩ (k_X10_setRow l D cA ad tw hG z a1 q1 hq1) (cwV 1 hts gX10_runs_X10_setRow rfl rfl rfl hdV_X10_setRow ⟨Nat.le_of_ble_eq_true rfl, Nat.le_of_ble_eq_true rfl⟩) (fw_preV gF10.1.1 gF10.1.2 rfl rfl hK hZ hP hS) rfl hl _ rfl (Nat.le_of_ble_eq_true rfl) hS dX10_runs_2 ⟨Nat.zero_le _, Nat.zero_le _⟩ (fun H locs hP hS => ?_)
  refine lv_if_ne (tgt := 11) hx hb dX10_runs_5 (by decide) (fun c2 => ?_) (fun c2 => ?_)
  · replace h := gif_f h c2
    refine lv_iconst (v := (nI 0)) hx hb dX10_runs_11 (by decide) ?_
    refine lv_istore_n (lv' := [(2, .int (nI 0)), (0, .ref (ad 0)), (1, .int a1)]) hx hb dX10_runs_12 rfl hl (by decide) rfl (fun ls hl => ?_)
    refine lv_iconst (v := (nI 0)) hx hb dX10_runs_13 (by decide) ?_
    refine lv_istore_n (lv' := [(3, .int (nI 0)), (2, .int (nI 0)), (0, .ref (ad 0)), (1, .int a1)]) hx hb dX10_runs_14 rfl hl (by decide) rfl (fun ls hl => ?_)
    exact j15 q1.2  gF (nI 0) (nI 0) _ _ ls h hP hS (lv_sub hl [2, 1, 0] rfl)
  · replace h := gif_t h c2
    refine lv_bipush (v := (-2)) hx hb dX10_runs_8 (by decide) ?_
    exact fw_ireti hx hb hr hlocks (Option.some.inj h) hK hZ hP hS dX10_runs_10
theorem in_X10_kinship_X10 : ∀ w ∈ wsX100, w ∈ wsX10_kinship := fun w h => List.mem_cons_of_mem _ (List.mem_append_left _ (List.mem_append_right _ (h)))
theorem in_X10_kinship_X5 : ∀ w ∈ wsX50, w ∈ wsX10_kinship := fun w h => List.mem_cons_of_mem _ (List.mem_append_right _ (h))
theorem hdV_X10_kinship : yX10_kinship.cls = RX10 ∧ yX10_kinship.cls ≠ "java/lang/invoke/MethodHandle" ∧ yX10_kinship.cls ≠ "java/lang/invoke/VarHandle" ∧ (parseMethodDescriptor yX10_kinship.desc).map (fun d => d.parameters.length) = some 1 := by decide +kernel
set_option maxHeartbeats 4000000 in
set_option maxRecDepth 100000 in
theorem k_X10_kinship (l : Launch) (D : va_G) (cA : Nat → ClassId) (ad : Nat → Nat) (tw : Nat) (hG : gOk ad 315) (z : gS) (a1 : Int32) (res : Int32 × gS) (h : f_X10_kinship a1 z = some res) : gMi l yX10_kinship wsX10_kinship (gRm 2 46) D cA ad tw shX 315 [.ref (ad 0), .int a1] z res := by
  refine Met.ofW (cc := cX10_kinship) (maxL := 4) (ret := (some .int)) (by decide) rfl ?_
  intro p e s m args below meth c s₁ B hml hv
  obtain ⟨rfl, hP, hK, hZ⟩ := hv
  have hx := B.exec
  have hb := B.bytes
  have hr := B.returns
  have hts := atoms_spec (ws := wsX10_kinship) B.pre
  have hown : s.vm.findClass RX10 = some m.cls := findClass_of_methodNamed B.named
  have hlocks := B.notSynchronized
  have hS : va_S (gA ad 315) s.heap s.heap [] := va_S.rf
  have hl := lv_entry ([.ref (ad 0), .int a1]) (n := 4) (Nat.le_of_ble_eq_true rfl)
  rw [lg_entry_eq]
  generalize (lg_sl ([.ref (ad 0), .int a1]) ++ List.replicate (4 - (lg_sl ([.ref (ad 0), .int a1])).length) Slot.unset).toArray = ls at hl ⊢
  have hl : lv_has ls 4 [(0, .ref (ad 0)), (1, .int a1)] := hl
  have j15 : ∀ (z : gS) (n : Nat) (x2 : Int32) (x3 : Int32) (H : Heap) (locs : List Loc) (ls : Array Slot), f_X10_kinship_15 z n x2 x3 = some res → va_P D vwCl (gw cA ad shX 315 z) H → va_S (gA ad 315) s.heap H locs → lv_has ls 4 [(0, .ref (ad 0)), (2, .int x2), (3, .int x3)] → W p l e (headSpec wsX10_kinship (gRm 2 46)).room s m ([.ref (ad 0), .int a1] : List Value).toArray below meth c H locs 0 0 (MQ below (va_Qi (fun r u => (r, u) = res) (gPr D cA ad tw shX 315) (gA ad 315)) ([.ref (ad 0), .int a1] : List Value).toArray s 0 0 (gA ad 315)) (F0 m 15 ls []) := by
    intro z n
    induction n with
    | zero => intro x2 x3 H locs ls h; exact (gno h).elim
    | succ n hK15 =>
      intro x2 x3 H locs ls h hP hS hl
      replace h : f_X10_kinship_15_b z (f_X10_kinship_15 z n) x2 x3 = some res := h
      unfold f_X10_kinship_15_b at h
      refine lv_iload_n hx hb dX10_kinship_15 rfl (lv_at hl 2 rfl) ?_
      refine lv_aload_n hx hb dX10_kinship_16 rfl (lv_at hl 0 rfl) ?_
      refine fw_getr hx hb hts in_X10_kinship_X10 hown hK hP gF10.1.1 gF10.1.2 rfl 0 (by decide) rfl (hts _ (List.mem_of_getElem? (i := 1) rfl)) rfl dX10_kinship_17 ?_
      refine fw_geti hx hb hts in_X10_kinship_X5 hown hK hP gF10.2.1.1.1 gF10.2.1.1.2 rfl 0 (by decide) rfl (hts _ (List.mem_of_getElem? (i := 2) rfl)) rfl dX10_kinship_20 ?_
      refine lv_icmp_ge (tgt := 56) hx hb dX10_kinship_23 (by decide) (fun c3 => ?_) (fun c3 => ?_)
      · replace h := gif_t h c3
        refine lv_iload_n hx hb dX10_kinship_56 rfl (lv_at hl 1 rfl) ?_
        exact fw_ireti hx hb hr hlocks (Option.some.inj h) hK hZ hP hS dX10_kinship_57
      · replace h := gif_f h c3
        refine lv_iload_n hx hb dX10_kinship_26 rfl (lv_at hl 1 rfl) ?_
        refine lv_aload_n hx hb dX10_kinship_27 rfl (lv_at hl 0 rfl) ?_
        refine fw_getr hx hb hts in_X10_kinship_X10 hown hK hP gF10.1.1 gF10.1.2 rfl 0 (by decide) rfl (hts _ (List.mem_of_getElem? (i := 1) rfl)) rfl dX10_kinship_28 ?_
        refine lv_aload_n hx hb dX10_kinship_31 rfl (lv_at hl 0 rfl) ?_
        refine fw_getr hx hb hts in_X10_kinship_X10 hown hK hP gF10.1.1 gF10.1.2 rfl 12 (by decide) rfl (hts _ (List.mem_of_getElem? (i := 3) rfl)) rfl dX10_kinship_32 ?_
        refine lv_iload_n hx hb dX10_kinship_35 rfl (lv_at hl 2 rfl) ?_
        refine lv_iconst (v := (nI 1)) hx hb dX10_kinship_36 (by decide) ?_
        refine lv_isub hx hb dX10_kinship_37 ?_
        obtain ⟨h4, h⟩ := gg_s h
        refine fw_iald hx hb hK hP gF10.2.2.2.2.2.2.2.2.2.2.2.2.2.2.2.1 gF10.2.2.2.2.2.2.2.2.2.2.2.2.2.2.2.2 h4 dX10_kinship_38 ?_
        refine lv_aload_n hx hb dX10_kinship_39 rfl (lv_at hl 0 rfl) ?_
        refine fw_getr hx hb hts in_X10_kinship_X10 hown hK hP gF10.1.1 gF10.1.2 rfl 12 (by decide) rfl (hts _ (List.mem_of_getElem? (i := 3) rfl)) rfl dX10_kinship_40 ?_
        refine lv_iload_n hx hb dX10_kinship_43 rfl (lv_at hl 2 rfl) ?_
        obtain ⟨h5, h⟩ := gg_s h
        refine fw_iald hx hb hK hP gF10.2.2.2.2.2.2.2.2.2.2.2.2.2.2.2.1 gF10.2.2.2.2.2.2.2.2.2.2.2.2.2.2.2.2 h5 dX10_kinship_44 ?_
        obtain ⟨q6, hq6, h⟩ := gb_s h
        refine fw_viR (As := [.int (z 296 (x3 - (nI 1)).toNatClampNeg), .int (z 296 x3.toNatClampNeg)]) (rest := [.int x2]) ⟨hx, hb, hml, hown, hts⟩ (k_X5_common l D cA ad tw hG z 1 (gF10.2.1) (z 296 (x3 - (nI 1)).toNatClampNeg) (z 296 x3.toNatClampNeg) q6 hq6) (cwV 2 hts gX10_kinship_X5_common rfl rfl rfl hdV_X5_common ⟨Nat.le_of_ble_eq_true rfl, Nat.le_of_ble_eq_true rfl⟩) (fw_preV gF10.2.1.1.1 gF10.2.1.1.2 rfl rfl hK hZ hP hS) rfl hl _ rfl (Nat.le_of_ble_eq_true rfl) hS dX10_kinship_45 ⟨Nat.zero_le _, Nat.zero_le _⟩ (fun H locs hP hS => ?_)
        refine lv_iadd hx hb dX10_kinship_48 ?_
        refine lv_topi (fun y7 ey7 => ?_)
        replace h := gl_s h ey7
        refine lv_istore_n (lv' := [(2, .int y7), (0, .ref (ad 0)), (3, .int x3)]) hx hb dX10_kinship_49 rfl hl (by decide) rfl (fun ls hl => ?_)
        refine lv_iinc (v := x3 + (nI 1)) (lv' := [(3, .int (x3 + (nI 1))), (2, .int y7), (0, .ref (ad 0))]) hx hb dX10_kinship_50 hl (k := 2) rfl rfl (by decide) rfl (fun ls hl => ?_)
        refine lv_goto (tgt := 15) hx hb dX10_kinship_53 (by decide) ?_
        exact hK15 y7 (x3 + (nI 1)) _ _ ls h hP hS (lv_sub hl [2, 1, 0] rfl)
  unfold f_X10_kinship at h
  refine lv_aload_n hx hb dX10_kinship_0 rfl (lv_at hl 0 rfl) ?_
  refine lv_iload_n hx hb dX10_kinship_1 rfl (lv_at hl 1 rfl) ?_
  obtain ⟨q1, hq1, h⟩ := gb_s h
  refine fw_vi (As := [.int a1]) (rest := []) ⟨hx, hb, hml, hown, hts⟩ (k_X10_setRow l D cA ad tw hG z a1 q1 hq1) (cwV 1 hts gX10_kinship_X10_setRow rfl rfl rfl hdV_X10_setRow ⟨Nat.le_of_ble_eq_true rfl, Nat.le_of_ble_eq_true rfl⟩) (fw_preV gF10.1.1 gF10.1.2 rfl rfl hK hZ hP hS) rfl hl _ rfl (Nat.le_of_ble_eq_true rfl) hS dX10_kinship_2 ⟨Nat.zero_le _, Nat.zero_le _⟩ (fun H locs hP hS => ?_)
  refine lv_if_ne (tgt := 11) hx hb dX10_kinship_5 (by decide) (fun c2 => ?_) (fun c2 => ?_)
  · replace h := gif_f h c2
    refine lv_iconst (v := (nI 0)) hx hb dX10_kinship_11 (by decide) ?_
    refine lv_istore_n (lv' := [(2, .int (nI 0)), (0, .ref (ad 0)), (1, .int a1)]) hx hb dX10_kinship_12 rfl hl (by decide) rfl (fun ls hl => ?_)
    refine lv_iconst (v := (nI 1)) hx hb dX10_kinship_13 (by decide) ?_
    refine lv_istore_n (lv' := [(3, .int (nI 1)), (2, .int (nI 0)), (0, .ref (ad 0)), (1, .int a1)]) hx hb dX10_kinship_14 rfl hl (by decide) rfl (fun ls hl => ?_)
    exact j15 q1.2  gF (nI 0) (nI 1) _ _ ls h hP hS (lv_sub hl [2, 1, 0] rfl)
  · replace h := gif_t h c2
    refine lv_bipush (v := (-2)) hx hb dX10_kinship_8 (by decide) ?_
    exact fw_ireti hx hb hr hlocks (Option.some.inj h) hK hZ hP hS dX10_kinship_10
theorem in_X10_kin_X0 : ∀ w ∈ wsX00, w ∈ wsX10_kin := fun w h => List.mem_cons_of_mem _ (List.mem_append_left _ (List.mem_append_right _ (h)))
theorem in_X10_kin_X10 : ∀ w ∈ wsX100, w ∈ wsX10_kin := fun w h => List.mem_cons_of_mem _ (List.mem_append_left _ (List.mem_append_left _ (List.mem_append_right _ (h))))
theorem hdV_X10_kin : yX10_kin.cls = RX10 ∧ yX10_kin.cls ≠ "java/lang/invoke/MethodHandle" ∧ yX10_kin.cls ≠ "java/lang/invoke/VarHandle" ∧ (parseMethodDescriptor yX10_kin.desc).map (fun d => d.parameters.length) = some 1 := by decide +kernel
set_option maxHeartbeats 4000000 in
set_option maxRecDepth 100000 in
theorem k_X10_kin (l : Launch) (D : va_G) (cA : Nat → ClassId) (ad : Nat → Nat) (tw : Nat) (hG : gOk ad 315) (z : gS) (a1 : Int32) (res : Int32 × gS) (h : f_X10_kin a1 z = some res) : gMi l yX10_kin wsX10_kin (gRm 4 91) D cA ad tw shX 315 [.ref (ad 0), .int a1] z res := by
  refine Met.ofW (cc := cX10_kin) (maxL := 2) (ret := (some .int)) (by decide) rfl ?_
  intro p e s m args below meth c s₁ B hml hv
  obtain ⟨rfl, hP, hK, hZ⟩ := hv
  have hx := B.exec
  have hb := B.bytes
  have hr := B.returns
  have hts := atoms_spec (ws := wsX10_kin) B.pre
  have hown : s.vm.findClass RX10 = some m.cls := findClass_of_methodNamed B.named
  have hlocks := B.notSynchronized
  have hS : va_S (gA ad 315) s.heap s.heap [] := va_S.rf
  have hl := lv_entry ([.ref (ad 0), .int a1]) (n := 2) (Nat.le_of_ble_eq_true rfl)
  rw [lg_entry_eq]
  generalize (lg_sl ([.ref (ad 0), .int a1]) ++ List.replicate (2 - (lg_sl ([.ref (ad 0), .int a1])).length) Slot.unset).toArray = ls at hl ⊢
  have hl : lv_has ls 2 [(0, .ref (ad 0)), (1, .int a1)] := hl
  unfold f_X10_kin at h
  refine lv_iload_n hx hb dX10_kin_0 rfl (lv_at hl 1 rfl) ?_
  refine lv_if_eq (tgt := 12) hx hb dX10_kin_1 (by decide) (fun c1 => ?_) (fun c1 => ?_)
  · replace h := gif_t h c1
    refine lv_aload_n hx hb dX10_kin_12 rfl (lv_at hl 0 rfl) ?_
    refine fw_getr hx hb hts in_X10_kin_X10 hown hK hP gF10.1.1 gF10.1.2 rfl 6 (by decide) rfl (hts _ (List.mem_of_getElem? (i := 1) rfl)) rfl dX10_kin_13 ?_
    refine lv_aload_n hx hb dX10_kin_16 rfl (lv_at hl 0 rfl) ?_
    refine fw_getr hx hb hts in_X10_kin_X10 hown hK hP gF10.1.1 gF10.1.2 rfl 0 (by decide) rfl (hts _ (List.mem_of_getElem? (i := 2) rfl)) rfl dX10_kin_17 ?_
    obtain ⟨q2, hq2, h⟩ := gb_s h
    refine fw_vv (As := [.ref (ad 1)]) (rest := []) ⟨hx, hb, hml, hown, hts⟩ (k_X0_make l D cA ad tw hG z 153 (gF10.2.2.2.2.2.2.2.1) 1 (gF10.2.1) q2 hq2) (cwV 1 hts gX10_kin_X0_make rfl rfl rfl hdV_X0_make ⟨Nat.le_of_ble_eq_true rfl, Nat.le_of_ble_eq_true rfl⟩) (fw_preV gF10.2.2.2.2.2.2.2.1.1.1 gF10.2.2.2.2.2.2.2.1.1.2 rfl rfl hK hZ hP hS) rfl hl _ rfl (Nat.le_of_ble_eq_true rfl) hS dX10_kin_20 ⟨Nat.zero_le _, Nat.zero_le _⟩ (fun H locs hP hS => ?_)
    refine lv_iload_n hx hb dX10_kin_23 rfl (lv_at hl 1 rfl) ?_
    refine lv_if_ne (tgt := 37) hx hb dX10_kin_24 (by decide) (fun c3 => ?_) (fun c3 => ?_)
    · replace h := gif_f h c3
      refine lv_aload_n hx hb dX10_kin_37 rfl (lv_at hl 0 rfl) ?_
      refine fw_getr hx hb hts in_X10_kin_X10 hown hK hP gF10.1.1 gF10.1.2 rfl 6 (by decide) rfl (hts _ (List.mem_of_getElem? (i := 1) rfl)) rfl dX10_kin_38 ?_
      refine lv_aload_n hx hb dX10_kin_41 rfl (lv_at hl 0 rfl) ?_
      refine fw_getr hx hb hts in_X10_kin_X10 hown hK hP gF10.1.1 gF10.1.2 rfl 0 (by decide) rfl (hts _ (List.mem_of_getElem? (i := 2) rfl)) rfl dX10_kin_42 ?_
      obtain ⟨q4, hq4, h⟩ := gb_s h
      refine fw_viR (As := [.ref (ad 1)]) (rest := []) ⟨hx, hb, hml, hown, hts⟩ (k_X0_firstOrder l D cA ad tw hG q2 153 (gF10.2.2.2.2.2.2.2.1) 1 (gF10.2.1) q4 hq4) (cwV 1 hts gX10_kin_X0_firstOrder rfl rfl rfl hdV_X0_firstOrder ⟨Nat.le_of_ble_eq_true rfl, Nat.le_of_ble_eq_true rfl⟩) (fw_preV gF10.2.2.2.2.2.2.2.1.1.1 gF10.2.2.2.2.2.2.2.1.1.2 rfl rfl hK hZ hP hS) rfl hl _ rfl (Nat.le_of_ble_eq_true rfl) hS dX10_kin_45 ⟨Nat.zero_le _, Nat.zero_le _⟩ (fun H locs hP hS => ?_)
      exact fw_ireti hx hb hr hlocks (Option.some.inj h) hK hZ hP hS dX10_kin_48
    · replace h := gif_t h c3
      refine lv_aload_n hx hb dX10_kin_27 rfl (lv_at hl 0 rfl) ?_
      refine fw_getr hx hb hts in_X10_kin_X10 hown hK hP gF10.1.1 gF10.1.2 rfl 6 (by decide) rfl (hts _ (List.mem_of_getElem? (i := 1) rfl)) rfl dX10_kin_28 ?_
      refine fw_geti hx hb hts in_X10_kin_X0 hown hK hP gF10.2.2.2.2.2.2.2.1.1.1 gF10.2.2.2.2.2.2.2.1.1.2 rfl 1 (by decide) rfl (hts _ (List.mem_of_getElem? (i := 3) rfl)) rfl dX10_kin_31 ?_
      refine lv_goto (tgt := 48) hx hb dX10_kin_34 (by decide) ?_
      exact fw_ireti hx hb hr hlocks (Option.some.inj h) hK hZ hP hS dX10_kin_48
  · replace h := gif_f h c1
    refine lv_iload_n hx hb dX10_kin_4 rfl (lv_at hl 1 rfl) ?_
    refine lv_iconst (v := (nI 1)) hx hb dX10_kin_5 (by decide) ?_
    refine lv_icmp_eq (tgt := 12) hx hb dX10_kin_6 (by decide) (fun c5 => ?_) (fun c5 => ?_)
    · replace h := gif_t h c5
      refine lv_aload_n hx hb dX10_kin_12 rfl (lv_at hl 0 rfl) ?_
      refine fw_getr hx hb hts in_X10_kin_X10 hown hK hP gF10.1.1 gF10.1.2 rfl 6 (by decide) rfl (hts _ (List.mem_of_getElem? (i := 1) rfl)) rfl dX10_kin_13 ?_
      refine lv_aload_n hx hb dX10_kin_16 rfl (lv_at hl 0 rfl) ?_
      refine fw_getr hx hb hts in_X10_kin_X10 hown hK hP gF10.1.1 gF10.1.2 rfl 0 (by decide) rfl (hts _ (List.mem_of_getElem? (i := 2) rfl)) rfl dX10_kin_17 ?_
      obtain ⟨q6, hq6, h⟩ := gb_s h
      refine fw_vv (As := [.ref (ad 1)]) (rest := []) ⟨hx, hb, hml, hown, hts⟩ (k_X0_make l D cA ad tw hG z 153 (gF10.2.2.2.2.2.2.2.1) 1 (gF10.2.1) q6 hq6) (cwV 1 hts gX10_kin_X0_make rfl rfl rfl hdV_X0_make ⟨Nat.le_of_ble_eq_true rfl, Nat.le_of_ble_eq_true rfl⟩) (fw_preV gF10.2.2.2.2.2.2.2.1.1.1 gF10.2.2.2.2.2.2.2.1.1.2 rfl rfl hK hZ hP hS) rfl hl _ rfl (Nat.le_of_ble_eq_true rfl) hS dX10_kin_20 ⟨Nat.zero_le _, Nat.zero_le _⟩ (fun H locs hP hS => ?_)
      refine lv_iload_n hx hb dX10_kin_23 rfl (lv_at hl 1 rfl) ?_
      refine lv_if_ne (tgt := 37) hx hb dX10_kin_24 (by decide) (fun c7 => ?_) (fun c7 => ?_)
      · replace h := gif_f h c7
        refine lv_aload_n hx hb dX10_kin_37 rfl (lv_at hl 0 rfl) ?_
        refine fw_getr hx hb hts in_X10_kin_X10 hown hK hP gF10.1.1 gF10.1.2 rfl 6 (by decide) rfl (hts _ (List.mem_of_getElem? (i := 1) rfl)) rfl dX10_kin_38 ?_
        refine lv_aload_n hx hb dX10_kin_41 rfl (lv_at hl 0 rfl) ?_
        refine fw_getr hx hb hts in_X10_kin_X10 hown hK hP gF10.1.1 gF10.1.2 rfl 0 (by decide) rfl (hts _ (List.mem_of_getElem? (i := 2) rfl)) rfl dX10_kin_42 ?_
        obtain ⟨q8, hq8, h⟩ := gb_s h
        refine fw_viR (As := [.ref (ad 1)]) (rest := []) ⟨hx, hb, hml, hown, hts⟩ (k_X0_firstOrder l D cA ad tw hG q6 153 (gF10.2.2.2.2.2.2.2.1) 1 (gF10.2.1) q8 hq8) (cwV 1 hts gX10_kin_X0_firstOrder rfl rfl rfl hdV_X0_firstOrder ⟨Nat.le_of_ble_eq_true rfl, Nat.le_of_ble_eq_true rfl⟩) (fw_preV gF10.2.2.2.2.2.2.2.1.1.1 gF10.2.2.2.2.2.2.2.1.1.2 rfl rfl hK hZ hP hS) rfl hl _ rfl (Nat.le_of_ble_eq_true rfl) hS dX10_kin_45 ⟨Nat.zero_le _, Nat.zero_le _⟩ (fun H locs hP hS => ?_)
        exact fw_ireti hx hb hr hlocks (Option.some.inj h) hK hZ hP hS dX10_kin_48
      · replace h := gif_t h c7
        refine lv_aload_n hx hb dX10_kin_27 rfl (lv_at hl 0 rfl) ?_
        refine fw_getr hx hb hts in_X10_kin_X10 hown hK hP gF10.1.1 gF10.1.2 rfl 6 (by decide) rfl (hts _ (List.mem_of_getElem? (i := 1) rfl)) rfl dX10_kin_28 ?_
        refine fw_geti hx hb hts in_X10_kin_X0 hown hK hP gF10.2.2.2.2.2.2.2.1.1.1 gF10.2.2.2.2.2.2.2.1.1.2 rfl 1 (by decide) rfl (hts _ (List.mem_of_getElem? (i := 3) rfl)) rfl dX10_kin_31 ?_
        refine lv_goto (tgt := 48) hx hb dX10_kin_34 (by decide) ?_
        exact fw_ireti hx hb hr hlocks (Option.some.inj h) hK hZ hP hS dX10_kin_48
    · replace h := gif_f h c5
      refine lv_bipush (v := (-2)) hx hb dX10_kin_9 (by decide) ?_
      exact fw_ireti hx hb hr hlocks (Option.some.inj h) hK hZ hP hS dX10_kin_11
theorem in_X10_shared_X10 : ∀ w ∈ wsX100, w ∈ wsX10_shared := fun w h => List.mem_cons_of_mem _ (List.mem_append_left _ (List.mem_append_right _ (h)))
theorem hdV_X10_shared : yX10_shared.cls = RX10 ∧ yX10_shared.cls ≠ "java/lang/invoke/MethodHandle" ∧ yX10_shared.cls ≠ "java/lang/invoke/VarHandle" ∧ (parseMethodDescriptor yX10_shared.desc).map (fun d => d.parameters.length) = some 2 := by decide +kernel
set_option maxHeartbeats 4000000 in
set_option maxRecDepth 100000 in
theorem k_X10_shared (l : Launch) (D : va_G) (cA : Nat → ClassId) (ad : Nat → Nat) (tw : Nat) (hG : gOk ad 315) (z : gS) (a1 : Int32) (a2 : Int32) (res : Int32) (h : f_X10_shared a1 a2 z = some res) : gMi l yX10_shared wsX10_shared (gRm 2 43) D cA ad tw shX 315 [.ref (ad 0), .int a1, .int a2] z (res, z) := by
  refine Met.ofW (cc := cX10_shared) (maxL := 3) (ret := (some .int)) (by decide) rfl ?_
  intro p e s m args below meth c s₁ B hml hv
  obtain ⟨rfl, hP, hK, hZ⟩ := hv
  have hx := B.exec
  have hb := B.bytes
  have hr := B.returns
  have hts := atoms_spec (ws := wsX10_shared) B.pre
  have hown : s.vm.findClass RX10 = some m.cls := findClass_of_methodNamed B.named
  have hlocks := B.notSynchronized
  have hS : va_S (gA ad 315) s.heap s.heap [] := va_S.rf
  have hl := lv_entry ([.ref (ad 0), .int a1, .int a2]) (n := 3) (Nat.le_of_ble_eq_true rfl)
  rw [lg_entry_eq]
  generalize (lg_sl ([.ref (ad 0), .int a1, .int a2]) ++ List.replicate (3 - (lg_sl ([.ref (ad 0), .int a1, .int a2])).length) Slot.unset).toArray = ls at hl ⊢
  have hl : lv_has ls 3 [(0, .ref (ad 0)), (1, .int a1), (2, .int a2)] := hl
  unfold f_X10_shared at h
  refine lv_aload_n hx hb dX10_shared_0 rfl (lv_at hl 0 rfl) ?_
  refine fw_getr hx hb hts in_X10_shared_X10 hown hK hP gF10.1.1 gF10.1.2 rfl 0 (by decide) rfl (hts _ (List.mem_of_getElem? (i := 1) rfl)) rfl dX10_shared_1 ?_
  refine lv_iload_n hx hb dX10_shared_4 rfl (lv_at hl 1 rfl) ?_
  obtain ⟨q1, hq1, h⟩ := gb_s h
  refine fw_viR (As := [.int a1]) (rest := []) ⟨hx, hb, hml, hown, hts⟩ (k_X5_holds l D cA ad tw hG z 1 (gF10.2.1) a1 q1 hq1) (cwV 1 hts gX10_shared_X5_holds rfl rfl rfl hdV_X5_holds ⟨Nat.le_of_ble_eq_true rfl, Nat.le_of_ble_eq_true rfl⟩) (fw_preV gF10.2.1.1.1 gF10.2.1.1.2 rfl rfl hK hZ hP hS) rfl hl _ rfl (Nat.le_of_ble_eq_true rfl) hS dX10_shared_5 ⟨Nat.zero_le _, Nat.zero_le _⟩ (fun H locs hP hS => ?_)
  refine lv_if_eq (tgt := 34) hx hb dX10_shared_8 (by decide) (fun c2 => ?_) (fun c2 => ?_)
  · replace h := gif_t h c2
    refine lv_iconst (v := gm1) hx hb dX10_shared_34 (by decide) ?_
    exact fw_ireti hx hb hr hlocks (congrArg (fun q => (q, z)) (Option.some.inj h)) hK hZ hP hS dX10_shared_35
  · replace h := gif_f h c2
    refine lv_aload_n hx hb dX10_shared_11 rfl (lv_at hl 0 rfl) ?_
    refine fw_getr hx hb hts in_X10_shared_X10 hown hK hP gF10.1.1 gF10.1.2 rfl 0 (by decide) rfl (hts _ (List.mem_of_getElem? (i := 1) rfl)) rfl dX10_shared_12 ?_
    refine lv_iload_n hx hb dX10_shared_15 rfl (lv_at hl 2 rfl) ?_
    obtain ⟨q3, hq3, h⟩ := gb_s h
    refine fw_viR (As := [.int a2]) (rest := []) ⟨hx, hb, hml, hown, hts⟩ (k_X5_holds l D cA ad tw hG z 1 (gF10.2.1) a2 q3 hq3) (cwV 1 hts gX10_shared_X5_holds rfl rfl rfl hdV_X5_holds ⟨Nat.le_of_ble_eq_true rfl, Nat.le_of_ble_eq_true rfl⟩) (fw_preV gF10.2.1.1.1 gF10.2.1.1.2 rfl rfl hK hZ hP hS) rfl hl _ rfl (Nat.le_of_ble_eq_true rfl) hS dX10_shared_16 ⟨Nat.zero_le _, Nat.zero_le _⟩ (fun H locs hP hS => ?_)
    refine lv_if_eq (tgt := 34) hx hb dX10_shared_19 (by decide) (fun c4 => ?_) (fun c4 => ?_)
    · replace h := gif_t h c4
      refine lv_iconst (v := gm1) hx hb dX10_shared_34 (by decide) ?_
      exact fw_ireti hx hb hr hlocks (congrArg (fun q => (q, z)) (Option.some.inj h)) hK hZ hP hS dX10_shared_35
    · replace h := gif_f h c4
      refine lv_aload_n hx hb dX10_shared_22 rfl (lv_at hl 0 rfl) ?_
      refine fw_getr hx hb hts in_X10_shared_X10 hown hK hP gF10.1.1 gF10.1.2 rfl 0 (by decide) rfl (hts _ (List.mem_of_getElem? (i := 1) rfl)) rfl dX10_shared_23 ?_
      refine lv_iload_n hx hb dX10_shared_26 rfl (lv_at hl 1 rfl) ?_
      refine lv_iload_n hx hb dX10_shared_27 rfl (lv_at hl 2 rfl) ?_
      obtain ⟨q5, hq5, h⟩ := gb_s h
      refine fw_viR (As := [.int a1, .int a2]) (rest := []) ⟨hx, hb, hml, hown, hts⟩ (k_X5_common l D cA ad tw hG z 1 (gF10.2.1) a1 a2 q5 hq5) (cwV 2 hts gX10_shared_X5_common rfl rfl rfl hdV_X5_common ⟨Nat.le_of_ble_eq_true rfl, Nat.le_of_ble_eq_true rfl⟩) (fw_preV gF10.2.1.1.1 gF10.2.1.1.2 rfl rfl hK hZ hP hS) rfl hl _ rfl (Nat.le_of_ble_eq_true rfl) hS dX10_shared_28 ⟨Nat.zero_le _, Nat.zero_le _⟩ (fun H locs hP hS => ?_)
      refine lv_goto (tgt := 35) hx hb dX10_shared_31 (by decide) ?_
      exact fw_ireti hx hb hr hlocks (congrArg (fun q => (q, z)) (Option.some.inj h)) hK hZ hP hS dX10_shared_35
theorem in_X10_chain_X10 : ∀ w ∈ wsX100, w ∈ wsX10_chain := fun w h => List.mem_cons_of_mem _ (List.mem_append_left _ (List.mem_append_right _ (h)))
theorem in_X10_chain_X5 : ∀ w ∈ wsX50, w ∈ wsX10_chain := fun w h => List.mem_cons_of_mem _ (List.mem_append_right _ (h))
theorem hdV_X10_chain : yX10_chain.cls = RX10 ∧ yX10_chain.cls ≠ "java/lang/invoke/MethodHandle" ∧ yX10_chain.cls ≠ "java/lang/invoke/VarHandle" ∧ (parseMethodDescriptor yX10_chain.desc).map (fun d => d.parameters.length) = some 1 := by decide +kernel
set_option maxHeartbeats 4000000 in
set_option maxRecDepth 100000 in
theorem k_X10_chain (l : Launch) (D : va_G) (cA : Nat → ClassId) (ad : Nat → Nat) (tw : Nat) (hG : gOk ad 315) (z : gS) (a1 : Int32) (res : Int32) (h : f_X10_chain a1 z = some res) : gMi l yX10_chain wsX10_chain (gRm 4 91) D cA ad tw shX 315 [.ref (ad 0), .int a1] z (res, z) := by
  refine Met.ofW (cc := cX10_chain) (maxL := 6) (ret := (some .int)) (by decide) rfl ?_
  intro p e s m args below meth c s₁ B hml hv
  obtain ⟨rfl, hP, hK, hZ⟩ := hv
  have hx := B.exec
  have hb := B.bytes
  have hr := B.returns
  have hts := atoms_spec (ws := wsX10_chain) B.pre
  have hown : s.vm.findClass RX10 = some m.cls := findClass_of_methodNamed B.named
  have hlocks := B.notSynchronized
  have hS : va_S (gA ad 315) s.heap s.heap [] := va_S.rf
  have hl := lv_entry ([.ref (ad 0), .int a1]) (n := 6) (Nat.le_of_ble_eq_true rfl)
  rw [lg_entry_eq]
  generalize (lg_sl ([.ref (ad 0), .int a1]) ++ List.replicate (6 - (lg_sl ([.ref (ad 0), .int a1])).length) Slot.unset).toArray = ls at hl ⊢
  have hl : lv_has ls 6 [(0, .ref (ad 0)), (1, .int a1)] := hl
  have j27 : ∀  (n : Nat) (x2 : Int32) (x3 : Int32) (x4 : Int32) (x5 : Int32) (H : Heap) (locs : List Loc) (ls : Array Slot), f_X10_chain_27 z n x2 x3 x4 x5 = some res → va_P D vwCl (gw cA ad shX 315 z) H → va_S (gA ad 315) s.heap H locs → lv_has ls 6 [(0, .ref (ad 0)), (2, .int x2), (3, .int x3), (4, .int x4), (5, .int x5)] → W p l e (headSpec wsX10_chain (gRm 4 91)).room s m ([.ref (ad 0), .int a1] : List Value).toArray below meth c H locs 0 0 (MQ below (va_Qi (fun r u => (r, u) = (res, z)) (gPr D cA ad tw shX 315) (gA ad 315)) ([.ref (ad 0), .int a1] : List Value).toArray s 0 0 (gA ad 315)) (F0 m 27 ls []) := by
    intro n
    induction n with
    | zero => intro x2 x3 x4 x5 H locs ls h; exact (gno h).elim
    | succ n hK27 =>
      intro x2 x3 x4 x5 H locs ls h hP hS hl
      replace h : f_X10_chain_27_b z (f_X10_chain_27 z n) x2 x3 x4 x5 = some res := h
      unfold f_X10_chain_27_b at h
      refine lv_iload hx hb dX10_chain_27 (lv_at hl 4 rfl) ?_
      refine lv_aload_n hx hb dX10_chain_29 rfl (lv_at hl 0 rfl) ?_
      refine fw_getr hx hb hts in_X10_chain_X10 hown hK hP gF10.1.1 gF10.1.2 rfl 0 (by decide) rfl (hts _ (List.mem_of_getElem? (i := 1) rfl)) rfl dX10_chain_30 ?_
      refine fw_geti hx hb hts in_X10_chain_X5 hown hK hP gF10.2.1.1.1 gF10.2.1.1.2 rfl 0 (by decide) rfl (hts _ (List.mem_of_getElem? (i := 2) rfl)) rfl dX10_chain_33 ?_
      refine lv_icmp_ge (tgt := 72) hx hb dX10_chain_36 (by decide) (fun c5 => ?_) (fun c5 => ?_)
      · replace h := gif_t h c5
        refine lv_iload hx hb dX10_chain_72 (lv_at hl 3 rfl) ?_
        exact fw_ireti hx hb hr hlocks (congrArg (fun q => (q, z)) (Option.some.inj h)) hK hZ hP hS dX10_chain_74
      · replace h := gif_f h c5
        refine lv_aload_n hx hb dX10_chain_39 rfl (lv_at hl 0 rfl) ?_
        refine fw_getr hx hb hts in_X10_chain_X10 hown hK hP gF10.1.1 gF10.1.2 rfl 0 (by decide) rfl (hts _ (List.mem_of_getElem? (i := 1) rfl)) rfl dX10_chain_40 ?_
        refine lv_iload_n hx hb dX10_chain_43 rfl (lv_at hl 1 rfl) ?_
        refine lv_iload_n hx hb dX10_chain_44 rfl (lv_at hl 2 rfl) ?_
        obtain ⟨q6, hq6, h⟩ := gb_s h
        refine fw_viR (As := [.int x2, .int x3]) (rest := []) ⟨hx, hb, hml, hown, hts⟩ (k_X5_nearest l D cA ad tw hG z 1 (gF10.2.1) x2 x3 q6 hq6) (cwV 2 hts gX10_chain_X5_nearest rfl rfl rfl hdV_X5_nearest ⟨Nat.le_of_ble_eq_true rfl, Nat.le_of_ble_eq_true rfl⟩) (fw_preV gF10.2.1.1.1 gF10.2.1.1.2 rfl rfl hK hZ hP hS) rfl hl _ rfl (Nat.le_of_ble_eq_true rfl) hS dX10_chain_45 ⟨Nat.zero_le _, Nat.zero_le _⟩ (fun H locs hP hS => ?_)
        refine lv_istore_n (lv' := [(2, .int q6), (0, .ref (ad 0)), (3, .int x3), (4, .int x4), (5, .int x5)]) hx hb dX10_chain_48 rfl hl (by decide) rfl (fun ls hl => ?_)
        refine lv_iload_n hx hb dX10_chain_49 rfl (lv_at hl 2 rfl) ?_
        refine lv_iconst (v := (nI 1)) hx hb dX10_chain_50 (by decide) ?_
        refine lv_iload_n hx hb dX10_chain_51 rfl (lv_at hl 0 rfl) ?_
        refine lv_ishl hx hb dX10_chain_52 ?_
        refine lv_ior hx hb dX10_chain_53 ?_
        refine lv_topi (fun y7 ey7 => ?_)
        replace h := gl_s h ey7
        refine lv_istore_n (lv' := [(3, .int y7), (2, .int q6), (0, .ref (ad 0)), (4, .int x4), (5, .int x5)]) hx hb dX10_chain_54 rfl hl (by decide) rfl (fun ls hl => ?_)
        refine lv_iload hx hb dX10_chain_55 (lv_at hl 3 rfl) ?_
        refine lv_bipush (v := (nI 10)) hx hb dX10_chain_57 (by decide) ?_
        refine lv_imul hx hb dX10_chain_59 ?_
        refine lv_iload_n hx hb dX10_chain_60 rfl (lv_at hl 1 rfl) ?_
        refine lv_iadd hx hb dX10_chain_61 ?_
        refine lv_iconst (v := (nI 1)) hx hb dX10_chain_62 (by decide) ?_
        refine lv_iadd hx hb dX10_chain_63 ?_
        refine lv_topi (fun y8 ey8 => ?_)
        replace h := gl_s h ey8
        refine lv_istore (lv' := [(4, .int y8), (3, .int y7), (2, .int q6), (0, .ref (ad 0)), (5, .int x5)]) hx hb dX10_chain_64 hl (by decide) rfl (fun ls hl => ?_)
        refine lv_iinc (v := x5 + (nI 1)) (lv' := [(5, .int (x5 + (nI 1))), (4, .int y8), (3, .int y7), (2, .int q6), (0, .ref (ad 0))]) hx hb dX10_chain_66 hl (k := 4) rfl rfl (by decide) rfl (fun ls hl => ?_)
        refine lv_goto (tgt := 27) hx hb dX10_chain_69 (by decide) ?_
        exact hK27 q6 y7 y8 (x5 + (nI 1)) _ _ ls h hP hS (lv_sub hl [4, 3, 2, 1, 0] rfl)
  unfold f_X10_chain at h
  refine lv_aload_n hx hb dX10_chain_0 rfl (lv_at hl 0 rfl) ?_
  refine fw_getr hx hb hts in_X10_chain_X10 hown hK hP gF10.1.1 gF10.1.2 rfl 0 (by decide) rfl (hts _ (List.mem_of_getElem? (i := 1) rfl)) rfl dX10_chain_1 ?_
  refine lv_iload_n hx hb dX10_chain_4 rfl (lv_at hl 1 rfl) ?_
  obtain ⟨q1, hq1, h⟩ := gb_s h
  refine fw_viR (As := [.int a1]) (rest := []) ⟨hx, hb, hml, hown, hts⟩ (k_X5_holds l D cA ad tw hG z 1 (gF10.2.1) a1 q1 hq1) (cwV 1 hts gX10_chain_X5_holds rfl rfl rfl hdV_X5_holds ⟨Nat.le_of_ble_eq_true rfl, Nat.le_of_ble_eq_true rfl⟩) (fw_preV gF10.2.1.1.1 gF10.2.1.1.2 rfl rfl hK hZ hP hS) rfl hl _ rfl (Nat.le_of_ble_eq_true rfl) hS dX10_chain_5 ⟨Nat.zero_le _, Nat.zero_le _⟩ (fun H locs hP hS => ?_)
  refine lv_if_ne (tgt := 13) hx hb dX10_chain_8 (by decide) (fun c2 => ?_) (fun c2 => ?_)
  · replace h := gif_f h c2
    refine lv_iload_n hx hb dX10_chain_13 rfl (lv_at hl 1 rfl) ?_
    refine lv_istore_n (lv' := [(2, .int a1), (0, .ref (ad 0)), (1, .int a1)]) hx hb dX10_chain_14 rfl hl (by decide) rfl (fun ls hl => ?_)
    refine lv_iconst (v := (nI 1)) hx hb dX10_chain_15 (by decide) ?_
    refine lv_iload_n hx hb dX10_chain_16 rfl (lv_at hl 2 rfl) ?_
    refine lv_ishl hx hb dX10_chain_17 ?_
    refine lv_topi (fun y3 ey3 => ?_)
    replace h := gl_s h ey3
    refine lv_istore_n (lv' := [(3, .int y3), (2, .int a1), (0, .ref (ad 0)), (1, .int a1)]) hx hb dX10_chain_18 rfl hl (by decide) rfl (fun ls hl => ?_)
    refine lv_iload_n hx hb dX10_chain_19 rfl (lv_at hl 3 rfl) ?_
    refine lv_iconst (v := (nI 1)) hx hb dX10_chain_20 (by decide) ?_
    refine lv_iadd hx hb dX10_chain_21 ?_
    refine lv_topi (fun y4 ey4 => ?_)
    replace h := gl_s h ey4
    refine lv_istore (lv' := [(4, .int y4), (3, .int y3), (2, .int a1), (0, .ref (ad 0)), (1, .int a1)]) hx hb dX10_chain_22 hl (by decide) rfl (fun ls hl => ?_)
    refine lv_iconst (v := (nI 1)) hx hb dX10_chain_24 (by decide) ?_
    refine lv_istore (lv' := [(5, .int (nI 1)), (4, .int y4), (3, .int y3), (2, .int a1), (0, .ref (ad 0)), (1, .int a1)]) hx hb dX10_chain_25 hl (by decide) rfl (fun ls hl => ?_)
    exact j27  gF a1 y3 y4 (nI 1) _ _ ls h hP hS (lv_sub hl [4, 3, 2, 1, 0] rfl)
  · replace h := gif_t h c2
    refine lv_iconst (v := gm1) hx hb dX10_chain_11 (by decide) ?_
    exact fw_ireti hx hb hr hlocks (congrArg (fun q => (q, z)) (Option.some.inj h)) hK hZ hP hS dX10_chain_12
theorem in_X10_walk_X10 : ∀ w ∈ wsX100, w ∈ wsX10_walk := fun w h => List.mem_cons_of_mem _ (List.mem_append_left _ (List.mem_append_right _ (h)))
theorem in_X10_walk_X5 : ∀ w ∈ wsX50, w ∈ wsX10_walk := fun w h => List.mem_cons_of_mem _ (List.mem_append_right _ (h))
theorem hdV_X10_walk : yX10_walk.cls = RX10 ∧ yX10_walk.cls ≠ "java/lang/invoke/MethodHandle" ∧ yX10_walk.cls ≠ "java/lang/invoke/VarHandle" ∧ (parseMethodDescriptor yX10_walk.desc).map (fun d => d.parameters.length) = some 1 := by decide +kernel
set_option maxHeartbeats 4000000 in
set_option maxRecDepth 100000 in
theorem k_X10_walk (l : Launch) (D : va_G) (cA : Nat → ClassId) (ad : Nat → Nat) (tw : Nat) (hG : gOk ad 315) (z : gS) (a1 : Int32) (res : Int32) (h : f_X10_walk a1 z = some res) : gMi l yX10_walk wsX10_walk (gRm 5 114) D cA ad tw shX 315 [.ref (ad 0), .int a1] z (res, z) := by
  refine Met.ofW (cc := cX10_walk) (maxL := 6) (ret := (some .int)) (by decide) rfl ?_
  intro p e s m args below meth c s₁ B hml hv
  obtain ⟨rfl, hP, hK, hZ⟩ := hv
  have hx := B.exec
  have hb := B.bytes
  have hr := B.returns
  have hts := atoms_spec (ws := wsX10_walk) B.pre
  have hown : s.vm.findClass RX10 = some m.cls := findClass_of_methodNamed B.named
  have hlocks := B.notSynchronized
  have hS : va_S (gA ad 315) s.heap s.heap [] := va_S.rf
  have hl := lv_entry ([.ref (ad 0), .int a1]) (n := 6) (Nat.le_of_ble_eq_true rfl)
  rw [lg_entry_eq]
  generalize (lg_sl ([.ref (ad 0), .int a1]) ++ List.replicate (6 - (lg_sl ([.ref (ad 0), .int a1])).length) Slot.unset).toArray = ls at hl ⊢
  have hl : lv_has ls 6 [(0, .ref (ad 0)), (1, .int a1)] := hl
  have j19 : ∀ (x1 : Int32) (n : Nat) (x2 : Int32) (x3 : Int32) (x4 : Int32) (H : Heap) (locs : List Loc) (ls : Array Slot), f_X10_walk_19 z x1 n x2 x3 x4 = some res → va_P D vwCl (gw cA ad shX 315 z) H → va_S (gA ad 315) s.heap H locs → lv_has ls 6 [(0, .ref (ad 0)), (1, .int x1), (2, .int x2), (3, .int x3), (4, .int x4)] → W p l e (headSpec wsX10_walk (gRm 5 114)).room s m ([.ref (ad 0), .int a1] : List Value).toArray below meth c H locs 0 0 (MQ below (va_Qi (fun r u => (r, u) = (res, z)) (gPr D cA ad tw shX 315) (gA ad 315)) ([.ref (ad 0), .int a1] : List Value).toArray s 0 0 (gA ad 315)) (F0 m 19 ls []) := by
    intro x1 n
    induction n with
    | zero => intro x2 x3 x4 H locs ls h; exact (gno h).elim
    | succ n hK19 =>
      intro x2 x3 x4 H locs ls h hP hS hl
      replace h : f_X10_walk_19_b z x1 (f_X10_walk_19 z x1 n) x2 x3 x4 = some res := h
      unfold f_X10_walk_19_b at h
      refine lv_iload hx hb dX10_walk_19 (lv_at hl 4 rfl) ?_
      refine lv_aload_n hx hb dX10_walk_21 rfl (lv_at hl 0 rfl) ?_
      refine fw_getr hx hb hts in_X10_walk_X10 hown hK hP gF10.1.1 gF10.1.2 rfl 0 (by decide) rfl (hts _ (List.mem_of_getElem? (i := 1) rfl)) rfl dX10_walk_22 ?_
      refine fw_geti hx hb hts in_X10_walk_X5 hown hK hP gF10.2.1.1.1 gF10.2.1.1.2 rfl 0 (by decide) rfl (hts _ (List.mem_of_getElem? (i := 2) rfl)) rfl dX10_walk_25 ?_
      refine lv_icmp_ge (tgt := 65) hx hb dX10_walk_28 (by decide) (fun c3 => ?_) (fun c3 => ?_)
      · replace h := gif_t h c3
        refine lv_iload_n hx hb dX10_walk_65 rfl (lv_at hl 3 rfl) ?_
        exact fw_ireti hx hb hr hlocks (congrArg (fun q => (q, z)) (Option.some.inj h)) hK hZ hP hS dX10_walk_66
      · replace h := gif_f h c3
        refine lv_aload_n hx hb dX10_walk_31 rfl (lv_at hl 0 rfl) ?_
        refine fw_getr hx hb hts in_X10_walk_X10 hown hK hP gF10.1.1 gF10.1.2 rfl 0 (by decide) rfl (hts _ (List.mem_of_getElem? (i := 1) rfl)) rfl dX10_walk_32 ?_
        refine lv_iload_n hx hb dX10_walk_35 rfl (lv_at hl 1 rfl) ?_
        refine lv_iload_n hx hb dX10_walk_36 rfl (lv_at hl 2 rfl) ?_
        obtain ⟨q4, hq4, h⟩ := gb_s h
        refine fw_viR (As := [.int x1, .int x2]) (rest := []) ⟨hx, hb, hml, hown, hts⟩ (k_X5_foremost l D cA ad tw hG z 1 (gF10.2.1) x1 x2 q4 hq4) (cwV 2 hts gX10_walk_X5_foremost rfl rfl rfl hdV_X5_foremost ⟨Nat.le_of_ble_eq_true rfl, Nat.le_of_ble_eq_true rfl⟩) (fw_preV gF10.2.1.1.1 gF10.2.1.1.2 rfl rfl hK hZ hP hS) rfl hl _ rfl (Nat.le_of_ble_eq_true rfl) hS dX10_walk_37 ⟨Nat.zero_le _, Nat.zero_le _⟩ (fun H locs hP hS => ?_)
        refine lv_istore (lv' := [(5, .int q4), (0, .ref (ad 0)), (1, .int x1), (2, .int x2), (3, .int x3), (4, .int x4)]) hx hb dX10_walk_40 hl (by decide) rfl (fun ls hl => ?_)
        refine lv_iload_n hx hb dX10_walk_42 rfl (lv_at hl 3 rfl) ?_
        refine lv_iconst (v := (nI 1)) hx hb dX10_walk_43 (by decide) ?_
        refine lv_iload hx hb dX10_walk_44 (lv_at hl 0 rfl) ?_
        refine lv_ishl hx hb dX10_walk_46 ?_
        refine lv_ior hx hb dX10_walk_47 ?_
        refine lv_topi (fun y5 ey5 => ?_)
        replace h := gl_s h ey5
        refine lv_istore_n (lv' := [(2, .int y5), (5, .int q4), (0, .ref (ad 0)), (1, .int x1), (3, .int x3), (4, .int x4)]) hx hb dX10_walk_48 rfl hl (by decide) rfl (fun ls hl => ?_)
        refine lv_iload_n hx hb dX10_walk_49 rfl (lv_at hl 4 rfl) ?_
        refine lv_bipush (v := (nI 10)) hx hb dX10_walk_50 (by decide) ?_
        refine lv_imul hx hb dX10_walk_52 ?_
        refine lv_iload hx hb dX10_walk_53 (lv_at hl 1 rfl) ?_
        refine lv_iadd hx hb dX10_walk_55 ?_
        refine lv_iconst (v := (nI 1)) hx hb dX10_walk_56 (by decide) ?_
        refine lv_iadd hx hb dX10_walk_57 ?_
        refine lv_topi (fun y6 ey6 => ?_)
        replace h := gl_s h ey6
        refine lv_istore_n (lv' := [(3, .int y6), (2, .int y5), (5, .int q4), (0, .ref (ad 0)), (1, .int x1), (4, .int x4)]) hx hb dX10_walk_58 rfl hl (by decide) rfl (fun ls hl => ?_)
        refine lv_iinc (v := x4 + (nI 1)) (lv' := [(4, .int (x4 + (nI 1))), (3, .int y6), (2, .int y5), (5, .int q4), (0, .ref (ad 0)), (1, .int x1)]) hx hb dX10_walk_59 hl (k := 5) rfl rfl (by decide) rfl (fun ls hl => ?_)
        refine lv_goto (tgt := 19) hx hb dX10_walk_62 (by decide) ?_
        exact hK19 y5 y6 (x4 + (nI 1)) _ _ ls h hP hS (lv_sub hl [4, 5, 2, 1, 0] rfl)
  unfold f_X10_walk at h
  refine lv_iload_n hx hb dX10_walk_0 rfl (lv_at hl 1 rfl) ?_
  refine lv_if_lt (tgt := 9) hx hb dX10_walk_1 (by decide) (fun c1 => ?_) (fun c1 => ?_)
  · replace h := gif_t h c1
    refine lv_bipush (v := (-2)) hx hb dX10_walk_9 (by decide) ?_
    exact fw_ireti hx hb hr hlocks (congrArg (fun q => (q, z)) (Option.some.inj h)) hK hZ hP hS dX10_walk_11
  · replace h := gif_f h c1
    refine lv_iload_n hx hb dX10_walk_4 rfl (lv_at hl 1 rfl) ?_
    refine lv_iconst (v := (nI 3)) hx hb dX10_walk_5 (by decide) ?_
    refine lv_icmp_le (tgt := 12) hx hb dX10_walk_6 (by decide) (fun c2 => ?_) (fun c2 => ?_)
    · replace h := gif_t h c2
      refine lv_iconst (v := (nI 0)) hx hb dX10_walk_12 (by decide) ?_
      refine lv_istore_n (lv' := [(2, .int (nI 0)), (0, .ref (ad 0)), (1, .int a1)]) hx hb dX10_walk_13 rfl hl (by decide) rfl (fun ls hl => ?_)
      refine lv_iconst (v := (nI 0)) hx hb dX10_walk_14 (by decide) ?_
      refine lv_istore_n (lv' := [(3, .int (nI 0)), (2, .int (nI 0)), (0, .ref (ad 0)), (1, .int a1)]) hx hb dX10_walk_15 rfl hl (by decide) rfl (fun ls hl => ?_)
      refine lv_iconst (v := (nI 0)) hx hb dX10_walk_16 (by decide) ?_
      refine lv_istore (lv' := [(4, .int (nI 0)), (3, .int (nI 0)), (2, .int (nI 0)), (0, .ref (ad 0)), (1, .int a1)]) hx hb dX10_walk_17 hl (by decide) rfl (fun ls hl => ?_)
      exact j19 a1 gF (nI 0) (nI 0) (nI 0) _ _ ls h hP hS (lv_sub hl [3, 4, 2, 1, 0] rfl)
    · replace h := gif_f h c2
      refine lv_bipush (v := (-2)) hx hb dX10_walk_9 (by decide) ?_
      exact fw_ireti hx hb hr hlocks (congrArg (fun q => (q, z)) (Option.some.inj h)) hK hZ hP hS dX10_walk_11
theorem in_X10_turned_X10 : ∀ w ∈ wsX100, w ∈ wsX10_turned := fun w h => List.mem_cons_of_mem _ (List.mem_append_left _ (List.mem_append_right _ (h)))
theorem in_X10_turned_X5 : ∀ w ∈ wsX50, w ∈ wsX10_turned := fun w h => List.mem_cons_of_mem _ (List.mem_append_right _ (h))
theorem hdV_X10_turned : yX10_turned.cls = RX10 ∧ yX10_turned.cls ≠ "java/lang/invoke/MethodHandle" ∧ yX10_turned.cls ≠ "java/lang/invoke/VarHandle" ∧ (parseMethodDescriptor yX10_turned.desc).map (fun d => d.parameters.length) = some 1 := by decide +kernel
set_option maxHeartbeats 4000000 in
set_option maxRecDepth 100000 in
theorem k_X10_turned (l : Launch) (D : va_G) (cA : Nat → ClassId) (ad : Nat → Nat) (tw : Nat) (hG : gOk ad 315) (z : gS) (a1 : Int32) (res : Int32 × gS) (h : f_X10_turned a1 z = some res) : gMi l yX10_turned wsX10_turned (gRm 2 46) D cA ad tw shX 315 [.ref (ad 0), .int a1] z res := by
  refine Met.ofW (cc := cX10_turned) (maxL := 4) (ret := (some .int)) (by decide) rfl ?_
  intro p e s m args below meth c s₁ B hml hv
  obtain ⟨rfl, hP, hK, hZ⟩ := hv
  have hx := B.exec
  have hb := B.bytes
  have hr := B.returns
  have hts := atoms_spec (ws := wsX10_turned) B.pre
  have hown : s.vm.findClass RX10 = some m.cls := findClass_of_methodNamed B.named
  have hlocks := B.notSynchronized
  have hS : va_S (gA ad 315) s.heap s.heap [] := va_S.rf
  have hl := lv_entry ([.ref (ad 0), .int a1]) (n := 4) (Nat.le_of_ble_eq_true rfl)
  rw [lg_entry_eq]
  generalize (lg_sl ([.ref (ad 0), .int a1]) ++ List.replicate (4 - (lg_sl ([.ref (ad 0), .int a1])).length) Slot.unset).toArray = ls at hl ⊢
  have hl : lv_has ls 4 [(0, .ref (ad 0)), (1, .int a1)] := hl
  have j23 : ∀ (z : gS) (n : Nat) (x2 : Int32) (x3 : Int32) (H : Heap) (locs : List Loc) (ls : Array Slot), f_X10_turned_23 z n x2 x3 = some res → va_P D vwCl (gw cA ad shX 315 z) H → va_S (gA ad 315) s.heap H locs → lv_has ls 4 [(0, .ref (ad 0)), (2, .int x2), (3, .int x3)] → W p l e (headSpec wsX10_turned (gRm 2 46)).room s m ([.ref (ad 0), .int a1] : List Value).toArray below meth c H locs 0 0 (MQ below (va_Qi (fun r u => (r, u) = res) (gPr D cA ad tw shX 315) (gA ad 315)) ([.ref (ad 0), .int a1] : List Value).toArray s 0 0 (gA ad 315)) (F0 m 23 ls []) := by
    intro z n
    induction n with
    | zero => intro x2 x3 H locs ls h; exact (gno h).elim
    | succ n hK23 =>
      intro x2 x3 H locs ls h hP hS hl
      replace h : f_X10_turned_23_b z (f_X10_turned_23 z n) x2 x3 = some res := h
      unfold f_X10_turned_23_b at h
      refine lv_iload_n hx hb dX10_turned_23 rfl (lv_at hl 2 rfl) ?_
      refine lv_if_lt (tgt := 47) hx hb dX10_turned_24 (by decide) (fun c4 => ?_) (fun c4 => ?_)
      · replace h := gif_t h c4
        refine lv_iload_n hx hb dX10_turned_47 rfl (lv_at hl 1 rfl) ?_
        exact fw_ireti hx hb hr hlocks (Option.some.inj h) hK hZ hP hS dX10_turned_48
      · replace h := gif_f h c4
        refine lv_iload_n hx hb dX10_turned_27 rfl (lv_at hl 1 rfl) ?_
        refine lv_bipush (v := (nI 10)) hx hb dX10_turned_28 (by decide) ?_
        refine lv_imul hx hb dX10_turned_30 ?_
        refine lv_aload_n hx hb dX10_turned_31 rfl (lv_at hl 0 rfl) ?_
        refine fw_getr hx hb hts in_X10_turned_X10 hown hK hP gF10.1.1 gF10.1.2 rfl 12 (by decide) rfl (hts _ (List.mem_of_getElem? (i := 3) rfl)) rfl dX10_turned_32 ?_
        refine lv_iload_n hx hb dX10_turned_35 rfl (lv_at hl 2 rfl) ?_
        obtain ⟨h5, h⟩ := gg_s h
        refine fw_iald hx hb hK hP gF10.2.2.2.2.2.2.2.2.2.2.2.2.2.2.2.1 gF10.2.2.2.2.2.2.2.2.2.2.2.2.2.2.2.2 h5 dX10_turned_36 ?_
        refine lv_iadd hx hb dX10_turned_37 ?_
        refine lv_iconst (v := (nI 1)) hx hb dX10_turned_38 (by decide) ?_
        refine lv_iadd hx hb dX10_turned_39 ?_
        refine lv_topi (fun y6 ey6 => ?_)
        replace h := gl_s h ey6
        refine lv_istore_n (lv' := [(2, .int y6), (0, .ref (ad 0)), (3, .int x3)]) hx hb dX10_turned_40 rfl hl (by decide) rfl (fun ls hl => ?_)
        refine lv_iinc (v := x3 + gm1) (lv' := [(3, .int (x3 + gm1)), (2, .int y6), (0, .ref (ad 0))]) hx hb dX10_turned_41 hl (k := 2) rfl rfl (by decide) rfl (fun ls hl => ?_)
        refine lv_goto (tgt := 23) hx hb dX10_turned_44 (by decide) ?_
        exact hK23 y6 (x3 + gm1) _ _ ls h hP hS (lv_sub hl [2, 1, 0] rfl)
  unfold f_X10_turned at h
  refine lv_aload_n hx hb dX10_turned_0 rfl (lv_at hl 0 rfl) ?_
  refine lv_iload_n hx hb dX10_turned_1 rfl (lv_at hl 1 rfl) ?_
  obtain ⟨q1, hq1, h⟩ := gb_s h
  refine fw_vi (As := [.int a1]) (rest := []) ⟨hx, hb, hml, hown, hts⟩ (k_X10_setRow l D cA ad tw hG z a1 q1 hq1) (cwV 1 hts gX10_turned_X10_setRow rfl rfl rfl hdV_X10_setRow ⟨Nat.le_of_ble_eq_true rfl, Nat.le_of_ble_eq_true rfl⟩) (fw_preV gF10.1.1 gF10.1.2 rfl rfl hK hZ hP hS) rfl hl _ rfl (Nat.le_of_ble_eq_true rfl) hS dX10_turned_2 ⟨Nat.zero_le _, Nat.zero_le _⟩ (fun H locs hP hS => ?_)
  refine lv_if_ne (tgt := 11) hx hb dX10_turned_5 (by decide) (fun c2 => ?_) (fun c2 => ?_)
  · replace h := gif_f h c2
    refine lv_iconst (v := (nI 0)) hx hb dX10_turned_11 (by decide) ?_
    refine lv_istore_n (lv' := [(2, .int (nI 0)), (0, .ref (ad 0)), (1, .int a1)]) hx hb dX10_turned_12 rfl hl (by decide) rfl (fun ls hl => ?_)
    refine lv_aload_n hx hb dX10_turned_13 rfl (lv_at hl 1 rfl) ?_
    refine fw_getr hx hb hts in_X10_turned_X10 hown hK hP gF10.1.1 gF10.1.2 rfl 0 (by decide) rfl (hts _ (List.mem_of_getElem? (i := 1) rfl)) rfl dX10_turned_14 ?_
    refine fw_geti hx hb hts in_X10_turned_X5 hown hK hP gF10.2.1.1.1 gF10.2.1.1.2 rfl 0 (by decide) rfl (hts _ (List.mem_of_getElem? (i := 2) rfl)) rfl dX10_turned_17 ?_
    refine lv_iconst (v := (nI 1)) hx hb dX10_turned_20 (by decide) ?_
    refine lv_isub hx hb dX10_turned_21 ?_
    refine lv_topi (fun y3 ey3 => ?_)
    replace h := gl_s h ey3
    refine lv_istore_n (lv' := [(3, .int y3), (2, .int (nI 0)), (0, .ref (ad 0)), (1, .int a1)]) hx hb dX10_turned_22 rfl hl (by decide) rfl (fun ls hl => ?_)
    exact j23 q1.2  gF (nI 0) y3 _ _ ls h hP hS (lv_sub hl [2, 1, 0] rfl)
  · replace h := gif_t h c2
    refine lv_bipush (v := (-2)) hx hb dX10_turned_8 (by decide) ?_
    exact fw_ireti hx hb hr hlocks (Option.some.inj h) hK hZ hP hS dX10_turned_10
theorem in_X10_rank_X10 : ∀ w ∈ wsX100, w ∈ wsX10_rank := fun w h => List.mem_cons_of_mem _ (List.mem_append_left _ (List.mem_append_left _ (List.mem_append_right _ (h))))
theorem in_X10_rank_X5 : ∀ w ∈ wsX50, w ∈ wsX10_rank := fun w h => List.mem_cons_of_mem _ (List.mem_append_left _ (List.mem_append_right _ (h)))
theorem hdV_X10_rank : yX10_rank.cls = RX10 ∧ yX10_rank.cls ≠ "java/lang/invoke/MethodHandle" ∧ yX10_rank.cls ≠ "java/lang/invoke/VarHandle" ∧ (parseMethodDescriptor yX10_rank.desc).map (fun d => d.parameters.length) = some 1 := by decide +kernel
set_option maxHeartbeats 4000000 in
set_option maxRecDepth 100000 in
theorem k_X10_rank (l : Launch) (D : va_G) (cA : Nat → ClassId) (ad : Nat → Nat) (tw : Nat) (hG : gOk ad 315) (z : gS) (a1 : Int32) (res : Int32 × gS) (h : f_X10_rank a1 z = some res) : gMi l yX10_rank wsX10_rank (gRm 5 114) D cA ad tw shX 315 [.ref (ad 0), .int a1] z res := by
  refine Met.ofW (cc := cX10_rank) (maxL := 2) (ret := (some .int)) (by decide) rfl ?_
  intro p e s m args below meth c s₁ B hml hv
  obtain ⟨rfl, hP, hK, hZ⟩ := hv
  have hx := B.exec
  have hb := B.bytes
  have hr := B.returns
  have hts := atoms_spec (ws := wsX10_rank) B.pre
  have hown : s.vm.findClass RX10 = some m.cls := findClass_of_methodNamed B.named
  have hlocks := B.notSynchronized
  have hS : va_S (gA ad 315) s.heap s.heap [] := va_S.rf
  have hl := lv_entry ([.ref (ad 0), .int a1]) (n := 2) (Nat.le_of_ble_eq_true rfl)
  rw [lg_entry_eq]
  generalize (lg_sl ([.ref (ad 0), .int a1]) ++ List.replicate (2 - (lg_sl ([.ref (ad 0), .int a1])).length) Slot.unset).toArray = ls at hl ⊢
  have hl : lv_has ls 2 [(0, .ref (ad 0)), (1, .int a1)] := hl
  unfold f_X10_rank at h
  refine lv_aload_n hx hb dX10_rank_0 rfl (lv_at hl 0 rfl) ?_
  refine lv_iload_n hx hb dX10_rank_1 rfl (lv_at hl 1 rfl) ?_
  obtain ⟨q1, hq1, h⟩ := gb_s h
  refine fw_vi (As := [.int a1]) (rest := []) ⟨hx, hb, hml, hown, hts⟩ (k_X10_setRow l D cA ad tw hG z a1 q1 hq1) (cwV 1 hts gX10_rank_X10_setRow rfl rfl rfl hdV_X10_setRow ⟨Nat.le_of_ble_eq_true rfl, Nat.le_of_ble_eq_true rfl⟩) (fw_preV gF10.1.1 gF10.1.2 rfl rfl hK hZ hP hS) rfl hl _ rfl (Nat.le_of_ble_eq_true rfl) hS dX10_rank_2 ⟨Nat.zero_le _, Nat.zero_le _⟩ (fun H locs hP hS => ?_)
  refine lv_if_eq (tgt := 29) hx hb dX10_rank_5 (by decide) (fun c2 => ?_) (fun c2 => ?_)
  · replace h := gif_t h c2
    refine lv_bipush (v := (-2)) hx hb dX10_rank_29 (by decide) ?_
    exact fw_ireti hx hb hr hlocks (Option.some.inj h) hK hZ hP hS dX10_rank_31
  · replace h := gif_f h c2
    refine lv_aload_n hx hb dX10_rank_8 rfl (lv_at hl 0 rfl) ?_
    obtain ⟨q3, hq3, h⟩ := gb_s h
    refine fw_vr (As := []) (rest := []) ⟨hx, hb, hml, hown, hts⟩ (k_X10_readyPlan l D cA ad tw hG q1.2  q3 hq3) (cwV 0 hts gX10_rank_X10_readyPlan rfl rfl rfl hdV_X10_readyPlan ⟨Nat.le_of_ble_eq_true rfl, Nat.le_of_ble_eq_true rfl⟩) (fw_preV gF10.1.1 gF10.1.2 rfl rfl hK hZ hP hS) rfl hl _ rfl (Nat.le_of_ble_eq_true rfl) hS dX10_rank_9 ⟨Nat.zero_le _, Nat.zero_le _⟩ (fun H locs hP hS => ?_)
    refine lv_aload_n hx hb dX10_rank_12 rfl (lv_at hl 0 rfl) ?_
    refine fw_getr hx hb hts in_X10_rank_X10 hown hK hP gF10.1.1 gF10.1.2 rfl 12 (by decide) rfl (hts _ (List.mem_of_getElem? (i := 1) rfl)) rfl dX10_rank_13 ?_
    refine lv_aload_n hx hb dX10_rank_16 rfl (lv_at hl 0 rfl) ?_
    refine fw_getr hx hb hts in_X10_rank_X10 hown hK hP gF10.1.1 gF10.1.2 rfl 0 (by decide) rfl (hts _ (List.mem_of_getElem? (i := 2) rfl)) rfl dX10_rank_17 ?_
    refine fw_geti hx hb hts in_X10_rank_X5 hown hK hP gF10.2.1.1.1 gF10.2.1.1.2 rfl 0 (by decide) rfl (hts _ (List.mem_of_getElem? (i := 3) rfl)) rfl dX10_rank_20 ?_
    obtain ⟨q4, hq4, h⟩ := gb_s h
    refine fw_viR (As := [.ref (ad 296), .int (q3 1 0)]) (rest := []) ⟨hx, hb, hml, hown, hts⟩ (k_X3_ahead l D cA ad tw hG q3 13 (gF10.2.2.2.2.1) 296 7 (gF10.2.2.2.2.2.2.2.2.2.2.2.2.2.2.2) (q3 1 0) q4 hq4) (cwV 2 hts gX10_rank_X3_ahead rfl rfl rfl hdV_X3_ahead ⟨Nat.le_of_ble_eq_true rfl, Nat.le_of_ble_eq_true rfl⟩) (fw_preV gF10.2.2.2.2.1.1.1 gF10.2.2.2.2.1.1.2 rfl rfl hK hZ hP hS) rfl hl _ rfl (Nat.le_of_ble_eq_true rfl) hS dX10_rank_23 ⟨Nat.zero_le _, Nat.zero_le _⟩ (fun H locs hP hS => ?_)
    refine lv_goto (tgt := 31) hx hb dX10_rank_26 (by decide) ?_
    exact fw_ireti hx hb hr hlocks (Option.some.inj h) hK hZ hP hS dX10_rank_31
theorem in_X10_swap_X10 : ∀ w ∈ wsX100, w ∈ wsX10_swap := fun w h => List.mem_cons_of_mem _ (List.mem_append_left _ (List.mem_append_right _ (h)))
theorem in_X10_swap_X5 : ∀ w ∈ wsX50, w ∈ wsX10_swap := fun w h => List.mem_cons_of_mem _ (List.mem_append_right _ (h))
theorem hdV_X10_swap : yX10_swap.cls = RX10 ∧ yX10_swap.cls ≠ "java/lang/invoke/MethodHandle" ∧ yX10_swap.cls ≠ "java/lang/invoke/VarHandle" ∧ (parseMethodDescriptor yX10_swap.desc).map (fun d => d.parameters.length) = some 3 := by decide +kernel
set_option maxHeartbeats 4000000 in
set_option maxRecDepth 100000 in
theorem k_X10_swap (l : Launch) (D : va_G) (cA : Nat → ClassId) (ad : Nat → Nat) (tw : Nat) (hG : gOk ad 315) (z : gS) (a1 : Int32) (a2 : Int32) (a3 : Int32) (res : Int32 × gS) (h : f_X10_swap a1 a2 a3 z = some res) : gMi l yX10_swap wsX10_swap (gRm 2 46) D cA ad tw shX 315 [.ref (ad 0), .int a1, .int a2, .int a3] z res := by
  refine Met.ofW (cc := cX10_swap) (maxL := 7) (ret := (some .int)) (by decide) rfl ?_
  intro p e s m args below meth c s₁ B hml hv
  obtain ⟨rfl, hP, hK, hZ⟩ := hv
  have hx := B.exec
  have hb := B.bytes
  have hr := B.returns
  have hts := atoms_spec (ws := wsX10_swap) B.pre
  have hown : s.vm.findClass RX10 = some m.cls := findClass_of_methodNamed B.named
  have hlocks := B.notSynchronized
  have hS : va_S (gA ad 315) s.heap s.heap [] := va_S.rf
  have hl := lv_entry ([.ref (ad 0), .int a1, .int a2, .int a3]) (n := 7) (Nat.le_of_ble_eq_true rfl)
  rw [lg_entry_eq]
  generalize (lg_sl ([.ref (ad 0), .int a1, .int a2, .int a3]) ++ List.replicate (7 - (lg_sl ([.ref (ad 0), .int a1, .int a2, .int a3])).length) Slot.unset).toArray = ls at hl ⊢
  have hl : lv_has ls 7 [(0, .ref (ad 0)), (1, .int a1), (2, .int a2), (3, .int a3)] := hl
  have j41 : ∀ (z : gS) (x2 : Int32) (x3 : Int32) (n : Nat) (x4 : Int32) (x5 : Int32) (H : Heap) (locs : List Loc) (ls : Array Slot), f_X10_swap_41 z x2 x3 n x4 x5 = some res → va_P D vwCl (gw cA ad shX 315 z) H → va_S (gA ad 315) s.heap H locs → lv_has ls 7 [(0, .ref (ad 0)), (2, .int x2), (3, .int x3), (4, .int x4), (5, .int x5)] → W p l e (headSpec wsX10_swap (gRm 2 46)).room s m ([.ref (ad 0), .int a1, .int a2, .int a3] : List Value).toArray below meth c H locs 0 0 (MQ below (va_Qi (fun r u => (r, u) = res) (gPr D cA ad tw shX 315) (gA ad 315)) ([.ref (ad 0), .int a1, .int a2, .int a3] : List Value).toArray s 0 0 (gA ad 315)) (F0 m 41 ls []) := by
    intro z x2 x3 n
    induction n with
    | zero => intro x4 x5 H locs ls h; exact (gno h).elim
    | succ n hK41 =>
      intro x4 x5 H locs ls h hP hS hl
      replace h : f_X10_swap_41_b z x2 x3 (f_X10_swap_41 z x2 x3 n) x4 x5 = some res := h
      unfold f_X10_swap_41_b at h
      refine lv_iload hx hb dX10_swap_41 (lv_at hl 4 rfl) ?_
      refine lv_aload_n hx hb dX10_swap_43 rfl (lv_at hl 0 rfl) ?_
      refine fw_getr hx hb hts in_X10_swap_X10 hown hK hP gF10.1.1 gF10.1.2 rfl 0 (by decide) rfl (hts _ (List.mem_of_getElem? (i := 1) rfl)) rfl dX10_swap_44 ?_
      refine fw_geti hx hb hts in_X10_swap_X5 hown hK hP gF10.2.1.1.1 gF10.2.1.1.2 rfl 0 (by decide) rfl (hts _ (List.mem_of_getElem? (i := 2) rfl)) rfl dX10_swap_47 ?_
      refine lv_icmp_ge (tgt := 110) hx hb dX10_swap_50 (by decide) (fun c7 => ?_) (fun c7 => ?_)
      · replace h := gif_t h c7
        refine lv_iload hx hb dX10_swap_110 (lv_at hl 3 rfl) ?_
        exact fw_ireti hx hb hr hlocks (Option.some.inj h) hK hZ hP hS dX10_swap_112
      · replace h := gif_f h c7
        refine lv_aload_n hx hb dX10_swap_53 rfl (lv_at hl 0 rfl) ?_
        refine fw_getr hx hb hts in_X10_swap_X10 hown hK hP gF10.1.1 gF10.1.2 rfl 12 (by decide) rfl (hts _ (List.mem_of_getElem? (i := 3) rfl)) rfl dX10_swap_54 ?_
        refine lv_iload hx hb dX10_swap_57 (lv_at hl 4 rfl) ?_
        obtain ⟨h8, h⟩ := gg_s h
        refine fw_iald hx hb hK hP gF10.2.2.2.2.2.2.2.2.2.2.2.2.2.2.2.1 gF10.2.2.2.2.2.2.2.2.2.2.2.2.2.2.2.2 h8 dX10_swap_59 ?_
        refine lv_iload_n hx hb dX10_swap_60 rfl (lv_at hl 1 rfl) ?_
        refine lv_icmp_ne (tgt := 68) hx hb dX10_swap_61 (by decide) (fun c9 => ?_) (fun c9 => ?_)
        · replace h := gif_f h c9
          refine lv_aload_n hx hb dX10_swap_68 rfl (lv_at hl 0 rfl) ?_
          refine fw_getr hx hb hts in_X10_swap_X10 hown hK hP gF10.1.1 gF10.1.2 rfl 12 (by decide) rfl (hts _ (List.mem_of_getElem? (i := 3) rfl)) rfl dX10_swap_69 ?_
          refine lv_iload hx hb dX10_swap_72 (lv_at hl 4 rfl) ?_
          obtain ⟨h10, h⟩ := gg_s h
          refine fw_iald hx hb hK hP gF10.2.2.2.2.2.2.2.2.2.2.2.2.2.2.2.1 gF10.2.2.2.2.2.2.2.2.2.2.2.2.2.2.2.2 h10 dX10_swap_74 ?_
          refine lv_iload_n hx hb dX10_swap_75 rfl (lv_at hl 2 rfl) ?_
          refine lv_icmp_ne (tgt := 83) hx hb dX10_swap_76 (by decide) (fun c11 => ?_) (fun c11 => ?_)
          · replace h := gif_f h c11
            refine lv_aload_n hx hb dX10_swap_83 rfl (lv_at hl 0 rfl) ?_
            refine fw_getr hx hb hts in_X10_swap_X10 hown hK hP gF10.1.1 gF10.1.2 rfl 12 (by decide) rfl (hts _ (List.mem_of_getElem? (i := 3) rfl)) rfl dX10_swap_84 ?_
            refine lv_iload hx hb dX10_swap_87 (lv_at hl 4 rfl) ?_
            obtain ⟨h12, h⟩ := gg_s h
            refine fw_iald hx hb hK hP gF10.2.2.2.2.2.2.2.2.2.2.2.2.2.2.2.1 gF10.2.2.2.2.2.2.2.2.2.2.2.2.2.2.2.2 h12 dX10_swap_89 ?_
            refine lv_topi (fun y13 ey13 => ?_)
            replace h := gl_s h ey13
            refine lv_istore (lv' := [(6, .int y13), (0, .ref (ad 0)), (2, .int x2), (3, .int x3), (4, .int x4), (5, .int x5)]) hx hb dX10_swap_90 hl (by decide) rfl (fun ls hl => ?_)
            refine lv_iload hx hb dX10_swap_92 (lv_at hl 4 rfl) ?_
            refine lv_bipush (v := (nI 10)) hx hb dX10_swap_94 (by decide) ?_
            refine lv_imul hx hb dX10_swap_96 ?_
            refine lv_iload hx hb dX10_swap_97 (lv_at hl 0 rfl) ?_
            refine lv_iadd hx hb dX10_swap_99 ?_
            refine lv_iconst (v := (nI 1)) hx hb dX10_swap_100 (by decide) ?_
            refine lv_iadd hx hb dX10_swap_101 ?_
            refine lv_topi (fun y14 ey14 => ?_)
            replace h := gl_s h ey14
            refine lv_istore (lv' := [(4, .int y14), (6, .int y13), (0, .ref (ad 0)), (2, .int x2), (3, .int x3), (5, .int x5)]) hx hb dX10_swap_102 hl (by decide) rfl (fun ls hl => ?_)
            refine lv_iinc (v := x5 + (nI 1)) (lv' := [(5, .int (x5 + (nI 1))), (4, .int y14), (6, .int y13), (0, .ref (ad 0)), (2, .int x2), (3, .int x3)]) hx hb dX10_swap_104 hl (k := 5) rfl rfl (by decide) rfl (fun ls hl => ?_)
            refine lv_goto (tgt := 41) hx hb dX10_swap_107 (by decide) ?_
            exact hK41 y14 (x5 + (nI 1)) _ _ ls h hP hS (lv_sub hl [3, 4, 5, 1, 0] rfl)
          · replace h := gif_t h c11
            refine lv_iload_n hx hb dX10_swap_79 rfl (lv_at hl 1 rfl) ?_
            refine lv_goto (tgt := 90) hx hb dX10_swap_80 (by decide) ?_
            refine lv_istore (lv' := [(6, .int x2), (0, .ref (ad 0)), (2, .int x2), (3, .int x3), (4, .int x4), (5, .int x5)]) hx hb dX10_swap_90 hl (by decide) rfl (fun ls hl => ?_)
            refine lv_iload hx hb dX10_swap_92 (lv_at hl 4 rfl) ?_
            refine lv_bipush (v := (nI 10)) hx hb dX10_swap_94 (by decide) ?_
            refine lv_imul hx hb dX10_swap_96 ?_
            refine lv_iload hx hb dX10_swap_97 (lv_at hl 0 rfl) ?_
            refine lv_iadd hx hb dX10_swap_99 ?_
            refine lv_iconst (v := (nI 1)) hx hb dX10_swap_100 (by decide) ?_
            refine lv_iadd hx hb dX10_swap_101 ?_
            refine lv_topi (fun y15 ey15 => ?_)
            replace h := gl_s h ey15
            refine lv_istore (lv' := [(4, .int y15), (6, .int x2), (0, .ref (ad 0)), (2, .int x2), (3, .int x3), (5, .int x5)]) hx hb dX10_swap_102 hl (by decide) rfl (fun ls hl => ?_)
            refine lv_iinc (v := x5 + (nI 1)) (lv' := [(5, .int (x5 + (nI 1))), (4, .int y15), (6, .int x2), (0, .ref (ad 0)), (2, .int x2), (3, .int x3)]) hx hb dX10_swap_104 hl (k := 5) rfl rfl (by decide) rfl (fun ls hl => ?_)
            refine lv_goto (tgt := 41) hx hb dX10_swap_107 (by decide) ?_
            exact hK41 y15 (x5 + (nI 1)) _ _ ls h hP hS (lv_sub hl [3, 4, 5, 1, 0] rfl)
        · replace h := gif_t h c9
          refine lv_iload_n hx hb dX10_swap_64 rfl (lv_at hl 2 rfl) ?_
          refine lv_goto (tgt := 90) hx hb dX10_swap_65 (by decide) ?_
          refine lv_istore (lv' := [(6, .int x3), (0, .ref (ad 0)), (2, .int x2), (3, .int x3), (4, .int x4), (5, .int x5)]) hx hb dX10_swap_90 hl (by decide) rfl (fun ls hl => ?_)
          refine lv_iload hx hb dX10_swap_92 (lv_at hl 4 rfl) ?_
          refine lv_bipush (v := (nI 10)) hx hb dX10_swap_94 (by decide) ?_
          refine lv_imul hx hb dX10_swap_96 ?_
          refine lv_iload hx hb dX10_swap_97 (lv_at hl 0 rfl) ?_
          refine lv_iadd hx hb dX10_swap_99 ?_
          refine lv_iconst (v := (nI 1)) hx hb dX10_swap_100 (by decide) ?_
          refine lv_iadd hx hb dX10_swap_101 ?_
          refine lv_topi (fun y16 ey16 => ?_)
          replace h := gl_s h ey16
          refine lv_istore (lv' := [(4, .int y16), (6, .int x3), (0, .ref (ad 0)), (2, .int x2), (3, .int x3), (5, .int x5)]) hx hb dX10_swap_102 hl (by decide) rfl (fun ls hl => ?_)
          refine lv_iinc (v := x5 + (nI 1)) (lv' := [(5, .int (x5 + (nI 1))), (4, .int y16), (6, .int x3), (0, .ref (ad 0)), (2, .int x2), (3, .int x3)]) hx hb dX10_swap_104 hl (k := 5) rfl rfl (by decide) rfl (fun ls hl => ?_)
          refine lv_goto (tgt := 41) hx hb dX10_swap_107 (by decide) ?_
          exact hK41 y16 (x5 + (nI 1)) _ _ ls h hP hS (lv_sub hl [3, 4, 5, 1, 0] rfl)
  unfold f_X10_swap at h
  refine lv_aload_n hx hb dX10_swap_0 rfl (lv_at hl 0 rfl) ?_
  refine lv_iload_n hx hb dX10_swap_1 rfl (lv_at hl 1 rfl) ?_
  obtain ⟨q1, hq1, h⟩ := gb_s h
  refine fw_vi (As := [.int a1]) (rest := []) ⟨hx, hb, hml, hown, hts⟩ (k_X10_setRow l D cA ad tw hG z a1 q1 hq1) (cwV 1 hts gX10_swap_X10_setRow rfl rfl rfl hdV_X10_setRow ⟨Nat.le_of_ble_eq_true rfl, Nat.le_of_ble_eq_true rfl⟩) (fw_preV gF10.1.1 gF10.1.2 rfl rfl hK hZ hP hS) rfl hl _ rfl (Nat.le_of_ble_eq_true rfl) hS dX10_swap_2 ⟨Nat.zero_le _, Nat.zero_le _⟩ (fun H locs hP hS => ?_)
  refine lv_if_ne (tgt := 11) hx hb dX10_swap_5 (by decide) (fun c2 => ?_) (fun c2 => ?_)
  · replace h := gif_f h c2
    refine lv_aload_n hx hb dX10_swap_11 rfl (lv_at hl 0 rfl) ?_
    refine fw_getr hx hb hts in_X10_swap_X10 hown hK hP gF10.1.1 gF10.1.2 rfl 0 (by decide) rfl (hts _ (List.mem_of_getElem? (i := 1) rfl)) rfl dX10_swap_12 ?_
    refine lv_iload_n hx hb dX10_swap_15 rfl (lv_at hl 2 rfl) ?_
    obtain ⟨q3, hq3, h⟩ := gb_s h
    refine fw_viR (As := [.int a2]) (rest := []) ⟨hx, hb, hml, hown, hts⟩ (k_X5_holds l D cA ad tw hG q1.2 1 (gF10.2.1) a2 q3 hq3) (cwV 1 hts gX10_swap_X5_holds rfl rfl rfl hdV_X5_holds ⟨Nat.le_of_ble_eq_true rfl, Nat.le_of_ble_eq_true rfl⟩) (fw_preV gF10.2.1.1.1 gF10.2.1.1.2 rfl rfl hK hZ hP hS) rfl hl _ rfl (Nat.le_of_ble_eq_true rfl) hS dX10_swap_16 ⟨Nat.zero_le _, Nat.zero_le _⟩ (fun H locs hP hS => ?_)
    refine lv_if_eq (tgt := 33) hx hb dX10_swap_19 (by decide) (fun c4 => ?_) (fun c4 => ?_)
    · replace h := gif_t h c4
      refine lv_iconst (v := gm1) hx hb dX10_swap_33 (by decide) ?_
      exact fw_ireti hx hb hr hlocks (Option.some.inj h) hK hZ hP hS dX10_swap_34
    · replace h := gif_f h c4
      refine lv_aload_n hx hb dX10_swap_22 rfl (lv_at hl 0 rfl) ?_
      refine fw_getr hx hb hts in_X10_swap_X10 hown hK hP gF10.1.1 gF10.1.2 rfl 0 (by decide) rfl (hts _ (List.mem_of_getElem? (i := 1) rfl)) rfl dX10_swap_23 ?_
      refine lv_iload_n hx hb dX10_swap_26 rfl (lv_at hl 3 rfl) ?_
      obtain ⟨q5, hq5, h⟩ := gb_s h
      refine fw_viR (As := [.int a3]) (rest := []) ⟨hx, hb, hml, hown, hts⟩ (k_X5_holds l D cA ad tw hG q1.2 1 (gF10.2.1) a3 q5 hq5) (cwV 1 hts gX10_swap_X5_holds rfl rfl rfl hdV_X5_holds ⟨Nat.le_of_ble_eq_true rfl, Nat.le_of_ble_eq_true rfl⟩) (fw_preV gF10.2.1.1.1 gF10.2.1.1.2 rfl rfl hK hZ hP hS) rfl hl _ rfl (Nat.le_of_ble_eq_true rfl) hS dX10_swap_27 ⟨Nat.zero_le _, Nat.zero_le _⟩ (fun H locs hP hS => ?_)
      refine lv_if_ne (tgt := 35) hx hb dX10_swap_30 (by decide) (fun c6 => ?_) (fun c6 => ?_)
      · replace h := gif_f h c6
        refine lv_iconst (v := (nI 0)) hx hb dX10_swap_35 (by decide) ?_
        refine lv_istore (lv' := [(4, .int (nI 0)), (0, .ref (ad 0)), (1, .int a1), (2, .int a2), (3, .int a3)]) hx hb dX10_swap_36 hl (by decide) rfl (fun ls hl => ?_)
        refine lv_iconst (v := (nI 0)) hx hb dX10_swap_38 (by decide) ?_
        refine lv_istore (lv' := [(5, .int (nI 0)), (4, .int (nI 0)), (0, .ref (ad 0)), (1, .int a1), (2, .int a2), (3, .int a3)]) hx hb dX10_swap_39 hl (by decide) rfl (fun ls hl => ?_)
        exact j41 q1.2 a2 a3 gF (nI 0) (nI 0) _ _ ls h hP hS (lv_sub hl [2, 4, 5, 1, 0] rfl)
      · replace h := gif_t h c6
        refine lv_iconst (v := gm1) hx hb dX10_swap_33 (by decide) ?_
        exact fw_ireti hx hb hr hlocks (Option.some.inj h) hK hZ hP hS dX10_swap_34
  · replace h := gif_t h c2
    refine lv_bipush (v := (-2)) hx hb dX10_swap_8 (by decide) ?_
    exact fw_ireti hx hb hr hlocks (Option.some.inj h) hK hZ hP hS dX10_swap_10
theorem in_X10_feed_X10 : ∀ w ∈ wsX100, w ∈ wsX10_feed := fun w h => List.mem_cons_of_mem _ (List.mem_append_left _ (List.mem_append_right _ (h)))
theorem in_X10_feed_X7 : ∀ w ∈ wsX70, w ∈ wsX10_feed := fun w h => List.mem_cons_of_mem _ (List.mem_append_right _ (h))
theorem hdV_X10_feed : yX10_feed.cls = RX10 ∧ yX10_feed.cls ≠ "java/lang/invoke/MethodHandle" ∧ yX10_feed.cls ≠ "java/lang/invoke/VarHandle" ∧ (parseMethodDescriptor yX10_feed.desc).map (fun d => d.parameters.length) = some 1 := by decide +kernel
set_option maxHeartbeats 4000000 in
set_option maxRecDepth 100000 in
theorem k_X10_feed (l : Launch) (D : va_G) (cA : Nat → ClassId) (ad : Nat → Nat) (tw : Nat) (hG : gOk ad 315) (z : gS) (a1 : Int32) (res : Int32 × gS) (h : f_X10_feed a1 z = some res) : gMi l yX10_feed wsX10_feed (gRm 1 21) D cA ad tw shX 315 [.ref (ad 0), .int a1] z res := by
  refine Met.ofW (cc := cX10_feed) (maxL := 2) (ret := (some .int)) (by decide) rfl ?_
  intro p e s m args below meth c s₁ B hml hv
  obtain ⟨rfl, hP, hK, hZ⟩ := hv
  have hx := B.exec
  have hb := B.bytes
  have hr := B.returns
  have hts := atoms_spec (ws := wsX10_feed) B.pre
  have hown : s.vm.findClass RX10 = some m.cls := findClass_of_methodNamed B.named
  have hlocks := B.notSynchronized
  have hS : va_S (gA ad 315) s.heap s.heap [] := va_S.rf
  have hl := lv_entry ([.ref (ad 0), .int a1]) (n := 2) (Nat.le_of_ble_eq_true rfl)
  rw [lg_entry_eq]
  generalize (lg_sl ([.ref (ad 0), .int a1]) ++ List.replicate (2 - (lg_sl ([.ref (ad 0), .int a1])).length) Slot.unset).toArray = ls at hl ⊢
  have hl : lv_has ls 2 [(0, .ref (ad 0)), (1, .int a1)] := hl
  unfold f_X10_feed at h
  refine lv_iload_n hx hb dX10_feed_0 rfl (lv_at hl 1 rfl) ?_
  refine lv_if_lt (tgt := 10) hx hb dX10_feed_1 (by decide) (fun c1 => ?_) (fun c1 => ?_)
  · replace h := gif_t h c1
    refine lv_bipush (v := (-2)) hx hb dX10_feed_10 (by decide) ?_
    exact fw_ireti hx hb hr hlocks (Option.some.inj h) hK hZ hP hS dX10_feed_12
  · replace h := gif_f h c1
    refine lv_iload_n hx hb dX10_feed_4 rfl (lv_at hl 1 rfl) ?_
    refine lv_bipush (v := (nI 127)) hx hb dX10_feed_5 (by decide) ?_
    refine lv_icmp_le (tgt := 13) hx hb dX10_feed_7 (by decide) (fun c2 => ?_) (fun c2 => ?_)
    · replace h := gif_t h c2
      refine lv_aload_n hx hb dX10_feed_13 rfl (lv_at hl 0 rfl) ?_
      refine fw_getr hx hb hts in_X10_feed_X10 hown hK hP gF10.1.1 gF10.1.2 rfl 8 (by decide) rfl (hts _ (List.mem_of_getElem? (i := 1) rfl)) rfl dX10_feed_14 ?_
      refine lv_iload_n hx hb dX10_feed_17 rfl (lv_at hl 1 rfl) ?_
      obtain ⟨q3, hq3, h⟩ := gb_s h
      refine fw_vi (As := [.int a1]) (rest := []) ⟨hx, hb, hml, hown, hts⟩ (k_X7_append l D cA ad tw hG z 290 (gF10.2.2.2.2.2.2.2.2.2.1) a1 q3 hq3) (cwV 1 hts gX10_feed_X7_append rfl rfl rfl hdV_X7_append ⟨Nat.le_of_ble_eq_true rfl, Nat.le_of_ble_eq_true rfl⟩) (fw_preV gF10.2.2.2.2.2.2.2.2.2.1.1.1 gF10.2.2.2.2.2.2.2.2.2.1.1.2 rfl rfl hK hZ hP hS) rfl hl _ rfl (Nat.le_of_ble_eq_true rfl) hS dX10_feed_18 ⟨Nat.zero_le _, Nat.zero_le _⟩ (fun H locs hP hS => ?_)
      refine lv_if_eq (tgt := 34) hx hb dX10_feed_21 (by decide) (fun c4 => ?_) (fun c4 => ?_)
      · replace h := gif_t h c4
        refine lv_bipush (v := (-4)) hx hb dX10_feed_34 (by decide) ?_
        exact fw_ireti hx hb hr hlocks (Option.some.inj h) hK hZ hP hS dX10_feed_36
      · replace h := gif_f h c4
        refine lv_aload_n hx hb dX10_feed_24 rfl (lv_at hl 0 rfl) ?_
        refine fw_getr hx hb hts in_X10_feed_X10 hown hK hP gF10.1.1 gF10.1.2 rfl 8 (by decide) rfl (hts _ (List.mem_of_getElem? (i := 1) rfl)) rfl dX10_feed_25 ?_
        refine fw_geti hx hb hts in_X10_feed_X7 hown hK hP gF10.2.2.2.2.2.2.2.2.2.1.1.1 gF10.2.2.2.2.2.2.2.2.2.1.1.2 rfl 1 (by decide) rfl (hts _ (List.mem_of_getElem? (i := 2) rfl)) rfl dX10_feed_28 ?_
        refine lv_goto (tgt := 36) hx hb dX10_feed_31 (by decide) ?_
        exact fw_ireti hx hb hr hlocks (Option.some.inj h) hK hZ hP hS dX10_feed_36
    · replace h := gif_f h c2
      refine lv_bipush (v := (-2)) hx hb dX10_feed_10 (by decide) ?_
      exact fw_ireti hx hb hr hlocks (Option.some.inj h) hK hZ hP hS dX10_feed_12
theorem in_X10_read_X10 : ∀ w ∈ wsX100, w ∈ wsX10_read := fun w h => List.mem_cons_of_mem _ (List.mem_append_left _ (List.mem_append_left _ (List.mem_append_right _ (h))))
theorem hdV_X10_read : yX10_read.cls = RX10 ∧ yX10_read.cls ≠ "java/lang/invoke/MethodHandle" ∧ yX10_read.cls ≠ "java/lang/invoke/VarHandle" ∧ (parseMethodDescriptor yX10_read.desc).map (fun d => d.parameters.length) = some 0 := by decide +kernel
set_option maxHeartbeats 4000000 in
set_option maxRecDepth 100000 in
theorem k_X10_read (l : Launch) (D : va_G) (cA : Nat → ClassId) (ad : Nat → Nat) (tw : Nat) (hG : gOk ad 315) (z : gS)  (res : Int32 × gS) (h : f_X10_read  z = some res) : gMi l yX10_read wsX10_read (gRm 6 136) D cA ad tw shX 315 [.ref (ad 0)] z res := by
  refine Met.ofW (cc := cX10_read) (maxL := 2) (ret := (some .int)) (by decide) rfl ?_
  intro p e s m args below meth c s₁ B hml hv
  obtain ⟨rfl, hP, hK, hZ⟩ := hv
  have hx := B.exec
  have hb := B.bytes
  have hr := B.returns
  have hts := atoms_spec (ws := wsX10_read) B.pre
  have hown : s.vm.findClass RX10 = some m.cls := findClass_of_methodNamed B.named
  have hlocks := B.notSynchronized
  have hS : va_S (gA ad 315) s.heap s.heap [] := va_S.rf
  have hl := lv_entry ([.ref (ad 0)]) (n := 2) (Nat.le_of_ble_eq_true rfl)
  rw [lg_entry_eq]
  generalize (lg_sl ([.ref (ad 0)]) ++ List.replicate (2 - (lg_sl ([.ref (ad 0)])).length) Slot.unset).toArray = ls at hl ⊢
  have hl : lv_has ls 2 [(0, .ref (ad 0))] := hl
  unfold f_X10_read at h
  refine lv_aload_n hx hb dX10_read_0 rfl (lv_at hl 0 rfl) ?_
  refine fw_getr hx hb hts in_X10_read_X10 hown hK hP gF10.1.1 gF10.1.2 rfl 2 (by decide) rfl (hts _ (List.mem_of_getElem? (i := 1) rfl)) rfl dX10_read_1 ?_
  refine lv_aload_n hx hb dX10_read_4 rfl (lv_at hl 0 rfl) ?_
  refine fw_getr hx hb hts in_X10_read_X10 hown hK hP gF10.1.1 gF10.1.2 rfl 0 (by decide) rfl (hts _ (List.mem_of_getElem? (i := 2) rfl)) rfl dX10_read_5 ?_
  obtain ⟨q1, hq1, h⟩ := gb_s h
  refine fw_vv (As := [.ref (ad 1)]) (rest := []) ⟨hx, hb, hml, hown, hts⟩ (k_X5_become l D cA ad tw hG z 9 (gF10.2.2.2.1) 1 (gF10.2.1) q1 hq1) (cwV 1 hts gX10_read_X5_become rfl rfl rfl hdV_X5_become ⟨Nat.le_of_ble_eq_true rfl, Nat.le_of_ble_eq_true rfl⟩) (fw_preV gF10.2.2.2.1.1.1 gF10.2.2.2.1.1.2 rfl rfl hK hZ hP hS) rfl hl _ rfl (Nat.le_of_ble_eq_true rfl) hS dX10_read_8 ⟨Nat.zero_le _, Nat.zero_le _⟩ (fun H locs hP hS => ?_)
  refine lv_aload_n hx hb dX10_read_11 rfl (lv_at hl 0 rfl) ?_
  refine fw_getr hx hb hts in_X10_read_X10 hown hK hP gF10.1.1 gF10.1.2 rfl 8 (by decide) rfl (hts _ (List.mem_of_getElem? (i := 3) rfl)) rfl dX10_read_12 ?_
  refine lv_aload_n hx hb dX10_read_15 rfl (lv_at hl 0 rfl) ?_
  refine fw_getr hx hb hts in_X10_read_X10 hown hK hP gF10.1.1 gF10.1.2 rfl 2 (by decide) rfl (hts _ (List.mem_of_getElem? (i := 1) rfl)) rfl dX10_read_16 ?_
  obtain ⟨q2, hq2, h⟩ := gb_s h
  refine fw_vi (As := [.ref (ad 9)]) (rest := []) ⟨hx, hb, hml, hown, hts⟩ (k_X7_tellTo l D cA ad tw hG q1 290 (gF10.2.2.2.2.2.2.2.2.2.1) 9 (gF10.2.2.2.1) q2 hq2) (cwV 1 hts gX10_read_X7_tellTo rfl rfl rfl hdV_X7_tellTo ⟨Nat.le_of_ble_eq_true rfl, Nat.le_of_ble_eq_true rfl⟩) (fw_preV gF10.2.2.2.2.2.2.2.2.2.1.1.1 gF10.2.2.2.2.2.2.2.2.2.1.1.2 rfl rfl hK hZ hP hS) rfl hl _ rfl (Nat.le_of_ble_eq_true rfl) hS dX10_read_19 ⟨Nat.zero_le _, Nat.zero_le _⟩ (fun H locs hP hS => ?_)
  refine lv_istore_n (lv' := [(1, .int q2.1), (0, .ref (ad 0))]) hx hb dX10_read_22 rfl hl (by decide) rfl (fun ls hl => ?_)
  refine lv_iload_n hx hb dX10_read_23 rfl (lv_at hl 0 rfl) ?_
  refine lv_if_lt (tgt := 52) hx hb dX10_read_24 (by decide) (fun c3 => ?_) (fun c3 => ?_)
  · replace h := gif_t h c3
    refine lv_iload_n hx hb dX10_read_52 rfl (lv_at hl 0 rfl) ?_
    exact fw_ireti hx hb hr hlocks (Option.some.inj h) hK hZ hP hS dX10_read_53
  · replace h := gif_f h c3
    refine lv_aload_n hx hb dX10_read_27 rfl (lv_at hl 1 rfl) ?_
    refine fw_getr hx hb hts in_X10_read_X10 hown hK hP gF10.1.1 gF10.1.2 rfl 0 (by decide) rfl (hts _ (List.mem_of_getElem? (i := 2) rfl)) rfl dX10_read_28 ?_
    refine lv_aload_n hx hb dX10_read_31 rfl (lv_at hl 1 rfl) ?_
    refine fw_getr hx hb hts in_X10_read_X10 hown hK hP gF10.1.1 gF10.1.2 rfl 2 (by decide) rfl (hts _ (List.mem_of_getElem? (i := 1) rfl)) rfl dX10_read_32 ?_
    obtain ⟨q4, hq4, h⟩ := gb_s h
    refine fw_vv (As := [.ref (ad 9)]) (rest := []) ⟨hx, hb, hml, hown, hts⟩ (k_X5_become l D cA ad tw hG q2.2 1 (gF10.2.1) 9 (gF10.2.2.2.1) q4 hq4) (cwV 1 hts gX10_read_X5_become rfl rfl rfl hdV_X5_become ⟨Nat.le_of_ble_eq_true rfl, Nat.le_of_ble_eq_true rfl⟩) (fw_preV gF10.2.1.1.1 gF10.2.1.1.2 rfl rfl hK hZ hP hS) rfl hl _ rfl (Nat.le_of_ble_eq_true rfl) hS dX10_read_35 ⟨Nat.zero_le _, Nat.zero_le _⟩ (fun H locs hP hS => ?_)
    refine lv_aload_n hx hb dX10_read_38 rfl (lv_at hl 1 rfl) ?_
    refine lv_dup hx hb dX10_read_39 rfl ?_
    refine fw_geti hx hb hts in_X10_read_X10 hown hK hP gF10.1.1 gF10.1.2 rfl 13 (by decide) rfl (hts _ (List.mem_of_getElem? (i := 4) rfl)) rfl dX10_read_40 ?_
    refine lv_iconst (v := (nI 1)) hx hb dX10_read_43 (by decide) ?_
    refine lv_iadd hx hb dX10_read_44 ?_
    refine fw_put hx hb hts in_X10_read_X10 tyX10_ok nmX10 hown hK hG hP hS gF10.1.1 gF10.1.2 rfl 13 (by decide) rfl (hts _ (List.mem_of_getElem? (i := 4) rfl)) rfl rfl (ty := .int) rfl rfl rfl dX10_read_45 (fun z5 H locs ez5 hP hS => ?_)
    replace h := gl_s h ez5
    refine lv_aload_n hx hb dX10_read_48 rfl (lv_at hl 1 rfl) ?_
    obtain ⟨q6, hq6, h⟩ := gb_s h
    refine fw_vv (As := []) (rest := []) ⟨hx, hb, hml, hown, hts⟩ (k_X10_siteChanged l D cA ad tw hG z5  q6 hq6) (cwV 0 hts gX10_read_X10_siteChanged rfl rfl rfl hdV_X10_siteChanged ⟨Nat.le_of_ble_eq_true rfl, Nat.le_of_ble_eq_true rfl⟩) (fw_preV gF10.1.1 gF10.1.2 rfl rfl hK hZ hP hS) rfl hl _ rfl (Nat.le_of_ble_eq_true rfl) hS dX10_read_49 ⟨Nat.zero_le _, Nat.zero_le _⟩ (fun H locs hP hS => ?_)
    refine lv_iload_n hx hb dX10_read_52 rfl (lv_at hl 0 rfl) ?_
    exact fw_ireti hx hb hr hlocks (Option.some.inj h) hK hZ hP hS dX10_read_53
theorem in_X10_readySheet_X10 : ∀ w ∈ wsX100, w ∈ wsX10_readySheet := fun w h => List.mem_cons_of_mem _ (List.mem_append_left _ (List.mem_append_left _ (List.mem_append_right _ (h))))
theorem hdV_X10_readySheet : yX10_readySheet.cls = RX10 ∧ yX10_readySheet.cls ≠ "java/lang/invoke/MethodHandle" ∧ yX10_readySheet.cls ≠ "java/lang/invoke/VarHandle" ∧ (parseMethodDescriptor yX10_readySheet.desc).map (fun d => d.parameters.length) = some 0 := by decide +kernel
set_option maxHeartbeats 4000000 in
set_option maxRecDepth 100000 in
theorem k_X10_readySheet (l : Launch) (D : va_G) (cA : Nat → ClassId) (ad : Nat → Nat) (tw : Nat) (hG : gOk ad 315) (z : gS)  (res : gS) (h : f_X10_readySheet  z = some res) : gMr l yX10_readySheet wsX10_readySheet (gRm 5 116) D cA ad tw shX 315 [.ref (ad 0)] z 292 res := by
  refine Met.ofW (cc := cX10_readySheet) (maxL := 1) (ret := (some (.object "FindOrder$Sheet"))) (by decide) rfl ?_
  intro p e s m args below meth c s₁ B hml hv
  obtain ⟨rfl, hP, hK, hZ⟩ := hv
  have hx := B.exec
  have hb := B.bytes
  have hr := B.returns
  have hts := atoms_spec (ws := wsX10_readySheet) B.pre
  have hown : s.vm.findClass RX10 = some m.cls := findClass_of_methodNamed B.named
  have hlocks := B.notSynchronized
  have hS : va_S (gA ad 315) s.heap s.heap [] := va_S.rf
  have hl := lv_entry ([.ref (ad 0)]) (n := 1) (Nat.le_of_ble_eq_true rfl)
  rw [lg_entry_eq]
  generalize (lg_sl ([.ref (ad 0)]) ++ List.replicate (1 - (lg_sl ([.ref (ad 0)])).length) Slot.unset).toArray = ls at hl ⊢
  have hl : lv_has ls 1 [(0, .ref (ad 0))] := hl
  unfold f_X10_readySheet at h
  refine lv_aload_n hx hb dX10_readySheet_0 rfl (lv_at hl 0 rfl) ?_
  refine fw_geti hx hb hts in_X10_readySheet_X10 hown hK hP gF10.1.1 gF10.1.2 rfl 17 (by decide) rfl (hts _ (List.mem_of_getElem? (i := 1) rfl)) rfl dX10_readySheet_1 ?_
  refine lv_if_ne (tgt := 23) hx hb dX10_readySheet_4 (by decide) (fun c1 => ?_) (fun c1 => ?_)
  · replace h := gif_f h c1
    refine lv_aload_n hx hb dX10_readySheet_23 rfl (lv_at hl 0 rfl) ?_
    refine fw_getr hx hb hts in_X10_readySheet_X10 hown hK hP gF10.1.1 gF10.1.2 rfl 9 (by decide) rfl (hts _ (List.mem_of_getElem? (i := 2) rfl)) rfl dX10_readySheet_24 ?_
    exact fw_aret hx hb hr hlocks (Option.some.inj h) hK hZ hP hS dX10_readySheet_27
  · replace h := gif_t h c1
    refine lv_aload_n hx hb dX10_readySheet_7 rfl (lv_at hl 0 rfl) ?_
    refine fw_getr hx hb hts in_X10_readySheet_X10 hown hK hP gF10.1.1 gF10.1.2 rfl 9 (by decide) rfl (hts _ (List.mem_of_getElem? (i := 2) rfl)) rfl dX10_readySheet_8 ?_
    refine lv_aload_n hx hb dX10_readySheet_11 rfl (lv_at hl 0 rfl) ?_
    refine fw_getr hx hb hts in_X10_readySheet_X10 hown hK hP gF10.1.1 gF10.1.2 rfl 0 (by decide) rfl (hts _ (List.mem_of_getElem? (i := 3) rfl)) rfl dX10_readySheet_12 ?_
    obtain ⟨q2, hq2, h⟩ := gb_s h
    refine fw_vv (As := [.ref (ad 1)]) (rest := []) ⟨hx, hb, hml, hown, hts⟩ (k_X4_write l D cA ad tw hG z 292 (gF10.2.2.2.2.2.2.2.2.2.2.1) 1 (gF10.2.1) q2 hq2) (cwV 1 hts gX10_readySheet_X4_write rfl rfl rfl hdV_X4_write ⟨Nat.le_of_ble_eq_true rfl, Nat.le_of_ble_eq_true rfl⟩) (fw_preV gF10.2.2.2.2.2.2.2.2.2.2.1.1.1 gF10.2.2.2.2.2.2.2.2.2.2.1.1.2 rfl rfl hK hZ hP hS) rfl hl _ rfl (Nat.le_of_ble_eq_true rfl) hS dX10_readySheet_15 ⟨Nat.zero_le _, Nat.zero_le _⟩ (fun H locs hP hS => ?_)
    refine lv_aload_n hx hb dX10_readySheet_18 rfl (lv_at hl 0 rfl) ?_
    refine lv_iconst (v := (nI 1)) hx hb dX10_readySheet_19 (by decide) ?_
    refine fw_put hx hb hts in_X10_readySheet_X10 tyX10_ok nmX10 hown hK hG hP hS gF10.1.1 gF10.1.2 rfl 17 (by decide) rfl (hts _ (List.mem_of_getElem? (i := 1) rfl)) rfl rfl (ty := .boolean) rfl rfl rfl dX10_readySheet_20 (fun z3 H locs ez3 hP hS => ?_)
    replace h := gl_s h ez3
    refine lv_aload_n hx hb dX10_readySheet_23 rfl (lv_at hl 0 rfl) ?_
    refine fw_getr hx hb hts in_X10_readySheet_X10 hown hK hP gF10.1.1 gF10.1.2 rfl 9 (by decide) rfl (hts _ (List.mem_of_getElem? (i := 2) rfl)) rfl dX10_readySheet_24 ?_
    exact fw_aret hx hb hr hlocks (Option.some.inj h) hK hZ hP hS dX10_readySheet_27
theorem in_X10_spell_X4 : ∀ w ∈ wsX40, w ∈ wsX10_spell := fun w h => List.mem_cons_of_mem _ (List.mem_append_left _ (List.mem_append_left _ (List.mem_append_right _ (h))))
theorem hdV_X10_spell : yX10_spell.cls = RX10 ∧ yX10_spell.cls ≠ "java/lang/invoke/MethodHandle" ∧ yX10_spell.cls ≠ "java/lang/invoke/VarHandle" ∧ (parseMethodDescriptor yX10_spell.desc).map (fun d => d.parameters.length) = some 0 := by decide +kernel
set_option maxHeartbeats 4000000 in
set_option maxRecDepth 100000 in
theorem k_X10_spell (l : Launch) (D : va_G) (cA : Nat → ClassId) (ad : Nat → Nat) (tw : Nat) (hG : gOk ad 315) (z : gS)  (res : Int32 × gS) (h : f_X10_spell  z = some res) : gMi l yX10_spell wsX10_spell (gRm 6 136) D cA ad tw shX 315 [.ref (ad 0)] z res := by
  refine Met.ofW (cc := cX10_spell) (maxL := 1) (ret := (some .int)) (by decide) rfl ?_
  intro p e s m args below meth c s₁ B hml hv
  obtain ⟨rfl, hP, hK, hZ⟩ := hv
  have hx := B.exec
  have hb := B.bytes
  have hr := B.returns
  have hts := atoms_spec (ws := wsX10_spell) B.pre
  have hown : s.vm.findClass RX10 = some m.cls := findClass_of_methodNamed B.named
  have hlocks := B.notSynchronized
  have hS : va_S (gA ad 315) s.heap s.heap [] := va_S.rf
  have hl := lv_entry ([.ref (ad 0)]) (n := 1) (Nat.le_of_ble_eq_true rfl)
  rw [lg_entry_eq]
  generalize (lg_sl ([.ref (ad 0)]) ++ List.replicate (1 - (lg_sl ([.ref (ad 0)])).length) Slot.unset).toArray = ls at hl ⊢
  have hl : lv_has ls 1 [(0, .ref (ad 0))] := hl
  unfold f_X10_spell at h
  refine lv_aload_n hx hb dX10_spell_0 rfl (lv_at hl 0 rfl) ?_
  obtain ⟨q1, hq1, h⟩ := gb_s h
  refine fw_vr (As := []) (rest := []) ⟨hx, hb, hml, hown, hts⟩ (k_X10_readySheet l D cA ad tw hG z  q1 hq1) (cwV 0 hts gX10_spell_X10_readySheet rfl rfl rfl hdV_X10_readySheet ⟨Nat.le_of_ble_eq_true rfl, Nat.le_of_ble_eq_true rfl⟩) (fw_preV gF10.1.1 gF10.1.2 rfl rfl hK hZ hP hS) rfl hl _ rfl (Nat.le_of_ble_eq_true rfl) hS dX10_spell_1 ⟨Nat.zero_le _, Nat.zero_le _⟩ (fun H locs hP hS => ?_)
  refine fw_geti hx hb hts in_X10_spell_X4 hown hK hP gF10.2.2.2.2.2.2.2.2.2.2.1.1.1 gF10.2.2.2.2.2.2.2.2.2.2.1.1.2 rfl 1 (by decide) rfl (hts _ (List.mem_of_getElem? (i := 1) rfl)) rfl dX10_spell_4 ?_
  exact fw_ireti hx hb hr hlocks (Option.some.inj h) hK hZ hP hS dX10_spell_7
theorem in_X10_paper_X4 : ∀ w ∈ wsX40, w ∈ wsX10_paper := fun w h => List.mem_cons_of_mem _ (List.mem_append_left _ (List.mem_append_left _ (List.mem_append_right _ (h))))
theorem hdV_X10_paper : yX10_paper.cls = RX10 ∧ yX10_paper.cls ≠ "java/lang/invoke/MethodHandle" ∧ yX10_paper.cls ≠ "java/lang/invoke/VarHandle" ∧ (parseMethodDescriptor yX10_paper.desc).map (fun d => d.parameters.length) = some 1 := by decide +kernel
set_option maxHeartbeats 4000000 in
set_option maxRecDepth 100000 in
theorem k_X10_paper (l : Launch) (D : va_G) (cA : Nat → ClassId) (ad : Nat → Nat) (tw : Nat) (hG : gOk ad 315) (z : gS) (a1 : Int32) (res : Int32 × gS) (h : f_X10_paper a1 z = some res) : gMi l yX10_paper wsX10_paper (gRm 6 136) D cA ad tw shX 315 [.ref (ad 0), .int a1] z res := by
  refine Met.ofW (cc := cX10_paper) (maxL := 3) (ret := (some .int)) (by decide) rfl ?_
  intro p e s m args below meth c s₁ B hml hv
  obtain ⟨rfl, hP, hK, hZ⟩ := hv
  have hx := B.exec
  have hb := B.bytes
  have hr := B.returns
  have hts := atoms_spec (ws := wsX10_paper) B.pre
  have hown : s.vm.findClass RX10 = some m.cls := findClass_of_methodNamed B.named
  have hlocks := B.notSynchronized
  have hS : va_S (gA ad 315) s.heap s.heap [] := va_S.rf
  have hl := lv_entry ([.ref (ad 0), .int a1]) (n := 3) (Nat.le_of_ble_eq_true rfl)
  rw [lg_entry_eq]
  generalize (lg_sl ([.ref (ad 0), .int a1]) ++ List.replicate (3 - (lg_sl ([.ref (ad 0), .int a1])).length) Slot.unset).toArray = ls at hl ⊢
  have hl : lv_has ls 3 [(0, .ref (ad 0)), (1, .int a1)] := hl
  unfold f_X10_paper at h
  refine lv_aload_n hx hb dX10_paper_0 rfl (lv_at hl 0 rfl) ?_
  obtain ⟨q1, hq1, h⟩ := gb_s h
  refine fw_vr (As := []) (rest := []) ⟨hx, hb, hml, hown, hts⟩ (k_X10_readySheet l D cA ad tw hG z  q1 hq1) (cwV 0 hts gX10_paper_X10_readySheet rfl rfl rfl hdV_X10_readySheet ⟨Nat.le_of_ble_eq_true rfl, Nat.le_of_ble_eq_true rfl⟩) (fw_preV gF10.1.1 gF10.1.2 rfl rfl hK hZ hP hS) rfl hl _ rfl (Nat.le_of_ble_eq_true rfl) hS dX10_paper_1 ⟨Nat.zero_le _, Nat.zero_le _⟩ (fun H locs hP hS => ?_)
  refine lv_astore_n (lv' := [(2, .ref (ad 292)), (0, .ref (ad 0)), (1, .int a1)]) hx hb dX10_paper_4 rfl hl (by decide) rfl (fun ls hl => ?_)
  refine lv_iload_n hx hb dX10_paper_5 rfl (lv_at hl 2 rfl) ?_
  refine lv_if_lt (tgt := 17) hx hb dX10_paper_6 (by decide) (fun c2 => ?_) (fun c2 => ?_)
  · replace h := gif_t h c2
    refine lv_iconst (v := gm1) hx hb dX10_paper_17 (by decide) ?_
    refine lv_goto (tgt := 27) hx hb dX10_paper_18 (by decide) ?_
    exact fw_ireti hx hb hr hlocks (Option.some.inj h) hK hZ hP hS dX10_paper_27
  · replace h := gif_f h c2
    refine lv_iload_n hx hb dX10_paper_9 rfl (lv_at hl 2 rfl) ?_
    refine lv_aload_n hx hb dX10_paper_10 rfl (lv_at hl 0 rfl) ?_
    refine fw_geti hx hb hts in_X10_paper_X4 hown hK hP gF10.2.2.2.2.2.2.2.2.2.2.1.1.1 gF10.2.2.2.2.2.2.2.2.2.2.1.1.2 rfl 1 (by decide) rfl (hts _ (List.mem_of_getElem? (i := 1) rfl)) rfl dX10_paper_11 ?_
    refine lv_icmp_lt (tgt := 21) hx hb dX10_paper_14 (by decide) (fun c3 => ?_) (fun c3 => ?_)
    · replace h := gif_t h c3
      refine lv_aload_n hx hb dX10_paper_21 rfl (lv_at hl 0 rfl) ?_
      refine fw_getr hx hb hts in_X10_paper_X4 hown hK hP gF10.2.2.2.2.2.2.2.2.2.2.1.1.1 gF10.2.2.2.2.2.2.2.2.2.2.1.1.2 rfl 0 (by decide) rfl (hts _ (List.mem_of_getElem? (i := 2) rfl)) rfl dX10_paper_22 ?_
      refine lv_iload_n hx hb dX10_paper_25 rfl (lv_at hl 2 rfl) ?_
      obtain ⟨h4, h⟩ := gg_s h
      refine fw_iald hx hb hK hP gF10.2.2.2.2.2.2.2.2.2.2.1.2.1 gF10.2.2.2.2.2.2.2.2.2.2.1.2.2 h4 dX10_paper_26 ?_
      exact fw_ireti hx hb hr hlocks (Option.some.inj h) hK hZ hP hS dX10_paper_27
    · replace h := gif_f h c3
      refine lv_iconst (v := gm1) hx hb dX10_paper_17 (by decide) ?_
      refine lv_goto (tgt := 27) hx hb dX10_paper_18 (by decide) ?_
      exact fw_ireti hx hb hr hlocks (Option.some.inj h) hK hZ hP hS dX10_paper_27
theorem in_X10_tray_X10 : ∀ w ∈ wsX100, w ∈ wsX10_tray := fun w h => List.mem_cons_of_mem _ (List.mem_append_left _ (List.mem_append_right _ (h)))
theorem in_X10_tray_X8 : ∀ w ∈ wsX80, w ∈ wsX10_tray := fun w h => List.mem_cons_of_mem _ (List.mem_append_right _ (h))
theorem hdV_X10_tray : yX10_tray.cls = RX10 ∧ yX10_tray.cls ≠ "java/lang/invoke/MethodHandle" ∧ yX10_tray.cls ≠ "java/lang/invoke/VarHandle" ∧ (parseMethodDescriptor yX10_tray.desc).map (fun d => d.parameters.length) = some 2 := by decide +kernel
set_option maxHeartbeats 4000000 in
set_option maxRecDepth 100000 in
theorem k_X10_tray (l : Launch) (D : va_G) (cA : Nat → ClassId) (ad : Nat → Nat) (tw : Nat) (hG : gOk ad 315) (z : gS) (a1 : Int32) (a2 : Int32) (res : Int32 × gS) (h : f_X10_tray a1 a2 z = some res) : gMi l yX10_tray wsX10_tray (gRm 0 0) D cA ad tw shX 315 [.ref (ad 0), .int a1, .int a2] z res := by
  refine Met.ofW (cc := cX10_tray) (maxL := 3) (ret := (some .int)) (by decide) rfl ?_
  intro p e s m args below meth c s₁ B hml hv
  obtain ⟨rfl, hP, hK, hZ⟩ := hv
  have hx := B.exec
  have hb := B.bytes
  have hr := B.returns
  have hts := atoms_spec (ws := wsX10_tray) B.pre
  have hown : s.vm.findClass RX10 = some m.cls := findClass_of_methodNamed B.named
  have hlocks := B.notSynchronized
  have hS : va_S (gA ad 315) s.heap s.heap [] := va_S.rf
  have hl := lv_entry ([.ref (ad 0), .int a1, .int a2]) (n := 3) (Nat.le_of_ble_eq_true rfl)
  rw [lg_entry_eq]
  generalize (lg_sl ([.ref (ad 0), .int a1, .int a2]) ++ List.replicate (3 - (lg_sl ([.ref (ad 0), .int a1, .int a2])).length) Slot.unset).toArray = ls at hl ⊢
  have hl : lv_has ls 3 [(0, .ref (ad 0)), (1, .int a1), (2, .int a2)] := hl
  have j23 : ∀ (x1 : Int32) (x2 : Int32) (z : gS) (H : Heap) (locs : List Loc) (ls : Array Slot), f_X10_tray_23 x1 x2 z = some res → va_P D vwCl (gw cA ad shX 315 z) H → va_S (gA ad 315) s.heap H locs → lv_has ls 3 [(0, .ref (ad 0)), (1, .int x1), (2, .int x2)] → W p l e (headSpec wsX10_tray (gRm 0 0)).room s m ([.ref (ad 0), .int a1, .int a2] : List Value).toArray below meth c H locs 0 0 (MQ below (va_Qi (fun r u => (r, u) = res) (gPr D cA ad tw shX 315) (gA ad 315)) ([.ref (ad 0), .int a1, .int a2] : List Value).toArray s 0 0 (gA ad 315)) (F0 m 23 ls []) := by
    intro x1 x2 z H locs ls h hP hS hl
    unfold f_X10_tray_23 at h
    refine lv_aload_n hx hb dX10_tray_23 rfl (lv_at hl 0 rfl) ?_
    refine fw_getr hx hb hts in_X10_tray_X10 hown hK hP gF10.1.1 gF10.1.2 rfl 10 (by decide) rfl (hts _ (List.mem_of_getElem? (i := 1) rfl)) rfl dX10_tray_24 ?_
    refine lv_iload_n hx hb dX10_tray_27 rfl (lv_at hl 1 rfl) ?_
    obtain ⟨h5, h⟩ := gg_s h
    refine fw_qald hx hb hK hP gF10.2.2.2.2.2.2.2.2.2.2.2.1.1 gF10.2.2.2.2.2.2.2.2.2.2.2.1.2 (by decide) h5 dX10_tray_28 ?_
    refine lv_iload_n hx hb dX10_tray_29 rfl (lv_at hl 2 rfl) ?_
    refine lv_iconst (v := (nI 1)) hx hb dX10_tray_30 (by decide) ?_
    refine lv_icmp_ne (tgt := 38) hx hb dX10_tray_31 (by decide) (fun c6 => ?_) (fun c6 => ?_)
    · replace h := gif_f h c6
      refine lv_iconst (v := (nI 0)) hx hb dX10_tray_38 (by decide) ?_
      refine fw_put hx hb hts in_X10_tray_X8 tyX8_ok nmX8 hown hK hG hP hS (gF10.2.2.2.2.2.2.2.2.2.2.2.2.1 _ (gvl h5)).1.1 (gF10.2.2.2.2.2.2.2.2.2.2.2.2.1 _ (gvl h5)).1.2 rfl 0 (by decide) rfl (hts _ (List.mem_of_getElem? (i := 2) rfl)) rfl rfl (ty := .boolean) rfl rfl rfl dX10_tray_39 (fun z7 H locs ez7 hP hS => ?_)
      replace h := gl_s h ez7
      refine lv_aload_n hx hb dX10_tray_42 rfl (lv_at hl 0 rfl) ?_
      refine fw_getr hx hb hts in_X10_tray_X10 hown hK hP gF10.1.1 gF10.1.2 rfl 10 (by decide) rfl (hts _ (List.mem_of_getElem? (i := 1) rfl)) rfl dX10_tray_43 ?_
      refine lv_iload_n hx hb dX10_tray_46 rfl (lv_at hl 1 rfl) ?_
      obtain ⟨h8, h⟩ := gg_s h
      refine fw_qald hx hb hK hP gF10.2.2.2.2.2.2.2.2.2.2.2.1.1 gF10.2.2.2.2.2.2.2.2.2.2.2.1.2 (by decide) h8 dX10_tray_47 ?_
      refine lv_iconst (v := (nI 0)) hx hb dX10_tray_48 (by decide) ?_
      refine fw_put hx hb hts in_X10_tray_X8 tyX8_ok nmX8 hown hK hG hP hS (gF10.2.2.2.2.2.2.2.2.2.2.2.2.1 _ (gvl h8)).1.1 (gF10.2.2.2.2.2.2.2.2.2.2.2.2.1 _ (gvl h8)).1.2 rfl 1 (by decide) rfl (hts _ (List.mem_of_getElem? (i := 3) rfl)) rfl rfl (ty := .int) rfl rfl rfl dX10_tray_49 (fun z9 H locs ez9 hP hS => ?_)
      replace h := gl_s h ez9
      refine lv_iconst (v := (nI 1)) hx hb dX10_tray_52 (by decide) ?_
      exact fw_ireti hx hb hr hlocks (Option.some.inj h) hK hZ hP hS dX10_tray_53
    · replace h := gif_t h c6
      refine lv_iconst (v := (nI 1)) hx hb dX10_tray_34 (by decide) ?_
      refine lv_goto (tgt := 39) hx hb dX10_tray_35 (by decide) ?_
      refine fw_put hx hb hts in_X10_tray_X8 tyX8_ok nmX8 hown hK hG hP hS (gF10.2.2.2.2.2.2.2.2.2.2.2.2.1 _ (gvl h5)).1.1 (gF10.2.2.2.2.2.2.2.2.2.2.2.2.1 _ (gvl h5)).1.2 rfl 0 (by decide) rfl (hts _ (List.mem_of_getElem? (i := 2) rfl)) rfl rfl (ty := .boolean) rfl rfl rfl dX10_tray_39 (fun z10 H locs ez10 hP hS => ?_)
      replace h := gl_s h ez10
      refine lv_aload_n hx hb dX10_tray_42 rfl (lv_at hl 0 rfl) ?_
      refine fw_getr hx hb hts in_X10_tray_X10 hown hK hP gF10.1.1 gF10.1.2 rfl 10 (by decide) rfl (hts _ (List.mem_of_getElem? (i := 1) rfl)) rfl dX10_tray_43 ?_
      refine lv_iload_n hx hb dX10_tray_46 rfl (lv_at hl 1 rfl) ?_
      obtain ⟨h11, h⟩ := gg_s h
      refine fw_qald hx hb hK hP gF10.2.2.2.2.2.2.2.2.2.2.2.1.1 gF10.2.2.2.2.2.2.2.2.2.2.2.1.2 (by decide) h11 dX10_tray_47 ?_
      refine lv_iconst (v := (nI 0)) hx hb dX10_tray_48 (by decide) ?_
      refine fw_put hx hb hts in_X10_tray_X8 tyX8_ok nmX8 hown hK hG hP hS (gF10.2.2.2.2.2.2.2.2.2.2.2.2.1 _ (gvl h11)).1.1 (gF10.2.2.2.2.2.2.2.2.2.2.2.2.1 _ (gvl h11)).1.2 rfl 1 (by decide) rfl (hts _ (List.mem_of_getElem? (i := 3) rfl)) rfl rfl (ty := .int) rfl rfl rfl dX10_tray_49 (fun z12 H locs ez12 hP hS => ?_)
      replace h := gl_s h ez12
      refine lv_iconst (v := (nI 1)) hx hb dX10_tray_52 (by decide) ?_
      exact fw_ireti hx hb hr hlocks (Option.some.inj h) hK hZ hP hS dX10_tray_53
  unfold f_X10_tray at h
  refine lv_iload_n hx hb dX10_tray_0 rfl (lv_at hl 1 rfl) ?_
  refine lv_if_lt (tgt := 9) hx hb dX10_tray_1 (by decide) (fun c1 => ?_) (fun c1 => ?_)
  · replace h := gif_t h c1
    refine lv_iconst (v := gm1) hx hb dX10_tray_9 (by decide) ?_
    exact fw_ireti hx hb hr hlocks (Option.some.inj h) hK hZ hP hS dX10_tray_10
  · replace h := gif_f h c1
    refine lv_iload_n hx hb dX10_tray_4 rfl (lv_at hl 1 rfl) ?_
    refine lv_iconst (v := (nI 4)) hx hb dX10_tray_5 (by decide) ?_
    refine lv_icmp_lt (tgt := 11) hx hb dX10_tray_6 (by decide) (fun c2 => ?_) (fun c2 => ?_)
    · replace h := gif_t h c2
      refine lv_iload_n hx hb dX10_tray_11 rfl (lv_at hl 2 rfl) ?_
      refine lv_if_eq (tgt := 23) hx hb dX10_tray_12 (by decide) (fun c3 => ?_) (fun c3 => ?_)
      · replace h := gif_t h c3
        exact j23 a1 a2 z _ _ ls h hP hS (lv_sub hl [0, 1, 2] rfl)
      · replace h := gif_f h c3
        refine lv_iload_n hx hb dX10_tray_15 rfl (lv_at hl 2 rfl) ?_
        refine lv_iconst (v := (nI 1)) hx hb dX10_tray_16 (by decide) ?_
        refine lv_icmp_eq (tgt := 23) hx hb dX10_tray_17 (by decide) (fun c4 => ?_) (fun c4 => ?_)
        · replace h := gif_t h c4
          exact j23 a1 a2 z _ _ ls h hP hS (lv_sub hl [0, 1, 2] rfl)
        · replace h := gif_f h c4
          refine lv_bipush (v := (-2)) hx hb dX10_tray_20 (by decide) ?_
          exact fw_ireti hx hb hr hlocks (Option.some.inj h) hK hZ hP hS dX10_tray_22
    · replace h := gif_f h c2
      refine lv_iconst (v := gm1) hx hb dX10_tray_9 (by decide) ?_
      exact fw_ireti hx hb hr hlocks (Option.some.inj h) hK hZ hP hS dX10_tray_10
theorem in_X10_lay_X10 : ∀ w ∈ wsX100, w ∈ wsX10_lay := fun w h => List.mem_cons_of_mem _ (List.mem_append_left _ (List.mem_append_left _ (List.mem_append_right _ (h))))
theorem in_X10_lay_X5 : ∀ w ∈ wsX50, w ∈ wsX10_lay := fun w h => List.mem_cons_of_mem _ (List.mem_append_right _ (h))
theorem in_X10_lay_X8 : ∀ w ∈ wsX80, w ∈ wsX10_lay := fun w h => List.mem_cons_of_mem _ (List.mem_append_left _ (List.mem_append_right _ (h)))
theorem hdV_X10_lay : yX10_lay.cls = RX10 ∧ yX10_lay.cls ≠ "java/lang/invoke/MethodHandle" ∧ yX10_lay.cls ≠ "java/lang/invoke/VarHandle" ∧ (parseMethodDescriptor yX10_lay.desc).map (fun d => d.parameters.length) = some 2 := by decide +kernel
set_option maxHeartbeats 4000000 in
set_option maxRecDepth 100000 in
theorem k_X10_lay (l : Launch) (D : va_G) (cA : Nat → ClassId) (ad : Nat → Nat) (tw : Nat) (hG : gOk ad 315) (z : gS) (a1 : Int32) (a2 : Int32) (res : Int32 × gS) (h : f_X10_lay a1 a2 z = some res) : gMi l yX10_lay wsX10_lay (gRm 2 44) D cA ad tw shX 315 [.ref (ad 0), .int a1, .int a2] z res := by
  refine Met.ofW (cc := cX10_lay) (maxL := 5) (ret := (some .int)) (by decide) rfl ?_
  intro p e s m args below meth c s₁ B hml hv
  obtain ⟨rfl, hP, hK, hZ⟩ := hv
  have hx := B.exec
  have hb := B.bytes
  have hr := B.returns
  have hts := atoms_spec (ws := wsX10_lay) B.pre
  have hown : s.vm.findClass RX10 = some m.cls := findClass_of_methodNamed B.named
  have hlocks := B.notSynchronized
  have hS : va_S (gA ad 315) s.heap s.heap [] := va_S.rf
  have hl := lv_entry ([.ref (ad 0), .int a1, .int a2]) (n := 5) (Nat.le_of_ble_eq_true rfl)
  rw [lg_entry_eq]
  generalize (lg_sl ([.ref (ad 0), .int a1, .int a2]) ++ List.replicate (5 - (lg_sl ([.ref (ad 0), .int a1, .int a2])).length) Slot.unset).toArray = ls at hl ⊢
  have hl : lv_has ls 5 [(0, .ref (ad 0)), (1, .int a1), (2, .int a2)] := hl
  have j42 : ∀ (x2 : Int32) (x3 : Nat) (hx3 : gC8 x3) (n : Nat) (x4 : Int32) (z : gS) (H : Heap) (locs : List Loc) (ls : Array Slot), f_X10_lay_42 x2 x3 n x4 z = some res → va_P D vwCl (gw cA ad shX 315 z) H → va_S (gA ad 315) s.heap H locs → lv_has ls 5 [(0, .ref (ad 0)), (2, .int x2), (3, .ref (ad x3)), (4, .int x4)] → W p l e (headSpec wsX10_lay (gRm 2 44)).room s m ([.ref (ad 0), .int a1, .int a2] : List Value).toArray below meth c H locs 0 0 (MQ below (va_Qi (fun r u => (r, u) = res) (gPr D cA ad tw shX 315) (gA ad 315)) ([.ref (ad 0), .int a1, .int a2] : List Value).toArray s 0 0 (gA ad 315)) (F0 m 42 ls []) := by
    intro x2 x3 hx3 n
    induction n with
    | zero => intro x4 z H locs ls h; exact (gno h).elim
    | succ n hK42 =>
      intro x4 z H locs ls h hP hS hl
      replace h : f_X10_lay_42_b x2 x3 (f_X10_lay_42 x2 x3 n) x4 z = some res := h
      unfold f_X10_lay_42_b at h
      refine lv_iload hx hb dX10_lay_42 (lv_at hl 3 rfl) ?_
      refine lv_aload_n hx hb dX10_lay_44 rfl (lv_at hl 0 rfl) ?_
      refine fw_getr hx hb hts in_X10_lay_X10 hown hK hP gF10.1.1 gF10.1.2 rfl 0 (by decide) rfl (hts _ (List.mem_of_getElem? (i := 1) rfl)) rfl dX10_lay_45 ?_
      refine fw_geti hx hb hts in_X10_lay_X5 hown hK hP gF10.2.1.1.1 gF10.2.1.1.2 rfl 1 (by decide) rfl (hts _ (List.mem_of_getElem? (i := 4) rfl)) rfl dX10_lay_48 ?_
      refine lv_icmp_ge (tgt := 87) hx hb dX10_lay_51 (by decide) (fun c7 => ?_) (fun c7 => ?_)
      · replace h := gif_t h c7
        refine lv_aload_n hx hb dX10_lay_87 rfl (lv_at hl 2 rfl) ?_
        refine fw_geti hx hb hts in_X10_lay_X8 hown hK hP hx3.1.1 hx3.1.2 rfl 1 (by decide) rfl (hts _ (List.mem_of_getElem? (i := 6) rfl)) rfl dX10_lay_88 ?_
        exact fw_ireti hx hb hr hlocks (Option.some.inj h) hK hZ hP hS dX10_lay_91
      · replace h := gif_f h c7
        refine lv_aload_n hx hb dX10_lay_54 rfl (lv_at hl 0 rfl) ?_
        refine fw_getr hx hb hts in_X10_lay_X10 hown hK hP gF10.1.1 gF10.1.2 rfl 0 (by decide) rfl (hts _ (List.mem_of_getElem? (i := 1) rfl)) rfl dX10_lay_55 ?_
        refine lv_iload_n hx hb dX10_lay_58 rfl (lv_at hl 1 rfl) ?_
        refine lv_iload hx hb dX10_lay_59 (lv_at hl 3 rfl) ?_
        obtain ⟨q8, hq8, h⟩ := gb_s h
        refine fw_viR (As := [.int x2, .int x4]) (rest := []) ⟨hx, hb, hml, hown, hts⟩ (k_X5_owns l D cA ad tw hG z 1 (gF10.2.1) x2 x4 q8 hq8) (cwV 2 hts gX10_lay_X5_owns rfl rfl rfl hdV_X5_owns ⟨Nat.le_of_ble_eq_true rfl, Nat.le_of_ble_eq_true rfl⟩) (fw_preV gF10.2.1.1.1 gF10.2.1.1.2 rfl rfl hK hZ hP hS) rfl hl _ rfl (Nat.le_of_ble_eq_true rfl) hS dX10_lay_61 ⟨Nat.zero_le _, Nat.zero_le _⟩ (fun H locs hP hS => ?_)
        refine lv_if_eq (tgt := 81) hx hb dX10_lay_64 (by decide) (fun c9 => ?_) (fun c9 => ?_)
        · replace h := gif_t h c9
          refine lv_iinc (v := x4 + (nI 1)) (lv' := [(4, .int (x4 + (nI 1))), (0, .ref (ad 0)), (2, .int x2), (3, .ref (ad x3))]) hx hb dX10_lay_81 hl (k := 3) rfl rfl (by decide) rfl (fun ls hl => ?_)
          refine lv_goto (tgt := 42) hx hb dX10_lay_84 (by decide) ?_
          exact hK42 (x4 + (nI 1)) z _ _ ls h hP hS (lv_sub hl [1, 2, 3, 0] rfl)
        · replace h := gif_f h c9
          refine lv_aload_n hx hb dX10_lay_67 rfl (lv_at hl 2 rfl) ?_
          refine lv_aload_n hx hb dX10_lay_68 rfl (lv_at hl 0 rfl) ?_
          refine fw_getr hx hb hts in_X10_lay_X10 hown hK hP gF10.1.1 gF10.1.2 rfl 0 (by decide) rfl (hts _ (List.mem_of_getElem? (i := 1) rfl)) rfl dX10_lay_69 ?_
          refine fw_getr hx hb hts in_X10_lay_X5 hown hK hP gF10.2.1.1.1 gF10.2.1.1.2 rfl 4 (by decide) rfl (hts _ (List.mem_of_getElem? (i := 5) rfl)) rfl dX10_lay_72 ?_
          refine lv_iload hx hb dX10_lay_75 (lv_at hl 3 rfl) ?_
          obtain ⟨h10, h⟩ := gg_s h
          refine fw_iald hx hb hK hP gF10.2.1.2.2.2.1 gF10.2.1.2.2.2.2 h10 dX10_lay_77 ?_
          obtain ⟨q11, hq11, h⟩ := gb_s h
          refine fw_vv (As := [.int (z (1 + 3) x4.toNatClampNeg)]) (rest := []) ⟨hx, hb, hml, hown, hts⟩ (k_X8_add l D cA ad tw hG z x3 (hx3) (z (1 + 3) x4.toNatClampNeg) q11 hq11) (cwV 1 hts gX10_lay_X8_add rfl rfl rfl hdV_X8_add ⟨Nat.le_of_ble_eq_true rfl, Nat.le_of_ble_eq_true rfl⟩) (fw_preV hx3.1.1 hx3.1.2 rfl rfl hK hZ hP hS) rfl hl _ rfl (Nat.le_of_ble_eq_true rfl) hS dX10_lay_78 ⟨Nat.zero_le _, Nat.zero_le _⟩ (fun H locs hP hS => ?_)
          refine lv_iinc (v := x4 + (nI 1)) (lv' := [(4, .int (x4 + (nI 1))), (0, .ref (ad 0)), (2, .int x2), (3, .ref (ad x3))]) hx hb dX10_lay_81 hl (k := 3) rfl rfl (by decide) rfl (fun ls hl => ?_)
          refine lv_goto (tgt := 42) hx hb dX10_lay_84 (by decide) ?_
          exact hK42 (x4 + (nI 1)) q11 _ _ ls h hP hS (lv_sub hl [1, 2, 3, 0] rfl)
  unfold f_X10_lay at h
  refine lv_iload_n hx hb dX10_lay_0 rfl (lv_at hl 1 rfl) ?_
  refine lv_if_lt (tgt := 20) hx hb dX10_lay_1 (by decide) (fun c1 => ?_) (fun c1 => ?_)
  · replace h := gif_t h c1
    refine lv_iconst (v := gm1) hx hb dX10_lay_20 (by decide) ?_
    exact fw_ireti hx hb hr hlocks (Option.some.inj h) hK hZ hP hS dX10_lay_21
  · replace h := gif_f h c1
    refine lv_iload_n hx hb dX10_lay_4 rfl (lv_at hl 1 rfl) ?_
    refine lv_iconst (v := (nI 4)) hx hb dX10_lay_5 (by decide) ?_
    refine lv_icmp_ge (tgt := 20) hx hb dX10_lay_6 (by decide) (fun c2 => ?_) (fun c2 => ?_)
    · replace h := gif_t h c2
      refine lv_iconst (v := gm1) hx hb dX10_lay_20 (by decide) ?_
      exact fw_ireti hx hb hr hlocks (Option.some.inj h) hK hZ hP hS dX10_lay_21
    · replace h := gif_f h c2
      refine lv_aload_n hx hb dX10_lay_9 rfl (lv_at hl 0 rfl) ?_
      refine fw_getr hx hb hts in_X10_lay_X10 hown hK hP gF10.1.1 gF10.1.2 rfl 0 (by decide) rfl (hts _ (List.mem_of_getElem? (i := 1) rfl)) rfl dX10_lay_10 ?_
      refine lv_iload_n hx hb dX10_lay_13 rfl (lv_at hl 2 rfl) ?_
      obtain ⟨q3, hq3, h⟩ := gb_s h
      refine fw_viR (As := [.int a2]) (rest := []) ⟨hx, hb, hml, hown, hts⟩ (k_X5_holds l D cA ad tw hG z 1 (gF10.2.1) a2 q3 hq3) (cwV 1 hts gX10_lay_X5_holds rfl rfl rfl hdV_X5_holds ⟨Nat.le_of_ble_eq_true rfl, Nat.le_of_ble_eq_true rfl⟩) (fw_preV gF10.2.1.1.1 gF10.2.1.1.2 rfl rfl hK hZ hP hS) rfl hl _ rfl (Nat.le_of_ble_eq_true rfl) hS dX10_lay_14 ⟨Nat.zero_le _, Nat.zero_le _⟩ (fun H locs hP hS => ?_)
      refine lv_if_ne (tgt := 22) hx hb dX10_lay_17 (by decide) (fun c4 => ?_) (fun c4 => ?_)
      · replace h := gif_f h c4
        refine lv_aload_n hx hb dX10_lay_22 rfl (lv_at hl 0 rfl) ?_
        refine fw_getr hx hb hts in_X10_lay_X10 hown hK hP gF10.1.1 gF10.1.2 rfl 10 (by decide) rfl (hts _ (List.mem_of_getElem? (i := 2) rfl)) rfl dX10_lay_23 ?_
        refine lv_iload_n hx hb dX10_lay_26 rfl (lv_at hl 1 rfl) ?_
        obtain ⟨h5, h⟩ := gg_s h
        refine fw_qald hx hb hK hP gF10.2.2.2.2.2.2.2.2.2.2.2.1.1 gF10.2.2.2.2.2.2.2.2.2.2.2.1.2 (by decide) h5 dX10_lay_27 ?_
        refine lv_astore_n (lv' := [(3, .ref (ad (297 + 3 * a1.toNatClampNeg))), (0, .ref (ad 0)), (1, .int a1), (2, .int a2)]) hx hb dX10_lay_28 rfl hl (by decide) rfl (fun ls hl => ?_)
        refine lv_aload_n hx hb dX10_lay_29 rfl (lv_at hl 0 rfl) ?_
        refine fw_geti hx hb hts in_X10_lay_X8 hown hK hP (gF10.2.2.2.2.2.2.2.2.2.2.2.2.1 _ (gvl h5)).1.1 (gF10.2.2.2.2.2.2.2.2.2.2.2.2.1 _ (gvl h5)).1.2 rfl 0 (by decide) rfl (hts _ (List.mem_of_getElem? (i := 3) rfl)) rfl dX10_lay_30 ?_
        refine lv_if_ne (tgt := 39) hx hb dX10_lay_33 (by decide) (fun c6 => ?_) (fun c6 => ?_)
        · replace h := gif_f h c6
          refine lv_iconst (v := (nI 0)) hx hb dX10_lay_39 (by decide) ?_
          refine lv_istore (lv' := [(4, .int (nI 0)), (3, .ref (ad (297 + 3 * a1.toNatClampNeg))), (0, .ref (ad 0)), (1, .int a1), (2, .int a2)]) hx hb dX10_lay_40 hl (by decide) rfl (fun ls hl => ?_)
          exact j42 a2 (297 + 3 * a1.toNatClampNeg) ((gF10.2.2.2.2.2.2.2.2.2.2.2.2.1 _ (gvl h5))) gF (nI 0) z _ _ ls h hP hS (lv_sub hl [2, 4, 1, 0] rfl)
        · replace h := gif_t h c6
          refine lv_bipush (v := (-11)) hx hb dX10_lay_36 (by decide) ?_
          exact fw_ireti hx hb hr hlocks (Option.some.inj h) hK hZ hP hS dX10_lay_38
      · replace h := gif_t h c4
        refine lv_iconst (v := gm1) hx hb dX10_lay_20 (by decide) ?_
        exact fw_ireti hx hb hr hlocks (Option.some.inj h) hK hZ hP hS dX10_lay_21
theorem in_X10_laid_X10 : ∀ w ∈ wsX100, w ∈ wsX10_laid := fun w h => List.mem_cons_of_mem _ (List.mem_append_left _ (List.mem_append_left _ (List.mem_append_right _ (h))))
theorem in_X10_laid_X5 : ∀ w ∈ wsX50, w ∈ wsX10_laid := fun w h => List.mem_cons_of_mem _ (List.mem_append_right _ (h))
theorem in_X10_laid_X8 : ∀ w ∈ wsX80, w ∈ wsX10_laid := fun w h => List.mem_cons_of_mem _ (List.mem_append_left _ (List.mem_append_right _ (h)))
theorem hdV_X10_laid : yX10_laid.cls = RX10 ∧ yX10_laid.cls ≠ "java/lang/invoke/MethodHandle" ∧ yX10_laid.cls ≠ "java/lang/invoke/VarHandle" ∧ (parseMethodDescriptor yX10_laid.desc).map (fun d => d.parameters.length) = some 2 := by decide +kernel
set_option maxHeartbeats 4000000 in
set_option maxRecDepth 100000 in
theorem k_X10_laid (l : Launch) (D : va_G) (cA : Nat → ClassId) (ad : Nat → Nat) (tw : Nat) (hG : gOk ad 315) (z : gS) (a1 : Int32) (a2 : Int32) (res : Int32) (h : f_X10_laid a1 a2 z = some res) : gMi l yX10_laid wsX10_laid (gRm 1 22) D cA ad tw shX 315 [.ref (ad 0), .int a1, .int a2] z (res, z) := by
  refine Met.ofW (cc := cX10_laid) (maxL := 5) (ret := (some .int)) (by decide) rfl ?_
  intro p e s m args below meth c s₁ B hml hv
  obtain ⟨rfl, hP, hK, hZ⟩ := hv
  have hx := B.exec
  have hb := B.bytes
  have hr := B.returns
  have hts := atoms_spec (ws := wsX10_laid) B.pre
  have hown : s.vm.findClass RX10 = some m.cls := findClass_of_methodNamed B.named
  have hlocks := B.notSynchronized
  have hS : va_S (gA ad 315) s.heap s.heap [] := va_S.rf
  have hl := lv_entry ([.ref (ad 0), .int a1, .int a2]) (n := 5) (Nat.le_of_ble_eq_true rfl)
  rw [lg_entry_eq]
  generalize (lg_sl ([.ref (ad 0), .int a1, .int a2]) ++ List.replicate (5 - (lg_sl ([.ref (ad 0), .int a1, .int a2])).length) Slot.unset).toArray = ls at hl ⊢
  have hl : lv_has ls 5 [(0, .ref (ad 0)), (1, .int a1), (2, .int a2)] := hl
  unfold f_X10_laid at h
  refine lv_iload_n hx hb dX10_laid_0 rfl (lv_at hl 1 rfl) ?_
  refine lv_if_lt (tgt := 20) hx hb dX10_laid_1 (by decide) (fun c1 => ?_) (fun c1 => ?_)
  · replace h := gif_t h c1
    refine lv_iconst (v := gm1) hx hb dX10_laid_20 (by decide) ?_
    exact fw_ireti hx hb hr hlocks (congrArg (fun q => (q, z)) (Option.some.inj h)) hK hZ hP hS dX10_laid_21
  · replace h := gif_f h c1
    refine lv_iload_n hx hb dX10_laid_4 rfl (lv_at hl 1 rfl) ?_
    refine lv_iconst (v := (nI 4)) hx hb dX10_laid_5 (by decide) ?_
    refine lv_icmp_ge (tgt := 20) hx hb dX10_laid_6 (by decide) (fun c2 => ?_) (fun c2 => ?_)
    · replace h := gif_t h c2
      refine lv_iconst (v := gm1) hx hb dX10_laid_20 (by decide) ?_
      exact fw_ireti hx hb hr hlocks (congrArg (fun q => (q, z)) (Option.some.inj h)) hK hZ hP hS dX10_laid_21
    · replace h := gif_f h c2
      refine lv_aload_n hx hb dX10_laid_9 rfl (lv_at hl 0 rfl) ?_
      refine fw_getr hx hb hts in_X10_laid_X10 hown hK hP gF10.1.1 gF10.1.2 rfl 0 (by decide) rfl (hts _ (List.mem_of_getElem? (i := 1) rfl)) rfl dX10_laid_10 ?_
      refine lv_iload_n hx hb dX10_laid_13 rfl (lv_at hl 2 rfl) ?_
      obtain ⟨q3, hq3, h⟩ := gb_s h
      refine fw_viR (As := [.int a2]) (rest := []) ⟨hx, hb, hml, hown, hts⟩ (k_X5_knows l D cA ad tw hG z 1 (gF10.2.1) a2 q3 hq3) (cwV 1 hts gX10_laid_X5_knows rfl rfl rfl hdV_X5_knows ⟨Nat.le_of_ble_eq_true rfl, Nat.le_of_ble_eq_true rfl⟩) (fw_preV gF10.2.1.1.1 gF10.2.1.1.2 rfl rfl hK hZ hP hS) rfl hl _ rfl (Nat.le_of_ble_eq_true rfl) hS dX10_laid_14 ⟨Nat.zero_le _, Nat.zero_le _⟩ (fun H locs hP hS => ?_)
      refine lv_if_ne (tgt := 22) hx hb dX10_laid_17 (by decide) (fun c4 => ?_) (fun c4 => ?_)
      · replace h := gif_f h c4
        refine lv_aload_n hx hb dX10_laid_22 rfl (lv_at hl 0 rfl) ?_
        refine fw_getr hx hb hts in_X10_laid_X10 hown hK hP gF10.1.1 gF10.1.2 rfl 10 (by decide) rfl (hts _ (List.mem_of_getElem? (i := 2) rfl)) rfl dX10_laid_23 ?_
        refine lv_iload_n hx hb dX10_laid_26 rfl (lv_at hl 1 rfl) ?_
        obtain ⟨h5, h⟩ := gg_s h
        refine fw_qald hx hb hK hP gF10.2.2.2.2.2.2.2.2.2.2.2.1.1 gF10.2.2.2.2.2.2.2.2.2.2.2.1.2 (by decide) h5 dX10_laid_27 ?_
        refine lv_astore_n (lv' := [(3, .ref (ad (297 + 3 * a1.toNatClampNeg))), (0, .ref (ad 0)), (1, .int a1), (2, .int a2)]) hx hb dX10_laid_28 rfl hl (by decide) rfl (fun ls hl => ?_)
        refine lv_aload_n hx hb dX10_laid_29 rfl (lv_at hl 0 rfl) ?_
        refine fw_geti hx hb hts in_X10_laid_X8 hown hK hP (gF10.2.2.2.2.2.2.2.2.2.2.2.2.1 _ (gvl h5)).1.1 (gF10.2.2.2.2.2.2.2.2.2.2.2.2.1 _ (gvl h5)).1.2 rfl 0 (by decide) rfl (hts _ (List.mem_of_getElem? (i := 3) rfl)) rfl dX10_laid_30 ?_
        refine lv_if_ne (tgt := 39) hx hb dX10_laid_33 (by decide) (fun c6 => ?_) (fun c6 => ?_)
        · replace h := gif_f h c6
          refine lv_aload_n hx hb dX10_laid_39 rfl (lv_at hl 0 rfl) ?_
          refine lv_aload_n hx hb dX10_laid_40 rfl (lv_at hl 1 rfl) ?_
          refine fw_getr hx hb hts in_X10_laid_X10 hown hK hP gF10.1.1 gF10.1.2 rfl 0 (by decide) rfl (hts _ (List.mem_of_getElem? (i := 1) rfl)) rfl dX10_laid_41 ?_
          refine fw_getr hx hb hts in_X10_laid_X5 hown hK hP gF10.2.1.1.1 gF10.2.1.1.2 rfl 4 (by decide) rfl (hts _ (List.mem_of_getElem? (i := 4) rfl)) rfl dX10_laid_44 ?_
          refine lv_iload_n hx hb dX10_laid_47 rfl (lv_at hl 3 rfl) ?_
          obtain ⟨h7, h⟩ := gg_s h
          refine fw_iald hx hb hK hP gF10.2.1.2.2.2.1 gF10.2.1.2.2.2.2 h7 dX10_laid_48 ?_
          obtain ⟨q8, hq8, h⟩ := gb_s h
          refine fw_viR (As := [.int (z (1 + 3) a2.toNatClampNeg)]) (rest := []) ⟨hx, hb, hml, hown, hts⟩ (k_X8_find l D cA ad tw hG z (297 + 3 * a1.toNatClampNeg) ((gF10.2.2.2.2.2.2.2.2.2.2.2.2.1 _ (gvl h5))) (z (1 + 3) a2.toNatClampNeg) q8 hq8) (cwV 1 hts gX10_laid_X8_find rfl rfl rfl hdV_X8_find ⟨Nat.le_of_ble_eq_true rfl, Nat.le_of_ble_eq_true rfl⟩) (fw_preV (gF10.2.2.2.2.2.2.2.2.2.2.2.2.1 _ (gvl h5)).1.1 (gF10.2.2.2.2.2.2.2.2.2.2.2.2.1 _ (gvl h5)).1.2 rfl rfl hK hZ hP hS) rfl hl _ rfl (Nat.le_of_ble_eq_true rfl) hS dX10_laid_49 ⟨Nat.zero_le _, Nat.zero_le _⟩ (fun H locs hP hS => ?_)
          refine lv_istore (lv' := [(4, .int q8), (3, .ref (ad (297 + 3 * a1.toNatClampNeg))), (0, .ref (ad 0)), (1, .int a1), (2, .int a2)]) hx hb dX10_laid_52 hl (by decide) rfl (fun ls hl => ?_)
          refine lv_iload hx hb dX10_laid_54 (lv_at hl 0 rfl) ?_
          refine lv_if_ge (tgt := 64) hx hb dX10_laid_56 (by decide) (fun c9 => ?_) (fun c9 => ?_)
          · replace h := gif_t h c9
            refine lv_aload_n hx hb dX10_laid_64 rfl (lv_at hl 1 rfl) ?_
            refine fw_getr hx hb hts in_X10_laid_X8 hown hK hP (gF10.2.2.2.2.2.2.2.2.2.2.2.2.1 _ (gvl h5)).1.1 (gF10.2.2.2.2.2.2.2.2.2.2.2.2.1 _ (gvl h5)).1.2 rfl 3 (by decide) rfl (hts _ (List.mem_of_getElem? (i := 5) rfl)) rfl dX10_laid_65 ?_
            refine lv_iload hx hb dX10_laid_68 (lv_at hl 0 rfl) ?_
            obtain ⟨h10, h⟩ := gg_s h
            refine fw_iald hx hb hK hP (gF10.2.2.2.2.2.2.2.2.2.2.2.2.1 _ (gvl h5)).2.2.1 (gF10.2.2.2.2.2.2.2.2.2.2.2.2.1 _ (gvl h5)).2.2.2 h10 dX10_laid_70 ?_
            exact fw_ireti hx hb hr hlocks (congrArg (fun q => (q, z)) (Option.some.inj h)) hK hZ hP hS dX10_laid_71
          · replace h := gif_f h c9
            refine lv_bipush (v := (-5)) hx hb dX10_laid_59 (by decide) ?_
            refine lv_goto (tgt := 71) hx hb dX10_laid_61 (by decide) ?_
            exact fw_ireti hx hb hr hlocks (congrArg (fun q => (q, z)) (Option.some.inj h)) hK hZ hP hS dX10_laid_71
        · replace h := gif_t h c6
          refine lv_bipush (v := (-11)) hx hb dX10_laid_36 (by decide) ?_
          exact fw_ireti hx hb hr hlocks (congrArg (fun q => (q, z)) (Option.some.inj h)) hK hZ hP hS dX10_laid_38
      · replace h := gif_t h c4
        refine lv_iconst (v := gm1) hx hb dX10_laid_20 (by decide) ?_
        exact fw_ireti hx hb hr hlocks (congrArg (fun q => (q, z)) (Option.some.inj h)) hK hZ hP hS dX10_laid_21
theorem in_X10_list_X10 : ∀ w ∈ wsX100, w ∈ wsX10_list := fun w h => List.mem_cons_of_mem _ (List.mem_append_left _ (List.mem_append_right _ (h)))
theorem hdV_X10_list : yX10_list.cls = RX10 ∧ yX10_list.cls ≠ "java/lang/invoke/MethodHandle" ∧ yX10_list.cls ≠ "java/lang/invoke/VarHandle" ∧ (parseMethodDescriptor yX10_list.desc).map (fun d => d.parameters.length) = some 2 := by decide +kernel
set_option maxHeartbeats 4000000 in
set_option maxRecDepth 100000 in
theorem k_X10_list (l : Launch) (D : va_G) (cA : Nat → ClassId) (ad : Nat → Nat) (tw : Nat) (hG : gOk ad 315) (z : gS) (a1 : Int32) (a2 : Int32) (res : Int32 × gS) (h : f_X10_list a1 a2 z = some res) : gMi l yX10_list wsX10_list (gRm 1 22) D cA ad tw shX 315 [.ref (ad 0), .int a1, .int a2] z res := by
  refine Met.ofW (cc := cX10_list) (maxL := 3) (ret := (some .int)) (by decide) rfl ?_
  intro p e s m args below meth c s₁ B hml hv
  obtain ⟨rfl, hP, hK, hZ⟩ := hv
  have hx := B.exec
  have hb := B.bytes
  have hr := B.returns
  have hts := atoms_spec (ws := wsX10_list) B.pre
  have hown : s.vm.findClass RX10 = some m.cls := findClass_of_methodNamed B.named
  have hlocks := B.notSynchronized
  have hS : va_S (gA ad 315) s.heap s.heap [] := va_S.rf
  have hl := lv_entry ([.ref (ad 0), .int a1, .int a2]) (n := 3) (Nat.le_of_ble_eq_true rfl)
  rw [lg_entry_eq]
  generalize (lg_sl ([.ref (ad 0), .int a1, .int a2]) ++ List.replicate (3 - (lg_sl ([.ref (ad 0), .int a1, .int a2])).length) Slot.unset).toArray = ls at hl ⊢
  have hl : lv_has ls 3 [(0, .ref (ad 0)), (1, .int a1), (2, .int a2)] := hl
  unfold f_X10_list at h
  refine lv_iload_n hx hb dX10_list_0 rfl (lv_at hl 1 rfl) ?_
  refine lv_if_lt (tgt := 9) hx hb dX10_list_1 (by decide) (fun c1 => ?_) (fun c1 => ?_)
  · replace h := gif_t h c1
    refine lv_iconst (v := gm1) hx hb dX10_list_9 (by decide) ?_
    exact fw_ireti hx hb hr hlocks (Option.some.inj h) hK hZ hP hS dX10_list_10
  · replace h := gif_f h c1
    refine lv_iload_n hx hb dX10_list_4 rfl (lv_at hl 1 rfl) ?_
    refine lv_iconst (v := (nI 3)) hx hb dX10_list_5 (by decide) ?_
    refine lv_icmp_lt (tgt := 11) hx hb dX10_list_6 (by decide) (fun c2 => ?_) (fun c2 => ?_)
    · replace h := gif_t h c2
      refine lv_iload_n hx hb dX10_list_11 rfl (lv_at hl 2 rfl) ?_
      refine lv_bipush (v := (nI 30)) hx hb dX10_list_12 (by decide) ?_
      refine lv_icmp_le (tgt := 20) hx hb dX10_list_14 (by decide) (fun c3 => ?_) (fun c3 => ?_)
      · replace h := gif_t h c3
        refine lv_iload_n hx hb dX10_list_20 rfl (lv_at hl 2 rfl) ?_
        refine lv_iconst (v := gm1) hx hb dX10_list_21 (by decide) ?_
        refine lv_icmp_ge (tgt := 28) hx hb dX10_list_22 (by decide) (fun c4 => ?_) (fun c4 => ?_)
        · replace h := gif_t h c4
          refine lv_aload_n hx hb dX10_list_28 rfl (lv_at hl 0 rfl) ?_
          refine fw_getr hx hb hts in_X10_list_X10 hown hK hP gF10.1.1 gF10.1.2 rfl 11 (by decide) rfl (hts _ (List.mem_of_getElem? (i := 1) rfl)) rfl dX10_list_29 ?_
          refine lv_iload_n hx hb dX10_list_32 rfl (lv_at hl 1 rfl) ?_
          obtain ⟨h5, h⟩ := gg_s h
          refine fw_qald hx hb hK hP gF10.2.2.2.2.2.2.2.2.2.2.2.2.2.1.1 gF10.2.2.2.2.2.2.2.2.2.2.2.2.2.1.2 (by decide) h5 dX10_list_33 ?_
          refine lv_iload_n hx hb dX10_list_34 rfl (lv_at hl 2 rfl) ?_
          obtain ⟨q6, hq6, h⟩ := gb_s h
          refine fw_vv (As := [.int a2]) (rest := []) ⟨hx, hb, hml, hown, hts⟩ (k_X1_become l D cA ad tw hG z (309 + 2 * a1.toNatClampNeg) ((gF10.2.2.2.2.2.2.2.2.2.2.2.2.2.2.1 _ (gvl h5))) a2 q6 hq6) (cwV 1 hts gX10_list_X1_become rfl rfl rfl hdV_X1_become ⟨Nat.le_of_ble_eq_true rfl, Nat.le_of_ble_eq_true rfl⟩) (fw_preV (gF10.2.2.2.2.2.2.2.2.2.2.2.2.2.2.1 _ (gvl h5)).1.1 (gF10.2.2.2.2.2.2.2.2.2.2.2.2.2.2.1 _ (gvl h5)).1.2 rfl rfl hK hZ hP hS) rfl hl _ rfl (Nat.le_of_ble_eq_true rfl) hS dX10_list_35 ⟨Nat.zero_le _, Nat.zero_le _⟩ (fun H locs hP hS => ?_)
          refine lv_iconst (v := (nI 1)) hx hb dX10_list_38 (by decide) ?_
          exact fw_ireti hx hb hr hlocks (Option.some.inj h) hK hZ hP hS dX10_list_39
        · replace h := gif_f h c4
          refine lv_bipush (v := (-14)) hx hb dX10_list_25 (by decide) ?_
          exact fw_ireti hx hb hr hlocks (Option.some.inj h) hK hZ hP hS dX10_list_27
      · replace h := gif_f h c3
        refine lv_bipush (v := (-2)) hx hb dX10_list_17 (by decide) ?_
        exact fw_ireti hx hb hr hlocks (Option.some.inj h) hK hZ hP hS dX10_list_19
    · replace h := gif_f h c2
      refine lv_iconst (v := gm1) hx hb dX10_list_9 (by decide) ?_
      exact fw_ireti hx hb hr hlocks (Option.some.inj h) hK hZ hP hS dX10_list_10
theorem in_X10_put_X1 : ∀ w ∈ wsX10, w ∈ wsX10_put := fun w h => List.mem_cons_of_mem _ (List.mem_append_right _ (h))
theorem in_X10_put_X10 : ∀ w ∈ wsX100, w ∈ wsX10_put := fun w h => List.mem_cons_of_mem _ (List.mem_append_left _ (List.mem_append_right _ (h)))
theorem hdV_X10_put : yX10_put.cls = RX10 ∧ yX10_put.cls ≠ "java/lang/invoke/MethodHandle" ∧ yX10_put.cls ≠ "java/lang/invoke/VarHandle" ∧ (parseMethodDescriptor yX10_put.desc).map (fun d => d.parameters.length) = some 3 := by decide +kernel
set_option maxHeartbeats 4000000 in
set_option maxRecDepth 100000 in
theorem k_X10_put (l : Launch) (D : va_G) (cA : Nat → ClassId) (ad : Nat → Nat) (tw : Nat) (hG : gOk ad 315) (z : gS) (a1 : Int32) (a2 : Int32) (a3 : Int32) (res : Int32 × gS) (h : f_X10_put a1 a2 a3 z = some res) : gMi l yX10_put wsX10_put (gRm 1 21) D cA ad tw shX 315 [.ref (ad 0), .int a1, .int a2, .int a3] z res := by
  refine Met.ofW (cc := cX10_put) (maxL := 5) (ret := (some .int)) (by decide) rfl ?_
  intro p e s m args below meth c s₁ B hml hv
  obtain ⟨rfl, hP, hK, hZ⟩ := hv
  have hx := B.exec
  have hb := B.bytes
  have hr := B.returns
  have hts := atoms_spec (ws := wsX10_put) B.pre
  have hown : s.vm.findClass RX10 = some m.cls := findClass_of_methodNamed B.named
  have hlocks := B.notSynchronized
  have hS : va_S (gA ad 315) s.heap s.heap [] := va_S.rf
  have hl := lv_entry ([.ref (ad 0), .int a1, .int a2, .int a3]) (n := 5) (Nat.le_of_ble_eq_true rfl)
  rw [lg_entry_eq]
  generalize (lg_sl ([.ref (ad 0), .int a1, .int a2, .int a3]) ++ List.replicate (5 - (lg_sl ([.ref (ad 0), .int a1, .int a2, .int a3])).length) Slot.unset).toArray = ls at hl ⊢
  have hl : lv_has ls 5 [(0, .ref (ad 0)), (1, .int a1), (2, .int a2), (3, .int a3)] := hl
  unfold f_X10_put at h
  refine lv_iload_n hx hb dX10_put_0 rfl (lv_at hl 1 rfl) ?_
  refine lv_if_lt (tgt := 9) hx hb dX10_put_1 (by decide) (fun c1 => ?_) (fun c1 => ?_)
  · replace h := gif_t h c1
    refine lv_iconst (v := gm1) hx hb dX10_put_9 (by decide) ?_
    exact fw_ireti hx hb hr hlocks (Option.some.inj h) hK hZ hP hS dX10_put_10
  · replace h := gif_f h c1
    refine lv_iload_n hx hb dX10_put_4 rfl (lv_at hl 1 rfl) ?_
    refine lv_iconst (v := (nI 3)) hx hb dX10_put_5 (by decide) ?_
    refine lv_icmp_lt (tgt := 11) hx hb dX10_put_6 (by decide) (fun c2 => ?_) (fun c2 => ?_)
    · replace h := gif_t h c2
      refine lv_aload_n hx hb dX10_put_11 rfl (lv_at hl 0 rfl) ?_
      refine fw_getr hx hb hts in_X10_put_X10 hown hK hP gF10.1.1 gF10.1.2 rfl 11 (by decide) rfl (hts _ (List.mem_of_getElem? (i := 1) rfl)) rfl dX10_put_12 ?_
      refine lv_iload_n hx hb dX10_put_15 rfl (lv_at hl 1 rfl) ?_
      obtain ⟨h3, h⟩ := gg_s h
      refine fw_qald hx hb hK hP gF10.2.2.2.2.2.2.2.2.2.2.2.2.2.1.1 gF10.2.2.2.2.2.2.2.2.2.2.2.2.2.1.2 (by decide) h3 dX10_put_16 ?_
      refine lv_astore (lv' := [(4, .ref (ad (309 + 2 * a1.toNatClampNeg))), (0, .ref (ad 0)), (1, .int a1), (2, .int a2), (3, .int a3)]) hx hb dX10_put_17 hl (by decide) rfl (fun ls hl => ?_)
      refine lv_aload hx hb dX10_put_19 (lv_at hl 0 rfl) ?_
      obtain ⟨q4, hq4, h⟩ := gb_s h
      refine fw_viR (As := []) (rest := []) ⟨hx, hb, hml, hown, hts⟩ (k_X1_isMissing l D cA ad tw hG z (309 + 2 * a1.toNatClampNeg) ((gF10.2.2.2.2.2.2.2.2.2.2.2.2.2.2.1 _ (gvl h3))) q4 hq4) (cwV 0 hts gX10_put_X1_isMissing rfl rfl rfl hdV_X1_isMissing ⟨Nat.le_of_ble_eq_true rfl, Nat.le_of_ble_eq_true rfl⟩) (fw_preV (gF10.2.2.2.2.2.2.2.2.2.2.2.2.2.2.1 _ (gvl h3)).1.1 (gF10.2.2.2.2.2.2.2.2.2.2.2.2.2.2.1 _ (gvl h3)).1.2 rfl rfl hK hZ hP hS) rfl hl _ rfl (Nat.le_of_ble_eq_true rfl) hS dX10_put_21 ⟨Nat.zero_le _, Nat.zero_le _⟩ (fun H locs hP hS => ?_)
      refine lv_if_eq (tgt := 30) hx hb dX10_put_24 (by decide) (fun c5 => ?_) (fun c5 => ?_)
      · replace h := gif_t h c5
        refine lv_aload hx hb dX10_put_30 (lv_at hl 0 rfl) ?_
        refine lv_iload_n hx hb dX10_put_32 rfl (lv_at hl 3 rfl) ?_
        obtain ⟨q6, hq6, h⟩ := gb_s h
        refine fw_viR (As := [.int a2]) (rest := []) ⟨hx, hb, hml, hown, hts⟩ (k_X1_reaches l D cA ad tw hG z (309 + 2 * a1.toNatClampNeg) ((gF10.2.2.2.2.2.2.2.2.2.2.2.2.2.2.1 _ (gvl h3))) a2 q6 hq6) (cwV 1 hts gX10_put_X1_reaches rfl rfl rfl hdV_X1_reaches ⟨Nat.le_of_ble_eq_true rfl, Nat.le_of_ble_eq_true rfl⟩) (fw_preV (gF10.2.2.2.2.2.2.2.2.2.2.2.2.2.2.1 _ (gvl h3)).1.1 (gF10.2.2.2.2.2.2.2.2.2.2.2.2.2.2.1 _ (gvl h3)).1.2 rfl rfl hK hZ hP hS) rfl hl _ rfl (Nat.le_of_ble_eq_true rfl) hS dX10_put_33 ⟨Nat.zero_le _, Nat.zero_le _⟩ (fun H locs hP hS => ?_)
        refine lv_if_ne (tgt := 42) hx hb dX10_put_36 (by decide) (fun c7 => ?_) (fun c7 => ?_)
        · replace h := gif_f h c7
          refine lv_aload hx hb dX10_put_42 (lv_at hl 0 rfl) ?_
          refine fw_getr hx hb hts in_X10_put_X1 hown hK hP (gF10.2.2.2.2.2.2.2.2.2.2.2.2.2.2.1 _ (gvl h3)).1.1 (gF10.2.2.2.2.2.2.2.2.2.2.2.2.2.2.1 _ (gvl h3)).1.2 rfl 1 (by decide) rfl (hts _ (List.mem_of_getElem? (i := 2) rfl)) rfl dX10_put_44 ?_
          refine lv_iload_n hx hb dX10_put_47 rfl (lv_at hl 3 rfl) ?_
          refine lv_iload_n hx hb dX10_put_48 rfl (lv_at hl 4 rfl) ?_
          obtain ⟨h8, h⟩ := gg_s h
          refine fw_iast hx hb hK hG hP hS (gF10.2.2.2.2.2.2.2.2.2.2.2.2.2.2.1 _ (gvl h3)).2.1 (gF10.2.2.2.2.2.2.2.2.2.2.2.2.2.2.1 _ (gvl h3)).2.2 h8 dX10_put_49 (fun z9 H locs ez9 hP hS => ?_)
          replace h := gl_s h ez9
          refine lv_iconst (v := (nI 1)) hx hb dX10_put_50 (by decide) ?_
          exact fw_ireti hx hb hr hlocks (Option.some.inj h) hK hZ hP hS dX10_put_51
        · replace h := gif_t h c7
          refine lv_bipush (v := (-12)) hx hb dX10_put_39 (by decide) ?_
          exact fw_ireti hx hb hr hlocks (Option.some.inj h) hK hZ hP hS dX10_put_41
      · replace h := gif_f h c5
        refine lv_bipush (v := (-11)) hx hb dX10_put_27 (by decide) ?_
        exact fw_ireti hx hb hr hlocks (Option.some.inj h) hK hZ hP hS dX10_put_29
    · replace h := gif_f h c2
      refine lv_iconst (v := gm1) hx hb dX10_put_9 (by decide) ?_
      exact fw_ireti hx hb hr hlocks (Option.some.inj h) hK hZ hP hS dX10_put_10
theorem in_X10_get_X1 : ∀ w ∈ wsX10, w ∈ wsX10_get := fun w h => List.mem_cons_of_mem _ (List.mem_append_right _ (h))
theorem in_X10_get_X10 : ∀ w ∈ wsX100, w ∈ wsX10_get := fun w h => List.mem_cons_of_mem _ (List.mem_append_left _ (List.mem_append_right _ (h)))
theorem hdV_X10_get : yX10_get.cls = RX10 ∧ yX10_get.cls ≠ "java/lang/invoke/MethodHandle" ∧ yX10_get.cls ≠ "java/lang/invoke/VarHandle" ∧ (parseMethodDescriptor yX10_get.desc).map (fun d => d.parameters.length) = some 2 := by decide +kernel
set_option maxHeartbeats 4000000 in
set_option maxRecDepth 100000 in
theorem k_X10_get (l : Launch) (D : va_G) (cA : Nat → ClassId) (ad : Nat → Nat) (tw : Nat) (hG : gOk ad 315) (z : gS) (a1 : Int32) (a2 : Int32) (res : Int32) (h : f_X10_get a1 a2 z = some res) : gMi l yX10_get wsX10_get (gRm 1 21) D cA ad tw shX 315 [.ref (ad 0), .int a1, .int a2] z (res, z) := by
  refine Met.ofW (cc := cX10_get) (maxL := 3) (ret := (some .int)) (by decide) rfl ?_
  intro p e s m args below meth c s₁ B hml hv
  obtain ⟨rfl, hP, hK, hZ⟩ := hv
  have hx := B.exec
  have hb := B.bytes
  have hr := B.returns
  have hts := atoms_spec (ws := wsX10_get) B.pre
  have hown : s.vm.findClass RX10 = some m.cls := findClass_of_methodNamed B.named
  have hlocks := B.notSynchronized
  have hS : va_S (gA ad 315) s.heap s.heap [] := va_S.rf
  have hl := lv_entry ([.ref (ad 0), .int a1, .int a2]) (n := 3) (Nat.le_of_ble_eq_true rfl)
  rw [lg_entry_eq]
  generalize (lg_sl ([.ref (ad 0), .int a1, .int a2]) ++ List.replicate (3 - (lg_sl ([.ref (ad 0), .int a1, .int a2])).length) Slot.unset).toArray = ls at hl ⊢
  have hl : lv_has ls 3 [(0, .ref (ad 0)), (1, .int a1), (2, .int a2)] := hl
  unfold f_X10_get at h
  refine lv_iload_n hx hb dX10_get_0 rfl (lv_at hl 1 rfl) ?_
  refine lv_if_lt (tgt := 22) hx hb dX10_get_1 (by decide) (fun c1 => ?_) (fun c1 => ?_)
  · replace h := gif_t h c1
    refine lv_ldcw (v := (-2000000000)) hx hb hown (hts _ (List.mem_of_getElem? (i := 2) rfl)) dX10_get_22 ?_
    exact fw_ireti hx hb hr hlocks (congrArg (fun q => (q, z)) (Option.some.inj h)) hK hZ hP hS dX10_get_25
  · replace h := gif_f h c1
    refine lv_iload_n hx hb dX10_get_4 rfl (lv_at hl 1 rfl) ?_
    refine lv_iconst (v := (nI 3)) hx hb dX10_get_5 (by decide) ?_
    refine lv_icmp_ge (tgt := 22) hx hb dX10_get_6 (by decide) (fun c2 => ?_) (fun c2 => ?_)
    · replace h := gif_t h c2
      refine lv_ldcw (v := (-2000000000)) hx hb hown (hts _ (List.mem_of_getElem? (i := 2) rfl)) dX10_get_22 ?_
      exact fw_ireti hx hb hr hlocks (congrArg (fun q => (q, z)) (Option.some.inj h)) hK hZ hP hS dX10_get_25
    · replace h := gif_f h c2
      refine lv_aload_n hx hb dX10_get_9 rfl (lv_at hl 0 rfl) ?_
      refine fw_getr hx hb hts in_X10_get_X10 hown hK hP gF10.1.1 gF10.1.2 rfl 11 (by decide) rfl (hts _ (List.mem_of_getElem? (i := 1) rfl)) rfl dX10_get_10 ?_
      refine lv_iload_n hx hb dX10_get_13 rfl (lv_at hl 1 rfl) ?_
      obtain ⟨h3, h⟩ := gg_s h
      refine fw_qald hx hb hK hP gF10.2.2.2.2.2.2.2.2.2.2.2.2.2.1.1 gF10.2.2.2.2.2.2.2.2.2.2.2.2.2.1.2 (by decide) h3 dX10_get_14 ?_
      refine lv_iload_n hx hb dX10_get_15 rfl (lv_at hl 2 rfl) ?_
      obtain ⟨q4, hq4, h⟩ := gb_s h
      refine fw_viR (As := [.int a2]) (rest := []) ⟨hx, hb, hml, hown, hts⟩ (k_X1_reaches l D cA ad tw hG z (309 + 2 * a1.toNatClampNeg) ((gF10.2.2.2.2.2.2.2.2.2.2.2.2.2.2.1 _ (gvl h3))) a2 q4 hq4) (cwV 1 hts gX10_get_X1_reaches rfl rfl rfl hdV_X1_reaches ⟨Nat.le_of_ble_eq_true rfl, Nat.le_of_ble_eq_true rfl⟩) (fw_preV (gF10.2.2.2.2.2.2.2.2.2.2.2.2.2.2.1 _ (gvl h3)).1.1 (gF10.2.2.2.2.2.2.2.2.2.2.2.2.2.2.1 _ (gvl h3)).1.2 rfl rfl hK hZ hP hS) rfl hl _ rfl (Nat.le_of_ble_eq_true rfl) hS dX10_get_16 ⟨Nat.zero_le _, Nat.zero_le _⟩ (fun H locs hP hS => ?_)
      refine lv_if_ne (tgt := 26) hx hb dX10_get_19 (by decide) (fun c5 => ?_) (fun c5 => ?_)
      · replace h := gif_f h c5
        refine lv_aload_n hx hb dX10_get_26 rfl (lv_at hl 0 rfl) ?_
        refine fw_getr hx hb hts in_X10_get_X10 hown hK hP gF10.1.1 gF10.1.2 rfl 11 (by decide) rfl (hts _ (List.mem_of_getElem? (i := 1) rfl)) rfl dX10_get_27 ?_
        refine lv_iload_n hx hb dX10_get_30 rfl (lv_at hl 1 rfl) ?_
        obtain ⟨h6, h⟩ := gg_s h
        refine fw_qald hx hb hK hP gF10.2.2.2.2.2.2.2.2.2.2.2.2.2.1.1 gF10.2.2.2.2.2.2.2.2.2.2.2.2.2.1.2 (by decide) h6 dX10_get_31 ?_
        refine fw_getr hx hb hts in_X10_get_X1 hown hK hP (gF10.2.2.2.2.2.2.2.2.2.2.2.2.2.2.1 _ (gvl h6)).1.1 (gF10.2.2.2.2.2.2.2.2.2.2.2.2.2.2.1 _ (gvl h6)).1.2 rfl 1 (by decide) rfl (hts _ (List.mem_of_getElem? (i := 3) rfl)) rfl dX10_get_32 ?_
        refine lv_iload_n hx hb dX10_get_35 rfl (lv_at hl 2 rfl) ?_
        obtain ⟨h7, h⟩ := gg_s h
        refine fw_iald hx hb hK hP (gF10.2.2.2.2.2.2.2.2.2.2.2.2.2.2.1 _ (gvl h6)).2.1 (gF10.2.2.2.2.2.2.2.2.2.2.2.2.2.2.1 _ (gvl h6)).2.2 h7 dX10_get_36 ?_
        exact fw_ireti hx hb hr hlocks (congrArg (fun q => (q, z)) (Option.some.inj h)) hK hZ hP hS dX10_get_37
      · replace h := gif_t h c5
        refine lv_ldcw (v := (-2000000000)) hx hb hown (hts _ (List.mem_of_getElem? (i := 2) rfl)) dX10_get_22 ?_
        exact fw_ireti hx hb hr hlocks (congrArg (fun q => (q, z)) (Option.some.inj h)) hK hZ hP hS dX10_get_25
theorem in_X10_fill_X1 : ∀ w ∈ wsX10, w ∈ wsX10_fill := fun w h => List.mem_cons_of_mem _ (List.mem_append_left _ (List.mem_append_left _ (List.mem_append_right _ (h))))
theorem in_X10_fill_X10 : ∀ w ∈ wsX100, w ∈ wsX10_fill := fun w h => List.mem_cons_of_mem _ (List.mem_append_left _ (List.mem_append_left _ (List.mem_append_left _ (List.mem_append_right _ (h)))))
theorem hdV_X10_fill : yX10_fill.cls = RX10 ∧ yX10_fill.cls ≠ "java/lang/invoke/MethodHandle" ∧ yX10_fill.cls ≠ "java/lang/invoke/VarHandle" ∧ (parseMethodDescriptor yX10_fill.desc).map (fun d => d.parameters.length) = some 2 := by decide +kernel
set_option maxHeartbeats 4000000 in
set_option maxRecDepth 100000 in
theorem k_X10_fill (l : Launch) (D : va_G) (cA : Nat → ClassId) (ad : Nat → Nat) (tw : Nat) (hG : gOk ad 315) (z : gS) (a1 : Int32) (a2 : Int32) (res : Int32 × gS) (h : f_X10_fill a1 a2 z = some res) : gMi l yX10_fill wsX10_fill (gRm 5 114) D cA ad tw shX 315 [.ref (ad 0), .int a1, .int a2] z res := by
  refine Met.ofW (cc := cX10_fill) (maxL := 7) (ret := (some .int)) (by decide) rfl ?_
  intro p e s m args below meth c s₁ B hml hv
  obtain ⟨rfl, hP, hK, hZ⟩ := hv
  have hx := B.exec
  have hb := B.bytes
  have hr := B.returns
  have hts := atoms_spec (ws := wsX10_fill) B.pre
  have hown : s.vm.findClass RX10 = some m.cls := findClass_of_methodNamed B.named
  have hlocks := B.notSynchronized
  have hS : va_S (gA ad 315) s.heap s.heap [] := va_S.rf
  have hl := lv_entry ([.ref (ad 0), .int a1, .int a2]) (n := 7) (Nat.le_of_ble_eq_true rfl)
  rw [lg_entry_eq]
  generalize (lg_sl ([.ref (ad 0), .int a1, .int a2]) ++ List.replicate (7 - (lg_sl ([.ref (ad 0), .int a1, .int a2])).length) Slot.unset).toArray = ls at hl ⊢
  have hl : lv_has ls 7 [(0, .ref (ad 0)), (1, .int a1), (2, .int a2)] := hl
  have j64 : ∀ (x2 : Int32) (x3 : Nat) (hx3 : gC1 x3) (x5 : Int32) (n : Nat) (x6 : Int32) (z : gS) (H : Heap) (locs : List Loc) (ls : Array Slot), f_X10_fill_64 x2 x3 x5 n x6 z = some res → va_P D vwCl (gw cA ad shX 315 z) H → va_S (gA ad 315) s.heap H locs → lv_has ls 7 [(2, .int x2), (3, .ref (ad x3)), (4, .ref (ad 13)), (5, .int x5), (6, .int x6)] → W p l e (headSpec wsX10_fill (gRm 5 114)).room s m ([.ref (ad 0), .int a1, .int a2] : List Value).toArray below meth c H locs 0 0 (MQ below (va_Qi (fun r u => (r, u) = res) (gPr D cA ad tw shX 315) (gA ad 315)) ([.ref (ad 0), .int a1, .int a2] : List Value).toArray s 0 0 (gA ad 315)) (F0 m 64 ls []) := by
    intro x2 x3 hx3 x5 n
    induction n with
    | zero => intro x6 z H locs ls h; exact (gno h).elim
    | succ n hK64 =>
      intro x6 z H locs ls h hP hS hl
      replace h : f_X10_fill_64_b x2 x3 x5 (f_X10_fill_64 x2 x3 x5 n) x6 z = some res := h
      unfold f_X10_fill_64_b at h
      refine lv_iload hx hb dX10_fill_64 (lv_at hl 4 rfl) ?_
      refine lv_iload hx hb dX10_fill_66 (lv_at hl 3 rfl) ?_
      refine lv_icmp_ge (tgt := 93) hx hb dX10_fill_68 (by decide) (fun c10 => ?_) (fun c10 => ?_)
      · replace h := gif_t h c10
        refine lv_iload hx hb dX10_fill_93 (lv_at hl 3 rfl) ?_
        exact fw_ireti hx hb hr hlocks (Option.some.inj h) hK hZ hP hS dX10_fill_95
      · replace h := gif_f h c10
        refine lv_aload_n hx hb dX10_fill_71 rfl (lv_at hl 1 rfl) ?_
        refine fw_getr hx hb hts in_X10_fill_X1 hown hK hP hx3.1.1 hx3.1.2 rfl 1 (by decide) rfl (hts _ (List.mem_of_getElem? (i := 10) rfl)) rfl dX10_fill_72 ?_
        refine lv_iload hx hb dX10_fill_75 (lv_at hl 4 rfl) ?_
        refine lv_aload hx hb dX10_fill_77 (lv_at hl 2 rfl) ?_
        refine lv_iload_n hx hb dX10_fill_79 rfl (lv_at hl 0 rfl) ?_
        refine lv_iload hx hb dX10_fill_80 (lv_at hl 4 rfl) ?_
        refine lv_iadd hx hb dX10_fill_82 ?_
        obtain ⟨q11, hq11, h⟩ := gb_s h
        refine fw_viR (As := [.int (x2 + x6)]) (rest := [.int x6, .ref (ad (x3 + 1))]) ⟨hx, hb, hml, hown, hts⟩ (k_X3_pick l D cA ad tw hG z 13 (gF10.2.2.2.2.1) (x2 + x6) q11 hq11) (cwV 1 hts gX10_fill_X3_pick rfl rfl rfl hdV_X3_pick ⟨Nat.le_of_ble_eq_true rfl, Nat.le_of_ble_eq_true rfl⟩) (fw_preV gF10.2.2.2.2.1.1.1 gF10.2.2.2.2.1.1.2 rfl rfl hK hZ hP hS) rfl hl _ rfl (Nat.le_of_ble_eq_true rfl) hS dX10_fill_83 ⟨Nat.zero_le _, Nat.zero_le _⟩ (fun H locs hP hS => ?_)
        obtain ⟨h12, h⟩ := gg_s h
        refine fw_iast hx hb hK hG hP hS hx3.2.1 hx3.2.2 h12 dX10_fill_86 (fun z13 H locs ez13 hP hS => ?_)
        replace h := gl_s h ez13
        refine lv_iinc (v := x6 + (nI 1)) (lv' := [(6, .int (x6 + (nI 1))), (2, .int x2), (3, .ref (ad x3)), (4, .ref (ad 13)), (5, .int x5)]) hx hb dX10_fill_87 hl (k := 4) rfl rfl (by decide) rfl (fun ls hl => ?_)
        refine lv_goto (tgt := 64) hx hb dX10_fill_90 (by decide) ?_
        exact hK64 (x6 + (nI 1)) z13 _ _ ls h hP hS (lv_sub hl [1, 2, 3, 4, 0] rfl)
  unfold f_X10_fill at h
  refine lv_iload_n hx hb dX10_fill_0 rfl (lv_at hl 1 rfl) ?_
  refine lv_if_lt (tgt := 9) hx hb dX10_fill_1 (by decide) (fun c1 => ?_) (fun c1 => ?_)
  · replace h := gif_t h c1
    refine lv_iconst (v := gm1) hx hb dX10_fill_9 (by decide) ?_
    exact fw_ireti hx hb hr hlocks (Option.some.inj h) hK hZ hP hS dX10_fill_10
  · replace h := gif_f h c1
    refine lv_iload_n hx hb dX10_fill_4 rfl (lv_at hl 1 rfl) ?_
    refine lv_iconst (v := (nI 3)) hx hb dX10_fill_5 (by decide) ?_
    refine lv_icmp_lt (tgt := 11) hx hb dX10_fill_6 (by decide) (fun c2 => ?_) (fun c2 => ?_)
    · replace h := gif_t h c2
      refine lv_iload_n hx hb dX10_fill_11 rfl (lv_at hl 2 rfl) ?_
      refine lv_if_ge (tgt := 18) hx hb dX10_fill_12 (by decide) (fun c3 => ?_) (fun c3 => ?_)
      · replace h := gif_t h c3
        refine lv_aload_n hx hb dX10_fill_18 rfl (lv_at hl 0 rfl) ?_
        refine fw_getr hx hb hts in_X10_fill_X10 hown hK hP gF10.1.1 gF10.1.2 rfl 11 (by decide) rfl (hts _ (List.mem_of_getElem? (i := 1) rfl)) rfl dX10_fill_19 ?_
        refine lv_iload_n hx hb dX10_fill_22 rfl (lv_at hl 1 rfl) ?_
        obtain ⟨h4, h⟩ := gg_s h
        refine fw_qald hx hb hK hP gF10.2.2.2.2.2.2.2.2.2.2.2.2.2.1.1 gF10.2.2.2.2.2.2.2.2.2.2.2.2.2.1.2 (by decide) h4 dX10_fill_23 ?_
        refine lv_astore_n (lv' := [(3, .ref (ad (309 + 2 * a1.toNatClampNeg))), (0, .ref (ad 0)), (1, .int a1), (2, .int a2)]) hx hb dX10_fill_24 rfl hl (by decide) rfl (fun ls hl => ?_)
        refine lv_aload_n hx hb dX10_fill_25 rfl (lv_at hl 0 rfl) ?_
        obtain ⟨q5, hq5, h⟩ := gb_s h
        refine fw_viR (As := []) (rest := []) ⟨hx, hb, hml, hown, hts⟩ (k_X1_isMissing l D cA ad tw hG z (309 + 2 * a1.toNatClampNeg) ((gF10.2.2.2.2.2.2.2.2.2.2.2.2.2.2.1 _ (gvl h4))) q5 hq5) (cwV 0 hts gX10_fill_X1_isMissing rfl rfl rfl hdV_X1_isMissing ⟨Nat.le_of_ble_eq_true rfl, Nat.le_of_ble_eq_true rfl⟩) (fw_preV (gF10.2.2.2.2.2.2.2.2.2.2.2.2.2.2.1 _ (gvl h4)).1.1 (gF10.2.2.2.2.2.2.2.2.2.2.2.2.2.2.1 _ (gvl h4)).1.2 rfl rfl hK hZ hP hS) rfl hl _ rfl (Nat.le_of_ble_eq_true rfl) hS dX10_fill_26 ⟨Nat.zero_le _, Nat.zero_le _⟩ (fun H locs hP hS => ?_)
        refine lv_if_eq (tgt := 35) hx hb dX10_fill_29 (by decide) (fun c6 => ?_) (fun c6 => ?_)
        · replace h := gif_t h c6
          refine lv_aload_n hx hb dX10_fill_35 rfl (lv_at hl 1 rfl) ?_
          obtain ⟨q7, hq7, h⟩ := gb_s h
          refine fw_vr (As := []) (rest := []) ⟨hx, hb, hml, hown, hts⟩ (k_X10_readyPlan l D cA ad tw hG z  q7 hq7) (cwV 0 hts gX10_fill_X10_readyPlan rfl rfl rfl hdV_X10_readyPlan ⟨Nat.le_of_ble_eq_true rfl, Nat.le_of_ble_eq_true rfl⟩) (fw_preV gF10.1.1 gF10.1.2 rfl rfl hK hZ hP hS) rfl hl _ rfl (Nat.le_of_ble_eq_true rfl) hS dX10_fill_36 ⟨Nat.zero_le _, Nat.zero_le _⟩ (fun H locs hP hS => ?_)
          refine lv_astore (lv' := [(4, .ref (ad 13)), (3, .ref (ad (309 + 2 * a1.toNatClampNeg))), (0, .ref (ad 0)), (1, .int a1), (2, .int a2)]) hx hb dX10_fill_39 hl (by decide) rfl (fun ls hl => ?_)
          refine lv_iconst (v := (nI 0)) hx hb dX10_fill_41 (by decide) ?_
          refine lv_aload_n hx hb dX10_fill_42 rfl (lv_at hl 1 rfl) ?_
          refine fw_geti hx hb hts in_X10_fill_X1 hown hK hP (gF10.2.2.2.2.2.2.2.2.2.2.2.2.2.2.1 _ (gvl h4)).1.1 (gF10.2.2.2.2.2.2.2.2.2.2.2.2.2.2.1 _ (gvl h4)).1.2 rfl 0 (by decide) rfl (hts _ (List.mem_of_getElem? (i := 2) rfl)) rfl dX10_fill_43 ?_
          refine lv_aload hx hb dX10_fill_46 (lv_at hl 0 rfl) ?_
          obtain ⟨q8, hq8, h⟩ := gb_s h
          refine fw_viR (As := []) (rest := [.int (q7 (309 + 2 * a1.toNatClampNeg) 0), .int (nI 0)]) ⟨hx, hb, hml, hown, hts⟩ (k_X3_smoothOrders l D cA ad tw hG q7 13 (gF10.2.2.2.2.1) q8 hq8) (cwV 0 hts gX10_fill_X3_smoothOrders rfl rfl rfl hdV_X3_smoothOrders ⟨Nat.le_of_ble_eq_true rfl, Nat.le_of_ble_eq_true rfl⟩) (fw_preV gF10.2.2.2.2.1.1.1 gF10.2.2.2.2.1.1.2 rfl rfl hK hZ hP hS) rfl hl _ rfl (Nat.le_of_ble_eq_true rfl) hS dX10_fill_48 ⟨Nat.zero_le _, Nat.zero_le _⟩ (fun H locs hP hS => ?_)
          refine lv_iload_n hx hb dX10_fill_51 rfl (lv_at hl 4 rfl) ?_
          refine lv_isub hx hb dX10_fill_52 ?_
          refine va_mmin hx hb (by rw [hml]; exact hl.1.symm) hown (hts _ (List.mem_of_getElem? (i := 3) rfl)) (hts _ (List.mem_of_getElem? (i := 4) rfl)) (hts _ (List.mem_of_getElem? (i := 5) rfl)) (hts _ (List.mem_of_getElem? (i := 6) rfl)) (Nat.le_of_ble_eq_true rfl) (Nat.le_of_ble_eq_true rfl) (Nat.zero_le _) (Nat.zero_le _) dX10_fill_53 ?_
          refine va_mmax hx hb (by rw [hml]; exact hl.1.symm) hown (hts _ (List.mem_of_getElem? (i := 7) rfl)) (hts _ (List.mem_of_getElem? (i := 8) rfl)) (hts _ (List.mem_of_getElem? (i := 5) rfl)) (hts _ (List.mem_of_getElem? (i := 9) rfl)) (Nat.le_of_ble_eq_true rfl) (Nat.le_of_ble_eq_true rfl) (Nat.zero_le _) (Nat.zero_le _) dX10_fill_56 ?_
          refine lv_topi (fun y9 ey9 => ?_)
          replace h := gl_s h ey9
          refine lv_istore (lv' := [(5, .int y9), (4, .ref (ad 13)), (3, .ref (ad (309 + 2 * a1.toNatClampNeg))), (0, .ref (ad 0)), (1, .int a1), (2, .int a2)]) hx hb dX10_fill_59 hl (by decide) rfl (fun ls hl => ?_)
          refine lv_iconst (v := (nI 0)) hx hb dX10_fill_61 (by decide) ?_
          refine lv_istore (lv' := [(6, .int (nI 0)), (5, .int y9), (4, .ref (ad 13)), (3, .ref (ad (309 + 2 * a1.toNatClampNeg))), (0, .ref (ad 0)), (1, .int a1), (2, .int a2)]) hx hb dX10_fill_62 hl (by decide) rfl (fun ls hl => ?_)
          exact j64 a2 (309 + 2 * a1.toNatClampNeg) ((gF10.2.2.2.2.2.2.2.2.2.2.2.2.2.2.1 _ (gvl h4))) y9 gF (nI 0) q7 _ _ ls h hP hS (lv_sub hl [6, 3, 2, 1, 0] rfl)
        · replace h := gif_f h c6
          refine lv_bipush (v := (-11)) hx hb dX10_fill_32 (by decide) ?_
          exact fw_ireti hx hb hr hlocks (Option.some.inj h) hK hZ hP hS dX10_fill_34
      · replace h := gif_f h c3
        refine lv_bipush (v := (-2)) hx hb dX10_fill_15 (by decide) ?_
        exact fw_ireti hx hb hr hlocks (Option.some.inj h) hK hZ hP hS dX10_fill_17
    · replace h := gif_f h c2
      refine lv_iconst (v := gm1) hx hb dX10_fill_9 (by decide) ?_
      exact fw_ireti hx hb hr hlocks (Option.some.inj h) hK hZ hP hS dX10_fill_10
theorem in_X10_passes_X10 : ∀ w ∈ wsX100, w ∈ wsX10_passes := fun w h => List.mem_cons_of_mem _ (List.mem_append_left _ (List.mem_append_left _ (List.mem_append_right _ (h))))
theorem in_X10_passes_X5 : ∀ w ∈ wsX50, w ∈ wsX10_passes := fun w h => List.mem_cons_of_mem _ (List.mem_append_left _ (List.mem_append_right _ (h)))
theorem hdV_X10_passes : yX10_passes.cls = RX10 ∧ yX10_passes.cls ≠ "java/lang/invoke/MethodHandle" ∧ yX10_passes.cls ≠ "java/lang/invoke/VarHandle" ∧ (parseMethodDescriptor yX10_passes.desc).map (fun d => d.parameters.length) = some 3 := by decide +kernel
set_option maxHeartbeats 4000000 in
set_option maxRecDepth 100000 in
theorem k_X10_passes (l : Launch) (D : va_G) (cA : Nat → ClassId) (ad : Nat → Nat) (tw : Nat) (hG : gOk ad 315) (z : gS) (a1 : Int32) (a2 : Int32) (a3 : Int32) (res : Int32 × gS) (h : f_X10_passes a1 a2 a3 z = some res) : gMi l yX10_passes wsX10_passes (gRm 5 114) D cA ad tw shX 315 [.ref (ad 0), .int a1, .int a2, .int a3] z res := by
  refine Met.ofW (cc := cX10_passes) (maxL := 4) (ret := (some .boolean)) (by decide) rfl ?_
  intro p e s m args below meth c s₁ B hml hv
  obtain ⟨rfl, hP, hK, hZ⟩ := hv
  have hx := B.exec
  have hb := B.bytes
  have hr := B.returns
  have hts := atoms_spec (ws := wsX10_passes) B.pre
  have hown : s.vm.findClass RX10 = some m.cls := findClass_of_methodNamed B.named
  have hlocks := B.notSynchronized
  have hS : va_S (gA ad 315) s.heap s.heap [] := va_S.rf
  have hl := lv_entry ([.ref (ad 0), .int a1, .int a2, .int a3]) (n := 4) (Nat.le_of_ble_eq_true rfl)
  rw [lg_entry_eq]
  generalize (lg_sl ([.ref (ad 0), .int a1, .int a2, .int a3]) ++ List.replicate (4 - (lg_sl ([.ref (ad 0), .int a1, .int a2, .int a3])).length) Slot.unset).toArray = ls at hl ⊢
  have hl : lv_has ls 4 [(0, .ref (ad 0)), (1, .int a1), (2, .int a2), (3, .int a3)] := hl
  unfold f_X10_passes at h
  refine lv_aload_n hx hb dX10_passes_0 rfl (lv_at hl 0 rfl) ?_
  refine lv_iload_n hx hb dX10_passes_1 rfl (lv_at hl 1 rfl) ?_
  obtain ⟨q1, hq1, h⟩ := gb_s h
  refine fw_vi (As := [.int a1]) (rest := []) ⟨hx, hb, hml, hown, hts⟩ (k_X10_setRow l D cA ad tw hG z a1 q1 hq1) (cwV 1 hts gX10_passes_X10_setRow rfl rfl rfl hdV_X10_setRow ⟨Nat.le_of_ble_eq_true rfl, Nat.le_of_ble_eq_true rfl⟩) (fw_preV gF10.1.1 gF10.1.2 rfl rfl hK hZ hP hS) rfl hl _ rfl (Nat.le_of_ble_eq_true rfl) hS dX10_passes_2 ⟨Nat.zero_le _, Nat.zero_le _⟩ (fun H locs hP hS => ?_)
  refine lv_if_ne (tgt := 10) hx hb dX10_passes_5 (by decide) (fun c2 => ?_) (fun c2 => ?_)
  · replace h := gif_f h c2
    refine lv_iload_n hx hb dX10_passes_10 rfl (lv_at hl 3 rfl) ?_
    by_cases c3 : a3 = (nI 0)
    · replace h := gif_t h c3
      refine lv_lookup (tgt := 36) (off := 25) hx hb dX10_passes_11 (by decide) (by rw [c3] <;> rfl) (by decide) ?_
      refine lv_iconst (v := (nI 1)) hx hb dX10_passes_36 (by decide) ?_
      exact fw_iretz hx hb hr hlocks (by decide) (Option.some.inj h) hK hZ hP hS dX10_passes_37
    replace h := gif_f h c3
    by_cases c4 : a3 = (nI 1)
    · replace h := gif_t h c4
      refine lv_lookup (tgt := 38) (off := 27) hx hb dX10_passes_11 (by decide) (by rw [c4] <;> rfl) (by decide) ?_
      refine lv_aload_n hx hb dX10_passes_38 rfl (lv_at hl 0 rfl) ?_
      obtain ⟨q5, hq5, h⟩ := gb_s h
      refine fw_viR (As := []) (rest := []) ⟨hx, hb, hml, hown, hts⟩ (k_X10_rowGaps l D cA ad tw hG q1.2  q5 hq5) (cwV 0 hts gX10_passes_X10_rowGaps rfl rfl rfl hdV_X10_rowGaps ⟨Nat.le_of_ble_eq_true rfl, Nat.le_of_ble_eq_true rfl⟩) (fw_preV gF10.1.1 gF10.1.2 rfl rfl hK hZ hP hS) rfl hl _ rfl (Nat.le_of_ble_eq_true rfl) hS dX10_passes_39 ⟨Nat.zero_le _, Nat.zero_le _⟩ (fun H locs hP hS => ?_)
      refine lv_if_ne (tgt := 49) hx hb dX10_passes_42 (by decide) (fun c6 => ?_) (fun c6 => ?_)
      · replace h := gif_f h c6
        refine lv_iconst (v := (nI 0)) hx hb dX10_passes_49 (by decide) ?_
        exact fw_iretz hx hb hr hlocks (by decide) (Option.some.inj h) hK hZ hP hS dX10_passes_50
      · replace h := gif_t h c6
        refine lv_iconst (v := (nI 1)) hx hb dX10_passes_45 (by decide) ?_
        refine lv_goto (tgt := 50) hx hb dX10_passes_46 (by decide) ?_
        exact fw_iretz hx hb hr hlocks (by decide) (Option.some.inj h) hK hZ hP hS dX10_passes_50
    replace h := gif_f h c4
    refine lv_lookup (tgt := 51) (off := 40) hx hb dX10_passes_11 (by decide) (by have nc3 := Ne.symm (gne (w := 0) c3 rfl); have nc4 := Ne.symm (gne (w := 1) c4 rfl); simp [Op.lookupswitch.offset, nc3, nc4]) (by decide) ?_
    refine lv_aload_n hx hb dX10_passes_51 rfl (lv_at hl 0 rfl) ?_
    obtain ⟨q7, hq7, h⟩ := gb_s h
    refine fw_viR (As := []) (rest := []) ⟨hx, hb, hml, hown, hts⟩ (k_X10_rowGaps l D cA ad tw hG q1.2  q7 hq7) (cwV 0 hts gX10_passes_X10_rowGaps rfl rfl rfl hdV_X10_rowGaps ⟨Nat.le_of_ble_eq_true rfl, Nat.le_of_ble_eq_true rfl⟩) (fw_preV gF10.1.1 gF10.1.2 rfl rfl hK hZ hP hS) rfl hl _ rfl (Nat.le_of_ble_eq_true rfl) hS dX10_passes_52 ⟨Nat.zero_le _, Nat.zero_le _⟩ (fun H locs hP hS => ?_)
    refine lv_if_ne (tgt := 84) hx hb dX10_passes_55 (by decide) (fun c8 => ?_) (fun c8 => ?_)
    · replace h := gif_f h c8
      refine lv_iconst (v := (nI 0)) hx hb dX10_passes_84 (by decide) ?_
      exact fw_iretz hx hb hr hlocks (by decide) (Option.some.inj h) hK hZ hP hS dX10_passes_85
    · replace h := gif_t h c8
      refine lv_aload_n hx hb dX10_passes_58 rfl (lv_at hl 0 rfl) ?_
      obtain ⟨q9, hq9, h⟩ := gb_s h
      refine fw_vr (As := []) (rest := []) ⟨hx, hb, hml, hown, hts⟩ (k_X10_readyPlan l D cA ad tw hG q1.2  q9 hq9) (cwV 0 hts gX10_passes_X10_readyPlan rfl rfl rfl hdV_X10_readyPlan ⟨Nat.le_of_ble_eq_true rfl, Nat.le_of_ble_eq_true rfl⟩) (fw_preV gF10.1.1 gF10.1.2 rfl rfl hK hZ hP hS) rfl hl _ rfl (Nat.le_of_ble_eq_true rfl) hS dX10_passes_59 ⟨Nat.zero_le _, Nat.zero_le _⟩ (fun H locs hP hS => ?_)
      refine lv_aload_n hx hb dX10_passes_62 rfl (lv_at hl 0 rfl) ?_
      refine fw_getr hx hb hts in_X10_passes_X10 hown hK hP gF10.1.1 gF10.1.2 rfl 12 (by decide) rfl (hts _ (List.mem_of_getElem? (i := 1) rfl)) rfl dX10_passes_63 ?_
      refine lv_aload_n hx hb dX10_passes_66 rfl (lv_at hl 0 rfl) ?_
      refine fw_getr hx hb hts in_X10_passes_X10 hown hK hP gF10.1.1 gF10.1.2 rfl 0 (by decide) rfl (hts _ (List.mem_of_getElem? (i := 2) rfl)) rfl dX10_passes_67 ?_
      refine fw_geti hx hb hts in_X10_passes_X5 hown hK hP gF10.2.1.1.1 gF10.2.1.1.2 rfl 0 (by decide) rfl (hts _ (List.mem_of_getElem? (i := 3) rfl)) rfl dX10_passes_70 ?_
      obtain ⟨q10, hq10, h⟩ := gb_s h
      refine fw_viR (As := [.ref (ad 296), .int (q9 1 0)]) (rest := []) ⟨hx, hb, hml, hown, hts⟩ (k_X3_ahead l D cA ad tw hG q9 13 (gF10.2.2.2.2.1) 296 7 (gF10.2.2.2.2.2.2.2.2.2.2.2.2.2.2.2) (q9 1 0) q10 hq10) (cwV 2 hts gX10_passes_X3_ahead rfl rfl rfl hdV_X3_ahead ⟨Nat.le_of_ble_eq_true rfl, Nat.le_of_ble_eq_true rfl⟩) (fw_preV gF10.2.2.2.2.1.1.1 gF10.2.2.2.2.1.1.2 rfl rfl hK hZ hP hS) rfl hl _ rfl (Nat.le_of_ble_eq_true rfl) hS dX10_passes_73 ⟨Nat.zero_le _, Nat.zero_le _⟩ (fun H locs hP hS => ?_)
      refine lv_iload_n hx hb dX10_passes_76 rfl (lv_at hl 2 rfl) ?_
      refine lv_icmp_ne (tgt := 84) hx hb dX10_passes_77 (by decide) (fun c11 => ?_) (fun c11 => ?_)
      · replace h := gif_f h c11
        refine lv_iconst (v := (nI 0)) hx hb dX10_passes_84 (by decide) ?_
        exact fw_iretz hx hb hr hlocks (by decide) (Option.some.inj h) hK hZ hP hS dX10_passes_85
      · replace h := gif_t h c11
        refine lv_iconst (v := (nI 1)) hx hb dX10_passes_80 (by decide) ?_
        refine lv_goto (tgt := 85) hx hb dX10_passes_81 (by decide) ?_
        exact fw_iretz hx hb hr hlocks (by decide) (Option.some.inj h) hK hZ hP hS dX10_passes_85
  · replace h := gif_t h c2
    refine lv_iconst (v := (nI 0)) hx hb dX10_passes_8 (by decide) ?_
    exact fw_iretz hx hb hr hlocks (by decide) (Option.some.inj h) hK hZ hP hS dX10_passes_9
theorem in_X10_judge_X1 : ∀ w ∈ wsX10, w ∈ wsX10_judge := fun w h => List.mem_cons_of_mem _ (List.mem_append_left _ (List.mem_append_left _ (List.mem_append_right _ (h))))
theorem in_X10_judge_X10 : ∀ w ∈ wsX100, w ∈ wsX10_judge := fun w h => List.mem_cons_of_mem _ (List.mem_append_left _ (List.mem_append_left _ (List.mem_append_left _ (List.mem_append_right _ (h)))))
theorem hdV_X10_judge : yX10_judge.cls = RX10 ∧ yX10_judge.cls ≠ "java/lang/invoke/MethodHandle" ∧ yX10_judge.cls ≠ "java/lang/invoke/VarHandle" ∧ (parseMethodDescriptor yX10_judge.desc).map (fun d => d.parameters.length) = some 2 := by decide +kernel
set_option maxHeartbeats 4000000 in
set_option maxRecDepth 100000 in
theorem k_X10_judge (l : Launch) (D : va_G) (cA : Nat → ClassId) (ad : Nat → Nat) (tw : Nat) (hG : gOk ad 315) (z : gS) (a1 : Int32) (a2 : Int32) (res : Int32 × gS) (h : f_X10_judge a1 a2 z = some res) : gMi l yX10_judge wsX10_judge (gRm 6 137) D cA ad tw shX 315 [.ref (ad 0), .int a1, .int a2] z res := by
  refine Met.ofW (cc := cX10_judge) (maxL := 5) (ret := (some .int)) (by decide) rfl ?_
  intro p e s m args below meth c s₁ B hml hv
  obtain ⟨rfl, hP, hK, hZ⟩ := hv
  have hx := B.exec
  have hb := B.bytes
  have hr := B.returns
  have hts := atoms_spec (ws := wsX10_judge) B.pre
  have hown : s.vm.findClass RX10 = some m.cls := findClass_of_methodNamed B.named
  have hlocks := B.notSynchronized
  have hS : va_S (gA ad 315) s.heap s.heap [] := va_S.rf
  have hl := lv_entry ([.ref (ad 0), .int a1, .int a2]) (n := 5) (Nat.le_of_ble_eq_true rfl)
  rw [lg_entry_eq]
  generalize (lg_sl ([.ref (ad 0), .int a1, .int a2]) ++ List.replicate (5 - (lg_sl ([.ref (ad 0), .int a1, .int a2])).length) Slot.unset).toArray = ls at hl ⊢
  have hl : lv_has ls 5 [(0, .ref (ad 0)), (1, .int a1), (2, .int a2)] := hl
  have j43 : ∀ (x2 : Int32) (x3 : Nat) (hx3 : gC1 x3) (n : Nat) (x4 : Int32) (z : gS) (H : Heap) (locs : List Loc) (ls : Array Slot), f_X10_judge_43 x2 x3 n x4 z = some res → va_P D vwCl (gw cA ad shX 315 z) H → va_S (gA ad 315) s.heap H locs → lv_has ls 5 [(0, .ref (ad 0)), (2, .int x2), (3, .ref (ad x3)), (4, .int x4)] → W p l e (headSpec wsX10_judge (gRm 6 137)).room s m ([.ref (ad 0), .int a1, .int a2] : List Value).toArray below meth c H locs 0 0 (MQ below (va_Qi (fun r u => (r, u) = res) (gPr D cA ad tw shX 315) (gA ad 315)) ([.ref (ad 0), .int a1, .int a2] : List Value).toArray s 0 0 (gA ad 315)) (F0 m 43 ls []) := by
    intro x2 x3 hx3 n
    induction n with
    | zero => intro x4 z H locs ls h; exact (gno h).elim
    | succ n hK43 =>
      intro x4 z H locs ls h hP hS hl
      replace h : f_X10_judge_43_b x2 x3 (f_X10_judge_43 x2 x3 n) x4 z = some res := h
      unfold f_X10_judge_43_b at h
      refine lv_iload hx hb dX10_judge_43 (lv_at hl 3 rfl) ?_
      refine lv_aload_n hx hb dX10_judge_45 rfl (lv_at hl 2 rfl) ?_
      refine fw_geti hx hb hts in_X10_judge_X1 hown hK hP hx3.1.1 hx3.1.2 rfl 0 (by decide) rfl (hts _ (List.mem_of_getElem? (i := 2) rfl)) rfl dX10_judge_46 ?_
      refine lv_icmp_ge (tgt := 78) hx hb dX10_judge_49 (by decide) (fun c8 => ?_) (fun c8 => ?_)
      · replace h := gif_t h c8
        refine lv_bipush (v := (-5)) hx hb dX10_judge_78 (by decide) ?_
        exact fw_ireti hx hb hr hlocks (Option.some.inj h) hK hZ hP hS dX10_judge_80
      · replace h := gif_f h c8
        refine lv_aload_n hx hb dX10_judge_52 rfl (lv_at hl 0 rfl) ?_
        refine lv_aload_n hx hb dX10_judge_53 rfl (lv_at hl 2 rfl) ?_
        refine fw_getr hx hb hts in_X10_judge_X1 hown hK hP hx3.1.1 hx3.1.2 rfl 1 (by decide) rfl (hts _ (List.mem_of_getElem? (i := 3) rfl)) rfl dX10_judge_54 ?_
        refine lv_iload hx hb dX10_judge_57 (lv_at hl 3 rfl) ?_
        obtain ⟨h9, h⟩ := gg_s h
        refine fw_iald hx hb hK hP hx3.2.1 hx3.2.2 h9 dX10_judge_59 ?_
        refine lv_iload hx hb dX10_judge_60 (lv_at hl 3 rfl) ?_
        refine lv_iload_n hx hb dX10_judge_62 rfl (lv_at hl 1 rfl) ?_
        obtain ⟨q10, hq10, h⟩ := gb_s h
        refine fw_vi (As := [.int (z (x3 + 1) x4.toNatClampNeg), .int x4, .int x2]) (rest := []) ⟨hx, hb, hml, hown, hts⟩ (k_X10_passes l D cA ad tw hG z (z (x3 + 1) x4.toNatClampNeg) x4 x2 q10 hq10) (cwV 3 hts gX10_judge_X10_passes rfl rfl rfl hdV_X10_passes ⟨Nat.le_of_ble_eq_true rfl, Nat.le_of_ble_eq_true rfl⟩) (fw_preV gF10.1.1 gF10.1.2 rfl rfl hK hZ hP hS) rfl hl _ rfl (Nat.le_of_ble_eq_true rfl) hS dX10_judge_63 ⟨Nat.zero_le _, Nat.zero_le _⟩ (fun H locs hP hS => ?_)
        refine lv_if_ne (tgt := 72) hx hb dX10_judge_66 (by decide) (fun c11 => ?_) (fun c11 => ?_)
        · replace h := gif_f h c11
          refine lv_iinc (v := x4 + (nI 1)) (lv' := [(4, .int (x4 + (nI 1))), (0, .ref (ad 0)), (2, .int x2), (3, .ref (ad x3))]) hx hb dX10_judge_72 hl (k := 3) rfl rfl (by decide) rfl (fun ls hl => ?_)
          refine lv_goto (tgt := 43) hx hb dX10_judge_75 (by decide) ?_
          exact hK43 (x4 + (nI 1)) q10.2 _ _ ls h hP hS (lv_sub hl [1, 2, 3, 0] rfl)
        · replace h := gif_t h c11
          refine lv_iload hx hb dX10_judge_69 (lv_at hl 3 rfl) ?_
          exact fw_ireti hx hb hr hlocks (Option.some.inj h) hK hZ hP hS dX10_judge_71
  unfold f_X10_judge at h
  refine lv_iload_n hx hb dX10_judge_0 rfl (lv_at hl 1 rfl) ?_
  refine lv_if_lt (tgt := 9) hx hb dX10_judge_1 (by decide) (fun c1 => ?_) (fun c1 => ?_)
  · replace h := gif_t h c1
    refine lv_iconst (v := gm1) hx hb dX10_judge_9 (by decide) ?_
    exact fw_ireti hx hb hr hlocks (Option.some.inj h) hK hZ hP hS dX10_judge_10
  · replace h := gif_f h c1
    refine lv_iload_n hx hb dX10_judge_4 rfl (lv_at hl 1 rfl) ?_
    refine lv_iconst (v := (nI 3)) hx hb dX10_judge_5 (by decide) ?_
    refine lv_icmp_lt (tgt := 11) hx hb dX10_judge_6 (by decide) (fun c2 => ?_) (fun c2 => ?_)
    · replace h := gif_t h c2
      refine lv_iload_n hx hb dX10_judge_11 rfl (lv_at hl 2 rfl) ?_
      refine lv_if_lt (tgt := 20) hx hb dX10_judge_12 (by decide) (fun c3 => ?_) (fun c3 => ?_)
      · replace h := gif_t h c3
        refine lv_bipush (v := (-2)) hx hb dX10_judge_20 (by decide) ?_
        exact fw_ireti hx hb hr hlocks (Option.some.inj h) hK hZ hP hS dX10_judge_22
      · replace h := gif_f h c3
        refine lv_iload_n hx hb dX10_judge_15 rfl (lv_at hl 2 rfl) ?_
        refine lv_iconst (v := (nI 2)) hx hb dX10_judge_16 (by decide) ?_
        refine lv_icmp_le (tgt := 23) hx hb dX10_judge_17 (by decide) (fun c4 => ?_) (fun c4 => ?_)
        · replace h := gif_t h c4
          refine lv_aload_n hx hb dX10_judge_23 rfl (lv_at hl 0 rfl) ?_
          refine fw_getr hx hb hts in_X10_judge_X10 hown hK hP gF10.1.1 gF10.1.2 rfl 11 (by decide) rfl (hts _ (List.mem_of_getElem? (i := 1) rfl)) rfl dX10_judge_24 ?_
          refine lv_iload_n hx hb dX10_judge_27 rfl (lv_at hl 1 rfl) ?_
          obtain ⟨h5, h⟩ := gg_s h
          refine fw_qald hx hb hK hP gF10.2.2.2.2.2.2.2.2.2.2.2.2.2.1.1 gF10.2.2.2.2.2.2.2.2.2.2.2.2.2.1.2 (by decide) h5 dX10_judge_28 ?_
          refine lv_astore_n (lv' := [(3, .ref (ad (309 + 2 * a1.toNatClampNeg))), (0, .ref (ad 0)), (1, .int a1), (2, .int a2)]) hx hb dX10_judge_29 rfl hl (by decide) rfl (fun ls hl => ?_)
          refine lv_aload_n hx hb dX10_judge_30 rfl (lv_at hl 0 rfl) ?_
          obtain ⟨q6, hq6, h⟩ := gb_s h
          refine fw_viR (As := []) (rest := []) ⟨hx, hb, hml, hown, hts⟩ (k_X1_isMissing l D cA ad tw hG z (309 + 2 * a1.toNatClampNeg) ((gF10.2.2.2.2.2.2.2.2.2.2.2.2.2.2.1 _ (gvl h5))) q6 hq6) (cwV 0 hts gX10_judge_X1_isMissing rfl rfl rfl hdV_X1_isMissing ⟨Nat.le_of_ble_eq_true rfl, Nat.le_of_ble_eq_true rfl⟩) (fw_preV (gF10.2.2.2.2.2.2.2.2.2.2.2.2.2.2.1 _ (gvl h5)).1.1 (gF10.2.2.2.2.2.2.2.2.2.2.2.2.2.2.1 _ (gvl h5)).1.2 rfl rfl hK hZ hP hS) rfl hl _ rfl (Nat.le_of_ble_eq_true rfl) hS dX10_judge_31 ⟨Nat.zero_le _, Nat.zero_le _⟩ (fun H locs hP hS => ?_)
          refine lv_if_eq (tgt := 40) hx hb dX10_judge_34 (by decide) (fun c7 => ?_) (fun c7 => ?_)
          · replace h := gif_t h c7
            refine lv_iconst (v := (nI 0)) hx hb dX10_judge_40 (by decide) ?_
            refine lv_istore (lv' := [(4, .int (nI 0)), (3, .ref (ad (309 + 2 * a1.toNatClampNeg))), (0, .ref (ad 0)), (1, .int a1), (2, .int a2)]) hx hb dX10_judge_41 hl (by decide) rfl (fun ls hl => ?_)
            exact j43 a2 (309 + 2 * a1.toNatClampNeg) ((gF10.2.2.2.2.2.2.2.2.2.2.2.2.2.2.1 _ (gvl h5))) gF (nI 0) z _ _ ls h hP hS (lv_sub hl [2, 4, 1, 0] rfl)
          · replace h := gif_f h c7
            refine lv_bipush (v := (-11)) hx hb dX10_judge_37 (by decide) ?_
            exact fw_ireti hx hb hr hlocks (Option.some.inj h) hK hZ hP hS dX10_judge_39
        · replace h := gif_f h c4
          refine lv_bipush (v := (-2)) hx hb dX10_judge_20 (by decide) ?_
          exact fw_ireti hx hb hr hlocks (Option.some.inj h) hK hZ hP hS dX10_judge_22
    · replace h := gif_f h c2
      refine lv_iconst (v := gm1) hx hb dX10_judge_9 (by decide) ?_
      exact fw_ireti hx hb hr hlocks (Option.some.inj h) hK hZ hP hS dX10_judge_10
theorem in_X10_image_X10 : ∀ w ∈ wsX100, w ∈ wsX10_image := fun w h => List.mem_cons_of_mem _ (List.mem_append_left _ (List.mem_append_right _ (h)))
theorem in_X10_image_X5 : ∀ w ∈ wsX50, w ∈ wsX10_image := fun w h => List.mem_cons_of_mem _ (List.mem_append_right _ (h))
theorem hdV_X10_image : yX10_image.cls = RX10 ∧ yX10_image.cls ≠ "java/lang/invoke/MethodHandle" ∧ yX10_image.cls ≠ "java/lang/invoke/VarHandle" ∧ (parseMethodDescriptor yX10_image.desc).map (fun d => d.parameters.length) = some 0 := by decide +kernel
set_option maxHeartbeats 4000000 in
set_option maxRecDepth 100000 in
theorem k_X10_image (l : Launch) (D : va_G) (cA : Nat → ClassId) (ad : Nat → Nat) (tw : Nat) (hG : gOk ad 315) (z : gS)  (res : Int32 × gS) (h : f_X10_image  z = some res) : gMi l yX10_image wsX10_image (gRm 2 81) D cA ad tw shX 315 [.ref (ad 0)] z res := by
  refine Met.ofW (cc := cX10_image) (maxL := 1) (ret := (some .int)) (by decide) rfl ?_
  intro p e s m args below meth c s₁ B hml hv
  obtain ⟨rfl, hP, hK, hZ⟩ := hv
  have hx := B.exec
  have hb := B.bytes
  have hr := B.returns
  have hts := atoms_spec (ws := wsX10_image) B.pre
  have hown : s.vm.findClass RX10 = some m.cls := findClass_of_methodNamed B.named
  have hlocks := B.notSynchronized
  have hS : va_S (gA ad 315) s.heap s.heap [] := va_S.rf
  have hl := lv_entry ([.ref (ad 0)]) (n := 1) (Nat.le_of_ble_eq_true rfl)
  rw [lg_entry_eq]
  generalize (lg_sl ([.ref (ad 0)]) ++ List.replicate (1 - (lg_sl ([.ref (ad 0)])).length) Slot.unset).toArray = ls at hl ⊢
  have hl : lv_has ls 1 [(0, .ref (ad 0))] := hl
  unfold f_X10_image at h
  refine lv_aload_n hx hb dX10_image_0 rfl (lv_at hl 0 rfl) ?_
  refine fw_getr hx hb hts in_X10_image_X10 hown hK hP gF10.1.1 gF10.1.2 rfl 1 (by decide) rfl (hts _ (List.mem_of_getElem? (i := 1) rfl)) rfl dX10_image_1 ?_
  refine lv_aload_n hx hb dX10_image_4 rfl (lv_at hl 0 rfl) ?_
  refine fw_getr hx hb hts in_X10_image_X10 hown hK hP gF10.1.1 gF10.1.2 rfl 0 (by decide) rfl (hts _ (List.mem_of_getElem? (i := 2) rfl)) rfl dX10_image_5 ?_
  obtain ⟨q1, hq1, h⟩ := gb_s h
  refine fw_vv (As := [.ref (ad 1)]) (rest := []) ⟨hx, hb, hml, hown, hts⟩ (k_X5_become l D cA ad tw hG z 5 (gF10.2.2.1) 1 (gF10.2.1) q1 hq1) (cwV 1 hts gX10_image_X5_become rfl rfl rfl hdV_X5_become ⟨Nat.le_of_ble_eq_true rfl, Nat.le_of_ble_eq_true rfl⟩) (fw_preV gF10.2.2.1.1.1 gF10.2.2.1.1.2 rfl rfl hK hZ hP hS) rfl hl _ rfl (Nat.le_of_ble_eq_true rfl) hS dX10_image_8 ⟨Nat.zero_le _, Nat.zero_le _⟩ (fun H locs hP hS => ?_)
  refine lv_aload_n hx hb dX10_image_11 rfl (lv_at hl 0 rfl) ?_
  refine lv_iconst (v := (nI 1)) hx hb dX10_image_12 (by decide) ?_
  refine fw_put hx hb hts in_X10_image_X10 tyX10_ok nmX10 hown hK hG hP hS gF10.1.1 gF10.1.2 rfl 14 (by decide) rfl (hts _ (List.mem_of_getElem? (i := 3) rfl)) rfl rfl (ty := .boolean) rfl rfl rfl dX10_image_13 (fun z2 H locs ez2 hP hS => ?_)
  replace h := gl_s h ez2
  refine lv_aload_n hx hb dX10_image_16 rfl (lv_at hl 0 rfl) ?_
  refine fw_getr hx hb hts in_X10_image_X10 hown hK hP gF10.1.1 gF10.1.2 rfl 0 (by decide) rfl (hts _ (List.mem_of_getElem? (i := 2) rfl)) rfl dX10_image_17 ?_
  refine fw_geti hx hb hts in_X10_image_X5 hown hK hP gF10.2.1.1.1 gF10.2.1.1.2 rfl 0 (by decide) rfl (hts _ (List.mem_of_getElem? (i := 4) rfl)) rfl dX10_image_20 ?_
  exact fw_ireti hx hb hr hlocks (Option.some.inj h) hK hZ hP hS dX10_image_23
theorem in_X10_undo_X10 : ∀ w ∈ wsX100, w ∈ wsX10_undo := fun w h => List.mem_cons_of_mem _ (List.mem_append_left _ (List.mem_append_right _ (h)))
theorem in_X10_undo_X5 : ∀ w ∈ wsX50, w ∈ wsX10_undo := fun w h => List.mem_cons_of_mem _ (List.mem_append_right _ (h))
theorem hdV_X10_undo : yX10_undo.cls = RX10 ∧ yX10_undo.cls ≠ "java/lang/invoke/MethodHandle" ∧ yX10_undo.cls ≠ "java/lang/invoke/VarHandle" ∧ (parseMethodDescriptor yX10_undo.desc).map (fun d => d.parameters.length) = some 0 := by decide +kernel
set_option maxHeartbeats 4000000 in
set_option maxRecDepth 100000 in
theorem k_X10_undo (l : Launch) (D : va_G) (cA : Nat → ClassId) (ad : Nat → Nat) (tw : Nat) (hG : gOk ad 315) (z : gS)  (res : Int32 × gS) (h : f_X10_undo  z = some res) : gMi l yX10_undo wsX10_undo (gRm 2 81) D cA ad tw shX 315 [.ref (ad 0)] z res := by
  refine Met.ofW (cc := cX10_undo) (maxL := 1) (ret := (some .int)) (by decide) rfl ?_
  intro p e s m args below meth c s₁ B hml hv
  obtain ⟨rfl, hP, hK, hZ⟩ := hv
  have hx := B.exec
  have hb := B.bytes
  have hr := B.returns
  have hts := atoms_spec (ws := wsX10_undo) B.pre
  have hown : s.vm.findClass RX10 = some m.cls := findClass_of_methodNamed B.named
  have hlocks := B.notSynchronized
  have hS : va_S (gA ad 315) s.heap s.heap [] := va_S.rf
  have hl := lv_entry ([.ref (ad 0)]) (n := 1) (Nat.le_of_ble_eq_true rfl)
  rw [lg_entry_eq]
  generalize (lg_sl ([.ref (ad 0)]) ++ List.replicate (1 - (lg_sl ([.ref (ad 0)])).length) Slot.unset).toArray = ls at hl ⊢
  have hl : lv_has ls 1 [(0, .ref (ad 0))] := hl
  unfold f_X10_undo at h
  refine lv_aload_n hx hb dX10_undo_0 rfl (lv_at hl 0 rfl) ?_
  refine fw_geti hx hb hts in_X10_undo_X10 hown hK hP gF10.1.1 gF10.1.2 rfl 14 (by decide) rfl (hts _ (List.mem_of_getElem? (i := 1) rfl)) rfl dX10_undo_1 ?_
  refine lv_if_ne (tgt := 10) hx hb dX10_undo_4 (by decide) (fun c1 => ?_) (fun c1 => ?_)
  · replace h := gif_f h c1
    refine lv_aload_n hx hb dX10_undo_10 rfl (lv_at hl 0 rfl) ?_
    refine fw_getr hx hb hts in_X10_undo_X10 hown hK hP gF10.1.1 gF10.1.2 rfl 0 (by decide) rfl (hts _ (List.mem_of_getElem? (i := 2) rfl)) rfl dX10_undo_11 ?_
    refine lv_aload_n hx hb dX10_undo_14 rfl (lv_at hl 0 rfl) ?_
    refine fw_getr hx hb hts in_X10_undo_X10 hown hK hP gF10.1.1 gF10.1.2 rfl 1 (by decide) rfl (hts _ (List.mem_of_getElem? (i := 3) rfl)) rfl dX10_undo_15 ?_
    obtain ⟨q2, hq2, h⟩ := gb_s h
    refine fw_vv (As := [.ref (ad 5)]) (rest := []) ⟨hx, hb, hml, hown, hts⟩ (k_X5_become l D cA ad tw hG z 1 (gF10.2.1) 5 (gF10.2.2.1) q2 hq2) (cwV 1 hts gX10_undo_X5_become rfl rfl rfl hdV_X5_become ⟨Nat.le_of_ble_eq_true rfl, Nat.le_of_ble_eq_true rfl⟩) (fw_preV gF10.2.1.1.1 gF10.2.1.1.2 rfl rfl hK hZ hP hS) rfl hl _ rfl (Nat.le_of_ble_eq_true rfl) hS dX10_undo_18 ⟨Nat.zero_le _, Nat.zero_le _⟩ (fun H locs hP hS => ?_)
    refine lv_aload_n hx hb dX10_undo_21 rfl (lv_at hl 0 rfl) ?_
    obtain ⟨q3, hq3, h⟩ := gb_s h
    refine fw_vv (As := []) (rest := []) ⟨hx, hb, hml, hown, hts⟩ (k_X10_siteChanged l D cA ad tw hG q2  q3 hq3) (cwV 0 hts gX10_undo_X10_siteChanged rfl rfl rfl hdV_X10_siteChanged ⟨Nat.le_of_ble_eq_true rfl, Nat.le_of_ble_eq_true rfl⟩) (fw_preV gF10.1.1 gF10.1.2 rfl rfl hK hZ hP hS) rfl hl _ rfl (Nat.le_of_ble_eq_true rfl) hS dX10_undo_22 ⟨Nat.zero_le _, Nat.zero_le _⟩ (fun H locs hP hS => ?_)
    refine lv_aload_n hx hb dX10_undo_25 rfl (lv_at hl 0 rfl) ?_
    refine fw_getr hx hb hts in_X10_undo_X10 hown hK hP gF10.1.1 gF10.1.2 rfl 0 (by decide) rfl (hts _ (List.mem_of_getElem? (i := 2) rfl)) rfl dX10_undo_26 ?_
    refine fw_geti hx hb hts in_X10_undo_X5 hown hK hP gF10.2.1.1.1 gF10.2.1.1.2 rfl 0 (by decide) rfl (hts _ (List.mem_of_getElem? (i := 4) rfl)) rfl dX10_undo_29 ?_
    exact fw_ireti hx hb hr hlocks (Option.some.inj h) hK hZ hP hS dX10_undo_32
  · replace h := gif_t h c1
    refine lv_bipush (v := (-3)) hx hb dX10_undo_7 (by decide) ?_
    exact fw_ireti hx hb hr hlocks (Option.some.inj h) hK hZ hP hS dX10_undo_9
