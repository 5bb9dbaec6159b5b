theorem hdS_X11_in : yX11_in.cls ≠ "java/lang/invoke/MethodHandle" ∧ yX11_in.cls ≠ "java/lang/invoke/VarHandle" ∧ (parseMethodDescriptor yX11_in.desc).map (fun d => d.parameters.length) = some 3 := by decide +kernel
set_option maxHeartbeats 4000000 in
set_option maxRecDepth 100000 in
theorem k_X11_in (l : Launch) (D : va_G) (cA : Nat → ClassId) (ad : Nat → Nat) (tw : Nat) (hG : gOk ad 22) (z : gS) (a0 : Int32) (a1 : Int32) (a2 : Int32) (res : Int32) (h : f_X11_in a0 a1 a2 z = some res) : gMi l yX11_in wsX11_in (gRm 0 0) D cA ad tw shM 22 [.int a0, .int a1, .int a2] z (res, z) := by
  refine Met.ofW (cc := cX11_in) (maxL := 3) (ret := (some .boolean)) (by decide) rfl ?_
  intro p e s m args below meth c s₁ B hml hv
  obtain ⟨rfl, hP, hK, hZ⟩ := hv
  have hx := B.exec
  have hb := B.bytes
  have hr := B.returns
  have hts := atoms_spec (ws := wsX11_in) B.pre
  have hown : s.vm.findClass RX11 = some m.cls := findClass_of_methodNamed B.named
  have hlocks := B.notSynchronized
  have hS : va_S (gA ad 22) s.heap s.heap [] := va_S.rf
  have hl := lv_entry ([.int a0, .int a1, .int a2]) (n := 3) (Nat.le_of_ble_eq_true rfl)
  rw [lg_entry_eq]
  generalize (lg_sl ([.int a0, .int a1, .int a2]) ++ List.replicate (3 - (lg_sl ([.int a0, .int a1, .int a2])).length) Slot.unset).toArray = ls at hl ⊢
  have hl : lv_has ls 3 [(0, .int a0), (1, .int a1), (2, .int a2)] := hl
  unfold f_X11_in at h
  refine lv_iload_n hx hb dX11_in_0 rfl (lv_at hl 0 rfl) ?_
  refine lv_iload_n hx hb dX11_in_1 rfl (lv_at hl 1 rfl) ?_
  refine lv_icmp_lt (tgt := 14) hx hb dX11_in_2 (by decide) (fun c1 => ?_) (fun c1 => ?_)
  · replace h := gif_t h c1
    refine lv_iconst (v := (nI 0)) hx hb dX11_in_14 (by decide) ?_
    exact fw_iretz hx hb hr hlocks (by decide) (congrArg (fun q => (q, z)) (Option.some.inj h)) hK hZ hP hS dX11_in_15
  · replace h := gif_f h c1
    refine lv_iload_n hx hb dX11_in_5 rfl (lv_at hl 0 rfl) ?_
    refine lv_iload_n hx hb dX11_in_6 rfl (lv_at hl 2 rfl) ?_
    refine lv_icmp_gt (tgt := 14) hx hb dX11_in_7 (by decide) (fun c2 => ?_) (fun c2 => ?_)
    · replace h := gif_t h c2
      refine lv_iconst (v := (nI 0)) hx hb dX11_in_14 (by decide) ?_
      exact fw_iretz hx hb hr hlocks (by decide) (congrArg (fun q => (q, z)) (Option.some.inj h)) hK hZ hP hS dX11_in_15
    · replace h := gif_f h c2
      refine lv_iconst (v := (nI 1)) hx hb dX11_in_10 (by decide) ?_
      refine lv_goto (tgt := 15) hx hb dX11_in_11 (by decide) ?_
      exact fw_iretz hx hb hr hlocks (by decide) (congrArg (fun q => (q, z)) (Option.some.inj h)) hK hZ hP hS dX11_in_15
theorem hdS_X11_has : yX11_has.cls ≠ "java/lang/invoke/MethodHandle" ∧ yX11_has.cls ≠ "java/lang/invoke/VarHandle" ∧ (parseMethodDescriptor yX11_has.desc).map (fun d => d.parameters.length) = some 2 := by decide +kernel
set_option maxHeartbeats 4000000 in
set_option maxRecDepth 100000 in
theorem k_X11_has (l : Launch) (D : va_G) (cA : Nat → ClassId) (ad : Nat → Nat) (tw : Nat) (hG : gOk ad 22) (z : gS) (a0 : Int32) (a1 : Int32) (res : Int32) (h : f_X11_has a0 a1 z = some res) : gMi l yX11_has wsX11_has (gRm 0 0) D cA ad tw shM 22 [.int a0, .int a1] z (res, z) := by
  refine Met.ofW (cc := cX11_has) (maxL := 2) (ret := (some .boolean)) (by decide) rfl ?_
  intro p e s m args below meth c s₁ B hml hv
  obtain ⟨rfl, hP, hK, hZ⟩ := hv
  have hx := B.exec
  have hb := B.bytes
  have hr := B.returns
  have hts := atoms_spec (ws := wsX11_has) B.pre
  have hown : s.vm.findClass RX11 = some m.cls := findClass_of_methodNamed B.named
  have hlocks := B.notSynchronized
  have hS : va_S (gA ad 22) s.heap s.heap [] := va_S.rf
  have hl := lv_entry ([.int a0, .int a1]) (n := 2) (Nat.le_of_ble_eq_true rfl)
  rw [lg_entry_eq]
  generalize (lg_sl ([.int a0, .int a1]) ++ List.replicate (2 - (lg_sl ([.int a0, .int a1])).length) Slot.unset).toArray = ls at hl ⊢
  have hl : lv_has ls 2 [(0, .int a0), (1, .int a1)] := hl
  unfold f_X11_has at h
  refine lv_iload_n hx hb dX11_has_0 rfl (lv_at hl 0 rfl) ?_
  refine lv_iload_n hx hb dX11_has_1 rfl (lv_at hl 1 rfl) ?_
  refine lv_ishr hx hb dX11_has_2 ?_
  refine lv_iconst (v := (nI 1)) hx hb dX11_has_3 (by decide) ?_
  refine lv_iand hx hb dX11_has_4 ?_
  refine lv_iconst (v := (nI 1)) hx hb dX11_has_5 (by decide) ?_
  refine lv_icmp_ne (tgt := 13) hx hb dX11_has_6 (by decide) (fun c1 => ?_) (fun c1 => ?_)
  · replace h := gif_f h c1
    refine lv_iconst (v := (nI 0)) hx hb dX11_has_13 (by decide) ?_
    exact fw_iretz hx hb hr hlocks (by decide) (congrArg (fun q => (q, z)) (Option.some.inj h)) hK hZ hP hS dX11_has_14
  · replace h := gif_t h c1
    refine lv_iconst (v := (nI 1)) hx hb dX11_has_9 (by decide) ?_
    refine lv_goto (tgt := 14) hx hb dX11_has_10 (by decide) ?_
    exact fw_iretz hx hb hr hlocks (by decide) (congrArg (fun q => (q, z)) (Option.some.inj h)) hK hZ hP hS dX11_has_14
theorem hdS_X11_bits : yX11_bits.cls ≠ "java/lang/invoke/MethodHandle" ∧ yX11_bits.cls ≠ "java/lang/invoke/VarHandle" ∧ (parseMethodDescriptor yX11_bits.desc).map (fun d => d.parameters.length) = some 1 := by decide +kernel
set_option maxHeartbeats 4000000 in
set_option maxRecDepth 100000 in
theorem k_X11_bits (l : Launch) (D : va_G) (cA : Nat → ClassId) (ad : Nat → Nat) (tw : Nat) (hG : gOk ad 22) (z : gS) (a0 : Int32) (res : Int32) (h : f_X11_bits a0 z = some res) : gMi l yX11_bits wsX11_bits (gRm 0 0) D cA ad tw shM 22 [.int a0] z (res, z) := by
  refine Met.ofW (cc := cX11_bits) (maxL := 3) (ret := (some .int)) (by decide) rfl ?_
  intro p e s m args below meth c s₁ B hml hv
  obtain ⟨rfl, hP, hK, hZ⟩ := hv
  have hx := B.exec
  have hb := B.bytes
  have hr := B.returns
  have hts := atoms_spec (ws := wsX11_bits) B.pre
  have hown : s.vm.findClass RX11 = some m.cls := findClass_of_methodNamed B.named
  have hlocks := B.notSynchronized
  have hS : va_S (gA ad 22) s.heap s.heap [] := va_S.rf
  have hl := lv_entry ([.int a0]) (n := 3) (Nat.le_of_ble_eq_true rfl)
  rw [lg_entry_eq]
  generalize (lg_sl ([.int a0]) ++ List.replicate (3 - (lg_sl ([.int a0])).length) Slot.unset).toArray = ls at hl ⊢
  have hl : lv_has ls 3 [(0, .int a0)] := hl
  have j4 : ∀  (n : Nat) (x1 : Int32) (x2 : Int32) (H : Heap) (locs : List Loc) (ls : Array Slot), f_X11_bits_4 z n x1 x2 = some res → va_P D vwCl (gw cA ad shM 22 z) H → va_S (gA ad 22) s.heap H locs → lv_has ls 3 [(1, .int x1), (2, .int x2)] → W p l e (headSpec wsX11_bits (gRm 0 0)).room s m ([.int a0] : List Value).toArray below meth c H locs 0 0 (MQ below (va_Qi (fun r u => (r, u) = (res, z)) (gPr D cA ad tw shM 22) (gA ad 22)) ([.int a0] : List Value).toArray s 0 0 (gA ad 22)) (F0 m 4 ls []) := by
    intro n
    induction n with
    | zero => intro x1 x2 H locs ls h; exact (gno h).elim
    | succ n hK4 =>
      intro x1 x2 H locs ls h hP hS hl
      replace h : f_X11_bits_4_b z (f_X11_bits_4 z n) x1 x2 = some res := h
      unfold f_X11_bits_4_b at h
      refine lv_iload_n hx hb dX11_bits_4 rfl (lv_at hl 1 rfl) ?_
      refine lv_if_eq (tgt := 20) hx hb dX11_bits_5 (by decide) (fun c1 => ?_) (fun c1 => ?_)
      · replace h := gif_t h c1
        refine lv_iload_n hx hb dX11_bits_20 rfl (lv_at hl 0 rfl) ?_
        exact fw_ireti hx hb hr hlocks (congrArg (fun q => (q, z)) (Option.some.inj h)) hK hZ hP hS dX11_bits_21
      · replace h := gif_f h c1
        refine lv_iinc (v := x1 + (nI 1)) (lv' := [(1, .int (x1 + (nI 1))), (2, .int x2)]) hx hb dX11_bits_8 hl (k := 0) rfl rfl (by decide) rfl (fun ls hl => ?_)
        refine lv_iload_n hx hb dX11_bits_11 rfl (lv_at hl 1 rfl) ?_
        refine lv_iload_n hx hb dX11_bits_12 rfl (lv_at hl 1 rfl) ?_
        refine lv_iconst (v := (nI 1)) hx hb dX11_bits_13 (by decide) ?_
        refine lv_isub hx hb dX11_bits_14 ?_
        refine lv_iand hx hb dX11_bits_15 ?_
        refine lv_topi (fun y2 ey2 => ?_)
        replace h := gl_s h ey2
        refine lv_istore_n (lv' := [(2, .int y2), (1, .int (x1 + (nI 1)))]) hx hb dX11_bits_16 rfl hl (by decide) rfl (fun ls hl => ?_)
        refine lv_goto (tgt := 4) hx hb dX11_bits_17 (by decide) ?_
        exact hK4 (x1 + (nI 1)) y2 _ _ ls h hP hS (lv_sub hl [1, 0] rfl)
  unfold f_X11_bits at h
  refine lv_iconst (v := (nI 0)) hx hb dX11_bits_0 (by decide) ?_
  refine lv_istore_n (lv' := [(1, .int (nI 0)), (0, .int a0)]) hx hb dX11_bits_1 rfl hl (by decide) rfl (fun ls hl => ?_)
  refine lv_iload_n hx hb dX11_bits_2 rfl (lv_at hl 1 rfl) ?_
  refine lv_istore_n (lv' := [(2, .int a0), (1, .int (nI 0)), (0, .int a0)]) hx hb dX11_bits_3 rfl hl (by decide) rfl (fun ls hl => ?_)
  exact j4  gF (nI 0) a0 _ _ ls h hP hS (lv_sub hl [1, 0] rfl)
theorem in_X11_isGrave_X11 : ∀ w ∈ wsX110, w ∈ wsX11_isGrave := fun w h => List.mem_cons_of_mem _ (List.mem_append_right _ (h))
theorem hdV_X11_isGrave : yX11_isGrave.cls = RX11 ∧ yX11_isGrave.cls ≠ "java/lang/invoke/MethodHandle" ∧ yX11_isGrave.cls ≠ "java/lang/invoke/VarHandle" ∧ (parseMethodDescriptor yX11_isGrave.desc).map (fun d => d.parameters.length) = some 1 := by decide +kernel
set_option maxHeartbeats 4000000 in
set_option maxRecDepth 100000 in
theorem k_X11_isGrave (l : Launch) (D : va_G) (cA : Nat → ClassId) (ad : Nat → Nat) (tw : Nat) (hG : gOk ad 22) (z : gS) (a1 : Int32) (res : Int32) (h : f_X11_isGrave a1 z = some res) : gMi l yX11_isGrave wsX11_isGrave (gRm 1 22) D cA ad tw shM 22 [.ref (ad 0), .int a1] z (res, z) := by
  refine Met.ofW (cc := cX11_isGrave) (maxL := 2) (ret := (some .boolean)) (by decide) rfl ?_
  intro p e s m args below meth c s₁ B hml hv
  obtain ⟨rfl, hP, hK, hZ⟩ := hv
  have hx := B.exec
  have hb := B.bytes
  have hr := B.returns
  have hts := atoms_spec (ws := wsX11_isGrave) B.pre
  have hown : s.vm.findClass RX11 = some m.cls := findClass_of_methodNamed B.named
  have hlocks := B.notSynchronized
  have hS : va_S (gA ad 22) s.heap s.heap [] := va_S.rf
  have hl := lv_entry ([.ref (ad 0), .int a1]) (n := 2) (Nat.le_of_ble_eq_true rfl)
  rw [lg_entry_eq]
  generalize (lg_sl ([.ref (ad 0), .int a1]) ++ List.replicate (2 - (lg_sl ([.ref (ad 0), .int a1])).length) Slot.unset).toArray = ls at hl ⊢
  have hl : lv_has ls 2 [(0, .ref (ad 0)), (1, .int a1)] := hl
  unfold f_X11_isGrave at h
  refine lv_iload_n hx hb dX11_isGrave_0 rfl (lv_at hl 1 rfl) ?_
  refine lv_iconst (v := (nI 0)) hx hb dX11_isGrave_1 (by decide) ?_
  refine lv_aload_n hx hb dX11_isGrave_2 rfl (lv_at hl 0 rfl) ?_
  refine fw_geti hx hb hts in_X11_isGrave_X11 hown hK hP gF11.1.1 gF11.1.2 rfl 1 (by decide) rfl (hts _ (List.mem_of_getElem? (i := 1) rfl)) rfl dX11_isGrave_3 ?_
  refine lv_iconst (v := (nI 1)) hx hb dX11_isGrave_6 (by decide) ?_
  refine lv_isub hx hb dX11_isGrave_7 ?_
  obtain ⟨q1, hq1, h⟩ := gb_s h
  refine fw_siR (As := [.int a1, .int (nI 0), .int ((z 0 1) - (nI 1))]) (rest := []) ⟨hx, hb, hml, hown, hts⟩ (k_X11_in l D cA ad tw hG z a1 (nI 0) ((z 0 1) - (nI 1)) q1 hq1) (va_cwS 3 hts gX11_isGrave_X11_in rfl rfl rfl hdS_X11_in ⟨Nat.le_of_ble_eq_true rfl, Nat.le_of_ble_eq_true rfl⟩) hK hZ hP rfl hl _ rfl (Nat.le_of_ble_eq_true rfl) hS dX11_isGrave_8 ⟨Nat.zero_le _, Nat.zero_le _⟩ (fun H locs hP hS => ?_)
  obtain ⟨h2, h⟩ := gz_s h
  exact fw_iretz hx hb hr hlocks h2 (congrArg (fun q => (q, z)) (Option.some.inj h)) hK hZ hP hS dX11_isGrave_11
theorem in_X11_isType_X11 : ∀ w ∈ wsX110, w ∈ wsX11_isType := fun w h => List.mem_cons_of_mem _ (List.mem_append_right _ (h))
theorem hdV_X11_isType : yX11_isType.cls = RX11 ∧ yX11_isType.cls ≠ "java/lang/invoke/MethodHandle" ∧ yX11_isType.cls ≠ "java/lang/invoke/VarHandle" ∧ (parseMethodDescriptor yX11_isType.desc).map (fun d => d.parameters.length) = some 1 := by decide +kernel
set_option maxHeartbeats 4000000 in
set_option maxRecDepth 100000 in
theorem k_X11_isType (l : Launch) (D : va_G) (cA : Nat → ClassId) (ad : Nat → Nat) (tw : Nat) (hG : gOk ad 22) (z : gS) (a1 : Int32) (res : Int32) (h : f_X11_isType a1 z = some res) : gMi l yX11_isType wsX11_isType (gRm 1 22) D cA ad tw shM 22 [.ref (ad 0), .int a1] z (res, z) := by
  refine Met.ofW (cc := cX11_isType) (maxL := 2) (ret := (some .boolean)) (by decide) rfl ?_
  intro p e s m args below meth c s₁ B hml hv
  obtain ⟨rfl, hP, hK, hZ⟩ := hv
  have hx := B.exec
  have hb := B.bytes
  have hr := B.returns
  have hts := atoms_spec (ws := wsX11_isType) B.pre
  have hown : s.vm.findClass RX11 = some m.cls := findClass_of_methodNamed B.named
  have hlocks := B.notSynchronized
  have hS : va_S (gA ad 22) s.heap s.heap [] := va_S.rf
  have hl := lv_entry ([.ref (ad 0), .int a1]) (n := 2) (Nat.le_of_ble_eq_true rfl)
  rw [lg_entry_eq]
  generalize (lg_sl ([.ref (ad 0), .int a1]) ++ List.replicate (2 - (lg_sl ([.ref (ad 0), .int a1])).length) Slot.unset).toArray = ls at hl ⊢
  have hl : lv_has ls 2 [(0, .ref (ad 0)), (1, .int a1)] := hl
  unfold f_X11_isType at h
  refine lv_iload_n hx hb dX11_isType_0 rfl (lv_at hl 1 rfl) ?_
  refine lv_iconst (v := (nI 0)) hx hb dX11_isType_1 (by decide) ?_
  refine lv_aload_n hx hb dX11_isType_2 rfl (lv_at hl 0 rfl) ?_
  refine fw_geti hx hb hts in_X11_isType_X11 hown hK hP gF11.1.1 gF11.1.2 rfl 2 (by decide) rfl (hts _ (List.mem_of_getElem? (i := 1) rfl)) rfl dX11_isType_3 ?_
  refine lv_iconst (v := (nI 1)) hx hb dX11_isType_6 (by decide) ?_
  refine lv_isub hx hb dX11_isType_7 ?_
  obtain ⟨q1, hq1, h⟩ := gb_s h
  refine fw_siR (As := [.int a1, .int (nI 0), .int ((z 0 2) - (nI 1))]) (rest := []) ⟨hx, hb, hml, hown, hts⟩ (k_X11_in l D cA ad tw hG z a1 (nI 0) ((z 0 2) - (nI 1)) q1 hq1) (va_cwS 3 hts gX11_isType_X11_in rfl rfl rfl hdS_X11_in ⟨Nat.le_of_ble_eq_true rfl, Nat.le_of_ble_eq_true rfl⟩) hK hZ hP rfl hl _ rfl (Nat.le_of_ble_eq_true rfl) hS dX11_isType_8 ⟨Nat.zero_le _, Nat.zero_le _⟩ (fun H locs hP hS => ?_)
  obtain ⟨h2, h⟩ := gz_s h
  exact fw_iretz hx hb hr hlocks h2 (congrArg (fun q => (q, z)) (Option.some.inj h)) hK hZ hP hS dX11_isType_11
theorem in_X11_grave_X11 : ∀ w ∈ wsX110, w ∈ wsX11_grave := fun w h => List.mem_cons_of_mem _ (List.mem_append_right _ (h))
theorem hdV_X11_grave : yX11_grave.cls = RX11 ∧ yX11_grave.cls ≠ "java/lang/invoke/MethodHandle" ∧ yX11_grave.cls ≠ "java/lang/invoke/VarHandle" ∧ (parseMethodDescriptor yX11_grave.desc).map (fun d => d.parameters.length) = some 1 := by decide +kernel
set_option maxHeartbeats 4000000 in
set_option maxRecDepth 100000 in
theorem k_X11_grave (l : Launch) (D : va_G) (cA : Nat → ClassId) (ad : Nat → Nat) (tw : Nat) (hG : gOk ad 22) (z : gS) (a1 : Int32) (res : Int32 × gS) (h : f_X11_grave a1 z = some res) : gMi l yX11_grave wsX11_grave (gRm 1 22) D cA ad tw shM 22 [.ref (ad 0), .int a1] z res := by
  refine Met.ofW (cc := cX11_grave) (maxL := 2) (ret := (some .int)) (by decide) rfl ?_
  intro p e s m args below meth c s₁ B hml hv
  obtain ⟨rfl, hP, hK, hZ⟩ := hv
  have hx := B.exec
  have hb := B.bytes
  have hr := B.returns
  have hts := atoms_spec (ws := wsX11_grave) B.pre
  have hown : s.vm.findClass RX11 = some m.cls := findClass_of_methodNamed B.named
  have hlocks := B.notSynchronized
  have hS : va_S (gA ad 22) s.heap s.heap [] := va_S.rf
  have hl := lv_entry ([.ref (ad 0), .int a1]) (n := 2) (Nat.le_of_ble_eq_true rfl)
  rw [lg_entry_eq]
  generalize (lg_sl ([.ref (ad 0), .int a1]) ++ List.replicate (2 - (lg_sl ([.ref (ad 0), .int a1])).length) Slot.unset).toArray = ls at hl ⊢
  have hl : lv_has ls 2 [(0, .ref (ad 0)), (1, .int a1)] := hl
  unfold f_X11_grave at h
  refine lv_iload_n hx hb dX11_grave_0 rfl (lv_at hl 1 rfl) ?_
  refine lv_iconst (v := (nI 0)) hx hb dX11_grave_1 (by decide) ?_
  refine lv_sipush (v := (nI 999)) hx hb dX11_grave_2 (by decide) ?_
  obtain ⟨q1, hq1, h⟩ := gb_s h
  refine fw_siR (As := [.int a1, .int (nI 0), .int (nI 999)]) (rest := []) ⟨hx, hb, hml, hown, hts⟩ (k_X11_in l D cA ad tw hG z a1 (nI 0) (nI 999) q1 hq1) (va_cwS 3 hts gX11_grave_X11_in rfl rfl rfl hdS_X11_in ⟨Nat.le_of_ble_eq_true rfl, Nat.le_of_ble_eq_true rfl⟩) hK hZ hP rfl hl _ rfl (Nat.le_of_ble_eq_true rfl) hS dX11_grave_5 ⟨Nat.zero_le _, Nat.zero_le _⟩ (fun H locs hP hS => ?_)
  refine lv_if_ne (tgt := 14) hx hb dX11_grave_8 (by decide) (fun c2 => ?_) (fun c2 => ?_)
  · replace h := gif_f h c2
    refine lv_aload_n hx hb dX11_grave_14 rfl (lv_at hl 0 rfl) ?_
    refine fw_geti hx hb hts in_X11_grave_X11 hown hK hP gF11.1.1 gF11.1.2 rfl 1 (by decide) rfl (hts _ (List.mem_of_getElem? (i := 1) rfl)) rfl dX11_grave_15 ?_
    refine lv_bipush (v := (nI 7)) hx hb dX11_grave_18 (by decide) ?_
    refine lv_icmp_ne (tgt := 26) hx hb dX11_grave_20 (by decide) (fun c3 => ?_) (fun c3 => ?_)
    · replace h := gif_f h c3
      refine lv_aload_n hx hb dX11_grave_26 rfl (lv_at hl 0 rfl) ?_
      refine fw_getr hx hb hts in_X11_grave_X11 hown hK hP gF11.1.1 gF11.1.2 rfl 3 (by decide) rfl (hts _ (List.mem_of_getElem? (i := 2) rfl)) rfl dX11_grave_27 ?_
      refine lv_aload_n hx hb dX11_grave_30 rfl (lv_at hl 0 rfl) ?_
      refine fw_geti hx hb hts in_X11_grave_X11 hown hK hP gF11.1.1 gF11.1.2 rfl 1 (by decide) rfl (hts _ (List.mem_of_getElem? (i := 1) rfl)) rfl dX11_grave_31 ?_
      refine lv_iload_n hx hb dX11_grave_34 rfl (lv_at hl 1 rfl) ?_
      obtain ⟨h4, h⟩ := gg_s h
      refine fw_iast hx hb hK hG hP hS gF11.2.1.1 gF11.2.1.2 h4 dX11_grave_35 (fun z5 H locs ez5 hP hS => ?_)
      replace h := gl_s h ez5
      refine lv_aload_n hx hb dX11_grave_36 rfl (lv_at hl 0 rfl) ?_
      refine fw_getr hx hb hts in_X11_grave_X11 hown hK hP gF11.1.1 gF11.1.2 rfl 4 (by decide) rfl (hts _ (List.mem_of_getElem? (i := 3) rfl)) rfl dX11_grave_37 ?_
      refine lv_aload_n hx hb dX11_grave_40 rfl (lv_at hl 0 rfl) ?_
      refine fw_geti hx hb hts in_X11_grave_X11 hown hK hP gF11.1.1 gF11.1.2 rfl 1 (by decide) rfl (hts _ (List.mem_of_getElem? (i := 1) rfl)) rfl dX11_grave_41 ?_
      refine lv_iconst (v := (nI 0)) hx hb dX11_grave_44 (by decide) ?_
      obtain ⟨h6, h⟩ := gg_s h
      refine fw_iast hx hb hK hG hP hS gF11.2.2.1.1 gF11.2.2.1.2 h6 dX11_grave_45 (fun z7 H locs ez7 hP hS => ?_)
      replace h := gl_s h ez7
      refine lv_aload_n hx hb dX11_grave_46 rfl (lv_at hl 0 rfl) ?_
      refine lv_dup hx hb dX11_grave_47 rfl ?_
      refine fw_geti hx hb hts in_X11_grave_X11 hown hK hP gF11.1.1 gF11.1.2 rfl 1 (by decide) rfl (hts _ (List.mem_of_getElem? (i := 1) rfl)) rfl dX11_grave_48 ?_
      refine lv_iconst (v := (nI 1)) hx hb dX11_grave_51 (by decide) ?_
      refine lv_iadd hx hb dX11_grave_52 ?_
      refine fw_put hx hb hts in_X11_grave_X11 tyX11_ok nmX11 hown hK hG hP hS gF11.1.1 gF11.1.2 rfl 1 (by decide) rfl (hts _ (List.mem_of_getElem? (i := 1) rfl)) rfl rfl (ty := .int) rfl rfl rfl dX11_grave_53 (fun z8 H locs ez8 hP hS => ?_)
      replace h := gl_s h ez8
      refine lv_aload_n hx hb dX11_grave_56 rfl (lv_at hl 0 rfl) ?_
      refine fw_geti hx hb hts in_X11_grave_X11 hown hK hP gF11.1.1 gF11.1.2 rfl 1 (by decide) rfl (hts _ (List.mem_of_getElem? (i := 1) rfl)) rfl dX11_grave_57 ?_
      refine lv_iconst (v := (nI 1)) hx hb dX11_grave_60 (by decide) ?_
      refine lv_isub hx hb dX11_grave_61 ?_
      exact fw_ireti hx hb hr hlocks (Option.some.inj h) hK hZ hP hS dX11_grave_62
    · replace h := gif_t h c3
      refine lv_bipush (v := (-4)) hx hb dX11_grave_23 (by decide) ?_
      exact fw_ireti hx hb hr hlocks (Option.some.inj h) hK hZ hP hS dX11_grave_25
  · replace h := gif_t h c2
    refine lv_bipush (v := (-2)) hx hb dX11_grave_11 (by decide) ?_
    exact fw_ireti hx hb hr hlocks (Option.some.inj h) hK hZ hP hS dX11_grave_13
theorem in_X11_has__X11 : ∀ w ∈ wsX110, w ∈ wsX11_has_ := fun w h => List.mem_cons_of_mem _ (List.mem_append_right _ (h))
theorem hdV_X11_has_ : yX11_has_.cls = RX11 ∧ yX11_has_.cls ≠ "java/lang/invoke/MethodHandle" ∧ yX11_has_.cls ≠ "java/lang/invoke/VarHandle" ∧ (parseMethodDescriptor yX11_has_.desc).map (fun d => d.parameters.length) = some 3 := by decide +kernel
set_option maxHeartbeats 4000000 in
set_option maxRecDepth 100000 in
theorem k_X11_has_ (l : Launch) (D : va_G) (cA : Nat → ClassId) (ad : Nat → Nat) (tw : Nat) (hG : gOk ad 22) (z : gS) (a1 : Int32) (a2 : Int32) (a3 : Int32) (res : Int32 × gS) (h : f_X11_has_ a1 a2 a3 z = some res) : gMi l yX11_has_ wsX11_has_ (gRm 2 43) D cA ad tw shM 22 [.ref (ad 0), .int a1, .int a2, .int a3] z res := by
  refine Met.ofW (cc := cX11_has_) (maxL := 5) (ret := (some .int)) (by decide) rfl ?_
  intro p e s m args below meth c s₁ B hml hv
  obtain ⟨rfl, hP, hK, hZ⟩ := hv
  have hx := B.exec
  have hb := B.bytes
  have hr := B.returns
  have hts := atoms_spec (ws := wsX11_has_) B.pre
  have hown : s.vm.findClass RX11 = some m.cls := findClass_of_methodNamed B.named
  have hlocks := B.notSynchronized
  have hS : va_S (gA ad 22) s.heap s.heap [] := va_S.rf
  have hl := lv_entry ([.ref (ad 0), .int a1, .int a2, .int a3]) (n := 5) (Nat.le_of_ble_eq_true rfl)
  rw [lg_entry_eq]
  generalize (lg_sl ([.ref (ad 0), .int a1, .int a2, .int a3]) ++ List.replicate (5 - (lg_sl ([.ref (ad 0), .int a1, .int a2, .int a3])).length) Slot.unset).toArray = ls at hl ⊢
  have hl : lv_has ls 5 [(0, .ref (ad 0)), (1, .int a1), (2, .int a2), (3, .int a3)] := hl
  unfold f_X11_has_ at h
  refine lv_aload_n hx hb dX11_has__0 rfl (lv_at hl 0 rfl) ?_
  refine lv_iload_n hx hb dX11_has__1 rfl (lv_at hl 1 rfl) ?_
  obtain ⟨q1, hq1, h⟩ := gb_s h
  refine fw_viR (As := [.int a1]) (rest := []) ⟨hx, hb, hml, hown, hts⟩ (k_X11_isGrave l D cA ad tw hG z a1 q1 hq1) (cwV 1 hts gX11_has__X11_isGrave rfl rfl rfl hdV_X11_isGrave ⟨Nat.le_of_ble_eq_true rfl, Nat.le_of_ble_eq_true rfl⟩) (fw_preV gF11.1.1 gF11.1.2 rfl rfl hK hZ hP hS) rfl hl _ rfl (Nat.le_of_ble_eq_true rfl) hS dX11_has__2 ⟨Nat.zero_le _, Nat.zero_le _⟩ (fun H locs hP hS => ?_)
  refine lv_if_eq (tgt := 16) hx hb dX11_has__5 (by decide) (fun c2 => ?_) (fun c2 => ?_)
  · replace h := gif_t h c2
    refine lv_iconst (v := gm1) hx hb dX11_has__16 (by decide) ?_
    exact fw_ireti hx hb hr hlocks (Option.some.inj h) hK hZ hP hS dX11_has__17
  · replace h := gif_f h c2
    refine lv_aload_n hx hb dX11_has__8 rfl (lv_at hl 0 rfl) ?_
    refine lv_iload_n hx hb dX11_has__9 rfl (lv_at hl 2 rfl) ?_
    obtain ⟨q3, hq3, h⟩ := gb_s h
    refine fw_viR (As := [.int a2]) (rest := []) ⟨hx, hb, hml, hown, hts⟩ (k_X11_isType l D cA ad tw hG z a2 q3 hq3) (cwV 1 hts gX11_has__X11_isType rfl rfl rfl hdV_X11_isType ⟨Nat.le_of_ble_eq_true rfl, Nat.le_of_ble_eq_true rfl⟩) (fw_preV gF11.1.1 gF11.1.2 rfl rfl hK hZ hP hS) rfl hl _ rfl (Nat.le_of_ble_eq_true rfl) hS dX11_has__10 ⟨Nat.zero_le _, Nat.zero_le _⟩ (fun H locs hP hS => ?_)
    refine lv_if_ne (tgt := 18) hx hb dX11_has__13 (by decide) (fun c4 => ?_) (fun c4 => ?_)
    · replace h := gif_f h c4
      refine lv_iload_n hx hb dX11_has__18 rfl (lv_at hl 3 rfl) ?_
      refine lv_iconst (v := (nI 0)) hx hb dX11_has__19 (by decide) ?_
      refine lv_iconst (v := (nI 1)) hx hb dX11_has__20 (by decide) ?_
      obtain ⟨q5, hq5, h⟩ := gb_s h
      refine fw_siR (As := [.int a3, .int (nI 0), .int (nI 1)]) (rest := []) ⟨hx, hb, hml, hown, hts⟩ (k_X11_in l D cA ad tw hG z a3 (nI 0) (nI 1) q5 hq5) (va_cwS 3 hts gX11_has__X11_in rfl rfl rfl hdS_X11_in ⟨Nat.le_of_ble_eq_true rfl, Nat.le_of_ble_eq_true rfl⟩) hK hZ hP rfl hl _ rfl (Nat.le_of_ble_eq_true rfl) hS dX11_has__21 ⟨Nat.zero_le _, Nat.zero_le _⟩ (fun H locs hP hS => ?_)
      refine lv_if_ne (tgt := 30) hx hb dX11_has__24 (by decide) (fun c6 => ?_) (fun c6 => ?_)
      · replace h := gif_f h c6
        refine lv_aload_n hx hb dX11_has__30 rfl (lv_at hl 0 rfl) ?_
        refine fw_getr hx hb hts in_X11_has__X11 hown hK hP gF11.1.1 gF11.1.2 rfl 4 (by decide) rfl (hts _ (List.mem_of_getElem? (i := 1) rfl)) rfl dX11_has__31 ?_
        refine lv_iload_n hx hb dX11_has__34 rfl (lv_at hl 1 rfl) ?_
        obtain ⟨h7, h⟩ := gg_s h
        refine fw_iald hx hb hK hP gF11.2.2.1.1 gF11.2.2.1.2 h7 dX11_has__35 ?_
        refine lv_iload_n hx hb dX11_has__36 rfl (lv_at hl 2 rfl) ?_
        refine lv_ishr hx hb dX11_has__37 ?_
        refine lv_iconst (v := (nI 1)) hx hb dX11_has__38 (by decide) ?_
        refine lv_iand hx hb dX11_has__39 ?_
        refine lv_topi (fun y8 ey8 => ?_)
        replace h := gl_s h ey8
        refine lv_istore (lv' := [(4, .int y8), (0, .ref (ad 0)), (1, .int a1), (2, .int a2), (3, .int a3)]) hx hb dX11_has__40 hl (by decide) rfl (fun ls hl => ?_)
        refine lv_aload_n hx hb dX11_has__42 rfl (lv_at hl 1 rfl) ?_
        refine fw_getr hx hb hts in_X11_has__X11 hown hK hP gF11.1.1 gF11.1.2 rfl 4 (by decide) rfl (hts _ (List.mem_of_getElem? (i := 1) rfl)) rfl dX11_has__43 ?_
        refine lv_iload_n hx hb dX11_has__46 rfl (lv_at hl 2 rfl) ?_
        refine lv_aload_n hx hb dX11_has__47 rfl (lv_at hl 1 rfl) ?_
        refine fw_getr hx hb hts in_X11_has__X11 hown hK hP gF11.1.1 gF11.1.2 rfl 4 (by decide) rfl (hts _ (List.mem_of_getElem? (i := 1) rfl)) rfl dX11_has__48 ?_
        refine lv_iload_n hx hb dX11_has__51 rfl (lv_at hl 2 rfl) ?_
        obtain ⟨h9, h⟩ := gg_s h
        refine fw_iald hx hb hK hP gF11.2.2.1.1 gF11.2.2.1.2 h9 dX11_has__52 ?_
        refine lv_iconst (v := (nI 1)) hx hb dX11_has__53 (by decide) ?_
        refine lv_iload_n hx hb dX11_has__54 rfl (lv_at hl 3 rfl) ?_
        refine lv_ishl hx hb dX11_has__55 ?_
        refine lv_iconst (v := gm1) hx hb dX11_has__56 (by decide) ?_
        refine lv_ixor hx hb dX11_has__57 ?_
        refine lv_iand hx hb dX11_has__58 ?_
        refine lv_iload_n hx hb dX11_has__59 rfl (lv_at hl 4 rfl) ?_
        refine lv_iload_n hx hb dX11_has__60 rfl (lv_at hl 3 rfl) ?_
        refine lv_ishl hx hb dX11_has__61 ?_
        refine lv_ior hx hb dX11_has__62 ?_
        obtain ⟨h10, h⟩ := gg_s h
        refine fw_iast hx hb hK hG hP hS gF11.2.2.1.1 gF11.2.2.1.2 h10 dX11_has__63 (fun z11 H locs ez11 hP hS => ?_)
        replace h := gl_s h ez11
        refine lv_iload hx hb dX11_has__64 (lv_at hl 0 rfl) ?_
        exact fw_ireti hx hb hr hlocks (Option.some.inj h) hK hZ hP hS dX11_has__66
      · replace h := gif_t h c6
        refine lv_bipush (v := (-2)) hx hb dX11_has__27 (by decide) ?_
        exact fw_ireti hx hb hr hlocks (Option.some.inj h) hK hZ hP hS dX11_has__29
    · replace h := gif_t h c4
      refine lv_iconst (v := gm1) hx hb dX11_has__16 (by decide) ?_
      exact fw_ireti hx hb hr hlocks (Option.some.inj h) hK hZ hP hS dX11_has__17
theorem in_X11_peers_X11 : ∀ w ∈ wsX110, w ∈ wsX11_peers := fun w h => List.mem_cons_of_mem _ (List.mem_append_right _ (h))
theorem hdV_X11_peers : yX11_peers.cls = RX11 ∧ yX11_peers.cls ≠ "java/lang/invoke/MethodHandle" ∧ yX11_peers.cls ≠ "java/lang/invoke/VarHandle" ∧ (parseMethodDescriptor yX11_peers.desc).map (fun d => d.parameters.length) = some 1 := by decide +kernel
set_option maxHeartbeats 4000000 in
set_option maxRecDepth 100000 in
theorem k_X11_peers (l : Launch) (D : va_G) (cA : Nat → ClassId) (ad : Nat → Nat) (tw : Nat) (hG : gOk ad 22) (z : gS) (a1 : Int32) (res : Int32) (h : f_X11_peers a1 z = some res) : gMi l yX11_peers wsX11_peers (gRm 0 0) D cA ad tw shM 22 [.ref (ad 0), .int a1] z (res, z) := by
  refine Met.ofW (cc := cX11_peers) (maxL := 4) (ret := (some .int)) (by decide) rfl ?_
  intro p e s m args below meth c s₁ B hml hv
  obtain ⟨rfl, hP, hK, hZ⟩ := hv
  have hx := B.exec
  have hb := B.bytes
  have hr := B.returns
  have hts := atoms_spec (ws := wsX11_peers) B.pre
  have hown : s.vm.findClass RX11 = some m.cls := findClass_of_methodNamed B.named
  have hlocks := B.notSynchronized
  have hS : va_S (gA ad 22) s.heap s.heap [] := va_S.rf
  have hl := lv_entry ([.ref (ad 0), .int a1]) (n := 4) (Nat.le_of_ble_eq_true rfl)
  rw [lg_entry_eq]
  generalize (lg_sl ([.ref (ad 0), .int a1]) ++ List.replicate (4 - (lg_sl ([.ref (ad 0), .int a1])).length) Slot.unset).toArray = ls at hl ⊢
  have hl : lv_has ls 4 [(0, .ref (ad 0)), (1, .int a1)] := hl
  have j4 : ∀ (x1 : Int32) (n : Nat) (x2 : Int32) (x3 : Int32) (H : Heap) (locs : List Loc) (ls : Array Slot), f_X11_peers_4 z x1 n x2 x3 = some res → va_P D vwCl (gw cA ad shM 22 z) H → va_S (gA ad 22) s.heap H locs → lv_has ls 4 [(0, .ref (ad 0)), (1, .int x1), (2, .int x2), (3, .int x3)] → W p l e (headSpec wsX11_peers (gRm 0 0)).room s m ([.ref (ad 0), .int a1] : List Value).toArray below meth c H locs 0 0 (MQ below (va_Qi (fun r u => (r, u) = (res, z)) (gPr D cA ad tw shM 22) (gA ad 22)) ([.ref (ad 0), .int a1] : List Value).toArray s 0 0 (gA ad 22)) (F0 m 4 ls []) := by
    intro x1 n
    induction n with
    | zero => intro x2 x3 H locs ls h; exact (gno h).elim
    | succ n hK4 =>
      intro x2 x3 H locs ls h hP hS hl
      replace h : f_X11_peers_4_b z x1 (f_X11_peers_4 z x1 n) x2 x3 = some res := h
      unfold f_X11_peers_4_b at h
      refine lv_iload_n hx hb dX11_peers_4 rfl (lv_at hl 3 rfl) ?_
      refine lv_aload_n hx hb dX11_peers_5 rfl (lv_at hl 0 rfl) ?_
      refine fw_geti hx hb hts in_X11_peers_X11 hown hK hP gF11.1.1 gF11.1.2 rfl 1 (by decide) rfl (hts _ (List.mem_of_getElem? (i := 1) rfl)) rfl dX11_peers_6 ?_
      refine lv_icmp_ge (tgt := 62) hx hb dX11_peers_9 (by decide) (fun c1 => ?_) (fun c1 => ?_)
      · replace h := gif_t h c1
        refine lv_iload_n hx hb dX11_peers_62 rfl (lv_at hl 2 rfl) ?_
        exact fw_ireti hx hb hr hlocks (congrArg (fun q => (q, z)) (Option.some.inj h)) hK hZ hP hS dX11_peers_63
      · replace h := gif_f h c1
        refine lv_iload_n hx hb dX11_peers_12 rfl (lv_at hl 2 rfl) ?_
        refine lv_aload_n hx hb dX11_peers_13 rfl (lv_at hl 0 rfl) ?_
        refine fw_getr hx hb hts in_X11_peers_X11 hown hK hP gF11.1.1 gF11.1.2 rfl 4 (by decide) rfl (hts _ (List.mem_of_getElem? (i := 2) rfl)) rfl dX11_peers_14 ?_
        refine lv_iload_n hx hb dX11_peers_17 rfl (lv_at hl 3 rfl) ?_
        obtain ⟨h2, h⟩ := gg_s h
        refine fw_iald hx hb hK hP gF11.2.2.1.1 gF11.2.2.1.2 h2 dX11_peers_18 ?_
        refine lv_aload_n hx hb dX11_peers_19 rfl (lv_at hl 0 rfl) ?_
        refine fw_getr hx hb hts in_X11_peers_X11 hown hK hP gF11.1.1 gF11.1.2 rfl 4 (by decide) rfl (hts _ (List.mem_of_getElem? (i := 2) rfl)) rfl dX11_peers_20 ?_
        refine lv_iload_n hx hb dX11_peers_23 rfl (lv_at hl 1 rfl) ?_
        obtain ⟨h3, h⟩ := gg_s h
        refine fw_iald hx hb hK hP gF11.2.2.1.1 gF11.2.2.1.2 h3 dX11_peers_24 ?_
        refine lv_icmp_ne (tgt := 53) hx hb dX11_peers_25 (by decide) (fun c4 => ?_) (fun c4 => ?_)
        · replace h := gif_f h c4
          refine lv_iconst (v := (nI 0)) hx hb dX11_peers_53 (by decide) ?_
          refine lv_iadd hx hb dX11_peers_54 ?_
          refine lv_topi (fun y5 ey5 => ?_)
          replace h := gl_s h ey5
          refine lv_istore_n (lv' := [(2, .int y5), (0, .ref (ad 0)), (1, .int x1), (3, .int x3)]) hx hb dX11_peers_55 rfl hl (by decide) rfl (fun ls hl => ?_)
          refine lv_iinc (v := x3 + (nI 1)) (lv' := [(3, .int (x3 + (nI 1))), (2, .int y5), (0, .ref (ad 0)), (1, .int x1)]) hx hb dX11_peers_56 hl (k := 3) rfl rfl (by decide) rfl (fun ls hl => ?_)
          refine lv_goto (tgt := 4) hx hb dX11_peers_59 (by decide) ?_
          exact hK4 y5 (x3 + (nI 1)) _ _ ls h hP hS (lv_sub hl [2, 3, 1, 0] rfl)
        · replace h := gif_t h c4
          refine lv_aload_n hx hb dX11_peers_28 rfl (lv_at hl 0 rfl) ?_
          refine fw_getr hx hb hts in_X11_peers_X11 hown hK hP gF11.1.1 gF11.1.2 rfl 3 (by decide) rfl (hts _ (List.mem_of_getElem? (i := 3) rfl)) rfl dX11_peers_29 ?_
          refine lv_iload_n hx hb dX11_peers_32 rfl (lv_at hl 3 rfl) ?_
          obtain ⟨h6, h⟩ := gg_s h
          refine fw_iald hx hb hK hP gF11.2.1.1 gF11.2.1.2 h6 dX11_peers_33 ?_
          refine lv_bipush (v := (nI 100)) hx hb dX11_peers_34 (by decide) ?_
          refine lv_irem hx hb dX11_peers_36 (by decide) ?_
          refine lv_aload_n hx hb dX11_peers_37 rfl (lv_at hl 0 rfl) ?_
          refine fw_getr hx hb hts in_X11_peers_X11 hown hK hP gF11.1.1 gF11.1.2 rfl 3 (by decide) rfl (hts _ (List.mem_of_getElem? (i := 3) rfl)) rfl dX11_peers_38 ?_
          refine lv_iload_n hx hb dX11_peers_41 rfl (lv_at hl 1 rfl) ?_
          obtain ⟨h7, h⟩ := gg_s h
          refine fw_iald hx hb hK hP gF11.2.1.1 gF11.2.1.2 h7 dX11_peers_42 ?_
          refine lv_bipush (v := (nI 100)) hx hb dX11_peers_43 (by decide) ?_
          refine lv_irem hx hb dX11_peers_45 (by decide) ?_
          refine lv_icmp_ne (tgt := 53) hx hb dX11_peers_46 (by decide) (fun c8 => ?_) (fun c8 => ?_)
          · replace h := gif_f h c8
            refine lv_iconst (v := (nI 0)) hx hb dX11_peers_53 (by decide) ?_
            refine lv_iadd hx hb dX11_peers_54 ?_
            refine lv_topi (fun y9 ey9 => ?_)
            replace h := gl_s h ey9
            refine lv_istore_n (lv' := [(2, .int y9), (0, .ref (ad 0)), (1, .int x1), (3, .int x3)]) hx hb dX11_peers_55 rfl hl (by decide) rfl (fun ls hl => ?_)
            refine lv_iinc (v := x3 + (nI 1)) (lv' := [(3, .int (x3 + (nI 1))), (2, .int y9), (0, .ref (ad 0)), (1, .int x1)]) hx hb dX11_peers_56 hl (k := 3) rfl rfl (by decide) rfl (fun ls hl => ?_)
            refine lv_goto (tgt := 4) hx hb dX11_peers_59 (by decide) ?_
            exact hK4 y9 (x3 + (nI 1)) _ _ ls h hP hS (lv_sub hl [2, 3, 1, 0] rfl)
          · replace h := gif_t h c8
            refine lv_iconst (v := (nI 1)) hx hb dX11_peers_49 (by decide) ?_
            refine lv_goto (tgt := 54) hx hb dX11_peers_50 (by decide) ?_
            refine lv_iadd hx hb dX11_peers_54 ?_
            refine lv_topi (fun y10 ey10 => ?_)
            replace h := gl_s h ey10
            refine lv_istore_n (lv' := [(2, .int y10), (0, .ref (ad 0)), (1, .int x1), (3, .int x3)]) hx hb dX11_peers_55 rfl hl (by decide) rfl (fun ls hl => ?_)
            refine lv_iinc (v := x3 + (nI 1)) (lv' := [(3, .int (x3 + (nI 1))), (2, .int y10), (0, .ref (ad 0)), (1, .int x1)]) hx hb dX11_peers_56 hl (k := 3) rfl rfl (by decide) rfl (fun ls hl => ?_)
            refine lv_goto (tgt := 4) hx hb dX11_peers_59 (by decide) ?_
            exact hK4 y10 (x3 + (nI 1)) _ _ ls h hP hS (lv_sub hl [2, 3, 1, 0] rfl)
  unfold f_X11_peers at h
  refine lv_iconst (v := (nI 0)) hx hb dX11_peers_0 (by decide) ?_
  refine lv_istore_n (lv' := [(2, .int (nI 0)), (0, .ref (ad 0)), (1, .int a1)]) hx hb dX11_peers_1 rfl hl (by decide) rfl (fun ls hl => ?_)
  refine lv_iconst (v := (nI 0)) hx hb dX11_peers_2 (by decide) ?_
  refine lv_istore_n (lv' := [(3, .int (nI 0)), (2, .int (nI 0)), (0, .ref (ad 0)), (1, .int a1)]) hx hb dX11_peers_3 rfl hl (by decide) rfl (fun ls hl => ?_)
  exact j4 a1 gF (nI 0) (nI 0) _ _ ls h hP hS (lv_sub hl [2, 3, 1, 0] rfl)
theorem in_X11_sharers_X11 : ∀ w ∈ wsX110, w ∈ wsX11_sharers := fun w h => List.mem_cons_of_mem _ (List.mem_append_right _ (h))
theorem hdV_X11_sharers : yX11_sharers.cls = RX11 ∧ yX11_sharers.cls ≠ "java/lang/invoke/MethodHandle" ∧ yX11_sharers.cls ≠ "java/lang/invoke/VarHandle" ∧ (parseMethodDescriptor yX11_sharers.desc).map (fun d => d.parameters.length) = some 1 := by decide +kernel
set_option maxHeartbeats 4000000 in
set_option maxRecDepth 100000 in
theorem k_X11_sharers (l : Launch) (D : va_G) (cA : Nat → ClassId) (ad : Nat → Nat) (tw : Nat) (hG : gOk ad 22) (z : gS) (a1 : Int32) (res : Int32) (h : f_X11_sharers a1 z = some res) : gMi l yX11_sharers wsX11_sharers (gRm 0 0) D cA ad tw shM 22 [.ref (ad 0), .int a1] z (res, z) := by
  refine Met.ofW (cc := cX11_sharers) (maxL := 4) (ret := (some .int)) (by decide) rfl ?_
  intro p e s m args below meth c s₁ B hml hv
  obtain ⟨rfl, hP, hK, hZ⟩ := hv
  have hx := B.exec
  have hb := B.bytes
  have hr := B.returns
  have hts := atoms_spec (ws := wsX11_sharers) B.pre
  have hown : s.vm.findClass RX11 = some m.cls := findClass_of_methodNamed B.named
  have hlocks := B.notSynchronized
  have hS : va_S (gA ad 22) s.heap s.heap [] := va_S.rf
  have hl := lv_entry ([.ref (ad 0), .int a1]) (n := 4) (Nat.le_of_ble_eq_true rfl)
  rw [lg_entry_eq]
  generalize (lg_sl ([.ref (ad 0), .int a1]) ++ List.replicate (4 - (lg_sl ([.ref (ad 0), .int a1])).length) Slot.unset).toArray = ls at hl ⊢
  have hl : lv_has ls 4 [(0, .ref (ad 0)), (1, .int a1)] := hl
  have j4 : ∀ (x1 : Int32) (n : Nat) (x2 : Int32) (x3 : Int32) (H : Heap) (locs : List Loc) (ls : Array Slot), f_X11_sharers_4 z x1 n x2 x3 = some res → va_P D vwCl (gw cA ad shM 22 z) H → va_S (gA ad 22) s.heap H locs → lv_has ls 4 [(0, .ref (ad 0)), (1, .int x1), (2, .int x2), (3, .int x3)] → W p l e (headSpec wsX11_sharers (gRm 0 0)).room s m ([.ref (ad 0), .int a1] : List Value).toArray below meth c H locs 0 0 (MQ below (va_Qi (fun r u => (r, u) = (res, z)) (gPr D cA ad tw shM 22) (gA ad 22)) ([.ref (ad 0), .int a1] : List Value).toArray s 0 0 (gA ad 22)) (F0 m 4 ls []) := by
    intro x1 n
    induction n with
    | zero => intro x2 x3 H locs ls h; exact (gno h).elim
    | succ n hK4 =>
      intro x2 x3 H locs ls h hP hS hl
      replace h : f_X11_sharers_4_b z x1 (f_X11_sharers_4 z x1 n) x2 x3 = some res := h
      unfold f_X11_sharers_4_b at h
      refine lv_iload_n hx hb dX11_sharers_4 rfl (lv_at hl 3 rfl) ?_
      refine lv_aload_n hx hb dX11_sharers_5 rfl (lv_at hl 0 rfl) ?_
      refine fw_geti hx hb hts in_X11_sharers_X11 hown hK hP gF11.1.1 gF11.1.2 rfl 1 (by decide) rfl (hts _ (List.mem_of_getElem? (i := 1) rfl)) rfl dX11_sharers_6 ?_
      refine lv_icmp_ge (tgt := 47) hx hb dX11_sharers_9 (by decide) (fun c1 => ?_) (fun c1 => ?_)
      · replace h := gif_t h c1
        refine lv_iload_n hx hb dX11_sharers_47 rfl (lv_at hl 2 rfl) ?_
        exact fw_ireti hx hb hr hlocks (congrArg (fun q => (q, z)) (Option.some.inj h)) hK hZ hP hS dX11_sharers_48
      · replace h := gif_f h c1
        refine lv_iload_n hx hb dX11_sharers_12 rfl (lv_at hl 2 rfl) ?_
        refine lv_iload_n hx hb dX11_sharers_13 rfl (lv_at hl 3 rfl) ?_
        refine lv_iload_n hx hb dX11_sharers_14 rfl (lv_at hl 1 rfl) ?_
        refine lv_icmp_eq (tgt := 38) hx hb dX11_sharers_15 (by decide) (fun c2 => ?_) (fun c2 => ?_)
        · replace h := gif_t h c2
          refine lv_iconst (v := (nI 0)) hx hb dX11_sharers_38 (by decide) ?_
          refine lv_iadd hx hb dX11_sharers_39 ?_
          refine lv_topi (fun y3 ey3 => ?_)
          replace h := gl_s h ey3
          refine lv_istore_n (lv' := [(2, .int y3), (0, .ref (ad 0)), (1, .int x1), (3, .int x3)]) hx hb dX11_sharers_40 rfl hl (by decide) rfl (fun ls hl => ?_)
          refine lv_iinc (v := x3 + (nI 1)) (lv' := [(3, .int (x3 + (nI 1))), (2, .int y3), (0, .ref (ad 0)), (1, .int x1)]) hx hb dX11_sharers_41 hl (k := 3) rfl rfl (by decide) rfl (fun ls hl => ?_)
          refine lv_goto (tgt := 4) hx hb dX11_sharers_44 (by decide) ?_
          exact hK4 y3 (x3 + (nI 1)) _ _ ls h hP hS (lv_sub hl [2, 3, 1, 0] rfl)
        · replace h := gif_f h c2
          refine lv_aload_n hx hb dX11_sharers_18 rfl (lv_at hl 0 rfl) ?_
          refine fw_getr hx hb hts in_X11_sharers_X11 hown hK hP gF11.1.1 gF11.1.2 rfl 4 (by decide) rfl (hts _ (List.mem_of_getElem? (i := 2) rfl)) rfl dX11_sharers_19 ?_
          refine lv_iload_n hx hb dX11_sharers_22 rfl (lv_at hl 3 rfl) ?_
          obtain ⟨h4, h⟩ := gg_s h
          refine fw_iald hx hb hK hP gF11.2.2.1.1 gF11.2.2.1.2 h4 dX11_sharers_23 ?_
          refine lv_aload_n hx hb dX11_sharers_24 rfl (lv_at hl 0 rfl) ?_
          refine fw_getr hx hb hts in_X11_sharers_X11 hown hK hP gF11.1.1 gF11.1.2 rfl 4 (by decide) rfl (hts _ (List.mem_of_getElem? (i := 2) rfl)) rfl dX11_sharers_25 ?_
          refine lv_iload_n hx hb dX11_sharers_28 rfl (lv_at hl 1 rfl) ?_
          obtain ⟨h5, h⟩ := gg_s h
          refine fw_iald hx hb hK hP gF11.2.2.1.1 gF11.2.2.1.2 h5 dX11_sharers_29 ?_
          refine lv_iand hx hb dX11_sharers_30 ?_
          refine lv_if_eq (tgt := 38) hx hb dX11_sharers_31 (by decide) (fun c6 => ?_) (fun c6 => ?_)
          · replace h := gif_t h c6
            refine lv_iconst (v := (nI 0)) hx hb dX11_sharers_38 (by decide) ?_
            refine lv_iadd hx hb dX11_sharers_39 ?_
            refine lv_topi (fun y7 ey7 => ?_)
            replace h := gl_s h ey7
            refine lv_istore_n (lv' := [(2, .int y7), (0, .ref (ad 0)), (1, .int x1), (3, .int x3)]) hx hb dX11_sharers_40 rfl hl (by decide) rfl (fun ls hl => ?_)
            refine lv_iinc (v := x3 + (nI 1)) (lv' := [(3, .int (x3 + (nI 1))), (2, .int y7), (0, .ref (ad 0)), (1, .int x1)]) hx hb dX11_sharers_41 hl (k := 3) rfl rfl (by decide) rfl (fun ls hl => ?_)
            refine lv_goto (tgt := 4) hx hb dX11_sharers_44 (by decide) ?_
            exact hK4 y7 (x3 + (nI 1)) _ _ ls h hP hS (lv_sub hl [2, 3, 1, 0] rfl)
          · replace h := gif_f h c6
            refine lv_iconst (v := (nI 1)) hx hb dX11_sharers_34 (by decide) ?_
            refine lv_goto (tgt := 39) hx hb dX11_sharers_35 (by decide) ?_
            refine lv_iadd hx hb dX11_sharers_39 ?_
            refine lv_topi (fun y8 ey8 => ?_)
            replace h := gl_s h ey8
            refine lv_istore_n (lv' := [(2, .int y8), (0, .ref (ad 0)), (1, .int x1), (3, .int x3)]) hx hb dX11_sharers_40 rfl hl (by decide) rfl (fun ls hl => ?_)
            refine lv_iinc (v := x3 + (nI 1)) (lv' := [(3, .int (x3 + (nI 1))), (2, .int y8), (0, .ref (ad 0)), (1, .int x1)]) hx hb dX11_sharers_41 hl (k := 3) rfl rfl (by decide) rfl (fun ls hl => ?_)
            refine lv_goto (tgt := 4) hx hb dX11_sharers_44 (by decide) ?_
            exact hK4 y8 (x3 + (nI 1)) _ _ ls h hP hS (lv_sub hl [2, 3, 1, 0] rfl)
  unfold f_X11_sharers at h
  refine lv_iconst (v := (nI 0)) hx hb dX11_sharers_0 (by decide) ?_
  refine lv_istore_n (lv' := [(2, .int (nI 0)), (0, .ref (ad 0)), (1, .int a1)]) hx hb dX11_sharers_1 rfl hl (by decide) rfl (fun ls hl => ?_)
  refine lv_iconst (v := (nI 0)) hx hb dX11_sharers_2 (by decide) ?_
  refine lv_istore_n (lv' := [(3, .int (nI 0)), (2, .int (nI 0)), (0, .ref (ad 0)), (1, .int a1)]) hx hb dX11_sharers_3 rfl hl (by decide) rfl (fun ls hl => ?_)
  exact j4 a1 gF (nI 0) (nI 0) _ _ ls h hP hS (lv_sub hl [2, 3, 1, 0] rfl)
theorem in_X11_of_X11 : ∀ w ∈ wsX110, w ∈ wsX11_of := fun w h => List.mem_cons_of_mem _ (List.mem_append_right _ (h))
theorem hdV_X11_of : yX11_of.cls = RX11 ∧ yX11_of.cls ≠ "java/lang/invoke/MethodHandle" ∧ yX11_of.cls ≠ "java/lang/invoke/VarHandle" ∧ (parseMethodDescriptor yX11_of.desc).map (fun d => d.parameters.length) = some 2 := by decide +kernel
set_option maxHeartbeats 4000000 in
set_option maxRecDepth 100000 in
theorem k_X11_of (l : Launch) (D : va_G) (cA : Nat → ClassId) (ad : Nat → Nat) (tw : Nat) (hG : gOk ad 22) (z : gS) (a1 : Int32) (a2 : Int32) (res : Int32) (h : f_X11_of a1 a2 z = some res) : gMi l yX11_of wsX11_of (gRm 2 43) D cA ad tw shM 22 [.ref (ad 0), .int a1, .int a2] z (res, z) := by
  refine Met.ofW (cc := cX11_of) (maxL := 3) (ret := (some .int)) (by decide) rfl ?_
  intro p e s m args below meth c s₁ B hml hv
  obtain ⟨rfl, hP, hK, hZ⟩ := hv
  have hx := B.exec
  have hb := B.bytes
  have hr := B.returns
  have hts := atoms_spec (ws := wsX11_of) B.pre
  have hown : s.vm.findClass RX11 = some m.cls := findClass_of_methodNamed B.named
  have hlocks := B.notSynchronized
  have hS : va_S (gA ad 22) s.heap s.heap [] := va_S.rf
  have hl := lv_entry ([.ref (ad 0), .int a1, .int a2]) (n := 3) (Nat.le_of_ble_eq_true rfl)
  rw [lg_entry_eq]
  generalize (lg_sl ([.ref (ad 0), .int a1, .int a2]) ++ List.replicate (3 - (lg_sl ([.ref (ad 0), .int a1, .int a2])).length) Slot.unset).toArray = ls at hl ⊢
  have hl : lv_has ls 3 [(0, .ref (ad 0)), (1, .int a1), (2, .int a2)] := hl
  unfold f_X11_of at h
  refine lv_aload_n hx hb dX11_of_0 rfl (lv_at hl 0 rfl) ?_
  refine lv_iload_n hx hb dX11_of_1 rfl (lv_at hl 1 rfl) ?_
  obtain ⟨q1, hq1, h⟩ := gb_s h
  refine fw_viR (As := [.int a1]) (rest := []) ⟨hx, hb, hml, hown, hts⟩ (k_X11_isGrave l D cA ad tw hG z a1 q1 hq1) (cwV 1 hts gX11_of_X11_isGrave rfl rfl rfl hdV_X11_isGrave ⟨Nat.le_of_ble_eq_true rfl, Nat.le_of_ble_eq_true rfl⟩) (fw_preV gF11.1.1 gF11.1.2 rfl rfl hK hZ hP hS) rfl hl _ rfl (Nat.le_of_ble_eq_true rfl) hS dX11_of_2 ⟨Nat.zero_le _, Nat.zero_le _⟩ (fun H locs hP hS => ?_)
  refine lv_if_ne (tgt := 10) hx hb dX11_of_5 (by decide) (fun c2 => ?_) (fun c2 => ?_)
  · replace h := gif_f h c2
    refine lv_iload_n hx hb dX11_of_10 rfl (lv_at hl 2 rfl) ?_
    by_cases c3 : a2 = (nI 0)
    · replace h := gif_t h c3
      refine lv_tableIn (tgt := 40) hx hb dX11_of_11 (by rw [c3]; decide) (by rw [c3]; decide) (by rw [c3]; rfl) (by decide) ?_
      refine lv_aload_n hx hb dX11_of_40 rfl (lv_at hl 0 rfl) ?_
      refine fw_getr hx hb hts in_X11_of_X11 hown hK hP gF11.1.1 gF11.1.2 rfl 3 (by decide) rfl (hts _ (List.mem_of_getElem? (i := 1) rfl)) rfl dX11_of_41 ?_
      refine lv_iload_n hx hb dX11_of_44 rfl (lv_at hl 1 rfl) ?_
      obtain ⟨h4, h⟩ := gg_s h
      refine fw_iald hx hb hK hP gF11.2.1.1 gF11.2.1.2 h4 dX11_of_45 ?_
      exact fw_ireti hx hb hr hlocks (congrArg (fun q => (q, z)) (Option.some.inj h)) hK hZ hP hS dX11_of_46
    replace h := gif_f h c3
    by_cases c5 : a2 = (nI 1)
    · replace h := gif_t h c5
      refine lv_tableIn (tgt := 47) hx hb dX11_of_11 (by rw [c5]; decide) (by rw [c5]; decide) (by rw [c5]; rfl) (by decide) ?_
      refine lv_aload_n hx hb dX11_of_47 rfl (lv_at hl 0 rfl) ?_
      refine fw_getr hx hb hts in_X11_of_X11 hown hK hP gF11.1.1 gF11.1.2 rfl 4 (by decide) rfl (hts _ (List.mem_of_getElem? (i := 2) rfl)) rfl dX11_of_48 ?_
      refine lv_iload_n hx hb dX11_of_51 rfl (lv_at hl 1 rfl) ?_
      obtain ⟨h6, h⟩ := gg_s h
      refine fw_iald hx hb hK hP gF11.2.2.1.1 gF11.2.2.1.2 h6 dX11_of_52 ?_
      exact fw_ireti hx hb hr hlocks (congrArg (fun q => (q, z)) (Option.some.inj h)) hK hZ hP hS dX11_of_53
    replace h := gif_f h c5
    by_cases c7 : a2 = (nI 2)
    · replace h := gif_t h c7
      refine lv_tableIn (tgt := 54) hx hb dX11_of_11 (by rw [c7]; decide) (by rw [c7]; decide) (by rw [c7]; rfl) (by decide) ?_
      refine lv_aload_n hx hb dX11_of_54 rfl (lv_at hl 0 rfl) ?_
      refine lv_iload_n hx hb dX11_of_55 rfl (lv_at hl 1 rfl) ?_
      obtain ⟨q8, hq8, h⟩ := gb_s h
      refine fw_viR (As := [.int a1]) (rest := []) ⟨hx, hb, hml, hown, hts⟩ (k_X11_peers l D cA ad tw hG z a1 q8 hq8) (cwV 1 hts gX11_of_X11_peers rfl rfl rfl hdV_X11_peers ⟨Nat.le_of_ble_eq_true rfl, Nat.le_of_ble_eq_true rfl⟩) (fw_preV gF11.1.1 gF11.1.2 rfl rfl hK hZ hP hS) rfl hl _ rfl (Nat.le_of_ble_eq_true rfl) hS dX11_of_56 ⟨Nat.zero_le _, Nat.zero_le _⟩ (fun H locs hP hS => ?_)
      exact fw_ireti hx hb hr hlocks (congrArg (fun q => (q, z)) (Option.some.inj h)) hK hZ hP hS dX11_of_59
    replace h := gif_f h c7
    by_cases c9 : a2 = (nI 3)
    · replace h := gif_t h c9
      refine lv_tableIn (tgt := 60) hx hb dX11_of_11 (by rw [c9]; decide) (by rw [c9]; decide) (by rw [c9]; rfl) (by decide) ?_
      refine lv_aload_n hx hb dX11_of_60 rfl (lv_at hl 0 rfl) ?_
      refine lv_iload_n hx hb dX11_of_61 rfl (lv_at hl 1 rfl) ?_
      obtain ⟨q10, hq10, h⟩ := gb_s h
      refine fw_viR (As := [.int a1]) (rest := []) ⟨hx, hb, hml, hown, hts⟩ (k_X11_sharers l D cA ad tw hG z a1 q10 hq10) (cwV 1 hts gX11_of_X11_sharers rfl rfl rfl hdV_X11_sharers ⟨Nat.le_of_ble_eq_true rfl, Nat.le_of_ble_eq_true rfl⟩) (fw_preV gF11.1.1 gF11.1.2 rfl rfl hK hZ hP hS) rfl hl _ rfl (Nat.le_of_ble_eq_true rfl) hS dX11_of_62 ⟨Nat.zero_le _, Nat.zero_le _⟩ (fun H locs hP hS => ?_)
      exact fw_ireti hx hb hr hlocks (congrArg (fun q => (q, z)) (Option.some.inj h)) hK hZ hP hS dX11_of_65
    replace h := gif_f h c9
    refine lv_tableOut (tgt := 66) hx hb dX11_of_11 (by have nc3 := gne (w := 0) c3 rfl; have nc5 := gne (w := 1) c5 rfl; have nc7 := gne (w := 2) c7 rfl; have nc9 := gne (w := 3) c9 rfl; omega) (by decide) ?_
    refine lv_iconst (v := gm1) hx hb dX11_of_66 (by decide) ?_
    exact fw_ireti hx hb hr hlocks (congrArg (fun q => (q, z)) (Option.some.inj h)) hK hZ hP hS dX11_of_67
  · replace h := gif_t h c2
    refine lv_iconst (v := gm1) hx hb dX11_of_8 (by decide) ?_
    exact fw_ireti hx hb hr hlocks (congrArg (fun q => (q, z)) (Option.some.inj h)) hK hZ hP hS dX11_of_9
theorem hdS_X11_letterOf : yX11_letterOf.cls ≠ "java/lang/invoke/MethodHandle" ∧ yX11_letterOf.cls ≠ "java/lang/invoke/VarHandle" ∧ (parseMethodDescriptor yX11_letterOf.desc).map (fun d => d.parameters.length) = some 2 := by decide +kernel
set_option maxHeartbeats 4000000 in
set_option maxRecDepth 100000 in
theorem k_X11_letterOf (l : Launch) (D : va_G) (cA : Nat → ClassId) (ad : Nat → Nat) (tw : Nat) (hG : gOk ad 22) (z : gS) (a0 : Int32) (a1 : Int32) (res : Int32) (h : f_X11_letterOf a0 a1 z = some res) : gMi l yX11_letterOf wsX11_letterOf (gRm 0 0) D cA ad tw shM 22 [.int a0, .int a1] z (res, z) := by
  refine Met.ofW (cc := cX11_letterOf) (maxL := 4) (ret := (some .int)) (by decide) rfl ?_
  intro p e s m args below meth c s₁ B hml hv
  obtain ⟨rfl, hP, hK, hZ⟩ := hv
  have hx := B.exec
  have hb := B.bytes
  have hr := B.returns
  have hts := atoms_spec (ws := wsX11_letterOf) B.pre
  have hown : s.vm.findClass RX11 = some m.cls := findClass_of_methodNamed B.named
  have hlocks := B.notSynchronized
  have hS : va_S (gA ad 22) s.heap s.heap [] := va_S.rf
  have hl := lv_entry ([.int a0, .int a1]) (n := 4) (Nat.le_of_ble_eq_true rfl)
  rw [lg_entry_eq]
  generalize (lg_sl ([.int a0, .int a1]) ++ List.replicate (4 - (lg_sl ([.int a0, .int a1])).length) Slot.unset).toArray = ls at hl ⊢
  have hl : lv_has ls 4 [(0, .int a0), (1, .int a1)] := hl
  have j4 : ∀  (n : Nat) (x2 : Int32) (x3 : Int32) (H : Heap) (locs : List Loc) (ls : Array Slot), f_X11_letterOf_4 z n x2 x3 = some res → va_P D vwCl (gw cA ad shM 22 z) H → va_S (gA ad 22) s.heap H locs → lv_has ls 4 [(2, .int x2), (3, .int x3)] → W p l e (headSpec wsX11_letterOf (gRm 0 0)).room s m ([.int a0, .int a1] : List Value).toArray below meth c H locs 0 0 (MQ below (va_Qi (fun r u => (r, u) = (res, z)) (gPr D cA ad tw shM 22) (gA ad 22)) ([.int a0, .int a1] : List Value).toArray s 0 0 (gA ad 22)) (F0 m 4 ls []) := by
    intro n
    induction n with
    | zero => intro x2 x3 H locs ls h; exact (gno h).elim
    | succ n hK4 =>
      intro x2 x3 H locs ls h hP hS hl
      replace h : f_X11_letterOf_4_b z (f_X11_letterOf_4 z n) x2 x3 = some res := h
      unfold f_X11_letterOf_4_b at h
      refine lv_iload_n hx hb dX11_letterOf_4 rfl (lv_at hl 1 rfl) ?_
      refine lv_iconst (v := (nI 5)) hx hb dX11_letterOf_5 (by decide) ?_
      refine lv_icmp_ge (tgt := 20) hx hb dX11_letterOf_6 (by decide) (fun c1 => ?_) (fun c1 => ?_)
      · replace h := gif_t h c1
        refine lv_iload_n hx hb dX11_letterOf_20 rfl (lv_at hl 0 rfl) ?_
        refine lv_bipush (v := (nI 27)) hx hb dX11_letterOf_21 (by decide) ?_
        refine lv_irem hx hb dX11_letterOf_23 (by decide) ?_
        exact fw_ireti hx hb hr hlocks (congrArg (fun q => (q, z)) (Option.some.inj h)) hK hZ hP hS dX11_letterOf_24
      · replace h := gif_f h c1
        refine lv_iload_n hx hb dX11_letterOf_9 rfl (lv_at hl 0 rfl) ?_
        refine lv_bipush (v := (nI 27)) hx hb dX11_letterOf_10 (by decide) ?_
        refine lv_idiv hx hb dX11_letterOf_12 (by decide) ?_
        refine lv_topi (fun y2 ey2 => ?_)
        replace h := gl_s h ey2
        refine lv_istore_n (lv' := [(2, .int y2), (3, .int x3)]) hx hb dX11_letterOf_13 rfl hl (by decide) rfl (fun ls hl => ?_)
        refine lv_iinc (v := x3 + (nI 1)) (lv' := [(3, .int (x3 + (nI 1))), (2, .int y2)]) hx hb dX11_letterOf_14 hl (k := 1) rfl rfl (by decide) rfl (fun ls hl => ?_)
        refine lv_goto (tgt := 4) hx hb dX11_letterOf_17 (by decide) ?_
        exact hK4 y2 (x3 + (nI 1)) _ _ ls h hP hS (lv_sub hl [1, 0] rfl)
  unfold f_X11_letterOf at h
  refine lv_iload_n hx hb dX11_letterOf_0 rfl (lv_at hl 0 rfl) ?_
  refine lv_istore_n (lv' := [(2, .int a0), (0, .int a0), (1, .int a1)]) hx hb dX11_letterOf_1 rfl hl (by decide) rfl (fun ls hl => ?_)
  refine lv_iload_n hx hb dX11_letterOf_2 rfl (lv_at hl 2 rfl) ?_
  refine lv_istore_n (lv' := [(3, .int a1), (2, .int a0), (0, .int a0), (1, .int a1)]) hx hb dX11_letterOf_3 rfl hl (by decide) rfl (fun ls hl => ?_)
  exact j4  gF a0 a1 _ _ ls h hP hS (lv_sub hl [1, 0] rfl)
theorem hdS_X11_lettersOf : yX11_lettersOf.cls ≠ "java/lang/invoke/MethodHandle" ∧ yX11_lettersOf.cls ≠ "java/lang/invoke/VarHandle" ∧ (parseMethodDescriptor yX11_lettersOf.desc).map (fun d => d.parameters.length) = some 1 := by decide +kernel
set_option maxHeartbeats 4000000 in
set_option maxRecDepth 100000 in
theorem k_X11_lettersOf (l : Launch) (D : va_G) (cA : Nat → ClassId) (ad : Nat → Nat) (tw : Nat) (hG : gOk ad 22) (z : gS) (a0 : Int32) (res : Int32) (h : f_X11_lettersOf a0 z = some res) : gMi l yX11_lettersOf wsX11_lettersOf (gRm 1 23) D cA ad tw shM 22 [.int a0] z (res, z) := by
  refine Met.ofW (cc := cX11_lettersOf) (maxL := 2) (ret := (some .int)) (by decide) rfl ?_
  intro p e s m args below meth c s₁ B hml hv
  obtain ⟨rfl, hP, hK, hZ⟩ := hv
  have hx := B.exec
  have hb := B.bytes
  have hr := B.returns
  have hts := atoms_spec (ws := wsX11_lettersOf) B.pre
  have hown : s.vm.findClass RX11 = some m.cls := findClass_of_methodNamed B.named
  have hlocks := B.notSynchronized
  have hS : va_S (gA ad 22) s.heap s.heap [] := va_S.rf
  have hl := lv_entry ([.int a0]) (n := 2) (Nat.le_of_ble_eq_true rfl)
  rw [lg_entry_eq]
  generalize (lg_sl ([.int a0]) ++ List.replicate (2 - (lg_sl ([.int a0])).length) Slot.unset).toArray = ls at hl ⊢
  have hl : lv_has ls 2 [(0, .int a0)] := hl
  have j2 : ∀ (x0 : Int32) (n : Nat) (x1 : Int32) (H : Heap) (locs : List Loc) (ls : Array Slot), f_X11_lettersOf_2 z x0 n x1 = some res → va_P D vwCl (gw cA ad shM 22 z) H → va_S (gA ad 22) s.heap H locs → lv_has ls 2 [(0, .int x0), (1, .int x1)] → W p l e (headSpec wsX11_lettersOf (gRm 1 23)).room s m ([.int a0] : List Value).toArray below meth c H locs 0 0 (MQ below (va_Qi (fun r u => (r, u) = (res, z)) (gPr D cA ad tw shM 22) (gA ad 22)) ([.int a0] : List Value).toArray s 0 0 (gA ad 22)) (F0 m 2 ls []) := by
    intro x0 n
    induction n with
    | zero => intro x1 H locs ls h; exact (gno h).elim
    | succ n hK2 =>
      intro x1 H locs ls h hP hS hl
      replace h : f_X11_lettersOf_2_b z x0 (f_X11_lettersOf_2 z x0 n) x1 = some res := h
      unfold f_X11_lettersOf_2_b at h
      refine lv_iload_n hx hb dX11_lettersOf_2 rfl (lv_at hl 1 rfl) ?_
      refine lv_bipush (v := (nI 6)) hx hb dX11_lettersOf_3 (by decide) ?_
      refine lv_icmp_ge (tgt := 22) hx hb dX11_lettersOf_5 (by decide) (fun c1 => ?_) (fun c1 => ?_)
      · replace h := gif_t h c1
        refine lv_iload_n hx hb dX11_lettersOf_22 rfl (lv_at hl 1 rfl) ?_
        exact fw_ireti hx hb hr hlocks (congrArg (fun q => (q, z)) (Option.some.inj h)) hK hZ hP hS dX11_lettersOf_23
      · replace h := gif_f h c1
        refine lv_iload_n hx hb dX11_lettersOf_8 rfl (lv_at hl 0 rfl) ?_
        refine lv_iload_n hx hb dX11_lettersOf_9 rfl (lv_at hl 1 rfl) ?_
        obtain ⟨q2, hq2, h⟩ := gb_s h
        refine fw_siR (As := [.int x0, .int x1]) (rest := []) ⟨hx, hb, hml, hown, hts⟩ (k_X11_letterOf l D cA ad tw hG z x0 x1 q2 hq2) (va_cwS 2 hts gX11_lettersOf_X11_letterOf rfl rfl rfl hdS_X11_letterOf ⟨Nat.le_of_ble_eq_true rfl, Nat.le_of_ble_eq_true rfl⟩) hK hZ hP rfl hl _ rfl (Nat.le_of_ble_eq_true rfl) hS dX11_lettersOf_10 ⟨Nat.zero_le _, Nat.zero_le _⟩ (fun H locs hP hS => ?_)
        refine lv_if_le (tgt := 22) hx hb dX11_lettersOf_13 (by decide) (fun c3 => ?_) (fun c3 => ?_)
        · replace h := gif_t h c3
          refine lv_iload_n hx hb dX11_lettersOf_22 rfl (lv_at hl 1 rfl) ?_
          exact fw_ireti hx hb hr hlocks (congrArg (fun q => (q, z)) (Option.some.inj h)) hK hZ hP hS dX11_lettersOf_23
        · replace h := gif_f h c3
          refine lv_iinc (v := x1 + (nI 1)) (lv' := [(1, .int (x1 + (nI 1))), (0, .int x0)]) hx hb dX11_lettersOf_16 hl (k := 1) rfl rfl (by decide) rfl (fun ls hl => ?_)
          refine lv_goto (tgt := 2) hx hb dX11_lettersOf_19 (by decide) ?_
          exact hK2 (x1 + (nI 1)) _ _ ls h hP hS (lv_sub hl [1, 0] rfl)
  unfold f_X11_lettersOf at h
  refine lv_iconst (v := (nI 0)) hx hb dX11_lettersOf_0 (by decide) ?_
  refine lv_istore_n (lv' := [(1, .int (nI 0)), (0, .int a0)]) hx hb dX11_lettersOf_1 rfl hl (by decide) rfl (fun ls hl => ?_)
  exact j2 a0 gF (nI 0) _ _ ls h hP hS (lv_sub hl [1, 0] rfl)
theorem in_X11_gravesWith_X11 : ∀ w ∈ wsX110, w ∈ wsX11_gravesWith := fun w h => List.mem_cons_of_mem _ (List.mem_append_right _ (h))
theorem hdV_X11_gravesWith : yX11_gravesWith.cls = RX11 ∧ yX11_gravesWith.cls ≠ "java/lang/invoke/MethodHandle" ∧ yX11_gravesWith.cls ≠ "java/lang/invoke/VarHandle" ∧ (parseMethodDescriptor yX11_gravesWith.desc).map (fun d => d.parameters.length) = some 1 := by decide +kernel
set_option maxHeartbeats 4000000 in
set_option maxRecDepth 100000 in
theorem k_X11_gravesWith (l : Launch) (D : va_G) (cA : Nat → ClassId) (ad : Nat → Nat) (tw : Nat) (hG : gOk ad 22) (z : gS) (a1 : Int32) (res : Int32) (h : f_X11_gravesWith a1 z = some res) : gMi l yX11_gravesWith wsX11_gravesWith (gRm 0 0) D cA ad tw shM 22 [.ref (ad 0), .int a1] z (res, z) := by
  refine Met.ofW (cc := cX11_gravesWith) (maxL := 4) (ret := (some .int)) (by decide) rfl ?_
  intro p e s m args below meth c s₁ B hml hv
  obtain ⟨rfl, hP, hK, hZ⟩ := hv
  have hx := B.exec
  have hb := B.bytes
  have hr := B.returns
  have hts := atoms_spec (ws := wsX11_gravesWith) B.pre
  have hown : s.vm.findClass RX11 = some m.cls := findClass_of_methodNamed B.named
  have hlocks := B.notSynchronized
  have hS : va_S (gA ad 22) s.heap s.heap [] := va_S.rf
  have hl := lv_entry ([.ref (ad 0), .int a1]) (n := 4) (Nat.le_of_ble_eq_true rfl)
  rw [lg_entry_eq]
  generalize (lg_sl ([.ref (ad 0), .int a1]) ++ List.replicate (4 - (lg_sl ([.ref (ad 0), .int a1])).length) Slot.unset).toArray = ls at hl ⊢
  have hl : lv_has ls 4 [(0, .ref (ad 0)), (1, .int a1)] := hl
  have j4 : ∀ (x1 : Int32) (n : Nat) (x2 : Int32) (x3 : Int32) (H : Heap) (locs : List Loc) (ls : Array Slot), f_X11_gravesWith_4 z x1 n x2 x3 = some res → va_P D vwCl (gw cA ad shM 22 z) H → va_S (gA ad 22) s.heap H locs → lv_has ls 4 [(0, .ref (ad 0)), (1, .int x1), (2, .int x2), (3, .int x3)] → W p l e (headSpec wsX11_gravesWith (gRm 0 0)).room s m ([.ref (ad 0), .int a1] : List Value).toArray below meth c H locs 0 0 (MQ below (va_Qi (fun r u => (r, u) = (res, z)) (gPr D cA ad tw shM 22) (gA ad 22)) ([.ref (ad 0), .int a1] : List Value).toArray s 0 0 (gA ad 22)) (F0 m 4 ls []) := by
    intro x1 n
    induction n with
    | zero => intro x2 x3 H locs ls h; exact (gno h).elim
    | succ n hK4 =>
      intro x2 x3 H locs ls h hP hS hl
      replace h : f_X11_gravesWith_4_b z x1 (f_X11_gravesWith_4 z x1 n) x2 x3 = some res := h
      unfold f_X11_gravesWith_4_b at h
      refine lv_iload_n hx hb dX11_gravesWith_4 rfl (lv_at hl 3 rfl) ?_
      refine lv_aload_n hx hb dX11_gravesWith_5 rfl (lv_at hl 0 rfl) ?_
      refine fw_geti hx hb hts in_X11_gravesWith_X11 hown hK hP gF11.1.1 gF11.1.2 rfl 1 (by decide) rfl (hts _ (List.mem_of_getElem? (i := 1) rfl)) rfl dX11_gravesWith_6 ?_
      refine lv_icmp_ge (tgt := 33) hx hb dX11_gravesWith_9 (by decide) (fun c1 => ?_) (fun c1 => ?_)
      · replace h := gif_t h c1
        refine lv_iload_n hx hb dX11_gravesWith_33 rfl (lv_at hl 2 rfl) ?_
        exact fw_ireti hx hb hr hlocks (congrArg (fun q => (q, z)) (Option.some.inj h)) hK hZ hP hS dX11_gravesWith_34
      · replace h := gif_f h c1
        refine lv_iload_n hx hb dX11_gravesWith_12 rfl (lv_at hl 2 rfl) ?_
        refine lv_aload_n hx hb dX11_gravesWith_13 rfl (lv_at hl 0 rfl) ?_
        refine fw_getr hx hb hts in_X11_gravesWith_X11 hown hK hP gF11.1.1 gF11.1.2 rfl 4 (by decide) rfl (hts _ (List.mem_of_getElem? (i := 2) rfl)) rfl dX11_gravesWith_14 ?_
        refine lv_iload_n hx hb dX11_gravesWith_17 rfl (lv_at hl 3 rfl) ?_
        obtain ⟨h2, h⟩ := gg_s h
        refine fw_iald hx hb hK hP gF11.2.2.1.1 gF11.2.2.1.2 h2 dX11_gravesWith_18 ?_
        refine lv_iload_n hx hb dX11_gravesWith_19 rfl (lv_at hl 1 rfl) ?_
        refine lv_ishr hx hb dX11_gravesWith_20 ?_
        refine lv_iconst (v := (nI 1)) hx hb dX11_gravesWith_21 (by decide) ?_
        refine lv_iand hx hb dX11_gravesWith_22 ?_
        refine lv_iload_n hx hb dX11_gravesWith_23 rfl (lv_at hl 3 rfl) ?_
        refine lv_ishl hx hb dX11_gravesWith_24 ?_
        refine lv_ior hx hb dX11_gravesWith_25 ?_
        refine lv_topi (fun y3 ey3 => ?_)
        replace h := gl_s h ey3
        refine lv_istore_n (lv' := [(2, .int y3), (0, .ref (ad 0)), (1, .int x1), (3, .int x3)]) hx hb dX11_gravesWith_26 rfl hl (by decide) rfl (fun ls hl => ?_)
        refine lv_iinc (v := x3 + (nI 1)) (lv' := [(3, .int (x3 + (nI 1))), (2, .int y3), (0, .ref (ad 0)), (1, .int x1)]) hx hb dX11_gravesWith_27 hl (k := 3) rfl rfl (by decide) rfl (fun ls hl => ?_)
        refine lv_goto (tgt := 4) hx hb dX11_gravesWith_30 (by decide) ?_
        exact hK4 y3 (x3 + (nI 1)) _ _ ls h hP hS (lv_sub hl [2, 3, 1, 0] rfl)
  unfold f_X11_gravesWith at h
  refine lv_iconst (v := (nI 0)) hx hb dX11_gravesWith_0 (by decide) ?_
  refine lv_istore_n (lv' := [(2, .int (nI 0)), (0, .ref (ad 0)), (1, .int a1)]) hx hb dX11_gravesWith_1 rfl hl (by decide) rfl (fun ls hl => ?_)
  refine lv_iconst (v := (nI 0)) hx hb dX11_gravesWith_2 (by decide) ?_
  refine lv_istore_n (lv' := [(3, .int (nI 0)), (2, .int (nI 0)), (0, .ref (ad 0)), (1, .int a1)]) hx hb dX11_gravesWith_3 rfl hl (by decide) rfl (fun ls hl => ?_)
  exact j4 a1 gF (nI 0) (nI 0) _ _ ls h hP hS (lv_sub hl [2, 3, 1, 0] rfl)
theorem in_X11_type_X11 : ∀ w ∈ wsX110, w ∈ wsX11_type := fun w h => List.mem_cons_of_mem _ (List.mem_append_right _ (h))
theorem hdV_X11_type : yX11_type.cls = RX11 ∧ yX11_type.cls ≠ "java/lang/invoke/MethodHandle" ∧ yX11_type.cls ≠ "java/lang/invoke/VarHandle" ∧ (parseMethodDescriptor yX11_type.desc).map (fun d => d.parameters.length) = some 2 := by decide +kernel
set_option maxHeartbeats 4000000 in
set_option maxRecDepth 100000 in
theorem k_X11_type (l : Launch) (D : va_G) (cA : Nat → ClassId) (ad : Nat → Nat) (tw : Nat) (hG : gOk ad 22) (z : gS) (a1 : Int32) (a2 : Int32) (res : Int32) (h : f_X11_type a1 a2 z = some res) : gMi l yX11_type wsX11_type (gRm 2 44) D cA ad tw shM 22 [.ref (ad 0), .int a1, .int a2] z (res, z) := by
  refine Met.ofW (cc := cX11_type) (maxL := 4) (ret := (some .int)) (by decide) rfl ?_
  intro p e s m args below meth c s₁ B hml hv
  obtain ⟨rfl, hP, hK, hZ⟩ := hv
  have hx := B.exec
  have hb := B.bytes
  have hr := B.returns
  have hts := atoms_spec (ws := wsX11_type) B.pre
  have hown : s.vm.findClass RX11 = some m.cls := findClass_of_methodNamed B.named
  have hlocks := B.notSynchronized
  have hS : va_S (gA ad 22) s.heap s.heap [] := va_S.rf
  have hl := lv_entry ([.ref (ad 0), .int a1, .int a2]) (n := 4) (Nat.le_of_ble_eq_true rfl)
  rw [lg_entry_eq]
  generalize (lg_sl ([.ref (ad 0), .int a1, .int a2]) ++ List.replicate (4 - (lg_sl ([.ref (ad 0), .int a1, .int a2])).length) Slot.unset).toArray = ls at hl ⊢
  have hl : lv_has ls 4 [(0, .ref (ad 0)), (1, .int a1), (2, .int a2)] := hl
  unfold f_X11_type at h
  refine lv_aload_n hx hb dX11_type_0 rfl (lv_at hl 0 rfl) ?_
  refine lv_iload_n hx hb dX11_type_1 rfl (lv_at hl 1 rfl) ?_
  obtain ⟨q1, hq1, h⟩ := gb_s h
  refine fw_viR (As := [.int a1]) (rest := []) ⟨hx, hb, hml, hown, hts⟩ (k_X11_isType l D cA ad tw hG z a1 q1 hq1) (cwV 1 hts gX11_type_X11_isType rfl rfl rfl hdV_X11_isType ⟨Nat.le_of_ble_eq_true rfl, Nat.le_of_ble_eq_true rfl⟩) (fw_preV gF11.1.1 gF11.1.2 rfl rfl hK hZ hP hS) rfl hl _ rfl (Nat.le_of_ble_eq_true rfl) hS dX11_type_2 ⟨Nat.zero_le _, Nat.zero_le _⟩ (fun H locs hP hS => ?_)
  refine lv_if_eq (tgt := 18) hx hb dX11_type_5 (by decide) (fun c2 => ?_) (fun c2 => ?_)
  · replace h := gif_t h c2
    refine lv_iconst (v := gm1) hx hb dX11_type_18 (by decide) ?_
    exact fw_ireti hx hb hr hlocks (congrArg (fun q => (q, z)) (Option.some.inj h)) hK hZ hP hS dX11_type_19
  · replace h := gif_f h c2
    refine lv_iload_n hx hb dX11_type_8 rfl (lv_at hl 2 rfl) ?_
    refine lv_iconst (v := (nI 0)) hx hb dX11_type_9 (by decide) ?_
    refine lv_bipush (v := (nI 7)) hx hb dX11_type_10 (by decide) ?_
    obtain ⟨q3, hq3, h⟩ := gb_s h
    refine fw_siR (As := [.int a2, .int (nI 0), .int (nI 7)]) (rest := []) ⟨hx, hb, hml, hown, hts⟩ (k_X11_in l D cA ad tw hG z a2 (nI 0) (nI 7) q3 hq3) (va_cwS 3 hts gX11_type_X11_in rfl rfl rfl hdS_X11_in ⟨Nat.le_of_ble_eq_true rfl, Nat.le_of_ble_eq_true rfl⟩) hK hZ hP rfl hl _ rfl (Nat.le_of_ble_eq_true rfl) hS dX11_type_12 ⟨Nat.zero_le _, Nat.zero_le _⟩ (fun H locs hP hS => ?_)
    refine lv_if_ne (tgt := 20) hx hb dX11_type_15 (by decide) (fun c4 => ?_) (fun c4 => ?_)
    · replace h := gif_f h c4
      refine lv_iload_n hx hb dX11_type_20 rfl (lv_at hl 2 rfl) ?_
      refine lv_if_ne (tgt := 30) hx hb dX11_type_21 (by decide) (fun c5 => ?_) (fun c5 => ?_)
      · replace h := gif_f h c5
        refine lv_iload_n hx hb dX11_type_30 rfl (lv_at hl 2 rfl) ?_
        refine lv_iconst (v := (nI 1)) hx hb dX11_type_31 (by decide) ?_
        refine lv_icmp_ne (tgt := 45) hx hb dX11_type_32 (by decide) (fun c6 => ?_) (fun c6 => ?_)
        · replace h := gif_f h c6
          refine lv_aload_n hx hb dX11_type_45 rfl (lv_at hl 0 rfl) ?_
          refine fw_getr hx hb hts in_X11_type_X11 hown hK hP gF11.1.1 gF11.1.2 rfl 5 (by decide) rfl (hts _ (List.mem_of_getElem? (i := 1) rfl)) rfl dX11_type_46 ?_
          refine lv_iload_n hx hb dX11_type_49 rfl (lv_at hl 1 rfl) ?_
          obtain ⟨h7, h⟩ := gg_s h
          refine fw_iald hx hb hK hP gF11.2.2.2.1.1 gF11.2.2.2.1.2 h7 dX11_type_50 ?_
          refine lv_iload_n hx hb dX11_type_51 rfl (lv_at hl 2 rfl) ?_
          refine lv_iconst (v := (nI 2)) hx hb dX11_type_52 (by decide) ?_
          refine lv_isub hx hb dX11_type_53 ?_
          obtain ⟨q8, hq8, h⟩ := gb_s h
          refine fw_siR (As := [.int (z 3 a1.toNatClampNeg), .int (a2 - (nI 2))]) (rest := []) ⟨hx, hb, hml, hown, hts⟩ (k_X11_letterOf l D cA ad tw hG z (z 3 a1.toNatClampNeg) (a2 - (nI 2)) q8 hq8) (va_cwS 2 hts gX11_type_X11_letterOf rfl rfl rfl hdS_X11_letterOf ⟨Nat.le_of_ble_eq_true rfl, Nat.le_of_ble_eq_true rfl⟩) hK hZ hP rfl hl _ rfl (Nat.le_of_ble_eq_true rfl) hS dX11_type_54 ⟨Nat.zero_le _, Nat.zero_le _⟩ (fun H locs hP hS => ?_)
          refine lv_istore_n (lv' := [(3, .int q8), (0, .ref (ad 0)), (1, .int a1), (2, .int a2)]) hx hb dX11_type_57 rfl hl (by decide) rfl (fun ls hl => ?_)
          refine lv_iload_n hx hb dX11_type_58 rfl (lv_at hl 0 rfl) ?_
          refine lv_if_ne (tgt := 66) hx hb dX11_type_59 (by decide) (fun c9 => ?_) (fun c9 => ?_)
          · replace h := gif_f h c9
            refine lv_bipush (v := (nI 97)) hx hb dX11_type_66 (by decide) ?_
            refine lv_iload_n hx hb dX11_type_68 rfl (lv_at hl 0 rfl) ?_
            refine lv_iadd hx hb dX11_type_69 ?_
            refine lv_iconst (v := (nI 1)) hx hb dX11_type_70 (by decide) ?_
            refine lv_isub hx hb dX11_type_71 ?_
            exact fw_ireti hx hb hr hlocks (congrArg (fun q => (q, z)) (Option.some.inj h)) hK hZ hP hS dX11_type_72
          · replace h := gif_t h c9
            refine lv_iconst (v := gm1) hx hb dX11_type_62 (by decide) ?_
            refine lv_goto (tgt := 72) hx hb dX11_type_63 (by decide) ?_
            exact fw_ireti hx hb hr hlocks (congrArg (fun q => (q, z)) (Option.some.inj h)) hK hZ hP hS dX11_type_72
        · replace h := gif_t h c6
          refine lv_aload_n hx hb dX11_type_35 rfl (lv_at hl 0 rfl) ?_
          refine fw_getr hx hb hts in_X11_type_X11 hown hK hP gF11.1.1 gF11.1.2 rfl 5 (by decide) rfl (hts _ (List.mem_of_getElem? (i := 1) rfl)) rfl dX11_type_36 ?_
          refine lv_iload_n hx hb dX11_type_39 rfl (lv_at hl 1 rfl) ?_
          obtain ⟨h10, h⟩ := gg_s h
          refine fw_iald hx hb hK hP gF11.2.2.2.1.1 gF11.2.2.2.1.2 h10 dX11_type_40 ?_
          obtain ⟨q11, hq11, h⟩ := gb_s h
          refine fw_siR (As := [.int (z 3 a1.toNatClampNeg)]) (rest := []) ⟨hx, hb, hml, hown, hts⟩ (k_X11_lettersOf l D cA ad tw hG z (z 3 a1.toNatClampNeg) q11 hq11) (va_cwS 1 hts gX11_type_X11_lettersOf rfl rfl rfl hdS_X11_lettersOf ⟨Nat.le_of_ble_eq_true rfl, Nat.le_of_ble_eq_true rfl⟩) hK hZ hP rfl hl _ rfl (Nat.le_of_ble_eq_true rfl) hS dX11_type_41 ⟨Nat.zero_le _, Nat.zero_le _⟩ (fun H locs hP hS => ?_)
          exact fw_ireti hx hb hr hlocks (congrArg (fun q => (q, z)) (Option.some.inj h)) hK hZ hP hS dX11_type_44
      · replace h := gif_t h c5
        refine lv_aload_n hx hb dX11_type_24 rfl (lv_at hl 0 rfl) ?_
        refine lv_iload_n hx hb dX11_type_25 rfl (lv_at hl 1 rfl) ?_
        obtain ⟨q12, hq12, h⟩ := gb_s h
        refine fw_viR (As := [.int a1]) (rest := []) ⟨hx, hb, hml, hown, hts⟩ (k_X11_gravesWith l D cA ad tw hG z a1 q12 hq12) (cwV 1 hts gX11_type_X11_gravesWith rfl rfl rfl hdV_X11_gravesWith ⟨Nat.le_of_ble_eq_true rfl, Nat.le_of_ble_eq_true rfl⟩) (fw_preV gF11.1.1 gF11.1.2 rfl rfl hK hZ hP hS) rfl hl _ rfl (Nat.le_of_ble_eq_true rfl) hS dX11_type_26 ⟨Nat.zero_le _, Nat.zero_le _⟩ (fun H locs hP hS => ?_)
        exact fw_ireti hx hb hr hlocks (congrArg (fun q => (q, z)) (Option.some.inj h)) hK hZ hP hS dX11_type_29
    · replace h := gif_t h c4
      refine lv_iconst (v := gm1) hx hb dX11_type_18 (by decide) ?_
      exact fw_ireti hx hb hr hlocks (congrArg (fun q => (q, z)) (Option.some.inj h)) hK hZ hP hS dX11_type_19
theorem in_X11_drop_X11 : ∀ w ∈ wsX110, w ∈ wsX11_drop := fun w h => List.mem_cons_of_mem _ (List.mem_append_right _ (h))
theorem hdV_X11_drop : yX11_drop.cls = RX11 ∧ yX11_drop.cls ≠ "java/lang/invoke/MethodHandle" ∧ yX11_drop.cls ≠ "java/lang/invoke/VarHandle" ∧ (parseMethodDescriptor yX11_drop.desc).map (fun d => d.parameters.length) = some 1 := by decide +kernel
set_option maxHeartbeats 4000000 in
set_option maxRecDepth 100000 in
theorem k_X11_drop (l : Launch) (D : va_G) (cA : Nat → ClassId) (ad : Nat → Nat) (tw : Nat) (hG : gOk ad 22) (z : gS) (a1 : Int32) (res : Int32 × gS) (h : f_X11_drop a1 z = some res) : gMi l yX11_drop wsX11_drop (gRm 2 43) D cA ad tw shM 22 [.ref (ad 0), .int a1] z res := by
  refine Met.ofW (cc := cX11_drop) (maxL := 3) (ret := (some .int)) (by decide) rfl ?_
  intro p e s m args below meth c s₁ B hml hv
  obtain ⟨rfl, hP, hK, hZ⟩ := hv
  have hx := B.exec
  have hb := B.bytes
  have hr := B.returns
  have hts := atoms_spec (ws := wsX11_drop) B.pre
  have hown : s.vm.findClass RX11 = some m.cls := findClass_of_methodNamed B.named
  have hlocks := B.notSynchronized
  have hS : va_S (gA ad 22) s.heap s.heap [] := va_S.rf
  have hl := lv_entry ([.ref (ad 0), .int a1]) (n := 3) (Nat.le_of_ble_eq_true rfl)
  rw [lg_entry_eq]
  generalize (lg_sl ([.ref (ad 0), .int a1]) ++ List.replicate (3 - (lg_sl ([.ref (ad 0), .int a1])).length) Slot.unset).toArray = ls at hl ⊢
  have hl : lv_has ls 3 [(0, .ref (ad 0)), (1, .int a1)] := hl
  have j22 : ∀  (n : Nat) (x2 : Int32) (z : gS) (H : Heap) (locs : List Loc) (ls : Array Slot), f_X11_drop_22  n x2 z = some res → va_P D vwCl (gw cA ad shM 22 z) H → va_S (gA ad 22) s.heap H locs → lv_has ls 3 [(0, .ref (ad 0)), (2, .int x2)] → W p l e (headSpec wsX11_drop (gRm 2 43)).room s m ([.ref (ad 0), .int a1] : List Value).toArray below meth c H locs 0 0 (MQ below (va_Qi (fun r u => (r, u) = res) (gPr D cA ad tw shM 22) (gA ad 22)) ([.ref (ad 0), .int a1] : List Value).toArray s 0 0 (gA ad 22)) (F0 m 22 ls []) := by
    intro n
    induction n with
    | zero => intro x2 z H locs ls h; exact (gno h).elim
    | succ n hK22 =>
      intro x2 z H locs ls h hP hS hl
      replace h : f_X11_drop_22_b  (f_X11_drop_22  n) x2 z = some res := h
      unfold f_X11_drop_22_b at h
      refine lv_iload_n hx hb dX11_drop_22 rfl (lv_at hl 1 rfl) ?_
      refine lv_aload_n hx hb dX11_drop_23 rfl (lv_at hl 0 rfl) ?_
      refine fw_geti hx hb hts in_X11_drop_X11 hown hK hP gF11.1.1 gF11.1.2 rfl 1 (by decide) rfl (hts _ (List.mem_of_getElem? (i := 1) rfl)) rfl dX11_drop_24 ?_
      refine lv_icmp_ge (tgt := 64) hx hb dX11_drop_27 (by decide) (fun c4 => ?_) (fun c4 => ?_)
      · replace h := gif_t h c4
        refine lv_aload_n hx hb dX11_drop_64 rfl (lv_at hl 0 rfl) ?_
        refine fw_geti hx hb hts in_X11_drop_X11 hown hK hP gF11.1.1 gF11.1.2 rfl 1 (by decide) rfl (hts _ (List.mem_of_getElem? (i := 1) rfl)) rfl dX11_drop_65 ?_
        exact fw_ireti hx hb hr hlocks (Option.some.inj h) hK hZ hP hS dX11_drop_68
      · replace h := gif_f h c4
        refine lv_aload_n hx hb dX11_drop_30 rfl (lv_at hl 0 rfl) ?_
        refine fw_getr hx hb hts in_X11_drop_X11 hown hK hP gF11.1.1 gF11.1.2 rfl 3 (by decide) rfl (hts _ (List.mem_of_getElem? (i := 2) rfl)) rfl dX11_drop_31 ?_
        refine lv_iload_n hx hb dX11_drop_34 rfl (lv_at hl 1 rfl) ?_
        refine lv_aload_n hx hb dX11_drop_35 rfl (lv_at hl 0 rfl) ?_
        refine fw_getr hx hb hts in_X11_drop_X11 hown hK hP gF11.1.1 gF11.1.2 rfl 3 (by decide) rfl (hts _ (List.mem_of_getElem? (i := 2) rfl)) rfl dX11_drop_36 ?_
        refine lv_iload_n hx hb dX11_drop_39 rfl (lv_at hl 1 rfl) ?_
        refine lv_iconst (v := (nI 1)) hx hb dX11_drop_40 (by decide) ?_
        refine lv_iadd hx hb dX11_drop_41 ?_
        obtain ⟨h5, h⟩ := gg_s h
        refine fw_iald hx hb hK hP gF11.2.1.1 gF11.2.1.2 h5 dX11_drop_42 ?_
        obtain ⟨h6, h⟩ := gg_s h
        refine fw_iast hx hb hK hG hP hS gF11.2.1.1 gF11.2.1.2 h6 dX11_drop_43 (fun z7 H locs ez7 hP hS => ?_)
        replace h := gl_s h ez7
        refine lv_aload_n hx hb dX11_drop_44 rfl (lv_at hl 0 rfl) ?_
        refine fw_getr hx hb hts in_X11_drop_X11 hown hK hP gF11.1.1 gF11.1.2 rfl 4 (by decide) rfl (hts _ (List.mem_of_getElem? (i := 3) rfl)) rfl dX11_drop_45 ?_
        refine lv_iload_n hx hb dX11_drop_48 rfl (lv_at hl 1 rfl) ?_
        refine lv_aload_n hx hb dX11_drop_49 rfl (lv_at hl 0 rfl) ?_
        refine fw_getr hx hb hts in_X11_drop_X11 hown hK hP gF11.1.1 gF11.1.2 rfl 4 (by decide) rfl (hts _ (List.mem_of_getElem? (i := 3) rfl)) rfl dX11_drop_50 ?_
        refine lv_iload_n hx hb dX11_drop_53 rfl (lv_at hl 1 rfl) ?_
        refine lv_iconst (v := (nI 1)) hx hb dX11_drop_54 (by decide) ?_
        refine lv_iadd hx hb dX11_drop_55 ?_
        obtain ⟨h8, h⟩ := gg_s h
        refine fw_iald hx hb hK hP gF11.2.2.1.1 gF11.2.2.1.2 h8 dX11_drop_56 ?_
        obtain ⟨h9, h⟩ := gg_s h
        refine fw_iast hx hb hK hG hP hS gF11.2.2.1.1 gF11.2.2.1.2 h9 dX11_drop_57 (fun z10 H locs ez10 hP hS => ?_)
        replace h := gl_s h ez10
        refine lv_iinc (v := x2 + (nI 1)) (lv' := [(2, .int (x2 + (nI 1))), (0, .ref (ad 0))]) hx hb dX11_drop_58 hl (k := 1) rfl rfl (by decide) rfl (fun ls hl => ?_)
        refine lv_goto (tgt := 22) hx hb dX11_drop_61 (by decide) ?_
        exact hK22 (x2 + (nI 1)) z10 _ _ ls h hP hS (lv_sub hl [1, 0] rfl)
  unfold f_X11_drop at h
  refine lv_aload_n hx hb dX11_drop_0 rfl (lv_at hl 0 rfl) ?_
  refine lv_iload_n hx hb dX11_drop_1 rfl (lv_at hl 1 rfl) ?_
  obtain ⟨q1, hq1, h⟩ := gb_s h
  refine fw_viR (As := [.int a1]) (rest := []) ⟨hx, hb, hml, hown, hts⟩ (k_X11_isGrave l D cA ad tw hG z a1 q1 hq1) (cwV 1 hts gX11_drop_X11_isGrave rfl rfl rfl hdV_X11_isGrave ⟨Nat.le_of_ble_eq_true rfl, Nat.le_of_ble_eq_true rfl⟩) (fw_preV gF11.1.1 gF11.1.2 rfl rfl hK hZ hP hS) rfl hl _ rfl (Nat.le_of_ble_eq_true rfl) hS dX11_drop_2 ⟨Nat.zero_le _, Nat.zero_le _⟩ (fun H locs hP hS => ?_)
  refine lv_if_ne (tgt := 10) hx hb dX11_drop_5 (by decide) (fun c2 => ?_) (fun c2 => ?_)
  · replace h := gif_f h c2
    refine lv_aload_n hx hb dX11_drop_10 rfl (lv_at hl 0 rfl) ?_
    refine lv_dup hx hb dX11_drop_11 rfl ?_
    refine fw_geti hx hb hts in_X11_drop_X11 hown hK hP gF11.1.1 gF11.1.2 rfl 1 (by decide) rfl (hts _ (List.mem_of_getElem? (i := 1) rfl)) rfl dX11_drop_12 ?_
    refine lv_iconst (v := (nI 1)) hx hb dX11_drop_15 (by decide) ?_
    refine lv_isub hx hb dX11_drop_16 ?_
    refine fw_put hx hb hts in_X11_drop_X11 tyX11_ok nmX11 hown hK hG hP hS gF11.1.1 gF11.1.2 rfl 1 (by decide) rfl (hts _ (List.mem_of_getElem? (i := 1) rfl)) rfl rfl (ty := .int) rfl rfl rfl dX11_drop_17 (fun z3 H locs ez3 hP hS => ?_)
    replace h := gl_s h ez3
    refine lv_iload_n hx hb dX11_drop_20 rfl (lv_at hl 1 rfl) ?_
    refine lv_istore_n (lv' := [(2, .int a1), (0, .ref (ad 0)), (1, .int a1)]) hx hb dX11_drop_21 rfl hl (by decide) rfl (fun ls hl => ?_)
    exact j22  gF a1 z3 _ _ ls h hP hS (lv_sub hl [1, 0] rfl)
  · replace h := gif_t h c2
    refine lv_iconst (v := gm1) hx hb dX11_drop_8 (by decide) ?_
    exact fw_ireti hx hb hr hlocks (Option.some.inj h) hK hZ hP hS dX11_drop_9
theorem in_X11_partOf_X11 : ∀ w ∈ wsX110, w ∈ wsX11_partOf := fun w h => List.mem_cons_of_mem _ (List.mem_append_right _ (h))
theorem hdV_X11_partOf : yX11_partOf.cls = RX11 ∧ yX11_partOf.cls ≠ "java/lang/invoke/MethodHandle" ∧ yX11_partOf.cls ≠ "java/lang/invoke/VarHandle" ∧ (parseMethodDescriptor yX11_partOf.desc).map (fun d => d.parameters.length) = some 1 := by decide +kernel
set_option maxHeartbeats 4000000 in
set_option maxRecDepth 100000 in
theorem k_X11_partOf (l : Launch) (D : va_G) (cA : Nat → ClassId) (ad : Nat → Nat) (tw : Nat) (hG : gOk ad 22) (z : gS) (a1 : Int32) (res : Int32) (h : f_X11_partOf a1 z = some res) : gMi l yX11_partOf wsX11_partOf (gRm 1 21) D cA ad tw shM 22 [.ref (ad 0), .int a1] z (res, z) := by
  refine Met.ofW (cc := cX11_partOf) (maxL := 6) (ret := (some .int)) (by decide) rfl ?_
  intro p e s m args below meth c s₁ B hml hv
  obtain ⟨rfl, hP, hK, hZ⟩ := hv
  have hx := B.exec
  have hb := B.bytes
  have hr := B.returns
  have hts := atoms_spec (ws := wsX11_partOf) B.pre
  have hown : s.vm.findClass RX11 = some m.cls := findClass_of_methodNamed B.named
  have hlocks := B.notSynchronized
  have hS : va_S (gA ad 22) s.heap s.heap [] := va_S.rf
  have hl := lv_entry ([.ref (ad 0), .int a1]) (n := 6) (Nat.le_of_ble_eq_true rfl)
  rw [lg_entry_eq]
  generalize (lg_sl ([.ref (ad 0), .int a1]) ++ List.replicate (6 - (lg_sl ([.ref (ad 0), .int a1])).length) Slot.unset).toArray = ls at hl ⊢
  have hl : lv_has ls 6 [(0, .ref (ad 0)), (1, .int a1)] := hl
  have j62 : ∀ (x3 : Int32) (x4 : Int32) (K6 : Int32 → Int32 → Option Int32) (hK6 : ∀ (x2' : Int32) (x3' : Int32) (H : Heap) (locs : List Loc) (ls : Array Slot), K6 x2' x3' = some res → va_P D vwCl (gw cA ad shM 22 z) H → va_S (gA ad 22) s.heap H locs → lv_has ls 6 [(0, .ref (ad 0)), (2, .int x2'), (3, .int x3')] → W p l e (headSpec wsX11_partOf (gRm 1 21)).room s m ([.ref (ad 0), .int a1] : List Value).toArray below meth c H locs 0 0 (MQ below (va_Qi (fun r u => (r, u) = (res, z)) (gPr D cA ad tw shM 22) (gA ad 22)) ([.ref (ad 0), .int a1] : List Value).toArray s 0 0 (gA ad 22)) (F0 m 6 ls [])) (n : Nat) (x2 : Int32) (x5 : Int32) (H : Heap) (locs : List Loc) (ls : Array Slot), f_X11_partOf_62 z x3 x4 K6 n x2 x5 = some res → va_P D vwCl (gw cA ad shM 22 z) H → va_S (gA ad 22) s.heap H locs → lv_has ls 6 [(0, .ref (ad 0)), (2, .int x2), (3, .int x3), (4, .int x4), (5, .int x5)] → W p l e (headSpec wsX11_partOf (gRm 1 21)).room s m ([.ref (ad 0), .int a1] : List Value).toArray below meth c H locs 0 0 (MQ below (va_Qi (fun r u => (r, u) = (res, z)) (gPr D cA ad tw shM 22) (gA ad 22)) ([.ref (ad 0), .int a1] : List Value).toArray s 0 0 (gA ad 22)) (F0 m 62 ls []) := by
    intro x3 x4 K6 hK6 n
    induction n with
    | zero => intro x2 x5 H locs ls h; exact (gno h).elim
    | succ n hK62 =>
      intro x2 x5 H locs ls h hP hS hl
      replace h : f_X11_partOf_62_b z x3 x4 K6 (f_X11_partOf_62 z x3 x4 K6 n) x2 x5 = some res := h
      unfold f_X11_partOf_62_b at h
      refine lv_iload hx hb dX11_partOf_62 (lv_at hl 4 rfl) ?_
      refine lv_aload_n hx hb dX11_partOf_64 rfl (lv_at hl 0 rfl) ?_
      refine fw_geti hx hb hts in_X11_partOf_X11 hown hK hP gF11.1.1 gF11.1.2 rfl 1 (by decide) rfl (hts _ (List.mem_of_getElem? (i := 1) rfl)) rfl dX11_partOf_65 ?_
      refine lv_icmp_ge (tgt := 101) hx hb dX11_partOf_68 (by decide) (fun c9 => ?_) (fun c9 => ?_)
      · replace h := gif_t h c9
        refine lv_goto (tgt := 6) hx hb dX11_partOf_101 (by decide) ?_
        exact hK6 x2 x3 _ _ ls h hP hS (lv_sub hl [0, 1, 2] rfl)
      · replace h := gif_f h c9
        refine lv_iload_n hx hb dX11_partOf_71 rfl (lv_at hl 1 rfl) ?_
        refine lv_aload_n hx hb dX11_partOf_72 rfl (lv_at hl 0 rfl) ?_
        refine fw_getr hx hb hts in_X11_partOf_X11 hown hK hP gF11.1.1 gF11.1.2 rfl 4 (by decide) rfl (hts _ (List.mem_of_getElem? (i := 2) rfl)) rfl dX11_partOf_73 ?_
        refine lv_iload hx hb dX11_partOf_76 (lv_at hl 4 rfl) ?_
        obtain ⟨h10, h⟩ := gg_s h
        refine fw_iald hx hb hK hP gF11.2.2.1.1 gF11.2.2.1.2 h10 dX11_partOf_78 ?_
        refine lv_iload hx hb dX11_partOf_79 (lv_at hl 3 rfl) ?_
        refine lv_iand hx hb dX11_partOf_81 ?_
        refine lv_if_eq (tgt := 92) hx hb dX11_partOf_82 (by decide) (fun c11 => ?_) (fun c11 => ?_)
        · replace h := gif_t h c11
          refine lv_iconst (v := (nI 0)) hx hb dX11_partOf_92 (by decide) ?_
          refine lv_ior hx hb dX11_partOf_93 ?_
          refine lv_topi (fun y12 ey12 => ?_)
          replace h := gl_s h ey12
          refine lv_istore_n (lv' := [(2, .int y12), (0, .ref (ad 0)), (3, .int x3), (4, .int x4), (5, .int x5)]) hx hb dX11_partOf_94 rfl hl (by decide) rfl (fun ls hl => ?_)
          refine lv_iinc (v := x5 + (nI 1)) (lv' := [(5, .int (x5 + (nI 1))), (2, .int y12), (0, .ref (ad 0)), (3, .int x3), (4, .int x4)]) hx hb dX11_partOf_95 hl (k := 4) rfl rfl (by decide) rfl (fun ls hl => ?_)
          refine lv_goto (tgt := 62) hx hb dX11_partOf_98 (by decide) ?_
          exact hK62 y12 (x5 + (nI 1)) _ _ ls h hP hS (lv_sub hl [2, 1, 3, 4, 0] rfl)
        · replace h := gif_f h c11
          refine lv_iconst (v := (nI 1)) hx hb dX11_partOf_85 (by decide) ?_
          refine lv_iload hx hb dX11_partOf_86 (lv_at hl 4 rfl) ?_
          refine lv_ishl hx hb dX11_partOf_88 ?_
          refine lv_goto (tgt := 93) hx hb dX11_partOf_89 (by decide) ?_
          refine lv_ior hx hb dX11_partOf_93 ?_
          refine lv_topi (fun y13 ey13 => ?_)
          replace h := gl_s h ey13
          refine lv_istore_n (lv' := [(2, .int y13), (0, .ref (ad 0)), (3, .int x3), (4, .int x4), (5, .int x5)]) hx hb dX11_partOf_94 rfl hl (by decide) rfl (fun ls hl => ?_)
          refine lv_iinc (v := x5 + (nI 1)) (lv' := [(5, .int (x5 + (nI 1))), (2, .int y13), (0, .ref (ad 0)), (3, .int x3), (4, .int x4)]) hx hb dX11_partOf_95 hl (k := 4) rfl rfl (by decide) rfl (fun ls hl => ?_)
          refine lv_goto (tgt := 62) hx hb dX11_partOf_98 (by decide) ?_
          exact hK62 y13 (x5 + (nI 1)) _ _ ls h hP hS (lv_sub hl [2, 1, 3, 4, 0] rfl)
  have j19 : ∀ (x2 : Int32) (x3 : Int32) (K6 : Int32 → Int32 → Option Int32) (hK6 : ∀ (x2' : Int32) (x3' : Int32) (H : Heap) (locs : List Loc) (ls : Array Slot), K6 x2' x3' = some res → va_P D vwCl (gw cA ad shM 22 z) H → va_S (gA ad 22) s.heap H locs → lv_has ls 6 [(0, .ref (ad 0)), (2, .int x2'), (3, .int x3')] → W p l e (headSpec wsX11_partOf (gRm 1 21)).room s m ([.ref (ad 0), .int a1] : List Value).toArray below meth c H locs 0 0 (MQ below (va_Qi (fun r u => (r, u) = (res, z)) (gPr D cA ad tw shM 22) (gA ad 22)) ([.ref (ad 0), .int a1] : List Value).toArray s 0 0 (gA ad 22)) (F0 m 6 ls [])) (n : Nat) (x4 : Int32) (x5 : Int32) (H : Heap) (locs : List Loc) (ls : Array Slot), f_X11_partOf_19 z x2 x3 K6 n x4 x5 = some res → va_P D vwCl (gw cA ad shM 22 z) H → va_S (gA ad 22) s.heap H locs → lv_has ls 6 [(0, .ref (ad 0)), (2, .int x2), (3, .int x3), (4, .int x4), (5, .int x5)] → W p l e (headSpec wsX11_partOf (gRm 1 21)).room s m ([.ref (ad 0), .int a1] : List Value).toArray below meth c H locs 0 0 (MQ below (va_Qi (fun r u => (r, u) = (res, z)) (gPr D cA ad tw shM 22) (gA ad 22)) ([.ref (ad 0), .int a1] : List Value).toArray s 0 0 (gA ad 22)) (F0 m 19 ls []) := by
    intro x2 x3 K6 hK6 n
    induction n with
    | zero => intro x4 x5 H locs ls h; exact (gno h).elim
    | succ n hK19 =>
      intro x4 x5 H locs ls h hP hS hl
      replace h : f_X11_partOf_19_b z x2 x3 K6 (f_X11_partOf_19 z x2 x3 K6 n) x4 x5 = some res := h
      unfold f_X11_partOf_19_b at h
      refine lv_iload hx hb dX11_partOf_19 (lv_at hl 4 rfl) ?_
      refine lv_aload_n hx hb dX11_partOf_21 rfl (lv_at hl 0 rfl) ?_
      refine fw_geti hx hb hts in_X11_partOf_X11 hown hK hP gF11.1.1 gF11.1.2 rfl 1 (by decide) rfl (hts _ (List.mem_of_getElem? (i := 1) rfl)) rfl dX11_partOf_22 ?_
      refine lv_icmp_ge (tgt := 59) hx hb dX11_partOf_25 (by decide) (fun c3 => ?_) (fun c3 => ?_)
      · replace h := gif_t h c3
        refine lv_iconst (v := (nI 0)) hx hb dX11_partOf_59 (by decide) ?_
        refine lv_istore (lv' := [(5, .int (nI 0)), (0, .ref (ad 0)), (2, .int x2), (3, .int x3), (4, .int x4)]) hx hb dX11_partOf_60 hl (by decide) rfl (fun ls hl => ?_)
        exact j62 x3 x4 _ hK6 gF x2 (nI 0) _ _ ls h hP hS (lv_sub hl [1, 2, 3, 4, 0] rfl)
      · replace h := gif_f h c3
        refine lv_iload hx hb dX11_partOf_28 (lv_at hl 3 rfl) ?_
        refine lv_iload_n hx hb dX11_partOf_30 rfl (lv_at hl 2 rfl) ?_
        refine lv_iload hx hb dX11_partOf_31 (lv_at hl 4 rfl) ?_
        obtain ⟨q4, hq4, h⟩ := gb_s h
        refine fw_siR (As := [.int x3, .int x5]) (rest := [.int x4]) ⟨hx, hb, hml, hown, hts⟩ (k_X11_has l D cA ad tw hG z x3 x5 q4 hq4) (va_cwS 2 hts gX11_partOf_X11_has rfl rfl rfl hdS_X11_has ⟨Nat.le_of_ble_eq_true rfl, Nat.le_of_ble_eq_true rfl⟩) hK hZ hP rfl hl _ rfl (Nat.le_of_ble_eq_true rfl) hS dX11_partOf_33 ⟨Nat.zero_le _, Nat.zero_le _⟩ (fun H locs hP hS => ?_)
        refine lv_if_eq (tgt := 49) hx hb dX11_partOf_36 (by decide) (fun c5 => ?_) (fun c5 => ?_)
        · replace h := gif_t h c5
          refine lv_iconst (v := (nI 0)) hx hb dX11_partOf_49 (by decide) ?_
          refine lv_ior hx hb dX11_partOf_50 ?_
          refine lv_topi (fun y6 ey6 => ?_)
          replace h := gl_s h ey6
          refine lv_istore (lv' := [(4, .int y6), (0, .ref (ad 0)), (2, .int x2), (3, .int x3), (5, .int x5)]) hx hb dX11_partOf_51 hl (by decide) rfl (fun ls hl => ?_)
          refine lv_iinc (v := x5 + (nI 1)) (lv' := [(5, .int (x5 + (nI 1))), (4, .int y6), (0, .ref (ad 0)), (2, .int x2), (3, .int x3)]) hx hb dX11_partOf_53 hl (k := 4) rfl rfl (by decide) rfl (fun ls hl => ?_)
          refine lv_goto (tgt := 19) hx hb dX11_partOf_56 (by decide) ?_
          exact hK19 y6 (x5 + (nI 1)) _ _ ls h hP hS (lv_sub hl [2, 3, 4, 1, 0] rfl)
        · replace h := gif_f h c5
          refine lv_aload_n hx hb dX11_partOf_39 rfl (lv_at hl 0 rfl) ?_
          refine fw_getr hx hb hts in_X11_partOf_X11 hown hK hP gF11.1.1 gF11.1.2 rfl 4 (by decide) rfl (hts _ (List.mem_of_getElem? (i := 2) rfl)) rfl dX11_partOf_40 ?_
          refine lv_iload hx hb dX11_partOf_43 (lv_at hl 4 rfl) ?_
          obtain ⟨h7, h⟩ := gg_s h
          refine fw_iald hx hb hK hP gF11.2.2.1.1 gF11.2.2.1.2 h7 dX11_partOf_45 ?_
          refine lv_goto (tgt := 50) hx hb dX11_partOf_46 (by decide) ?_
          refine lv_ior hx hb dX11_partOf_50 ?_
          refine lv_topi (fun y8 ey8 => ?_)
          replace h := gl_s h ey8
          refine lv_istore (lv' := [(4, .int y8), (0, .ref (ad 0)), (2, .int x2), (3, .int x3), (5, .int x5)]) hx hb dX11_partOf_51 hl (by decide) rfl (fun ls hl => ?_)
          refine lv_iinc (v := x5 + (nI 1)) (lv' := [(5, .int (x5 + (nI 1))), (4, .int y8), (0, .ref (ad 0)), (2, .int x2), (3, .int x3)]) hx hb dX11_partOf_53 hl (k := 4) rfl rfl (by decide) rfl (fun ls hl => ?_)
          refine lv_goto (tgt := 19) hx hb dX11_partOf_56 (by decide) ?_
          exact hK19 y8 (x5 + (nI 1)) _ _ ls h hP hS (lv_sub hl [2, 3, 4, 1, 0] rfl)
  have j6 : ∀  (n : Nat) (x2 : Int32) (x3 : Int32) (H : Heap) (locs : List Loc) (ls : Array Slot), f_X11_partOf_6 z n x2 x3 = some res → va_P D vwCl (gw cA ad shM 22 z) H → va_S (gA ad 22) s.heap H locs → lv_has ls 6 [(0, .ref (ad 0)), (2, .int x2), (3, .int x3)] → W p l e (headSpec wsX11_partOf (gRm 1 21)).room s m ([.ref (ad 0), .int a1] : List Value).toArray below meth c H locs 0 0 (MQ below (va_Qi (fun r u => (r, u) = (res, z)) (gPr D cA ad tw shM 22) (gA ad 22)) ([.ref (ad 0), .int a1] : List Value).toArray s 0 0 (gA ad 22)) (F0 m 6 ls []) := by
    intro n
    induction n with
    | zero => intro x2 x3 H locs ls h; exact (gno h).elim
    | succ n hK6 =>
      intro x2 x3 H locs ls h hP hS hl
      replace h : f_X11_partOf_6_b z (f_X11_partOf_6 z n) x2 x3 = some res := h
      unfold f_X11_partOf_6_b at h
      refine lv_iload_n hx hb dX11_partOf_6 rfl (lv_at hl 1 rfl) ?_
      refine lv_iload_n hx hb dX11_partOf_7 rfl (lv_at hl 2 rfl) ?_
      refine lv_icmp_eq (tgt := 104) hx hb dX11_partOf_8 (by decide) (fun c2 => ?_) (fun c2 => ?_)
      · replace h := gif_t h c2
        refine lv_iload_n hx hb dX11_partOf_104 rfl (lv_at hl 1 rfl) ?_
        exact fw_ireti hx hb hr hlocks (congrArg (fun q => (q, z)) (Option.some.inj h)) hK hZ hP hS dX11_partOf_105
      · replace h := gif_f h c2
        refine lv_iload_n hx hb dX11_partOf_11 rfl (lv_at hl 1 rfl) ?_
        refine lv_istore_n (lv' := [(3, .int x2), (0, .ref (ad 0)), (2, .int x2)]) hx hb dX11_partOf_12 rfl hl (by decide) rfl (fun ls hl => ?_)
        refine lv_iconst (v := (nI 0)) hx hb dX11_partOf_13 (by decide) ?_
        refine lv_istore (lv' := [(4, .int (nI 0)), (3, .int x2), (0, .ref (ad 0)), (2, .int x2)]) hx hb dX11_partOf_14 hl (by decide) rfl (fun ls hl => ?_)
        refine lv_iconst (v := (nI 0)) hx hb dX11_partOf_16 (by decide) ?_
        refine lv_istore (lv' := [(5, .int (nI 0)), (4, .int (nI 0)), (3, .int x2), (0, .ref (ad 0)), (2, .int x2)]) hx hb dX11_partOf_17 hl (by decide) rfl (fun ls hl => ?_)
        exact j19 x2 x2 _ hK6 gF (nI 0) (nI 0) _ _ ls h hP hS (lv_sub hl [3, 4, 2, 1, 0] rfl)
  unfold f_X11_partOf at h
  refine lv_iconst (v := (nI 1)) hx hb dX11_partOf_0 (by decide) ?_
  refine lv_iload_n hx hb dX11_partOf_1 rfl (lv_at hl 1 rfl) ?_
  refine lv_ishl hx hb dX11_partOf_2 ?_
  refine lv_topi (fun y1 ey1 => ?_)
  replace h := gl_s h ey1
  refine lv_istore_n (lv' := [(2, .int y1), (0, .ref (ad 0)), (1, .int a1)]) hx hb dX11_partOf_3 rfl hl (by decide) rfl (fun ls hl => ?_)
  refine lv_iconst (v := (nI 0)) hx hb dX11_partOf_4 (by decide) ?_
  refine lv_istore_n (lv' := [(3, .int (nI 0)), (2, .int y1), (0, .ref (ad 0)), (1, .int a1)]) hx hb dX11_partOf_5 rfl hl (by decide) rfl (fun ls hl => ?_)
  exact j6  gF y1 (nI 0) _ _ ls h hP hS (lv_sub hl [2, 1, 0] rfl)
theorem in_X11_parts_X11 : ∀ w ∈ wsX110, w ∈ wsX11_parts := fun w h => List.mem_cons_of_mem _ (List.mem_append_right _ (h))
theorem hdV_X11_parts : yX11_parts.cls = RX11 ∧ yX11_parts.cls ≠ "java/lang/invoke/MethodHandle" ∧ yX11_parts.cls ≠ "java/lang/invoke/VarHandle" ∧ (parseMethodDescriptor yX11_parts.desc).map (fun d => d.parameters.length) = some 0 := by decide +kernel
set_option maxHeartbeats 4000000 in
set_option maxRecDepth 100000 in
theorem k_X11_parts (l : Launch) (D : va_G) (cA : Nat → ClassId) (ad : Nat → Nat) (tw : Nat) (hG : gOk ad 22) (z : gS)  (res : Int32) (h : f_X11_parts  z = some res) : gMi l yX11_parts wsX11_parts (gRm 2 46) D cA ad tw shM 22 [.ref (ad 0)] z (res, z) := by
  refine Met.ofW (cc := cX11_parts) (maxL := 4) (ret := (some .int)) (by decide) rfl ?_
  intro p e s m args below meth c s₁ B hml hv
  obtain ⟨rfl, hP, hK, hZ⟩ := hv
  have hx := B.exec
  have hb := B.bytes
  have hr := B.returns
  have hts := atoms_spec (ws := wsX11_parts) B.pre
  have hown : s.vm.findClass RX11 = some m.cls := findClass_of_methodNamed B.named
  have hlocks := B.notSynchronized
  have hS : va_S (gA ad 22) s.heap s.heap [] := va_S.rf
  have hl := lv_entry ([.ref (ad 0)]) (n := 4) (Nat.le_of_ble_eq_true rfl)
  rw [lg_entry_eq]
  generalize (lg_sl ([.ref (ad 0)]) ++ List.replicate (4 - (lg_sl ([.ref (ad 0)])).length) Slot.unset).toArray = ls at hl ⊢
  have hl : lv_has ls 4 [(0, .ref (ad 0))] := hl
  have j6 : ∀  (n : Nat) (x1 : Int32) (x2 : Int32) (x3 : Int32) (H : Heap) (locs : List Loc) (ls : Array Slot), f_X11_parts_6 z n x1 x2 x3 = some res → va_P D vwCl (gw cA ad shM 22 z) H → va_S (gA ad 22) s.heap H locs → lv_has ls 4 [(0, .ref (ad 0)), (1, .int x1), (2, .int x2), (3, .int x3)] → W p l e (headSpec wsX11_parts (gRm 2 46)).room s m ([.ref (ad 0)] : List Value).toArray below meth c H locs 0 0 (MQ below (va_Qi (fun r u => (r, u) = (res, z)) (gPr D cA ad tw shM 22) (gA ad 22)) ([.ref (ad 0)] : List Value).toArray s 0 0 (gA ad 22)) (F0 m 6 ls []) := by
    intro n
    induction n with
    | zero => intro x1 x2 x3 H locs ls h; exact (gno h).elim
    | succ n hK6 =>
      intro x1 x2 x3 H locs ls h hP hS hl
      replace h : f_X11_parts_6_b z (f_X11_parts_6 z n) x1 x2 x3 = some res := h
      unfold f_X11_parts_6_b at h
      refine lv_iload_n hx hb dX11_parts_6 rfl (lv_at hl 3 rfl) ?_
      refine lv_aload_n hx hb dX11_parts_7 rfl (lv_at hl 0 rfl) ?_
      refine fw_geti hx hb hts in_X11_parts_X11 hown hK hP gF11.1.1 gF11.1.2 rfl 1 (by decide) rfl (hts _ (List.mem_of_getElem? (i := 1) rfl)) rfl dX11_parts_8 ?_
      refine lv_icmp_ge (tgt := 42) hx hb dX11_parts_11 (by decide) (fun c1 => ?_) (fun c1 => ?_)
      · replace h := gif_t h c1
        refine lv_iload_n hx hb dX11_parts_42 rfl (lv_at hl 2 rfl) ?_
        exact fw_ireti hx hb hr hlocks (congrArg (fun q => (q, z)) (Option.some.inj h)) hK hZ hP hS dX11_parts_43
      · replace h := gif_f h c1
        refine lv_iload_n hx hb dX11_parts_14 rfl (lv_at hl 1 rfl) ?_
        refine lv_iload_n hx hb dX11_parts_15 rfl (lv_at hl 3 rfl) ?_
        obtain ⟨q2, hq2, h⟩ := gb_s h
        refine fw_siR (As := [.int x1, .int x3]) (rest := []) ⟨hx, hb, hml, hown, hts⟩ (k_X11_has l D cA ad tw hG z x1 x3 q2 hq2) (va_cwS 2 hts gX11_parts_X11_has rfl rfl rfl hdS_X11_has ⟨Nat.le_of_ble_eq_true rfl, Nat.le_of_ble_eq_true rfl⟩) hK hZ hP rfl hl _ rfl (Nat.le_of_ble_eq_true rfl) hS dX11_parts_16 ⟨Nat.zero_le _, Nat.zero_le _⟩ (fun H locs hP hS => ?_)
        refine lv_if_eq (tgt := 25) hx hb dX11_parts_19 (by decide) (fun c3 => ?_) (fun c3 => ?_)
        · replace h := gif_t h c3
          refine lv_iload_n hx hb dX11_parts_25 rfl (lv_at hl 1 rfl) ?_
          refine lv_aload_n hx hb dX11_parts_26 rfl (lv_at hl 0 rfl) ?_
          refine lv_iload_n hx hb dX11_parts_27 rfl (lv_at hl 3 rfl) ?_
          obtain ⟨q4, hq4, h⟩ := gb_s h
          refine fw_viR (As := [.int x3]) (rest := [.int x1]) ⟨hx, hb, hml, hown, hts⟩ (k_X11_partOf l D cA ad tw hG z x3 q4 hq4) (cwV 1 hts gX11_parts_X11_partOf rfl rfl rfl hdV_X11_partOf ⟨Nat.le_of_ble_eq_true rfl, Nat.le_of_ble_eq_true rfl⟩) (fw_preV gF11.1.1 gF11.1.2 rfl rfl hK hZ hP hS) rfl hl _ rfl (Nat.le_of_ble_eq_true rfl) hS dX11_parts_28 ⟨Nat.zero_le _, Nat.zero_le _⟩ (fun H locs hP hS => ?_)
          refine lv_ior hx hb dX11_parts_31 ?_
          refine lv_topi (fun y5 ey5 => ?_)
          replace h := gl_s h ey5
          refine lv_istore_n (lv' := [(1, .int y5), (0, .ref (ad 0)), (2, .int x2), (3, .int x3)]) hx hb dX11_parts_32 rfl hl (by decide) rfl (fun ls hl => ?_)
          refine lv_iinc (v := x2 + (nI 1)) (lv' := [(2, .int (x2 + (nI 1))), (1, .int y5), (0, .ref (ad 0)), (3, .int x3)]) hx hb dX11_parts_33 hl (k := 2) rfl rfl (by decide) rfl (fun ls hl => ?_)
          refine lv_iinc (v := x3 + (nI 1)) (lv' := [(3, .int (x3 + (nI 1))), (2, .int (x2 + (nI 1))), (1, .int y5), (0, .ref (ad 0))]) hx hb dX11_parts_36 hl (k := 3) rfl rfl (by decide) rfl (fun ls hl => ?_)
          refine lv_goto (tgt := 6) hx hb dX11_parts_39 (by decide) ?_
          exact hK6 y5 (x2 + (nI 1)) (x3 + (nI 1)) _ _ ls h hP hS (lv_sub hl [3, 2, 1, 0] rfl)
        · replace h := gif_f h c3
          refine lv_goto (tgt := 36) hx hb dX11_parts_22 (by decide) ?_
          refine lv_iinc (v := x3 + (nI 1)) (lv' := [(3, .int (x3 + (nI 1))), (0, .ref (ad 0)), (1, .int x1), (2, .int x2)]) hx hb dX11_parts_36 hl (k := 3) rfl rfl (by decide) rfl (fun ls hl => ?_)
          refine lv_goto (tgt := 6) hx hb dX11_parts_39 (by decide) ?_
          exact hK6 x1 x2 (x3 + (nI 1)) _ _ ls h hP hS (lv_sub hl [1, 2, 3, 0] rfl)
  unfold f_X11_parts at h
  refine lv_iconst (v := (nI 0)) hx hb dX11_parts_0 (by decide) ?_
  refine lv_istore_n (lv' := [(1, .int (nI 0)), (0, .ref (ad 0))]) hx hb dX11_parts_1 rfl hl (by decide) rfl (fun ls hl => ?_)
  refine lv_iconst (v := (nI 0)) hx hb dX11_parts_2 (by decide) ?_
  refine lv_istore_n (lv' := [(2, .int (nI 0)), (1, .int (nI 0)), (0, .ref (ad 0))]) hx hb dX11_parts_3 rfl hl (by decide) rfl (fun ls hl => ?_)
  refine lv_iconst (v := (nI 0)) hx hb dX11_parts_4 (by decide) ?_
  refine lv_istore_n (lv' := [(3, .int (nI 0)), (2, .int (nI 0)), (1, .int (nI 0)), (0, .ref (ad 0))]) hx hb dX11_parts_5 rfl hl (by decide) rfl (fun ls hl => ?_)
  exact j6  gF (nI 0) (nI 0) (nI 0) _ _ ls h hP hS (lv_sub hl [3, 2, 1, 0] rfl)
theorem in_X11_bare_X11 : ∀ w ∈ wsX110, w ∈ wsX11_bare := fun w h => List.mem_cons_of_mem _ (List.mem_append_right _ (h))
theorem hdV_X11_bare : yX11_bare.cls = RX11 ∧ yX11_bare.cls ≠ "java/lang/invoke/MethodHandle" ∧ yX11_bare.cls ≠ "java/lang/invoke/VarHandle" ∧ (parseMethodDescriptor yX11_bare.desc).map (fun d => d.parameters.length) = some 0 := by decide +kernel
set_option maxHeartbeats 4000000 in
set_option maxRecDepth 100000 in
theorem k_X11_bare (l : Launch) (D : va_G) (cA : Nat → ClassId) (ad : Nat → Nat) (tw : Nat) (hG : gOk ad 22) (z : gS)  (res : Int32) (h : f_X11_bare  z = some res) : gMi l yX11_bare wsX11_bare (gRm 0 0) D cA ad tw shM 22 [.ref (ad 0)] z (res, z) := by
  refine Met.ofW (cc := cX11_bare) (maxL := 3) (ret := (some .int)) (by decide) rfl ?_
  intro p e s m args below meth c s₁ B hml hv
  obtain ⟨rfl, hP, hK, hZ⟩ := hv
  have hx := B.exec
  have hb := B.bytes
  have hr := B.returns
  have hts := atoms_spec (ws := wsX11_bare) B.pre
  have hown : s.vm.findClass RX11 = some m.cls := findClass_of_methodNamed B.named
  have hlocks := B.notSynchronized
  have hS : va_S (gA ad 22) s.heap s.heap [] := va_S.rf
  have hl := lv_entry ([.ref (ad 0)]) (n := 3) (Nat.le_of_ble_eq_true rfl)
  rw [lg_entry_eq]
  generalize (lg_sl ([.ref (ad 0)]) ++ List.replicate (3 - (lg_sl ([.ref (ad 0)])).length) Slot.unset).toArray = ls at hl ⊢
  have hl : lv_has ls 3 [(0, .ref (ad 0))] := hl
  have j4 : ∀  (n : Nat) (x1 : Int32) (x2 : Int32) (H : Heap) (locs : List Loc) (ls : Array Slot), f_X11_bare_4 z n x1 x2 = some res → va_P D vwCl (gw cA ad shM 22 z) H → va_S (gA ad 22) s.heap H locs → lv_has ls 3 [(0, .ref (ad 0)), (1, .int x1), (2, .int x2)] → W p l e (headSpec wsX11_bare (gRm 0 0)).room s m ([.ref (ad 0)] : List Value).toArray below meth c H locs 0 0 (MQ below (va_Qi (fun r u => (r, u) = (res, z)) (gPr D cA ad tw shM 22) (gA ad 22)) ([.ref (ad 0)] : List Value).toArray s 0 0 (gA ad 22)) (F0 m 4 ls []) := by
    intro n
    induction n with
    | zero => intro x1 x2 H locs ls h; exact (gno h).elim
    | succ n hK4 =>
      intro x1 x2 H locs ls h hP hS hl
      replace h : f_X11_bare_4_b z (f_X11_bare_4 z n) x1 x2 = some res := h
      unfold f_X11_bare_4_b at h
      refine lv_iload_n hx hb dX11_bare_4 rfl (lv_at hl 2 rfl) ?_
      refine lv_aload_n hx hb dX11_bare_5 rfl (lv_at hl 0 rfl) ?_
      refine fw_geti hx hb hts in_X11_bare_X11 hown hK hP gF11.1.1 gF11.1.2 rfl 1 (by decide) rfl (hts _ (List.mem_of_getElem? (i := 1) rfl)) rfl dX11_bare_6 ?_
      refine lv_icmp_ge (tgt := 35) hx hb dX11_bare_9 (by decide) (fun c1 => ?_) (fun c1 => ?_)
      · replace h := gif_t h c1
        refine lv_iload_n hx hb dX11_bare_35 rfl (lv_at hl 1 rfl) ?_
        exact fw_ireti hx hb hr hlocks (congrArg (fun q => (q, z)) (Option.some.inj h)) hK hZ hP hS dX11_bare_36
      · replace h := gif_f h c1
        refine lv_iload_n hx hb dX11_bare_12 rfl (lv_at hl 1 rfl) ?_
        refine lv_aload_n hx hb dX11_bare_13 rfl (lv_at hl 0 rfl) ?_
        refine fw_getr hx hb hts in_X11_bare_X11 hown hK hP gF11.1.1 gF11.1.2 rfl 4 (by decide) rfl (hts _ (List.mem_of_getElem? (i := 2) rfl)) rfl dX11_bare_14 ?_
        refine lv_iload_n hx hb dX11_bare_17 rfl (lv_at hl 2 rfl) ?_
        obtain ⟨h2, h⟩ := gg_s h
        refine fw_iald hx hb hK hP gF11.2.2.1.1 gF11.2.2.1.2 h2 dX11_bare_18 ?_
        refine lv_if_ne (tgt := 26) hx hb dX11_bare_19 (by decide) (fun c3 => ?_) (fun c3 => ?_)
        · replace h := gif_f h c3
          refine lv_iconst (v := (nI 0)) hx hb dX11_bare_26 (by decide) ?_
          refine lv_iadd hx hb dX11_bare_27 ?_
          refine lv_topi (fun y4 ey4 => ?_)
          replace h := gl_s h ey4
          refine lv_istore_n (lv' := [(1, .int y4), (0, .ref (ad 0)), (2, .int x2)]) hx hb dX11_bare_28 rfl hl (by decide) rfl (fun ls hl => ?_)
          refine lv_iinc (v := x2 + (nI 1)) (lv' := [(2, .int (x2 + (nI 1))), (1, .int y4), (0, .ref (ad 0))]) hx hb dX11_bare_29 hl (k := 2) rfl rfl (by decide) rfl (fun ls hl => ?_)
          refine lv_goto (tgt := 4) hx hb dX11_bare_32 (by decide) ?_
          exact hK4 y4 (x2 + (nI 1)) _ _ ls h hP hS (lv_sub hl [2, 1, 0] rfl)
        · replace h := gif_t h c3
          refine lv_iconst (v := (nI 1)) hx hb dX11_bare_22 (by decide) ?_
          refine lv_goto (tgt := 27) hx hb dX11_bare_23 (by decide) ?_
          refine lv_iadd hx hb dX11_bare_27 ?_
          refine lv_topi (fun y5 ey5 => ?_)
          replace h := gl_s h ey5
          refine lv_istore_n (lv' := [(1, .int y5), (0, .ref (ad 0)), (2, .int x2)]) hx hb dX11_bare_28 rfl hl (by decide) rfl (fun ls hl => ?_)
          refine lv_iinc (v := x2 + (nI 1)) (lv' := [(2, .int (x2 + (nI 1))), (1, .int y5), (0, .ref (ad 0))]) hx hb dX11_bare_29 hl (k := 2) rfl rfl (by decide) rfl (fun ls hl => ?_)
          refine lv_goto (tgt := 4) hx hb dX11_bare_32 (by decide) ?_
          exact hK4 y5 (x2 + (nI 1)) _ _ ls h hP hS (lv_sub hl [2, 1, 0] rfl)
  unfold f_X11_bare at h
  refine lv_iconst (v := (nI 0)) hx hb dX11_bare_0 (by decide) ?_
  refine lv_istore_n (lv' := [(1, .int (nI 0)), (0, .ref (ad 0))]) hx hb dX11_bare_1 rfl hl (by decide) rfl (fun ls hl => ?_)
  refine lv_iconst (v := (nI 0)) hx hb dX11_bare_2 (by decide) ?_
  refine lv_istore_n (lv' := [(2, .int (nI 0)), (1, .int (nI 0)), (0, .ref (ad 0))]) hx hb dX11_bare_3 rfl hl (by decide) rfl (fun ls hl => ?_)
  exact j4  gF (nI 0) (nI 0) _ _ ls h hP hS (lv_sub hl [2, 1, 0] rfl)
theorem in_X11_count_X11 : ∀ w ∈ wsX110, w ∈ wsX11_count := fun w h => List.mem_cons_of_mem _ (List.mem_append_right _ (h))
theorem hdV_X11_count : yX11_count.cls = RX11 ∧ yX11_count.cls ≠ "java/lang/invoke/MethodHandle" ∧ yX11_count.cls ≠ "java/lang/invoke/VarHandle" ∧ (parseMethodDescriptor yX11_count.desc).map (fun d => d.parameters.length) = some 1 := by decide +kernel
set_option maxHeartbeats 4000000 in
set_option maxRecDepth 100000 in
theorem k_X11_count (l : Launch) (D : va_G) (cA : Nat → ClassId) (ad : Nat → Nat) (tw : Nat) (hG : gOk ad 22) (z : gS) (a1 : Int32) (res : Int32) (h : f_X11_count a1 z = some res) : gMi l yX11_count wsX11_count (gRm 3 69) D cA ad tw shM 22 [.ref (ad 0), .int a1] z (res, z) := by
  refine Met.ofW (cc := cX11_count) (maxL := 2) (ret := (some .int)) (by decide) rfl ?_
  intro p e s m args below meth c s₁ B hml hv
  obtain ⟨rfl, hP, hK, hZ⟩ := hv
  have hx := B.exec
  have hb := B.bytes
  have hr := B.returns
  have hts := atoms_spec (ws := wsX11_count) B.pre
  have hown : s.vm.findClass RX11 = some m.cls := findClass_of_methodNamed B.named
  have hlocks := B.notSynchronized
  have hS : va_S (gA ad 22) s.heap s.heap [] := va_S.rf
  have hl := lv_entry ([.ref (ad 0), .int a1]) (n := 2) (Nat.le_of_ble_eq_true rfl)
  rw [lg_entry_eq]
  generalize (lg_sl ([.ref (ad 0), .int a1]) ++ List.replicate (2 - (lg_sl ([.ref (ad 0), .int a1])).length) Slot.unset).toArray = ls at hl ⊢
  have hl : lv_has ls 2 [(0, .ref (ad 0)), (1, .int a1)] := hl
  unfold f_X11_count at h
  refine lv_iload_n hx hb dX11_count_0 rfl (lv_at hl 1 rfl) ?_
  by_cases c1 : a1 = (nI 0)
  · replace h := gif_t h c1
    refine lv_tableIn (tgt := 40) hx hb dX11_count_1 (by rw [c1]; decide) (by rw [c1]; decide) (by rw [c1]; rfl) (by decide) ?_
    refine lv_aload_n hx hb dX11_count_40 rfl (lv_at hl 0 rfl) ?_
    refine fw_geti hx hb hts in_X11_count_X11 hown hK hP gF11.1.1 gF11.1.2 rfl 1 (by decide) rfl (hts _ (List.mem_of_getElem? (i := 1) rfl)) rfl dX11_count_41 ?_
    exact fw_ireti hx hb hr hlocks (congrArg (fun q => (q, z)) (Option.some.inj h)) hK hZ hP hS dX11_count_44
  replace h := gif_f h c1
  by_cases c2 : a1 = (nI 1)
  · replace h := gif_t h c2
    refine lv_tableIn (tgt := 45) hx hb dX11_count_1 (by rw [c2]; decide) (by rw [c2]; decide) (by rw [c2]; rfl) (by decide) ?_
    refine lv_aload_n hx hb dX11_count_45 rfl (lv_at hl 0 rfl) ?_
    refine fw_geti hx hb hts in_X11_count_X11 hown hK hP gF11.1.1 gF11.1.2 rfl 2 (by decide) rfl (hts _ (List.mem_of_getElem? (i := 2) rfl)) rfl dX11_count_46 ?_
    exact fw_ireti hx hb hr hlocks (congrArg (fun q => (q, z)) (Option.some.inj h)) hK hZ hP hS dX11_count_49
  replace h := gif_f h c2
  by_cases c3 : a1 = (nI 2)
  · replace h := gif_t h c3
    refine lv_tableIn (tgt := 50) hx hb dX11_count_1 (by rw [c3]; decide) (by rw [c3]; decide) (by rw [c3]; rfl) (by decide) ?_
    refine lv_aload_n hx hb dX11_count_50 rfl (lv_at hl 0 rfl) ?_
    obtain ⟨q4, hq4, h⟩ := gb_s h
    refine fw_viR (As := []) (rest := []) ⟨hx, hb, hml, hown, hts⟩ (k_X11_parts l D cA ad tw hG z  q4 hq4) (cwV 0 hts gX11_count_X11_parts rfl rfl rfl hdV_X11_parts ⟨Nat.le_of_ble_eq_true rfl, Nat.le_of_ble_eq_true rfl⟩) (fw_preV gF11.1.1 gF11.1.2 rfl rfl hK hZ hP hS) rfl hl _ rfl (Nat.le_of_ble_eq_true rfl) hS dX11_count_51 ⟨Nat.zero_le _, Nat.zero_le _⟩ (fun H locs hP hS => ?_)
    exact fw_ireti hx hb hr hlocks (congrArg (fun q => (q, z)) (Option.some.inj h)) hK hZ hP hS dX11_count_54
  replace h := gif_f h c3
  by_cases c5 : a1 = (nI 3)
  · replace h := gif_t h c5
    refine lv_tableIn (tgt := 55) hx hb dX11_count_1 (by rw [c5]; decide) (by rw [c5]; decide) (by rw [c5]; rfl) (by decide) ?_
    refine lv_aload_n hx hb dX11_count_55 rfl (lv_at hl 0 rfl) ?_
    refine fw_geti hx hb hts in_X11_count_X11 hown hK hP gF11.1.1 gF11.1.2 rfl 15 (by decide) rfl (hts _ (List.mem_of_getElem? (i := 3) rfl)) rfl dX11_count_56 ?_
    exact fw_ireti hx hb hr hlocks (congrArg (fun q => (q, z)) (Option.some.inj h)) hK hZ hP hS dX11_count_59
  replace h := gif_f h c5
  by_cases c6 : a1 = (nI 4)
  · replace h := gif_t h c6
    refine lv_tableIn (tgt := 60) hx hb dX11_count_1 (by rw [c6]; decide) (by rw [c6]; decide) (by rw [c6]; rfl) (by decide) ?_
    refine lv_aload_n hx hb dX11_count_60 rfl (lv_at hl 0 rfl) ?_
    refine fw_geti hx hb hts in_X11_count_X11 hown hK hP gF11.1.1 gF11.1.2 rfl 16 (by decide) rfl (hts _ (List.mem_of_getElem? (i := 4) rfl)) rfl dX11_count_61 ?_
    exact fw_ireti hx hb hr hlocks (congrArg (fun q => (q, z)) (Option.some.inj h)) hK hZ hP hS dX11_count_64
  replace h := gif_f h c6
  by_cases c7 : a1 = (nI 5)
  · replace h := gif_t h c7
    refine lv_tableIn (tgt := 65) hx hb dX11_count_1 (by rw [c7]; decide) (by rw [c7]; decide) (by rw [c7]; rfl) (by decide) ?_
    refine lv_aload_n hx hb dX11_count_65 rfl (lv_at hl 0 rfl) ?_
    obtain ⟨q8, hq8, h⟩ := gb_s h
    refine fw_viR (As := []) (rest := []) ⟨hx, hb, hml, hown, hts⟩ (k_X11_bare l D cA ad tw hG z  q8 hq8) (cwV 0 hts gX11_count_X11_bare rfl rfl rfl hdV_X11_bare ⟨Nat.le_of_ble_eq_true rfl, Nat.le_of_ble_eq_true rfl⟩) (fw_preV gF11.1.1 gF11.1.2 rfl rfl hK hZ hP hS) rfl hl _ rfl (Nat.le_of_ble_eq_true rfl) hS dX11_count_66 ⟨Nat.zero_le _, Nat.zero_le _⟩ (fun H locs hP hS => ?_)
    exact fw_ireti hx hb hr hlocks (congrArg (fun q => (q, z)) (Option.some.inj h)) hK hZ hP hS dX11_count_69
  replace h := gif_f h c7
  refine lv_tableOut (tgt := 70) hx hb dX11_count_1 (by have nc1 := gne (w := 0) c1 rfl; have nc2 := gne (w := 1) c2 rfl; have nc3 := gne (w := 2) c3 rfl; have nc5 := gne (w := 3) c5 rfl; have nc6 := gne (w := 4) c6 rfl; have nc7 := gne (w := 5) c7 rfl; omega) (by decide) ?_
  refine lv_bipush (v := (-2)) hx hb dX11_count_70 (by decide) ?_
  exact fw_ireti hx hb hr hlocks (congrArg (fun q => (q, z)) (Option.some.inj h)) hK hZ hP hS dX11_count_72
theorem in_X11_begins_X11 : ∀ w ∈ wsX110, w ∈ wsX11_begins := fun w h => List.mem_cons_of_mem _ (List.mem_append_right _ (h))
theorem hdV_X11_begins : yX11_begins.cls = RX11 ∧ yX11_begins.cls ≠ "java/lang/invoke/MethodHandle" ∧ yX11_begins.cls ≠ "java/lang/invoke/VarHandle" ∧ (parseMethodDescriptor yX11_begins.desc).map (fun d => d.parameters.length) = some 2 := by decide +kernel
set_option maxHeartbeats 4000000 in
set_option maxRecDepth 100000 in
theorem k_X11_begins (l : Launch) (D : va_G) (cA : Nat → ClassId) (ad : Nat → Nat) (tw : Nat) (hG : gOk ad 22) (z : gS) (a1 : Int32) (a2 : Int32) (res : gS) (h : f_X11_begins a1 a2 z = some res) : gMv l yX11_begins wsX11_begins (gRm 0 0) D cA ad tw shM 22 [.ref (ad 0), .int a1, .int a2] z res := by
  refine Met.ofW (cc := cX11_begins) (maxL := 4) (ret := none) (by decide) rfl ?_
  intro p e s m args below meth c s₁ B hml hv
  obtain ⟨rfl, hP, hK, hZ⟩ := hv
  have hx := B.exec
  have hb := B.bytes
  have hr := B.returns
  have hts := atoms_spec (ws := wsX11_begins) B.pre
  have hown : s.vm.findClass RX11 = some m.cls := findClass_of_methodNamed B.named
  have hlocks := B.notSynchronized
  have hS : va_S (gA ad 22) s.heap s.heap [] := va_S.rf
  have hl := lv_entry ([.ref (ad 0), .int a1, .int a2]) (n := 4) (Nat.le_of_ble_eq_true rfl)
  rw [lg_entry_eq]
  generalize (lg_sl ([.ref (ad 0), .int a1, .int a2]) ++ List.replicate (4 - (lg_sl ([.ref (ad 0), .int a1, .int a2])).length) Slot.unset).toArray = ls at hl ⊢
  have hl : lv_has ls 4 [(0, .ref (ad 0)), (1, .int a1), (2, .int a2)] := hl
  have j7 : ∀ (x1 : Int32) (x2 : Int32) (n : Nat) (x3 : Int32) (z : gS) (H : Heap) (locs : List Loc) (ls : Array Slot), f_X11_begins_7 x1 x2 n x3 z = some res → va_P D vwCl (gw cA ad shM 22 z) H → va_S (gA ad 22) s.heap H locs → lv_has ls 4 [(0, .ref (ad 0)), (1, .int x1), (2, .int x2), (3, .int x3)] → W p l e (headSpec wsX11_begins (gRm 0 0)).room s m ([.ref (ad 0), .int a1, .int a2] : List Value).toArray below meth c H locs 0 0 (MQ below (va_Qv (fun u => u = res) (gPr D cA ad tw shM 22) (gA ad 22)) ([.ref (ad 0), .int a1, .int a2] : List Value).toArray s 0 0 (gA ad 22)) (F0 m 7 ls []) := by
    intro x1 x2 n
    induction n with
    | zero => intro x3 z H locs ls h; exact (gno h).elim
    | succ n hK7 =>
      intro x3 z H locs ls h hP hS hl
      replace h : f_X11_begins_7_b x1 x2 (f_X11_begins_7 x1 x2 n) x3 z = some res := h
      unfold f_X11_begins_7_b at h
      refine lv_iload_n hx hb dX11_begins_7 rfl (lv_at hl 3 rfl) ?_
      refine lv_aload_n hx hb dX11_begins_8 rfl (lv_at hl 0 rfl) ?_
      refine fw_geti hx hb hts in_X11_begins_X11 hown hK hP gF11.1.1 gF11.1.2 rfl 1 (by decide) rfl (hts _ (List.mem_of_getElem? (i := 2) rfl)) rfl dX11_begins_9 ?_
      refine lv_icmp_ge (tgt := 49) hx hb dX11_begins_12 (by decide) (fun c2 => ?_) (fun c2 => ?_)
      · replace h := gif_t h c2
        refine lv_aload_n hx hb dX11_begins_49 rfl (lv_at hl 0 rfl) ?_
        refine lv_iload_n hx hb dX11_begins_50 rfl (lv_at hl 2 rfl) ?_
        refine fw_put hx hb hts in_X11_begins_X11 tyX11_ok nmX11 hown hK hG hP hS gF11.1.1 gF11.1.2 rfl 8 (by decide) rfl (hts _ (List.mem_of_getElem? (i := 4) rfl)) rfl rfl (ty := .int) rfl rfl rfl dX11_begins_51 (fun z3 H locs ez3 hP hS => ?_)
        replace h := gl_s h ez3
        exact fw_vret hx hb hr hlocks (Option.some.inj h) hK hZ hP hS dX11_begins_54
      · replace h := gif_f h c2
        refine lv_iload_n hx hb dX11_begins_15 rfl (lv_at hl 3 rfl) ?_
        refine lv_iload_n hx hb dX11_begins_16 rfl (lv_at hl 1 rfl) ?_
        refine lv_icmp_ne (tgt := 23) hx hb dX11_begins_17 (by decide) (fun c4 => ?_) (fun c4 => ?_)
        · replace h := gif_f h c4
          refine lv_aload_n hx hb dX11_begins_23 rfl (lv_at hl 0 rfl) ?_
          refine fw_getr hx hb hts in_X11_begins_X11 hown hK hP gF11.1.1 gF11.1.2 rfl 6 (by decide) rfl (hts _ (List.mem_of_getElem? (i := 3) rfl)) rfl dX11_begins_24 ?_
          refine lv_aload_n hx hb dX11_begins_27 rfl (lv_at hl 0 rfl) ?_
          refine fw_geti hx hb hts in_X11_begins_X11 hown hK hP gF11.1.1 gF11.1.2 rfl 7 (by decide) rfl (hts _ (List.mem_of_getElem? (i := 1) rfl)) rfl dX11_begins_28 ?_
          refine lv_iload_n hx hb dX11_begins_31 rfl (lv_at hl 3 rfl) ?_
          obtain ⟨h5, h⟩ := gg_s h
          refine fw_iast hx hb hK hG hP hS gF11.2.2.2.2.1.1 gF11.2.2.2.2.1.2 h5 dX11_begins_32 (fun z6 H locs ez6 hP hS => ?_)
          replace h := gl_s h ez6
          refine lv_aload_n hx hb dX11_begins_33 rfl (lv_at hl 0 rfl) ?_
          refine lv_dup hx hb dX11_begins_34 rfl ?_
          refine fw_geti hx hb hts in_X11_begins_X11 hown hK hP gF11.1.1 gF11.1.2 rfl 7 (by decide) rfl (hts _ (List.mem_of_getElem? (i := 1) rfl)) rfl dX11_begins_35 ?_
          refine lv_iconst (v := (nI 1)) hx hb dX11_begins_38 (by decide) ?_
          refine lv_iadd hx hb dX11_begins_39 ?_
          refine fw_put hx hb hts in_X11_begins_X11 tyX11_ok nmX11 hown hK hG hP hS gF11.1.1 gF11.1.2 rfl 7 (by decide) rfl (hts _ (List.mem_of_getElem? (i := 1) rfl)) rfl rfl (ty := .int) rfl rfl rfl dX11_begins_40 (fun z7 H locs ez7 hP hS => ?_)
          replace h := gl_s h ez7
          refine lv_iinc (v := x3 + (nI 1)) (lv' := [(3, .int (x3 + (nI 1))), (0, .ref (ad 0)), (1, .int x1), (2, .int x2)]) hx hb dX11_begins_43 hl (k := 3) rfl rfl (by decide) rfl (fun ls hl => ?_)
          refine lv_goto (tgt := 7) hx hb dX11_begins_46 (by decide) ?_
          exact hK7 (x3 + (nI 1)) z7 _ _ ls h hP hS (lv_sub hl [1, 2, 3, 0] rfl)
        · replace h := gif_t h c4
          refine lv_goto (tgt := 43) hx hb dX11_begins_20 (by decide) ?_
          refine lv_iinc (v := x3 + (nI 1)) (lv' := [(3, .int (x3 + (nI 1))), (0, .ref (ad 0)), (1, .int x1), (2, .int x2)]) hx hb dX11_begins_43 hl (k := 3) rfl rfl (by decide) rfl (fun ls hl => ?_)
          refine lv_goto (tgt := 7) hx hb dX11_begins_46 (by decide) ?_
          exact hK7 (x3 + (nI 1)) z _ _ ls h hP hS (lv_sub hl [1, 2, 3, 0] rfl)
  unfold f_X11_begins at h
  refine lv_aload_n hx hb dX11_begins_0 rfl (lv_at hl 0 rfl) ?_
  refine lv_iconst (v := (nI 0)) hx hb dX11_begins_1 (by decide) ?_
  refine fw_put hx hb hts in_X11_begins_X11 tyX11_ok nmX11 hown hK hG hP hS gF11.1.1 gF11.1.2 rfl 7 (by decide) rfl (hts _ (List.mem_of_getElem? (i := 1) rfl)) rfl rfl (ty := .int) rfl rfl rfl dX11_begins_2 (fun z1 H locs ez1 hP hS => ?_)
  replace h := gl_s h ez1
  refine lv_iconst (v := (nI 0)) hx hb dX11_begins_5 (by decide) ?_
  refine lv_istore_n (lv' := [(3, .int (nI 0)), (0, .ref (ad 0)), (1, .int a1), (2, .int a2)]) hx hb dX11_begins_6 rfl hl (by decide) rfl (fun ls hl => ?_)
  exact j7 a1 a2 gF (nI 0) z1 _ _ ls h hP hS (lv_sub hl [1, 2, 3, 0] rfl)
theorem in_X11_beginsAll_X11 : ∀ w ∈ wsX110, w ∈ wsX11_beginsAll := fun w h => List.mem_cons_of_mem _ (List.mem_append_right _ (h))
theorem hdV_X11_beginsAll : yX11_beginsAll.cls = RX11 ∧ yX11_beginsAll.cls ≠ "java/lang/invoke/MethodHandle" ∧ yX11_beginsAll.cls ≠ "java/lang/invoke/VarHandle" ∧ (parseMethodDescriptor yX11_beginsAll.desc).map (fun d => d.parameters.length) = some 0 := by decide +kernel
set_option maxHeartbeats 4000000 in
set_option maxRecDepth 100000 in
theorem k_X11_beginsAll (l : Launch) (D : va_G) (cA : Nat → ClassId) (ad : Nat → Nat) (tw : Nat) (hG : gOk ad 22) (z : gS)  (res : gS) (h : f_X11_beginsAll  z = some res) : gMv l yX11_beginsAll wsX11_beginsAll (gRm 1 23) D cA ad tw shM 22 [.ref (ad 0)] z res := by
  refine Met.ofW (cc := cX11_beginsAll) (maxL := 1) (ret := none) (by decide) rfl ?_
  intro p e s m args below meth c s₁ B hml hv
  obtain ⟨rfl, hP, hK, hZ⟩ := hv
  have hx := B.exec
  have hb := B.bytes
  have hr := B.returns
  have hts := atoms_spec (ws := wsX11_beginsAll) B.pre
  have hown : s.vm.findClass RX11 = some m.cls := findClass_of_methodNamed B.named
  have hlocks := B.notSynchronized
  have hS : va_S (gA ad 22) s.heap s.heap [] := va_S.rf
  have hl := lv_entry ([.ref (ad 0)]) (n := 1) (Nat.le_of_ble_eq_true rfl)
  rw [lg_entry_eq]
  generalize (lg_sl ([.ref (ad 0)]) ++ List.replicate (1 - (lg_sl ([.ref (ad 0)])).length) Slot.unset).toArray = ls at hl ⊢
  have hl : lv_has ls 1 [(0, .ref (ad 0))] := hl
  unfold f_X11_beginsAll at h
  refine lv_aload_n hx hb dX11_beginsAll_0 rfl (lv_at hl 0 rfl) ?_
  refine lv_iconst (v := gm1) hx hb dX11_beginsAll_1 (by decide) ?_
  refine lv_iconst (v := (nI 1)) hx hb dX11_beginsAll_2 (by decide) ?_
  refine lv_aload_n hx hb dX11_beginsAll_3 rfl (lv_at hl 0 rfl) ?_
  refine fw_geti hx hb hts in_X11_beginsAll_X11 hown hK hP gF11.1.1 gF11.1.2 rfl 2 (by decide) rfl (hts _ (List.mem_of_getElem? (i := 1) rfl)) rfl dX11_beginsAll_4 ?_
  refine lv_ishl hx hb dX11_beginsAll_7 ?_
  refine lv_iconst (v := (nI 1)) hx hb dX11_beginsAll_8 (by decide) ?_
  refine lv_isub hx hb dX11_beginsAll_9 ?_
  obtain ⟨q1, hq1, h⟩ := gb_s h
  refine fw_vv (As := [.int gm1, .int (((nI 1) <<< ((z 0 2) &&& 31)) - (nI 1))]) (rest := []) ⟨hx, hb, hml, hown, hts⟩ (k_X11_begins l D cA ad tw hG z gm1 (((nI 1) <<< ((z 0 2) &&& 31)) - (nI 1)) q1 hq1) (cwV 2 hts gX11_beginsAll_X11_begins rfl rfl rfl hdV_X11_begins ⟨Nat.le_of_ble_eq_true rfl, Nat.le_of_ble_eq_true rfl⟩) (fw_preV gF11.1.1 gF11.1.2 rfl rfl hK hZ hP hS) rfl hl _ rfl (Nat.le_of_ble_eq_true rfl) hS dX11_beginsAll_10 ⟨Nat.zero_le _, Nat.zero_le _⟩ (fun H locs hP hS => ?_)
  exact fw_vret hx hb hr hlocks (Option.some.inj h) hK hZ hP hS dX11_beginsAll_13
theorem in_X11_goesOn_X11 : ∀ w ∈ wsX110, w ∈ wsX11_goesOn := fun w h => List.mem_cons_of_mem _ (List.mem_append_right _ (h))
theorem hdV_X11_goesOn : yX11_goesOn.cls = RX11 ∧ yX11_goesOn.cls ≠ "java/lang/invoke/MethodHandle" ∧ yX11_goesOn.cls ≠ "java/lang/invoke/VarHandle" ∧ (parseMethodDescriptor yX11_goesOn.desc).map (fun d => d.parameters.length) = some 0 := by decide +kernel
set_option maxHeartbeats 4000000 in
set_option maxRecDepth 100000 in
theorem k_X11_goesOn (l : Launch) (D : va_G) (cA : Nat → ClassId) (ad : Nat → Nat) (tw : Nat) (hG : gOk ad 22) (z : gS)  (res : Int32 × gS) (h : f_X11_goesOn  z = some res) : gMi l yX11_goesOn wsX11_goesOn (gRm 0 0) D cA ad tw shM 22 [.ref (ad 0)] z res := by
  refine Met.ofW (cc := cX11_goesOn) (maxL := 7) (ret := (some .boolean)) (by decide) rfl ?_
  intro p e s m args below meth c s₁ B hml hv
  obtain ⟨rfl, hP, hK, hZ⟩ := hv
  have hx := B.exec
  have hb := B.bytes
  have hr := B.returns
  have hts := atoms_spec (ws := wsX11_goesOn) B.pre
  have hown : s.vm.findClass RX11 = some m.cls := findClass_of_methodNamed B.named
  have hlocks := B.notSynchronized
  have hS : va_S (gA ad 22) s.heap s.heap [] := va_S.rf
  have hl := lv_entry ([.ref (ad 0)]) (n := 7) (Nat.le_of_ble_eq_true rfl)
  rw [lg_entry_eq]
  generalize (lg_sl ([.ref (ad 0)]) ++ List.replicate (7 - (lg_sl ([.ref (ad 0)])).length) Slot.unset).toArray = ls at hl ⊢
  have hl : lv_has ls 7 [(0, .ref (ad 0))] := hl
  have j107 : ∀  (n : Nat) (x4 : Int32) (x5 : Int32) (z : gS) (H : Heap) (locs : List Loc) (ls : Array Slot), f_X11_goesOn_107  n x4 x5 z = some res → va_P D vwCl (gw cA ad shM 22 z) H → va_S (gA ad 22) s.heap H locs → lv_has ls 7 [(0, .ref (ad 0)), (4, .int x4), (5, .int x5)] → W p l e (headSpec wsX11_goesOn (gRm 0 0)).room s m ([.ref (ad 0)] : List Value).toArray below meth c H locs 0 0 (MQ below (va_Qi (fun r u => (r, u) = res) (gPr D cA ad tw shM 22) (gA ad 22)) ([.ref (ad 0)] : List Value).toArray s 0 0 (gA ad 22)) (F0 m 107 ls []) := by
    intro n
    induction n with
    | zero => intro x4 x5 z H locs ls h; exact (gno h).elim
    | succ n hK107 =>
      intro x4 x5 z H locs ls h hP hS hl
      replace h : f_X11_goesOn_107_b  (f_X11_goesOn_107  n) x4 x5 z = some res := h
      unfold f_X11_goesOn_107_b at h
      refine lv_iload hx hb dX11_goesOn_107 (lv_at hl 2 rfl) ?_
      refine lv_iload hx hb dX11_goesOn_109 (lv_at hl 1 rfl) ?_
      refine lv_icmp_ge (tgt := 155) hx hb dX11_goesOn_111 (by decide) (fun c22 => ?_) (fun c22 => ?_)
      · replace h := gif_t h c22
        refine lv_iconst (v := (nI 1)) hx hb dX11_goesOn_155 (by decide) ?_
        exact fw_iretz hx hb hr hlocks (by decide) (Option.some.inj h) hK hZ hP hS dX11_goesOn_156
      · replace h := gif_f h c22
        refine lv_aload_n hx hb dX11_goesOn_114 rfl (lv_at hl 0 rfl) ?_
        refine fw_getr hx hb hts in_X11_goesOn_X11 hown hK hP gF11.1.1 gF11.1.2 rfl 6 (by decide) rfl (hts _ (List.mem_of_getElem? (i := 2) rfl)) rfl dX11_goesOn_115 ?_
        refine lv_iload hx hb dX11_goesOn_118 (lv_at hl 2 rfl) ?_
        obtain ⟨h23, h⟩ := gg_s h
        refine fw_iald hx hb hK hP gF11.2.2.2.2.1.1 gF11.2.2.2.2.1.2 h23 dX11_goesOn_120 ?_
        refine lv_topi (fun y24 ey24 => ?_)
        replace h := gl_s h ey24
        refine lv_istore (lv' := [(6, .int y24), (0, .ref (ad 0)), (4, .int x4), (5, .int x5)]) hx hb dX11_goesOn_121 hl (by decide) rfl (fun ls hl => ?_)
        refine lv_aload_n hx hb dX11_goesOn_123 rfl (lv_at hl 1 rfl) ?_
        refine fw_getr hx hb hts in_X11_goesOn_X11 hown hK hP gF11.1.1 gF11.1.2 rfl 6 (by decide) rfl (hts _ (List.mem_of_getElem? (i := 2) rfl)) rfl dX11_goesOn_124 ?_
        refine lv_iload hx hb dX11_goesOn_127 (lv_at hl 3 rfl) ?_
        refine lv_aload_n hx hb dX11_goesOn_129 rfl (lv_at hl 1 rfl) ?_
        refine fw_getr hx hb hts in_X11_goesOn_X11 hown hK hP gF11.1.1 gF11.1.2 rfl 6 (by decide) rfl (hts _ (List.mem_of_getElem? (i := 2) rfl)) rfl dX11_goesOn_130 ?_
        refine lv_iload hx hb dX11_goesOn_133 (lv_at hl 2 rfl) ?_
        obtain ⟨h25, h⟩ := gg_s h
        refine fw_iald hx hb hK hP gF11.2.2.2.2.1.1 gF11.2.2.2.2.1.2 h25 dX11_goesOn_135 ?_
        obtain ⟨h26, h⟩ := gg_s h
        refine fw_iast hx hb hK hG hP hS gF11.2.2.2.2.1.1 gF11.2.2.2.2.1.2 h26 dX11_goesOn_136 (fun z27 H locs ez27 hP hS => ?_)
        replace h := gl_s h ez27
        refine lv_aload_n hx hb dX11_goesOn_137 rfl (lv_at hl 1 rfl) ?_
        refine fw_getr hx hb hts in_X11_goesOn_X11 hown hK hP gF11.1.1 gF11.1.2 rfl 6 (by decide) rfl (hts _ (List.mem_of_getElem? (i := 2) rfl)) rfl dX11_goesOn_138 ?_
        refine lv_iload hx hb dX11_goesOn_141 (lv_at hl 2 rfl) ?_
        refine lv_iload hx hb dX11_goesOn_143 (lv_at hl 0 rfl) ?_
        obtain ⟨h28, h⟩ := gg_s h
        refine fw_iast hx hb hK hG hP hS gF11.2.2.2.2.1.1 gF11.2.2.2.2.1.2 h28 dX11_goesOn_145 (fun z29 H locs ez29 hP hS => ?_)
        replace h := gl_s h ez29
        refine lv_iinc (v := x4 + gm1) (lv' := [(4, .int (x4 + gm1)), (6, .int y24), (0, .ref (ad 0)), (5, .int x5)]) hx hb dX11_goesOn_146 hl (k := 2) rfl rfl (by decide) rfl (fun ls hl => ?_)
        refine lv_iinc (v := x5 + (nI 1)) (lv' := [(5, .int (x5 + (nI 1))), (4, .int (x4 + gm1)), (6, .int y24), (0, .ref (ad 0))]) hx hb dX11_goesOn_149 hl (k := 3) rfl rfl (by decide) rfl (fun ls hl => ?_)
        refine lv_goto (tgt := 107) hx hb dX11_goesOn_152 (by decide) ?_
        exact hK107 (x4 + gm1) (x5 + (nI 1)) z29 _ _ ls h hP hS (lv_sub hl [3, 1, 0] rfl)
  have j47 : ∀ (z : gS) (x1 : Int32) (n : Nat) (x2 : Int32) (H : Heap) (locs : List Loc) (ls : Array Slot), f_X11_goesOn_47 z x1 n x2 = some res → va_P D vwCl (gw cA ad shM 22 z) H → va_S (gA ad 22) s.heap H locs → lv_has ls 7 [(0, .ref (ad 0)), (1, .int x1), (2, .int x2)] → W p l e (headSpec wsX11_goesOn (gRm 0 0)).room s m ([.ref (ad 0)] : List Value).toArray below meth c H locs 0 0 (MQ below (va_Qi (fun r u => (r, u) = res) (gPr D cA ad tw shM 22) (gA ad 22)) ([.ref (ad 0)] : List Value).toArray s 0 0 (gA ad 22)) (F0 m 47 ls []) := by
    intro z x1 n
    induction n with
    | zero => intro x2 H locs ls h; exact (gno h).elim
    | succ n hK47 =>
      intro x2 H locs ls h hP hS hl
      replace h : f_X11_goesOn_47_b z x1 (f_X11_goesOn_47 z x1 n) x2 = some res := h
      unfold f_X11_goesOn_47_b at h
      refine lv_aload_n hx hb dX11_goesOn_47 rfl (lv_at hl 0 rfl) ?_
      refine fw_getr hx hb hts in_X11_goesOn_X11 hown hK hP gF11.1.1 gF11.1.2 rfl 6 (by decide) rfl (hts _ (List.mem_of_getElem? (i := 2) rfl)) rfl dX11_goesOn_48 ?_
      refine lv_iload_n hx hb dX11_goesOn_51 rfl (lv_at hl 2 rfl) ?_
      obtain ⟨h10, h⟩ := gg_s h
      refine fw_iald hx hb hK hP gF11.2.2.2.2.1.1 gF11.2.2.2.2.1.2 h10 dX11_goesOn_52 ?_
      refine lv_aload_n hx hb dX11_goesOn_53 rfl (lv_at hl 0 rfl) ?_
      refine fw_getr hx hb hts in_X11_goesOn_X11 hown hK hP gF11.1.1 gF11.1.2 rfl 6 (by decide) rfl (hts _ (List.mem_of_getElem? (i := 2) rfl)) rfl dX11_goesOn_54 ?_
      refine lv_iload_n hx hb dX11_goesOn_57 rfl (lv_at hl 1 rfl) ?_
      obtain ⟨h11, h⟩ := gg_s h
      refine fw_iald hx hb hK hP gF11.2.2.2.2.1.1 gF11.2.2.2.2.1.2 h11 dX11_goesOn_58 ?_
      refine lv_icmp_ge (tgt := 68) hx hb dX11_goesOn_59 (by decide) (fun c12 => ?_) (fun c12 => ?_)
      · replace h := gif_t h c12
        refine lv_aload_n hx hb dX11_goesOn_68 rfl (lv_at hl 0 rfl) ?_
        refine fw_getr hx hb hts in_X11_goesOn_X11 hown hK hP gF11.1.1 gF11.1.2 rfl 6 (by decide) rfl (hts _ (List.mem_of_getElem? (i := 2) rfl)) rfl dX11_goesOn_69 ?_
        refine lv_iload_n hx hb dX11_goesOn_72 rfl (lv_at hl 1 rfl) ?_
        obtain ⟨h13, h⟩ := gg_s h
        refine fw_iald hx hb hK hP gF11.2.2.2.2.1.1 gF11.2.2.2.2.1.2 h13 dX11_goesOn_73 ?_
        refine lv_topi (fun y14 ey14 => ?_)
        replace h := gl_s h ey14
        refine lv_istore_n (lv' := [(3, .int y14), (0, .ref (ad 0)), (1, .int x1), (2, .int x2)]) hx hb dX11_goesOn_74 rfl hl (by decide) rfl (fun ls hl => ?_)
        refine lv_aload_n hx hb dX11_goesOn_75 rfl (lv_at hl 1 rfl) ?_
        refine fw_getr hx hb hts in_X11_goesOn_X11 hown hK hP gF11.1.1 gF11.1.2 rfl 6 (by decide) rfl (hts _ (List.mem_of_getElem? (i := 2) rfl)) rfl dX11_goesOn_76 ?_
        refine lv_iload_n hx hb dX11_goesOn_79 rfl (lv_at hl 2 rfl) ?_
        refine lv_aload_n hx hb dX11_goesOn_80 rfl (lv_at hl 1 rfl) ?_
        refine fw_getr hx hb hts in_X11_goesOn_X11 hown hK hP gF11.1.1 gF11.1.2 rfl 6 (by decide) rfl (hts _ (List.mem_of_getElem? (i := 2) rfl)) rfl dX11_goesOn_81 ?_
        refine lv_iload_n hx hb dX11_goesOn_84 rfl (lv_at hl 3 rfl) ?_
        obtain ⟨h15, h⟩ := gg_s h
        refine fw_iald hx hb hK hP gF11.2.2.2.2.1.1 gF11.2.2.2.2.1.2 h15 dX11_goesOn_85 ?_
        obtain ⟨h16, h⟩ := gg_s h
        refine fw_iast hx hb hK hG hP hS gF11.2.2.2.2.1.1 gF11.2.2.2.2.1.2 h16 dX11_goesOn_86 (fun z17 H locs ez17 hP hS => ?_)
        replace h := gl_s h ez17
        refine lv_aload_n hx hb dX11_goesOn_87 rfl (lv_at hl 1 rfl) ?_
        refine fw_getr hx hb hts in_X11_goesOn_X11 hown hK hP gF11.1.1 gF11.1.2 rfl 6 (by decide) rfl (hts _ (List.mem_of_getElem? (i := 2) rfl)) rfl dX11_goesOn_88 ?_
        refine lv_iload_n hx hb dX11_goesOn_91 rfl (lv_at hl 3 rfl) ?_
        refine lv_iload_n hx hb dX11_goesOn_92 rfl (lv_at hl 0 rfl) ?_
        obtain ⟨h18, h⟩ := gg_s h
        refine fw_iast hx hb hK hG hP hS gF11.2.2.2.2.1.1 gF11.2.2.2.2.1.2 h18 dX11_goesOn_93 (fun z19 H locs ez19 hP hS => ?_)
        replace h := gl_s h ez19
        refine lv_aload_n hx hb dX11_goesOn_94 rfl (lv_at hl 1 rfl) ?_
        refine fw_geti hx hb hts in_X11_goesOn_X11 hown hK hP gF11.1.1 gF11.1.2 rfl 7 (by decide) rfl (hts _ (List.mem_of_getElem? (i := 1) rfl)) rfl dX11_goesOn_95 ?_
        refine lv_iconst (v := (nI 1)) hx hb dX11_goesOn_98 (by decide) ?_
        refine lv_isub hx hb dX11_goesOn_99 ?_
        refine lv_topi (fun y20 ey20 => ?_)
        replace h := gl_s h ey20
        refine lv_istore (lv' := [(4, .int y20), (3, .int y14), (0, .ref (ad 0)), (1, .int x1), (2, .int x2)]) hx hb dX11_goesOn_100 hl (by decide) rfl (fun ls hl => ?_)
        refine lv_iload_n hx hb dX11_goesOn_102 rfl (lv_at hl 3 rfl) ?_
        refine lv_iconst (v := (nI 1)) hx hb dX11_goesOn_103 (by decide) ?_
        refine lv_iadd hx hb dX11_goesOn_104 ?_
        refine lv_topi (fun y21 ey21 => ?_)
        replace h := gl_s h ey21
        refine lv_istore (lv' := [(5, .int y21), (4, .int y20), (3, .int y14), (0, .ref (ad 0)), (1, .int x1), (2, .int x2)]) hx hb dX11_goesOn_105 hl (by decide) rfl (fun ls hl => ?_)
        exact j107  gF y20 y21 z19 _ _ ls h hP hS (lv_sub hl [3, 1, 0] rfl)
      · replace h := gif_f h c12
        refine lv_iinc (v := x2 + gm1) (lv' := [(2, .int (x2 + gm1)), (0, .ref (ad 0)), (1, .int x1)]) hx hb dX11_goesOn_62 hl (k := 2) rfl rfl (by decide) rfl (fun ls hl => ?_)
        refine lv_goto (tgt := 47) hx hb dX11_goesOn_65 (by decide) ?_
        exact hK47 (x2 + gm1) _ _ ls h hP hS (lv_sub hl [1, 2, 0] rfl)
  have j7 : ∀ (z : gS) (n : Nat) (x1 : Int32) (H : Heap) (locs : List Loc) (ls : Array Slot), f_X11_goesOn_7 z n x1 = some res → va_P D vwCl (gw cA ad shM 22 z) H → va_S (gA ad 22) s.heap H locs → lv_has ls 7 [(0, .ref (ad 0)), (1, .int x1)] → W p l e (headSpec wsX11_goesOn (gRm 0 0)).room s m ([.ref (ad 0)] : List Value).toArray below meth c H locs 0 0 (MQ below (va_Qi (fun r u => (r, u) = res) (gPr D cA ad tw shM 22) (gA ad 22)) ([.ref (ad 0)] : List Value).toArray s 0 0 (gA ad 22)) (F0 m 7 ls []) := by
    intro z n
    induction n with
    | zero => intro x1 H locs ls h; exact (gno h).elim
    | succ n hK7 =>
      intro x1 H locs ls h hP hS hl
      replace h : f_X11_goesOn_7_b z (f_X11_goesOn_7 z n) x1 = some res := h
      unfold f_X11_goesOn_7_b at h
      refine lv_iload_n hx hb dX11_goesOn_7 rfl (lv_at hl 1 rfl) ?_
      refine lv_if_lt (tgt := 34) hx hb dX11_goesOn_8 (by decide) (fun c2 => ?_) (fun c2 => ?_)
      · replace h := gif_t h c2
        refine lv_iload_n hx hb dX11_goesOn_34 rfl (lv_at hl 1 rfl) ?_
        refine lv_if_ge (tgt := 40) hx hb dX11_goesOn_35 (by decide) (fun c3 => ?_) (fun c3 => ?_)
        · replace h := gif_t h c3
          refine lv_aload_n hx hb dX11_goesOn_40 rfl (lv_at hl 0 rfl) ?_
          refine fw_geti hx hb hts in_X11_goesOn_X11 hown hK hP gF11.1.1 gF11.1.2 rfl 7 (by decide) rfl (hts _ (List.mem_of_getElem? (i := 1) rfl)) rfl dX11_goesOn_41 ?_
          refine lv_iconst (v := (nI 1)) hx hb dX11_goesOn_44 (by decide) ?_
          refine lv_isub hx hb dX11_goesOn_45 ?_
          refine lv_topi (fun y4 ey4 => ?_)
          replace h := gl_s h ey4
          refine lv_istore_n (lv' := [(2, .int y4), (0, .ref (ad 0)), (1, .int x1)]) hx hb dX11_goesOn_46 rfl hl (by decide) rfl (fun ls hl => ?_)
          exact j47 z x1 gF y4 _ _ ls h hP hS (lv_sub hl [1, 2, 0] rfl)
        · replace h := gif_f h c3
          refine lv_iconst (v := (nI 0)) hx hb dX11_goesOn_38 (by decide) ?_
          exact fw_iretz hx hb hr hlocks (by decide) (Option.some.inj h) hK hZ hP hS dX11_goesOn_39
      · replace h := gif_f h c2
        refine lv_aload_n hx hb dX11_goesOn_11 rfl (lv_at hl 0 rfl) ?_
        refine fw_getr hx hb hts in_X11_goesOn_X11 hown hK hP gF11.1.1 gF11.1.2 rfl 6 (by decide) rfl (hts _ (List.mem_of_getElem? (i := 2) rfl)) rfl dX11_goesOn_12 ?_
        refine lv_iload_n hx hb dX11_goesOn_15 rfl (lv_at hl 1 rfl) ?_
        obtain ⟨h5, h⟩ := gg_s h
        refine fw_iald hx hb hK hP gF11.2.2.2.2.1.1 gF11.2.2.2.2.1.2 h5 dX11_goesOn_16 ?_
        refine lv_aload_n hx hb dX11_goesOn_17 rfl (lv_at hl 0 rfl) ?_
        refine fw_getr hx hb hts in_X11_goesOn_X11 hown hK hP gF11.1.1 gF11.1.2 rfl 6 (by decide) rfl (hts _ (List.mem_of_getElem? (i := 2) rfl)) rfl dX11_goesOn_18 ?_
        refine lv_iload_n hx hb dX11_goesOn_21 rfl (lv_at hl 1 rfl) ?_
        refine lv_iconst (v := (nI 1)) hx hb dX11_goesOn_22 (by decide) ?_
        refine lv_iadd hx hb dX11_goesOn_23 ?_
        obtain ⟨h6, h⟩ := gg_s h
        refine fw_iald hx hb hK hP gF11.2.2.2.2.1.1 gF11.2.2.2.2.1.2 h6 dX11_goesOn_24 ?_
        refine lv_icmp_le (tgt := 34) hx hb dX11_goesOn_25 (by decide) (fun c7 => ?_) (fun c7 => ?_)
        · replace h := gif_t h c7
          refine lv_iload_n hx hb dX11_goesOn_34 rfl (lv_at hl 1 rfl) ?_
          refine lv_if_ge (tgt := 40) hx hb dX11_goesOn_35 (by decide) (fun c8 => ?_) (fun c8 => ?_)
          · replace h := gif_t h c8
            refine lv_aload_n hx hb dX11_goesOn_40 rfl (lv_at hl 0 rfl) ?_
            refine fw_geti hx hb hts in_X11_goesOn_X11 hown hK hP gF11.1.1 gF11.1.2 rfl 7 (by decide) rfl (hts _ (List.mem_of_getElem? (i := 1) rfl)) rfl dX11_goesOn_41 ?_
            refine lv_iconst (v := (nI 1)) hx hb dX11_goesOn_44 (by decide) ?_
            refine lv_isub hx hb dX11_goesOn_45 ?_
            refine lv_topi (fun y9 ey9 => ?_)
            replace h := gl_s h ey9
            refine lv_istore_n (lv' := [(2, .int y9), (0, .ref (ad 0)), (1, .int x1)]) hx hb dX11_goesOn_46 rfl hl (by decide) rfl (fun ls hl => ?_)
            exact j47 z x1 gF y9 _ _ ls h hP hS (lv_sub hl [1, 2, 0] rfl)
          · replace h := gif_f h c8
            refine lv_iconst (v := (nI 0)) hx hb dX11_goesOn_38 (by decide) ?_
            exact fw_iretz hx hb hr hlocks (by decide) (Option.some.inj h) hK hZ hP hS dX11_goesOn_39
        · replace h := gif_f h c7
          refine lv_iinc (v := x1 + gm1) (lv' := [(1, .int (x1 + gm1)), (0, .ref (ad 0))]) hx hb dX11_goesOn_28 hl (k := 1) rfl rfl (by decide) rfl (fun ls hl => ?_)
          refine lv_goto (tgt := 7) hx hb dX11_goesOn_31 (by decide) ?_
          exact hK7 (x1 + gm1) _ _ ls h hP hS (lv_sub hl [1, 0] rfl)
  unfold f_X11_goesOn at h
  refine lv_aload_n hx hb dX11_goesOn_0 rfl (lv_at hl 0 rfl) ?_
  refine fw_geti hx hb hts in_X11_goesOn_X11 hown hK hP gF11.1.1 gF11.1.2 rfl 7 (by decide) rfl (hts _ (List.mem_of_getElem? (i := 1) rfl)) rfl dX11_goesOn_1 ?_
  refine lv_iconst (v := (nI 2)) hx hb dX11_goesOn_4 (by decide) ?_
  refine lv_isub hx hb dX11_goesOn_5 ?_
  refine lv_topi (fun y1 ey1 => ?_)
  replace h := gl_s h ey1
  refine lv_istore_n (lv' := [(1, .int y1), (0, .ref (ad 0))]) hx hb dX11_goesOn_6 rfl hl (by decide) rfl (fun ls hl => ?_)
  exact j7 z  gF y1 _ _ ls h hP hS (lv_sub hl [1, 0] rfl)
theorem in_X11_gapsOf_X11 : ∀ w ∈ wsX110, w ∈ wsX11_gapsOf := fun w h => List.mem_cons_of_mem _ (List.mem_append_right _ (h))
theorem hdV_X11_gapsOf : yX11_gapsOf.cls = RX11 ∧ yX11_gapsOf.cls ≠ "java/lang/invoke/MethodHandle" ∧ yX11_gapsOf.cls ≠ "java/lang/invoke/VarHandle" ∧ (parseMethodDescriptor yX11_gapsOf.desc).map (fun d => d.parameters.length) = some 1 := by decide +kernel
set_option maxHeartbeats 4000000 in
set_option maxRecDepth 100000 in
theorem k_X11_gapsOf (l : Launch) (D : va_G) (cA : Nat → ClassId) (ad : Nat → Nat) (tw : Nat) (hG : gOk ad 22) (z : gS) (a1 : Int32) (res : Int32) (h : f_X11_gapsOf a1 z = some res) : gMi l yX11_gapsOf wsX11_gapsOf (gRm 1 21) D cA ad tw shM 22 [.ref (ad 0), .int a1] z (res, z) := by
  refine Met.ofW (cc := cX11_gapsOf) (maxL := 6) (ret := (some .int)) (by decide) rfl ?_
  intro p e s m args below meth c s₁ B hml hv
  obtain ⟨rfl, hP, hK, hZ⟩ := hv
  have hx := B.exec
  have hb := B.bytes
  have hr := B.returns
  have hts := atoms_spec (ws := wsX11_gapsOf) B.pre
  have hown : s.vm.findClass RX11 = some m.cls := findClass_of_methodNamed B.named
  have hlocks := B.notSynchronized
  have hS : va_S (gA ad 22) s.heap s.heap [] := va_S.rf
  have hl := lv_entry ([.ref (ad 0), .int a1]) (n := 6) (Nat.le_of_ble_eq_true rfl)
  rw [lg_entry_eq]
  generalize (lg_sl ([.ref (ad 0), .int a1]) ++ List.replicate (6 - (lg_sl ([.ref (ad 0), .int a1])).length) Slot.unset).toArray = ls at hl ⊢
  have hl : lv_has ls 6 [(0, .ref (ad 0)), (1, .int a1)] := hl
  have j10 : ∀ (x1 : Int32) (n : Nat) (x2 : Int32) (x3 : Int32) (x4 : Int32) (x5 : Int32) (H : Heap) (locs : List Loc) (ls : Array Slot), f_X11_gapsOf_10 z x1 n x2 x3 x4 x5 = some res → va_P D vwCl (gw cA ad shM 22 z) H → va_S (gA ad 22) s.heap H locs → lv_has ls 6 [(0, .ref (ad 0)), (1, .int x1), (2, .int x2), (3, .int x3), (4, .int x4), (5, .int x5)] → W p l e (headSpec wsX11_gapsOf (gRm 1 21)).room s m ([.ref (ad 0), .int a1] : List Value).toArray below meth c H locs 0 0 (MQ below (va_Qi (fun r u => (r, u) = (res, z)) (gPr D cA ad tw shM 22) (gA ad 22)) ([.ref (ad 0), .int a1] : List Value).toArray s 0 0 (gA ad 22)) (F0 m 10 ls []) := by
    intro x1 n
    induction n with
    | zero => intro x2 x3 x4 x5 H locs ls h; exact (gno h).elim
    | succ n hK10 =>
      intro x2 x3 x4 x5 H locs ls h hP hS hl
      replace h : f_X11_gapsOf_10_b z x1 (f_X11_gapsOf_10 z x1 n) x2 x3 x4 x5 = some res := h
      unfold f_X11_gapsOf_10_b at h
      refine lv_iload hx hb dX11_gapsOf_10 (lv_at hl 5 rfl) ?_
      refine lv_aload_n hx hb dX11_gapsOf_12 rfl (lv_at hl 0 rfl) ?_
      refine fw_geti hx hb hts in_X11_gapsOf_X11 hown hK hP gF11.1.1 gF11.1.2 rfl 7 (by decide) rfl (hts _ (List.mem_of_getElem? (i := 1) rfl)) rfl dX11_gapsOf_13 ?_
      refine lv_icmp_ge (tgt := 65) hx hb dX11_gapsOf_16 (by decide) (fun c1 => ?_) (fun c1 => ?_)
      · replace h := gif_t h c1
        refine lv_iload hx hb dX11_gapsOf_65 (lv_at hl 4 rfl) ?_
        refine lv_if_ne (tgt := 74) hx hb dX11_gapsOf_67 (by decide) (fun c2 => ?_) (fun c2 => ?_)
        · replace h := gif_f h c2
          refine lv_iload_n hx hb dX11_gapsOf_74 rfl (lv_at hl 3 rfl) ?_
          refine lv_iload_n hx hb dX11_gapsOf_75 rfl (lv_at hl 2 rfl) ?_
          refine lv_isub hx hb dX11_gapsOf_76 ?_
          refine lv_iconst (v := (nI 1)) hx hb dX11_gapsOf_77 (by decide) ?_
          refine lv_iadd hx hb dX11_gapsOf_78 ?_
          refine lv_iload hx hb dX11_gapsOf_79 (lv_at hl 4 rfl) ?_
          refine lv_isub hx hb dX11_gapsOf_81 ?_
          exact fw_ireti hx hb hr hlocks (congrArg (fun q => (q, z)) (Option.some.inj h)) hK hZ hP hS dX11_gapsOf_82
        · replace h := gif_t h c2
          refine lv_iconst (v := (nI 0)) hx hb dX11_gapsOf_70 (by decide) ?_
          refine lv_goto (tgt := 82) hx hb dX11_gapsOf_71 (by decide) ?_
          exact fw_ireti hx hb hr hlocks (congrArg (fun q => (q, z)) (Option.some.inj h)) hK hZ hP hS dX11_gapsOf_82
      · replace h := gif_f h c1
        refine lv_aload_n hx hb dX11_gapsOf_19 rfl (lv_at hl 0 rfl) ?_
        refine fw_getr hx hb hts in_X11_gapsOf_X11 hown hK hP gF11.1.1 gF11.1.2 rfl 4 (by decide) rfl (hts _ (List.mem_of_getElem? (i := 2) rfl)) rfl dX11_gapsOf_20 ?_
        refine lv_aload_n hx hb dX11_gapsOf_23 rfl (lv_at hl 0 rfl) ?_
        refine fw_getr hx hb hts in_X11_gapsOf_X11 hown hK hP gF11.1.1 gF11.1.2 rfl 6 (by decide) rfl (hts _ (List.mem_of_getElem? (i := 3) rfl)) rfl dX11_gapsOf_24 ?_
        refine lv_iload hx hb dX11_gapsOf_27 (lv_at hl 5 rfl) ?_
        obtain ⟨h3, h⟩ := gg_s h
        refine fw_iald hx hb hK hP gF11.2.2.2.2.1.1 gF11.2.2.2.2.1.2 h3 dX11_gapsOf_29 ?_
        obtain ⟨h4, h⟩ := gg_s h
        refine fw_iald hx hb hK hP gF11.2.2.1.1 gF11.2.2.1.2 h4 dX11_gapsOf_30 ?_
        refine lv_iload_n hx hb dX11_gapsOf_31 rfl (lv_at hl 1 rfl) ?_
        obtain ⟨q5, hq5, h⟩ := gb_s h
        refine fw_siR (As := [.int (z 2 (z 4 x5.toNatClampNeg).toNatClampNeg), .int x1]) (rest := []) ⟨hx, hb, hml, hown, hts⟩ (k_X11_has l D cA ad tw hG z (z 2 (z 4 x5.toNatClampNeg).toNatClampNeg) x1 q5 hq5) (va_cwS 2 hts gX11_gapsOf_X11_has rfl rfl rfl hdS_X11_has ⟨Nat.le_of_ble_eq_true rfl, Nat.le_of_ble_eq_true rfl⟩) hK hZ hP rfl hl _ rfl (Nat.le_of_ble_eq_true rfl) hS dX11_gapsOf_32 ⟨Nat.zero_le _, Nat.zero_le _⟩ (fun H locs hP hS => ?_)
        refine lv_if_ne (tgt := 41) hx hb dX11_gapsOf_35 (by decide) (fun c6 => ?_) (fun c6 => ?_)
        · replace h := gif_f h c6
          refine lv_iload_n hx hb dX11_gapsOf_41 rfl (lv_at hl 2 rfl) ?_
          refine lv_iconst (v := gm1) hx hb dX11_gapsOf_42 (by decide) ?_
          refine lv_icmp_ne (tgt := 51) hx hb dX11_gapsOf_43 (by decide) (fun c7 => ?_) (fun c7 => ?_)
          · replace h := gif_f h c7
            refine lv_iload_n hx hb dX11_gapsOf_51 rfl (lv_at hl 2 rfl) ?_
            refine lv_istore_n (lv' := [(2, .int x2), (0, .ref (ad 0)), (1, .int x1), (3, .int x3), (4, .int x4), (5, .int x5)]) hx hb dX11_gapsOf_52 rfl hl (by decide) rfl (fun ls hl => ?_)
            refine lv_iload hx hb dX11_gapsOf_53 (lv_at hl 5 rfl) ?_
            refine lv_istore_n (lv' := [(3, .int x5), (2, .int x2), (0, .ref (ad 0)), (1, .int x1), (4, .int x4), (5, .int x5)]) hx hb dX11_gapsOf_55 rfl hl (by decide) rfl (fun ls hl => ?_)
            refine lv_iinc (v := x4 + (nI 1)) (lv' := [(4, .int (x4 + (nI 1))), (3, .int x5), (2, .int x2), (0, .ref (ad 0)), (1, .int x1), (5, .int x5)]) hx hb dX11_gapsOf_56 hl (k := 4) rfl rfl (by decide) rfl (fun ls hl => ?_)
            refine lv_iinc (v := x5 + (nI 1)) (lv' := [(5, .int (x5 + (nI 1))), (4, .int (x4 + (nI 1))), (3, .int x5), (2, .int x2), (0, .ref (ad 0)), (1, .int x1)]) hx hb dX11_gapsOf_59 hl (k := 5) rfl rfl (by decide) rfl (fun ls hl => ?_)
            refine lv_goto (tgt := 10) hx hb dX11_gapsOf_62 (by decide) ?_
            exact hK10 x2 x5 (x4 + (nI 1)) (x5 + (nI 1)) _ _ ls h hP hS (lv_sub hl [4, 5, 3, 2, 1, 0] rfl)
          · replace h := gif_t h c7
            refine lv_iload hx hb dX11_gapsOf_46 (lv_at hl 5 rfl) ?_
            refine lv_goto (tgt := 52) hx hb dX11_gapsOf_48 (by decide) ?_
            refine lv_istore_n (lv' := [(2, .int x5), (0, .ref (ad 0)), (1, .int x1), (3, .int x3), (4, .int x4), (5, .int x5)]) hx hb dX11_gapsOf_52 rfl hl (by decide) rfl (fun ls hl => ?_)
            refine lv_iload hx hb dX11_gapsOf_53 (lv_at hl 5 rfl) ?_
            refine lv_istore_n (lv' := [(3, .int x5), (2, .int x5), (0, .ref (ad 0)), (1, .int x1), (4, .int x4), (5, .int x5)]) hx hb dX11_gapsOf_55 rfl hl (by decide) rfl (fun ls hl => ?_)
            refine lv_iinc (v := x4 + (nI 1)) (lv' := [(4, .int (x4 + (nI 1))), (3, .int x5), (2, .int x5), (0, .ref (ad 0)), (1, .int x1), (5, .int x5)]) hx hb dX11_gapsOf_56 hl (k := 4) rfl rfl (by decide) rfl (fun ls hl => ?_)
            refine lv_iinc (v := x5 + (nI 1)) (lv' := [(5, .int (x5 + (nI 1))), (4, .int (x4 + (nI 1))), (3, .int x5), (2, .int x5), (0, .ref (ad 0)), (1, .int x1)]) hx hb dX11_gapsOf_59 hl (k := 5) rfl rfl (by decide) rfl (fun ls hl => ?_)
            refine lv_goto (tgt := 10) hx hb dX11_gapsOf_62 (by decide) ?_
            exact hK10 x5 x5 (x4 + (nI 1)) (x5 + (nI 1)) _ _ ls h hP hS (lv_sub hl [4, 5, 3, 2, 1, 0] rfl)
        · replace h := gif_t h c6
          refine lv_goto (tgt := 59) hx hb dX11_gapsOf_38 (by decide) ?_
          refine lv_iinc (v := x5 + (nI 1)) (lv' := [(5, .int (x5 + (nI 1))), (0, .ref (ad 0)), (1, .int x1), (2, .int x2), (3, .int x3), (4, .int x4)]) hx hb dX11_gapsOf_59 hl (k := 5) rfl rfl (by decide) rfl (fun ls hl => ?_)
          refine lv_goto (tgt := 10) hx hb dX11_gapsOf_62 (by decide) ?_
          exact hK10 x2 x3 x4 (x5 + (nI 1)) _ _ ls h hP hS (lv_sub hl [1, 2, 3, 4, 5, 0] rfl)
  unfold f_X11_gapsOf at h
  refine lv_iconst (v := gm1) hx hb dX11_gapsOf_0 (by decide) ?_
  refine lv_istore_n (lv' := [(2, .int gm1), (0, .ref (ad 0)), (1, .int a1)]) hx hb dX11_gapsOf_1 rfl hl (by decide) rfl (fun ls hl => ?_)
  refine lv_iconst (v := gm1) hx hb dX11_gapsOf_2 (by decide) ?_
  refine lv_istore_n (lv' := [(3, .int gm1), (2, .int gm1), (0, .ref (ad 0)), (1, .int a1)]) hx hb dX11_gapsOf_3 rfl hl (by decide) rfl (fun ls hl => ?_)
  refine lv_iconst (v := (nI 0)) hx hb dX11_gapsOf_4 (by decide) ?_
  refine lv_istore (lv' := [(4, .int (nI 0)), (3, .int gm1), (2, .int gm1), (0, .ref (ad 0)), (1, .int a1)]) hx hb dX11_gapsOf_5 hl (by decide) rfl (fun ls hl => ?_)
  refine lv_iconst (v := (nI 0)) hx hb dX11_gapsOf_7 (by decide) ?_
  refine lv_istore (lv' := [(5, .int (nI 0)), (4, .int (nI 0)), (3, .int gm1), (2, .int gm1), (0, .ref (ad 0)), (1, .int a1)]) hx hb dX11_gapsOf_8 hl (by decide) rfl (fun ls hl => ?_)
  exact j10 a1 gF gm1 gm1 (nI 0) (nI 0) _ _ ls h hP hS (lv_sub hl [4, 5, 3, 2, 1, 0] rfl)
theorem in_X11_gapsNow_X11 : ∀ w ∈ wsX110, w ∈ wsX11_gapsNow := fun w h => List.mem_cons_of_mem _ (List.mem_append_right _ (h))
theorem hdV_X11_gapsNow : yX11_gapsNow.cls = RX11 ∧ yX11_gapsNow.cls ≠ "java/lang/invoke/MethodHandle" ∧ yX11_gapsNow.cls ≠ "java/lang/invoke/VarHandle" ∧ (parseMethodDescriptor yX11_gapsNow.desc).map (fun d => d.parameters.length) = some 0 := by decide +kernel
set_option maxHeartbeats 4000000 in
set_option maxRecDepth 100000 in
theorem k_X11_gapsNow (l : Launch) (D : va_G) (cA : Nat → ClassId) (ad : Nat → Nat) (tw : Nat) (hG : gOk ad 22) (z : gS)  (res : Int32) (h : f_X11_gapsNow  z = some res) : gMi l yX11_gapsNow wsX11_gapsNow (gRm 2 46) D cA ad tw shM 22 [.ref (ad 0)] z (res, z) := by
  refine Met.ofW (cc := cX11_gapsNow) (maxL := 3) (ret := (some .int)) (by decide) rfl ?_
  intro p e s m args below meth c s₁ B hml hv
  obtain ⟨rfl, hP, hK, hZ⟩ := hv
  have hx := B.exec
  have hb := B.bytes
  have hr := B.returns
  have hts := atoms_spec (ws := wsX11_gapsNow) B.pre
  have hown : s.vm.findClass RX11 = some m.cls := findClass_of_methodNamed B.named
  have hlocks := B.notSynchronized
  have hS : va_S (gA ad 22) s.heap s.heap [] := va_S.rf
  have hl := lv_entry ([.ref (ad 0)]) (n := 3) (Nat.le_of_ble_eq_true rfl)
  rw [lg_entry_eq]
  generalize (lg_sl ([.ref (ad 0)]) ++ List.replicate (3 - (lg_sl ([.ref (ad 0)])).length) Slot.unset).toArray = ls at hl ⊢
  have hl : lv_has ls 3 [(0, .ref (ad 0))] := hl
  have j4 : ∀  (n : Nat) (x1 : Int32) (x2 : Int32) (H : Heap) (locs : List Loc) (ls : Array Slot), f_X11_gapsNow_4 z n x1 x2 = some res → va_P D vwCl (gw cA ad shM 22 z) H → va_S (gA ad 22) s.heap H locs → lv_has ls 3 [(0, .ref (ad 0)), (1, .int x1), (2, .int x2)] → W p l e (headSpec wsX11_gapsNow (gRm 2 46)).room s m ([.ref (ad 0)] : List Value).toArray below meth c H locs 0 0 (MQ below (va_Qi (fun r u => (r, u) = (res, z)) (gPr D cA ad tw shM 22) (gA ad 22)) ([.ref (ad 0)] : List Value).toArray s 0 0 (gA ad 22)) (F0 m 4 ls []) := by
    intro n
    induction n with
    | zero => intro x1 x2 H locs ls h; exact (gno h).elim
    | succ n hK4 =>
      intro x1 x2 H locs ls h hP hS hl
      replace h : f_X11_gapsNow_4_b z (f_X11_gapsNow_4 z n) x1 x2 = some res := h
      unfold f_X11_gapsNow_4_b at h
      refine lv_iload_n hx hb dX11_gapsNow_4 rfl (lv_at hl 2 rfl) ?_
      refine lv_aload_n hx hb dX11_gapsNow_5 rfl (lv_at hl 0 rfl) ?_
      refine fw_geti hx hb hts in_X11_gapsNow_X11 hown hK hP gF11.1.1 gF11.1.2 rfl 2 (by decide) rfl (hts _ (List.mem_of_getElem? (i := 1) rfl)) rfl dX11_gapsNow_6 ?_
      refine lv_icmp_ge (tgt := 41) hx hb dX11_gapsNow_9 (by decide) (fun c1 => ?_) (fun c1 => ?_)
      · replace h := gif_t h c1
        refine lv_iload_n hx hb dX11_gapsNow_41 rfl (lv_at hl 1 rfl) ?_
        exact fw_ireti hx hb hr hlocks (congrArg (fun q => (q, z)) (Option.some.inj h)) hK hZ hP hS dX11_gapsNow_42
      · replace h := gif_f h c1
        refine lv_iload_n hx hb dX11_gapsNow_12 rfl (lv_at hl 1 rfl) ?_
        refine lv_aload_n hx hb dX11_gapsNow_13 rfl (lv_at hl 0 rfl) ?_
        refine fw_geti hx hb hts in_X11_gapsNow_X11 hown hK hP gF11.1.1 gF11.1.2 rfl 8 (by decide) rfl (hts _ (List.mem_of_getElem? (i := 2) rfl)) rfl dX11_gapsNow_14 ?_
        refine lv_iload_n hx hb dX11_gapsNow_17 rfl (lv_at hl 2 rfl) ?_
        obtain ⟨q2, hq2, h⟩ := gb_s h
        refine fw_siR (As := [.int (z 0 8), .int x2]) (rest := [.int x1]) ⟨hx, hb, hml, hown, hts⟩ (k_X11_has l D cA ad tw hG z (z 0 8) x2 q2 hq2) (va_cwS 2 hts gX11_gapsNow_X11_has rfl rfl rfl hdS_X11_has ⟨Nat.le_of_ble_eq_true rfl, Nat.le_of_ble_eq_true rfl⟩) hK hZ hP rfl hl _ rfl (Nat.le_of_ble_eq_true rfl) hS dX11_gapsNow_18 ⟨Nat.zero_le _, Nat.zero_le _⟩ (fun H locs hP hS => ?_)
        refine lv_if_eq (tgt := 32) hx hb dX11_gapsNow_21 (by decide) (fun c3 => ?_) (fun c3 => ?_)
        · replace h := gif_t h c3
          refine lv_iconst (v := (nI 0)) hx hb dX11_gapsNow_32 (by decide) ?_
          refine lv_iadd hx hb dX11_gapsNow_33 ?_
          refine lv_topi (fun y4 ey4 => ?_)
          replace h := gl_s h ey4
          refine lv_istore_n (lv' := [(1, .int y4), (0, .ref (ad 0)), (2, .int x2)]) hx hb dX11_gapsNow_34 rfl hl (by decide) rfl (fun ls hl => ?_)
          refine lv_iinc (v := x2 + (nI 1)) (lv' := [(2, .int (x2 + (nI 1))), (1, .int y4), (0, .ref (ad 0))]) hx hb dX11_gapsNow_35 hl (k := 2) rfl rfl (by decide) rfl (fun ls hl => ?_)
          refine lv_goto (tgt := 4) hx hb dX11_gapsNow_38 (by decide) ?_
          exact hK4 y4 (x2 + (nI 1)) _ _ ls h hP hS (lv_sub hl [2, 1, 0] rfl)
        · replace h := gif_f h c3
          refine lv_aload_n hx hb dX11_gapsNow_24 rfl (lv_at hl 0 rfl) ?_
          refine lv_iload_n hx hb dX11_gapsNow_25 rfl (lv_at hl 2 rfl) ?_
          obtain ⟨q5, hq5, h⟩ := gb_s h
          refine fw_viR (As := [.int x2]) (rest := [.int x1]) ⟨hx, hb, hml, hown, hts⟩ (k_X11_gapsOf l D cA ad tw hG z x2 q5 hq5) (cwV 1 hts gX11_gapsNow_X11_gapsOf rfl rfl rfl hdV_X11_gapsOf ⟨Nat.le_of_ble_eq_true rfl, Nat.le_of_ble_eq_true rfl⟩) (fw_preV gF11.1.1 gF11.1.2 rfl rfl hK hZ hP hS) rfl hl _ rfl (Nat.le_of_ble_eq_true rfl) hS dX11_gapsNow_26 ⟨Nat.zero_le _, Nat.zero_le _⟩ (fun H locs hP hS => ?_)
          refine lv_goto (tgt := 33) hx hb dX11_gapsNow_29 (by decide) ?_
          refine lv_iadd hx hb dX11_gapsNow_33 ?_
          refine lv_topi (fun y6 ey6 => ?_)
          replace h := gl_s h ey6
          refine lv_istore_n (lv' := [(1, .int y6), (0, .ref (ad 0)), (2, .int x2)]) hx hb dX11_gapsNow_34 rfl hl (by decide) rfl (fun ls hl => ?_)
          refine lv_iinc (v := x2 + (nI 1)) (lv' := [(2, .int (x2 + (nI 1))), (1, .int y6), (0, .ref (ad 0))]) hx hb dX11_gapsNow_35 hl (k := 2) rfl rfl (by decide) rfl (fun ls hl => ?_)
          refine lv_goto (tgt := 4) hx hb dX11_gapsNow_38 (by decide) ?_
          exact hK4 y6 (x2 + (nI 1)) _ _ ls h hP hS (lv_sub hl [2, 1, 0] rfl)
  unfold f_X11_gapsNow at h
  refine lv_iconst (v := (nI 0)) hx hb dX11_gapsNow_0 (by decide) ?_
  refine lv_istore_n (lv' := [(1, .int (nI 0)), (0, .ref (ad 0))]) hx hb dX11_gapsNow_1 rfl hl (by decide) rfl (fun ls hl => ?_)
  refine lv_iconst (v := (nI 0)) hx hb dX11_gapsNow_2 (by decide) ?_
  refine lv_istore_n (lv' := [(2, .int (nI 0)), (1, .int (nI 0)), (0, .ref (ad 0))]) hx hb dX11_gapsNow_3 rfl hl (by decide) rfl (fun ls hl => ?_)
  exact j4  gF (nI 0) (nI 0) _ _ ls h hP hS (lv_sub hl [2, 1, 0] rfl)
theorem in_X11_digits_X11 : ∀ w ∈ wsX110, w ∈ wsX11_digits := fun w h => List.mem_cons_of_mem _ (List.mem_append_right _ (h))
theorem hdV_X11_digits : yX11_digits.cls = RX11 ∧ yX11_digits.cls ≠ "java/lang/invoke/MethodHandle" ∧ yX11_digits.cls ≠ "java/lang/invoke/VarHandle" ∧ (parseMethodDescriptor yX11_digits.desc).map (fun d => d.parameters.length) = some 0 := by decide +kernel
set_option maxHeartbeats 4000000 in
set_option maxRecDepth 100000 in
theorem k_X11_digits (l : Launch) (D : va_G) (cA : Nat → ClassId) (ad : Nat → Nat) (tw : Nat) (hG : gOk ad 22) (z : gS)  (res : Int32) (h : f_X11_digits  z = some res) : gMi l yX11_digits wsX11_digits (gRm 0 0) D cA ad tw shM 22 [.ref (ad 0)] z (res, z) := by
  refine Met.ofW (cc := cX11_digits) (maxL := 3) (ret := (some .int)) (by decide) rfl ?_
  intro p e s m args below meth c s₁ B hml hv
  obtain ⟨rfl, hP, hK, hZ⟩ := hv
  have hx := B.exec
  have hb := B.bytes
  have hr := B.returns
  have hts := atoms_spec (ws := wsX11_digits) B.pre
  have hown : s.vm.findClass RX11 = some m.cls := findClass_of_methodNamed B.named
  have hlocks := B.notSynchronized
  have hS : va_S (gA ad 22) s.heap s.heap [] := va_S.rf
  have hl := lv_entry ([.ref (ad 0)]) (n := 3) (Nat.le_of_ble_eq_true rfl)
  rw [lg_entry_eq]
  generalize (lg_sl ([.ref (ad 0)]) ++ List.replicate (3 - (lg_sl ([.ref (ad 0)])).length) Slot.unset).toArray = ls at hl ⊢
  have hl : lv_has ls 3 [(0, .ref (ad 0))] := hl
  have j4 : ∀  (n : Nat) (x1 : Int32) (x2 : Int32) (H : Heap) (locs : List Loc) (ls : Array Slot), f_X11_digits_4 z n x1 x2 = some res → va_P D vwCl (gw cA ad shM 22 z) H → va_S (gA ad 22) s.heap H locs → lv_has ls 3 [(0, .ref (ad 0)), (1, .int x1), (2, .int x2)] → W p l e (headSpec wsX11_digits (gRm 0 0)).room s m ([.ref (ad 0)] : List Value).toArray below meth c H locs 0 0 (MQ below (va_Qi (fun r u => (r, u) = (res, z)) (gPr D cA ad tw shM 22) (gA ad 22)) ([.ref (ad 0)] : List Value).toArray s 0 0 (gA ad 22)) (F0 m 4 ls []) := by
    intro n
    induction n with
    | zero => intro x1 x2 H locs ls h; exact (gno h).elim
    | succ n hK4 =>
      intro x1 x2 H locs ls h hP hS hl
      replace h : f_X11_digits_4_b z (f_X11_digits_4 z n) x1 x2 = some res := h
      unfold f_X11_digits_4_b at h
      refine lv_iload_n hx hb dX11_digits_4 rfl (lv_at hl 2 rfl) ?_
      refine lv_aload_n hx hb dX11_digits_5 rfl (lv_at hl 0 rfl) ?_
      refine fw_geti hx hb hts in_X11_digits_X11 hown hK hP gF11.1.1 gF11.1.2 rfl 7 (by decide) rfl (hts _ (List.mem_of_getElem? (i := 1) rfl)) rfl dX11_digits_6 ?_
      refine lv_icmp_ge (tgt := 32) hx hb dX11_digits_9 (by decide) (fun c1 => ?_) (fun c1 => ?_)
      · replace h := gif_t h c1
        refine lv_iload_n hx hb dX11_digits_32 rfl (lv_at hl 1 rfl) ?_
        exact fw_ireti hx hb hr hlocks (congrArg (fun q => (q, z)) (Option.some.inj h)) hK hZ hP hS dX11_digits_33
      · replace h := gif_f h c1
        refine lv_bipush (v := (nI 10)) hx hb dX11_digits_12 (by decide) ?_
        refine lv_iload_n hx hb dX11_digits_14 rfl (lv_at hl 1 rfl) ?_
        refine lv_imul hx hb dX11_digits_15 ?_
        refine lv_aload_n hx hb dX11_digits_16 rfl (lv_at hl 0 rfl) ?_
        refine fw_getr hx hb hts in_X11_digits_X11 hown hK hP gF11.1.1 gF11.1.2 rfl 6 (by decide) rfl (hts _ (List.mem_of_getElem? (i := 2) rfl)) rfl dX11_digits_17 ?_
        refine lv_iload_n hx hb dX11_digits_20 rfl (lv_at hl 2 rfl) ?_
        obtain ⟨h2, h⟩ := gg_s h
        refine fw_iald hx hb hK hP gF11.2.2.2.2.1.1 gF11.2.2.2.2.1.2 h2 dX11_digits_21 ?_
        refine lv_iadd hx hb dX11_digits_22 ?_
        refine lv_iconst (v := (nI 1)) hx hb dX11_digits_23 (by decide) ?_
        refine lv_iadd hx hb dX11_digits_24 ?_
        refine lv_topi (fun y3 ey3 => ?_)
        replace h := gl_s h ey3
        refine lv_istore_n (lv' := [(1, .int y3), (0, .ref (ad 0)), (2, .int x2)]) hx hb dX11_digits_25 rfl hl (by decide) rfl (fun ls hl => ?_)
        refine lv_iinc (v := x2 + (nI 1)) (lv' := [(2, .int (x2 + (nI 1))), (1, .int y3), (0, .ref (ad 0))]) hx hb dX11_digits_26 hl (k := 2) rfl rfl (by decide) rfl (fun ls hl => ?_)
        refine lv_goto (tgt := 4) hx hb dX11_digits_29 (by decide) ?_
        exact hK4 y3 (x2 + (nI 1)) _ _ ls h hP hS (lv_sub hl [2, 1, 0] rfl)
  unfold f_X11_digits at h
  refine lv_iconst (v := (nI 0)) hx hb dX11_digits_0 (by decide) ?_
  refine lv_istore_n (lv' := [(1, .int (nI 0)), (0, .ref (ad 0))]) hx hb dX11_digits_1 rfl hl (by decide) rfl (fun ls hl => ?_)
  refine lv_iconst (v := (nI 0)) hx hb dX11_digits_2 (by decide) ?_
  refine lv_istore_n (lv' := [(2, .int (nI 0)), (1, .int (nI 0)), (0, .ref (ad 0))]) hx hb dX11_digits_3 rfl hl (by decide) rfl (fun ls hl => ?_)
  exact j4  gF (nI 0) (nI 0) _ _ ls h hP hS (lv_sub hl [2, 1, 0] rfl)
theorem in_X11_gaplessOnes_X11 : ∀ w ∈ wsX110, w ∈ wsX11_gaplessOnes := fun w h => List.mem_cons_of_mem _ (List.mem_append_right _ (h))
theorem hdV_X11_gaplessOnes : yX11_gaplessOnes.cls = RX11 ∧ yX11_gaplessOnes.cls ≠ "java/lang/invoke/MethodHandle" ∧ yX11_gaplessOnes.cls ≠ "java/lang/invoke/VarHandle" ∧ (parseMethodDescriptor yX11_gaplessOnes.desc).map (fun d => d.parameters.length) = some 0 := by decide +kernel
set_option maxHeartbeats 4000000 in
set_option maxRecDepth 100000 in
theorem k_X11_gaplessOnes (l : Launch) (D : va_G) (cA : Nat → ClassId) (ad : Nat → Nat) (tw : Nat) (hG : gOk ad 22) (z : gS)  (res : gS) (h : f_X11_gaplessOnes  z = some res) : gMv l yX11_gaplessOnes wsX11_gaplessOnes (gRm 3 68) D cA ad tw shM 22 [.ref (ad 0)] z res := by
  refine Met.ofW (cc := cX11_gaplessOnes) (maxL := 2) (ret := none) (by decide) rfl ?_
  intro p e s m args below meth c s₁ B hml hv
  obtain ⟨rfl, hP, hK, hZ⟩ := hv
  have hx := B.exec
  have hb := B.bytes
  have hr := B.returns
  have hts := atoms_spec (ws := wsX11_gaplessOnes) B.pre
  have hown : s.vm.findClass RX11 = some m.cls := findClass_of_methodNamed B.named
  have hlocks := B.notSynchronized
  have hS : va_S (gA ad 22) s.heap s.heap [] := va_S.rf
  have hl := lv_entry ([.ref (ad 0)]) (n := 2) (Nat.le_of_ble_eq_true rfl)
  rw [lg_entry_eq]
  generalize (lg_sl ([.ref (ad 0)]) ++ List.replicate (2 - (lg_sl ([.ref (ad 0)])).length) Slot.unset).toArray = ls at hl ⊢
  have hl : lv_has ls 2 [(0, .ref (ad 0))] := hl
  have j11 : ∀  (n : Nat) (x1 : Int32) (z : gS) (H : Heap) (locs : List Loc) (ls : Array Slot), f_X11_gaplessOnes_11  n x1 z = some res → va_P D vwCl (gw cA ad shM 22 z) H → va_S (gA ad 22) s.heap H locs → lv_has ls 2 [(0, .ref (ad 0)), (1, .int x1)] → W p l e (headSpec wsX11_gaplessOnes (gRm 3 68)).room s m ([.ref (ad 0)] : List Value).toArray below meth c H locs 0 0 (MQ below (va_Qv (fun u => u = res) (gPr D cA ad tw shM 22) (gA ad 22)) ([.ref (ad 0)] : List Value).toArray s 0 0 (gA ad 22)) (F0 m 11 ls []) := by
    intro n
    induction n with
    | zero => intro x1 z H locs ls h; exact (gno h).elim
    | succ n hK11 =>
      intro x1 z H locs ls h hP hS hl
      replace h : f_X11_gaplessOnes_11_b  (f_X11_gaplessOnes_11  n) x1 z = some res := h
      unfold f_X11_gaplessOnes_11_b at h
      refine lv_iload_n hx hb dX11_gaplessOnes_11 rfl (lv_at hl 1 rfl) ?_
      refine lv_if_eq (tgt := 53) hx hb dX11_gaplessOnes_12 (by decide) (fun c3 => ?_) (fun c3 => ?_)
      · replace h := gif_t h c3
        exact fw_vret hx hb hr hlocks (Option.some.inj h) hK hZ hP hS dX11_gaplessOnes_53
      · replace h := gif_f h c3
        refine lv_aload_n hx hb dX11_gaplessOnes_15 rfl (lv_at hl 0 rfl) ?_
        obtain ⟨q4, hq4, h⟩ := gb_s h
        refine fw_viR (As := []) (rest := []) ⟨hx, hb, hml, hown, hts⟩ (k_X11_gapsNow l D cA ad tw hG z  q4 hq4) (cwV 0 hts gX11_gaplessOnes_X11_gapsNow rfl rfl rfl hdV_X11_gapsNow ⟨Nat.le_of_ble_eq_true rfl, Nat.le_of_ble_eq_true rfl⟩) (fw_preV gF11.1.1 gF11.1.2 rfl rfl hK hZ hP hS) rfl hl _ rfl (Nat.le_of_ble_eq_true rfl) hS dX11_gaplessOnes_16 ⟨Nat.zero_le _, Nat.zero_le _⟩ (fun H locs hP hS => ?_)
        refine lv_if_ne (tgt := 45) hx hb dX11_gaplessOnes_19 (by decide) (fun c5 => ?_) (fun c5 => ?_)
        · replace h := gif_f h c5
          refine lv_aload_n hx hb dX11_gaplessOnes_45 rfl (lv_at hl 0 rfl) ?_
          obtain ⟨q6, hq6, h⟩ := gb_s h
          refine fw_vi (As := []) (rest := []) ⟨hx, hb, hml, hown, hts⟩ (k_X11_goesOn l D cA ad tw hG z  q6 hq6) (cwV 0 hts gX11_gaplessOnes_X11_goesOn rfl rfl rfl hdV_X11_goesOn ⟨Nat.le_of_ble_eq_true rfl, Nat.le_of_ble_eq_true rfl⟩) (fw_preV gF11.1.1 gF11.1.2 rfl rfl hK hZ hP hS) rfl hl _ rfl (Nat.le_of_ble_eq_true rfl) hS dX11_gaplessOnes_46 ⟨Nat.zero_le _, Nat.zero_le _⟩ (fun H locs hP hS => ?_)
          refine lv_istore_n (lv' := [(1, .int q6.1), (0, .ref (ad 0))]) hx hb dX11_gaplessOnes_49 rfl hl (by decide) rfl (fun ls hl => ?_)
          refine lv_goto (tgt := 11) hx hb dX11_gaplessOnes_50 (by decide) ?_
          exact hK11 q6.1 q6.2 _ _ ls h hP hS (lv_sub hl [1, 0] rfl)
        · replace h := gif_t h c5
          refine lv_aload_n hx hb dX11_gaplessOnes_22 rfl (lv_at hl 0 rfl) ?_
          refine fw_getr hx hb hts in_X11_gaplessOnes_X11 hown hK hP gF11.1.1 gF11.1.2 rfl 9 (by decide) rfl (hts _ (List.mem_of_getElem? (i := 2) rfl)) rfl dX11_gaplessOnes_23 ?_
          refine lv_aload_n hx hb dX11_gaplessOnes_26 rfl (lv_at hl 0 rfl) ?_
          refine fw_geti hx hb hts in_X11_gaplessOnes_X11 hown hK hP gF11.1.1 gF11.1.2 rfl 10 (by decide) rfl (hts _ (List.mem_of_getElem? (i := 1) rfl)) rfl dX11_gaplessOnes_27 ?_
          refine lv_aload_n hx hb dX11_gaplessOnes_30 rfl (lv_at hl 0 rfl) ?_
          obtain ⟨q7, hq7, h⟩ := gb_s h
          refine fw_viR (As := []) (rest := [.int (z 0 10), .ref (ad 5)]) ⟨hx, hb, hml, hown, hts⟩ (k_X11_digits l D cA ad tw hG z  q7 hq7) (cwV 0 hts gX11_gaplessOnes_X11_digits rfl rfl rfl hdV_X11_digits ⟨Nat.le_of_ble_eq_true rfl, Nat.le_of_ble_eq_true rfl⟩) (fw_preV gF11.1.1 gF11.1.2 rfl rfl hK hZ hP hS) rfl hl _ rfl (Nat.le_of_ble_eq_true rfl) hS dX11_gaplessOnes_31 ⟨Nat.zero_le _, Nat.zero_le _⟩ (fun H locs hP hS => ?_)
          obtain ⟨h8, h⟩ := gg_s h
          refine fw_iast hx hb hK hG hP hS gF11.2.2.2.2.2.1.1 gF11.2.2.2.2.2.1.2 h8 dX11_gaplessOnes_34 (fun z9 H locs ez9 hP hS => ?_)
          replace h := gl_s h ez9
          refine lv_aload_n hx hb dX11_gaplessOnes_35 rfl (lv_at hl 0 rfl) ?_
          refine lv_dup hx hb dX11_gaplessOnes_36 rfl ?_
          refine fw_geti hx hb hts in_X11_gaplessOnes_X11 hown hK hP gF11.1.1 gF11.1.2 rfl 10 (by decide) rfl (hts _ (List.mem_of_getElem? (i := 1) rfl)) rfl dX11_gaplessOnes_37 ?_
          refine lv_iconst (v := (nI 1)) hx hb dX11_gaplessOnes_40 (by decide) ?_
          refine lv_iadd hx hb dX11_gaplessOnes_41 ?_
          refine fw_put hx hb hts in_X11_gaplessOnes_X11 tyX11_ok nmX11 hown hK hG hP hS gF11.1.1 gF11.1.2 rfl 10 (by decide) rfl (hts _ (List.mem_of_getElem? (i := 1) rfl)) rfl rfl (ty := .int) rfl rfl rfl dX11_gaplessOnes_42 (fun z10 H locs ez10 hP hS => ?_)
          replace h := gl_s h ez10
          refine lv_aload_n hx hb dX11_gaplessOnes_45 rfl (lv_at hl 0 rfl) ?_
          obtain ⟨q11, hq11, h⟩ := gb_s h
          refine fw_vi (As := []) (rest := []) ⟨hx, hb, hml, hown, hts⟩ (k_X11_goesOn l D cA ad tw hG z10  q11 hq11) (cwV 0 hts gX11_gaplessOnes_X11_goesOn rfl rfl rfl hdV_X11_goesOn ⟨Nat.le_of_ble_eq_true rfl, Nat.le_of_ble_eq_true rfl⟩) (fw_preV gF11.1.1 gF11.1.2 rfl rfl hK hZ hP hS) rfl hl _ rfl (Nat.le_of_ble_eq_true rfl) hS dX11_gaplessOnes_46 ⟨Nat.zero_le _, Nat.zero_le _⟩ (fun H locs hP hS => ?_)
          refine lv_istore_n (lv' := [(1, .int q11.1), (0, .ref (ad 0))]) hx hb dX11_gaplessOnes_49 rfl hl (by decide) rfl (fun ls hl => ?_)
          refine lv_goto (tgt := 11) hx hb dX11_gaplessOnes_50 (by decide) ?_
          exact hK11 q11.1 q11.2 _ _ ls h hP hS (lv_sub hl [1, 0] rfl)
  unfold f_X11_gaplessOnes at h
  refine lv_aload_n hx hb dX11_gaplessOnes_0 rfl (lv_at hl 0 rfl) ?_
  refine lv_iconst (v := (nI 0)) hx hb dX11_gaplessOnes_1 (by decide) ?_
  refine fw_put hx hb hts in_X11_gaplessOnes_X11 tyX11_ok nmX11 hown hK hG hP hS gF11.1.1 gF11.1.2 rfl 10 (by decide) rfl (hts _ (List.mem_of_getElem? (i := 1) rfl)) rfl rfl (ty := .int) rfl rfl rfl dX11_gaplessOnes_2 (fun z1 H locs ez1 hP hS => ?_)
  replace h := gl_s h ez1
  refine lv_aload_n hx hb dX11_gaplessOnes_5 rfl (lv_at hl 0 rfl) ?_
  obtain ⟨q2, hq2, h⟩ := gb_s h
  refine fw_vv (As := []) (rest := []) ⟨hx, hb, hml, hown, hts⟩ (k_X11_beginsAll l D cA ad tw hG z1  q2 hq2) (cwV 0 hts gX11_gaplessOnes_X11_beginsAll rfl rfl rfl hdV_X11_beginsAll ⟨Nat.le_of_ble_eq_true rfl, Nat.le_of_ble_eq_true rfl⟩) (fw_preV gF11.1.1 gF11.1.2 rfl rfl hK hZ hP hS) rfl hl _ rfl (Nat.le_of_ble_eq_true rfl) hS dX11_gaplessOnes_6 ⟨Nat.zero_le _, Nat.zero_le _⟩ (fun H locs hP hS => ?_)
  refine lv_iconst (v := (nI 1)) hx hb dX11_gaplessOnes_9 (by decide) ?_
  refine lv_istore_n (lv' := [(1, .int (nI 1)), (0, .ref (ad 0))]) hx hb dX11_gaplessOnes_10 rfl hl (by decide) rfl (fun ls hl => ?_)
  exact j11  gF (nI 1) q2 _ _ ls h hP hS (lv_sub hl [1, 0] rfl)
theorem in_X11_isOrder_X11 : ∀ w ∈ wsX110, w ∈ wsX11_isOrder := fun w h => List.mem_cons_of_mem _ (List.mem_append_right _ (h))
theorem hdV_X11_isOrder : yX11_isOrder.cls = RX11 ∧ yX11_isOrder.cls ≠ "java/lang/invoke/MethodHandle" ∧ yX11_isOrder.cls ≠ "java/lang/invoke/VarHandle" ∧ (parseMethodDescriptor yX11_isOrder.desc).map (fun d => d.parameters.length) = some 1 := by decide +kernel
set_option maxHeartbeats 4000000 in
set_option maxRecDepth 100000 in
theorem k_X11_isOrder (l : Launch) (D : va_G) (cA : Nat → ClassId) (ad : Nat → Nat) (tw : Nat) (hG : gOk ad 22) (z : gS) (a1 : Int32) (res : Int32 × gS) (h : f_X11_isOrder a1 z = some res) : gMi l yX11_isOrder wsX11_isOrder (gRm 2 43) D cA ad tw shM 22 [.ref (ad 0), .int a1] z res := by
  refine Met.ofW (cc := cX11_isOrder) (maxL := 6) (ret := (some .boolean)) (by decide) rfl ?_
  intro p e s m args below meth c s₁ B hml hv
  obtain ⟨rfl, hP, hK, hZ⟩ := hv
  have hx := B.exec
  have hb := B.bytes
  have hr := B.returns
  have hts := atoms_spec (ws := wsX11_isOrder) B.pre
  have hown : s.vm.findClass RX11 = some m.cls := findClass_of_methodNamed B.named
  have hlocks := B.notSynchronized
  have hS : va_S (gA ad 22) s.heap s.heap [] := va_S.rf
  have hl := lv_entry ([.ref (ad 0), .int a1]) (n := 6) (Nat.le_of_ble_eq_true rfl)
  rw [lg_entry_eq]
  generalize (lg_sl ([.ref (ad 0), .int a1]) ++ List.replicate (6 - (lg_sl ([.ref (ad 0), .int a1])).length) Slot.unset).toArray = ls at hl ⊢
  have hl : lv_has ls 6 [(0, .ref (ad 0)), (1, .int a1)] := hl
  have j32 : ∀  (n : Nat) (x2 : Int32) (x3 : Int32) (x4 : Int32) (z : gS) (H : Heap) (locs : List Loc) (ls : Array Slot), f_X11_isOrder_32  n x2 x3 x4 z = some res → va_P D vwCl (gw cA ad shM 22 z) H → va_S (gA ad 22) s.heap H locs → lv_has ls 6 [(0, .ref (ad 0)), (2, .int x2), (3, .int x3), (4, .int x4)] → W p l e (headSpec wsX11_isOrder (gRm 2 43)).room s m ([.ref (ad 0), .int a1] : List Value).toArray below meth c H locs 0 0 (MQ below (va_Qi (fun r u => (r, u) = res) (gPr D cA ad tw shM 22) (gA ad 22)) ([.ref (ad 0), .int a1] : List Value).toArray s 0 0 (gA ad 22)) (F0 m 32 ls []) := by
    intro n
    induction n with
    | zero => intro x2 x3 x4 z H locs ls h; exact (gno h).elim
    | succ n hK32 =>
      intro x2 x3 x4 z H locs ls h hP hS hl
      replace h : f_X11_isOrder_32_b  (f_X11_isOrder_32  n) x2 x3 x4 z = some res := h
      unfold f_X11_isOrder_32_b at h
      refine lv_iload hx hb dX11_isOrder_32 (lv_at hl 3 rfl) ?_
      refine lv_if_lt (tgt := 96) hx hb dX11_isOrder_34 (by decide) (fun c4 => ?_) (fun c4 => ?_)
      · replace h := gif_t h c4
        refine lv_iload_n hx hb dX11_isOrder_96 rfl (lv_at hl 1 rfl) ?_
        refine lv_if_ne (tgt := 104) hx hb dX11_isOrder_97 (by decide) (fun c5 => ?_) (fun c5 => ?_)
        · replace h := gif_f h c5
          refine lv_iconst (v := (nI 0)) hx hb dX11_isOrder_104 (by decide) ?_
          exact fw_iretz hx hb hr hlocks (by decide) (Option.some.inj h) hK hZ hP hS dX11_isOrder_105
        · replace h := gif_t h c5
          refine lv_iconst (v := (nI 1)) hx hb dX11_isOrder_100 (by decide) ?_
          refine lv_goto (tgt := 105) hx hb dX11_isOrder_101 (by decide) ?_
          exact fw_iretz hx hb hr hlocks (by decide) (Option.some.inj h) hK hZ hP hS dX11_isOrder_105
      · replace h := gif_f h c4
        refine lv_iload_n hx hb dX11_isOrder_37 rfl (lv_at hl 1 rfl) ?_
        refine lv_bipush (v := (nI 10)) hx hb dX11_isOrder_38 (by decide) ?_
        refine lv_irem hx hb dX11_isOrder_40 (by decide) ?_
        refine lv_iconst (v := (nI 1)) hx hb dX11_isOrder_41 (by decide) ?_
        refine lv_isub hx hb dX11_isOrder_42 ?_
        refine lv_topi (fun y6 ey6 => ?_)
        replace h := gl_s h ey6
        refine lv_istore (lv' := [(5, .int y6), (0, .ref (ad 0)), (2, .int x2), (3, .int x3), (4, .int x4)]) hx hb dX11_isOrder_43 hl (by decide) rfl (fun ls hl => ?_)
        refine lv_iload_n hx hb dX11_isOrder_45 rfl (lv_at hl 2 rfl) ?_
        refine lv_if_le (tgt := 67) hx hb dX11_isOrder_46 (by decide) (fun c7 => ?_) (fun c7 => ?_)
        · replace h := gif_t h c7
          refine lv_iconst (v := (nI 0)) hx hb dX11_isOrder_67 (by decide) ?_
          exact fw_iretz hx hb hr hlocks (by decide) (Option.some.inj h) hK hZ hP hS dX11_isOrder_68
        · replace h := gif_f h c7
          refine lv_aload_n hx hb dX11_isOrder_49 rfl (lv_at hl 1 rfl) ?_
          refine lv_iload hx hb dX11_isOrder_50 (lv_at hl 0 rfl) ?_
          obtain ⟨q8, hq8, h⟩ := gb_s h
          refine fw_viR (As := [.int y6]) (rest := []) ⟨hx, hb, hml, hown, hts⟩ (k_X11_isGrave l D cA ad tw hG z y6 q8 hq8) (cwV 1 hts gX11_isOrder_X11_isGrave rfl rfl rfl hdV_X11_isGrave ⟨Nat.le_of_ble_eq_true rfl, Nat.le_of_ble_eq_true rfl⟩) (fw_preV gF11.1.1 gF11.1.2 rfl rfl hK hZ hP hS) rfl hl _ rfl (Nat.le_of_ble_eq_true rfl) hS dX11_isOrder_52 ⟨Nat.zero_le _, Nat.zero_le _⟩ (fun H locs hP hS => ?_)
          refine lv_if_eq (tgt := 67) hx hb dX11_isOrder_55 (by decide) (fun c9 => ?_) (fun c9 => ?_)
          · replace h := gif_t h c9
            refine lv_iconst (v := (nI 0)) hx hb dX11_isOrder_67 (by decide) ?_
            exact fw_iretz hx hb hr hlocks (by decide) (Option.some.inj h) hK hZ hP hS dX11_isOrder_68
          · replace h := gif_f h c9
            refine lv_iload_n hx hb dX11_isOrder_58 rfl (lv_at hl 3 rfl) ?_
            refine lv_iload hx hb dX11_isOrder_59 (lv_at hl 0 rfl) ?_
            obtain ⟨q10, hq10, h⟩ := gb_s h
            refine fw_siR (As := [.int x3, .int y6]) (rest := []) ⟨hx, hb, hml, hown, hts⟩ (k_X11_has l D cA ad tw hG z x3 y6 q10 hq10) (va_cwS 2 hts gX11_isOrder_X11_has rfl rfl rfl hdS_X11_has ⟨Nat.le_of_ble_eq_true rfl, Nat.le_of_ble_eq_true rfl⟩) hK hZ hP rfl hl _ rfl (Nat.le_of_ble_eq_true rfl) hS dX11_isOrder_61 ⟨Nat.zero_le _, Nat.zero_le _⟩ (fun H locs hP hS => ?_)
            refine lv_if_eq (tgt := 69) hx hb dX11_isOrder_64 (by decide) (fun c11 => ?_) (fun c11 => ?_)
            · replace h := gif_t h c11
              refine lv_iload_n hx hb dX11_isOrder_69 rfl (lv_at hl 3 rfl) ?_
              refine lv_iconst (v := (nI 1)) hx hb dX11_isOrder_70 (by decide) ?_
              refine lv_iload hx hb dX11_isOrder_71 (lv_at hl 0 rfl) ?_
              refine lv_ishl hx hb dX11_isOrder_73 ?_
              refine lv_ior hx hb dX11_isOrder_74 ?_
              refine lv_topi (fun y12 ey12 => ?_)
              replace h := gl_s h ey12
              refine lv_istore_n (lv' := [(3, .int y12), (5, .int y6), (0, .ref (ad 0)), (2, .int x2), (4, .int x4)]) hx hb dX11_isOrder_75 rfl hl (by decide) rfl (fun ls hl => ?_)
              refine lv_aload_n hx hb dX11_isOrder_76 rfl (lv_at hl 2 rfl) ?_
              refine fw_getr hx hb hts in_X11_isOrder_X11 hown hK hP gF11.1.1 gF11.1.2 rfl 6 (by decide) rfl (hts _ (List.mem_of_getElem? (i := 5) rfl)) rfl dX11_isOrder_77 ?_
              refine lv_iload hx hb dX11_isOrder_80 (lv_at hl 4 rfl) ?_
              refine lv_iload hx hb dX11_isOrder_82 (lv_at hl 1 rfl) ?_
              obtain ⟨h13, h⟩ := gg_s h
              refine fw_iast hx hb hK hG hP hS gF11.2.2.2.2.1.1 gF11.2.2.2.2.1.2 h13 dX11_isOrder_84 (fun z14 H locs ez14 hP hS => ?_)
              replace h := gl_s h ez14
              refine lv_iload_n hx hb dX11_isOrder_85 rfl (lv_at hl 3 rfl) ?_
              refine lv_bipush (v := (nI 10)) hx hb dX11_isOrder_86 (by decide) ?_
              refine lv_idiv hx hb dX11_isOrder_88 (by decide) ?_
              refine lv_topi (fun y15 ey15 => ?_)
              replace h := gl_s h ey15
              refine lv_istore_n (lv' := [(2, .int y15), (3, .int y12), (5, .int y6), (0, .ref (ad 0)), (4, .int x4)]) hx hb dX11_isOrder_89 rfl hl (by decide) rfl (fun ls hl => ?_)
              refine lv_iinc (v := x4 + gm1) (lv' := [(4, .int (x4 + gm1)), (2, .int y15), (3, .int y12), (5, .int y6), (0, .ref (ad 0))]) hx hb dX11_isOrder_90 hl (k := 4) rfl rfl (by decide) rfl (fun ls hl => ?_)
              refine lv_goto (tgt := 32) hx hb dX11_isOrder_93 (by decide) ?_
              exact hK32 y15 y12 (x4 + gm1) z14 _ _ ls h hP hS (lv_sub hl [4, 1, 2, 0] rfl)
            · replace h := gif_f h c11
              refine lv_iconst (v := (nI 0)) hx hb dX11_isOrder_67 (by decide) ?_
              exact fw_iretz hx hb hr hlocks (by decide) (Option.some.inj h) hK hZ hP hS dX11_isOrder_68
  unfold f_X11_isOrder at h
  refine lv_iload_n hx hb dX11_isOrder_0 rfl (lv_at hl 1 rfl) ?_
  refine lv_istore_n (lv' := [(2, .int a1), (0, .ref (ad 0)), (1, .int a1)]) hx hb dX11_isOrder_1 rfl hl (by decide) rfl (fun ls hl => ?_)
  refine lv_iconst (v := (nI 0)) hx hb dX11_isOrder_2 (by decide) ?_
  refine lv_istore_n (lv' := [(3, .int (nI 0)), (2, .int a1), (0, .ref (ad 0)), (1, .int a1)]) hx hb dX11_isOrder_3 rfl hl (by decide) rfl (fun ls hl => ?_)
  refine lv_aload_n hx hb dX11_isOrder_4 rfl (lv_at hl 2 rfl) ?_
  refine lv_aload_n hx hb dX11_isOrder_5 rfl (lv_at hl 2 rfl) ?_
  refine fw_geti hx hb hts in_X11_isOrder_X11 hown hK hP gF11.1.1 gF11.1.2 rfl 1 (by decide) rfl (hts _ (List.mem_of_getElem? (i := 1) rfl)) rfl dX11_isOrder_6 ?_
  refine fw_put hx hb hts in_X11_isOrder_X11 tyX11_ok nmX11 hown hK hG hP hS gF11.1.1 gF11.1.2 rfl 7 (by decide) rfl (hts _ (List.mem_of_getElem? (i := 2) rfl)) rfl rfl (ty := .int) rfl rfl rfl dX11_isOrder_9 (fun z1 H locs ez1 hP hS => ?_)
  replace h := gl_s h ez1
  refine lv_aload_n hx hb dX11_isOrder_12 rfl (lv_at hl 2 rfl) ?_
  refine lv_iconst (v := (nI 1)) hx hb dX11_isOrder_13 (by decide) ?_
  refine lv_aload_n hx hb dX11_isOrder_14 rfl (lv_at hl 2 rfl) ?_
  refine fw_geti hx hb hts in_X11_isOrder_X11 hown hK hP gF11.1.1 gF11.1.2 rfl 2 (by decide) rfl (hts _ (List.mem_of_getElem? (i := 3) rfl)) rfl dX11_isOrder_15 ?_
  refine lv_ishl hx hb dX11_isOrder_18 ?_
  refine lv_iconst (v := (nI 1)) hx hb dX11_isOrder_19 (by decide) ?_
  refine lv_isub hx hb dX11_isOrder_20 ?_
  refine fw_put hx hb hts in_X11_isOrder_X11 tyX11_ok nmX11 hown hK hG hP hS gF11.1.1 gF11.1.2 rfl 8 (by decide) rfl (hts _ (List.mem_of_getElem? (i := 4) rfl)) rfl rfl (ty := .int) rfl rfl rfl dX11_isOrder_21 (fun z2 H locs ez2 hP hS => ?_)
  replace h := gl_s h ez2
  refine lv_aload_n hx hb dX11_isOrder_24 rfl (lv_at hl 2 rfl) ?_
  refine fw_geti hx hb hts in_X11_isOrder_X11 hown hK hP gF11.1.1 gF11.1.2 rfl 1 (by decide) rfl (hts _ (List.mem_of_getElem? (i := 1) rfl)) rfl dX11_isOrder_25 ?_
  refine lv_iconst (v := (nI 1)) hx hb dX11_isOrder_28 (by decide) ?_
  refine lv_isub hx hb dX11_isOrder_29 ?_
  refine lv_topi (fun y3 ey3 => ?_)
  replace h := gl_s h ey3
  refine lv_istore (lv' := [(4, .int y3), (3, .int (nI 0)), (2, .int a1), (0, .ref (ad 0)), (1, .int a1)]) hx hb dX11_isOrder_30 hl (by decide) rfl (fun ls hl => ?_)
  exact j32  gF a1 (nI 0) y3 z2 _ _ ls h hP hS (lv_sub hl [3, 2, 1, 0] rfl)
theorem hdV_X11_orders : yX11_orders.cls = RX11 ∧ yX11_orders.cls ≠ "java/lang/invoke/MethodHandle" ∧ yX11_orders.cls ≠ "java/lang/invoke/VarHandle" ∧ (parseMethodDescriptor yX11_orders.desc).map (fun d => d.parameters.length) = some 1 := by decide +kernel
set_option maxHeartbeats 4000000 in
set_option maxRecDepth 100000 in
theorem k_X11_orders (l : Launch) (D : va_G) (cA : Nat → ClassId) (ad : Nat → Nat) (tw : Nat) (hG : gOk ad 22) (z : gS) (a1 : Int32) (res : Int32 × gS) (h : f_X11_orders a1 z = some res) : gMi l yX11_orders wsX11_orders (gRm 3 68) D cA ad tw shM 22 [.ref (ad 0), .int a1] z res := by
  refine Met.ofW (cc := cX11_orders) (maxL := 4) (ret := (some .int)) (by decide) rfl ?_
  intro p e s m args below meth c s₁ B hml hv
  obtain ⟨rfl, hP, hK, hZ⟩ := hv
  have hx := B.exec
  have hb := B.bytes
  have hr := B.returns
  have hts := atoms_spec (ws := wsX11_orders) B.pre
  have hown : s.vm.findClass RX11 = some m.cls := findClass_of_methodNamed B.named
  have hlocks := B.notSynchronized
  have hS : va_S (gA ad 22) s.heap s.heap [] := va_S.rf
  have hl := lv_entry ([.ref (ad 0), .int a1]) (n := 4) (Nat.le_of_ble_eq_true rfl)
  rw [lg_entry_eq]
  generalize (lg_sl ([.ref (ad 0), .int a1]) ++ List.replicate (4 - (lg_sl ([.ref (ad 0), .int a1])).length) Slot.unset).toArray = ls at hl ⊢
  have hl : lv_has ls 4 [(0, .ref (ad 0)), (1, .int a1)] := hl
  have j21 : ∀ (x1 : Int32) (n : Nat) (x2 : Int32) (x3 : Int32) (z : gS) (H : Heap) (locs : List Loc) (ls : Array Slot), f_X11_orders_21 x1 n x2 x3 z = some res → va_P D vwCl (gw cA ad shM 22 z) H → va_S (gA ad 22) s.heap H locs → lv_has ls 4 [(0, .ref (ad 0)), (1, .int x1), (2, .int x2), (3, .int x3)] → W p l e (headSpec wsX11_orders (gRm 3 68)).room s m ([.ref (ad 0), .int a1] : List Value).toArray below meth c H locs 0 0 (MQ below (va_Qi (fun r u => (r, u) = res) (gPr D cA ad tw shM 22) (gA ad 22)) ([.ref (ad 0), .int a1] : List Value).toArray s 0 0 (gA ad 22)) (F0 m 21 ls []) := by
    intro x1 n
    induction n with
    | zero => intro x2 x3 z H locs ls h; exact (gno h).elim
    | succ n hK21 =>
      intro x2 x3 z H locs ls h hP hS hl
      replace h : f_X11_orders_21_b x1 (f_X11_orders_21 x1 n) x2 x3 z = some res := h
      unfold f_X11_orders_21_b at h
      refine lv_iload_n hx hb dX11_orders_21 rfl (lv_at hl 3 rfl) ?_
      refine lv_if_eq (tgt := 49) hx hb dX11_orders_22 (by decide) (fun c4 => ?_) (fun c4 => ?_)
      · replace h := gif_t h c4
        refine lv_iload_n hx hb dX11_orders_49 rfl (lv_at hl 2 rfl) ?_
        exact fw_ireti hx hb hr hlocks (Option.some.inj h) hK hZ hP hS dX11_orders_50
      · replace h := gif_f h c4
        refine lv_iload_n hx hb dX11_orders_25 rfl (lv_at hl 2 rfl) ?_
        refine lv_aload_n hx hb dX11_orders_26 rfl (lv_at hl 0 rfl) ?_
        obtain ⟨q5, hq5, h⟩ := gb_s h
        refine fw_viR (As := []) (rest := [.int x2]) ⟨hx, hb, hml, hown, hts⟩ (k_X11_gapsNow l D cA ad tw hG z  q5 hq5) (cwV 0 hts gX11_orders_X11_gapsNow rfl rfl rfl hdV_X11_gapsNow ⟨Nat.le_of_ble_eq_true rfl, Nat.le_of_ble_eq_true rfl⟩) (fw_preV gF11.1.1 gF11.1.2 rfl rfl hK hZ hP hS) rfl hl _ rfl (Nat.le_of_ble_eq_true rfl) hS dX11_orders_27 ⟨Nat.zero_le _, Nat.zero_le _⟩ (fun H locs hP hS => ?_)
        refine lv_iload_n hx hb dX11_orders_30 rfl (lv_at hl 1 rfl) ?_
        refine lv_icmp_gt (tgt := 38) hx hb dX11_orders_31 (by decide) (fun c6 => ?_) (fun c6 => ?_)
        · replace h := gif_t h c6
          refine lv_iconst (v := (nI 0)) hx hb dX11_orders_38 (by decide) ?_
          refine lv_iadd hx hb dX11_orders_39 ?_
          refine lv_topi (fun y7 ey7 => ?_)
          replace h := gl_s h ey7
          refine lv_istore_n (lv' := [(2, .int y7), (0, .ref (ad 0)), (1, .int x1), (3, .int x3)]) hx hb dX11_orders_40 rfl hl (by decide) rfl (fun ls hl => ?_)
          refine lv_aload_n hx hb dX11_orders_41 rfl (lv_at hl 1 rfl) ?_
          obtain ⟨q8, hq8, h⟩ := gb_s h
          refine fw_vi (As := []) (rest := []) ⟨hx, hb, hml, hown, hts⟩ (k_X11_goesOn l D cA ad tw hG z  q8 hq8) (cwV 0 hts gX11_orders_X11_goesOn rfl rfl rfl hdV_X11_goesOn ⟨Nat.le_of_ble_eq_true rfl, Nat.le_of_ble_eq_true rfl⟩) (fw_preV gF11.1.1 gF11.1.2 rfl rfl hK hZ hP hS) rfl hl _ rfl (Nat.le_of_ble_eq_true rfl) hS dX11_orders_42 ⟨Nat.zero_le _, Nat.zero_le _⟩ (fun H locs hP hS => ?_)
          refine lv_istore_n (lv' := [(3, .int q8.1), (2, .int y7), (0, .ref (ad 0)), (1, .int x1)]) hx hb dX11_orders_45 rfl hl (by decide) rfl (fun ls hl => ?_)
          refine lv_goto (tgt := 21) hx hb dX11_orders_46 (by decide) ?_
          exact hK21 y7 q8.1 q8.2 _ _ ls h hP hS (lv_sub hl [2, 3, 1, 0] rfl)
        · replace h := gif_f h c6
          refine lv_iconst (v := (nI 1)) hx hb dX11_orders_34 (by decide) ?_
          refine lv_goto (tgt := 39) hx hb dX11_orders_35 (by decide) ?_
          refine lv_iadd hx hb dX11_orders_39 ?_
          refine lv_topi (fun y9 ey9 => ?_)
          replace h := gl_s h ey9
          refine lv_istore_n (lv' := [(2, .int y9), (0, .ref (ad 0)), (1, .int x1), (3, .int x3)]) hx hb dX11_orders_40 rfl hl (by decide) rfl (fun ls hl => ?_)
          refine lv_aload_n hx hb dX11_orders_41 rfl (lv_at hl 1 rfl) ?_
          obtain ⟨q10, hq10, h⟩ := gb_s h
          refine fw_vi (As := []) (rest := []) ⟨hx, hb, hml, hown, hts⟩ (k_X11_goesOn l D cA ad tw hG z  q10 hq10) (cwV 0 hts gX11_orders_X11_goesOn rfl rfl rfl hdV_X11_goesOn ⟨Nat.le_of_ble_eq_true rfl, Nat.le_of_ble_eq_true rfl⟩) (fw_preV gF11.1.1 gF11.1.2 rfl rfl hK hZ hP hS) rfl hl _ rfl (Nat.le_of_ble_eq_true rfl) hS dX11_orders_42 ⟨Nat.zero_le _, Nat.zero_le _⟩ (fun H locs hP hS => ?_)
          refine lv_istore_n (lv' := [(3, .int q10.1), (2, .int y9), (0, .ref (ad 0)), (1, .int x1)]) hx hb dX11_orders_45 rfl hl (by decide) rfl (fun ls hl => ?_)
          refine lv_goto (tgt := 21) hx hb dX11_orders_46 (by decide) ?_
          exact hK21 y9 q10.1 q10.2 _ _ ls h hP hS (lv_sub hl [2, 3, 1, 0] rfl)
  unfold f_X11_orders at h
  refine lv_iload_n hx hb dX11_orders_0 rfl (lv_at hl 1 rfl) ?_
  refine lv_iconst (v := (nI 0)) hx hb dX11_orders_1 (by decide) ?_
  refine lv_bipush (v := (nI 60)) hx hb dX11_orders_2 (by decide) ?_
  obtain ⟨q1, hq1, h⟩ := gb_s h
  refine fw_siR (As := [.int a1, .int (nI 0), .int (nI 60)]) (rest := []) ⟨hx, hb, hml, hown, hts⟩ (k_X11_in l D cA ad tw hG z a1 (nI 0) (nI 60) q1 hq1) (va_cwS 3 hts gX11_orders_X11_in rfl rfl rfl hdS_X11_in ⟨Nat.le_of_ble_eq_true rfl, Nat.le_of_ble_eq_true rfl⟩) hK hZ hP rfl hl _ rfl (Nat.le_of_ble_eq_true rfl) hS dX11_orders_4 ⟨Nat.zero_le _, Nat.zero_le _⟩ (fun H locs hP hS => ?_)
  refine lv_if_ne (tgt := 13) hx hb dX11_orders_7 (by decide) (fun c2 => ?_) (fun c2 => ?_)
  · replace h := gif_f h c2
    refine lv_iconst (v := (nI 0)) hx hb dX11_orders_13 (by decide) ?_
    refine lv_istore_n (lv' := [(2, .int (nI 0)), (0, .ref (ad 0)), (1, .int a1)]) hx hb dX11_orders_14 rfl hl (by decide) rfl (fun ls hl => ?_)
    refine lv_aload_n hx hb dX11_orders_15 rfl (lv_at hl 1 rfl) ?_
    obtain ⟨q3, hq3, h⟩ := gb_s h
    refine fw_vv (As := []) (rest := []) ⟨hx, hb, hml, hown, hts⟩ (k_X11_beginsAll l D cA ad tw hG z  q3 hq3) (cwV 0 hts gX11_orders_X11_beginsAll rfl rfl rfl hdV_X11_beginsAll ⟨Nat.le_of_ble_eq_true rfl, Nat.le_of_ble_eq_true rfl⟩) (fw_preV gF11.1.1 gF11.1.2 rfl rfl hK hZ hP hS) rfl hl _ rfl (Nat.le_of_ble_eq_true rfl) hS dX11_orders_16 ⟨Nat.zero_le _, Nat.zero_le _⟩ (fun H locs hP hS => ?_)
    refine lv_iconst (v := (nI 1)) hx hb dX11_orders_19 (by decide) ?_
    refine lv_istore_n (lv' := [(3, .int (nI 1)), (2, .int (nI 0)), (0, .ref (ad 0)), (1, .int a1)]) hx hb dX11_orders_20 rfl hl (by decide) rfl (fun ls hl => ?_)
    exact j21 a1 gF (nI 0) (nI 1) q3 _ _ ls h hP hS (lv_sub hl [2, 3, 1, 0] rfl)
  · replace h := gif_t h c2
    refine lv_bipush (v := (-2)) hx hb dX11_orders_10 (by decide) ?_
    exact fw_ireti hx hb hr hlocks (Option.some.inj h) hK hZ hP hS dX11_orders_12
theorem in_X11_gapless_X11 : ∀ w ∈ wsX110, w ∈ wsX11_gapless := fun w h => List.mem_cons_of_mem _ (List.mem_append_right _ (h))
theorem hdV_X11_gapless : yX11_gapless.cls = RX11 ∧ yX11_gapless.cls ≠ "java/lang/invoke/MethodHandle" ∧ yX11_gapless.cls ≠ "java/lang/invoke/VarHandle" ∧ (parseMethodDescriptor yX11_gapless.desc).map (fun d => d.parameters.length) = some 1 := by decide +kernel
set_option maxHeartbeats 4000000 in
set_option maxRecDepth 100000 in
theorem k_X11_gapless (l : Launch) (D : va_G) (cA : Nat → ClassId) (ad : Nat → Nat) (tw : Nat) (hG : gOk ad 22) (z : gS) (a1 : Int32) (res : Int32 × gS) (h : f_X11_gapless a1 z = some res) : gMi l yX11_gapless wsX11_gapless (gRm 4 89) D cA ad tw shM 22 [.ref (ad 0), .int a1] z res := by
  refine Met.ofW (cc := cX11_gapless) (maxL := 2) (ret := (some .int)) (by decide) rfl ?_
  intro p e s m args below meth c s₁ B hml hv
  obtain ⟨rfl, hP, hK, hZ⟩ := hv
  have hx := B.exec
  have hb := B.bytes
  have hr := B.returns
  have hts := atoms_spec (ws := wsX11_gapless) B.pre
  have hown : s.vm.findClass RX11 = some m.cls := findClass_of_methodNamed B.named
  have hlocks := B.notSynchronized
  have hS : va_S (gA ad 22) s.heap s.heap [] := va_S.rf
  have hl := lv_entry ([.ref (ad 0), .int a1]) (n := 2) (Nat.le_of_ble_eq_true rfl)
  rw [lg_entry_eq]
  generalize (lg_sl ([.ref (ad 0), .int a1]) ++ List.replicate (2 - (lg_sl ([.ref (ad 0), .int a1])).length) Slot.unset).toArray = ls at hl ⊢
  have hl : lv_has ls 2 [(0, .ref (ad 0)), (1, .int a1)] := hl
  unfold f_X11_gapless at h
  refine lv_aload_n hx hb dX11_gapless_0 rfl (lv_at hl 0 rfl) ?_
  obtain ⟨q1, hq1, h⟩ := gb_s h
  refine fw_vv (As := []) (rest := []) ⟨hx, hb, hml, hown, hts⟩ (k_X11_gaplessOnes l D cA ad tw hG z  q1 hq1) (cwV 0 hts gX11_gapless_X11_gaplessOnes rfl rfl rfl hdV_X11_gaplessOnes ⟨Nat.le_of_ble_eq_true rfl, Nat.le_of_ble_eq_true rfl⟩) (fw_preV gF11.1.1 gF11.1.2 rfl rfl hK hZ hP hS) rfl hl _ rfl (Nat.le_of_ble_eq_true rfl) hS dX11_gapless_1 ⟨Nat.zero_le _, Nat.zero_le _⟩ (fun H locs hP hS => ?_)
  refine lv_iload_n hx hb dX11_gapless_4 rfl (lv_at hl 1 rfl) ?_
  refine lv_iconst (v := (nI 0)) hx hb dX11_gapless_5 (by decide) ?_
  refine lv_aload_n hx hb dX11_gapless_6 rfl (lv_at hl 0 rfl) ?_
  refine fw_geti hx hb hts in_X11_gapless_X11 hown hK hP gF11.1.1 gF11.1.2 rfl 10 (by decide) rfl (hts _ (List.mem_of_getElem? (i := 1) rfl)) rfl dX11_gapless_7 ?_
  refine lv_iconst (v := (nI 1)) hx hb dX11_gapless_10 (by decide) ?_
  refine lv_isub hx hb dX11_gapless_11 ?_
  obtain ⟨q2, hq2, h⟩ := gb_s h
  refine fw_siR (As := [.int a1, .int (nI 0), .int ((q1 0 10) - (nI 1))]) (rest := []) ⟨hx, hb, hml, hown, hts⟩ (k_X11_in l D cA ad tw hG q1 a1 (nI 0) ((q1 0 10) - (nI 1)) q2 hq2) (va_cwS 3 hts gX11_gapless_X11_in rfl rfl rfl hdS_X11_in ⟨Nat.le_of_ble_eq_true rfl, Nat.le_of_ble_eq_true rfl⟩) hK hZ hP rfl hl _ rfl (Nat.le_of_ble_eq_true rfl) hS dX11_gapless_12 ⟨Nat.zero_le _, Nat.zero_le _⟩ (fun H locs hP hS => ?_)
  refine lv_if_eq (tgt := 27) hx hb dX11_gapless_15 (by decide) (fun c3 => ?_) (fun c3 => ?_)
  · replace h := gif_t h c3
    refine lv_iconst (v := gm1) hx hb dX11_gapless_27 (by decide) ?_
    exact fw_ireti hx hb hr hlocks (Option.some.inj h) hK hZ hP hS dX11_gapless_28
  · replace h := gif_f h c3
    refine lv_aload_n hx hb dX11_gapless_18 rfl (lv_at hl 0 rfl) ?_
    refine fw_getr hx hb hts in_X11_gapless_X11 hown hK hP gF11.1.1 gF11.1.2 rfl 9 (by decide) rfl (hts _ (List.mem_of_getElem? (i := 2) rfl)) rfl dX11_gapless_19 ?_
    refine lv_iload_n hx hb dX11_gapless_22 rfl (lv_at hl 1 rfl) ?_
    obtain ⟨h4, h⟩ := gg_s h
    refine fw_iald hx hb hK hP gF11.2.2.2.2.2.1.1 gF11.2.2.2.2.2.1.2 h4 dX11_gapless_23 ?_
    refine lv_goto (tgt := 28) hx hb dX11_gapless_24 (by decide) ?_
    exact fw_ireti hx hb hr hlocks (Option.some.inj h) hK hZ hP hS dX11_gapless_28
theorem hdV_X11_fewest : yX11_fewest.cls = RX11 ∧ yX11_fewest.cls ≠ "java/lang/invoke/MethodHandle" ∧ yX11_fewest.cls ≠ "java/lang/invoke/VarHandle" ∧ (parseMethodDescriptor yX11_fewest.desc).map (fun d => d.parameters.length) = some 1 := by decide +kernel
set_option maxHeartbeats 4000000 in
set_option maxRecDepth 100000 in
theorem k_X11_fewest (l : Launch) (D : va_G) (cA : Nat → ClassId) (ad : Nat → Nat) (tw : Nat) (hG : gOk ad 22) (z : gS) (a1 : Int32) (res : Int32 × gS) (h : f_X11_fewest a1 z = some res) : gMi l yX11_fewest wsX11_fewest (gRm 3 68) D cA ad tw shM 22 [.ref (ad 0), .int a1] z res := by
  refine Met.ofW (cc := cX11_fewest) (maxL := 7) (ret := (some .int)) (by decide) rfl ?_
  intro p e s m args below meth c s₁ B hml hv
  obtain ⟨rfl, hP, hK, hZ⟩ := hv
  have hx := B.exec
  have hb := B.bytes
  have hr := B.returns
  have hts := atoms_spec (ws := wsX11_fewest) B.pre
  have hown : s.vm.findClass RX11 = some m.cls := findClass_of_methodNamed B.named
  have hlocks := B.notSynchronized
  have hS : va_S (gA ad 22) s.heap s.heap [] := va_S.rf
  have hl := lv_entry ([.ref (ad 0), .int a1]) (n := 7) (Nat.le_of_ble_eq_true rfl)
  rw [lg_entry_eq]
  generalize (lg_sl ([.ref (ad 0), .int a1]) ++ List.replicate (7 - (lg_sl ([.ref (ad 0), .int a1])).length) Slot.unset).toArray = ls at hl ⊢
  have hl : lv_has ls 7 [(0, .ref (ad 0)), (1, .int a1)] := hl
  have j48 : ∀ (x1 : Int32) (x6 : Int32) (K26 : Int32 → Int32 → Int32 → Int32 → gS → Option (Int32 × gS)) (hK26 : ∀ (x2' : Int32) (x3' : Int32) (x4' : Int32) (x5' : Int32) (z' : gS) (H : Heap) (locs : List Loc) (ls : Array Slot), K26 x2' x3' x4' x5' z' = some res → va_P D vwCl (gw cA ad shM 22 z') H → va_S (gA ad 22) s.heap H locs → lv_has ls 7 [(0, .ref (ad 0)), (1, .int x1), (2, .int x2'), (3, .int x3'), (4, .int x4'), (5, .int x5')] → W p l e (headSpec wsX11_fewest (gRm 3 68)).room s m ([.ref (ad 0), .int a1] : List Value).toArray below meth c H locs 0 0 (MQ below (va_Qi (fun r u => (r, u) = res) (gPr D cA ad tw shM 22) (gA ad 22)) ([.ref (ad 0), .int a1] : List Value).toArray s 0 0 (gA ad 22)) (F0 m 26 ls [])) (z : gS) (H : Heap) (locs : List Loc) (ls : Array Slot), f_X11_fewest_48 x1 x6 K26 z = some res → va_P D vwCl (gw cA ad shM 22 z) H → va_S (gA ad 22) s.heap H locs → lv_has ls 7 [(0, .ref (ad 0)), (1, .int x1), (6, .int x6)] → W p l e (headSpec wsX11_fewest (gRm 3 68)).room s m ([.ref (ad 0), .int a1] : List Value).toArray below meth c H locs 0 0 (MQ below (va_Qi (fun r u => (r, u) = res) (gPr D cA ad tw shM 22) (gA ad 22)) ([.ref (ad 0), .int a1] : List Value).toArray s 0 0 (gA ad 22)) (F0 m 48 ls []) := by
    intro x1 x6 K26 hK26 z H locs ls h hP hS hl
    unfold f_X11_fewest_48 at h
    refine lv_iload hx hb dX11_fewest_48 (lv_at hl 2 rfl) ?_
    refine lv_istore_n (lv' := [(2, .int x6), (0, .ref (ad 0)), (1, .int x1), (6, .int x6)]) hx hb dX11_fewest_50 rfl hl (by decide) rfl (fun ls hl => ?_)
    refine lv_iconst (v := (nI 0)) hx hb dX11_fewest_51 (by decide) ?_
    refine lv_istore_n (lv' := [(3, .int (nI 0)), (2, .int x6), (0, .ref (ad 0)), (1, .int x1), (6, .int x6)]) hx hb dX11_fewest_52 rfl hl (by decide) rfl (fun ls hl => ?_)
    refine lv_aload_n hx hb dX11_fewest_53 rfl (lv_at hl 2 rfl) ?_
    obtain ⟨q15, hq15, h⟩ := gb_s h
    refine fw_viR (As := []) (rest := []) ⟨hx, hb, hml, hown, hts⟩ (k_X11_digits l D cA ad tw hG z  q15 hq15) (cwV 0 hts gX11_fewest_X11_digits rfl rfl rfl hdV_X11_digits ⟨Nat.le_of_ble_eq_true rfl, Nat.le_of_ble_eq_true rfl⟩) (fw_preV gF11.1.1 gF11.1.2 rfl rfl hK hZ hP hS) rfl hl _ rfl (Nat.le_of_ble_eq_true rfl) hS dX11_fewest_54 ⟨Nat.zero_le _, Nat.zero_le _⟩ (fun H locs hP hS => ?_)
    refine lv_istore (lv' := [(4, .int q15), (3, .int (nI 0)), (2, .int x6), (0, .ref (ad 0)), (1, .int x1), (6, .int x6)]) hx hb dX11_fewest_57 hl (by decide) rfl (fun ls hl => ?_)
    refine lv_iload_n hx hb dX11_fewest_59 rfl (lv_at hl 1 rfl) ?_
    refine lv_iload hx hb dX11_fewest_60 (lv_at hl 5 rfl) ?_
    refine lv_iload_n hx hb dX11_fewest_62 rfl (lv_at hl 2 rfl) ?_
    refine lv_icmp_ne (tgt := 70) hx hb dX11_fewest_63 (by decide) (fun c16 => ?_) (fun c16 => ?_)
    · replace h := gif_f h c16
      refine lv_iconst (v := (nI 0)) hx hb dX11_fewest_70 (by decide) ?_
      refine lv_iadd hx hb dX11_fewest_71 ?_
      refine lv_topi (fun y17 ey17 => ?_)
      replace h := gl_s h ey17
      refine lv_istore_n (lv' := [(3, .int y17), (4, .int q15), (2, .int x6), (0, .ref (ad 0)), (1, .int x1), (6, .int x6)]) hx hb dX11_fewest_72 rfl hl (by decide) rfl (fun ls hl => ?_)
      refine lv_aload_n hx hb dX11_fewest_73 rfl (lv_at hl 3 rfl) ?_
      obtain ⟨q18, hq18, h⟩ := gb_s h
      refine fw_vi (As := []) (rest := []) ⟨hx, hb, hml, hown, hts⟩ (k_X11_goesOn l D cA ad tw hG z  q18 hq18) (cwV 0 hts gX11_fewest_X11_goesOn rfl rfl rfl hdV_X11_goesOn ⟨Nat.le_of_ble_eq_true rfl, Nat.le_of_ble_eq_true rfl⟩) (fw_preV gF11.1.1 gF11.1.2 rfl rfl hK hZ hP hS) rfl hl _ rfl (Nat.le_of_ble_eq_true rfl) hS dX11_fewest_74 ⟨Nat.zero_le _, Nat.zero_le _⟩ (fun H locs hP hS => ?_)
      refine lv_istore (lv' := [(5, .int q18.1), (3, .int y17), (4, .int q15), (2, .int x6), (0, .ref (ad 0)), (1, .int x1), (6, .int x6)]) hx hb dX11_fewest_77 hl (by decide) rfl (fun ls hl => ?_)
      refine lv_goto (tgt := 26) hx hb dX11_fewest_79 (by decide) ?_
      exact hK26 x6 y17 q15 q18.1 q18.2 _ _ ls h hP hS (lv_sub hl [4, 5, 3, 1, 2, 0] rfl)
    · replace h := gif_t h c16
      refine lv_iconst (v := (nI 1)) hx hb dX11_fewest_66 (by decide) ?_
      refine lv_goto (tgt := 71) hx hb dX11_fewest_67 (by decide) ?_
      refine lv_iadd hx hb dX11_fewest_71 ?_
      refine lv_topi (fun y19 ey19 => ?_)
      replace h := gl_s h ey19
      refine lv_istore_n (lv' := [(3, .int y19), (4, .int q15), (2, .int x6), (0, .ref (ad 0)), (1, .int x1), (6, .int x6)]) hx hb dX11_fewest_72 rfl hl (by decide) rfl (fun ls hl => ?_)
      refine lv_aload_n hx hb dX11_fewest_73 rfl (lv_at hl 3 rfl) ?_
      obtain ⟨q20, hq20, h⟩ := gb_s h
      refine fw_vi (As := []) (rest := []) ⟨hx, hb, hml, hown, hts⟩ (k_X11_goesOn l D cA ad tw hG z  q20 hq20) (cwV 0 hts gX11_fewest_X11_goesOn rfl rfl rfl hdV_X11_goesOn ⟨Nat.le_of_ble_eq_true rfl, Nat.le_of_ble_eq_true rfl⟩) (fw_preV gF11.1.1 gF11.1.2 rfl rfl hK hZ hP hS) rfl hl _ rfl (Nat.le_of_ble_eq_true rfl) hS dX11_fewest_74 ⟨Nat.zero_le _, Nat.zero_le _⟩ (fun H locs hP hS => ?_)
      refine lv_istore (lv' := [(5, .int q20.1), (3, .int y19), (4, .int q15), (2, .int x6), (0, .ref (ad 0)), (1, .int x1), (6, .int x6)]) hx hb dX11_fewest_77 hl (by decide) rfl (fun ls hl => ?_)
      refine lv_goto (tgt := 26) hx hb dX11_fewest_79 (by decide) ?_
      exact hK26 x6 y19 q15 q20.1 q20.2 _ _ ls h hP hS (lv_sub hl [4, 5, 3, 1, 2, 0] rfl)
  have j26 : ∀ (x1 : Int32) (n : Nat) (x2 : Int32) (x3 : Int32) (x4 : Int32) (x5 : Int32) (z : gS) (H : Heap) (locs : List Loc) (ls : Array Slot), f_X11_fewest_26 x1 n x2 x3 x4 x5 z = some res → va_P D vwCl (gw cA ad shM 22 z) H → va_S (gA ad 22) s.heap H locs → lv_has ls 7 [(0, .ref (ad 0)), (1, .int x1), (2, .int x2), (3, .int x3), (4, .int x4), (5, .int x5)] → W p l e (headSpec wsX11_fewest (gRm 3 68)).room s m ([.ref (ad 0), .int a1] : List Value).toArray below meth c H locs 0 0 (MQ below (va_Qi (fun r u => (r, u) = res) (gPr D cA ad tw shM 22) (gA ad 22)) ([.ref (ad 0), .int a1] : List Value).toArray s 0 0 (gA ad 22)) (F0 m 26 ls []) := by
    intro x1 n
    induction n with
    | zero => intro x2 x3 x4 x5 z H locs ls h; exact (gno h).elim
    | succ n hK26 =>
      intro x2 x3 x4 x5 z H locs ls h hP hS hl
      replace h : f_X11_fewest_26_b x1 (f_X11_fewest_26 x1 n) x2 x3 x4 x5 z = some res := h
      unfold f_X11_fewest_26_b at h
      refine lv_iload hx hb dX11_fewest_26 (lv_at hl 5 rfl) ?_
      refine lv_if_eq (tgt := 82) hx hb dX11_fewest_28 (by decide) (fun c4 => ?_) (fun c4 => ?_)
      · replace h := gif_t h c4
        refine lv_iload_n hx hb dX11_fewest_82 rfl (lv_at hl 1 rfl) ?_
        refine lv_if_ne (tgt := 90) hx hb dX11_fewest_83 (by decide) (fun c5 => ?_) (fun c5 => ?_)
        · replace h := gif_f h c5
          refine lv_iload_n hx hb dX11_fewest_90 rfl (lv_at hl 1 rfl) ?_
          refine lv_iconst (v := (nI 1)) hx hb dX11_fewest_91 (by decide) ?_
          refine lv_icmp_ne (tgt := 99) hx hb dX11_fewest_92 (by decide) (fun c6 => ?_) (fun c6 => ?_)
          · replace h := gif_f h c6
            refine lv_iload hx hb dX11_fewest_99 (lv_at hl 4 rfl) ?_
            exact fw_ireti hx hb hr hlocks (Option.some.inj h) hK hZ hP hS dX11_fewest_101
          · replace h := gif_t h c6
            refine lv_iload_n hx hb dX11_fewest_95 rfl (lv_at hl 3 rfl) ?_
            refine lv_goto (tgt := 101) hx hb dX11_fewest_96 (by decide) ?_
            exact fw_ireti hx hb hr hlocks (Option.some.inj h) hK hZ hP hS dX11_fewest_101
        · replace h := gif_t h c5
          refine lv_iload_n hx hb dX11_fewest_86 rfl (lv_at hl 2 rfl) ?_
          refine lv_goto (tgt := 101) hx hb dX11_fewest_87 (by decide) ?_
          exact fw_ireti hx hb hr hlocks (Option.some.inj h) hK hZ hP hS dX11_fewest_101
      · replace h := gif_f h c4
        refine lv_aload_n hx hb dX11_fewest_31 rfl (lv_at hl 0 rfl) ?_
        obtain ⟨q7, hq7, h⟩ := gb_s h
        refine fw_viR (As := []) (rest := []) ⟨hx, hb, hml, hown, hts⟩ (k_X11_gapsNow l D cA ad tw hG z  q7 hq7) (cwV 0 hts gX11_fewest_X11_gapsNow rfl rfl rfl hdV_X11_gapsNow ⟨Nat.le_of_ble_eq_true rfl, Nat.le_of_ble_eq_true rfl⟩) (fw_preV gF11.1.1 gF11.1.2 rfl rfl hK hZ hP hS) rfl hl _ rfl (Nat.le_of_ble_eq_true rfl) hS dX11_fewest_32 ⟨Nat.zero_le _, Nat.zero_le _⟩ (fun H locs hP hS => ?_)
        refine lv_istore (lv' := [(6, .int q7), (0, .ref (ad 0)), (1, .int x1), (2, .int x2), (3, .int x3), (4, .int x4), (5, .int x5)]) hx hb dX11_fewest_35 hl (by decide) rfl (fun ls hl => ?_)
        refine lv_iload_n hx hb dX11_fewest_37 rfl (lv_at hl 3 rfl) ?_
        refine lv_iconst (v := gm1) hx hb dX11_fewest_38 (by decide) ?_
        refine lv_icmp_eq (tgt := 48) hx hb dX11_fewest_39 (by decide) (fun c8 => ?_) (fun c8 => ?_)
        · replace h := gif_t h c8
          exact j48 x1 q7 _ hK26 z _ _ ls h hP hS (lv_sub hl [1, 2, 0] rfl)
        · replace h := gif_f h c8
          refine lv_iload hx hb dX11_fewest_42 (lv_at hl 0 rfl) ?_
          refine lv_iload_n hx hb dX11_fewest_44 rfl (lv_at hl 3 rfl) ?_
          refine lv_icmp_ge (tgt := 59) hx hb dX11_fewest_45 (by decide) (fun c9 => ?_) (fun c9 => ?_)
          · replace h := gif_t h c9
            refine lv_iload_n hx hb dX11_fewest_59 rfl (lv_at hl 4 rfl) ?_
            refine lv_iload hx hb dX11_fewest_60 (lv_at hl 0 rfl) ?_
            refine lv_iload_n hx hb dX11_fewest_62 rfl (lv_at hl 3 rfl) ?_
            refine lv_icmp_ne (tgt := 70) hx hb dX11_fewest_63 (by decide) (fun c10 => ?_) (fun c10 => ?_)
            · replace h := gif_f h c10
              refine lv_iconst (v := (nI 0)) hx hb dX11_fewest_70 (by decide) ?_
              refine lv_iadd hx hb dX11_fewest_71 ?_
              refine lv_topi (fun y11 ey11 => ?_)
              replace h := gl_s h ey11
              refine lv_istore_n (lv' := [(3, .int y11), (6, .int q7), (0, .ref (ad 0)), (1, .int x1), (2, .int x2), (4, .int x4), (5, .int x5)]) hx hb dX11_fewest_72 rfl hl (by decide) rfl (fun ls hl => ?_)
              refine lv_aload_n hx hb dX11_fewest_73 rfl (lv_at hl 2 rfl) ?_
              obtain ⟨q12, hq12, h⟩ := gb_s h
              refine fw_vi (As := []) (rest := []) ⟨hx, hb, hml, hown, hts⟩ (k_X11_goesOn l D cA ad tw hG z  q12 hq12) (cwV 0 hts gX11_fewest_X11_goesOn rfl rfl rfl hdV_X11_goesOn ⟨Nat.le_of_ble_eq_true rfl, Nat.le_of_ble_eq_true rfl⟩) (fw_preV gF11.1.1 gF11.1.2 rfl rfl hK hZ hP hS) rfl hl _ rfl (Nat.le_of_ble_eq_true rfl) hS dX11_fewest_74 ⟨Nat.zero_le _, Nat.zero_le _⟩ (fun H locs hP hS => ?_)
              refine lv_istore (lv' := [(5, .int q12.1), (3, .int y11), (6, .int q7), (0, .ref (ad 0)), (1, .int x1), (2, .int x2), (4, .int x4)]) hx hb dX11_fewest_77 hl (by decide) rfl (fun ls hl => ?_)
              refine lv_goto (tgt := 26) hx hb dX11_fewest_79 (by decide) ?_
              exact hK26 x2 y11 x4 q12.1 q12.2 _ _ ls h hP hS (lv_sub hl [3, 4, 5, 1, 6, 0] rfl)
            · replace h := gif_t h c10
              refine lv_iconst (v := (nI 1)) hx hb dX11_fewest_66 (by decide) ?_
              refine lv_goto (tgt := 71) hx hb dX11_fewest_67 (by decide) ?_
              refine lv_iadd hx hb dX11_fewest_71 ?_
              refine lv_topi (fun y13 ey13 => ?_)
              replace h := gl_s h ey13
              refine lv_istore_n (lv' := [(3, .int y13), (6, .int q7), (0, .ref (ad 0)), (1, .int x1), (2, .int x2), (4, .int x4), (5, .int x5)]) hx hb dX11_fewest_72 rfl hl (by decide) rfl (fun ls hl => ?_)
              refine lv_aload_n hx hb dX11_fewest_73 rfl (lv_at hl 2 rfl) ?_
              obtain ⟨q14, hq14, h⟩ := gb_s h
              refine fw_vi (As := []) (rest := []) ⟨hx, hb, hml, hown, hts⟩ (k_X11_goesOn l D cA ad tw hG z  q14 hq14) (cwV 0 hts gX11_fewest_X11_goesOn rfl rfl rfl hdV_X11_goesOn ⟨Nat.le_of_ble_eq_true rfl, Nat.le_of_ble_eq_true rfl⟩) (fw_preV gF11.1.1 gF11.1.2 rfl rfl hK hZ hP hS) rfl hl _ rfl (Nat.le_of_ble_eq_true rfl) hS dX11_fewest_74 ⟨Nat.zero_le _, Nat.zero_le _⟩ (fun H locs hP hS => ?_)
              refine lv_istore (lv' := [(5, .int q14.1), (3, .int y13), (6, .int q7), (0, .ref (ad 0)), (1, .int x1), (2, .int x2), (4, .int x4)]) hx hb dX11_fewest_77 hl (by decide) rfl (fun ls hl => ?_)
              refine lv_goto (tgt := 26) hx hb dX11_fewest_79 (by decide) ?_
              exact hK26 x2 y13 x4 q14.1 q14.2 _ _ ls h hP hS (lv_sub hl [3, 4, 5, 1, 6, 0] rfl)
          · replace h := gif_f h c9
            exact j48 x1 q7 _ hK26 z _ _ ls h hP hS (lv_sub hl [1, 2, 0] rfl)
  unfold f_X11_fewest at h
  refine lv_iload_n hx hb dX11_fewest_0 rfl (lv_at hl 1 rfl) ?_
  refine lv_iconst (v := (nI 0)) hx hb dX11_fewest_1 (by decide) ?_
  refine lv_iconst (v := (nI 2)) hx hb dX11_fewest_2 (by decide) ?_
  obtain ⟨q1, hq1, h⟩ := gb_s h
  refine fw_siR (As := [.int a1, .int (nI 0), .int (nI 2)]) (rest := []) ⟨hx, hb, hml, hown, hts⟩ (k_X11_in l D cA ad tw hG z a1 (nI 0) (nI 2) q1 hq1) (va_cwS 3 hts gX11_fewest_X11_in rfl rfl rfl hdS_X11_in ⟨Nat.le_of_ble_eq_true rfl, Nat.le_of_ble_eq_true rfl⟩) hK hZ hP rfl hl _ rfl (Nat.le_of_ble_eq_true rfl) hS dX11_fewest_3 ⟨Nat.zero_le _, Nat.zero_le _⟩ (fun H locs hP hS => ?_)
  refine lv_if_ne (tgt := 12) hx hb dX11_fewest_6 (by decide) (fun c2 => ?_) (fun c2 => ?_)
  · replace h := gif_f h c2
    refine lv_iconst (v := gm1) hx hb dX11_fewest_12 (by decide) ?_
    refine lv_istore_n (lv' := [(2, .int gm1), (0, .ref (ad 0)), (1, .int a1)]) hx hb dX11_fewest_13 rfl hl (by decide) rfl (fun ls hl => ?_)
    refine lv_iconst (v := (nI 0)) hx hb dX11_fewest_14 (by decide) ?_
    refine lv_istore_n (lv' := [(3, .int (nI 0)), (2, .int gm1), (0, .ref (ad 0)), (1, .int a1)]) hx hb dX11_fewest_15 rfl hl (by decide) rfl (fun ls hl => ?_)
    refine lv_iconst (v := (nI 0)) hx hb dX11_fewest_16 (by decide) ?_
    refine lv_istore (lv' := [(4, .int (nI 0)), (3, .int (nI 0)), (2, .int gm1), (0, .ref (ad 0)), (1, .int a1)]) hx hb dX11_fewest_17 hl (by decide) rfl (fun ls hl => ?_)
    refine lv_aload_n hx hb dX11_fewest_19 rfl (lv_at hl 3 rfl) ?_
    obtain ⟨q3, hq3, h⟩ := gb_s h
    refine fw_vv (As := []) (rest := []) ⟨hx, hb, hml, hown, hts⟩ (k_X11_beginsAll l D cA ad tw hG z  q3 hq3) (cwV 0 hts gX11_fewest_X11_beginsAll rfl rfl rfl hdV_X11_beginsAll ⟨Nat.le_of_ble_eq_true rfl, Nat.le_of_ble_eq_true rfl⟩) (fw_preV gF11.1.1 gF11.1.2 rfl rfl hK hZ hP hS) rfl hl _ rfl (Nat.le_of_ble_eq_true rfl) hS dX11_fewest_20 ⟨Nat.zero_le _, Nat.zero_le _⟩ (fun H locs hP hS => ?_)
    refine lv_iconst (v := (nI 1)) hx hb dX11_fewest_23 (by decide) ?_
    refine lv_istore (lv' := [(5, .int (nI 1)), (4, .int (nI 0)), (3, .int (nI 0)), (2, .int gm1), (0, .ref (ad 0)), (1, .int a1)]) hx hb dX11_fewest_24 hl (by decide) rfl (fun ls hl => ?_)
    exact j26 a1 gF gm1 (nI 0) (nI 0) (nI 1) q3 _ _ ls h hP hS (lv_sub hl [4, 5, 3, 2, 1, 0] rfl)
  · replace h := gif_t h c2
    refine lv_bipush (v := (-2)) hx hb dX11_fewest_9 (by decide) ?_
    exact fw_ireti hx hb hr hlocks (Option.some.inj h) hK hZ hP hS dX11_fewest_11
theorem in_X11_ends_X11 : ∀ w ∈ wsX110, w ∈ wsX11_ends := fun w h => List.mem_cons_of_mem _ (List.mem_append_right _ (h))
theorem hdV_X11_ends : yX11_ends.cls = RX11 ∧ yX11_ends.cls ≠ "java/lang/invoke/MethodHandle" ∧ yX11_ends.cls ≠ "java/lang/invoke/VarHandle" ∧ (parseMethodDescriptor yX11_ends.desc).map (fun d => d.parameters.length) = some 3 := by decide +kernel
set_option maxHeartbeats 4000000 in
set_option maxRecDepth 100000 in
theorem k_X11_ends (l : Launch) (D : va_G) (cA : Nat → ClassId) (ad : Nat → Nat) (tw : Nat) (hG : gOk ad 22) (z : gS) (a1 : Int32) (a2 : Int32) (a3 : Int32) (res : Int32 × gS) (h : f_X11_ends a1 a2 a3 z = some res) : gMi l yX11_ends wsX11_ends (gRm 3 68) D cA ad tw shM 22 [.ref (ad 0), .int a1, .int a2, .int a3] z res := by
  refine Met.ofW (cc := cX11_ends) (maxL := 9) (ret := (some .int)) (by decide) rfl ?_
  intro p e s m args below meth c s₁ B hml hv
  obtain ⟨rfl, hP, hK, hZ⟩ := hv
  have hx := B.exec
  have hb := B.bytes
  have hr := B.returns
  have hts := atoms_spec (ws := wsX11_ends) B.pre
  have hown : s.vm.findClass RX11 = some m.cls := findClass_of_methodNamed B.named
  have hlocks := B.notSynchronized
  have hS : va_S (gA ad 22) s.heap s.heap [] := va_S.rf
  have hl := lv_entry ([.ref (ad 0), .int a1, .int a2, .int a3]) (n := 9) (Nat.le_of_ble_eq_true rfl)
  rw [lg_entry_eq]
  generalize (lg_sl ([.ref (ad 0), .int a1, .int a2, .int a3]) ++ List.replicate (9 - (lg_sl ([.ref (ad 0), .int a1, .int a2, .int a3])).length) Slot.unset).toArray = ls at hl ⊢
  have hl : lv_has ls 9 [(0, .ref (ad 0)), (1, .int a1), (2, .int a2), (3, .int a3)] := hl
  have j110 : ∀ (x1 : Int32) (x2 : Int32) (x3 : Int32) (x4 : Int32) (x6 : Int32) (x8 : Int32) (K62 : Int32 → Int32 → Int32 → Int32 → gS → Option (Int32 × gS)) (hK62 : ∀ (x4' : Int32) (x5' : Int32) (x6' : Int32) (x7' : Int32) (z' : gS) (H : Heap) (locs : List Loc) (ls : Array Slot), K62 x4' x5' x6' x7' z' = some res → va_P D vwCl (gw cA ad shM 22 z') H → va_S (gA ad 22) s.heap H locs → lv_has ls 9 [(0, .ref (ad 0)), (1, .int x1), (2, .int x2), (3, .int x3), (4, .int x4'), (5, .int x5'), (6, .int x6'), (7, .int x7')] → W p l e (headSpec wsX11_ends (gRm 3 68)).room s m ([.ref (ad 0), .int a1, .int a2, .int a3] : List Value).toArray below meth c H locs 0 0 (MQ below (va_Qi (fun r u => (r, u) = res) (gPr D cA ad tw shM 22) (gA ad 22)) ([.ref (ad 0), .int a1, .int a2, .int a3] : List Value).toArray s 0 0 (gA ad 22)) (F0 m 62 ls [])) (s0 : Int32) (s1 : Int32) (z : gS) (H : Heap) (locs : List Loc) (ls : Array Slot), f_X11_ends_110 x1 x2 x3 x4 x6 x8 K62 s0 s1 z = some res → va_P D vwCl (gw cA ad shM 22 z) H → va_S (gA ad 22) s.heap H locs → lv_has ls 9 [(0, .ref (ad 0)), (1, .int x1), (2, .int x2), (3, .int x3), (4, .int x4), (6, .int x6), (8, .int x8)] → W p l e (headSpec wsX11_ends (gRm 3 68)).room s m ([.ref (ad 0), .int a1, .int a2, .int a3] : List Value).toArray below meth c H locs 0 0 (MQ below (va_Qi (fun r u => (r, u) = res) (gPr D cA ad tw shM 22) (gA ad 22)) ([.ref (ad 0), .int a1, .int a2, .int a3] : List Value).toArray s 0 0 (gA ad 22)) (F0 m 110 ls [.int s1, .int s0]) := by
    intro x1 x2 x3 x4 x6 x8 K62 hK62 s0 s1 z H locs ls h hP hS hl
    unfold f_X11_ends_110 at h
    refine lv_iadd hx hb dX11_ends_110 ?_
    refine lv_topi (fun y24 ey24 => ?_)
    replace h := gl_s h ey24
    refine lv_istore (lv' := [(5, .int y24), (0, .ref (ad 0)), (1, .int x1), (2, .int x2), (3, .int x3), (4, .int x4), (6, .int x6), (8, .int x8)]) hx hb dX11_ends_111 hl (by decide) rfl (fun ls hl => ?_)
    refine lv_iload hx hb dX11_ends_113 (lv_at hl 5 rfl) ?_
    refine lv_iconst (v := gm1) hx hb dX11_ends_115 (by decide) ?_
    refine lv_icmp_eq (tgt := 126) hx hb dX11_ends_116 (by decide) (fun c25 => ?_) (fun c25 => ?_)
    · replace h := gif_t h c25
      refine lv_iload hx hb dX11_ends_126 (lv_at hl 7 rfl) ?_
      refine lv_istore (lv' := [(4, .int x8), (5, .int y24), (0, .ref (ad 0)), (1, .int x1), (2, .int x2), (3, .int x3), (6, .int x6), (8, .int x8)]) hx hb dX11_ends_128 hl (by decide) rfl (fun ls hl => ?_)
      refine lv_aload_n hx hb dX11_ends_130 rfl (lv_at hl 2 rfl) ?_
      obtain ⟨q26, hq26, h⟩ := gb_s h
      refine fw_viR (As := []) (rest := []) ⟨hx, hb, hml, hown, hts⟩ (k_X11_digits l D cA ad tw hG z  q26 hq26) (cwV 0 hts gX11_ends_X11_digits rfl rfl rfl hdV_X11_digits ⟨Nat.le_of_ble_eq_true rfl, Nat.le_of_ble_eq_true rfl⟩) (fw_preV gF11.1.1 gF11.1.2 rfl rfl hK hZ hP hS) rfl hl _ rfl (Nat.le_of_ble_eq_true rfl) hS dX11_ends_131 ⟨Nat.zero_le _, Nat.zero_le _⟩ (fun H locs hP hS => ?_)
      refine lv_istore (lv' := [(6, .int q26), (4, .int x8), (5, .int y24), (0, .ref (ad 0)), (1, .int x1), (2, .int x2), (3, .int x3), (8, .int x8)]) hx hb dX11_ends_134 hl (by decide) rfl (fun ls hl => ?_)
      refine lv_aload_n hx hb dX11_ends_136 rfl (lv_at hl 3 rfl) ?_
      obtain ⟨q27, hq27, h⟩ := gb_s h
      refine fw_vi (As := []) (rest := []) ⟨hx, hb, hml, hown, hts⟩ (k_X11_goesOn l D cA ad tw hG z  q27 hq27) (cwV 0 hts gX11_ends_X11_goesOn rfl rfl rfl hdV_X11_goesOn ⟨Nat.le_of_ble_eq_true rfl, Nat.le_of_ble_eq_true rfl⟩) (fw_preV gF11.1.1 gF11.1.2 rfl rfl hK hZ hP hS) rfl hl _ rfl (Nat.le_of_ble_eq_true rfl) hS dX11_ends_137 ⟨Nat.zero_le _, Nat.zero_le _⟩ (fun H locs hP hS => ?_)
      refine lv_istore (lv' := [(7, .int q27.1), (6, .int q26), (4, .int x8), (5, .int y24), (0, .ref (ad 0)), (1, .int x1), (2, .int x2), (3, .int x3), (8, .int x8)]) hx hb dX11_ends_140 hl (by decide) rfl (fun ls hl => ?_)
      refine lv_goto (tgt := 62) hx hb dX11_ends_142 (by decide) ?_
      exact hK62 x8 y24 q26 q27.1 q27.2 _ _ ls h hP hS (lv_sub hl [4, 5, 6, 7, 2, 3, 1, 0] rfl)
    · replace h := gif_f h c25
      refine lv_iload hx hb dX11_ends_119 (lv_at hl 7 rfl) ?_
      refine lv_iload hx hb dX11_ends_121 (lv_at hl 5 rfl) ?_
      refine lv_icmp_ge (tgt := 136) hx hb dX11_ends_123 (by decide) (fun c28 => ?_) (fun c28 => ?_)
      · replace h := gif_t h c28
        refine lv_aload_n hx hb dX11_ends_136 rfl (lv_at hl 1 rfl) ?_
        obtain ⟨q29, hq29, h⟩ := gb_s h
        refine fw_vi (As := []) (rest := []) ⟨hx, hb, hml, hown, hts⟩ (k_X11_goesOn l D cA ad tw hG z  q29 hq29) (cwV 0 hts gX11_ends_X11_goesOn rfl rfl rfl hdV_X11_goesOn ⟨Nat.le_of_ble_eq_true rfl, Nat.le_of_ble_eq_true rfl⟩) (fw_preV gF11.1.1 gF11.1.2 rfl rfl hK hZ hP hS) rfl hl _ rfl (Nat.le_of_ble_eq_true rfl) hS dX11_ends_137 ⟨Nat.zero_le _, Nat.zero_le _⟩ (fun H locs hP hS => ?_)
        refine lv_istore (lv' := [(7, .int q29.1), (5, .int y24), (0, .ref (ad 0)), (1, .int x1), (2, .int x2), (3, .int x3), (4, .int x4), (6, .int x6), (8, .int x8)]) hx hb dX11_ends_140 hl (by decide) rfl (fun ls hl => ?_)
        refine lv_goto (tgt := 62) hx hb dX11_ends_142 (by decide) ?_
        exact hK62 x4 y24 x6 q29.1 q29.2 _ _ ls h hP hS (lv_sub hl [2, 3, 4, 5, 6, 1, 7, 0] rfl)
      · replace h := gif_f h c28
        refine lv_iload hx hb dX11_ends_126 (lv_at hl 7 rfl) ?_
        refine lv_istore (lv' := [(4, .int x8), (5, .int y24), (0, .ref (ad 0)), (1, .int x1), (2, .int x2), (3, .int x3), (6, .int x6), (8, .int x8)]) hx hb dX11_ends_128 hl (by decide) rfl (fun ls hl => ?_)
        refine lv_aload_n hx hb dX11_ends_130 rfl (lv_at hl 2 rfl) ?_
        obtain ⟨q30, hq30, h⟩ := gb_s h
        refine fw_viR (As := []) (rest := []) ⟨hx, hb, hml, hown, hts⟩ (k_X11_digits l D cA ad tw hG z  q30 hq30) (cwV 0 hts gX11_ends_X11_digits rfl rfl rfl hdV_X11_digits ⟨Nat.le_of_ble_eq_true rfl, Nat.le_of_ble_eq_true rfl⟩) (fw_preV gF11.1.1 gF11.1.2 rfl rfl hK hZ hP hS) rfl hl _ rfl (Nat.le_of_ble_eq_true rfl) hS dX11_ends_131 ⟨Nat.zero_le _, Nat.zero_le _⟩ (fun H locs hP hS => ?_)
        refine lv_istore (lv' := [(6, .int q30), (4, .int x8), (5, .int y24), (0, .ref (ad 0)), (1, .int x1), (2, .int x2), (3, .int x3), (8, .int x8)]) hx hb dX11_ends_134 hl (by decide) rfl (fun ls hl => ?_)
        refine lv_aload_n hx hb dX11_ends_136 rfl (lv_at hl 3 rfl) ?_
        obtain ⟨q31, hq31, h⟩ := gb_s h
        refine fw_vi (As := []) (rest := []) ⟨hx, hb, hml, hown, hts⟩ (k_X11_goesOn l D cA ad tw hG z  q31 hq31) (cwV 0 hts gX11_ends_X11_goesOn rfl rfl rfl hdV_X11_goesOn ⟨Nat.le_of_ble_eq_true rfl, Nat.le_of_ble_eq_true rfl⟩) (fw_preV gF11.1.1 gF11.1.2 rfl rfl hK hZ hP hS) rfl hl _ rfl (Nat.le_of_ble_eq_true rfl) hS dX11_ends_137 ⟨Nat.zero_le _, Nat.zero_le _⟩ (fun H locs hP hS => ?_)
        refine lv_istore (lv' := [(7, .int q31.1), (6, .int q30), (4, .int x8), (5, .int y24), (0, .ref (ad 0)), (1, .int x1), (2, .int x2), (3, .int x3), (8, .int x8)]) hx hb dX11_ends_140 hl (by decide) rfl (fun ls hl => ?_)
        refine lv_goto (tgt := 62) hx hb dX11_ends_142 (by decide) ?_
        exact hK62 x8 y24 q30 q31.1 q31.2 _ _ ls h hP hS (lv_sub hl [4, 5, 6, 7, 2, 3, 1, 0] rfl)
  have j62 : ∀ (x1 : Int32) (x2 : Int32) (x3 : Int32) (n : Nat) (x4 : Int32) (x5 : Int32) (x6 : Int32) (x7 : Int32) (z : gS) (H : Heap) (locs : List Loc) (ls : Array Slot), f_X11_ends_62 x1 x2 x3 n x4 x5 x6 x7 z = some res → va_P D vwCl (gw cA ad shM 22 z) H → va_S (gA ad 22) s.heap H locs → lv_has ls 9 [(0, .ref (ad 0)), (1, .int x1), (2, .int x2), (3, .int x3), (4, .int x4), (5, .int x5), (6, .int x6), (7, .int x7)] → W p l e (headSpec wsX11_ends (gRm 3 68)).room s m ([.ref (ad 0), .int a1, .int a2, .int a3] : List Value).toArray below meth c H locs 0 0 (MQ below (va_Qi (fun r u => (r, u) = res) (gPr D cA ad tw shM 22) (gA ad 22)) ([.ref (ad 0), .int a1, .int a2, .int a3] : List Value).toArray s 0 0 (gA ad 22)) (F0 m 62 ls []) := by
    intro x1 x2 x3 n
    induction n with
    | zero => intro x4 x5 x6 x7 z H locs ls h; exact (gno h).elim
    | succ n hK62 =>
      intro x4 x5 x6 x7 z H locs ls h hP hS hl
      replace h : f_X11_ends_62_b x1 x2 x3 (f_X11_ends_62 x1 x2 x3 n) x4 x5 x6 x7 z = some res := h
      unfold f_X11_ends_62_b at h
      refine lv_iload hx hb dX11_ends_62 (lv_at hl 7 rfl) ?_
      refine lv_if_eq (tgt := 145) hx hb dX11_ends_64 (by decide) (fun c13 => ?_) (fun c13 => ?_)
      · replace h := gif_t h c13
        refine lv_iload_n hx hb dX11_ends_145 rfl (lv_at hl 3 rfl) ?_
        refine lv_if_ne (tgt := 154) hx hb dX11_ends_146 (by decide) (fun c14 => ?_) (fun c14 => ?_)
        · replace h := gif_f h c14
          refine lv_iload_n hx hb dX11_ends_154 rfl (lv_at hl 3 rfl) ?_
          refine lv_iconst (v := (nI 1)) hx hb dX11_ends_155 (by decide) ?_
          refine lv_icmp_ne (tgt := 164) hx hb dX11_ends_156 (by decide) (fun c15 => ?_) (fun c15 => ?_)
          · replace h := gif_f h c15
            refine lv_iload hx hb dX11_ends_164 (lv_at hl 6 rfl) ?_
            exact fw_ireti hx hb hr hlocks (Option.some.inj h) hK hZ hP hS dX11_ends_166
          · replace h := gif_t h c15
            refine lv_iload hx hb dX11_ends_159 (lv_at hl 4 rfl) ?_
            refine lv_goto (tgt := 166) hx hb dX11_ends_161 (by decide) ?_
            exact fw_ireti hx hb hr hlocks (Option.some.inj h) hK hZ hP hS dX11_ends_166
        · replace h := gif_t h c14
          refine lv_iload hx hb dX11_ends_149 (lv_at hl 5 rfl) ?_
          refine lv_goto (tgt := 166) hx hb dX11_ends_151 (by decide) ?_
          exact fw_ireti hx hb hr hlocks (Option.some.inj h) hK hZ hP hS dX11_ends_166
      · replace h := gif_f h c13
        refine lv_aload_n hx hb dX11_ends_67 rfl (lv_at hl 0 rfl) ?_
        refine fw_getr hx hb hts in_X11_ends_X11 hown hK hP gF11.1.1 gF11.1.2 rfl 6 (by decide) rfl (hts _ (List.mem_of_getElem? (i := 2) rfl)) rfl dX11_ends_68 ?_
        refine lv_iconst (v := (nI 0)) hx hb dX11_ends_71 (by decide) ?_
        obtain ⟨h16, h⟩ := gg_s h
        refine fw_iald hx hb hK hP gF11.2.2.2.2.1.1 gF11.2.2.2.2.1.2 h16 dX11_ends_72 ?_
        refine lv_iload_n hx hb dX11_ends_73 rfl (lv_at hl 1 rfl) ?_
        refine lv_icmp_ne (tgt := 136) hx hb dX11_ends_74 (by decide) (fun c17 => ?_) (fun c17 => ?_)
        · replace h := gif_f h c17
          refine lv_aload_n hx hb dX11_ends_136 rfl (lv_at hl 0 rfl) ?_
          obtain ⟨q18, hq18, h⟩ := gb_s h
          refine fw_vi (As := []) (rest := []) ⟨hx, hb, hml, hown, hts⟩ (k_X11_goesOn l D cA ad tw hG z  q18 hq18) (cwV 0 hts gX11_ends_X11_goesOn rfl rfl rfl hdV_X11_goesOn ⟨Nat.le_of_ble_eq_true rfl, Nat.le_of_ble_eq_true rfl⟩) (fw_preV gF11.1.1 gF11.1.2 rfl rfl hK hZ hP hS) rfl hl _ rfl (Nat.le_of_ble_eq_true rfl) hS dX11_ends_137 ⟨Nat.zero_le _, Nat.zero_le _⟩ (fun H locs hP hS => ?_)
          refine lv_istore (lv' := [(7, .int q18.1), (0, .ref (ad 0)), (1, .int x1), (2, .int x2), (3, .int x3), (4, .int x4), (5, .int x5), (6, .int x6)]) hx hb dX11_ends_140 hl (by decide) rfl (fun ls hl => ?_)
          refine lv_goto (tgt := 62) hx hb dX11_ends_142 (by decide) ?_
          exact hK62 x4 x5 x6 q18.1 q18.2 _ _ ls h hP hS (lv_sub hl [1, 2, 3, 4, 5, 6, 7, 0] rfl)
        · replace h := gif_t h c17
          refine lv_aload_n hx hb dX11_ends_77 rfl (lv_at hl 0 rfl) ?_
          refine fw_getr hx hb hts in_X11_ends_X11 hown hK hP gF11.1.1 gF11.1.2 rfl 6 (by decide) rfl (hts _ (List.mem_of_getElem? (i := 2) rfl)) rfl dX11_ends_78 ?_
          refine lv_aload_n hx hb dX11_ends_81 rfl (lv_at hl 0 rfl) ?_
          refine fw_geti hx hb hts in_X11_ends_X11 hown hK hP gF11.1.1 gF11.1.2 rfl 7 (by decide) rfl (hts _ (List.mem_of_getElem? (i := 3) rfl)) rfl dX11_ends_82 ?_
          refine lv_iconst (v := (nI 1)) hx hb dX11_ends_85 (by decide) ?_
          refine lv_isub hx hb dX11_ends_86 ?_
          obtain ⟨h19, h⟩ := gg_s h
          refine fw_iald hx hb hK hP gF11.2.2.2.2.1.1 gF11.2.2.2.2.1.2 h19 dX11_ends_87 ?_
          refine lv_iload_n hx hb dX11_ends_88 rfl (lv_at hl 2 rfl) ?_
          refine lv_icmp_ne (tgt := 136) hx hb dX11_ends_89 (by decide) (fun c20 => ?_) (fun c20 => ?_)
          · replace h := gif_f h c20
            refine lv_aload_n hx hb dX11_ends_136 rfl (lv_at hl 0 rfl) ?_
            obtain ⟨q21, hq21, h⟩ := gb_s h
            refine fw_vi (As := []) (rest := []) ⟨hx, hb, hml, hown, hts⟩ (k_X11_goesOn l D cA ad tw hG z  q21 hq21) (cwV 0 hts gX11_ends_X11_goesOn rfl rfl rfl hdV_X11_goesOn ⟨Nat.le_of_ble_eq_true rfl, Nat.le_of_ble_eq_true rfl⟩) (fw_preV gF11.1.1 gF11.1.2 rfl rfl hK hZ hP hS) rfl hl _ rfl (Nat.le_of_ble_eq_true rfl) hS dX11_ends_137 ⟨Nat.zero_le _, Nat.zero_le _⟩ (fun H locs hP hS => ?_)
            refine lv_istore (lv' := [(7, .int q21.1), (0, .ref (ad 0)), (1, .int x1), (2, .int x2), (3, .int x3), (4, .int x4), (5, .int x5), (6, .int x6)]) hx hb dX11_ends_140 hl (by decide) rfl (fun ls hl => ?_)
            refine lv_goto (tgt := 62) hx hb dX11_ends_142 (by decide) ?_
            exact hK62 x4 x5 x6 q21.1 q21.2 _ _ ls h hP hS (lv_sub hl [1, 2, 3, 4, 5, 6, 7, 0] rfl)
          · replace h := gif_t h c20
            refine lv_aload_n hx hb dX11_ends_92 rfl (lv_at hl 0 rfl) ?_
            obtain ⟨q22, hq22, h⟩ := gb_s h
            refine fw_viR (As := []) (rest := []) ⟨hx, hb, hml, hown, hts⟩ (k_X11_gapsNow l D cA ad tw hG z  q22 hq22) (cwV 0 hts gX11_ends_X11_gapsNow rfl rfl rfl hdV_X11_gapsNow ⟨Nat.le_of_ble_eq_true rfl, Nat.le_of_ble_eq_true rfl⟩) (fw_preV gF11.1.1 gF11.1.2 rfl rfl hK hZ hP hS) rfl hl _ rfl (Nat.le_of_ble_eq_true rfl) hS dX11_ends_93 ⟨Nat.zero_le _, Nat.zero_le _⟩ (fun H locs hP hS => ?_)
            refine lv_istore (lv' := [(8, .int q22), (0, .ref (ad 0)), (1, .int x1), (2, .int x2), (3, .int x3), (4, .int x4), (5, .int x5), (6, .int x6), (7, .int x7)]) hx hb dX11_ends_96 hl (by decide) rfl (fun ls hl => ?_)
            refine lv_iload hx hb dX11_ends_98 (lv_at hl 6 rfl) ?_
            refine lv_iload hx hb dX11_ends_100 (lv_at hl 0 rfl) ?_
            refine lv_if_ne (tgt := 109) hx hb dX11_ends_102 (by decide) (fun c23 => ?_) (fun c23 => ?_)
            · replace h := gif_f h c23
              refine lv_iconst (v := (nI 0)) hx hb dX11_ends_109 (by decide) ?_
              exact j110 x1 x2 x3 x4 x6 q22 _ hK62 x5 (nI 0) z _ _ ls h hP hS (lv_sub hl [1, 2, 3, 4, 5, 7, 0] rfl)
            · replace h := gif_t h c23
              refine lv_iconst (v := (nI 1)) hx hb dX11_ends_105 (by decide) ?_
              refine lv_goto (tgt := 110) hx hb dX11_ends_106 (by decide) ?_
              exact j110 x1 x2 x3 x4 x6 q22 _ hK62 x5 (nI 1) z _ _ ls h hP hS (lv_sub hl [1, 2, 3, 4, 5, 7, 0] rfl)
  unfold f_X11_ends at h
  refine lv_aload_n hx hb dX11_ends_0 rfl (lv_at hl 0 rfl) ?_
  refine lv_iload_n hx hb dX11_ends_1 rfl (lv_at hl 1 rfl) ?_
  obtain ⟨q1, hq1, h⟩ := gb_s h
  refine fw_viR (As := [.int a1]) (rest := []) ⟨hx, hb, hml, hown, hts⟩ (k_X11_isGrave l D cA ad tw hG z a1 q1 hq1) (cwV 1 hts gX11_ends_X11_isGrave rfl rfl rfl hdV_X11_isGrave ⟨Nat.le_of_ble_eq_true rfl, Nat.le_of_ble_eq_true rfl⟩) (fw_preV gF11.1.1 gF11.1.2 rfl rfl hK hZ hP hS) rfl hl _ rfl (Nat.le_of_ble_eq_true rfl) hS dX11_ends_2 ⟨Nat.zero_le _, Nat.zero_le _⟩ (fun H locs hP hS => ?_)
  refine lv_if_eq (tgt := 16) hx hb dX11_ends_5 (by decide) (fun c2 => ?_) (fun c2 => ?_)
  · replace h := gif_t h c2
    refine lv_iconst (v := gm1) hx hb dX11_ends_16 (by decide) ?_
    exact fw_ireti hx hb hr hlocks (Option.some.inj h) hK hZ hP hS dX11_ends_17
  · replace h := gif_f h c2
    refine lv_aload_n hx hb dX11_ends_8 rfl (lv_at hl 0 rfl) ?_
    refine lv_iload_n hx hb dX11_ends_9 rfl (lv_at hl 2 rfl) ?_
    obtain ⟨q3, hq3, h⟩ := gb_s h
    refine fw_viR (As := [.int a2]) (rest := []) ⟨hx, hb, hml, hown, hts⟩ (k_X11_isGrave l D cA ad tw hG z a2 q3 hq3) (cwV 1 hts gX11_ends_X11_isGrave rfl rfl rfl hdV_X11_isGrave ⟨Nat.le_of_ble_eq_true rfl, Nat.le_of_ble_eq_true rfl⟩) (fw_preV gF11.1.1 gF11.1.2 rfl rfl hK hZ hP hS) rfl hl _ rfl (Nat.le_of_ble_eq_true rfl) hS dX11_ends_10 ⟨Nat.zero_le _, Nat.zero_le _⟩ (fun H locs hP hS => ?_)
    refine lv_if_ne (tgt := 18) hx hb dX11_ends_13 (by decide) (fun c4 => ?_) (fun c4 => ?_)
    · replace h := gif_f h c4
      refine lv_iload_n hx hb dX11_ends_18 rfl (lv_at hl 1 rfl) ?_
      refine lv_iload_n hx hb dX11_ends_19 rfl (lv_at hl 2 rfl) ?_
      refine lv_icmp_ne (tgt := 34) hx hb dX11_ends_20 (by decide) (fun c5 => ?_) (fun c5 => ?_)
      · replace h := gif_f h c5
        refine lv_iload_n hx hb dX11_ends_34 rfl (lv_at hl 3 rfl) ?_
        refine lv_iconst (v := (nI 0)) hx hb dX11_ends_35 (by decide) ?_
        refine lv_iconst (v := (nI 2)) hx hb dX11_ends_36 (by decide) ?_
        obtain ⟨q6, hq6, h⟩ := gb_s h
        refine fw_siR (As := [.int a3, .int (nI 0), .int (nI 2)]) (rest := []) ⟨hx, hb, hml, hown, hts⟩ (k_X11_in l D cA ad tw hG z a3 (nI 0) (nI 2) q6 hq6) (va_cwS 3 hts gX11_ends_X11_in rfl rfl rfl hdS_X11_in ⟨Nat.le_of_ble_eq_true rfl, Nat.le_of_ble_eq_true rfl⟩) hK hZ hP rfl hl _ rfl (Nat.le_of_ble_eq_true rfl) hS dX11_ends_37 ⟨Nat.zero_le _, Nat.zero_le _⟩ (fun H locs hP hS => ?_)
        refine lv_if_ne (tgt := 46) hx hb dX11_ends_40 (by decide) (fun c7 => ?_) (fun c7 => ?_)
        · replace h := gif_f h c7
          refine lv_iconst (v := gm1) hx hb dX11_ends_46 (by decide) ?_
          refine lv_istore (lv' := [(4, .int gm1), (0, .ref (ad 0)), (1, .int a1), (2, .int a2), (3, .int a3)]) hx hb dX11_ends_47 hl (by decide) rfl (fun ls hl => ?_)
          refine lv_iconst (v := (nI 0)) hx hb dX11_ends_49 (by decide) ?_
          refine lv_istore (lv' := [(5, .int (nI 0)), (4, .int gm1), (0, .ref (ad 0)), (1, .int a1), (2, .int a2), (3, .int a3)]) hx hb dX11_ends_50 hl (by decide) rfl (fun ls hl => ?_)
          refine lv_iconst (v := (nI 0)) hx hb dX11_ends_52 (by decide) ?_
          refine lv_istore (lv' := [(6, .int (nI 0)), (5, .int (nI 0)), (4, .int gm1), (0, .ref (ad 0)), (1, .int a1), (2, .int a2), (3, .int a3)]) hx hb dX11_ends_53 hl (by decide) rfl (fun ls hl => ?_)
          refine lv_aload_n hx hb dX11_ends_55 rfl (lv_at hl 3 rfl) ?_
          obtain ⟨q8, hq8, h⟩ := gb_s h
          refine fw_vv (As := []) (rest := []) ⟨hx, hb, hml, hown, hts⟩ (k_X11_beginsAll l D cA ad tw hG z  q8 hq8) (cwV 0 hts gX11_ends_X11_beginsAll rfl rfl rfl hdV_X11_beginsAll ⟨Nat.le_of_ble_eq_true rfl, Nat.le_of_ble_eq_true rfl⟩) (fw_preV gF11.1.1 gF11.1.2 rfl rfl hK hZ hP hS) rfl hl _ rfl (Nat.le_of_ble_eq_true rfl) hS dX11_ends_56 ⟨Nat.zero_le _, Nat.zero_le _⟩ (fun H locs hP hS => ?_)
          refine lv_iconst (v := (nI 1)) hx hb dX11_ends_59 (by decide) ?_
          refine lv_istore (lv' := [(7, .int (nI 1)), (6, .int (nI 0)), (5, .int (nI 0)), (4, .int gm1), (0, .ref (ad 0)), (1, .int a1), (2, .int a2), (3, .int a3)]) hx hb dX11_ends_60 hl (by decide) rfl (fun ls hl => ?_)
          exact j62 a1 a2 a3 gF gm1 (nI 0) (nI 0) (nI 1) q8 _ _ ls h hP hS (lv_sub hl [4, 5, 6, 7, 3, 2, 1, 0] rfl)
        · replace h := gif_t h c7
          refine lv_bipush (v := (-2)) hx hb dX11_ends_43 (by decide) ?_
          exact fw_ireti hx hb hr hlocks (Option.some.inj h) hK hZ hP hS dX11_ends_45
      · replace h := gif_t h c5
        refine lv_aload_n hx hb dX11_ends_23 rfl (lv_at hl 0 rfl) ?_
        refine fw_geti hx hb hts in_X11_ends_X11 hown hK hP gF11.1.1 gF11.1.2 rfl 1 (by decide) rfl (hts _ (List.mem_of_getElem? (i := 1) rfl)) rfl dX11_ends_24 ?_
        refine lv_iconst (v := (nI 1)) hx hb dX11_ends_27 (by decide) ?_
        refine lv_icmp_le (tgt := 34) hx hb dX11_ends_28 (by decide) (fun c9 => ?_) (fun c9 => ?_)
        · replace h := gif_t h c9
          refine lv_iload_n hx hb dX11_ends_34 rfl (lv_at hl 3 rfl) ?_
          refine lv_iconst (v := (nI 0)) hx hb dX11_ends_35 (by decide) ?_
          refine lv_iconst (v := (nI 2)) hx hb dX11_ends_36 (by decide) ?_
          obtain ⟨q10, hq10, h⟩ := gb_s h
          refine fw_siR (As := [.int a3, .int (nI 0), .int (nI 2)]) (rest := []) ⟨hx, hb, hml, hown, hts⟩ (k_X11_in l D cA ad tw hG z a3 (nI 0) (nI 2) q10 hq10) (va_cwS 3 hts gX11_ends_X11_in rfl rfl rfl hdS_X11_in ⟨Nat.le_of_ble_eq_true rfl, Nat.le_of_ble_eq_true rfl⟩) hK hZ hP rfl hl _ rfl (Nat.le_of_ble_eq_true rfl) hS dX11_ends_37 ⟨Nat.zero_le _, Nat.zero_le _⟩ (fun H locs hP hS => ?_)
          refine lv_if_ne (tgt := 46) hx hb dX11_ends_40 (by decide) (fun c11 => ?_) (fun c11 => ?_)
          · replace h := gif_f h c11
            refine lv_iconst (v := gm1) hx hb dX11_ends_46 (by decide) ?_
            refine lv_istore (lv' := [(4, .int gm1), (0, .ref (ad 0)), (1, .int a1), (2, .int a2), (3, .int a3)]) hx hb dX11_ends_47 hl (by decide) rfl (fun ls hl => ?_)
            refine lv_iconst (v := (nI 0)) hx hb dX11_ends_49 (by decide) ?_
            refine lv_istore (lv' := [(5, .int (nI 0)), (4, .int gm1), (0, .ref (ad 0)), (1, .int a1), (2, .int a2), (3, .int a3)]) hx hb dX11_ends_50 hl (by decide) rfl (fun ls hl => ?_)
            refine lv_iconst (v := (nI 0)) hx hb dX11_ends_52 (by decide) ?_
            refine lv_istore (lv' := [(6, .int (nI 0)), (5, .int (nI 0)), (4, .int gm1), (0, .ref (ad 0)), (1, .int a1), (2, .int a2), (3, .int a3)]) hx hb dX11_ends_53 hl (by decide) rfl (fun ls hl => ?_)
            refine lv_aload_n hx hb dX11_ends_55 rfl (lv_at hl 3 rfl) ?_
            obtain ⟨q12, hq12, h⟩ := gb_s h
            refine fw_vv (As := []) (rest := []) ⟨hx, hb, hml, hown, hts⟩ (k_X11_beginsAll l D cA ad tw hG z  q12 hq12) (cwV 0 hts gX11_ends_X11_beginsAll rfl rfl rfl hdV_X11_beginsAll ⟨Nat.le_of_ble_eq_true rfl, Nat.le_of_ble_eq_true rfl⟩) (fw_preV gF11.1.1 gF11.1.2 rfl rfl hK hZ hP hS) rfl hl _ rfl (Nat.le_of_ble_eq_true rfl) hS dX11_ends_56 ⟨Nat.zero_le _, Nat.zero_le _⟩ (fun H locs hP hS => ?_)
            refine lv_iconst (v := (nI 1)) hx hb dX11_ends_59 (by decide) ?_
            refine lv_istore (lv' := [(7, .int (nI 1)), (6, .int (nI 0)), (5, .int (nI 0)), (4, .int gm1), (0, .ref (ad 0)), (1, .int a1), (2, .int a2), (3, .int a3)]) hx hb dX11_ends_60 hl (by decide) rfl (fun ls hl => ?_)
            exact j62 a1 a2 a3 gF gm1 (nI 0) (nI 0) (nI 1) q12 _ _ ls h hP hS (lv_sub hl [4, 5, 6, 7, 3, 2, 1, 0] rfl)
          · replace h := gif_t h c11
            refine lv_bipush (v := (-2)) hx hb dX11_ends_43 (by decide) ?_
            exact fw_ireti hx hb hr hlocks (Option.some.inj h) hK hZ hP hS dX11_ends_45
        · replace h := gif_f h c9
          refine lv_bipush (v := (-5)) hx hb dX11_ends_31 (by decide) ?_
          exact fw_ireti hx hb hr hlocks (Option.some.inj h) hK hZ hP hS dX11_ends_33
    · replace h := gif_t h c4
      refine lv_iconst (v := gm1) hx hb dX11_ends_16 (by decide) ?_
      exact fw_ireti hx hb hr hlocks (Option.some.inj h) hK hZ hP hS dX11_ends_17
theorem in_X11_isCluster_X11 : ∀ w ∈ wsX110, w ∈ wsX11_isCluster := fun w h => List.mem_cons_of_mem _ (List.mem_append_right _ (h))
theorem hdV_X11_isCluster : yX11_isCluster.cls = RX11 ∧ yX11_isCluster.cls ≠ "java/lang/invoke/MethodHandle" ∧ yX11_isCluster.cls ≠ "java/lang/invoke/VarHandle" ∧ (parseMethodDescriptor yX11_isCluster.desc).map (fun d => d.parameters.length) = some 1 := by decide +kernel
set_option maxHeartbeats 4000000 in
set_option maxRecDepth 100000 in
theorem k_X11_isCluster (l : Launch) (D : va_G) (cA : Nat → ClassId) (ad : Nat → Nat) (tw : Nat) (hG : gOk ad 22) (z : gS) (a1 : Int32) (res : Int32) (h : f_X11_isCluster a1 z = some res) : gMi l yX11_isCluster wsX11_isCluster (gRm 0 0) D cA ad tw shM 22 [.ref (ad 0), .int a1] z (res, z) := by
  refine Met.ofW (cc := cX11_isCluster) (maxL := 2) (ret := (some .boolean)) (by decide) rfl ?_
  intro p e s m args below meth c s₁ B hml hv
  obtain ⟨rfl, hP, hK, hZ⟩ := hv
  have hx := B.exec
  have hb := B.bytes
  have hr := B.returns
  have hts := atoms_spec (ws := wsX11_isCluster) B.pre
  have hown : s.vm.findClass RX11 = some m.cls := findClass_of_methodNamed B.named
  have hlocks := B.notSynchronized
  have hS : va_S (gA ad 22) s.heap s.heap [] := va_S.rf
  have hl := lv_entry ([.ref (ad 0), .int a1]) (n := 2) (Nat.le_of_ble_eq_true rfl)
  rw [lg_entry_eq]
  generalize (lg_sl ([.ref (ad 0), .int a1]) ++ List.replicate (2 - (lg_sl ([.ref (ad 0), .int a1])).length) Slot.unset).toArray = ls at hl ⊢
  have hl : lv_has ls 2 [(0, .ref (ad 0)), (1, .int a1)] := hl
  unfold f_X11_isCluster at h
  refine lv_aload_n hx hb dX11_isCluster_0 rfl (lv_at hl 0 rfl) ?_
  refine fw_getr hx hb hts in_X11_isCluster_X11 hown hK hP gF11.1.1 gF11.1.2 rfl 11 (by decide) rfl (hts _ (List.mem_of_getElem? (i := 1) rfl)) rfl dX11_isCluster_1 ?_
  refine lv_iload_n hx hb dX11_isCluster_4 rfl (lv_at hl 1 rfl) ?_
  obtain ⟨h1, h⟩ := gg_s h
  refine fw_iald hx hb hK hP gF11.2.2.2.2.2.2.1.1 gF11.2.2.2.2.2.2.1.2 h1 dX11_isCluster_5 ?_
  refine lv_aload_n hx hb dX11_isCluster_6 rfl (lv_at hl 0 rfl) ?_
  refine fw_geti hx hb hts in_X11_isCluster_X11 hown hK hP gF11.1.1 gF11.1.2 rfl 10 (by decide) rfl (hts _ (List.mem_of_getElem? (i := 2) rfl)) rfl dX11_isCluster_7 ?_
  refine lv_icmp_ne (tgt := 17) hx hb dX11_isCluster_10 (by decide) (fun c2 => ?_) (fun c2 => ?_)
  · replace h := gif_f h c2
    refine lv_iconst (v := (nI 0)) hx hb dX11_isCluster_17 (by decide) ?_
    exact fw_iretz hx hb hr hlocks (by decide) (congrArg (fun q => (q, z)) (Option.some.inj h)) hK hZ hP hS dX11_isCluster_18
  · replace h := gif_t h c2
    refine lv_iconst (v := (nI 1)) hx hb dX11_isCluster_13 (by decide) ?_
    refine lv_goto (tgt := 18) hx hb dX11_isCluster_14 (by decide) ?_
    exact fw_iretz hx hb hr hlocks (by decide) (congrArg (fun q => (q, z)) (Option.some.inj h)) hK hZ hP hS dX11_isCluster_18
theorem in_X11_marks_X11 : ∀ w ∈ wsX110, w ∈ wsX11_marks := fun w h => List.mem_cons_of_mem _ (List.mem_append_right _ (h))
theorem hdV_X11_marks : yX11_marks.cls = RX11 ∧ yX11_marks.cls ≠ "java/lang/invoke/MethodHandle" ∧ yX11_marks.cls ≠ "java/lang/invoke/VarHandle" ∧ (parseMethodDescriptor yX11_marks.desc).map (fun d => d.parameters.length) = some 0 := by decide +kernel
set_option maxHeartbeats 4000000 in
set_option maxRecDepth 100000 in
theorem k_X11_marks (l : Launch) (D : va_G) (cA : Nat → ClassId) (ad : Nat → Nat) (tw : Nat) (hG : gOk ad 22) (z : gS)  (res : gS) (h : f_X11_marks  z = some res) : gMv l yX11_marks wsX11_marks (gRm 0 0) D cA ad tw shM 22 [.ref (ad 0)] z res := by
  refine Met.ofW (cc := cX11_marks) (maxL := 4) (ret := none) (by decide) rfl ?_
  intro p e s m args below meth c s₁ B hml hv
  obtain ⟨rfl, hP, hK, hZ⟩ := hv
  have hx := B.exec
  have hb := B.bytes
  have hr := B.returns
  have hts := atoms_spec (ws := wsX11_marks) B.pre
  have hown : s.vm.findClass RX11 = some m.cls := findClass_of_methodNamed B.named
  have hlocks := B.notSynchronized
  have hS : va_S (gA ad 22) s.heap s.heap [] := va_S.rf
  have hl := lv_entry ([.ref (ad 0)]) (n := 4) (Nat.le_of_ble_eq_true rfl)
  rw [lg_entry_eq]
  generalize (lg_sl ([.ref (ad 0)]) ++ List.replicate (4 - (lg_sl ([.ref (ad 0)])).length) Slot.unset).toArray = ls at hl ⊢
  have hl : lv_has ls 4 [(0, .ref (ad 0))] := hl
  have j14 : ∀ (x1 : Int32) (K2 : Int32 → gS → Option gS) (hK2 : ∀ (x1' : Int32) (z' : gS) (H : Heap) (locs : List Loc) (ls : Array Slot), K2 x1' z' = some res → va_P D vwCl (gw cA ad shM 22 z') H → va_S (gA ad 22) s.heap H locs → lv_has ls 4 [(0, .ref (ad 0)), (1, .int x1')] → W p l e (headSpec wsX11_marks (gRm 0 0)).room s m ([.ref (ad 0)] : List Value).toArray below meth c H locs 0 0 (MQ below (va_Qv (fun u => u = res) (gPr D cA ad tw shM 22) (gA ad 22)) ([.ref (ad 0)] : List Value).toArray s 0 0 (gA ad 22)) (F0 m 2 ls [])) (n : Nat) (x2 : Int32) (x3 : Int32) (z : gS) (H : Heap) (locs : List Loc) (ls : Array Slot), f_X11_marks_14 x1 K2 n x2 x3 z = some res → va_P D vwCl (gw cA ad shM 22 z) H → va_S (gA ad 22) s.heap H locs → lv_has ls 4 [(0, .ref (ad 0)), (1, .int x1), (2, .int x2), (3, .int x3)] → W p l e (headSpec wsX11_marks (gRm 0 0)).room s m ([.ref (ad 0)] : List Value).toArray below meth c H locs 0 0 (MQ below (va_Qv (fun u => u = res) (gPr D cA ad tw shM 22) (gA ad 22)) ([.ref (ad 0)] : List Value).toArray s 0 0 (gA ad 22)) (F0 m 14 ls []) := by
    intro x1 K2 hK2 n
    induction n with
    | zero => intro x2 x3 z H locs ls h; exact (gno h).elim
    | succ n hK14 =>
      intro x2 x3 z H locs ls h hP hS hl
      replace h : f_X11_marks_14_b x1 K2 (f_X11_marks_14 x1 K2 n) x2 x3 z = some res := h
      unfold f_X11_marks_14_b at h
      refine lv_iload_n hx hb dX11_marks_14 rfl (lv_at hl 3 rfl) ?_
      refine lv_aload_n hx hb dX11_marks_15 rfl (lv_at hl 0 rfl) ?_
      refine fw_geti hx hb hts in_X11_marks_X11 hown hK hP gF11.1.1 gF11.1.2 rfl 7 (by decide) rfl (hts _ (List.mem_of_getElem? (i := 1) rfl)) rfl dX11_marks_16 ?_
      refine lv_icmp_ge (tgt := 49) hx hb dX11_marks_19 (by decide) (fun c2 => ?_) (fun c2 => ?_)
      · replace h := gif_t h c2
        refine lv_iinc (v := x1 + (nI 1)) (lv' := [(1, .int (x1 + (nI 1))), (0, .ref (ad 0)), (2, .int x2), (3, .int x3)]) hx hb dX11_marks_49 hl (k := 1) rfl rfl (by decide) rfl (fun ls hl => ?_)
        refine lv_goto (tgt := 2) hx hb dX11_marks_52 (by decide) ?_
        exact hK2 (x1 + (nI 1)) z _ _ ls h hP hS (lv_sub hl [1, 0] rfl)
      · replace h := gif_f h c2
        refine lv_iload_n hx hb dX11_marks_22 rfl (lv_at hl 2 rfl) ?_
        refine lv_iconst (v := (nI 1)) hx hb dX11_marks_23 (by decide) ?_
        refine lv_aload_n hx hb dX11_marks_24 rfl (lv_at hl 0 rfl) ?_
        refine fw_getr hx hb hts in_X11_marks_X11 hown hK hP gF11.1.1 gF11.1.2 rfl 6 (by decide) rfl (hts _ (List.mem_of_getElem? (i := 2) rfl)) rfl dX11_marks_25 ?_
        refine lv_iload_n hx hb dX11_marks_28 rfl (lv_at hl 3 rfl) ?_
        obtain ⟨h3, h⟩ := gg_s h
        refine fw_iald hx hb hK hP gF11.2.2.2.2.1.1 gF11.2.2.2.2.1.2 h3 dX11_marks_29 ?_
        refine lv_ishl hx hb dX11_marks_30 ?_
        refine lv_ior hx hb dX11_marks_31 ?_
        refine lv_topi (fun y4 ey4 => ?_)
        replace h := gl_s h ey4
        refine lv_istore_n (lv' := [(2, .int y4), (0, .ref (ad 0)), (1, .int x1), (3, .int x3)]) hx hb dX11_marks_32 rfl hl (by decide) rfl (fun ls hl => ?_)
        refine lv_aload_n hx hb dX11_marks_33 rfl (lv_at hl 1 rfl) ?_
        refine fw_getr hx hb hts in_X11_marks_X11 hown hK hP gF11.1.1 gF11.1.2 rfl 11 (by decide) rfl (hts _ (List.mem_of_getElem? (i := 3) rfl)) rfl dX11_marks_34 ?_
        refine lv_iload_n hx hb dX11_marks_37 rfl (lv_at hl 0 rfl) ?_
        refine lv_dup2_11 hx hb dX11_marks_38 rfl rfl ?_
        obtain ⟨h5, h⟩ := gg_s h
        refine fw_iald hx hb hK hP gF11.2.2.2.2.2.2.1.1 gF11.2.2.2.2.2.2.1.2 h5 dX11_marks_39 ?_
        refine lv_iconst (v := (nI 1)) hx hb dX11_marks_40 (by decide) ?_
        refine lv_iadd hx hb dX11_marks_41 ?_
        obtain ⟨h6, h⟩ := gg_s h
        refine fw_iast hx hb hK hG hP hS gF11.2.2.2.2.2.2.1.1 gF11.2.2.2.2.2.2.1.2 h6 dX11_marks_42 (fun z7 H locs ez7 hP hS => ?_)
        replace h := gl_s h ez7
        refine lv_iinc (v := x3 + (nI 1)) (lv' := [(3, .int (x3 + (nI 1))), (2, .int y4), (0, .ref (ad 0)), (1, .int x1)]) hx hb dX11_marks_43 hl (k := 3) rfl rfl (by decide) rfl (fun ls hl => ?_)
        refine lv_goto (tgt := 14) hx hb dX11_marks_46 (by decide) ?_
        exact hK14 y4 (x3 + (nI 1)) z7 _ _ ls h hP hS (lv_sub hl [2, 3, 1, 0] rfl)
  have j2 : ∀  (n : Nat) (x1 : Int32) (z : gS) (H : Heap) (locs : List Loc) (ls : Array Slot), f_X11_marks_2  n x1 z = some res → va_P D vwCl (gw cA ad shM 22 z) H → va_S (gA ad 22) s.heap H locs → lv_has ls 4 [(0, .ref (ad 0)), (1, .int x1)] → W p l e (headSpec wsX11_marks (gRm 0 0)).room s m ([.ref (ad 0)] : List Value).toArray below meth c H locs 0 0 (MQ below (va_Qv (fun u => u = res) (gPr D cA ad tw shM 22) (gA ad 22)) ([.ref (ad 0)] : List Value).toArray s 0 0 (gA ad 22)) (F0 m 2 ls []) := by
    intro n
    induction n with
    | zero => intro x1 z H locs ls h; exact (gno h).elim
    | succ n hK2 =>
      intro x1 z H locs ls h hP hS hl
      replace h : f_X11_marks_2_b  (f_X11_marks_2  n) x1 z = some res := h
      unfold f_X11_marks_2_b at h
      refine lv_iload_n hx hb dX11_marks_2 rfl (lv_at hl 1 rfl) ?_
      refine lv_aload_n hx hb dX11_marks_3 rfl (lv_at hl 0 rfl) ?_
      refine fw_geti hx hb hts in_X11_marks_X11 hown hK hP gF11.1.1 gF11.1.2 rfl 7 (by decide) rfl (hts _ (List.mem_of_getElem? (i := 1) rfl)) rfl dX11_marks_4 ?_
      refine lv_icmp_ge (tgt := 55) hx hb dX11_marks_7 (by decide) (fun c1 => ?_) (fun c1 => ?_)
      · replace h := gif_t h c1
        exact fw_vret hx hb hr hlocks (Option.some.inj h) hK hZ hP hS dX11_marks_55
      · replace h := gif_f h c1
        refine lv_iconst (v := (nI 0)) hx hb dX11_marks_10 (by decide) ?_
        refine lv_istore_n (lv' := [(2, .int (nI 0)), (0, .ref (ad 0)), (1, .int x1)]) hx hb dX11_marks_11 rfl hl (by decide) rfl (fun ls hl => ?_)
        refine lv_iload_n hx hb dX11_marks_12 rfl (lv_at hl 2 rfl) ?_
        refine lv_istore_n (lv' := [(3, .int x1), (2, .int (nI 0)), (0, .ref (ad 0)), (1, .int x1)]) hx hb dX11_marks_13 rfl hl (by decide) rfl (fun ls hl => ?_)
        exact j14 x1 _ hK2 gF (nI 0) x1 z _ _ ls h hP hS (lv_sub hl [2, 3, 1, 0] rfl)
  unfold f_X11_marks at h
  refine lv_iconst (v := (nI 0)) hx hb dX11_marks_0 (by decide) ?_
  refine lv_istore_n (lv' := [(1, .int (nI 0)), (0, .ref (ad 0))]) hx hb dX11_marks_1 rfl hl (by decide) rfl (fun ls hl => ?_)
  exact j2  gF (nI 0) z _ _ ls h hP hS (lv_sub hl [1, 0] rfl)
theorem in_X11_liesTogether_X11 : ∀ w ∈ wsX110, w ∈ wsX11_liesTogether := fun w h => List.mem_cons_of_mem _ (List.mem_append_right _ (h))
theorem hdV_X11_liesTogether : yX11_liesTogether.cls = RX11 ∧ yX11_liesTogether.cls ≠ "java/lang/invoke/MethodHandle" ∧ yX11_liesTogether.cls ≠ "java/lang/invoke/VarHandle" ∧ (parseMethodDescriptor yX11_liesTogether.desc).map (fun d => d.parameters.length) = some 0 := by decide +kernel
set_option maxHeartbeats 4000000 in
set_option maxRecDepth 100000 in
theorem k_X11_liesTogether (l : Launch) (D : va_G) (cA : Nat → ClassId) (ad : Nat → Nat) (tw : Nat) (hG : gOk ad 22) (z : gS)  (res : gS) (h : f_X11_liesTogether  z = some res) : gMv l yX11_liesTogether wsX11_liesTogether (gRm 3 68) D cA ad tw shM 22 [.ref (ad 0)] z res := by
  refine Met.ofW (cc := cX11_liesTogether) (maxL := 2) (ret := none) (by decide) rfl ?_
  intro p e s m args below meth c s₁ B hml hv
  obtain ⟨rfl, hP, hK, hZ⟩ := hv
  have hx := B.exec
  have hb := B.bytes
  have hr := B.returns
  have hts := atoms_spec (ws := wsX11_liesTogether) B.pre
  have hown : s.vm.findClass RX11 = some m.cls := findClass_of_methodNamed B.named
  have hlocks := B.notSynchronized
  have hS : va_S (gA ad 22) s.heap s.heap [] := va_S.rf
  have hl := lv_entry ([.ref (ad 0)]) (n := 2) (Nat.le_of_ble_eq_true rfl)
  rw [lg_entry_eq]
  generalize (lg_sl ([.ref (ad 0)]) ++ List.replicate (2 - (lg_sl ([.ref (ad 0)])).length) Slot.unset).toArray = ls at hl ⊢
  have hl : lv_has ls 2 [(0, .ref (ad 0))] := hl
  have j33 : ∀  (n : Nat) (x1 : Int32) (z : gS) (H : Heap) (locs : List Loc) (ls : Array Slot), f_X11_liesTogether_33  n x1 z = some res → va_P D vwCl (gw cA ad shM 22 z) H → va_S (gA ad 22) s.heap H locs → lv_has ls 2 [(0, .ref (ad 0)), (1, .int x1)] → W p l e (headSpec wsX11_liesTogether (gRm 3 68)).room s m ([.ref (ad 0)] : List Value).toArray below meth c H locs 0 0 (MQ below (va_Qv (fun u => u = res) (gPr D cA ad tw shM 22) (gA ad 22)) ([.ref (ad 0)] : List Value).toArray s 0 0 (gA ad 22)) (F0 m 33 ls []) := by
    intro n
    induction n with
    | zero => intro x1 z H locs ls h; exact (gno h).elim
    | succ n hK33 =>
      intro x1 z H locs ls h hP hS hl
      replace h : f_X11_liesTogether_33_b  (f_X11_liesTogether_33  n) x1 z = some res := h
      unfold f_X11_liesTogether_33_b at h
      refine lv_iload_n hx hb dX11_liesTogether_33 rfl (lv_at hl 1 rfl) ?_
      refine lv_if_eq (tgt := 66) hx hb dX11_liesTogether_34 (by decide) (fun c6 => ?_) (fun c6 => ?_)
      · replace h := gif_t h c6
        exact fw_vret hx hb hr hlocks (Option.some.inj h) hK hZ hP hS dX11_liesTogether_66
      · replace h := gif_f h c6
        refine lv_aload_n hx hb dX11_liesTogether_37 rfl (lv_at hl 0 rfl) ?_
        obtain ⟨q7, hq7, h⟩ := gb_s h
        refine fw_viR (As := []) (rest := []) ⟨hx, hb, hml, hown, hts⟩ (k_X11_gapsNow l D cA ad tw hG z  q7 hq7) (cwV 0 hts gX11_liesTogether_X11_gapsNow rfl rfl rfl hdV_X11_gapsNow ⟨Nat.le_of_ble_eq_true rfl, Nat.le_of_ble_eq_true rfl⟩) (fw_preV gF11.1.1 gF11.1.2 rfl rfl hK hZ hP hS) rfl hl _ rfl (Nat.le_of_ble_eq_true rfl) hS dX11_liesTogether_38 ⟨Nat.zero_le _, Nat.zero_le _⟩ (fun H locs hP hS => ?_)
        refine lv_if_ne (tgt := 58) hx hb dX11_liesTogether_41 (by decide) (fun c8 => ?_) (fun c8 => ?_)
        · replace h := gif_f h c8
          refine lv_aload_n hx hb dX11_liesTogether_58 rfl (lv_at hl 0 rfl) ?_
          obtain ⟨q9, hq9, h⟩ := gb_s h
          refine fw_vi (As := []) (rest := []) ⟨hx, hb, hml, hown, hts⟩ (k_X11_goesOn l D cA ad tw hG z  q9 hq9) (cwV 0 hts gX11_liesTogether_X11_goesOn rfl rfl rfl hdV_X11_goesOn ⟨Nat.le_of_ble_eq_true rfl, Nat.le_of_ble_eq_true rfl⟩) (fw_preV gF11.1.1 gF11.1.2 rfl rfl hK hZ hP hS) rfl hl _ rfl (Nat.le_of_ble_eq_true rfl) hS dX11_liesTogether_59 ⟨Nat.zero_le _, Nat.zero_le _⟩ (fun H locs hP hS => ?_)
          refine lv_istore_n (lv' := [(1, .int q9.1), (0, .ref (ad 0))]) hx hb dX11_liesTogether_62 rfl hl (by decide) rfl (fun ls hl => ?_)
          refine lv_goto (tgt := 33) hx hb dX11_liesTogether_63 (by decide) ?_
          exact hK33 q9.1 q9.2 _ _ ls h hP hS (lv_sub hl [1, 0] rfl)
        · replace h := gif_t h c8
          refine lv_aload_n hx hb dX11_liesTogether_44 rfl (lv_at hl 0 rfl) ?_
          refine lv_dup hx hb dX11_liesTogether_45 rfl ?_
          refine fw_geti hx hb hts in_X11_liesTogether_X11 hown hK hP gF11.1.1 gF11.1.2 rfl 10 (by decide) rfl (hts _ (List.mem_of_getElem? (i := 2) rfl)) rfl dX11_liesTogether_46 ?_
          refine lv_iconst (v := (nI 1)) hx hb dX11_liesTogether_49 (by decide) ?_
          refine lv_iadd hx hb dX11_liesTogether_50 ?_
          refine fw_put hx hb hts in_X11_liesTogether_X11 tyX11_ok nmX11 hown hK hG hP hS gF11.1.1 gF11.1.2 rfl 10 (by decide) rfl (hts _ (List.mem_of_getElem? (i := 2) rfl)) rfl rfl (ty := .int) rfl rfl rfl dX11_liesTogether_51 (fun z10 H locs ez10 hP hS => ?_)
          replace h := gl_s h ez10
          refine lv_aload_n hx hb dX11_liesTogether_54 rfl (lv_at hl 0 rfl) ?_
          obtain ⟨q11, hq11, h⟩ := gb_s h
          refine fw_vv (As := []) (rest := []) ⟨hx, hb, hml, hown, hts⟩ (k_X11_marks l D cA ad tw hG z10  q11 hq11) (cwV 0 hts gX11_liesTogether_X11_marks rfl rfl rfl hdV_X11_marks ⟨Nat.le_of_ble_eq_true rfl, Nat.le_of_ble_eq_true rfl⟩) (fw_preV gF11.1.1 gF11.1.2 rfl rfl hK hZ hP hS) rfl hl _ rfl (Nat.le_of_ble_eq_true rfl) hS dX11_liesTogether_55 ⟨Nat.zero_le _, Nat.zero_le _⟩ (fun H locs hP hS => ?_)
          refine lv_aload_n hx hb dX11_liesTogether_58 rfl (lv_at hl 0 rfl) ?_
          obtain ⟨q12, hq12, h⟩ := gb_s h
          refine fw_vi (As := []) (rest := []) ⟨hx, hb, hml, hown, hts⟩ (k_X11_goesOn l D cA ad tw hG q11  q12 hq12) (cwV 0 hts gX11_liesTogether_X11_goesOn rfl rfl rfl hdV_X11_goesOn ⟨Nat.le_of_ble_eq_true rfl, Nat.le_of_ble_eq_true rfl⟩) (fw_preV gF11.1.1 gF11.1.2 rfl rfl hK hZ hP hS) rfl hl _ rfl (Nat.le_of_ble_eq_true rfl) hS dX11_liesTogether_59 ⟨Nat.zero_le _, Nat.zero_le _⟩ (fun H locs hP hS => ?_)
          refine lv_istore_n (lv' := [(1, .int q12.1), (0, .ref (ad 0))]) hx hb dX11_liesTogether_62 rfl hl (by decide) rfl (fun ls hl => ?_)
          refine lv_goto (tgt := 33) hx hb dX11_liesTogether_63 (by decide) ?_
          exact hK33 q12.1 q12.2 _ _ ls h hP hS (lv_sub hl [1, 0] rfl)
  have j2 : ∀  (n : Nat) (x1 : Int32) (z : gS) (H : Heap) (locs : List Loc) (ls : Array Slot), f_X11_liesTogether_2  n x1 z = some res → va_P D vwCl (gw cA ad shM 22 z) H → va_S (gA ad 22) s.heap H locs → lv_has ls 2 [(0, .ref (ad 0)), (1, .int x1)] → W p l e (headSpec wsX11_liesTogether (gRm 3 68)).room s m ([.ref (ad 0)] : List Value).toArray below meth c H locs 0 0 (MQ below (va_Qv (fun u => u = res) (gPr D cA ad tw shM 22) (gA ad 22)) ([.ref (ad 0)] : List Value).toArray s 0 0 (gA ad 22)) (F0 m 2 ls []) := by
    intro n
    induction n with
    | zero => intro x1 z H locs ls h; exact (gno h).elim
    | succ n hK2 =>
      intro x1 z H locs ls h hP hS hl
      replace h : f_X11_liesTogether_2_b  (f_X11_liesTogether_2  n) x1 z = some res := h
      unfold f_X11_liesTogether_2_b at h
      refine lv_iload_n hx hb dX11_liesTogether_2 rfl (lv_at hl 1 rfl) ?_
      refine lv_sipush (v := (nI 128)) hx hb dX11_liesTogether_3 (by decide) ?_
      refine lv_icmp_ge (tgt := 22) hx hb dX11_liesTogether_6 (by decide) (fun c1 => ?_) (fun c1 => ?_)
      · replace h := gif_t h c1
        refine lv_aload_n hx hb dX11_liesTogether_22 rfl (lv_at hl 0 rfl) ?_
        refine lv_iconst (v := (nI 0)) hx hb dX11_liesTogether_23 (by decide) ?_
        refine fw_put hx hb hts in_X11_liesTogether_X11 tyX11_ok nmX11 hown hK hG hP hS gF11.1.1 gF11.1.2 rfl 10 (by decide) rfl (hts _ (List.mem_of_getElem? (i := 2) rfl)) rfl rfl (ty := .int) rfl rfl rfl dX11_liesTogether_24 (fun z2 H locs ez2 hP hS => ?_)
        replace h := gl_s h ez2
        refine lv_aload_n hx hb dX11_liesTogether_27 rfl (lv_at hl 0 rfl) ?_
        obtain ⟨q3, hq3, h⟩ := gb_s h
        refine fw_vv (As := []) (rest := []) ⟨hx, hb, hml, hown, hts⟩ (k_X11_beginsAll l D cA ad tw hG z2  q3 hq3) (cwV 0 hts gX11_liesTogether_X11_beginsAll rfl rfl rfl hdV_X11_beginsAll ⟨Nat.le_of_ble_eq_true rfl, Nat.le_of_ble_eq_true rfl⟩) (fw_preV gF11.1.1 gF11.1.2 rfl rfl hK hZ hP hS) rfl hl _ rfl (Nat.le_of_ble_eq_true rfl) hS dX11_liesTogether_28 ⟨Nat.zero_le _, Nat.zero_le _⟩ (fun H locs hP hS => ?_)
        refine lv_iconst (v := (nI 1)) hx hb dX11_liesTogether_31 (by decide) ?_
        refine lv_istore_n (lv' := [(1, .int (nI 1)), (0, .ref (ad 0))]) hx hb dX11_liesTogether_32 rfl hl (by decide) rfl (fun ls hl => ?_)
        exact j33  gF (nI 1) q3 _ _ ls h hP hS (lv_sub hl [1, 0] rfl)
      · replace h := gif_f h c1
        refine lv_aload_n hx hb dX11_liesTogether_9 rfl (lv_at hl 0 rfl) ?_
        refine fw_getr hx hb hts in_X11_liesTogether_X11 hown hK hP gF11.1.1 gF11.1.2 rfl 11 (by decide) rfl (hts _ (List.mem_of_getElem? (i := 1) rfl)) rfl dX11_liesTogether_10 ?_
        refine lv_iload_n hx hb dX11_liesTogether_13 rfl (lv_at hl 1 rfl) ?_
        refine lv_iconst (v := (nI 0)) hx hb dX11_liesTogether_14 (by decide) ?_
        obtain ⟨h4, h⟩ := gg_s h
        refine fw_iast hx hb hK hG hP hS gF11.2.2.2.2.2.2.1.1 gF11.2.2.2.2.2.2.1.2 h4 dX11_liesTogether_15 (fun z5 H locs ez5 hP hS => ?_)
        replace h := gl_s h ez5
        refine lv_iinc (v := x1 + (nI 1)) (lv' := [(1, .int (x1 + (nI 1))), (0, .ref (ad 0))]) hx hb dX11_liesTogether_16 hl (k := 1) rfl rfl (by decide) rfl (fun ls hl => ?_)
        refine lv_goto (tgt := 2) hx hb dX11_liesTogether_19 (by decide) ?_
        exact hK2 (x1 + (nI 1)) z5 _ _ ls h hP hS (lv_sub hl [1, 0] rfl)
  unfold f_X11_liesTogether at h
  refine lv_iconst (v := (nI 0)) hx hb dX11_liesTogether_0 (by decide) ?_
  refine lv_istore_n (lv' := [(1, .int (nI 0)), (0, .ref (ad 0))]) hx hb dX11_liesTogether_1 rfl hl (by decide) rfl (fun ls hl => ?_)
  exact j2  gF (nI 0) z _ _ ls h hP hS (lv_sub hl [1, 0] rfl)
theorem in_X11_all_X11 : ∀ w ∈ wsX110, w ∈ wsX11_all := fun w h => List.mem_cons_of_mem _ (List.mem_append_right _ (h))
theorem hdV_X11_all : yX11_all.cls = RX11 ∧ yX11_all.cls ≠ "java/lang/invoke/MethodHandle" ∧ yX11_all.cls ≠ "java/lang/invoke/VarHandle" ∧ (parseMethodDescriptor yX11_all.desc).map (fun d => d.parameters.length) = some 0 := by decide +kernel
set_option maxHeartbeats 4000000 in
set_option maxRecDepth 100000 in
theorem k_X11_all (l : Launch) (D : va_G) (cA : Nat → ClassId) (ad : Nat → Nat) (tw : Nat) (hG : gOk ad 22) (z : gS)  (res : Int32) (h : f_X11_all  z = some res) : gMi l yX11_all wsX11_all (gRm 0 0) D cA ad tw shM 22 [.ref (ad 0)] z (res, z) := by
  refine Met.ofW (cc := cX11_all) (maxL := 1) (ret := (some .int)) (by decide) rfl ?_
  intro p e s m args below meth c s₁ B hml hv
  obtain ⟨rfl, hP, hK, hZ⟩ := hv
  have hx := B.exec
  have hb := B.bytes
  have hr := B.returns
  have hts := atoms_spec (ws := wsX11_all) B.pre
  have hown : s.vm.findClass RX11 = some m.cls := findClass_of_methodNamed B.named
  have hlocks := B.notSynchronized
  have hS : va_S (gA ad 22) s.heap s.heap [] := va_S.rf
  have hl := lv_entry ([.ref (ad 0)]) (n := 1) (Nat.le_of_ble_eq_true rfl)
  rw [lg_entry_eq]
  generalize (lg_sl ([.ref (ad 0)]) ++ List.replicate (1 - (lg_sl ([.ref (ad 0)])).length) Slot.unset).toArray = ls at hl ⊢
  have hl : lv_has ls 1 [(0, .ref (ad 0))] := hl
  unfold f_X11_all at h
  refine lv_iconst (v := (nI 1)) hx hb dX11_all_0 (by decide) ?_
  refine lv_aload_n hx hb dX11_all_1 rfl (lv_at hl 0 rfl) ?_
  refine fw_geti hx hb hts in_X11_all_X11 hown hK hP gF11.1.1 gF11.1.2 rfl 1 (by decide) rfl (hts _ (List.mem_of_getElem? (i := 1) rfl)) rfl dX11_all_2 ?_
  refine lv_ishl hx hb dX11_all_5 ?_
  refine lv_iconst (v := (nI 1)) hx hb dX11_all_6 (by decide) ?_
  refine lv_isub hx hb dX11_all_7 ?_
  exact fw_ireti hx hb hr hlocks (congrArg (fun q => (q, z)) (Option.some.inj h)) hK hZ hP hS dX11_all_8
theorem hdV_X11_isKnot : yX11_isKnot.cls = RX11 ∧ yX11_isKnot.cls ≠ "java/lang/invoke/MethodHandle" ∧ yX11_isKnot.cls ≠ "java/lang/invoke/VarHandle" ∧ (parseMethodDescriptor yX11_isKnot.desc).map (fun d => d.parameters.length) = some 1 := by decide +kernel
set_option maxHeartbeats 4000000 in
set_option maxRecDepth 100000 in
theorem k_X11_isKnot (l : Launch) (D : va_G) (cA : Nat → ClassId) (ad : Nat → Nat) (tw : Nat) (hG : gOk ad 22) (z : gS) (a1 : Int32) (res : Int32) (h : f_X11_isKnot a1 z = some res) : gMi l yX11_isKnot wsX11_isKnot (gRm 1 21) D cA ad tw shM 22 [.ref (ad 0), .int a1] z (res, z) := by
  refine Met.ofW (cc := cX11_isKnot) (maxL := 3) (ret := (some .boolean)) (by decide) rfl ?_
  intro p e s m args below meth c s₁ B hml hv
  obtain ⟨rfl, hP, hK, hZ⟩ := hv
  have hx := B.exec
  have hb := B.bytes
  have hr := B.returns
  have hts := atoms_spec (ws := wsX11_isKnot) B.pre
  have hown : s.vm.findClass RX11 = some m.cls := findClass_of_methodNamed B.named
  have hlocks := B.notSynchronized
  have hS : va_S (gA ad 22) s.heap s.heap [] := va_S.rf
  have hl := lv_entry ([.ref (ad 0), .int a1]) (n := 3) (Nat.le_of_ble_eq_true rfl)
  rw [lg_entry_eq]
  generalize (lg_sl ([.ref (ad 0), .int a1]) ++ List.replicate (3 - (lg_sl ([.ref (ad 0), .int a1])).length) Slot.unset).toArray = ls at hl ⊢
  have hl : lv_has ls 3 [(0, .ref (ad 0)), (1, .int a1)] := hl
  have j12 : ∀ (x1 : Int32) (n : Nat) (x2 : Int32) (H : Heap) (locs : List Loc) (ls : Array Slot), f_X11_isKnot_12 z x1 n x2 = some res → va_P D vwCl (gw cA ad shM 22 z) H → va_S (gA ad 22) s.heap H locs → lv_has ls 3 [(0, .ref (ad 0)), (1, .int x1), (2, .int x2)] → W p l e (headSpec wsX11_isKnot (gRm 1 21)).room s m ([.ref (ad 0), .int a1] : List Value).toArray below meth c H locs 0 0 (MQ below (va_Qi (fun r u => (r, u) = (res, z)) (gPr D cA ad tw shM 22) (gA ad 22)) ([.ref (ad 0), .int a1] : List Value).toArray s 0 0 (gA ad 22)) (F0 m 12 ls []) := by
    intro x1 n
    induction n with
    | zero => intro x2 H locs ls h; exact (gno h).elim
    | succ n hK12 =>
      intro x2 H locs ls h hP hS hl
      replace h : f_X11_isKnot_12_b z x1 (f_X11_isKnot_12 z x1 n) x2 = some res := h
      unfold f_X11_isKnot_12_b at h
      refine lv_iload_n hx hb dX11_isKnot_12 rfl (lv_at hl 2 rfl) ?_
      refine lv_aload_n hx hb dX11_isKnot_13 rfl (lv_at hl 0 rfl) ?_
      obtain ⟨q3, hq3, h⟩ := gb_s h
      refine fw_viR (As := []) (rest := [.int x2]) ⟨hx, hb, hml, hown, hts⟩ (k_X11_all l D cA ad tw hG z  q3 hq3) (cwV 0 hts gX11_isKnot_X11_all rfl rfl rfl hdV_X11_all ⟨Nat.le_of_ble_eq_true rfl, Nat.le_of_ble_eq_true rfl⟩) (fw_preV gF11.1.1 gF11.1.2 rfl rfl hK hZ hP hS) rfl hl _ rfl (Nat.le_of_ble_eq_true rfl) hS dX11_isKnot_14 ⟨Nat.zero_le _, Nat.zero_le _⟩ (fun H locs hP hS => ?_)
      refine lv_icmp_gt (tgt := 58) hx hb dX11_isKnot_17 (by decide) (fun c4 => ?_) (fun c4 => ?_)
      · replace h := gif_t h c4
        refine lv_iconst (v := (nI 1)) hx hb dX11_isKnot_58 (by decide) ?_
        exact fw_iretz hx hb hr hlocks (by decide) (congrArg (fun q => (q, z)) (Option.some.inj h)) hK hZ hP hS dX11_isKnot_59
      · replace h := gif_f h c4
        refine lv_aload_n hx hb dX11_isKnot_20 rfl (lv_at hl 0 rfl) ?_
        refine lv_iload_n hx hb dX11_isKnot_21 rfl (lv_at hl 2 rfl) ?_
        obtain ⟨q5, hq5, h⟩ := gb_s h
        refine fw_viR (As := [.int x2]) (rest := []) ⟨hx, hb, hml, hown, hts⟩ (k_X11_isCluster l D cA ad tw hG z x2 q5 hq5) (cwV 1 hts gX11_isKnot_X11_isCluster rfl rfl rfl hdV_X11_isCluster ⟨Nat.le_of_ble_eq_true rfl, Nat.le_of_ble_eq_true rfl⟩) (fw_preV gF11.1.1 gF11.1.2 rfl rfl hK hZ hP hS) rfl hl _ rfl (Nat.le_of_ble_eq_true rfl) hS dX11_isKnot_22 ⟨Nat.zero_le _, Nat.zero_le _⟩ (fun H locs hP hS => ?_)
        refine lv_if_eq (tgt := 52) hx hb dX11_isKnot_25 (by decide) (fun c6 => ?_) (fun c6 => ?_)
        · replace h := gif_t h c6
          refine lv_iinc (v := x2 + (nI 1)) (lv' := [(2, .int (x2 + (nI 1))), (0, .ref (ad 0)), (1, .int x1)]) hx hb dX11_isKnot_52 hl (k := 2) rfl rfl (by decide) rfl (fun ls hl => ?_)
          refine lv_goto (tgt := 12) hx hb dX11_isKnot_55 (by decide) ?_
          exact hK12 (x2 + (nI 1)) _ _ ls h hP hS (lv_sub hl [1, 2, 0] rfl)
        · replace h := gif_f h c6
          refine lv_iload_n hx hb dX11_isKnot_28 rfl (lv_at hl 2 rfl) ?_
          refine lv_iload_n hx hb dX11_isKnot_29 rfl (lv_at hl 1 rfl) ?_
          refine lv_iand hx hb dX11_isKnot_30 ?_
          refine lv_if_eq (tgt := 52) hx hb dX11_isKnot_31 (by decide) (fun c7 => ?_) (fun c7 => ?_)
          · replace h := gif_t h c7
            refine lv_iinc (v := x2 + (nI 1)) (lv' := [(2, .int (x2 + (nI 1))), (0, .ref (ad 0)), (1, .int x1)]) hx hb dX11_isKnot_52 hl (k := 2) rfl rfl (by decide) rfl (fun ls hl => ?_)
            refine lv_goto (tgt := 12) hx hb dX11_isKnot_55 (by decide) ?_
            exact hK12 (x2 + (nI 1)) _ _ ls h hP hS (lv_sub hl [1, 2, 0] rfl)
          · replace h := gif_f h c7
            refine lv_iload_n hx hb dX11_isKnot_34 rfl (lv_at hl 1 rfl) ?_
            refine lv_iload_n hx hb dX11_isKnot_35 rfl (lv_at hl 2 rfl) ?_
            refine lv_iconst (v := gm1) hx hb dX11_isKnot_36 (by decide) ?_
            refine lv_ixor hx hb dX11_isKnot_37 ?_
            refine lv_iand hx hb dX11_isKnot_38 ?_
            refine lv_if_eq (tgt := 52) hx hb dX11_isKnot_39 (by decide) (fun c8 => ?_) (fun c8 => ?_)
            · replace h := gif_t h c8
              refine lv_iinc (v := x2 + (nI 1)) (lv' := [(2, .int (x2 + (nI 1))), (0, .ref (ad 0)), (1, .int x1)]) hx hb dX11_isKnot_52 hl (k := 2) rfl rfl (by decide) rfl (fun ls hl => ?_)
              refine lv_goto (tgt := 12) hx hb dX11_isKnot_55 (by decide) ?_
              exact hK12 (x2 + (nI 1)) _ _ ls h hP hS (lv_sub hl [1, 2, 0] rfl)
            · replace h := gif_f h c8
              refine lv_iload_n hx hb dX11_isKnot_42 rfl (lv_at hl 2 rfl) ?_
              refine lv_iload_n hx hb dX11_isKnot_43 rfl (lv_at hl 1 rfl) ?_
              refine lv_iconst (v := gm1) hx hb dX11_isKnot_44 (by decide) ?_
              refine lv_ixor hx hb dX11_isKnot_45 ?_
              refine lv_iand hx hb dX11_isKnot_46 ?_
              refine lv_if_eq (tgt := 52) hx hb dX11_isKnot_47 (by decide) (fun c9 => ?_) (fun c9 => ?_)
              · replace h := gif_t h c9
                refine lv_iinc (v := x2 + (nI 1)) (lv' := [(2, .int (x2 + (nI 1))), (0, .ref (ad 0)), (1, .int x1)]) hx hb dX11_isKnot_52 hl (k := 2) rfl rfl (by decide) rfl (fun ls hl => ?_)
                refine lv_goto (tgt := 12) hx hb dX11_isKnot_55 (by decide) ?_
                exact hK12 (x2 + (nI 1)) _ _ ls h hP hS (lv_sub hl [1, 2, 0] rfl)
              · replace h := gif_f h c9
                refine lv_iconst (v := (nI 0)) hx hb dX11_isKnot_50 (by decide) ?_
                exact fw_iretz hx hb hr hlocks (by decide) (congrArg (fun q => (q, z)) (Option.some.inj h)) hK hZ hP hS dX11_isKnot_51
  unfold f_X11_isKnot at h
  refine lv_aload_n hx hb dX11_isKnot_0 rfl (lv_at hl 0 rfl) ?_
  refine lv_iload_n hx hb dX11_isKnot_1 rfl (lv_at hl 1 rfl) ?_
  obtain ⟨q1, hq1, h⟩ := gb_s h
  refine fw_viR (As := [.int a1]) (rest := []) ⟨hx, hb, hml, hown, hts⟩ (k_X11_isCluster l D cA ad tw hG z a1 q1 hq1) (cwV 1 hts gX11_isKnot_X11_isCluster rfl rfl rfl hdV_X11_isCluster ⟨Nat.le_of_ble_eq_true rfl, Nat.le_of_ble_eq_true rfl⟩) (fw_preV gF11.1.1 gF11.1.2 rfl rfl hK hZ hP hS) rfl hl _ rfl (Nat.le_of_ble_eq_true rfl) hS dX11_isKnot_2 ⟨Nat.zero_le _, Nat.zero_le _⟩ (fun H locs hP hS => ?_)
  refine lv_if_ne (tgt := 10) hx hb dX11_isKnot_5 (by decide) (fun c2 => ?_) (fun c2 => ?_)
  · replace h := gif_f h c2
    refine lv_iconst (v := (nI 1)) hx hb dX11_isKnot_10 (by decide) ?_
    refine lv_istore_n (lv' := [(2, .int (nI 1)), (0, .ref (ad 0)), (1, .int a1)]) hx hb dX11_isKnot_11 rfl hl (by decide) rfl (fun ls hl => ?_)
    exact j12 a1 gF (nI 1) _ _ ls h hP hS (lv_sub hl [1, 2, 0] rfl)
  · replace h := gif_t h c2
    refine lv_iconst (v := (nI 0)) hx hb dX11_isKnot_8 (by decide) ?_
    exact fw_iretz hx hb hr hlocks (by decide) (congrArg (fun q => (q, z)) (Option.some.inj h)) hK hZ hP hS dX11_isKnot_9
theorem in_X11_tellsKnots_X11 : ∀ w ∈ wsX110, w ∈ wsX11_tellsKnots := fun w h => List.mem_cons_of_mem _ (List.mem_append_right _ (h))
theorem hdV_X11_tellsKnots : yX11_tellsKnots.cls = RX11 ∧ yX11_tellsKnots.cls ≠ "java/lang/invoke/MethodHandle" ∧ yX11_tellsKnots.cls ≠ "java/lang/invoke/VarHandle" ∧ (parseMethodDescriptor yX11_tellsKnots.desc).map (fun d => d.parameters.length) = some 0 := by decide +kernel
set_option maxHeartbeats 4000000 in
set_option maxRecDepth 100000 in
theorem k_X11_tellsKnots (l : Launch) (D : va_G) (cA : Nat → ClassId) (ad : Nat → Nat) (tw : Nat) (hG : gOk ad 22) (z : gS)  (res : Int32 × gS) (h : f_X11_tellsKnots  z = some res) : gMi l yX11_tellsKnots wsX11_tellsKnots (gRm 4 89) D cA ad tw shM 22 [.ref (ad 0)] z res := by
  refine Met.ofW (cc := cX11_tellsKnots) (maxL := 3) (ret := (some .boolean)) (by decide) rfl ?_
  intro p e s m args below meth c s₁ B hml hv
  obtain ⟨rfl, hP, hK, hZ⟩ := hv
  have hx := B.exec
  have hb := B.bytes
  have hr := B.returns
  have hts := atoms_spec (ws := wsX11_tellsKnots) B.pre
  have hown : s.vm.findClass RX11 = some m.cls := findClass_of_methodNamed B.named
  have hlocks := B.notSynchronized
  have hS : va_S (gA ad 22) s.heap s.heap [] := va_S.rf
  have hl := lv_entry ([.ref (ad 0)]) (n := 3) (Nat.le_of_ble_eq_true rfl)
  rw [lg_entry_eq]
  generalize (lg_sl ([.ref (ad 0)]) ++ List.replicate (3 - (lg_sl ([.ref (ad 0)])).length) Slot.unset).toArray = ls at hl ⊢
  have hl : lv_has ls 3 [(0, .ref (ad 0))] := hl
  have j30 : ∀ (x1 : Int32) (K20 : Int32 → gS → Option (Int32 × gS)) (hK20 : ∀ (x1' : Int32) (z' : gS) (H : Heap) (locs : List Loc) (ls : Array Slot), K20 x1' z' = some res → va_P D vwCl (gw cA ad shM 22 z') H → va_S (gA ad 22) s.heap H locs → lv_has ls 3 [(0, .ref (ad 0)), (1, .int x1')] → W p l e (headSpec wsX11_tellsKnots (gRm 4 89)).room s m ([.ref (ad 0)] : List Value).toArray below meth c H locs 0 0 (MQ below (va_Qi (fun r u => (r, u) = res) (gPr D cA ad tw shM 22) (gA ad 22)) ([.ref (ad 0)] : List Value).toArray s 0 0 (gA ad 22)) (F0 m 20 ls [])) (n : Nat) (x2 : Int32) (z : gS) (H : Heap) (locs : List Loc) (ls : Array Slot), f_X11_tellsKnots_30 x1 K20 n x2 z = some res → va_P D vwCl (gw cA ad shM 22 z) H → va_S (gA ad 22) s.heap H locs → lv_has ls 3 [(0, .ref (ad 0)), (1, .int x1), (2, .int x2)] → W p l e (headSpec wsX11_tellsKnots (gRm 4 89)).room s m ([.ref (ad 0)] : List Value).toArray below meth c H locs 0 0 (MQ below (va_Qi (fun r u => (r, u) = res) (gPr D cA ad tw shM 22) (gA ad 22)) ([.ref (ad 0)] : List Value).toArray s 0 0 (gA ad 22)) (F0 m 30 ls []) := by
    intro x1 K20 hK20 n
    induction n with
    | zero => intro x2 z H locs ls h; exact (gno h).elim
    | succ n hK30 =>
      intro x2 z H locs ls h hP hS hl
      replace h : f_X11_tellsKnots_30_b x1 K20 (f_X11_tellsKnots_30 x1 K20 n) x2 z = some res := h
      unfold f_X11_tellsKnots_30_b at h
      refine lv_iload_n hx hb dX11_tellsKnots_30 rfl (lv_at hl 2 rfl) ?_
      refine lv_aload_n hx hb dX11_tellsKnots_31 rfl (lv_at hl 0 rfl) ?_
      obtain ⟨q5, hq5, h⟩ := gb_s h
      refine fw_viR (As := []) (rest := [.int x2]) ⟨hx, hb, hml, hown, hts⟩ (k_X11_all l D cA ad tw hG z  q5 hq5) (cwV 0 hts gX11_tellsKnots_X11_all rfl rfl rfl hdV_X11_all ⟨Nat.le_of_ble_eq_true rfl, Nat.le_of_ble_eq_true rfl⟩) (fw_preV gF11.1.1 gF11.1.2 rfl rfl hK hZ hP hS) rfl hl _ rfl (Nat.le_of_ble_eq_true rfl) hS dX11_tellsKnots_32 ⟨Nat.zero_le _, Nat.zero_le _⟩ (fun H locs hP hS => ?_)
      refine lv_icmp_gt (tgt := 83) hx hb dX11_tellsKnots_35 (by decide) (fun c6 => ?_) (fun c6 => ?_)
      · replace h := gif_t h c6
        refine lv_iinc (v := x1 + (nI 1)) (lv' := [(1, .int (x1 + (nI 1))), (0, .ref (ad 0)), (2, .int x2)]) hx hb dX11_tellsKnots_83 hl (k := 1) rfl rfl (by decide) rfl (fun ls hl => ?_)
        refine lv_goto (tgt := 20) hx hb dX11_tellsKnots_86 (by decide) ?_
        exact hK20 (x1 + (nI 1)) z _ _ ls h hP hS (lv_sub hl [1, 0] rfl)
      · replace h := gif_f h c6
        refine lv_iload_n hx hb dX11_tellsKnots_38 rfl (lv_at hl 2 rfl) ?_
        obtain ⟨q7, hq7, h⟩ := gb_s h
        refine fw_siR (As := [.int x2]) (rest := []) ⟨hx, hb, hml, hown, hts⟩ (k_X11_bits l D cA ad tw hG z x2 q7 hq7) (va_cwS 1 hts gX11_tellsKnots_X11_bits rfl rfl rfl hdS_X11_bits ⟨Nat.le_of_ble_eq_true rfl, Nat.le_of_ble_eq_true rfl⟩) hK hZ hP rfl hl _ rfl (Nat.le_of_ble_eq_true rfl) hS dX11_tellsKnots_39 ⟨Nat.zero_le _, Nat.zero_le _⟩ (fun H locs hP hS => ?_)
        refine lv_iload_n hx hb dX11_tellsKnots_42 rfl (lv_at hl 1 rfl) ?_
        refine lv_icmp_ne (tgt := 77) hx hb dX11_tellsKnots_43 (by decide) (fun c8 => ?_) (fun c8 => ?_)
        · replace h := gif_f h c8
          refine lv_iinc (v := x2 + (nI 1)) (lv' := [(2, .int (x2 + (nI 1))), (0, .ref (ad 0)), (1, .int x1)]) hx hb dX11_tellsKnots_77 hl (k := 2) rfl rfl (by decide) rfl (fun ls hl => ?_)
          refine lv_goto (tgt := 30) hx hb dX11_tellsKnots_80 (by decide) ?_
          exact hK30 (x2 + (nI 1)) z _ _ ls h hP hS (lv_sub hl [1, 2, 0] rfl)
        · replace h := gif_t h c8
          refine lv_aload_n hx hb dX11_tellsKnots_46 rfl (lv_at hl 0 rfl) ?_
          refine lv_iload_n hx hb dX11_tellsKnots_47 rfl (lv_at hl 2 rfl) ?_
          obtain ⟨q9, hq9, h⟩ := gb_s h
          refine fw_viR (As := [.int x2]) (rest := []) ⟨hx, hb, hml, hown, hts⟩ (k_X11_isKnot l D cA ad tw hG z x2 q9 hq9) (cwV 1 hts gX11_tellsKnots_X11_isKnot rfl rfl rfl hdV_X11_isKnot ⟨Nat.le_of_ble_eq_true rfl, Nat.le_of_ble_eq_true rfl⟩) (fw_preV gF11.1.1 gF11.1.2 rfl rfl hK hZ hP hS) rfl hl _ rfl (Nat.le_of_ble_eq_true rfl) hS dX11_tellsKnots_48 ⟨Nat.zero_le _, Nat.zero_le _⟩ (fun H locs hP hS => ?_)
          refine lv_if_ne (tgt := 57) hx hb dX11_tellsKnots_51 (by decide) (fun c10 => ?_) (fun c10 => ?_)
          · replace h := gif_f h c10
            refine lv_aload_n hx hb dX11_tellsKnots_57 rfl (lv_at hl 0 rfl) ?_
            refine fw_getr hx hb hts in_X11_tellsKnots_X11 hown hK hP gF11.1.1 gF11.1.2 rfl 12 (by decide) rfl (hts _ (List.mem_of_getElem? (i := 4) rfl)) rfl dX11_tellsKnots_58 ?_
            refine lv_aload_n hx hb dX11_tellsKnots_61 rfl (lv_at hl 0 rfl) ?_
            refine fw_geti hx hb hts in_X11_tellsKnots_X11 hown hK hP gF11.1.1 gF11.1.2 rfl 13 (by decide) rfl (hts _ (List.mem_of_getElem? (i := 1) rfl)) rfl dX11_tellsKnots_62 ?_
            refine lv_iload_n hx hb dX11_tellsKnots_65 rfl (lv_at hl 2 rfl) ?_
            obtain ⟨h11, h⟩ := gg_s h
            refine fw_iast hx hb hK hG hP hS gF11.2.2.2.2.2.2.2.1.1 gF11.2.2.2.2.2.2.2.1.2 h11 dX11_tellsKnots_66 (fun z12 H locs ez12 hP hS => ?_)
            replace h := gl_s h ez12
            refine lv_aload_n hx hb dX11_tellsKnots_67 rfl (lv_at hl 0 rfl) ?_
            refine lv_dup hx hb dX11_tellsKnots_68 rfl ?_
            refine fw_geti hx hb hts in_X11_tellsKnots_X11 hown hK hP gF11.1.1 gF11.1.2 rfl 13 (by decide) rfl (hts _ (List.mem_of_getElem? (i := 1) rfl)) rfl dX11_tellsKnots_69 ?_
            refine lv_iconst (v := (nI 1)) hx hb dX11_tellsKnots_72 (by decide) ?_
            refine lv_iadd hx hb dX11_tellsKnots_73 ?_
            refine fw_put hx hb hts in_X11_tellsKnots_X11 tyX11_ok nmX11 hown hK hG hP hS gF11.1.1 gF11.1.2 rfl 13 (by decide) rfl (hts _ (List.mem_of_getElem? (i := 1) rfl)) rfl rfl (ty := .int) rfl rfl rfl dX11_tellsKnots_74 (fun z13 H locs ez13 hP hS => ?_)
            replace h := gl_s h ez13
            refine lv_iinc (v := x2 + (nI 1)) (lv' := [(2, .int (x2 + (nI 1))), (0, .ref (ad 0)), (1, .int x1)]) hx hb dX11_tellsKnots_77 hl (k := 2) rfl rfl (by decide) rfl (fun ls hl => ?_)
            refine lv_goto (tgt := 30) hx hb dX11_tellsKnots_80 (by decide) ?_
            exact hK30 (x2 + (nI 1)) z13 _ _ ls h hP hS (lv_sub hl [1, 2, 0] rfl)
          · replace h := gif_t h c10
            refine lv_goto (tgt := 77) hx hb dX11_tellsKnots_54 (by decide) ?_
            refine lv_iinc (v := x2 + (nI 1)) (lv' := [(2, .int (x2 + (nI 1))), (0, .ref (ad 0)), (1, .int x1)]) hx hb dX11_tellsKnots_77 hl (k := 2) rfl rfl (by decide) rfl (fun ls hl => ?_)
            refine lv_goto (tgt := 30) hx hb dX11_tellsKnots_80 (by decide) ?_
            exact hK30 (x2 + (nI 1)) z _ _ ls h hP hS (lv_sub hl [1, 2, 0] rfl)
  have j20 : ∀  (n : Nat) (x1 : Int32) (z : gS) (H : Heap) (locs : List Loc) (ls : Array Slot), f_X11_tellsKnots_20  n x1 z = some res → va_P D vwCl (gw cA ad shM 22 z) H → va_S (gA ad 22) s.heap H locs → lv_has ls 3 [(0, .ref (ad 0)), (1, .int x1)] → W p l e (headSpec wsX11_tellsKnots (gRm 4 89)).room s m ([.ref (ad 0)] : List Value).toArray below meth c H locs 0 0 (MQ below (va_Qi (fun r u => (r, u) = res) (gPr D cA ad tw shM 22) (gA ad 22)) ([.ref (ad 0)] : List Value).toArray s 0 0 (gA ad 22)) (F0 m 20 ls []) := by
    intro n
    induction n with
    | zero => intro x1 z H locs ls h; exact (gno h).elim
    | succ n hK20 =>
      intro x1 z H locs ls h hP hS hl
      replace h : f_X11_tellsKnots_20_b  (f_X11_tellsKnots_20  n) x1 z = some res := h
      unfold f_X11_tellsKnots_20_b at h
      refine lv_iload_n hx hb dX11_tellsKnots_20 rfl (lv_at hl 1 rfl) ?_
      refine lv_aload_n hx hb dX11_tellsKnots_21 rfl (lv_at hl 0 rfl) ?_
      refine fw_geti hx hb hts in_X11_tellsKnots_X11 hown hK hP gF11.1.1 gF11.1.2 rfl 1 (by decide) rfl (hts _ (List.mem_of_getElem? (i := 3) rfl)) rfl dX11_tellsKnots_22 ?_
      refine lv_icmp_gt (tgt := 89) hx hb dX11_tellsKnots_25 (by decide) (fun c4 => ?_) (fun c4 => ?_)
      · replace h := gif_t h c4
        refine lv_iconst (v := (nI 1)) hx hb dX11_tellsKnots_89 (by decide) ?_
        exact fw_iretz hx hb hr hlocks (by decide) (Option.some.inj h) hK hZ hP hS dX11_tellsKnots_90
      · replace h := gif_f h c4
        refine lv_iconst (v := (nI 1)) hx hb dX11_tellsKnots_28 (by decide) ?_
        refine lv_istore_n (lv' := [(2, .int (nI 1)), (0, .ref (ad 0)), (1, .int x1)]) hx hb dX11_tellsKnots_29 rfl hl (by decide) rfl (fun ls hl => ?_)
        exact j30 x1 _ hK20 gF (nI 1) z _ _ ls h hP hS (lv_sub hl [1, 2, 0] rfl)
  unfold f_X11_tellsKnots at h
  refine lv_aload_n hx hb dX11_tellsKnots_0 rfl (lv_at hl 0 rfl) ?_
  obtain ⟨q1, hq1, h⟩ := gb_s h
  refine fw_vv (As := []) (rest := []) ⟨hx, hb, hml, hown, hts⟩ (k_X11_liesTogether l D cA ad tw hG z  q1 hq1) (cwV 0 hts gX11_tellsKnots_X11_liesTogether rfl rfl rfl hdV_X11_liesTogether ⟨Nat.le_of_ble_eq_true rfl, Nat.le_of_ble_eq_true rfl⟩) (fw_preV gF11.1.1 gF11.1.2 rfl rfl hK hZ hP hS) rfl hl _ rfl (Nat.le_of_ble_eq_true rfl) hS dX11_tellsKnots_1 ⟨Nat.zero_le _, Nat.zero_le _⟩ (fun H locs hP hS => ?_)
  refine lv_aload_n hx hb dX11_tellsKnots_4 rfl (lv_at hl 0 rfl) ?_
  refine lv_iconst (v := (nI 0)) hx hb dX11_tellsKnots_5 (by decide) ?_
  refine fw_put hx hb hts in_X11_tellsKnots_X11 tyX11_ok nmX11 hown hK hG hP hS gF11.1.1 gF11.1.2 rfl 13 (by decide) rfl (hts _ (List.mem_of_getElem? (i := 1) rfl)) rfl rfl (ty := .int) rfl rfl rfl dX11_tellsKnots_6 (fun z2 H locs ez2 hP hS => ?_)
  replace h := gl_s h ez2
  refine lv_aload_n hx hb dX11_tellsKnots_9 rfl (lv_at hl 0 rfl) ?_
  refine fw_geti hx hb hts in_X11_tellsKnots_X11 hown hK hP gF11.1.1 gF11.1.2 rfl 10 (by decide) rfl (hts _ (List.mem_of_getElem? (i := 2) rfl)) rfl dX11_tellsKnots_10 ?_
  refine lv_if_ne (tgt := 18) hx hb dX11_tellsKnots_13 (by decide) (fun c3 => ?_) (fun c3 => ?_)
  · replace h := gif_f h c3
    refine lv_iconst (v := (nI 1)) hx hb dX11_tellsKnots_18 (by decide) ?_
    refine lv_istore_n (lv' := [(1, .int (nI 1)), (0, .ref (ad 0))]) hx hb dX11_tellsKnots_19 rfl hl (by decide) rfl (fun ls hl => ?_)
    exact j20  gF (nI 1) z2 _ _ ls h hP hS (lv_sub hl [1, 0] rfl)
  · replace h := gif_t h c3
    refine lv_iconst (v := (nI 0)) hx hb dX11_tellsKnots_16 (by decide) ?_
    exact fw_iretz hx hb hr hlocks (by decide) (Option.some.inj h) hK hZ hP hS dX11_tellsKnots_17
theorem in_X11_above_X11 : ∀ w ∈ wsX110, w ∈ wsX11_above := fun w h => List.mem_cons_of_mem _ (List.mem_append_right _ (h))
theorem hdV_X11_above : yX11_above.cls = RX11 ∧ yX11_above.cls ≠ "java/lang/invoke/MethodHandle" ∧ yX11_above.cls ≠ "java/lang/invoke/VarHandle" ∧ (parseMethodDescriptor yX11_above.desc).map (fun d => d.parameters.length) = some 1 := by decide +kernel
set_option maxHeartbeats 4000000 in
set_option maxRecDepth 100000 in
theorem k_X11_above (l : Launch) (D : va_G) (cA : Nat → ClassId) (ad : Nat → Nat) (tw : Nat) (hG : gOk ad 22) (z : gS) (a1 : Int32) (res : Int32) (h : f_X11_above a1 z = some res) : gMi l yX11_above wsX11_above (gRm 0 0) D cA ad tw shM 22 [.ref (ad 0), .int a1] z (res, z) := by
  refine Met.ofW (cc := cX11_above) (maxL := 3) (ret := (some .int)) (by decide) rfl ?_
  intro p e s m args below meth c s₁ B hml hv
  obtain ⟨rfl, hP, hK, hZ⟩ := hv
  have hx := B.exec
  have hb := B.bytes
  have hr := B.returns
  have hts := atoms_spec (ws := wsX11_above) B.pre
  have hown : s.vm.findClass RX11 = some m.cls := findClass_of_methodNamed B.named
  have hlocks := B.notSynchronized
  have hS : va_S (gA ad 22) s.heap s.heap [] := va_S.rf
  have hl := lv_entry ([.ref (ad 0), .int a1]) (n := 3) (Nat.le_of_ble_eq_true rfl)
  rw [lg_entry_eq]
  generalize (lg_sl ([.ref (ad 0), .int a1]) ++ List.replicate (3 - (lg_sl ([.ref (ad 0), .int a1])).length) Slot.unset).toArray = ls at hl ⊢
  have hl : lv_has ls 3 [(0, .ref (ad 0)), (1, .int a1)] := hl
  have j4 : ∀ (x1 : Int32) (n : Nat) (x2 : Int32) (H : Heap) (locs : List Loc) (ls : Array Slot), f_X11_above_4 z x1 n x2 = some res → va_P D vwCl (gw cA ad shM 22 z) H → va_S (gA ad 22) s.heap H locs → lv_has ls 3 [(0, .ref (ad 0)), (1, .int x1), (2, .int x2)] → W p l e (headSpec wsX11_above (gRm 0 0)).room s m ([.ref (ad 0), .int a1] : List Value).toArray below meth c H locs 0 0 (MQ below (va_Qi (fun r u => (r, u) = (res, z)) (gPr D cA ad tw shM 22) (gA ad 22)) ([.ref (ad 0), .int a1] : List Value).toArray s 0 0 (gA ad 22)) (F0 m 4 ls []) := by
    intro x1 n
    induction n with
    | zero => intro x2 H locs ls h; exact (gno h).elim
    | succ n hK4 =>
      intro x2 H locs ls h hP hS hl
      replace h : f_X11_above_4_b z x1 (f_X11_above_4 z x1 n) x2 = some res := h
      unfold f_X11_above_4_b at h
      refine lv_iload_n hx hb dX11_above_4 rfl (lv_at hl 2 rfl) ?_
      refine lv_aload_n hx hb dX11_above_5 rfl (lv_at hl 0 rfl) ?_
      refine fw_geti hx hb hts in_X11_above_X11 hown hK hP gF11.1.1 gF11.1.2 rfl 13 (by decide) rfl (hts _ (List.mem_of_getElem? (i := 1) rfl)) rfl dX11_above_6 ?_
      refine lv_icmp_ge (tgt := 53) hx hb dX11_above_9 (by decide) (fun c2 => ?_) (fun c2 => ?_)
      · replace h := gif_t h c2
        refine lv_bipush (v := (-5)) hx hb dX11_above_53 (by decide) ?_
        exact fw_ireti hx hb hr hlocks (congrArg (fun q => (q, z)) (Option.some.inj h)) hK hZ hP hS dX11_above_55
      · replace h := gif_f h c2
        refine lv_aload_n hx hb dX11_above_12 rfl (lv_at hl 0 rfl) ?_
        refine fw_getr hx hb hts in_X11_above_X11 hown hK hP gF11.1.1 gF11.1.2 rfl 12 (by decide) rfl (hts _ (List.mem_of_getElem? (i := 2) rfl)) rfl dX11_above_13 ?_
        refine lv_iload_n hx hb dX11_above_16 rfl (lv_at hl 2 rfl) ?_
        obtain ⟨h3, h⟩ := gg_s h
        refine fw_iald hx hb hK hP gF11.2.2.2.2.2.2.2.1.1 gF11.2.2.2.2.2.2.2.1.2 h3 dX11_above_17 ?_
        refine lv_aload_n hx hb dX11_above_18 rfl (lv_at hl 0 rfl) ?_
        refine fw_getr hx hb hts in_X11_above_X11 hown hK hP gF11.1.1 gF11.1.2 rfl 12 (by decide) rfl (hts _ (List.mem_of_getElem? (i := 2) rfl)) rfl dX11_above_19 ?_
        refine lv_iload_n hx hb dX11_above_22 rfl (lv_at hl 1 rfl) ?_
        obtain ⟨h4, h⟩ := gg_s h
        refine fw_iald hx hb hK hP gF11.2.2.2.2.2.2.2.1.1 gF11.2.2.2.2.2.2.2.1.2 h4 dX11_above_23 ?_
        refine lv_icmp_eq (tgt := 47) hx hb dX11_above_24 (by decide) (fun c5 => ?_) (fun c5 => ?_)
        · replace h := gif_t h c5
          refine lv_iinc (v := x2 + (nI 1)) (lv' := [(2, .int (x2 + (nI 1))), (0, .ref (ad 0)), (1, .int x1)]) hx hb dX11_above_47 hl (k := 2) rfl rfl (by decide) rfl (fun ls hl => ?_)
          refine lv_goto (tgt := 4) hx hb dX11_above_50 (by decide) ?_
          exact hK4 (x2 + (nI 1)) _ _ ls h hP hS (lv_sub hl [1, 2, 0] rfl)
        · replace h := gif_f h c5
          refine lv_aload_n hx hb dX11_above_27 rfl (lv_at hl 0 rfl) ?_
          refine fw_getr hx hb hts in_X11_above_X11 hown hK hP gF11.1.1 gF11.1.2 rfl 12 (by decide) rfl (hts _ (List.mem_of_getElem? (i := 2) rfl)) rfl dX11_above_28 ?_
          refine lv_iload_n hx hb dX11_above_31 rfl (lv_at hl 1 rfl) ?_
          obtain ⟨h6, h⟩ := gg_s h
          refine fw_iald hx hb hK hP gF11.2.2.2.2.2.2.2.1.1 gF11.2.2.2.2.2.2.2.1.2 h6 dX11_above_32 ?_
          refine lv_aload_n hx hb dX11_above_33 rfl (lv_at hl 0 rfl) ?_
          refine fw_getr hx hb hts in_X11_above_X11 hown hK hP gF11.1.1 gF11.1.2 rfl 12 (by decide) rfl (hts _ (List.mem_of_getElem? (i := 2) rfl)) rfl dX11_above_34 ?_
          refine lv_iload_n hx hb dX11_above_37 rfl (lv_at hl 2 rfl) ?_
          obtain ⟨h7, h⟩ := gg_s h
          refine fw_iald hx hb hK hP gF11.2.2.2.2.2.2.2.1.1 gF11.2.2.2.2.2.2.2.1.2 h7 dX11_above_38 ?_
          refine lv_iconst (v := gm1) hx hb dX11_above_39 (by decide) ?_
          refine lv_ixor hx hb dX11_above_40 ?_
          refine lv_iand hx hb dX11_above_41 ?_
          refine lv_if_ne (tgt := 47) hx hb dX11_above_42 (by decide) (fun c8 => ?_) (fun c8 => ?_)
          · replace h := gif_f h c8
            refine lv_iinc (v := x2 + (nI 1)) (lv' := [(2, .int (x2 + (nI 1))), (0, .ref (ad 0)), (1, .int x1)]) hx hb dX11_above_47 hl (k := 2) rfl rfl (by decide) rfl (fun ls hl => ?_)
            refine lv_goto (tgt := 4) hx hb dX11_above_50 (by decide) ?_
            exact hK4 (x2 + (nI 1)) _ _ ls h hP hS (lv_sub hl [1, 2, 0] rfl)
          · replace h := gif_t h c8
            refine lv_iload_n hx hb dX11_above_45 rfl (lv_at hl 2 rfl) ?_
            exact fw_ireti hx hb hr hlocks (congrArg (fun q => (q, z)) (Option.some.inj h)) hK hZ hP hS dX11_above_46
  unfold f_X11_above at h
  refine lv_iload_n hx hb dX11_above_0 rfl (lv_at hl 1 rfl) ?_
  refine lv_iconst (v := (nI 1)) hx hb dX11_above_1 (by decide) ?_
  refine lv_iadd hx hb dX11_above_2 ?_
  refine lv_topi (fun y1 ey1 => ?_)
  replace h := gl_s h ey1
  refine lv_istore_n (lv' := [(2, .int y1), (0, .ref (ad 0)), (1, .int a1)]) hx hb dX11_above_3 rfl hl (by decide) rfl (fun ls hl => ?_)
  exact j4 a1 gF y1 _ _ ls h hP hS (lv_sub hl [1, 2, 0] rfl)
theorem hdV_X11_childrenOf : yX11_childrenOf.cls = RX11 ∧ yX11_childrenOf.cls ≠ "java/lang/invoke/MethodHandle" ∧ yX11_childrenOf.cls ≠ "java/lang/invoke/VarHandle" ∧ (parseMethodDescriptor yX11_childrenOf.desc).map (fun d => d.parameters.length) = some 1 := by decide +kernel
set_option maxHeartbeats 4000000 in
set_option maxRecDepth 100000 in
theorem k_X11_childrenOf (l : Launch) (D : va_G) (cA : Nat → ClassId) (ad : Nat → Nat) (tw : Nat) (hG : gOk ad 22) (z : gS) (a1 : Int32) (res : Int32) (h : f_X11_childrenOf a1 z = some res) : gMi l yX11_childrenOf wsX11_childrenOf (gRm 1 22) D cA ad tw shM 22 [.ref (ad 0), .int a1] z (res, z) := by
  refine Met.ofW (cc := cX11_childrenOf) (maxL := 4) (ret := (some .int)) (by decide) rfl ?_
  intro p e s m args below meth c s₁ B hml hv
  obtain ⟨rfl, hP, hK, hZ⟩ := hv
  have hx := B.exec
  have hb := B.bytes
  have hr := B.returns
  have hts := atoms_spec (ws := wsX11_childrenOf) B.pre
  have hown : s.vm.findClass RX11 = some m.cls := findClass_of_methodNamed B.named
  have hlocks := B.notSynchronized
  have hS : va_S (gA ad 22) s.heap s.heap [] := va_S.rf
  have hl := lv_entry ([.ref (ad 0), .int a1]) (n := 4) (Nat.le_of_ble_eq_true rfl)
  rw [lg_entry_eq]
  generalize (lg_sl ([.ref (ad 0), .int a1]) ++ List.replicate (4 - (lg_sl ([.ref (ad 0), .int a1])).length) Slot.unset).toArray = ls at hl ⊢
  have hl : lv_has ls 4 [(0, .ref (ad 0)), (1, .int a1)] := hl
  have j4 : ∀ (x1 : Int32) (n : Nat) (x2 : Int32) (x3 : Int32) (H : Heap) (locs : List Loc) (ls : Array Slot), f_X11_childrenOf_4 z x1 n x2 x3 = some res → va_P D vwCl (gw cA ad shM 22 z) H → va_S (gA ad 22) s.heap H locs → lv_has ls 4 [(0, .ref (ad 0)), (1, .int x1), (2, .int x2), (3, .int x3)] → W p l e (headSpec wsX11_childrenOf (gRm 1 22)).room s m ([.ref (ad 0), .int a1] : List Value).toArray below meth c H locs 0 0 (MQ below (va_Qi (fun r u => (r, u) = (res, z)) (gPr D cA ad tw shM 22) (gA ad 22)) ([.ref (ad 0), .int a1] : List Value).toArray s 0 0 (gA ad 22)) (F0 m 4 ls []) := by
    intro x1 n
    induction n with
    | zero => intro x2 x3 H locs ls h; exact (gno h).elim
    | succ n hK4 =>
      intro x2 x3 H locs ls h hP hS hl
      replace h : f_X11_childrenOf_4_b z x1 (f_X11_childrenOf_4 z x1 n) x2 x3 = some res := h
      unfold f_X11_childrenOf_4_b at h
      refine lv_iload_n hx hb dX11_childrenOf_4 rfl (lv_at hl 3 rfl) ?_
      refine lv_iload_n hx hb dX11_childrenOf_5 rfl (lv_at hl 1 rfl) ?_
      refine lv_icmp_ge (tgt := 32) hx hb dX11_childrenOf_6 (by decide) (fun c1 => ?_) (fun c1 => ?_)
      · replace h := gif_t h c1
        refine lv_iload_n hx hb dX11_childrenOf_32 rfl (lv_at hl 2 rfl) ?_
        exact fw_ireti hx hb hr hlocks (congrArg (fun q => (q, z)) (Option.some.inj h)) hK hZ hP hS dX11_childrenOf_33
      · replace h := gif_f h c1
        refine lv_iload_n hx hb dX11_childrenOf_9 rfl (lv_at hl 2 rfl) ?_
        refine lv_aload_n hx hb dX11_childrenOf_10 rfl (lv_at hl 0 rfl) ?_
        refine lv_iload_n hx hb dX11_childrenOf_11 rfl (lv_at hl 3 rfl) ?_
        obtain ⟨q2, hq2, h⟩ := gb_s h
        refine fw_viR (As := [.int x3]) (rest := [.int x2]) ⟨hx, hb, hml, hown, hts⟩ (k_X11_above l D cA ad tw hG z x3 q2 hq2) (cwV 1 hts gX11_childrenOf_X11_above rfl rfl rfl hdV_X11_above ⟨Nat.le_of_ble_eq_true rfl, Nat.le_of_ble_eq_true rfl⟩) (fw_preV gF11.1.1 gF11.1.2 rfl rfl hK hZ hP hS) rfl hl _ rfl (Nat.le_of_ble_eq_true rfl) hS dX11_childrenOf_12 ⟨Nat.zero_le _, Nat.zero_le _⟩ (fun H locs hP hS => ?_)
        refine lv_iload_n hx hb dX11_childrenOf_15 rfl (lv_at hl 1 rfl) ?_
        refine lv_icmp_ne (tgt := 23) hx hb dX11_childrenOf_16 (by decide) (fun c3 => ?_) (fun c3 => ?_)
        · replace h := gif_f h c3
          refine lv_iconst (v := (nI 0)) hx hb dX11_childrenOf_23 (by decide) ?_
          refine lv_iadd hx hb dX11_childrenOf_24 ?_
          refine lv_topi (fun y4 ey4 => ?_)
          replace h := gl_s h ey4
          refine lv_istore_n (lv' := [(2, .int y4), (0, .ref (ad 0)), (1, .int x1), (3, .int x3)]) hx hb dX11_childrenOf_25 rfl hl (by decide) rfl (fun ls hl => ?_)
          refine lv_iinc (v := x3 + (nI 1)) (lv' := [(3, .int (x3 + (nI 1))), (2, .int y4), (0, .ref (ad 0)), (1, .int x1)]) hx hb dX11_childrenOf_26 hl (k := 3) rfl rfl (by decide) rfl (fun ls hl => ?_)
          refine lv_goto (tgt := 4) hx hb dX11_childrenOf_29 (by decide) ?_
          exact hK4 y4 (x3 + (nI 1)) _ _ ls h hP hS (lv_sub hl [2, 3, 1, 0] rfl)
        · replace h := gif_t h c3
          refine lv_iconst (v := (nI 1)) hx hb dX11_childrenOf_19 (by decide) ?_
          refine lv_goto (tgt := 24) hx hb dX11_childrenOf_20 (by decide) ?_
          refine lv_iadd hx hb dX11_childrenOf_24 ?_
          refine lv_topi (fun y5 ey5 => ?_)
          replace h := gl_s h ey5
          refine lv_istore_n (lv' := [(2, .int y5), (0, .ref (ad 0)), (1, .int x1), (3, .int x3)]) hx hb dX11_childrenOf_25 rfl hl (by decide) rfl (fun ls hl => ?_)
          refine lv_iinc (v := x3 + (nI 1)) (lv' := [(3, .int (x3 + (nI 1))), (2, .int y5), (0, .ref (ad 0)), (1, .int x1)]) hx hb dX11_childrenOf_26 hl (k := 3) rfl rfl (by decide) rfl (fun ls hl => ?_)
          refine lv_goto (tgt := 4) hx hb dX11_childrenOf_29 (by decide) ?_
          exact hK4 y5 (x3 + (nI 1)) _ _ ls h hP hS (lv_sub hl [2, 3, 1, 0] rfl)
  unfold f_X11_childrenOf at h
  refine lv_iconst (v := (nI 0)) hx hb dX11_childrenOf_0 (by decide) ?_
  refine lv_istore_n (lv' := [(2, .int (nI 0)), (0, .ref (ad 0)), (1, .int a1)]) hx hb dX11_childrenOf_1 rfl hl (by decide) rfl (fun ls hl => ?_)
  refine lv_iconst (v := (nI 0)) hx hb dX11_childrenOf_2 (by decide) ?_
  refine lv_istore_n (lv' := [(3, .int (nI 0)), (2, .int (nI 0)), (0, .ref (ad 0)), (1, .int a1)]) hx hb dX11_childrenOf_3 rfl hl (by decide) rfl (fun ls hl => ?_)
  exact j4 a1 gF (nI 0) (nI 0) _ _ ls h hP hS (lv_sub hl [2, 3, 1, 0] rfl)
theorem in_X11_sortOf_X11 : ∀ w ∈ wsX110, w ∈ wsX11_sortOf := fun w h => List.mem_cons_of_mem _ (List.mem_append_right _ (h))
theorem hdV_X11_sortOf : yX11_sortOf.cls = RX11 ∧ yX11_sortOf.cls ≠ "java/lang/invoke/MethodHandle" ∧ yX11_sortOf.cls ≠ "java/lang/invoke/VarHandle" ∧ (parseMethodDescriptor yX11_sortOf.desc).map (fun d => d.parameters.length) = some 1 := by decide +kernel
set_option maxHeartbeats 4000000 in
set_option maxRecDepth 100000 in
theorem k_X11_sortOf (l : Launch) (D : va_G) (cA : Nat → ClassId) (ad : Nat → Nat) (tw : Nat) (hG : gOk ad 22) (z : gS) (a1 : Int32) (res : Int32) (h : f_X11_sortOf a1 z = some res) : gMi l yX11_sortOf wsX11_sortOf (gRm 2 45) D cA ad tw shM 22 [.ref (ad 0), .int a1] z (res, z) := by
  refine Met.ofW (cc := cX11_sortOf) (maxL := 5) (ret := (some .int)) (by decide) rfl ?_
  intro p e s m args below meth c s₁ B hml hv
  obtain ⟨rfl, hP, hK, hZ⟩ := hv
  have hx := B.exec
  have hb := B.bytes
  have hr := B.returns
  have hts := atoms_spec (ws := wsX11_sortOf) B.pre
  have hown : s.vm.findClass RX11 = some m.cls := findClass_of_methodNamed B.named
  have hlocks := B.notSynchronized
  have hS : va_S (gA ad 22) s.heap s.heap [] := va_S.rf
  have hl := lv_entry ([.ref (ad 0), .int a1]) (n := 5) (Nat.le_of_ble_eq_true rfl)
  rw [lg_entry_eq]
  generalize (lg_sl ([.ref (ad 0), .int a1]) ++ List.replicate (5 - (lg_sl ([.ref (ad 0), .int a1])).length) Slot.unset).toArray = ls at hl ⊢
  have hl : lv_has ls 5 [(0, .ref (ad 0)), (1, .int a1)] := hl
  have j32 : ∀ (x1 : Int32) (x3 : Int32) (K24 : Int32 → Option Int32) (hK24 : ∀ (x3' : Int32) (H : Heap) (locs : List Loc) (ls : Array Slot), K24 x3' = some res → va_P D vwCl (gw cA ad shM 22 z) H → va_S (gA ad 22) s.heap H locs → lv_has ls 5 [(0, .ref (ad 0)), (1, .int x1), (3, .int x3')] → W p l e (headSpec wsX11_sortOf (gRm 2 45)).room s m ([.ref (ad 0), .int a1] : List Value).toArray below meth c H locs 0 0 (MQ below (va_Qi (fun r u => (r, u) = (res, z)) (gPr D cA ad tw shM 22) (gA ad 22)) ([.ref (ad 0), .int a1] : List Value).toArray s 0 0 (gA ad 22)) (F0 m 24 ls [])) (n : Nat) (x4 : Int32) (H : Heap) (locs : List Loc) (ls : Array Slot), f_X11_sortOf_32 z x1 x3 K24 n x4 = some res → va_P D vwCl (gw cA ad shM 22 z) H → va_S (gA ad 22) s.heap H locs → lv_has ls 5 [(0, .ref (ad 0)), (1, .int x1), (3, .int x3), (4, .int x4)] → W p l e (headSpec wsX11_sortOf (gRm 2 45)).room s m ([.ref (ad 0), .int a1] : List Value).toArray below meth c H locs 0 0 (MQ below (va_Qi (fun r u => (r, u) = (res, z)) (gPr D cA ad tw shM 22) (gA ad 22)) ([.ref (ad 0), .int a1] : List Value).toArray s 0 0 (gA ad 22)) (F0 m 32 ls []) := by
    intro x1 x3 K24 hK24 n
    induction n with
    | zero => intro x4 H locs ls h; exact (gno h).elim
    | succ n hK32 =>
      intro x4 H locs ls h hP hS hl
      replace h : f_X11_sortOf_32_b z x1 x3 K24 (f_X11_sortOf_32 z x1 x3 K24 n) x4 = some res := h
      unfold f_X11_sortOf_32_b at h
      refine lv_iload hx hb dX11_sortOf_32 (lv_at hl 3 rfl) ?_
      refine lv_iload_n hx hb dX11_sortOf_34 rfl (lv_at hl 2 rfl) ?_
      refine lv_icmp_ge (tgt := 86) hx hb dX11_sortOf_35 (by decide) (fun c5 => ?_) (fun c5 => ?_)
      · replace h := gif_t h c5
        refine lv_iinc (v := x3 + (nI 1)) (lv' := [(3, .int (x3 + (nI 1))), (0, .ref (ad 0)), (1, .int x1), (4, .int x4)]) hx hb dX11_sortOf_86 hl (k := 2) rfl rfl (by decide) rfl (fun ls hl => ?_)
        refine lv_goto (tgt := 24) hx hb dX11_sortOf_89 (by decide) ?_
        exact hK24 (x3 + (nI 1)) _ _ ls h hP hS (lv_sub hl [1, 2, 0] rfl)
      · replace h := gif_f h c5
        refine lv_aload_n hx hb dX11_sortOf_38 rfl (lv_at hl 0 rfl) ?_
        refine lv_iload_n hx hb dX11_sortOf_39 rfl (lv_at hl 2 rfl) ?_
        obtain ⟨q6, hq6, h⟩ := gb_s h
        refine fw_viR (As := [.int x3]) (rest := []) ⟨hx, hb, hml, hown, hts⟩ (k_X11_above l D cA ad tw hG z x3 q6 hq6) (cwV 1 hts gX11_sortOf_X11_above rfl rfl rfl hdV_X11_above ⟨Nat.le_of_ble_eq_true rfl, Nat.le_of_ble_eq_true rfl⟩) (fw_preV gF11.1.1 gF11.1.2 rfl rfl hK hZ hP hS) rfl hl _ rfl (Nat.le_of_ble_eq_true rfl) hS dX11_sortOf_40 ⟨Nat.zero_le _, Nat.zero_le _⟩ (fun H locs hP hS => ?_)
        refine lv_iload_n hx hb dX11_sortOf_43 rfl (lv_at hl 1 rfl) ?_
        refine lv_icmp_ne (tgt := 80) hx hb dX11_sortOf_44 (by decide) (fun c7 => ?_) (fun c7 => ?_)
        · replace h := gif_f h c7
          refine lv_iinc (v := x4 + (nI 1)) (lv' := [(4, .int (x4 + (nI 1))), (0, .ref (ad 0)), (1, .int x1), (3, .int x3)]) hx hb dX11_sortOf_80 hl (k := 3) rfl rfl (by decide) rfl (fun ls hl => ?_)
          refine lv_goto (tgt := 32) hx hb dX11_sortOf_83 (by decide) ?_
          exact hK32 (x4 + (nI 1)) _ _ ls h hP hS (lv_sub hl [1, 2, 3, 0] rfl)
        · replace h := gif_t h c7
          refine lv_aload_n hx hb dX11_sortOf_47 rfl (lv_at hl 0 rfl) ?_
          refine lv_iload hx hb dX11_sortOf_48 (lv_at hl 3 rfl) ?_
          obtain ⟨q8, hq8, h⟩ := gb_s h
          refine fw_viR (As := [.int x4]) (rest := []) ⟨hx, hb, hml, hown, hts⟩ (k_X11_above l D cA ad tw hG z x4 q8 hq8) (cwV 1 hts gX11_sortOf_X11_above rfl rfl rfl hdV_X11_above ⟨Nat.le_of_ble_eq_true rfl, Nat.le_of_ble_eq_true rfl⟩) (fw_preV gF11.1.1 gF11.1.2 rfl rfl hK hZ hP hS) rfl hl _ rfl (Nat.le_of_ble_eq_true rfl) hS dX11_sortOf_50 ⟨Nat.zero_le _, Nat.zero_le _⟩ (fun H locs hP hS => ?_)
          refine lv_iload_n hx hb dX11_sortOf_53 rfl (lv_at hl 1 rfl) ?_
          refine lv_icmp_ne (tgt := 80) hx hb dX11_sortOf_54 (by decide) (fun c9 => ?_) (fun c9 => ?_)
          · replace h := gif_f h c9
            refine lv_iinc (v := x4 + (nI 1)) (lv' := [(4, .int (x4 + (nI 1))), (0, .ref (ad 0)), (1, .int x1), (3, .int x3)]) hx hb dX11_sortOf_80 hl (k := 3) rfl rfl (by decide) rfl (fun ls hl => ?_)
            refine lv_goto (tgt := 32) hx hb dX11_sortOf_83 (by decide) ?_
            exact hK32 (x4 + (nI 1)) _ _ ls h hP hS (lv_sub hl [1, 2, 3, 0] rfl)
          · replace h := gif_t h c9
            refine lv_aload_n hx hb dX11_sortOf_57 rfl (lv_at hl 0 rfl) ?_
            refine lv_aload_n hx hb dX11_sortOf_58 rfl (lv_at hl 0 rfl) ?_
            refine fw_getr hx hb hts in_X11_sortOf_X11 hown hK hP gF11.1.1 gF11.1.2 rfl 12 (by decide) rfl (hts _ (List.mem_of_getElem? (i := 1) rfl)) rfl dX11_sortOf_59 ?_
            refine lv_iload_n hx hb dX11_sortOf_62 rfl (lv_at hl 2 rfl) ?_
            obtain ⟨h10, h⟩ := gg_s h
            refine fw_iald hx hb hK hP gF11.2.2.2.2.2.2.2.1.1 gF11.2.2.2.2.2.2.2.1.2 h10 dX11_sortOf_63 ?_
            refine lv_aload_n hx hb dX11_sortOf_64 rfl (lv_at hl 0 rfl) ?_
            refine fw_getr hx hb hts in_X11_sortOf_X11 hown hK hP gF11.1.1 gF11.1.2 rfl 12 (by decide) rfl (hts _ (List.mem_of_getElem? (i := 1) rfl)) rfl dX11_sortOf_65 ?_
            refine lv_iload hx hb dX11_sortOf_68 (lv_at hl 3 rfl) ?_
            obtain ⟨h11, h⟩ := gg_s h
            refine fw_iald hx hb hK hP gF11.2.2.2.2.2.2.2.1.1 gF11.2.2.2.2.2.2.2.1.2 h11 dX11_sortOf_70 ?_
            refine lv_ior hx hb dX11_sortOf_71 ?_
            obtain ⟨q12, hq12, h⟩ := gb_s h
            refine fw_viR (As := [.int ((z 7 x3.toNatClampNeg) ||| (z 7 x4.toNatClampNeg))]) (rest := []) ⟨hx, hb, hml, hown, hts⟩ (k_X11_isCluster l D cA ad tw hG z ((z 7 x3.toNatClampNeg) ||| (z 7 x4.toNatClampNeg)) q12 hq12) (cwV 1 hts gX11_sortOf_X11_isCluster rfl rfl rfl hdV_X11_isCluster ⟨Nat.le_of_ble_eq_true rfl, Nat.le_of_ble_eq_true rfl⟩) (fw_preV gF11.1.1 gF11.1.2 rfl rfl hK hZ hP hS) rfl hl _ rfl (Nat.le_of_ble_eq_true rfl) hS dX11_sortOf_72 ⟨Nat.zero_le _, Nat.zero_le _⟩ (fun H locs hP hS => ?_)
            refine lv_if_eq (tgt := 80) hx hb dX11_sortOf_75 (by decide) (fun c13 => ?_) (fun c13 => ?_)
            · replace h := gif_t h c13
              refine lv_iinc (v := x4 + (nI 1)) (lv' := [(4, .int (x4 + (nI 1))), (0, .ref (ad 0)), (1, .int x1), (3, .int x3)]) hx hb dX11_sortOf_80 hl (k := 3) rfl rfl (by decide) rfl (fun ls hl => ?_)
              refine lv_goto (tgt := 32) hx hb dX11_sortOf_83 (by decide) ?_
              exact hK32 (x4 + (nI 1)) _ _ ls h hP hS (lv_sub hl [1, 2, 3, 0] rfl)
            · replace h := gif_f h c13
              refine lv_iconst (v := (nI 2)) hx hb dX11_sortOf_78 (by decide) ?_
              exact fw_ireti hx hb hr hlocks (congrArg (fun q => (q, z)) (Option.some.inj h)) hK hZ hP hS dX11_sortOf_79
  have j24 : ∀ (x1 : Int32) (n : Nat) (x3 : Int32) (H : Heap) (locs : List Loc) (ls : Array Slot), f_X11_sortOf_24 z x1 n x3 = some res → va_P D vwCl (gw cA ad shM 22 z) H → va_S (gA ad 22) s.heap H locs → lv_has ls 5 [(0, .ref (ad 0)), (1, .int x1), (3, .int x3)] → W p l e (headSpec wsX11_sortOf (gRm 2 45)).room s m ([.ref (ad 0), .int a1] : List Value).toArray below meth c H locs 0 0 (MQ below (va_Qi (fun r u => (r, u) = (res, z)) (gPr D cA ad tw shM 22) (gA ad 22)) ([.ref (ad 0), .int a1] : List Value).toArray s 0 0 (gA ad 22)) (F0 m 24 ls []) := by
    intro x1 n
    induction n with
    | zero => intro x3 H locs ls h; exact (gno h).elim
    | succ n hK24 =>
      intro x3 H locs ls h hP hS hl
      replace h : f_X11_sortOf_24_b z x1 (f_X11_sortOf_24 z x1 n) x3 = some res := h
      unfold f_X11_sortOf_24_b at h
      refine lv_iload_n hx hb dX11_sortOf_24 rfl (lv_at hl 2 rfl) ?_
      refine lv_iload_n hx hb dX11_sortOf_25 rfl (lv_at hl 1 rfl) ?_
      refine lv_icmp_ge (tgt := 92) hx hb dX11_sortOf_26 (by decide) (fun c4 => ?_) (fun c4 => ?_)
      · replace h := gif_t h c4
        refine lv_iconst (v := (nI 1)) hx hb dX11_sortOf_92 (by decide) ?_
        exact fw_ireti hx hb hr hlocks (congrArg (fun q => (q, z)) (Option.some.inj h)) hK hZ hP hS dX11_sortOf_93
      · replace h := gif_f h c4
        refine lv_iconst (v := (nI 0)) hx hb dX11_sortOf_29 (by decide) ?_
        refine lv_istore (lv' := [(4, .int (nI 0)), (0, .ref (ad 0)), (1, .int x1), (3, .int x3)]) hx hb dX11_sortOf_30 hl (by decide) rfl (fun ls hl => ?_)
        exact j32 x1 x3 _ hK24 gF (nI 0) _ _ ls h hP hS (lv_sub hl [1, 2, 3, 0] rfl)
  unfold f_X11_sortOf at h
  refine lv_aload_n hx hb dX11_sortOf_0 rfl (lv_at hl 0 rfl) ?_
  refine lv_iload_n hx hb dX11_sortOf_1 rfl (lv_at hl 1 rfl) ?_
  obtain ⟨q1, hq1, h⟩ := gb_s h
  refine fw_viR (As := [.int a1]) (rest := []) ⟨hx, hb, hml, hown, hts⟩ (k_X11_childrenOf l D cA ad tw hG z a1 q1 hq1) (cwV 1 hts gX11_sortOf_X11_childrenOf rfl rfl rfl hdV_X11_childrenOf ⟨Nat.le_of_ble_eq_true rfl, Nat.le_of_ble_eq_true rfl⟩) (fw_preV gF11.1.1 gF11.1.2 rfl rfl hK hZ hP hS) rfl hl _ rfl (Nat.le_of_ble_eq_true rfl) hS dX11_sortOf_2 ⟨Nat.zero_le _, Nat.zero_le _⟩ (fun H locs hP hS => ?_)
  refine lv_istore_n (lv' := [(2, .int q1), (0, .ref (ad 0)), (1, .int a1)]) hx hb dX11_sortOf_5 rfl hl (by decide) rfl (fun ls hl => ?_)
  refine lv_iload_n hx hb dX11_sortOf_6 rfl (lv_at hl 0 rfl) ?_
  refine lv_iconst (v := (nI 3)) hx hb dX11_sortOf_7 (by decide) ?_
  refine lv_icmp_ge (tgt := 22) hx hb dX11_sortOf_8 (by decide) (fun c2 => ?_) (fun c2 => ?_)
  · replace h := gif_t h c2
    refine lv_iconst (v := (nI 0)) hx hb dX11_sortOf_22 (by decide) ?_
    refine lv_istore_n (lv' := [(3, .int (nI 0)), (2, .int q1), (0, .ref (ad 0)), (1, .int a1)]) hx hb dX11_sortOf_23 rfl hl (by decide) rfl (fun ls hl => ?_)
    exact j24 a1 gF (nI 0) _ _ ls h hP hS (lv_sub hl [2, 3, 0] rfl)
  · replace h := gif_f h c2
    refine lv_iload_n hx hb dX11_sortOf_11 rfl (lv_at hl 0 rfl) ?_
    refine lv_iconst (v := (nI 2)) hx hb dX11_sortOf_12 (by decide) ?_
    refine lv_icmp_ge (tgt := 20) hx hb dX11_sortOf_13 (by decide) (fun c3 => ?_) (fun c3 => ?_)
    · replace h := gif_t h c3
      refine lv_iconst (v := (nI 1)) hx hb dX11_sortOf_20 (by decide) ?_
      exact fw_ireti hx hb hr hlocks (congrArg (fun q => (q, z)) (Option.some.inj h)) hK hZ hP hS dX11_sortOf_21
    · replace h := gif_f h c3
      refine lv_iconst (v := (nI 0)) hx hb dX11_sortOf_16 (by decide) ?_
      refine lv_goto (tgt := 21) hx hb dX11_sortOf_17 (by decide) ?_
      exact fw_ireti hx hb hr hlocks (congrArg (fun q => (q, z)) (Option.some.inj h)) hK hZ hP hS dX11_sortOf_21
theorem in_X11_clusters_X11 : ∀ w ∈ wsX110, w ∈ wsX11_clusters := fun w h => List.mem_cons_of_mem _ (List.mem_append_right _ (h))
theorem hdV_X11_clusters : yX11_clusters.cls = RX11 ∧ yX11_clusters.cls ≠ "java/lang/invoke/MethodHandle" ∧ yX11_clusters.cls ≠ "java/lang/invoke/VarHandle" ∧ (parseMethodDescriptor yX11_clusters.desc).map (fun d => d.parameters.length) = some 0 := by decide +kernel
set_option maxHeartbeats 4000000 in
set_option maxRecDepth 100000 in
theorem k_X11_clusters (l : Launch) (D : va_G) (cA : Nat → ClassId) (ad : Nat → Nat) (tw : Nat) (hG : gOk ad 22) (z : gS)  (res : Int32 × gS) (h : f_X11_clusters  z = some res) : gMi l yX11_clusters wsX11_clusters (gRm 4 89) D cA ad tw shM 22 [.ref (ad 0)] z res := by
  refine Met.ofW (cc := cX11_clusters) (maxL := 3) (ret := (some .int)) (by decide) rfl ?_
  intro p e s m args below meth c s₁ B hml hv
  obtain ⟨rfl, hP, hK, hZ⟩ := hv
  have hx := B.exec
  have hb := B.bytes
  have hr := B.returns
  have hts := atoms_spec (ws := wsX11_clusters) B.pre
  have hown : s.vm.findClass RX11 = some m.cls := findClass_of_methodNamed B.named
  have hlocks := B.notSynchronized
  have hS : va_S (gA ad 22) s.heap s.heap [] := va_S.rf
  have hl := lv_entry ([.ref (ad 0)]) (n := 3) (Nat.le_of_ble_eq_true rfl)
  rw [lg_entry_eq]
  generalize (lg_sl ([.ref (ad 0)]) ++ List.replicate (3 - (lg_sl ([.ref (ad 0)])).length) Slot.unset).toArray = ls at hl ⊢
  have hl : lv_has ls 3 [(0, .ref (ad 0))] := hl
  have j18 : ∀ (z : gS) (n : Nat) (x1 : Int32) (x2 : Int32) (H : Heap) (locs : List Loc) (ls : Array Slot), f_X11_clusters_18 z n x1 x2 = some res → va_P D vwCl (gw cA ad shM 22 z) H → va_S (gA ad 22) s.heap H locs → lv_has ls 3 [(0, .ref (ad 0)), (1, .int x1), (2, .int x2)] → W p l e (headSpec wsX11_clusters (gRm 4 89)).room s m ([.ref (ad 0)] : List Value).toArray below meth c H locs 0 0 (MQ below (va_Qi (fun r u => (r, u) = res) (gPr D cA ad tw shM 22) (gA ad 22)) ([.ref (ad 0)] : List Value).toArray s 0 0 (gA ad 22)) (F0 m 18 ls []) := by
    intro z n
    induction n with
    | zero => intro x1 x2 H locs ls h; exact (gno h).elim
    | succ n hK18 =>
      intro x1 x2 H locs ls h hP hS hl
      replace h : f_X11_clusters_18_b z (f_X11_clusters_18 z n) x1 x2 = some res := h
      unfold f_X11_clusters_18_b at h
      refine lv_iload_n hx hb dX11_clusters_18 rfl (lv_at hl 2 rfl) ?_
      refine lv_aload_n hx hb dX11_clusters_19 rfl (lv_at hl 0 rfl) ?_
      obtain ⟨q3, hq3, h⟩ := gb_s h
      refine fw_viR (As := []) (rest := [.int x2]) ⟨hx, hb, hml, hown, hts⟩ (k_X11_all l D cA ad tw hG z  q3 hq3) (cwV 0 hts gX11_clusters_X11_all rfl rfl rfl hdV_X11_all ⟨Nat.le_of_ble_eq_true rfl, Nat.le_of_ble_eq_true rfl⟩) (fw_preV gF11.1.1 gF11.1.2 rfl rfl hK hZ hP hS) rfl hl _ rfl (Nat.le_of_ble_eq_true rfl) hS dX11_clusters_20 ⟨Nat.zero_le _, Nat.zero_le _⟩ (fun H locs hP hS => ?_)
      refine lv_icmp_gt (tgt := 48) hx hb dX11_clusters_23 (by decide) (fun c4 => ?_) (fun c4 => ?_)
      · replace h := gif_t h c4
        refine lv_iload_n hx hb dX11_clusters_48 rfl (lv_at hl 1 rfl) ?_
        exact fw_ireti hx hb hr hlocks (Option.some.inj h) hK hZ hP hS dX11_clusters_49
      · replace h := gif_f h c4
        refine lv_iload_n hx hb dX11_clusters_26 rfl (lv_at hl 1 rfl) ?_
        refine lv_aload_n hx hb dX11_clusters_27 rfl (lv_at hl 0 rfl) ?_
        refine lv_iload_n hx hb dX11_clusters_28 rfl (lv_at hl 2 rfl) ?_
        obtain ⟨q5, hq5, h⟩ := gb_s h
        refine fw_viR (As := [.int x2]) (rest := [.int x1]) ⟨hx, hb, hml, hown, hts⟩ (k_X11_isCluster l D cA ad tw hG z x2 q5 hq5) (cwV 1 hts gX11_clusters_X11_isCluster rfl rfl rfl hdV_X11_isCluster ⟨Nat.le_of_ble_eq_true rfl, Nat.le_of_ble_eq_true rfl⟩) (fw_preV gF11.1.1 gF11.1.2 rfl rfl hK hZ hP hS) rfl hl _ rfl (Nat.le_of_ble_eq_true rfl) hS dX11_clusters_29 ⟨Nat.zero_le _, Nat.zero_le _⟩ (fun H locs hP hS => ?_)
        refine lv_if_eq (tgt := 39) hx hb dX11_clusters_32 (by decide) (fun c6 => ?_) (fun c6 => ?_)
        · replace h := gif_t h c6
          refine lv_iconst (v := (nI 0)) hx hb dX11_clusters_39 (by decide) ?_
          refine lv_iadd hx hb dX11_clusters_40 ?_
          refine lv_topi (fun y7 ey7 => ?_)
          replace h := gl_s h ey7
          refine lv_istore_n (lv' := [(1, .int y7), (0, .ref (ad 0)), (2, .int x2)]) hx hb dX11_clusters_41 rfl hl (by decide) rfl (fun ls hl => ?_)
          refine lv_iinc (v := x2 + (nI 1)) (lv' := [(2, .int (x2 + (nI 1))), (1, .int y7), (0, .ref (ad 0))]) hx hb dX11_clusters_42 hl (k := 2) rfl rfl (by decide) rfl (fun ls hl => ?_)
          refine lv_goto (tgt := 18) hx hb dX11_clusters_45 (by decide) ?_
          exact hK18 y7 (x2 + (nI 1)) _ _ ls h hP hS (lv_sub hl [2, 1, 0] rfl)
        · replace h := gif_f h c6
          refine lv_iconst (v := (nI 1)) hx hb dX11_clusters_35 (by decide) ?_
          refine lv_goto (tgt := 40) hx hb dX11_clusters_36 (by decide) ?_
          refine lv_iadd hx hb dX11_clusters_40 ?_
          refine lv_topi (fun y8 ey8 => ?_)
          replace h := gl_s h ey8
          refine lv_istore_n (lv' := [(1, .int y8), (0, .ref (ad 0)), (2, .int x2)]) hx hb dX11_clusters_41 rfl hl (by decide) rfl (fun ls hl => ?_)
          refine lv_iinc (v := x2 + (nI 1)) (lv' := [(2, .int (x2 + (nI 1))), (1, .int y8), (0, .ref (ad 0))]) hx hb dX11_clusters_42 hl (k := 2) rfl rfl (by decide) rfl (fun ls hl => ?_)
          refine lv_goto (tgt := 18) hx hb dX11_clusters_45 (by decide) ?_
          exact hK18 y8 (x2 + (nI 1)) _ _ ls h hP hS (lv_sub hl [2, 1, 0] rfl)
  unfold f_X11_clusters at h
  refine lv_aload_n hx hb dX11_clusters_0 rfl (lv_at hl 0 rfl) ?_
  obtain ⟨q1, hq1, h⟩ := gb_s h
  refine fw_vv (As := []) (rest := []) ⟨hx, hb, hml, hown, hts⟩ (k_X11_liesTogether l D cA ad tw hG z  q1 hq1) (cwV 0 hts gX11_clusters_X11_liesTogether rfl rfl rfl hdV_X11_liesTogether ⟨Nat.le_of_ble_eq_true rfl, Nat.le_of_ble_eq_true rfl⟩) (fw_preV gF11.1.1 gF11.1.2 rfl rfl hK hZ hP hS) rfl hl _ rfl (Nat.le_of_ble_eq_true rfl) hS dX11_clusters_1 ⟨Nat.zero_le _, Nat.zero_le _⟩ (fun H locs hP hS => ?_)
  refine lv_aload_n hx hb dX11_clusters_4 rfl (lv_at hl 0 rfl) ?_
  refine fw_geti hx hb hts in_X11_clusters_X11 hown hK hP gF11.1.1 gF11.1.2 rfl 10 (by decide) rfl (hts _ (List.mem_of_getElem? (i := 1) rfl)) rfl dX11_clusters_5 ?_
  refine lv_if_ne (tgt := 14) hx hb dX11_clusters_8 (by decide) (fun c2 => ?_) (fun c2 => ?_)
  · replace h := gif_f h c2
    refine lv_iconst (v := (nI 0)) hx hb dX11_clusters_14 (by decide) ?_
    refine lv_istore_n (lv' := [(1, .int (nI 0)), (0, .ref (ad 0))]) hx hb dX11_clusters_15 rfl hl (by decide) rfl (fun ls hl => ?_)
    refine lv_iconst (v := (nI 1)) hx hb dX11_clusters_16 (by decide) ?_
    refine lv_istore_n (lv' := [(2, .int (nI 1)), (1, .int (nI 0)), (0, .ref (ad 0))]) hx hb dX11_clusters_17 rfl hl (by decide) rfl (fun ls hl => ?_)
    exact j18 q1  gF (nI 0) (nI 1) _ _ ls h hP hS (lv_sub hl [2, 1, 0] rfl)
  · replace h := gif_t h c2
    refine lv_bipush (v := (-3)) hx hb dX11_clusters_11 (by decide) ?_
    exact fw_ireti hx hb hr hlocks (Option.some.inj h) hK hZ hP hS dX11_clusters_13
theorem in_X11_knotsOf_X11 : ∀ w ∈ wsX110, w ∈ wsX11_knotsOf := fun w h => List.mem_cons_of_mem _ (List.mem_append_right _ (h))
theorem hdV_X11_knotsOf : yX11_knotsOf.cls = RX11 ∧ yX11_knotsOf.cls ≠ "java/lang/invoke/MethodHandle" ∧ yX11_knotsOf.cls ≠ "java/lang/invoke/VarHandle" ∧ (parseMethodDescriptor yX11_knotsOf.desc).map (fun d => d.parameters.length) = some 1 := by decide +kernel
set_option maxHeartbeats 4000000 in
set_option maxRecDepth 100000 in
theorem k_X11_knotsOf (l : Launch) (D : va_G) (cA : Nat → ClassId) (ad : Nat → Nat) (tw : Nat) (hG : gOk ad 22) (z : gS) (a1 : Int32) (res : Int32) (h : f_X11_knotsOf a1 z = some res) : gMi l yX11_knotsOf wsX11_knotsOf (gRm 3 69) D cA ad tw shM 22 [.ref (ad 0), .int a1] z (res, z) := by
  refine Met.ofW (cc := cX11_knotsOf) (maxL := 4) (ret := (some .int)) (by decide) rfl ?_
  intro p e s m args below meth c s₁ B hml hv
  obtain ⟨rfl, hP, hK, hZ⟩ := hv
  have hx := B.exec
  have hb := B.bytes
  have hr := B.returns
  have hts := atoms_spec (ws := wsX11_knotsOf) B.pre
  have hown : s.vm.findClass RX11 = some m.cls := findClass_of_methodNamed B.named
  have hlocks := B.notSynchronized
  have hS : va_S (gA ad 22) s.heap s.heap [] := va_S.rf
  have hl := lv_entry ([.ref (ad 0), .int a1]) (n := 4) (Nat.le_of_ble_eq_true rfl)
  rw [lg_entry_eq]
  generalize (lg_sl ([.ref (ad 0), .int a1]) ++ List.replicate (4 - (lg_sl ([.ref (ad 0), .int a1])).length) Slot.unset).toArray = ls at hl ⊢
  have hl : lv_has ls 4 [(0, .ref (ad 0)), (1, .int a1)] := hl
  have j4 : ∀ (x1 : Int32) (n : Nat) (x2 : Int32) (x3 : Int32) (H : Heap) (locs : List Loc) (ls : Array Slot), f_X11_knotsOf_4 z x1 n x2 x3 = some res → va_P D vwCl (gw cA ad shM 22 z) H → va_S (gA ad 22) s.heap H locs → lv_has ls 4 [(0, .ref (ad 0)), (1, .int x1), (2, .int x2), (3, .int x3)] → W p l e (headSpec wsX11_knotsOf (gRm 3 69)).room s m ([.ref (ad 0), .int a1] : List Value).toArray below meth c H locs 0 0 (MQ below (va_Qi (fun r u => (r, u) = (res, z)) (gPr D cA ad tw shM 22) (gA ad 22)) ([.ref (ad 0), .int a1] : List Value).toArray s 0 0 (gA ad 22)) (F0 m 4 ls []) := by
    intro x1 n
    induction n with
    | zero => intro x2 x3 H locs ls h; exact (gno h).elim
    | succ n hK4 =>
      intro x2 x3 H locs ls h hP hS hl
      replace h : f_X11_knotsOf_4_b z x1 (f_X11_knotsOf_4 z x1 n) x2 x3 = some res := h
      unfold f_X11_knotsOf_4_b at h
      refine lv_iload_n hx hb dX11_knotsOf_4 rfl (lv_at hl 3 rfl) ?_
      refine lv_aload_n hx hb dX11_knotsOf_5 rfl (lv_at hl 0 rfl) ?_
      refine fw_geti hx hb hts in_X11_knotsOf_X11 hown hK hP gF11.1.1 gF11.1.2 rfl 13 (by decide) rfl (hts _ (List.mem_of_getElem? (i := 1) rfl)) rfl dX11_knotsOf_6 ?_
      refine lv_icmp_ge (tgt := 35) hx hb dX11_knotsOf_9 (by decide) (fun c1 => ?_) (fun c1 => ?_)
      · replace h := gif_t h c1
        refine lv_iload_n hx hb dX11_knotsOf_35 rfl (lv_at hl 2 rfl) ?_
        exact fw_ireti hx hb hr hlocks (congrArg (fun q => (q, z)) (Option.some.inj h)) hK hZ hP hS dX11_knotsOf_36
      · replace h := gif_f h c1
        refine lv_iload_n hx hb dX11_knotsOf_12 rfl (lv_at hl 2 rfl) ?_
        refine lv_aload_n hx hb dX11_knotsOf_13 rfl (lv_at hl 0 rfl) ?_
        refine lv_iload_n hx hb dX11_knotsOf_14 rfl (lv_at hl 3 rfl) ?_
        obtain ⟨q2, hq2, h⟩ := gb_s h
        refine fw_viR (As := [.int x3]) (rest := [.int x2]) ⟨hx, hb, hml, hown, hts⟩ (k_X11_sortOf l D cA ad tw hG z x3 q2 hq2) (cwV 1 hts gX11_knotsOf_X11_sortOf rfl rfl rfl hdV_X11_sortOf ⟨Nat.le_of_ble_eq_true rfl, Nat.le_of_ble_eq_true rfl⟩) (fw_preV gF11.1.1 gF11.1.2 rfl rfl hK hZ hP hS) rfl hl _ rfl (Nat.le_of_ble_eq_true rfl) hS dX11_knotsOf_15 ⟨Nat.zero_le _, Nat.zero_le _⟩ (fun H locs hP hS => ?_)
        refine lv_iload_n hx hb dX11_knotsOf_18 rfl (lv_at hl 1 rfl) ?_
        refine lv_icmp_ne (tgt := 26) hx hb dX11_knotsOf_19 (by decide) (fun c3 => ?_) (fun c3 => ?_)
        · replace h := gif_f h c3
          refine lv_iconst (v := (nI 0)) hx hb dX11_knotsOf_26 (by decide) ?_
          refine lv_iadd hx hb dX11_knotsOf_27 ?_
          refine lv_topi (fun y4 ey4 => ?_)
          replace h := gl_s h ey4
          refine lv_istore_n (lv' := [(2, .int y4), (0, .ref (ad 0)), (1, .int x1), (3, .int x3)]) hx hb dX11_knotsOf_28 rfl hl (by decide) rfl (fun ls hl => ?_)
          refine lv_iinc (v := x3 + (nI 1)) (lv' := [(3, .int (x3 + (nI 1))), (2, .int y4), (0, .ref (ad 0)), (1, .int x1)]) hx hb dX11_knotsOf_29 hl (k := 3) rfl rfl (by decide) rfl (fun ls hl => ?_)
          refine lv_goto (tgt := 4) hx hb dX11_knotsOf_32 (by decide) ?_
          exact hK4 y4 (x3 + (nI 1)) _ _ ls h hP hS (lv_sub hl [2, 3, 1, 0] rfl)
        · replace h := gif_t h c3
          refine lv_iconst (v := (nI 1)) hx hb dX11_knotsOf_22 (by decide) ?_
          refine lv_goto (tgt := 27) hx hb dX11_knotsOf_23 (by decide) ?_
          refine lv_iadd hx hb dX11_knotsOf_27 ?_
          refine lv_topi (fun y5 ey5 => ?_)
          replace h := gl_s h ey5
          refine lv_istore_n (lv' := [(2, .int y5), (0, .ref (ad 0)), (1, .int x1), (3, .int x3)]) hx hb dX11_knotsOf_28 rfl hl (by decide) rfl (fun ls hl => ?_)
          refine lv_iinc (v := x3 + (nI 1)) (lv' := [(3, .int (x3 + (nI 1))), (2, .int y5), (0, .ref (ad 0)), (1, .int x1)]) hx hb dX11_knotsOf_29 hl (k := 3) rfl rfl (by decide) rfl (fun ls hl => ?_)
          refine lv_goto (tgt := 4) hx hb dX11_knotsOf_32 (by decide) ?_
          exact hK4 y5 (x3 + (nI 1)) _ _ ls h hP hS (lv_sub hl [2, 3, 1, 0] rfl)
  unfold f_X11_knotsOf at h
  refine lv_iconst (v := (nI 0)) hx hb dX11_knotsOf_0 (by decide) ?_
  refine lv_istore_n (lv' := [(2, .int (nI 0)), (0, .ref (ad 0)), (1, .int a1)]) hx hb dX11_knotsOf_1 rfl hl (by decide) rfl (fun ls hl => ?_)
  refine lv_iconst (v := (nI 0)) hx hb dX11_knotsOf_2 (by decide) ?_
  refine lv_istore_n (lv' := [(3, .int (nI 0)), (2, .int (nI 0)), (0, .ref (ad 0)), (1, .int a1)]) hx hb dX11_knotsOf_3 rfl hl (by decide) rfl (fun ls hl => ?_)
  exact j4 a1 gF (nI 0) (nI 0) _ _ ls h hP hS (lv_sub hl [2, 3, 1, 0] rfl)
theorem in_X11_knots_X11 : ∀ w ∈ wsX110, w ∈ wsX11_knots := fun w h => List.mem_cons_of_mem _ (List.mem_append_right _ (h))
theorem hdV_X11_knots : yX11_knots.cls = RX11 ∧ yX11_knots.cls ≠ "java/lang/invoke/MethodHandle" ∧ yX11_knots.cls ≠ "java/lang/invoke/VarHandle" ∧ (parseMethodDescriptor yX11_knots.desc).map (fun d => d.parameters.length) = some 1 := by decide +kernel
set_option maxHeartbeats 4000000 in
set_option maxRecDepth 100000 in
theorem k_X11_knots (l : Launch) (D : va_G) (cA : Nat → ClassId) (ad : Nat → Nat) (tw : Nat) (hG : gOk ad 22) (z : gS) (a1 : Int32) (res : Int32 × gS) (h : f_X11_knots a1 z = some res) : gMi l yX11_knots wsX11_knots (gRm 5 111) D cA ad tw shM 22 [.ref (ad 0), .int a1] z res := by
  refine Met.ofW (cc := cX11_knots) (maxL := 2) (ret := (some .int)) (by decide) rfl ?_
  intro p e s m args below meth c s₁ B hml hv
  obtain ⟨rfl, hP, hK, hZ⟩ := hv
  have hx := B.exec
  have hb := B.bytes
  have hr := B.returns
  have hts := atoms_spec (ws := wsX11_knots) B.pre
  have hown : s.vm.findClass RX11 = some m.cls := findClass_of_methodNamed B.named
  have hlocks := B.notSynchronized
  have hS : va_S (gA ad 22) s.heap s.heap [] := va_S.rf
  have hl := lv_entry ([.ref (ad 0), .int a1]) (n := 2) (Nat.le_of_ble_eq_true rfl)
  rw [lg_entry_eq]
  generalize (lg_sl ([.ref (ad 0), .int a1]) ++ List.replicate (2 - (lg_sl ([.ref (ad 0), .int a1])).length) Slot.unset).toArray = ls at hl ⊢
  have hl : lv_has ls 2 [(0, .ref (ad 0)), (1, .int a1)] := hl
  unfold f_X11_knots at h
  refine lv_iload_n hx hb dX11_knots_0 rfl (lv_at hl 1 rfl) ?_
  refine lv_iconst (v := (nI 0)) hx hb dX11_knots_1 (by decide) ?_
  refine lv_iconst (v := (nI 2)) hx hb dX11_knots_2 (by decide) ?_
  obtain ⟨q1, hq1, h⟩ := gb_s h
  refine fw_siR (As := [.int a1, .int (nI 0), .int (nI 2)]) (rest := []) ⟨hx, hb, hml, hown, hts⟩ (k_X11_in l D cA ad tw hG z a1 (nI 0) (nI 2) q1 hq1) (va_cwS 3 hts gX11_knots_X11_in rfl rfl rfl hdS_X11_in ⟨Nat.le_of_ble_eq_true rfl, Nat.le_of_ble_eq_true rfl⟩) hK hZ hP rfl hl _ rfl (Nat.le_of_ble_eq_true rfl) hS dX11_knots_3 ⟨Nat.zero_le _, Nat.zero_le _⟩ (fun H locs hP hS => ?_)
  refine lv_if_ne (tgt := 12) hx hb dX11_knots_6 (by decide) (fun c2 => ?_) (fun c2 => ?_)
  · replace h := gif_f h c2
    refine lv_aload_n hx hb dX11_knots_12 rfl (lv_at hl 0 rfl) ?_
    obtain ⟨q3, hq3, h⟩ := gb_s h
    refine fw_vi (As := []) (rest := []) ⟨hx, hb, hml, hown, hts⟩ (k_X11_tellsKnots l D cA ad tw hG z  q3 hq3) (cwV 0 hts gX11_knots_X11_tellsKnots rfl rfl rfl hdV_X11_tellsKnots ⟨Nat.le_of_ble_eq_true rfl, Nat.le_of_ble_eq_true rfl⟩) (fw_preV gF11.1.1 gF11.1.2 rfl rfl hK hZ hP hS) rfl hl _ rfl (Nat.le_of_ble_eq_true rfl) hS dX11_knots_13 ⟨Nat.zero_le _, Nat.zero_le _⟩ (fun H locs hP hS => ?_)
    refine lv_if_ne (tgt := 22) hx hb dX11_knots_16 (by decide) (fun c4 => ?_) (fun c4 => ?_)
    · replace h := gif_f h c4
      refine lv_iload_n hx hb dX11_knots_22 rfl (lv_at hl 1 rfl) ?_
      refine lv_if_ne (tgt := 33) hx hb dX11_knots_23 (by decide) (fun c5 => ?_) (fun c5 => ?_)
      · replace h := gif_f h c5
        refine lv_aload_n hx hb dX11_knots_33 rfl (lv_at hl 0 rfl) ?_
        refine lv_iload_n hx hb dX11_knots_34 rfl (lv_at hl 1 rfl) ?_
        obtain ⟨q6, hq6, h⟩ := gb_s h
        refine fw_viR (As := [.int a1]) (rest := []) ⟨hx, hb, hml, hown, hts⟩ (k_X11_knotsOf l D cA ad tw hG q3.2 a1 q6 hq6) (cwV 1 hts gX11_knots_X11_knotsOf rfl rfl rfl hdV_X11_knotsOf ⟨Nat.le_of_ble_eq_true rfl, Nat.le_of_ble_eq_true rfl⟩) (fw_preV gF11.1.1 gF11.1.2 rfl rfl hK hZ hP hS) rfl hl _ rfl (Nat.le_of_ble_eq_true rfl) hS dX11_knots_35 ⟨Nat.zero_le _, Nat.zero_le _⟩ (fun H locs hP hS => ?_)
        exact fw_ireti hx hb hr hlocks (Option.some.inj h) hK hZ hP hS dX11_knots_38
      · replace h := gif_t h c5
        refine lv_aload_n hx hb dX11_knots_26 rfl (lv_at hl 0 rfl) ?_
        refine fw_geti hx hb hts in_X11_knots_X11 hown hK hP gF11.1.1 gF11.1.2 rfl 13 (by decide) rfl (hts _ (List.mem_of_getElem? (i := 1) rfl)) rfl dX11_knots_27 ?_
        refine lv_goto (tgt := 38) hx hb dX11_knots_30 (by decide) ?_
        exact fw_ireti hx hb hr hlocks (Option.some.inj h) hK hZ hP hS dX11_knots_38
    · replace h := gif_t h c4
      refine lv_bipush (v := (-3)) hx hb dX11_knots_19 (by decide) ?_
      exact fw_ireti hx hb hr hlocks (Option.some.inj h) hK hZ hP hS dX11_knots_21
  · replace h := gif_t h c2
    refine lv_bipush (v := (-2)) hx hb dX11_knots_9 (by decide) ?_
    exact fw_ireti hx hb hr hlocks (Option.some.inj h) hK hZ hP hS dX11_knots_11
theorem in_X11_knot_X11 : ∀ w ∈ wsX110, w ∈ wsX11_knot := fun w h => List.mem_cons_of_mem _ (List.mem_append_right _ (h))
theorem hdV_X11_knot : yX11_knot.cls = RX11 ∧ yX11_knot.cls ≠ "java/lang/invoke/MethodHandle" ∧ yX11_knot.cls ≠ "java/lang/invoke/VarHandle" ∧ (parseMethodDescriptor yX11_knot.desc).map (fun d => d.parameters.length) = some 2 := by decide +kernel
set_option maxHeartbeats 4000000 in
set_option maxRecDepth 100000 in
theorem k_X11_knot (l : Launch) (D : va_G) (cA : Nat → ClassId) (ad : Nat → Nat) (tw : Nat) (hG : gOk ad 22) (z : gS) (a1 : Int32) (a2 : Int32) (res : Int32 × gS) (h : f_X11_knot a1 a2 z = some res) : gMi l yX11_knot wsX11_knot (gRm 5 111) D cA ad tw shM 22 [.ref (ad 0), .int a1, .int a2] z res := by
  refine Met.ofW (cc := cX11_knot) (maxL := 3) (ret := (some .int)) (by decide) rfl ?_
  intro p e s m args below meth c s₁ B hml hv
  obtain ⟨rfl, hP, hK, hZ⟩ := hv
  have hx := B.exec
  have hb := B.bytes
  have hr := B.returns
  have hts := atoms_spec (ws := wsX11_knot) B.pre
  have hown : s.vm.findClass RX11 = some m.cls := findClass_of_methodNamed B.named
  have hlocks := B.notSynchronized
  have hS : va_S (gA ad 22) s.heap s.heap [] := va_S.rf
  have hl := lv_entry ([.ref (ad 0), .int a1, .int a2]) (n := 3) (Nat.le_of_ble_eq_true rfl)
  rw [lg_entry_eq]
  generalize (lg_sl ([.ref (ad 0), .int a1, .int a2]) ++ List.replicate (3 - (lg_sl ([.ref (ad 0), .int a1, .int a2])).length) Slot.unset).toArray = ls at hl ⊢
  have hl : lv_has ls 3 [(0, .ref (ad 0)), (1, .int a1), (2, .int a2)] := hl
  unfold f_X11_knot at h
  refine lv_aload_n hx hb dX11_knot_0 rfl (lv_at hl 0 rfl) ?_
  obtain ⟨q1, hq1, h⟩ := gb_s h
  refine fw_vi (As := []) (rest := []) ⟨hx, hb, hml, hown, hts⟩ (k_X11_tellsKnots l D cA ad tw hG z  q1 hq1) (cwV 0 hts gX11_knot_X11_tellsKnots rfl rfl rfl hdV_X11_tellsKnots ⟨Nat.le_of_ble_eq_true rfl, Nat.le_of_ble_eq_true rfl⟩) (fw_preV gF11.1.1 gF11.1.2 rfl rfl hK hZ hP hS) rfl hl _ rfl (Nat.le_of_ble_eq_true rfl) hS dX11_knot_1 ⟨Nat.zero_le _, Nat.zero_le _⟩ (fun H locs hP hS => ?_)
  refine lv_if_ne (tgt := 10) hx hb dX11_knot_4 (by decide) (fun c2 => ?_) (fun c2 => ?_)
  · replace h := gif_f h c2
    refine lv_iload_n hx hb dX11_knot_10 rfl (lv_at hl 1 rfl) ?_
    refine lv_iconst (v := (nI 0)) hx hb dX11_knot_11 (by decide) ?_
    refine lv_aload_n hx hb dX11_knot_12 rfl (lv_at hl 0 rfl) ?_
    refine fw_geti hx hb hts in_X11_knot_X11 hown hK hP gF11.1.1 gF11.1.2 rfl 13 (by decide) rfl (hts _ (List.mem_of_getElem? (i := 1) rfl)) rfl dX11_knot_13 ?_
    refine lv_iconst (v := (nI 1)) hx hb dX11_knot_16 (by decide) ?_
    refine lv_isub hx hb dX11_knot_17 ?_
    obtain ⟨q3, hq3, h⟩ := gb_s h
    refine fw_siR (As := [.int a1, .int (nI 0), .int ((q1.2 0 13) - (nI 1))]) (rest := []) ⟨hx, hb, hml, hown, hts⟩ (k_X11_in l D cA ad tw hG q1.2 a1 (nI 0) ((q1.2 0 13) - (nI 1)) q3 hq3) (va_cwS 3 hts gX11_knot_X11_in rfl rfl rfl hdS_X11_in ⟨Nat.le_of_ble_eq_true rfl, Nat.le_of_ble_eq_true rfl⟩) hK hZ hP rfl hl _ rfl (Nat.le_of_ble_eq_true rfl) hS dX11_knot_18 ⟨Nat.zero_le _, Nat.zero_le _⟩ (fun H locs hP hS => ?_)
    refine lv_if_ne (tgt := 26) hx hb dX11_knot_21 (by decide) (fun c4 => ?_) (fun c4 => ?_)
    · replace h := gif_f h c4
      refine lv_iload_n hx hb dX11_knot_26 rfl (lv_at hl 2 rfl) ?_
      by_cases c5 : a2 = (nI 0)
      · replace h := gif_t h c5
        refine lv_tableIn (tgt := 60) hx hb dX11_knot_27 (by rw [c5]; decide) (by rw [c5]; decide) (by rw [c5]; rfl) (by decide) ?_
        refine lv_aload_n hx hb dX11_knot_60 rfl (lv_at hl 0 rfl) ?_
        refine fw_getr hx hb hts in_X11_knot_X11 hown hK hP gF11.1.1 gF11.1.2 rfl 12 (by decide) rfl (hts _ (List.mem_of_getElem? (i := 2) rfl)) rfl dX11_knot_61 ?_
        refine lv_iload_n hx hb dX11_knot_64 rfl (lv_at hl 1 rfl) ?_
        obtain ⟨h6, h⟩ := gg_s h
        refine fw_iald hx hb hK hP gF11.2.2.2.2.2.2.2.1.1 gF11.2.2.2.2.2.2.2.1.2 h6 dX11_knot_65 ?_
        exact fw_ireti hx hb hr hlocks (Option.some.inj h) hK hZ hP hS dX11_knot_66
      replace h := gif_f h c5
      by_cases c7 : a2 = (nI 1)
      · replace h := gif_t h c7
        refine lv_tableIn (tgt := 67) hx hb dX11_knot_27 (by rw [c7]; decide) (by rw [c7]; decide) (by rw [c7]; rfl) (by decide) ?_
        refine lv_aload_n hx hb dX11_knot_67 rfl (lv_at hl 0 rfl) ?_
        refine lv_iload_n hx hb dX11_knot_68 rfl (lv_at hl 1 rfl) ?_
        obtain ⟨q8, hq8, h⟩ := gb_s h
        refine fw_viR (As := [.int a1]) (rest := []) ⟨hx, hb, hml, hown, hts⟩ (k_X11_sortOf l D cA ad tw hG q1.2 a1 q8 hq8) (cwV 1 hts gX11_knot_X11_sortOf rfl rfl rfl hdV_X11_sortOf ⟨Nat.le_of_ble_eq_true rfl, Nat.le_of_ble_eq_true rfl⟩) (fw_preV gF11.1.1 gF11.1.2 rfl rfl hK hZ hP hS) rfl hl _ rfl (Nat.le_of_ble_eq_true rfl) hS dX11_knot_69 ⟨Nat.zero_le _, Nat.zero_le _⟩ (fun H locs hP hS => ?_)
        exact fw_ireti hx hb hr hlocks (Option.some.inj h) hK hZ hP hS dX11_knot_72
      replace h := gif_f h c7
      by_cases c9 : a2 = (nI 2)
      · replace h := gif_t h c9
        refine lv_tableIn (tgt := 85) hx hb dX11_knot_27 (by rw [c9]; decide) (by rw [c9]; decide) (by rw [c9]; rfl) (by decide) ?_
        refine lv_iconst (v := gm1) hx hb dX11_knot_85 (by decide) ?_
        exact fw_ireti hx hb hr hlocks (Option.some.inj h) hK hZ hP hS dX11_knot_86
      replace h := gif_f h c9
      by_cases c10 : a2 = (nI 3)
      · replace h := gif_t h c10
        refine lv_tableIn (tgt := 73) hx hb dX11_knot_27 (by rw [c10]; decide) (by rw [c10]; decide) (by rw [c10]; rfl) (by decide) ?_
        refine lv_aload_n hx hb dX11_knot_73 rfl (lv_at hl 0 rfl) ?_
        refine lv_iload_n hx hb dX11_knot_74 rfl (lv_at hl 1 rfl) ?_
        obtain ⟨q11, hq11, h⟩ := gb_s h
        refine fw_viR (As := [.int a1]) (rest := []) ⟨hx, hb, hml, hown, hts⟩ (k_X11_childrenOf l D cA ad tw hG q1.2 a1 q11 hq11) (cwV 1 hts gX11_knot_X11_childrenOf rfl rfl rfl hdV_X11_childrenOf ⟨Nat.le_of_ble_eq_true rfl, Nat.le_of_ble_eq_true rfl⟩) (fw_preV gF11.1.1 gF11.1.2 rfl rfl hK hZ hP hS) rfl hl _ rfl (Nat.le_of_ble_eq_true rfl) hS dX11_knot_75 ⟨Nat.zero_le _, Nat.zero_le _⟩ (fun H locs hP hS => ?_)
        exact fw_ireti hx hb hr hlocks (Option.some.inj h) hK hZ hP hS dX11_knot_78
      replace h := gif_f h c10
      by_cases c12 : a2 = (nI 4)
      · replace h := gif_t h c12
        refine lv_tableIn (tgt := 79) hx hb dX11_knot_27 (by rw [c12]; decide) (by rw [c12]; decide) (by rw [c12]; rfl) (by decide) ?_
        refine lv_aload_n hx hb dX11_knot_79 rfl (lv_at hl 0 rfl) ?_
        refine lv_iload_n hx hb dX11_knot_80 rfl (lv_at hl 1 rfl) ?_
        obtain ⟨q13, hq13, h⟩ := gb_s h
        refine fw_viR (As := [.int a1]) (rest := []) ⟨hx, hb, hml, hown, hts⟩ (k_X11_above l D cA ad tw hG q1.2 a1 q13 hq13) (cwV 1 hts gX11_knot_X11_above rfl rfl rfl hdV_X11_above ⟨Nat.le_of_ble_eq_true rfl, Nat.le_of_ble_eq_true rfl⟩) (fw_preV gF11.1.1 gF11.1.2 rfl rfl hK hZ hP hS) rfl hl _ rfl (Nat.le_of_ble_eq_true rfl) hS dX11_knot_81 ⟨Nat.zero_le _, Nat.zero_le _⟩ (fun H locs hP hS => ?_)
        exact fw_ireti hx hb hr hlocks (Option.some.inj h) hK hZ hP hS dX11_knot_84
      replace h := gif_f h c12
      refine lv_tableOut (tgt := 85) hx hb dX11_knot_27 (by have nc5 := gne (w := 0) c5 rfl; have nc7 := gne (w := 1) c7 rfl; have nc9 := gne (w := 2) c9 rfl; have nc10 := gne (w := 3) c10 rfl; have nc12 := gne (w := 4) c12 rfl; omega) (by decide) ?_
      refine lv_iconst (v := gm1) hx hb dX11_knot_85 (by decide) ?_
      exact fw_ireti hx hb hr hlocks (Option.some.inj h) hK hZ hP hS dX11_knot_86
    · replace h := gif_t h c4
      refine lv_iconst (v := gm1) hx hb dX11_knot_24 (by decide) ?_
      exact fw_ireti hx hb hr hlocks (Option.some.inj h) hK hZ hP hS dX11_knot_25
  · replace h := gif_t h c2
    refine lv_bipush (v := (-3)) hx hb dX11_knot_7 (by decide) ?_
    exact fw_ireti hx hb hr hlocks (Option.some.inj h) hK hZ hP hS dX11_knot_9
theorem in_X11_told_X11 : ∀ w ∈ wsX110, w ∈ wsX11_told := fun w h => List.mem_cons_of_mem _ (List.mem_append_right _ (h))
theorem hdV_X11_told : yX11_told.cls = RX11 ∧ yX11_told.cls ≠ "java/lang/invoke/MethodHandle" ∧ yX11_told.cls ≠ "java/lang/invoke/VarHandle" ∧ (parseMethodDescriptor yX11_told.desc).map (fun d => d.parameters.length) = some 0 := by decide +kernel
set_option maxHeartbeats 4000000 in
set_option maxRecDepth 100000 in
theorem k_X11_told (l : Launch) (D : va_G) (cA : Nat → ClassId) (ad : Nat → Nat) (tw : Nat) (hG : gOk ad 22) (z : gS)  (res : Int64 × gS) (h : f_X11_told  z = some res) : gMl l yX11_told wsX11_told (gRm 5 111) D cA ad tw shM 22 [.ref (ad 0)] z res := by
  refine Met.ofW (cc := cX11_told) (maxL := 6) (ret := (some .long)) (by decide) rfl ?_
  intro p e s m args below meth c s₁ B hml hv
  obtain ⟨rfl, hP, hK, hZ⟩ := hv
  have hx := B.exec
  have hb := B.bytes
  have hr := B.returns
  have hts := atoms_spec (ws := wsX11_told) B.pre
  have hown : s.vm.findClass RX11 = some m.cls := findClass_of_methodNamed B.named
  have hlocks := B.notSynchronized
  have hS : va_S (gA ad 22) s.heap s.heap [] := va_S.rf
  have hl := lv_entry ([.ref (ad 0)]) (n := 6) (Nat.le_of_ble_eq_true rfl)
  rw [lg_entry_eq]
  generalize (lg_sl ([.ref (ad 0)]) ++ List.replicate (6 - (lg_sl ([.ref (ad 0)])).length) Slot.unset).toArray = ls at hl ⊢
  have hl : lv_has ls 6 [(0, .ref (ad 0))] := hl
  have j53 : ∀ (z : gS) (x3 : Int32) (x4 : Int32) (K15 : Int64 → Int32 → Option (Int64 × gS)) (hK15 : ∀ (x1' : Int64) (x3' : Int32) (H : Heap) (locs : List Loc) (ls : Array Slot), K15 x1' x3' = some res → va_P D vwCl (gw cA ad shM 22 z) H → va_S (gA ad 22) s.heap H locs → lv_has ls 6 [(0, .ref (ad 0)), (1, .long x1'), (3, .int x3')] → W p l e (headSpec wsX11_told (gRm 5 111)).room s m ([.ref (ad 0)] : List Value).toArray below meth c H locs 0 0 (MQ below (va_Ql (fun r u => (r, u) = res) (gPr D cA ad tw shM 22) (gA ad 22)) ([.ref (ad 0)] : List Value).toArray s 0 0 (gA ad 22)) (F0 m 15 ls [])) (n : Nat) (x1 : Int64) (x5 : Int32) (H : Heap) (locs : List Loc) (ls : Array Slot), f_X11_told_53 z x3 x4 K15 n x1 x5 = some res → va_P D vwCl (gw cA ad shM 22 z) H → va_S (gA ad 22) s.heap H locs → lv_has ls 6 [(0, .ref (ad 0)), (1, .long x1), (3, .int x3), (4, .int x4), (5, .int x5)] → W p l e (headSpec wsX11_told (gRm 5 111)).room s m ([.ref (ad 0)] : List Value).toArray below meth c H locs 0 0 (MQ below (va_Ql (fun r u => (r, u) = res) (gPr D cA ad tw shM 22) (gA ad 22)) ([.ref (ad 0)] : List Value).toArray s 0 0 (gA ad 22)) (F0 m 53 ls []) := by
    intro z x3 x4 K15 hK15 n
    induction n with
    | zero => intro x1 x5 H locs ls h; exact (gno h).elim
    | succ n hK53 =>
      intro x1 x5 H locs ls h hP hS hl
      replace h : f_X11_told_53_b z x3 x4 K15 (f_X11_told_53 z x3 x4 K15 n) x1 x5 = some res := h
      unfold f_X11_told_53_b at h
      refine lv_iload hx hb dX11_told_53 (lv_at hl 4 rfl) ?_
      refine lv_iconst (v := (nI 1)) hx hb dX11_told_55 (by decide) ?_
      refine lv_icmp_le (tgt := 77) hx hb dX11_told_56 (by decide) (fun c10 => ?_) (fun c10 => ?_)
      · replace h := gif_t h c10
        refine lv_iinc (v := x3 + (nI 1)) (lv' := [(3, .int (x3 + (nI 1))), (0, .ref (ad 0)), (1, .long x1), (4, .int x4), (5, .int x5)]) hx hb dX11_told_77 hl (k := 2) rfl rfl (by decide) rfl (fun ls hl => ?_)
        refine lv_goto (tgt := 15) hx hb dX11_told_80 (by decide) ?_
        exact hK15 x1 (x3 + (nI 1)) _ _ ls h hP hS (lv_sub hl [1, 2, 0] rfl)
      · replace h := gif_f h c10
        refine lv_iload hx hb dX11_told_59 (lv_at hl 3 rfl) ?_
        refine lv_iconst (v := (nI 1)) hx hb dX11_told_61 (by decide) ?_
        refine lv_icmp_ne (tgt := 77) hx hb dX11_told_62 (by decide) (fun c11 => ?_) (fun c11 => ?_)
        · replace h := gif_f h c11
          refine lv_iinc (v := x3 + (nI 1)) (lv' := [(3, .int (x3 + (nI 1))), (0, .ref (ad 0)), (1, .long x1), (4, .int x4), (5, .int x5)]) hx hb dX11_told_77 hl (k := 2) rfl rfl (by decide) rfl (fun ls hl => ?_)
          refine lv_goto (tgt := 15) hx hb dX11_told_80 (by decide) ?_
          exact hK15 x1 (x3 + (nI 1)) _ _ ls h hP hS (lv_sub hl [1, 2, 0] rfl)
        · replace h := gif_t h c11
          refine lv_lload_n hx hb dX11_told_65 rfl (lv_at hl 1 rfl) ?_
          refine lv_iload hx hb dX11_told_66 (lv_at hl 4 rfl) ?_
          refine lv_i2l (v := x5.toInt64) hx hb dX11_told_68 rfl ?_
          refine lv_lmul hx hb dX11_told_69 ?_
          refine lv_topl (fun y12 ey12 => ?_)
          replace h := gl_s h ey12
          refine lv_lstore_n (lv' := [(1, .long y12), (0, .ref (ad 0)), (3, .int x3), (4, .int x4), (5, .int x5)]) hx hb dX11_told_70 rfl hl (by decide) rfl (fun ls hl => ?_)
          refine lv_iinc (v := x5 + gm1) (lv' := [(5, .int (x5 + gm1)), (1, .long y12), (0, .ref (ad 0)), (3, .int x3), (4, .int x4)]) hx hb dX11_told_71 hl (k := 4) rfl rfl (by decide) rfl (fun ls hl => ?_)
          refine lv_goto (tgt := 53) hx hb dX11_told_74 (by decide) ?_
          exact hK53 y12 (x5 + gm1) _ _ ls h hP hS (lv_sub hl [2, 1, 3, 4, 0] rfl)
  have j15 : ∀ (z : gS) (n : Nat) (x1 : Int64) (x3 : Int32) (H : Heap) (locs : List Loc) (ls : Array Slot), f_X11_told_15 z n x1 x3 = some res → va_P D vwCl (gw cA ad shM 22 z) H → va_S (gA ad 22) s.heap H locs → lv_has ls 6 [(0, .ref (ad 0)), (1, .long x1), (3, .int x3)] → W p l e (headSpec wsX11_told (gRm 5 111)).room s m ([.ref (ad 0)] : List Value).toArray below meth c H locs 0 0 (MQ below (va_Ql (fun r u => (r, u) = res) (gPr D cA ad tw shM 22) (gA ad 22)) ([.ref (ad 0)] : List Value).toArray s 0 0 (gA ad 22)) (F0 m 15 ls []) := by
    intro z n
    induction n with
    | zero => intro x1 x3 H locs ls h; exact (gno h).elim
    | succ n hK15 =>
      intro x1 x3 H locs ls h hP hS hl
      replace h : f_X11_told_15_b z (f_X11_told_15 z n) x1 x3 = some res := h
      unfold f_X11_told_15_b at h
      refine lv_iload_n hx hb dX11_told_15 rfl (lv_at hl 2 rfl) ?_
      refine lv_aload_n hx hb dX11_told_16 rfl (lv_at hl 0 rfl) ?_
      refine fw_geti hx hb hts in_X11_told_X11 hown hK hP gF11.1.1 gF11.1.2 rfl 13 (by decide) rfl (hts _ (List.mem_of_getElem? (i := 2) rfl)) rfl dX11_told_17 ?_
      refine lv_icmp_ge (tgt := 83) hx hb dX11_told_20 (by decide) (fun c3 => ?_) (fun c3 => ?_)
      · replace h := gif_t h c3
        refine lv_lload_n hx hb dX11_told_83 rfl (lv_at hl 1 rfl) ?_
        exact fw_lret hx hb hr hlocks (Option.some.inj h) hK hZ hP hS dX11_told_84
      · replace h := gif_f h c3
        refine lv_aload_n hx hb dX11_told_23 rfl (lv_at hl 0 rfl) ?_
        refine lv_iload_n hx hb dX11_told_24 rfl (lv_at hl 2 rfl) ?_
        obtain ⟨q4, hq4, h⟩ := gb_s h
        refine fw_viR (As := [.int x3]) (rest := []) ⟨hx, hb, hml, hown, hts⟩ (k_X11_sortOf l D cA ad tw hG z x3 q4 hq4) (cwV 1 hts gX11_told_X11_sortOf rfl rfl rfl hdV_X11_sortOf ⟨Nat.le_of_ble_eq_true rfl, Nat.le_of_ble_eq_true rfl⟩) (fw_preV gF11.1.1 gF11.1.2 rfl rfl hK hZ hP hS) rfl hl _ rfl (Nat.le_of_ble_eq_true rfl) hS dX11_told_25 ⟨Nat.zero_le _, Nat.zero_le _⟩ (fun H locs hP hS => ?_)
        refine lv_istore (lv' := [(4, .int q4), (0, .ref (ad 0)), (1, .long x1), (3, .int x3)]) hx hb dX11_told_28 hl (by decide) rfl (fun ls hl => ?_)
        refine lv_lload_n hx hb dX11_told_30 rfl (lv_at hl 2 rfl) ?_
        refine lv_iload hx hb dX11_told_31 (lv_at hl 0 rfl) ?_
        refine lv_iconst (v := (nI 2)) hx hb dX11_told_33 (by decide) ?_
        refine lv_icmp_ne (tgt := 43) hx hb dX11_told_34 (by decide) (fun c5 => ?_) (fun c5 => ?_)
        · replace h := gif_f h c5
          refine lv_lconst (v := 1) hx hb dX11_told_43 (by decide) ?_
          refine lv_lmul hx hb dX11_told_44 ?_
          refine lv_topl (fun y6 ey6 => ?_)
          replace h := gl_s h ey6
          refine lv_lstore_n (lv' := [(1, .long y6), (4, .int q4), (0, .ref (ad 0)), (3, .int x3)]) hx hb dX11_told_45 rfl hl (by decide) rfl (fun ls hl => ?_)
          refine lv_aload_n hx hb dX11_told_46 rfl (lv_at hl 2 rfl) ?_
          refine lv_iload_n hx hb dX11_told_47 rfl (lv_at hl 3 rfl) ?_
          obtain ⟨q7, hq7, h⟩ := gb_s h
          refine fw_viR (As := [.int x3]) (rest := []) ⟨hx, hb, hml, hown, hts⟩ (k_X11_childrenOf l D cA ad tw hG z x3 q7 hq7) (cwV 1 hts gX11_told_X11_childrenOf rfl rfl rfl hdV_X11_childrenOf ⟨Nat.le_of_ble_eq_true rfl, Nat.le_of_ble_eq_true rfl⟩) (fw_preV gF11.1.1 gF11.1.2 rfl rfl hK hZ hP hS) rfl hl _ rfl (Nat.le_of_ble_eq_true rfl) hS dX11_told_48 ⟨Nat.zero_le _, Nat.zero_le _⟩ (fun H locs hP hS => ?_)
          refine lv_istore (lv' := [(5, .int q7), (1, .long y6), (4, .int q4), (0, .ref (ad 0)), (3, .int x3)]) hx hb dX11_told_51 hl (by decide) rfl (fun ls hl => ?_)
          exact j53 z x3 q4 _ hK15 gF y6 q7 _ _ ls h hP hS (lv_sub hl [3, 1, 4, 2, 0] rfl)
        · replace h := gif_t h c5
          refine lv_ldc2 (v := 2) hx hb hown (hts _ (List.mem_of_getElem? (i := 3) rfl)) dX11_told_37 ?_
          refine lv_goto (tgt := 44) hx hb dX11_told_40 (by decide) ?_
          refine lv_lmul hx hb dX11_told_44 ?_
          refine lv_topl (fun y8 ey8 => ?_)
          replace h := gl_s h ey8
          refine lv_lstore_n (lv' := [(1, .long y8), (4, .int q4), (0, .ref (ad 0)), (3, .int x3)]) hx hb dX11_told_45 rfl hl (by decide) rfl (fun ls hl => ?_)
          refine lv_aload_n hx hb dX11_told_46 rfl (lv_at hl 2 rfl) ?_
          refine lv_iload_n hx hb dX11_told_47 rfl (lv_at hl 3 rfl) ?_
          obtain ⟨q9, hq9, h⟩ := gb_s h
          refine fw_viR (As := [.int x3]) (rest := []) ⟨hx, hb, hml, hown, hts⟩ (k_X11_childrenOf l D cA ad tw hG z x3 q9 hq9) (cwV 1 hts gX11_told_X11_childrenOf rfl rfl rfl hdV_X11_childrenOf ⟨Nat.le_of_ble_eq_true rfl, Nat.le_of_ble_eq_true rfl⟩) (fw_preV gF11.1.1 gF11.1.2 rfl rfl hK hZ hP hS) rfl hl _ rfl (Nat.le_of_ble_eq_true rfl) hS dX11_told_48 ⟨Nat.zero_le _, Nat.zero_le _⟩ (fun H locs hP hS => ?_)
          refine lv_istore (lv' := [(5, .int q9), (1, .long y8), (4, .int q4), (0, .ref (ad 0)), (3, .int x3)]) hx hb dX11_told_51 hl (by decide) rfl (fun ls hl => ?_)
          exact j53 z x3 q4 _ hK15 gF y8 q9 _ _ ls h hP hS (lv_sub hl [3, 1, 4, 2, 0] rfl)
  unfold f_X11_told at h
  refine lv_aload_n hx hb dX11_told_0 rfl (lv_at hl 0 rfl) ?_
  obtain ⟨q1, hq1, h⟩ := gb_s h
  refine fw_vi (As := []) (rest := []) ⟨hx, hb, hml, hown, hts⟩ (k_X11_tellsKnots l D cA ad tw hG z  q1 hq1) (cwV 0 hts gX11_told_X11_tellsKnots rfl rfl rfl hdV_X11_tellsKnots ⟨Nat.le_of_ble_eq_true rfl, Nat.le_of_ble_eq_true rfl⟩) (fw_preV gF11.1.1 gF11.1.2 rfl rfl hK hZ hP hS) rfl hl _ rfl (Nat.le_of_ble_eq_true rfl) hS dX11_told_1 ⟨Nat.zero_le _, Nat.zero_le _⟩ (fun H locs hP hS => ?_)
  refine lv_if_ne (tgt := 11) hx hb dX11_told_4 (by decide) (fun c2 => ?_) (fun c2 => ?_)
  · replace h := gif_f h c2
    refine lv_lconst (v := 1) hx hb dX11_told_11 (by decide) ?_
    refine lv_lstore_n (lv' := [(1, .long 1), (0, .ref (ad 0))]) hx hb dX11_told_12 rfl hl (by decide) rfl (fun ls hl => ?_)
    refine lv_iconst (v := (nI 0)) hx hb dX11_told_13 (by decide) ?_
    refine lv_istore_n (lv' := [(3, .int (nI 0)), (1, .long 1), (0, .ref (ad 0))]) hx hb dX11_told_14 rfl hl (by decide) rfl (fun ls hl => ?_)
    exact j15 q1.2  gF 1 (nI 0) _ _ ls h hP hS (lv_sub hl [2, 1, 0] rfl)
  · replace h := gif_t h c2
    refine lv_ldc2 (v := (-9223372036854775808)) hx hb hown (hts _ (List.mem_of_getElem? (i := 1) rfl)) dX11_told_7 ?_
    exact fw_lret hx hb hr hlocks (Option.some.inj h) hK hZ hP hS dX11_told_10
theorem hdV_X11_isGaplessBy : yX11_isGaplessBy.cls = RX11 ∧ yX11_isGaplessBy.cls ≠ "java/lang/invoke/MethodHandle" ∧ yX11_isGaplessBy.cls ≠ "java/lang/invoke/VarHandle" ∧ (parseMethodDescriptor yX11_isGaplessBy.desc).map (fun d => d.parameters.length) = some 2 := by decide +kernel
set_option maxHeartbeats 4000000 in
set_option maxRecDepth 100000 in
theorem k_X11_isGaplessBy (l : Launch) (D : va_G) (cA : Nat → ClassId) (ad : Nat → Nat) (tw : Nat) (hG : gOk ad 22) (z : gS) (a1 : Int32) (a2 : Int32) (res : Int32 × gS) (h : f_X11_isGaplessBy a1 a2 z = some res) : gMi l yX11_isGaplessBy wsX11_isGaplessBy (gRm 3 68) D cA ad tw shM 22 [.ref (ad 0), .int a1, .int a2] z res := by
  refine Met.ofW (cc := cX11_isGaplessBy) (maxL := 4) (ret := (some .boolean)) (by decide) rfl ?_
  intro p e s m args below meth c s₁ B hml hv
  obtain ⟨rfl, hP, hK, hZ⟩ := hv
  have hx := B.exec
  have hb := B.bytes
  have hr := B.returns
  have hts := atoms_spec (ws := wsX11_isGaplessBy) B.pre
  have hown : s.vm.findClass RX11 = some m.cls := findClass_of_methodNamed B.named
  have hlocks := B.notSynchronized
  have hS : va_S (gA ad 22) s.heap s.heap [] := va_S.rf
  have hl := lv_entry ([.ref (ad 0), .int a1, .int a2]) (n := 4) (Nat.le_of_ble_eq_true rfl)
  rw [lg_entry_eq]
  generalize (lg_sl ([.ref (ad 0), .int a1, .int a2]) ++ List.replicate (4 - (lg_sl ([.ref (ad 0), .int a1, .int a2])).length) Slot.unset).toArray = ls at hl ⊢
  have hl : lv_has ls 4 [(0, .ref (ad 0)), (1, .int a1), (2, .int a2)] := hl
  have j8 : ∀  (n : Nat) (x3 : Int32) (z : gS) (H : Heap) (locs : List Loc) (ls : Array Slot), f_X11_isGaplessBy_8  n x3 z = some res → va_P D vwCl (gw cA ad shM 22 z) H → va_S (gA ad 22) s.heap H locs → lv_has ls 4 [(0, .ref (ad 0)), (3, .int x3)] → W p l e (headSpec wsX11_isGaplessBy (gRm 3 68)).room s m ([.ref (ad 0), .int a1, .int a2] : List Value).toArray below meth c H locs 0 0 (MQ below (va_Qi (fun r u => (r, u) = res) (gPr D cA ad tw shM 22) (gA ad 22)) ([.ref (ad 0), .int a1, .int a2] : List Value).toArray s 0 0 (gA ad 22)) (F0 m 8 ls []) := by
    intro n
    induction n with
    | zero => intro x3 z H locs ls h; exact (gno h).elim
    | succ n hK8 =>
      intro x3 z H locs ls h hP hS hl
      replace h : f_X11_isGaplessBy_8_b  (f_X11_isGaplessBy_8  n) x3 z = some res := h
      unfold f_X11_isGaplessBy_8_b at h
      refine lv_iload_n hx hb dX11_isGaplessBy_8 rfl (lv_at hl 1 rfl) ?_
      refine lv_if_eq (tgt := 29) hx hb dX11_isGaplessBy_9 (by decide) (fun c2 => ?_) (fun c2 => ?_)
      · replace h := gif_t h c2
        refine lv_iconst (v := (nI 0)) hx hb dX11_isGaplessBy_29 (by decide) ?_
        exact fw_iretz hx hb hr hlocks (by decide) (Option.some.inj h) hK hZ hP hS dX11_isGaplessBy_30
      · replace h := gif_f h c2
        refine lv_aload_n hx hb dX11_isGaplessBy_12 rfl (lv_at hl 0 rfl) ?_
        obtain ⟨q3, hq3, h⟩ := gb_s h
        refine fw_viR (As := []) (rest := []) ⟨hx, hb, hml, hown, hts⟩ (k_X11_gapsNow l D cA ad tw hG z  q3 hq3) (cwV 0 hts gX11_isGaplessBy_X11_gapsNow rfl rfl rfl hdV_X11_gapsNow ⟨Nat.le_of_ble_eq_true rfl, Nat.le_of_ble_eq_true rfl⟩) (fw_preV gF11.1.1 gF11.1.2 rfl rfl hK hZ hP hS) rfl hl _ rfl (Nat.le_of_ble_eq_true rfl) hS dX11_isGaplessBy_13 ⟨Nat.zero_le _, Nat.zero_le _⟩ (fun H locs hP hS => ?_)
        refine lv_if_ne (tgt := 21) hx hb dX11_isGaplessBy_16 (by decide) (fun c4 => ?_) (fun c4 => ?_)
        · replace h := gif_f h c4
          refine lv_aload_n hx hb dX11_isGaplessBy_21 rfl (lv_at hl 0 rfl) ?_
          obtain ⟨q5, hq5, h⟩ := gb_s h
          refine fw_vi (As := []) (rest := []) ⟨hx, hb, hml, hown, hts⟩ (k_X11_goesOn l D cA ad tw hG z  q5 hq5) (cwV 0 hts gX11_isGaplessBy_X11_goesOn rfl rfl rfl hdV_X11_goesOn ⟨Nat.le_of_ble_eq_true rfl, Nat.le_of_ble_eq_true rfl⟩) (fw_preV gF11.1.1 gF11.1.2 rfl rfl hK hZ hP hS) rfl hl _ rfl (Nat.le_of_ble_eq_true rfl) hS dX11_isGaplessBy_22 ⟨Nat.zero_le _, Nat.zero_le _⟩ (fun H locs hP hS => ?_)
          refine lv_istore_n (lv' := [(3, .int q5.1), (0, .ref (ad 0))]) hx hb dX11_isGaplessBy_25 rfl hl (by decide) rfl (fun ls hl => ?_)
          refine lv_goto (tgt := 8) hx hb dX11_isGaplessBy_26 (by decide) ?_
          exact hK8 q5.1 q5.2 _ _ ls h hP hS (lv_sub hl [1, 0] rfl)
        · replace h := gif_t h c4
          refine lv_iconst (v := (nI 1)) hx hb dX11_isGaplessBy_19 (by decide) ?_
          exact fw_iretz hx hb hr hlocks (by decide) (Option.some.inj h) hK hZ hP hS dX11_isGaplessBy_20
  unfold f_X11_isGaplessBy at h
  refine lv_aload_n hx hb dX11_isGaplessBy_0 rfl (lv_at hl 0 rfl) ?_
  refine lv_iload_n hx hb dX11_isGaplessBy_1 rfl (lv_at hl 1 rfl) ?_
  refine lv_iload_n hx hb dX11_isGaplessBy_2 rfl (lv_at hl 2 rfl) ?_
  obtain ⟨q1, hq1, h⟩ := gb_s h
  refine fw_vv (As := [.int a1, .int a2]) (rest := []) ⟨hx, hb, hml, hown, hts⟩ (k_X11_begins l D cA ad tw hG z a1 a2 q1 hq1) (cwV 2 hts gX11_isGaplessBy_X11_begins rfl rfl rfl hdV_X11_begins ⟨Nat.le_of_ble_eq_true rfl, Nat.le_of_ble_eq_true rfl⟩) (fw_preV gF11.1.1 gF11.1.2 rfl rfl hK hZ hP hS) rfl hl _ rfl (Nat.le_of_ble_eq_true rfl) hS dX11_isGaplessBy_3 ⟨Nat.zero_le _, Nat.zero_le _⟩ (fun H locs hP hS => ?_)
  refine lv_iconst (v := (nI 1)) hx hb dX11_isGaplessBy_6 (by decide) ?_
  refine lv_istore_n (lv' := [(3, .int (nI 1)), (0, .ref (ad 0)), (1, .int a1), (2, .int a2)]) hx hb dX11_isGaplessBy_7 rfl hl (by decide) rfl (fun ls hl => ?_)
  exact j8  gF (nI 1) q1 _ _ ls h hP hS (lv_sub hl [1, 0] rfl)
theorem in_X11_spoilers_X11 : ∀ w ∈ wsX110, w ∈ wsX11_spoilers := fun w h => List.mem_cons_of_mem _ (List.mem_append_right _ (h))
theorem hdV_X11_spoilers : yX11_spoilers.cls = RX11 ∧ yX11_spoilers.cls ≠ "java/lang/invoke/MethodHandle" ∧ yX11_spoilers.cls ≠ "java/lang/invoke/VarHandle" ∧ (parseMethodDescriptor yX11_spoilers.desc).map (fun d => d.parameters.length) = some 1 := by decide +kernel
set_option maxHeartbeats 4000000 in
set_option maxRecDepth 100000 in
theorem k_X11_spoilers (l : Launch) (D : va_G) (cA : Nat → ClassId) (ad : Nat → Nat) (tw : Nat) (hG : gOk ad 22) (z : gS) (a1 : Int32) (res : Int32 × gS) (h : f_X11_spoilers a1 z = some res) : gMi l yX11_spoilers wsX11_spoilers (gRm 4 91) D cA ad tw shM 22 [.ref (ad 0), .int a1] z res := by
  refine Met.ofW (cc := cX11_spoilers) (maxL := 5) (ret := (some .int)) (by decide) rfl ?_
  intro p e s m args below meth c s₁ B hml hv
  obtain ⟨rfl, hP, hK, hZ⟩ := hv
  have hx := B.exec
  have hb := B.bytes
  have hr := B.returns
  have hts := atoms_spec (ws := wsX11_spoilers) B.pre
  have hown : s.vm.findClass RX11 = some m.cls := findClass_of_methodNamed B.named
  have hlocks := B.notSynchronized
  have hS : va_S (gA ad 22) s.heap s.heap [] := va_S.rf
  have hl := lv_entry ([.ref (ad 0), .int a1]) (n := 5) (Nat.le_of_ble_eq_true rfl)
  rw [lg_entry_eq]
  generalize (lg_sl ([.ref (ad 0), .int a1]) ++ List.replicate (5 - (lg_sl ([.ref (ad 0), .int a1])).length) Slot.unset).toArray = ls at hl ⊢
  have hl : lv_has ls 5 [(0, .ref (ad 0)), (1, .int a1)] := hl
  have j21 : ∀ (x1 : Int32) (x2 : Int32) (x3 : Int32) (K4 : Int32 → Int32 → gS → Option (Int32 × gS)) (hK4 : ∀ (x2' : Int32) (x3' : Int32) (z' : gS) (H : Heap) (locs : List Loc) (ls : Array Slot), K4 x2' x3' z' = some res → va_P D vwCl (gw cA ad shM 22 z') H → va_S (gA ad 22) s.heap H locs → lv_has ls 5 [(0, .ref (ad 0)), (1, .int x1), (2, .int x2'), (3, .int x3')] → W p l e (headSpec wsX11_spoilers (gRm 4 91)).room s m ([.ref (ad 0), .int a1] : List Value).toArray below meth c H locs 0 0 (MQ below (va_Qi (fun r u => (r, u) = res) (gPr D cA ad tw shM 22) (gA ad 22)) ([.ref (ad 0), .int a1] : List Value).toArray s 0 0 (gA ad 22)) (F0 m 4 ls [])) (s0 : Int32) (s1 : Int32) (z : gS) (H : Heap) (locs : List Loc) (ls : Array Slot), f_X11_spoilers_21 x1 x2 x3 K4 s0 s1 z = some res → va_P D vwCl (gw cA ad shM 22 z) H → va_S (gA ad 22) s.heap H locs → lv_has ls 5 [(0, .ref (ad 0)), (1, .int x1), (2, .int x2), (3, .int x3)] → W p l e (headSpec wsX11_spoilers (gRm 4 91)).room s m ([.ref (ad 0), .int a1] : List Value).toArray below meth c H locs 0 0 (MQ below (va_Qi (fun r u => (r, u) = res) (gPr D cA ad tw shM 22) (gA ad 22)) ([.ref (ad 0), .int a1] : List Value).toArray s 0 0 (gA ad 22)) (F0 m 21 ls [.int s1, .int s0]) := by
    intro x1 x2 x3 K4 hK4 s0 s1 z H locs ls h hP hS hl
    unfold f_X11_spoilers_21 at h
    refine lv_icmp_ge (tgt := 87) hx hb dX11_spoilers_21 (by decide) (fun c2 => ?_) (fun c2 => ?_)
    · replace h := gif_t h c2
      refine lv_iload_n hx hb dX11_spoilers_87 rfl (lv_at hl 2 rfl) ?_
      exact fw_ireti hx hb hr hlocks (Option.some.inj h) hK hZ hP hS dX11_spoilers_88
    · replace h := gif_f h c2
      refine lv_iload_n hx hb dX11_spoilers_24 rfl (lv_at hl 1 rfl) ?_
      refine lv_iconst (v := (nI 1)) hx hb dX11_spoilers_25 (by decide) ?_
      refine lv_icmp_ne (tgt := 51) hx hb dX11_spoilers_26 (by decide) (fun c3 => ?_) (fun c3 => ?_)
      · replace h := gif_f h c3
        refine lv_aload_n hx hb dX11_spoilers_51 rfl (lv_at hl 0 rfl) ?_
        refine lv_iload_n hx hb dX11_spoilers_52 rfl (lv_at hl 3 rfl) ?_
        refine lv_iconst (v := (nI 1)) hx hb dX11_spoilers_53 (by decide) ?_
        refine lv_aload_n hx hb dX11_spoilers_54 rfl (lv_at hl 0 rfl) ?_
        refine fw_geti hx hb hts in_X11_spoilers_X11 hown hK hP gF11.1.1 gF11.1.2 rfl 2 (by decide) rfl (hts _ (List.mem_of_getElem? (i := 1) rfl)) rfl dX11_spoilers_55 ?_
        refine lv_ishl hx hb dX11_spoilers_58 ?_
        refine lv_iconst (v := (nI 1)) hx hb dX11_spoilers_59 (by decide) ?_
        refine lv_isub hx hb dX11_spoilers_60 ?_
        obtain ⟨q4, hq4, h⟩ := gb_s h
        refine fw_vi (As := [.int x3, .int (((nI 1) <<< ((z 0 2) &&& 31)) - (nI 1))]) (rest := []) ⟨hx, hb, hml, hown, hts⟩ (k_X11_isGaplessBy l D cA ad tw hG z x3 (((nI 1) <<< ((z 0 2) &&& 31)) - (nI 1)) q4 hq4) (cwV 2 hts gX11_spoilers_X11_isGaplessBy rfl rfl rfl hdV_X11_isGaplessBy ⟨Nat.le_of_ble_eq_true rfl, Nat.le_of_ble_eq_true rfl⟩) (fw_preV gF11.1.1 gF11.1.2 rfl rfl hK hZ hP hS) rfl hl _ rfl (Nat.le_of_ble_eq_true rfl) hS dX11_spoilers_61 ⟨Nat.zero_le _, Nat.zero_le _⟩ (fun H locs hP hS => ?_)
        refine lv_istore (lv' := [(4, .int q4.1), (0, .ref (ad 0)), (1, .int x1), (2, .int x2), (3, .int x3)]) hx hb dX11_spoilers_64 hl (by decide) rfl (fun ls hl => ?_)
        refine lv_iload_n hx hb dX11_spoilers_66 rfl (lv_at hl 3 rfl) ?_
        refine lv_iload hx hb dX11_spoilers_67 (lv_at hl 0 rfl) ?_
        refine lv_if_eq (tgt := 78) hx hb dX11_spoilers_69 (by decide) (fun c5 => ?_) (fun c5 => ?_)
        · replace h := gif_t h c5
          refine lv_iconst (v := (nI 0)) hx hb dX11_spoilers_78 (by decide) ?_
          refine lv_ior hx hb dX11_spoilers_79 ?_
          refine lv_topi (fun y6 ey6 => ?_)
          replace h := gl_s h ey6
          refine lv_istore_n (lv' := [(2, .int y6), (4, .int q4.1), (0, .ref (ad 0)), (1, .int x1), (3, .int x3)]) hx hb dX11_spoilers_80 rfl hl (by decide) rfl (fun ls hl => ?_)
          refine lv_iinc (v := x3 + (nI 1)) (lv' := [(3, .int (x3 + (nI 1))), (2, .int y6), (4, .int q4.1), (0, .ref (ad 0)), (1, .int x1)]) hx hb dX11_spoilers_81 hl (k := 4) rfl rfl (by decide) rfl (fun ls hl => ?_)
          refine lv_goto (tgt := 4) hx hb dX11_spoilers_84 (by decide) ?_
          exact hK4 y6 (x3 + (nI 1)) q4.2 _ _ ls h hP hS (lv_sub hl [3, 4, 1, 0] rfl)
        · replace h := gif_f h c5
          refine lv_iconst (v := (nI 1)) hx hb dX11_spoilers_72 (by decide) ?_
          refine lv_iload_n hx hb dX11_spoilers_73 rfl (lv_at hl 4 rfl) ?_
          refine lv_ishl hx hb dX11_spoilers_74 ?_
          refine lv_goto (tgt := 79) hx hb dX11_spoilers_75 (by decide) ?_
          refine lv_ior hx hb dX11_spoilers_79 ?_
          refine lv_topi (fun y7 ey7 => ?_)
          replace h := gl_s h ey7
          refine lv_istore_n (lv' := [(2, .int y7), (4, .int q4.1), (0, .ref (ad 0)), (1, .int x1), (3, .int x3)]) hx hb dX11_spoilers_80 rfl hl (by decide) rfl (fun ls hl => ?_)
          refine lv_iinc (v := x3 + (nI 1)) (lv' := [(3, .int (x3 + (nI 1))), (2, .int y7), (4, .int q4.1), (0, .ref (ad 0)), (1, .int x1)]) hx hb dX11_spoilers_81 hl (k := 4) rfl rfl (by decide) rfl (fun ls hl => ?_)
          refine lv_goto (tgt := 4) hx hb dX11_spoilers_84 (by decide) ?_
          exact hK4 y7 (x3 + (nI 1)) q4.2 _ _ ls h hP hS (lv_sub hl [3, 4, 1, 0] rfl)
      · replace h := gif_t h c3
        refine lv_aload_n hx hb dX11_spoilers_29 rfl (lv_at hl 0 rfl) ?_
        refine lv_iconst (v := gm1) hx hb dX11_spoilers_30 (by decide) ?_
        refine lv_iconst (v := (nI 1)) hx hb dX11_spoilers_31 (by decide) ?_
        refine lv_aload_n hx hb dX11_spoilers_32 rfl (lv_at hl 0 rfl) ?_
        refine fw_geti hx hb hts in_X11_spoilers_X11 hown hK hP gF11.1.1 gF11.1.2 rfl 2 (by decide) rfl (hts _ (List.mem_of_getElem? (i := 1) rfl)) rfl dX11_spoilers_33 ?_
        refine lv_ishl hx hb dX11_spoilers_36 ?_
        refine lv_iconst (v := (nI 1)) hx hb dX11_spoilers_37 (by decide) ?_
        refine lv_isub hx hb dX11_spoilers_38 ?_
        refine lv_iconst (v := (nI 1)) hx hb dX11_spoilers_39 (by decide) ?_
        refine lv_iload_n hx hb dX11_spoilers_40 rfl (lv_at hl 3 rfl) ?_
        refine lv_ishl hx hb dX11_spoilers_41 ?_
        refine lv_iconst (v := gm1) hx hb dX11_spoilers_42 (by decide) ?_
        refine lv_ixor hx hb dX11_spoilers_43 ?_
        refine lv_iand hx hb dX11_spoilers_44 ?_
        obtain ⟨q8, hq8, h⟩ := gb_s h
        refine fw_vi (As := [.int gm1, .int ((((nI 1) <<< ((z 0 2) &&& 31)) - (nI 1)) &&& (((nI 1) <<< (x3 &&& 31)) ^^^ gm1))]) (rest := []) ⟨hx, hb, hml, hown, hts⟩ (k_X11_isGaplessBy l D cA ad tw hG z gm1 ((((nI 1) <<< ((z 0 2) &&& 31)) - (nI 1)) &&& (((nI 1) <<< (x3 &&& 31)) ^^^ gm1)) q8 hq8) (cwV 2 hts gX11_spoilers_X11_isGaplessBy rfl rfl rfl hdV_X11_isGaplessBy ⟨Nat.le_of_ble_eq_true rfl, Nat.le_of_ble_eq_true rfl⟩) (fw_preV gF11.1.1 gF11.1.2 rfl rfl hK hZ hP hS) rfl hl _ rfl (Nat.le_of_ble_eq_true rfl) hS dX11_spoilers_45 ⟨Nat.zero_le _, Nat.zero_le _⟩ (fun H locs hP hS => ?_)
        refine lv_goto (tgt := 64) hx hb dX11_spoilers_48 (by decide) ?_
        refine lv_istore (lv' := [(4, .int q8.1), (0, .ref (ad 0)), (1, .int x1), (2, .int x2), (3, .int x3)]) hx hb dX11_spoilers_64 hl (by decide) rfl (fun ls hl => ?_)
        refine lv_iload_n hx hb dX11_spoilers_66 rfl (lv_at hl 3 rfl) ?_
        refine lv_iload hx hb dX11_spoilers_67 (lv_at hl 0 rfl) ?_
        refine lv_if_eq (tgt := 78) hx hb dX11_spoilers_69 (by decide) (fun c9 => ?_) (fun c9 => ?_)
        · replace h := gif_t h c9
          refine lv_iconst (v := (nI 0)) hx hb dX11_spoilers_78 (by decide) ?_
          refine lv_ior hx hb dX11_spoilers_79 ?_
          refine lv_topi (fun y10 ey10 => ?_)
          replace h := gl_s h ey10
          refine lv_istore_n (lv' := [(2, .int y10), (4, .int q8.1), (0, .ref (ad 0)), (1, .int x1), (3, .int x3)]) hx hb dX11_spoilers_80 rfl hl (by decide) rfl (fun ls hl => ?_)
          refine lv_iinc (v := x3 + (nI 1)) (lv' := [(3, .int (x3 + (nI 1))), (2, .int y10), (4, .int q8.1), (0, .ref (ad 0)), (1, .int x1)]) hx hb dX11_spoilers_81 hl (k := 4) rfl rfl (by decide) rfl (fun ls hl => ?_)
          refine lv_goto (tgt := 4) hx hb dX11_spoilers_84 (by decide) ?_
          exact hK4 y10 (x3 + (nI 1)) q8.2 _ _ ls h hP hS (lv_sub hl [3, 4, 1, 0] rfl)
        · replace h := gif_f h c9
          refine lv_iconst (v := (nI 1)) hx hb dX11_spoilers_72 (by decide) ?_
          refine lv_iload_n hx hb dX11_spoilers_73 rfl (lv_at hl 4 rfl) ?_
          refine lv_ishl hx hb dX11_spoilers_74 ?_
          refine lv_goto (tgt := 79) hx hb dX11_spoilers_75 (by decide) ?_
          refine lv_ior hx hb dX11_spoilers_79 ?_
          refine lv_topi (fun y11 ey11 => ?_)
          replace h := gl_s h ey11
          refine lv_istore_n (lv' := [(2, .int y11), (4, .int q8.1), (0, .ref (ad 0)), (1, .int x1), (3, .int x3)]) hx hb dX11_spoilers_80 rfl hl (by decide) rfl (fun ls hl => ?_)
          refine lv_iinc (v := x3 + (nI 1)) (lv' := [(3, .int (x3 + (nI 1))), (2, .int y11), (4, .int q8.1), (0, .ref (ad 0)), (1, .int x1)]) hx hb dX11_spoilers_81 hl (k := 4) rfl rfl (by decide) rfl (fun ls hl => ?_)
          refine lv_goto (tgt := 4) hx hb dX11_spoilers_84 (by decide) ?_
          exact hK4 y11 (x3 + (nI 1)) q8.2 _ _ ls h hP hS (lv_sub hl [3, 4, 1, 0] rfl)
  have j4 : ∀ (x1 : Int32) (n : Nat) (x2 : Int32) (x3 : Int32) (z : gS) (H : Heap) (locs : List Loc) (ls : Array Slot), f_X11_spoilers_4 x1 n x2 x3 z = some res → va_P D vwCl (gw cA ad shM 22 z) H → va_S (gA ad 22) s.heap H locs → lv_has ls 5 [(0, .ref (ad 0)), (1, .int x1), (2, .int x2), (3, .int x3)] → W p l e (headSpec wsX11_spoilers (gRm 4 91)).room s m ([.ref (ad 0), .int a1] : List Value).toArray below meth c H locs 0 0 (MQ below (va_Qi (fun r u => (r, u) = res) (gPr D cA ad tw shM 22) (gA ad 22)) ([.ref (ad 0), .int a1] : List Value).toArray s 0 0 (gA ad 22)) (F0 m 4 ls []) := by
    intro x1 n
    induction n with
    | zero => intro x2 x3 z H locs ls h; exact (gno h).elim
    | succ n hK4 =>
      intro x2 x3 z H locs ls h hP hS hl
      replace h : f_X11_spoilers_4_b x1 (f_X11_spoilers_4 x1 n) x2 x3 z = some res := h
      unfold f_X11_spoilers_4_b at h
      refine lv_iload_n hx hb dX11_spoilers_4 rfl (lv_at hl 3 rfl) ?_
      refine lv_iload_n hx hb dX11_spoilers_5 rfl (lv_at hl 1 rfl) ?_
      refine lv_iconst (v := (nI 1)) hx hb dX11_spoilers_6 (by decide) ?_
      refine lv_icmp_ne (tgt := 17) hx hb dX11_spoilers_7 (by decide) (fun c1 => ?_) (fun c1 => ?_)
      · replace h := gif_f h c1
        refine lv_aload_n hx hb dX11_spoilers_17 rfl (lv_at hl 0 rfl) ?_
        refine fw_geti hx hb hts in_X11_spoilers_X11 hown hK hP gF11.1.1 gF11.1.2 rfl 1 (by decide) rfl (hts _ (List.mem_of_getElem? (i := 2) rfl)) rfl dX11_spoilers_18 ?_
        exact j21 x1 x2 x3 _ hK4 x3 (z 0 1) z _ _ ls h hP hS (lv_sub hl [0, 1, 2, 3] rfl)
      · replace h := gif_t h c1
        refine lv_aload_n hx hb dX11_spoilers_10 rfl (lv_at hl 0 rfl) ?_
        refine fw_geti hx hb hts in_X11_spoilers_X11 hown hK hP gF11.1.1 gF11.1.2 rfl 2 (by decide) rfl (hts _ (List.mem_of_getElem? (i := 1) rfl)) rfl dX11_spoilers_11 ?_
        refine lv_goto (tgt := 21) hx hb dX11_spoilers_14 (by decide) ?_
        exact j21 x1 x2 x3 _ hK4 x3 (z 0 2) z _ _ ls h hP hS (lv_sub hl [0, 1, 2, 3] rfl)
  unfold f_X11_spoilers at h
  refine lv_iconst (v := (nI 0)) hx hb dX11_spoilers_0 (by decide) ?_
  refine lv_istore_n (lv' := [(2, .int (nI 0)), (0, .ref (ad 0)), (1, .int a1)]) hx hb dX11_spoilers_1 rfl hl (by decide) rfl (fun ls hl => ?_)
  refine lv_iconst (v := (nI 0)) hx hb dX11_spoilers_2 (by decide) ?_
  refine lv_istore_n (lv' := [(3, .int (nI 0)), (2, .int (nI 0)), (0, .ref (ad 0)), (1, .int a1)]) hx hb dX11_spoilers_3 rfl hl (by decide) rfl (fun ls hl => ?_)
  exact j4 a1 gF (nI 0) (nI 0) z _ _ ls h hP hS (lv_sub hl [2, 3, 1, 0] rfl)
theorem hdS_X11_least : yX11_least.cls ≠ "java/lang/invoke/MethodHandle" ∧ yX11_least.cls ≠ "java/lang/invoke/VarHandle" ∧ (parseMethodDescriptor yX11_least.desc).map (fun d => d.parameters.length) = some 1 := by decide +kernel
set_option maxHeartbeats 4000000 in
set_option maxRecDepth 100000 in
theorem k_X11_least (l : Launch) (D : va_G) (cA : Nat → ClassId) (ad : Nat → Nat) (tw : Nat) (hG : gOk ad 22) (z : gS) (a0 : Int32) (res : Int32) (h : f_X11_least a0 z = some res) : gMi l yX11_least wsX11_least (gRm 1 21) D cA ad tw shM 22 [.int a0] z (res, z) := by
  refine Met.ofW (cc := cX11_least) (maxL := 2) (ret := (some .int)) (by decide) rfl ?_
  intro p e s m args below meth c s₁ B hml hv
  obtain ⟨rfl, hP, hK, hZ⟩ := hv
  have hx := B.exec
  have hb := B.bytes
  have hr := B.returns
  have hts := atoms_spec (ws := wsX11_least) B.pre
  have hown : s.vm.findClass RX11 = some m.cls := findClass_of_methodNamed B.named
  have hlocks := B.notSynchronized
  have hS : va_S (gA ad 22) s.heap s.heap [] := va_S.rf
  have hl := lv_entry ([.int a0]) (n := 2) (Nat.le_of_ble_eq_true rfl)
  rw [lg_entry_eq]
  generalize (lg_sl ([.int a0]) ++ List.replicate (2 - (lg_sl ([.int a0])).length) Slot.unset).toArray = ls at hl ⊢
  have hl : lv_has ls 2 [(0, .int a0)] := hl
  have j2 : ∀ (x0 : Int32) (n : Nat) (x1 : Int32) (H : Heap) (locs : List Loc) (ls : Array Slot), f_X11_least_2 z x0 n x1 = some res → va_P D vwCl (gw cA ad shM 22 z) H → va_S (gA ad 22) s.heap H locs → lv_has ls 2 [(0, .int x0), (1, .int x1)] → W p l e (headSpec wsX11_least (gRm 1 21)).room s m ([.int a0] : List Value).toArray below meth c H locs 0 0 (MQ below (va_Qi (fun r u => (r, u) = (res, z)) (gPr D cA ad tw shM 22) (gA ad 22)) ([.int a0] : List Value).toArray s 0 0 (gA ad 22)) (F0 m 2 ls []) := by
    intro x0 n
    induction n with
    | zero => intro x1 H locs ls h; exact (gno h).elim
    | succ n hK2 =>
      intro x1 H locs ls h hP hS hl
      replace h : f_X11_least_2_b z x0 (f_X11_least_2 z x0 n) x1 = some res := h
      unfold f_X11_least_2_b at h
      refine lv_iload_n hx hb dX11_least_2 rfl (lv_at hl 0 rfl) ?_
      refine lv_if_eq (tgt := 20) hx hb dX11_least_3 (by decide) (fun c1 => ?_) (fun c1 => ?_)
      · replace h := gif_t h c1
        refine lv_iload_n hx hb dX11_least_20 rfl (lv_at hl 0 rfl) ?_
        refine lv_if_ne (tgt := 29) hx hb dX11_least_21 (by decide) (fun c2 => ?_) (fun c2 => ?_)
        · replace h := gif_f h c2
          refine lv_iload_n hx hb dX11_least_29 rfl (lv_at hl 1 rfl) ?_
          exact fw_ireti hx hb hr hlocks (congrArg (fun q => (q, z)) (Option.some.inj h)) hK hZ hP hS dX11_least_30
        · replace h := gif_t h c2
          refine lv_bipush (v := (-5)) hx hb dX11_least_24 (by decide) ?_
          refine lv_goto (tgt := 30) hx hb dX11_least_26 (by decide) ?_
          exact fw_ireti hx hb hr hlocks (congrArg (fun q => (q, z)) (Option.some.inj h)) hK hZ hP hS dX11_least_30
      · replace h := gif_f h c1
        refine lv_iload_n hx hb dX11_least_6 rfl (lv_at hl 0 rfl) ?_
        refine lv_iload_n hx hb dX11_least_7 rfl (lv_at hl 1 rfl) ?_
        obtain ⟨q3, hq3, h⟩ := gb_s h
        refine fw_siR (As := [.int x0, .int x1]) (rest := []) ⟨hx, hb, hml, hown, hts⟩ (k_X11_has l D cA ad tw hG z x0 x1 q3 hq3) (va_cwS 2 hts gX11_least_X11_has rfl rfl rfl hdS_X11_has ⟨Nat.le_of_ble_eq_true rfl, Nat.le_of_ble_eq_true rfl⟩) hK hZ hP rfl hl _ rfl (Nat.le_of_ble_eq_true rfl) hS dX11_least_8 ⟨Nat.zero_le _, Nat.zero_le _⟩ (fun H locs hP hS => ?_)
        refine lv_if_ne (tgt := 20) hx hb dX11_least_11 (by decide) (fun c4 => ?_) (fun c4 => ?_)
        · replace h := gif_f h c4
          refine lv_iload_n hx hb dX11_least_20 rfl (lv_at hl 0 rfl) ?_
          refine lv_if_ne (tgt := 29) hx hb dX11_least_21 (by decide) (fun c5 => ?_) (fun c5 => ?_)
          · replace h := gif_f h c5
            refine lv_iload_n hx hb dX11_least_29 rfl (lv_at hl 1 rfl) ?_
            exact fw_ireti hx hb hr hlocks (congrArg (fun q => (q, z)) (Option.some.inj h)) hK hZ hP hS dX11_least_30
          · replace h := gif_t h c5
            refine lv_bipush (v := (-5)) hx hb dX11_least_24 (by decide) ?_
            refine lv_goto (tgt := 30) hx hb dX11_least_26 (by decide) ?_
            exact fw_ireti hx hb hr hlocks (congrArg (fun q => (q, z)) (Option.some.inj h)) hK hZ hP hS dX11_least_30
        · replace h := gif_t h c4
          refine lv_iinc (v := x1 + (nI 1)) (lv' := [(1, .int (x1 + (nI 1))), (0, .int x0)]) hx hb dX11_least_14 hl (k := 1) rfl rfl (by decide) rfl (fun ls hl => ?_)
          refine lv_goto (tgt := 2) hx hb dX11_least_17 (by decide) ?_
          exact hK2 (x1 + (nI 1)) _ _ ls h hP hS (lv_sub hl [1, 0] rfl)
  unfold f_X11_least at h
  refine lv_iconst (v := (nI 0)) hx hb dX11_least_0 (by decide) ?_
  refine lv_istore_n (lv' := [(1, .int (nI 0)), (0, .int a0)]) hx hb dX11_least_1 rfl hl (by decide) rfl (fun ls hl => ?_)
  exact j2 a0 gF (nI 0) _ _ ls h hP hS (lv_sub hl [1, 0] rfl)
