theorem in_X11_spoils_X11 : ∀ w ∈ wsX110, w ∈ wsX11_spoils := fun w h => List.mem_cons_of_mem _ (List.mem_append_right _ (h))
theorem hdV_X11_spoils : yX11_spoils.cls = RX11 ∧ yX11_spoils.cls ≠ "java/lang/invoke/MethodHandle" ∧ yX11_spoils.cls ≠ "java/lang/invoke/VarHandle" ∧ (parseMethodDescriptor yX11_spoils.desc).map (fun d => d.parameters.length) = some 1 := by decide +kernel
set_option maxHeartbeats 4000000 in
set_option maxRecDepth 100000 in
theorem k_X11_spoils (l : Launch) (D : va_G) (cA : Nat → ClassId) (ad : Nat → Nat) (tw : Nat) (hG : gOk ad 22) (z : gS) (a1 : Int32) (res : Int32 × gS) (h : f_X11_spoils a1 z = some res) : gMi l yX11_spoils wsX11_spoils (gRm 5 115) D cA ad tw shM 22 [.ref (ad 0), .int a1] z res := by
  refine Met.ofW (cc := cX11_spoils) (maxL := 3) (ret := (some .int)) (by decide) rfl ?_
  intro p e s m args below meth c s₁ B hml hv
  obtain ⟨rfl, hP, hK, hZ⟩ := hv
  have hx := B.exec
  have hb := B.bytes
  have hr := B.returns
  have hts := atoms_spec (ws := wsX11_spoils) B.pre
  have hown : s.vm.findClass RX11 = some m.cls := findClass_of_methodNamed B.named
  have hlocks := B.notSynchronized
  have hS : va_S (gA ad 22) s.heap s.heap [] := va_S.rf
  have hl := lv_entry ([.ref (ad 0), .int a1]) (n := 3) (Nat.le_of_ble_eq_true rfl)
  rw [lg_entry_eq]
  generalize (lg_sl ([.ref (ad 0), .int a1]) ++ List.replicate (3 - (lg_sl ([.ref (ad 0), .int a1])).length) Slot.unset).toArray = ls at hl ⊢
  have hl : lv_has ls 3 [(0, .ref (ad 0)), (1, .int a1)] := hl
  unfold f_X11_spoils at h
  refine lv_iload_n hx hb dX11_spoils_0 rfl (lv_at hl 1 rfl) ?_
  refine lv_iconst (v := (nI 0)) hx hb dX11_spoils_1 (by decide) ?_
  refine lv_iconst (v := (nI 2)) hx hb dX11_spoils_2 (by decide) ?_
  obtain ⟨q1, hq1, h⟩ := gb_s h
  refine fw_siR (As := [.int a1, .int (nI 0), .int (nI 2)]) (rest := []) ⟨hx, hb, hml, hown, hts⟩ (k_X11_in l D cA ad tw hG z a1 (nI 0) (nI 2) q1 hq1) (va_cwS 3 hts gX11_spoils_X11_in rfl rfl rfl hdS_X11_in ⟨Nat.le_of_ble_eq_true rfl, Nat.le_of_ble_eq_true rfl⟩) hK hZ hP rfl hl _ rfl (Nat.le_of_ble_eq_true rfl) hS dX11_spoils_3 ⟨Nat.zero_le _, Nat.zero_le _⟩ (fun H locs hP hS => ?_)
  refine lv_if_ne (tgt := 12) hx hb dX11_spoils_6 (by decide) (fun c2 => ?_) (fun c2 => ?_)
  · replace h := gif_f h c2
    refine lv_aload_n hx hb dX11_spoils_12 rfl (lv_at hl 0 rfl) ?_
    refine lv_iconst (v := gm1) hx hb dX11_spoils_13 (by decide) ?_
    refine lv_iconst (v := (nI 1)) hx hb dX11_spoils_14 (by decide) ?_
    refine lv_aload_n hx hb dX11_spoils_15 rfl (lv_at hl 0 rfl) ?_
    refine fw_geti hx hb hts in_X11_spoils_X11 hown hK hP gF11.1.1 gF11.1.2 rfl 2 (by decide) rfl (hts _ (List.mem_of_getElem? (i := 1) rfl)) rfl dX11_spoils_16 ?_
    refine lv_ishl hx hb dX11_spoils_19 ?_
    refine lv_iconst (v := (nI 1)) hx hb dX11_spoils_20 (by decide) ?_
    refine lv_isub hx hb dX11_spoils_21 ?_
    obtain ⟨q3, hq3, h⟩ := gb_s h
    refine fw_vi (As := [.int gm1, .int (((nI 1) <<< ((z 0 2) &&& 31)) - (nI 1))]) (rest := []) ⟨hx, hb, hml, hown, hts⟩ (k_X11_isGaplessBy l D cA ad tw hG z gm1 (((nI 1) <<< ((z 0 2) &&& 31)) - (nI 1)) q3 hq3) (cwV 2 hts gX11_spoils_X11_isGaplessBy rfl rfl rfl hdV_X11_isGaplessBy ⟨Nat.le_of_ble_eq_true rfl, Nat.le_of_ble_eq_true rfl⟩) (fw_preV gF11.1.1 gF11.1.2 rfl rfl hK hZ hP hS) rfl hl _ rfl (Nat.le_of_ble_eq_true rfl) hS dX11_spoils_22 ⟨Nat.zero_le _, Nat.zero_le _⟩ (fun H locs hP hS => ?_)
    refine lv_if_eq (tgt := 32) hx hb dX11_spoils_25 (by decide) (fun c4 => ?_) (fun c4 => ?_)
    · replace h := gif_t h c4
      refine lv_aload_n hx hb dX11_spoils_32 rfl (lv_at hl 0 rfl) ?_
      refine lv_iload_n hx hb dX11_spoils_33 rfl (lv_at hl 1 rfl) ?_
      obtain ⟨q5, hq5, h⟩ := gb_s h
      refine fw_vi (As := [.int a1]) (rest := []) ⟨hx, hb, hml, hown, hts⟩ (k_X11_spoilers l D cA ad tw hG q3.2 a1 q5 hq5) (cwV 1 hts gX11_spoils_X11_spoilers rfl rfl rfl hdV_X11_spoilers ⟨Nat.le_of_ble_eq_true rfl, Nat.le_of_ble_eq_true rfl⟩) (fw_preV gF11.1.1 gF11.1.2 rfl rfl hK hZ hP hS) rfl hl _ rfl (Nat.le_of_ble_eq_true rfl) hS dX11_spoils_34 ⟨Nat.zero_le _, Nat.zero_le _⟩ (fun H locs hP hS => ?_)
      refine lv_istore_n (lv' := [(2, .int q5.1), (0, .ref (ad 0)), (1, .int a1)]) hx hb dX11_spoils_37 rfl hl (by decide) rfl (fun ls hl => ?_)
      refine lv_iload_n hx hb dX11_spoils_38 rfl (lv_at hl 2 rfl) ?_
      refine lv_iconst (v := (nI 2)) hx hb dX11_spoils_39 (by decide) ?_
      refine lv_icmp_ne (tgt := 50) hx hb dX11_spoils_40 (by decide) (fun c6 => ?_) (fun c6 => ?_)
      · replace h := gif_f h c6
        refine lv_iload_n hx hb dX11_spoils_50 rfl (lv_at hl 0 rfl) ?_
        exact fw_ireti hx hb hr hlocks (Option.some.inj h) hK hZ hP hS dX11_spoils_51
      · replace h := gif_t h c6
        refine lv_iload_n hx hb dX11_spoils_43 rfl (lv_at hl 0 rfl) ?_
        obtain ⟨q7, hq7, h⟩ := gb_s h
        refine fw_siR (As := [.int q5.1]) (rest := []) ⟨hx, hb, hml, hown, hts⟩ (k_X11_least l D cA ad tw hG q5.2 q5.1 q7 hq7) (va_cwS 1 hts gX11_spoils_X11_least rfl rfl rfl hdS_X11_least ⟨Nat.le_of_ble_eq_true rfl, Nat.le_of_ble_eq_true rfl⟩) hK hZ hP rfl hl _ rfl (Nat.le_of_ble_eq_true rfl) hS dX11_spoils_44 ⟨Nat.zero_le _, Nat.zero_le _⟩ (fun H locs hP hS => ?_)
        refine lv_goto (tgt := 51) hx hb dX11_spoils_47 (by decide) ?_
        exact fw_ireti hx hb hr hlocks (Option.some.inj h) hK hZ hP hS dX11_spoils_51
    · replace h := gif_f h c4
      refine lv_iconst (v := (nI 0)) hx hb dX11_spoils_28 (by decide) ?_
      refine lv_goto (tgt := 37) hx hb dX11_spoils_29 (by decide) ?_
      refine lv_istore_n (lv' := [(2, .int (nI 0)), (0, .ref (ad 0)), (1, .int a1)]) hx hb dX11_spoils_37 rfl hl (by decide) rfl (fun ls hl => ?_)
      refine lv_iload_n hx hb dX11_spoils_38 rfl (lv_at hl 2 rfl) ?_
      refine lv_iconst (v := (nI 2)) hx hb dX11_spoils_39 (by decide) ?_
      refine lv_icmp_ne (tgt := 50) hx hb dX11_spoils_40 (by decide) (fun c8 => ?_) (fun c8 => ?_)
      · replace h := gif_f h c8
        refine lv_iload_n hx hb dX11_spoils_50 rfl (lv_at hl 0 rfl) ?_
        exact fw_ireti hx hb hr hlocks (Option.some.inj h) hK hZ hP hS dX11_spoils_51
      · replace h := gif_t h c8
        refine lv_iload_n hx hb dX11_spoils_43 rfl (lv_at hl 0 rfl) ?_
        obtain ⟨q9, hq9, h⟩ := gb_s h
        refine fw_siR (As := [.int (nI 0)]) (rest := []) ⟨hx, hb, hml, hown, hts⟩ (k_X11_least l D cA ad tw hG q3.2 (nI 0) q9 hq9) (va_cwS 1 hts gX11_spoils_X11_least rfl rfl rfl hdS_X11_least ⟨Nat.le_of_ble_eq_true rfl, Nat.le_of_ble_eq_true rfl⟩) hK hZ hP rfl hl _ rfl (Nat.le_of_ble_eq_true rfl) hS dX11_spoils_44 ⟨Nat.zero_le _, Nat.zero_le _⟩ (fun H locs hP hS => ?_)
        refine lv_goto (tgt := 51) hx hb dX11_spoils_47 (by decide) ?_
        exact fw_ireti hx hb hr hlocks (Option.some.inj h) hK hZ hP hS dX11_spoils_51
  · replace h := gif_t h c2
    refine lv_bipush (v := (-2)) hx hb dX11_spoils_9 (by decide) ?_
    exact fw_ireti hx hb hr hlocks (Option.some.inj h) hK hZ hP hS dX11_spoils_11
theorem hdV_X11_gaps : yX11_gaps.cls = RX11 ∧ yX11_gaps.cls ≠ "java/lang/invoke/MethodHandle" ∧ yX11_gaps.cls ≠ "java/lang/invoke/VarHandle" ∧ (parseMethodDescriptor yX11_gaps.desc).map (fun d => d.parameters.length) = some 1 := by decide +kernel
set_option maxHeartbeats 4000000 in
set_option maxRecDepth 100000 in
theorem k_X11_gaps (l : Launch) (D : va_G) (cA : Nat → ClassId) (ad : Nat → Nat) (tw : Nat) (hG : gOk ad 22) (z : gS) (a1 : Int32) (res : Int32 × gS) (h : f_X11_gaps a1 z = some res) : gMi l yX11_gaps wsX11_gaps (gRm 3 68) D cA ad tw shM 22 [.ref (ad 0), .int a1] z res := by
  refine Met.ofW (cc := cX11_gaps) (maxL := 2) (ret := (some .int)) (by decide) rfl ?_
  intro p e s m args below meth c s₁ B hml hv
  obtain ⟨rfl, hP, hK, hZ⟩ := hv
  have hx := B.exec
  have hb := B.bytes
  have hr := B.returns
  have hts := atoms_spec (ws := wsX11_gaps) B.pre
  have hown : s.vm.findClass RX11 = some m.cls := findClass_of_methodNamed B.named
  have hlocks := B.notSynchronized
  have hS : va_S (gA ad 22) s.heap s.heap [] := va_S.rf
  have hl := lv_entry ([.ref (ad 0), .int a1]) (n := 2) (Nat.le_of_ble_eq_true rfl)
  rw [lg_entry_eq]
  generalize (lg_sl ([.ref (ad 0), .int a1]) ++ List.replicate (2 - (lg_sl ([.ref (ad 0), .int a1])).length) Slot.unset).toArray = ls at hl ⊢
  have hl : lv_has ls 2 [(0, .ref (ad 0)), (1, .int a1)] := hl
  unfold f_X11_gaps at h
  refine lv_aload_n hx hb dX11_gaps_0 rfl (lv_at hl 0 rfl) ?_
  refine lv_iload_n hx hb dX11_gaps_1 rfl (lv_at hl 1 rfl) ?_
  obtain ⟨q1, hq1, h⟩ := gb_s h
  refine fw_vi (As := [.int a1]) (rest := []) ⟨hx, hb, hml, hown, hts⟩ (k_X11_isOrder l D cA ad tw hG z a1 q1 hq1) (cwV 1 hts gX11_gaps_X11_isOrder rfl rfl rfl hdV_X11_isOrder ⟨Nat.le_of_ble_eq_true rfl, Nat.le_of_ble_eq_true rfl⟩) (fw_preV gF11.1.1 gF11.1.2 rfl rfl hK hZ hP hS) rfl hl _ rfl (Nat.le_of_ble_eq_true rfl) hS dX11_gaps_2 ⟨Nat.zero_le _, Nat.zero_le _⟩ (fun H locs hP hS => ?_)
  refine lv_if_eq (tgt := 15) hx hb dX11_gaps_5 (by decide) (fun c2 => ?_) (fun c2 => ?_)
  · replace h := gif_t h c2
    refine lv_bipush (v := (-2)) hx hb dX11_gaps_15 (by decide) ?_
    exact fw_ireti hx hb hr hlocks (Option.some.inj h) hK hZ hP hS dX11_gaps_17
  · replace h := gif_f h c2
    refine lv_aload_n hx hb dX11_gaps_8 rfl (lv_at hl 0 rfl) ?_
    obtain ⟨q3, hq3, h⟩ := gb_s h
    refine fw_viR (As := []) (rest := []) ⟨hx, hb, hml, hown, hts⟩ (k_X11_gapsNow l D cA ad tw hG q1.2  q3 hq3) (cwV 0 hts gX11_gaps_X11_gapsNow rfl rfl rfl hdV_X11_gapsNow ⟨Nat.le_of_ble_eq_true rfl, Nat.le_of_ble_eq_true rfl⟩) (fw_preV gF11.1.1 gF11.1.2 rfl rfl hK hZ hP hS) rfl hl _ rfl (Nat.le_of_ble_eq_true rfl) hS dX11_gaps_9 ⟨Nat.zero_le _, Nat.zero_le _⟩ (fun H locs hP hS => ?_)
    refine lv_goto (tgt := 17) hx hb dX11_gaps_12 (by decide) ?_
    exact fw_ireti hx hb hr hlocks (Option.some.inj h) hK hZ hP hS dX11_gaps_17
theorem in_X11_runs_X11 : ∀ w ∈ wsX110, w ∈ wsX11_runs := fun w h => List.mem_cons_of_mem _ (List.mem_append_right _ (h))
theorem hdV_X11_runs : yX11_runs.cls = RX11 ∧ yX11_runs.cls ≠ "java/lang/invoke/MethodHandle" ∧ yX11_runs.cls ≠ "java/lang/invoke/VarHandle" ∧ (parseMethodDescriptor yX11_runs.desc).map (fun d => d.parameters.length) = some 1 := by decide +kernel
set_option maxHeartbeats 4000000 in
set_option maxRecDepth 100000 in
theorem k_X11_runs (l : Launch) (D : va_G) (cA : Nat → ClassId) (ad : Nat → Nat) (tw : Nat) (hG : gOk ad 22) (z : gS) (a1 : Int32) (res : Int32 × gS) (h : f_X11_runs a1 z = some res) : gMi l yX11_runs wsX11_runs (gRm 3 68) D cA ad tw shM 22 [.ref (ad 0), .int a1] z res := by
  refine Met.ofW (cc := cX11_runs) (maxL := 4) (ret := (some .int)) (by decide) rfl ?_
  intro p e s m args below meth c s₁ B hml hv
  obtain ⟨rfl, hP, hK, hZ⟩ := hv
  have hx := B.exec
  have hb := B.bytes
  have hr := B.returns
  have hts := atoms_spec (ws := wsX11_runs) B.pre
  have hown : s.vm.findClass RX11 = some m.cls := findClass_of_methodNamed B.named
  have hlocks := B.notSynchronized
  have hS : va_S (gA ad 22) s.heap s.heap [] := va_S.rf
  have hl := lv_entry ([.ref (ad 0), .int a1]) (n := 4) (Nat.le_of_ble_eq_true rfl)
  rw [lg_entry_eq]
  generalize (lg_sl ([.ref (ad 0), .int a1]) ++ List.replicate (4 - (lg_sl ([.ref (ad 0), .int a1])).length) Slot.unset).toArray = ls at hl ⊢
  have hl : lv_has ls 4 [(0, .ref (ad 0)), (1, .int a1)] := hl
  have j15 : ∀ (z : gS) (n : Nat) (x2 : Int32) (x3 : Int32) (H : Heap) (locs : List Loc) (ls : Array Slot), f_X11_runs_15 z n x2 x3 = some res → va_P D vwCl (gw cA ad shM 22 z) H → va_S (gA ad 22) s.heap H locs → lv_has ls 4 [(0, .ref (ad 0)), (2, .int x2), (3, .int x3)] → W p l e (headSpec wsX11_runs (gRm 3 68)).room s m ([.ref (ad 0), .int a1] : List Value).toArray below meth c H locs 0 0 (MQ below (va_Qi (fun r u => (r, u) = res) (gPr D cA ad tw shM 22) (gA ad 22)) ([.ref (ad 0), .int a1] : List Value).toArray s 0 0 (gA ad 22)) (F0 m 15 ls []) := by
    intro z n
    induction n with
    | zero => intro x2 x3 H locs ls h; exact (gno h).elim
    | succ n hK15 =>
      intro x2 x3 H locs ls h hP hS hl
      replace h : f_X11_runs_15_b z (f_X11_runs_15 z n) x2 x3 = some res := h
      unfold f_X11_runs_15_b at h
      refine lv_iload_n hx hb dX11_runs_15 rfl (lv_at hl 2 rfl) ?_
      refine lv_aload_n hx hb dX11_runs_16 rfl (lv_at hl 0 rfl) ?_
      refine fw_geti hx hb hts in_X11_runs_X11 hown hK hP gF11.1.1 gF11.1.2 rfl 2 (by decide) rfl (hts _ (List.mem_of_getElem? (i := 1) rfl)) rfl dX11_runs_17 ?_
      refine lv_icmp_ge (tgt := 47) hx hb dX11_runs_20 (by decide) (fun c3 => ?_) (fun c3 => ?_)
      · replace h := gif_t h c3
        refine lv_iload_n hx hb dX11_runs_47 rfl (lv_at hl 1 rfl) ?_
        exact fw_ireti hx hb hr hlocks (Option.some.inj h) hK hZ hP hS dX11_runs_48
      · replace h := gif_f h c3
        refine lv_iload_n hx hb dX11_runs_23 rfl (lv_at hl 1 rfl) ?_
        refine lv_aload_n hx hb dX11_runs_24 rfl (lv_at hl 0 rfl) ?_
        refine lv_iload_n hx hb dX11_runs_25 rfl (lv_at hl 2 rfl) ?_
        obtain ⟨q4, hq4, h⟩ := gb_s h
        refine fw_viR (As := [.int x3]) (rest := [.int x2]) ⟨hx, hb, hml, hown, hts⟩ (k_X11_gapsOf l D cA ad tw hG z x3 q4 hq4) (cwV 1 hts gX11_runs_X11_gapsOf rfl rfl rfl hdV_X11_gapsOf ⟨Nat.le_of_ble_eq_true rfl, Nat.le_of_ble_eq_true rfl⟩) (fw_preV gF11.1.1 gF11.1.2 rfl rfl hK hZ hP hS) rfl hl _ rfl (Nat.le_of_ble_eq_true rfl) hS dX11_runs_26 ⟨Nat.zero_le _, Nat.zero_le _⟩ (fun H locs hP hS => ?_)
        refine lv_if_ne (tgt := 38) hx hb dX11_runs_29 (by decide) (fun c5 => ?_) (fun c5 => ?_)
        · replace h := gif_f h c5
          refine lv_iconst (v := (nI 0)) hx hb dX11_runs_38 (by decide) ?_
          refine lv_ior hx hb dX11_runs_39 ?_
          refine lv_topi (fun y6 ey6 => ?_)
          replace h := gl_s h ey6
          refine lv_istore_n (lv' := [(2, .int y6), (0, .ref (ad 0)), (3, .int x3)]) hx hb dX11_runs_40 rfl hl (by decide) rfl (fun ls hl => ?_)
          refine lv_iinc (v := x3 + (nI 1)) (lv' := [(3, .int (x3 + (nI 1))), (2, .int y6), (0, .ref (ad 0))]) hx hb dX11_runs_41 hl (k := 2) rfl rfl (by decide) rfl (fun ls hl => ?_)
          refine lv_goto (tgt := 15) hx hb dX11_runs_44 (by decide) ?_
          exact hK15 y6 (x3 + (nI 1)) _ _ ls h hP hS (lv_sub hl [2, 1, 0] rfl)
        · replace h := gif_t h c5
          refine lv_iconst (v := (nI 1)) hx hb dX11_runs_32 (by decide) ?_
          refine lv_iload_n hx hb dX11_runs_33 rfl (lv_at hl 2 rfl) ?_
          refine lv_ishl hx hb dX11_runs_34 ?_
          refine lv_goto (tgt := 39) hx hb dX11_runs_35 (by decide) ?_
          refine lv_ior hx hb dX11_runs_39 ?_
          refine lv_topi (fun y7 ey7 => ?_)
          replace h := gl_s h ey7
          refine lv_istore_n (lv' := [(2, .int y7), (0, .ref (ad 0)), (3, .int x3)]) hx hb dX11_runs_40 rfl hl (by decide) rfl (fun ls hl => ?_)
          refine lv_iinc (v := x3 + (nI 1)) (lv' := [(3, .int (x3 + (nI 1))), (2, .int y7), (0, .ref (ad 0))]) hx hb dX11_runs_41 hl (k := 2) rfl rfl (by decide) rfl (fun ls hl => ?_)
          refine lv_goto (tgt := 15) hx hb dX11_runs_44 (by decide) ?_
          exact hK15 y7 (x3 + (nI 1)) _ _ ls h hP hS (lv_sub hl [2, 1, 0] rfl)
  unfold f_X11_runs at h
  refine lv_aload_n hx hb dX11_runs_0 rfl (lv_at hl 0 rfl) ?_
  refine lv_iload_n hx hb dX11_runs_1 rfl (lv_at hl 1 rfl) ?_
  obtain ⟨q1, hq1, h⟩ := gb_s h
  refine fw_vi (As := [.int a1]) (rest := []) ⟨hx, hb, hml, hown, hts⟩ (k_X11_isOrder l D cA ad tw hG z a1 q1 hq1) (cwV 1 hts gX11_runs_X11_isOrder rfl rfl rfl hdV_X11_isOrder ⟨Nat.le_of_ble_eq_true rfl, Nat.le_of_ble_eq_true rfl⟩) (fw_preV gF11.1.1 gF11.1.2 rfl rfl hK hZ hP hS) rfl hl _ rfl (Nat.le_of_ble_eq_true rfl) hS dX11_runs_2 ⟨Nat.zero_le _, Nat.zero_le _⟩ (fun H locs hP hS => ?_)
  refine lv_if_ne (tgt := 11) hx hb dX11_runs_5 (by decide) (fun c2 => ?_) (fun c2 => ?_)
  · replace h := gif_f h c2
    refine lv_iconst (v := (nI 0)) hx hb dX11_runs_11 (by decide) ?_
    refine lv_istore_n (lv' := [(2, .int (nI 0)), (0, .ref (ad 0)), (1, .int a1)]) hx hb dX11_runs_12 rfl hl (by decide) rfl (fun ls hl => ?_)
    refine lv_iconst (v := (nI 0)) hx hb dX11_runs_13 (by decide) ?_
    refine lv_istore_n (lv' := [(3, .int (nI 0)), (2, .int (nI 0)), (0, .ref (ad 0)), (1, .int a1)]) hx hb dX11_runs_14 rfl hl (by decide) rfl (fun ls hl => ?_)
    exact j15 q1.2  gF (nI 0) (nI 0) _ _ ls h hP hS (lv_sub hl [2, 1, 0] rfl)
  · replace h := gif_t h c2
    refine lv_bipush (v := (-2)) hx hb dX11_runs_8 (by decide) ?_
    exact fw_ireti hx hb hr hlocks (Option.some.inj h) hK hZ hP hS dX11_runs_10
theorem in_X11_kinshipNow_X11 : ∀ w ∈ wsX110, w ∈ wsX11_kinshipNow := fun w h => List.mem_cons_of_mem _ (List.mem_append_right _ (h))
theorem hdV_X11_kinshipNow : yX11_kinshipNow.cls = RX11 ∧ yX11_kinshipNow.cls ≠ "java/lang/invoke/MethodHandle" ∧ yX11_kinshipNow.cls ≠ "java/lang/invoke/VarHandle" ∧ (parseMethodDescriptor yX11_kinshipNow.desc).map (fun d => d.parameters.length) = some 0 := by decide +kernel
set_option maxHeartbeats 4000000 in
set_option maxRecDepth 100000 in
theorem k_X11_kinshipNow (l : Launch) (D : va_G) (cA : Nat → ClassId) (ad : Nat → Nat) (tw : Nat) (hG : gOk ad 22) (z : gS)  (res : Int32) (h : f_X11_kinshipNow  z = some res) : gMi l yX11_kinshipNow wsX11_kinshipNow (gRm 1 22) D cA ad tw shM 22 [.ref (ad 0)] z (res, z) := by
  refine Met.ofW (cc := cX11_kinshipNow) (maxL := 3) (ret := (some .int)) (by decide) rfl ?_
  intro p e s m args below meth c s₁ B hml hv
  obtain ⟨rfl, hP, hK, hZ⟩ := hv
  have hx := B.exec
  have hb := B.bytes
  have hr := B.returns
  have hts := atoms_spec (ws := wsX11_kinshipNow) B.pre
  have hown : s.vm.findClass RX11 = some m.cls := findClass_of_methodNamed B.named
  have hlocks := B.notSynchronized
  have hS : va_S (gA ad 22) s.heap s.heap [] := va_S.rf
  have hl := lv_entry ([.ref (ad 0)]) (n := 3) (Nat.le_of_ble_eq_true rfl)
  rw [lg_entry_eq]
  generalize (lg_sl ([.ref (ad 0)]) ++ List.replicate (3 - (lg_sl ([.ref (ad 0)])).length) Slot.unset).toArray = ls at hl ⊢
  have hl : lv_has ls 3 [(0, .ref (ad 0))] := hl
  have j4 : ∀  (n : Nat) (x1 : Int32) (x2 : Int32) (H : Heap) (locs : List Loc) (ls : Array Slot), f_X11_kinshipNow_4 z n x1 x2 = some res → va_P D vwCl (gw cA ad shM 22 z) H → va_S (gA ad 22) s.heap H locs → lv_has ls 3 [(0, .ref (ad 0)), (1, .int x1), (2, .int x2)] → W p l e (headSpec wsX11_kinshipNow (gRm 1 22)).room s m ([.ref (ad 0)] : List Value).toArray below meth c H locs 0 0 (MQ below (va_Qi (fun r u => (r, u) = (res, z)) (gPr D cA ad tw shM 22) (gA ad 22)) ([.ref (ad 0)] : List Value).toArray s 0 0 (gA ad 22)) (F0 m 4 ls []) := by
    intro n
    induction n with
    | zero => intro x1 x2 H locs ls h; exact (gno h).elim
    | succ n hK4 =>
      intro x1 x2 H locs ls h hP hS hl
      replace h : f_X11_kinshipNow_4_b z (f_X11_kinshipNow_4 z n) x1 x2 = some res := h
      unfold f_X11_kinshipNow_4_b at h
      refine lv_iload_n hx hb dX11_kinshipNow_4 rfl (lv_at hl 2 rfl) ?_
      refine lv_aload_n hx hb dX11_kinshipNow_5 rfl (lv_at hl 0 rfl) ?_
      refine fw_geti hx hb hts in_X11_kinshipNow_X11 hown hK hP gF11.1.1 gF11.1.2 rfl 7 (by decide) rfl (hts _ (List.mem_of_getElem? (i := 1) rfl)) rfl dX11_kinshipNow_6 ?_
      refine lv_icmp_ge (tgt := 49) hx hb dX11_kinshipNow_9 (by decide) (fun c1 => ?_) (fun c1 => ?_)
      · replace h := gif_t h c1
        refine lv_iload_n hx hb dX11_kinshipNow_49 rfl (lv_at hl 1 rfl) ?_
        exact fw_ireti hx hb hr hlocks (congrArg (fun q => (q, z)) (Option.some.inj h)) hK hZ hP hS dX11_kinshipNow_50
      · replace h := gif_f h c1
        refine lv_iload_n hx hb dX11_kinshipNow_12 rfl (lv_at hl 1 rfl) ?_
        refine lv_aload_n hx hb dX11_kinshipNow_13 rfl (lv_at hl 0 rfl) ?_
        refine fw_getr hx hb hts in_X11_kinshipNow_X11 hown hK hP gF11.1.1 gF11.1.2 rfl 4 (by decide) rfl (hts _ (List.mem_of_getElem? (i := 2) rfl)) rfl dX11_kinshipNow_14 ?_
        refine lv_aload_n hx hb dX11_kinshipNow_17 rfl (lv_at hl 0 rfl) ?_
        refine fw_getr hx hb hts in_X11_kinshipNow_X11 hown hK hP gF11.1.1 gF11.1.2 rfl 6 (by decide) rfl (hts _ (List.mem_of_getElem? (i := 3) rfl)) rfl dX11_kinshipNow_18 ?_
        refine lv_iload_n hx hb dX11_kinshipNow_21 rfl (lv_at hl 2 rfl) ?_
        obtain ⟨h2, h⟩ := gg_s h
        refine fw_iald hx hb hK hP gF11.2.2.2.2.1.1 gF11.2.2.2.2.1.2 h2 dX11_kinshipNow_22 ?_
        obtain ⟨h3, h⟩ := gg_s h
        refine fw_iald hx hb hK hP gF11.2.2.1.1 gF11.2.2.1.2 h3 dX11_kinshipNow_23 ?_
        refine lv_aload_n hx hb dX11_kinshipNow_24 rfl (lv_at hl 0 rfl) ?_
        refine fw_getr hx hb hts in_X11_kinshipNow_X11 hown hK hP gF11.1.1 gF11.1.2 rfl 4 (by decide) rfl (hts _ (List.mem_of_getElem? (i := 2) rfl)) rfl dX11_kinshipNow_25 ?_
        refine lv_aload_n hx hb dX11_kinshipNow_28 rfl (lv_at hl 0 rfl) ?_
        refine fw_getr hx hb hts in_X11_kinshipNow_X11 hown hK hP gF11.1.1 gF11.1.2 rfl 6 (by decide) rfl (hts _ (List.mem_of_getElem? (i := 3) rfl)) rfl dX11_kinshipNow_29 ?_
        refine lv_iload_n hx hb dX11_kinshipNow_32 rfl (lv_at hl 2 rfl) ?_
        refine lv_iconst (v := (nI 1)) hx hb dX11_kinshipNow_33 (by decide) ?_
        refine lv_isub hx hb dX11_kinshipNow_34 ?_
        obtain ⟨h4, h⟩ := gg_s h
        refine fw_iald hx hb hK hP gF11.2.2.2.2.1.1 gF11.2.2.2.2.1.2 h4 dX11_kinshipNow_35 ?_
        obtain ⟨h5, h⟩ := gg_s h
        refine fw_iald hx hb hK hP gF11.2.2.1.1 gF11.2.2.1.2 h5 dX11_kinshipNow_36 ?_
        refine lv_iand hx hb dX11_kinshipNow_37 ?_
        obtain ⟨q6, hq6, h⟩ := gb_s h
        refine fw_siR (As := [.int ((z 2 (z 4 x2.toNatClampNeg).toNatClampNeg) &&& (z 2 (z 4 (x2 - (nI 1)).toNatClampNeg).toNatClampNeg))]) (rest := [.int x1]) ⟨hx, hb, hml, hown, hts⟩ (k_X11_bits l D cA ad tw hG z ((z 2 (z 4 x2.toNatClampNeg).toNatClampNeg) &&& (z 2 (z 4 (x2 - (nI 1)).toNatClampNeg).toNatClampNeg)) q6 hq6) (va_cwS 1 hts gX11_kinshipNow_X11_bits rfl rfl rfl hdS_X11_bits ⟨Nat.le_of_ble_eq_true rfl, Nat.le_of_ble_eq_true rfl⟩) hK hZ hP rfl hl _ rfl (Nat.le_of_ble_eq_true rfl) hS dX11_kinshipNow_38 ⟨Nat.zero_le _, Nat.zero_le _⟩ (fun H locs hP hS => ?_)
        refine lv_iadd hx hb dX11_kinshipNow_41 ?_
        refine lv_topi (fun y7 ey7 => ?_)
        replace h := gl_s h ey7
        refine lv_istore_n (lv' := [(1, .int y7), (0, .ref (ad 0)), (2, .int x2)]) hx hb dX11_kinshipNow_42 rfl hl (by decide) rfl (fun ls hl => ?_)
        refine lv_iinc (v := x2 + (nI 1)) (lv' := [(2, .int (x2 + (nI 1))), (1, .int y7), (0, .ref (ad 0))]) hx hb dX11_kinshipNow_43 hl (k := 2) rfl rfl (by decide) rfl (fun ls hl => ?_)
        refine lv_goto (tgt := 4) hx hb dX11_kinshipNow_46 (by decide) ?_
        exact hK4 y7 (x2 + (nI 1)) _ _ ls h hP hS (lv_sub hl [2, 1, 0] rfl)
  unfold f_X11_kinshipNow at h
  refine lv_iconst (v := (nI 0)) hx hb dX11_kinshipNow_0 (by decide) ?_
  refine lv_istore_n (lv' := [(1, .int (nI 0)), (0, .ref (ad 0))]) hx hb dX11_kinshipNow_1 rfl hl (by decide) rfl (fun ls hl => ?_)
  refine lv_iconst (v := (nI 1)) hx hb dX11_kinshipNow_2 (by decide) ?_
  refine lv_istore_n (lv' := [(2, .int (nI 1)), (1, .int (nI 0)), (0, .ref (ad 0))]) hx hb dX11_kinshipNow_3 rfl hl (by decide) rfl (fun ls hl => ?_)
  exact j4  gF (nI 0) (nI 1) _ _ ls h hP hS (lv_sub hl [2, 1, 0] rfl)
theorem hdV_X11_kinship : yX11_kinship.cls = RX11 ∧ yX11_kinship.cls ≠ "java/lang/invoke/MethodHandle" ∧ yX11_kinship.cls ≠ "java/lang/invoke/VarHandle" ∧ (parseMethodDescriptor yX11_kinship.desc).map (fun d => d.parameters.length) = some 1 := by decide +kernel
set_option maxHeartbeats 4000000 in
set_option maxRecDepth 100000 in
theorem k_X11_kinship (l : Launch) (D : va_G) (cA : Nat → ClassId) (ad : Nat → Nat) (tw : Nat) (hG : gOk ad 22) (z : gS) (a1 : Int32) (res : Int32 × gS) (h : f_X11_kinship a1 z = some res) : gMi l yX11_kinship wsX11_kinship (gRm 3 68) D cA ad tw shM 22 [.ref (ad 0), .int a1] z res := by
  refine Met.ofW (cc := cX11_kinship) (maxL := 2) (ret := (some .int)) (by decide) rfl ?_
  intro p e s m args below meth c s₁ B hml hv
  obtain ⟨rfl, hP, hK, hZ⟩ := hv
  have hx := B.exec
  have hb := B.bytes
  have hr := B.returns
  have hts := atoms_spec (ws := wsX11_kinship) B.pre
  have hown : s.vm.findClass RX11 = some m.cls := findClass_of_methodNamed B.named
  have hlocks := B.notSynchronized
  have hS : va_S (gA ad 22) s.heap s.heap [] := va_S.rf
  have hl := lv_entry ([.ref (ad 0), .int a1]) (n := 2) (Nat.le_of_ble_eq_true rfl)
  rw [lg_entry_eq]
  generalize (lg_sl ([.ref (ad 0), .int a1]) ++ List.replicate (2 - (lg_sl ([.ref (ad 0), .int a1])).length) Slot.unset).toArray = ls at hl ⊢
  have hl : lv_has ls 2 [(0, .ref (ad 0)), (1, .int a1)] := hl
  unfold f_X11_kinship at h
  refine lv_aload_n hx hb dX11_kinship_0 rfl (lv_at hl 0 rfl) ?_
  refine lv_iload_n hx hb dX11_kinship_1 rfl (lv_at hl 1 rfl) ?_
  obtain ⟨q1, hq1, h⟩ := gb_s h
  refine fw_vi (As := [.int a1]) (rest := []) ⟨hx, hb, hml, hown, hts⟩ (k_X11_isOrder l D cA ad tw hG z a1 q1 hq1) (cwV 1 hts gX11_kinship_X11_isOrder rfl rfl rfl hdV_X11_isOrder ⟨Nat.le_of_ble_eq_true rfl, Nat.le_of_ble_eq_true rfl⟩) (fw_preV gF11.1.1 gF11.1.2 rfl rfl hK hZ hP hS) rfl hl _ rfl (Nat.le_of_ble_eq_true rfl) hS dX11_kinship_2 ⟨Nat.zero_le _, Nat.zero_le _⟩ (fun H locs hP hS => ?_)
  refine lv_if_eq (tgt := 15) hx hb dX11_kinship_5 (by decide) (fun c2 => ?_) (fun c2 => ?_)
  · replace h := gif_t h c2
    refine lv_bipush (v := (-2)) hx hb dX11_kinship_15 (by decide) ?_
    exact fw_ireti hx hb hr hlocks (Option.some.inj h) hK hZ hP hS dX11_kinship_17
  · replace h := gif_f h c2
    refine lv_aload_n hx hb dX11_kinship_8 rfl (lv_at hl 0 rfl) ?_
    obtain ⟨q3, hq3, h⟩ := gb_s h
    refine fw_viR (As := []) (rest := []) ⟨hx, hb, hml, hown, hts⟩ (k_X11_kinshipNow l D cA ad tw hG q1.2  q3 hq3) (cwV 0 hts gX11_kinship_X11_kinshipNow rfl rfl rfl hdV_X11_kinshipNow ⟨Nat.le_of_ble_eq_true rfl, Nat.le_of_ble_eq_true rfl⟩) (fw_preV gF11.1.1 gF11.1.2 rfl rfl hK hZ hP hS) rfl hl _ rfl (Nat.le_of_ble_eq_true rfl) hS dX11_kinship_9 ⟨Nat.zero_le _, Nat.zero_le _⟩ (fun H locs hP hS => ?_)
    refine lv_goto (tgt := 17) hx hb dX11_kinship_12 (by decide) ?_
    exact fw_ireti hx hb hr hlocks (Option.some.inj h) hK hZ hP hS dX11_kinship_17
theorem hdV_X11_kin : yX11_kin.cls = RX11 ∧ yX11_kin.cls ≠ "java/lang/invoke/MethodHandle" ∧ yX11_kin.cls ≠ "java/lang/invoke/VarHandle" ∧ (parseMethodDescriptor yX11_kin.desc).map (fun d => d.parameters.length) = some 1 := by decide +kernel
set_option maxHeartbeats 4000000 in
set_option maxRecDepth 100000 in
theorem k_X11_kin (l : Launch) (D : va_G) (cA : Nat → ClassId) (ad : Nat → Nat) (tw : Nat) (hG : gOk ad 22) (z : gS) (a1 : Int32) (res : Int32 × gS) (h : f_X11_kin a1 z = some res) : gMi l yX11_kin wsX11_kin (gRm 2 44) D cA ad tw shM 22 [.ref (ad 0), .int a1] z res := by
  refine Met.ofW (cc := cX11_kin) (maxL := 6) (ret := (some .int)) (by decide) rfl ?_
  intro p e s m args below meth c s₁ B hml hv
  obtain ⟨rfl, hP, hK, hZ⟩ := hv
  have hx := B.exec
  have hb := B.bytes
  have hr := B.returns
  have hts := atoms_spec (ws := wsX11_kin) B.pre
  have hown : s.vm.findClass RX11 = some m.cls := findClass_of_methodNamed B.named
  have hlocks := B.notSynchronized
  have hS : va_S (gA ad 22) s.heap s.heap [] := va_S.rf
  have hl := lv_entry ([.ref (ad 0), .int a1]) (n := 6) (Nat.le_of_ble_eq_true rfl)
  rw [lg_entry_eq]
  generalize (lg_sl ([.ref (ad 0), .int a1]) ++ List.replicate (6 - (lg_sl ([.ref (ad 0), .int a1])).length) Slot.unset).toArray = ls at hl ⊢
  have hl : lv_has ls 6 [(0, .ref (ad 0)), (1, .int a1)] := hl
  have j23 : ∀ (x1 : Int32) (n : Nat) (x2 : Int32) (x3 : Int32) (x4 : Int32) (z : gS) (H : Heap) (locs : List Loc) (ls : Array Slot), f_X11_kin_23 x1 n x2 x3 x4 z = some res → va_P D vwCl (gw cA ad shM 22 z) H → va_S (gA ad 22) s.heap H locs → lv_has ls 6 [(0, .ref (ad 0)), (1, .int x1), (2, .int x2), (3, .int x3), (4, .int x4)] → W p l e (headSpec wsX11_kin (gRm 2 44)).room s m ([.ref (ad 0), .int a1] : List Value).toArray below meth c H locs 0 0 (MQ below (va_Qi (fun r u => (r, u) = res) (gPr D cA ad tw shM 22) (gA ad 22)) ([.ref (ad 0), .int a1] : List Value).toArray s 0 0 (gA ad 22)) (F0 m 23 ls []) := by
    intro x1 n
    induction n with
    | zero => intro x2 x3 x4 z H locs ls h; exact (gno h).elim
    | succ n hK23 =>
      intro x2 x3 x4 z H locs ls h hP hS hl
      replace h : f_X11_kin_23_b x1 (f_X11_kin_23 x1 n) x2 x3 x4 z = some res := h
      unfold f_X11_kin_23_b at h
      refine lv_iload hx hb dX11_kin_23 (lv_at hl 4 rfl) ?_
      refine lv_if_eq (tgt := 57) hx hb dX11_kin_25 (by decide) (fun c4 => ?_) (fun c4 => ?_)
      · replace h := gif_t h c4
        refine lv_iload_n hx hb dX11_kin_57 rfl (lv_at hl 1 rfl) ?_
        refine lv_if_ne (tgt := 65) hx hb dX11_kin_58 (by decide) (fun c5 => ?_) (fun c5 => ?_)
        · replace h := gif_f h c5
          refine lv_iload_n hx hb dX11_kin_65 rfl (lv_at hl 3 rfl) ?_
          exact fw_ireti hx hb hr hlocks (Option.some.inj h) hK hZ hP hS dX11_kin_66
        · replace h := gif_t h c5
          refine lv_iload_n hx hb dX11_kin_61 rfl (lv_at hl 2 rfl) ?_
          refine lv_goto (tgt := 66) hx hb dX11_kin_62 (by decide) ?_
          exact fw_ireti hx hb hr hlocks (Option.some.inj h) hK hZ hP hS dX11_kin_66
      · replace h := gif_f h c4
        refine lv_aload_n hx hb dX11_kin_28 rfl (lv_at hl 0 rfl) ?_
        obtain ⟨q6, hq6, h⟩ := gb_s h
        refine fw_viR (As := []) (rest := []) ⟨hx, hb, hml, hown, hts⟩ (k_X11_kinshipNow l D cA ad tw hG z  q6 hq6) (cwV 0 hts gX11_kin_X11_kinshipNow rfl rfl rfl hdV_X11_kinshipNow ⟨Nat.le_of_ble_eq_true rfl, Nat.le_of_ble_eq_true rfl⟩) (fw_preV gF11.1.1 gF11.1.2 rfl rfl hK hZ hP hS) rfl hl _ rfl (Nat.le_of_ble_eq_true rfl) hS dX11_kin_29 ⟨Nat.zero_le _, Nat.zero_le _⟩ (fun H locs hP hS => ?_)
        refine lv_istore (lv' := [(5, .int q6), (0, .ref (ad 0)), (1, .int x1), (2, .int x2), (3, .int x3), (4, .int x4)]) hx hb dX11_kin_32 hl (by decide) rfl (fun ls hl => ?_)
        refine lv_iload hx hb dX11_kin_34 (lv_at hl 0 rfl) ?_
        refine lv_iload_n hx hb dX11_kin_36 rfl (lv_at hl 3 rfl) ?_
        refine lv_icmp_le (tgt := 48) hx hb dX11_kin_37 (by decide) (fun c7 => ?_) (fun c7 => ?_)
        · replace h := gif_t h c7
          refine lv_aload_n hx hb dX11_kin_48 rfl (lv_at hl 1 rfl) ?_
          obtain ⟨q8, hq8, h⟩ := gb_s h
          refine fw_vi (As := []) (rest := []) ⟨hx, hb, hml, hown, hts⟩ (k_X11_goesOn l D cA ad tw hG z  q8 hq8) (cwV 0 hts gX11_kin_X11_goesOn rfl rfl rfl hdV_X11_goesOn ⟨Nat.le_of_ble_eq_true rfl, Nat.le_of_ble_eq_true rfl⟩) (fw_preV gF11.1.1 gF11.1.2 rfl rfl hK hZ hP hS) rfl hl _ rfl (Nat.le_of_ble_eq_true rfl) hS dX11_kin_49 ⟨Nat.zero_le _, Nat.zero_le _⟩ (fun H locs hP hS => ?_)
          refine lv_istore (lv' := [(4, .int q8.1), (5, .int q6), (0, .ref (ad 0)), (1, .int x1), (2, .int x2), (3, .int x3)]) hx hb dX11_kin_52 hl (by decide) rfl (fun ls hl => ?_)
          refine lv_goto (tgt := 23) hx hb dX11_kin_54 (by decide) ?_
          exact hK23 x2 x3 q8.1 q8.2 _ _ ls h hP hS (lv_sub hl [2, 3, 4, 5, 0] rfl)
        · replace h := gif_f h c7
          refine lv_iload hx hb dX11_kin_40 (lv_at hl 0 rfl) ?_
          refine lv_istore_n (lv' := [(2, .int q6), (5, .int q6), (0, .ref (ad 0)), (1, .int x1), (3, .int x3), (4, .int x4)]) hx hb dX11_kin_42 rfl hl (by decide) rfl (fun ls hl => ?_)
          refine lv_aload_n hx hb dX11_kin_43 rfl (lv_at hl 2 rfl) ?_
          obtain ⟨q9, hq9, h⟩ := gb_s h
          refine fw_viR (As := []) (rest := []) ⟨hx, hb, hml, hown, hts⟩ (k_X11_digits l D cA ad tw hG z  q9 hq9) (cwV 0 hts gX11_kin_X11_digits rfl rfl rfl hdV_X11_digits ⟨Nat.le_of_ble_eq_true rfl, Nat.le_of_ble_eq_true rfl⟩) (fw_preV gF11.1.1 gF11.1.2 rfl rfl hK hZ hP hS) rfl hl _ rfl (Nat.le_of_ble_eq_true rfl) hS dX11_kin_44 ⟨Nat.zero_le _, Nat.zero_le _⟩ (fun H locs hP hS => ?_)
          refine lv_istore_n (lv' := [(3, .int q9), (2, .int q6), (5, .int q6), (0, .ref (ad 0)), (1, .int x1), (4, .int x4)]) hx hb dX11_kin_47 rfl hl (by decide) rfl (fun ls hl => ?_)
          refine lv_aload_n hx hb dX11_kin_48 rfl (lv_at hl 3 rfl) ?_
          obtain ⟨q10, hq10, h⟩ := gb_s h
          refine fw_vi (As := []) (rest := []) ⟨hx, hb, hml, hown, hts⟩ (k_X11_goesOn l D cA ad tw hG z  q10 hq10) (cwV 0 hts gX11_kin_X11_goesOn rfl rfl rfl hdV_X11_goesOn ⟨Nat.le_of_ble_eq_true rfl, Nat.le_of_ble_eq_true rfl⟩) (fw_preV gF11.1.1 gF11.1.2 rfl rfl hK hZ hP hS) rfl hl _ rfl (Nat.le_of_ble_eq_true rfl) hS dX11_kin_49 ⟨Nat.zero_le _, Nat.zero_le _⟩ (fun H locs hP hS => ?_)
          refine lv_istore (lv' := [(4, .int q10.1), (3, .int q9), (2, .int q6), (5, .int q6), (0, .ref (ad 0)), (1, .int x1)]) hx hb dX11_kin_52 hl (by decide) rfl (fun ls hl => ?_)
          refine lv_goto (tgt := 23) hx hb dX11_kin_54 (by decide) ?_
          exact hK23 q6 q9 q10.1 q10.2 _ _ ls h hP hS (lv_sub hl [4, 5, 2, 1, 0] rfl)
  unfold f_X11_kin at h
  refine lv_iload_n hx hb dX11_kin_0 rfl (lv_at hl 1 rfl) ?_
  refine lv_iconst (v := (nI 0)) hx hb dX11_kin_1 (by decide) ?_
  refine lv_iconst (v := (nI 1)) hx hb dX11_kin_2 (by decide) ?_
  obtain ⟨q1, hq1, h⟩ := gb_s h
  refine fw_siR (As := [.int a1, .int (nI 0), .int (nI 1)]) (rest := []) ⟨hx, hb, hml, hown, hts⟩ (k_X11_in l D cA ad tw hG z a1 (nI 0) (nI 1) q1 hq1) (va_cwS 3 hts gX11_kin_X11_in rfl rfl rfl hdS_X11_in ⟨Nat.le_of_ble_eq_true rfl, Nat.le_of_ble_eq_true rfl⟩) hK hZ hP rfl hl _ rfl (Nat.le_of_ble_eq_true rfl) hS dX11_kin_3 ⟨Nat.zero_le _, Nat.zero_le _⟩ (fun H locs hP hS => ?_)
  refine lv_if_ne (tgt := 12) hx hb dX11_kin_6 (by decide) (fun c2 => ?_) (fun c2 => ?_)
  · replace h := gif_f h c2
    refine lv_iconst (v := gm1) hx hb dX11_kin_12 (by decide) ?_
    refine lv_istore_n (lv' := [(2, .int gm1), (0, .ref (ad 0)), (1, .int a1)]) hx hb dX11_kin_13 rfl hl (by decide) rfl (fun ls hl => ?_)
    refine lv_iconst (v := (nI 0)) hx hb dX11_kin_14 (by decide) ?_
    refine lv_istore_n (lv' := [(3, .int (nI 0)), (2, .int gm1), (0, .ref (ad 0)), (1, .int a1)]) hx hb dX11_kin_15 rfl hl (by decide) rfl (fun ls hl => ?_)
    refine lv_aload_n hx hb dX11_kin_16 rfl (lv_at hl 2 rfl) ?_
    obtain ⟨q3, hq3, h⟩ := gb_s h
    refine fw_vv (As := []) (rest := []) ⟨hx, hb, hml, hown, hts⟩ (k_X11_beginsAll l D cA ad tw hG z  q3 hq3) (cwV 0 hts gX11_kin_X11_beginsAll rfl rfl rfl hdV_X11_beginsAll ⟨Nat.le_of_ble_eq_true rfl, Nat.le_of_ble_eq_true rfl⟩) (fw_preV gF11.1.1 gF11.1.2 rfl rfl hK hZ hP hS) rfl hl _ rfl (Nat.le_of_ble_eq_true rfl) hS dX11_kin_17 ⟨Nat.zero_le _, Nat.zero_le _⟩ (fun H locs hP hS => ?_)
    refine lv_iconst (v := (nI 1)) hx hb dX11_kin_20 (by decide) ?_
    refine lv_istore (lv' := [(4, .int (nI 1)), (3, .int (nI 0)), (2, .int gm1), (0, .ref (ad 0)), (1, .int a1)]) hx hb dX11_kin_21 hl (by decide) rfl (fun ls hl => ?_)
    exact j23 a1 gF gm1 (nI 0) (nI 1) q3 _ _ ls h hP hS (lv_sub hl [3, 4, 2, 1, 0] rfl)
  · replace h := gif_t h c2
    refine lv_bipush (v := (-2)) hx hb dX11_kin_9 (by decide) ?_
    exact fw_ireti hx hb hr hlocks (Option.some.inj h) hK hZ hP hS dX11_kin_11
theorem in_X11_shared_X11 : ∀ w ∈ wsX110, w ∈ wsX11_shared := fun w h => List.mem_cons_of_mem _ (List.mem_append_right _ (h))
theorem hdV_X11_shared : yX11_shared.cls = RX11 ∧ yX11_shared.cls ≠ "java/lang/invoke/MethodHandle" ∧ yX11_shared.cls ≠ "java/lang/invoke/VarHandle" ∧ (parseMethodDescriptor yX11_shared.desc).map (fun d => d.parameters.length) = some 2 := by decide +kernel
set_option maxHeartbeats 4000000 in
set_option maxRecDepth 100000 in
theorem k_X11_shared (l : Launch) (D : va_G) (cA : Nat → ClassId) (ad : Nat → Nat) (tw : Nat) (hG : gOk ad 22) (z : gS) (a1 : Int32) (a2 : Int32) (res : Int32) (h : f_X11_shared a1 a2 z = some res) : gMi l yX11_shared wsX11_shared (gRm 2 43) D cA ad tw shM 22 [.ref (ad 0), .int a1, .int a2] z (res, z) := by
  refine Met.ofW (cc := cX11_shared) (maxL := 3) (ret := (some .int)) (by decide) rfl ?_
  intro p e s m args below meth c s₁ B hml hv
  obtain ⟨rfl, hP, hK, hZ⟩ := hv
  have hx := B.exec
  have hb := B.bytes
  have hr := B.returns
  have hts := atoms_spec (ws := wsX11_shared) B.pre
  have hown : s.vm.findClass RX11 = some m.cls := findClass_of_methodNamed B.named
  have hlocks := B.notSynchronized
  have hS : va_S (gA ad 22) s.heap s.heap [] := va_S.rf
  have hl := lv_entry ([.ref (ad 0), .int a1, .int a2]) (n := 3) (Nat.le_of_ble_eq_true rfl)
  rw [lg_entry_eq]
  generalize (lg_sl ([.ref (ad 0), .int a1, .int a2]) ++ List.replicate (3 - (lg_sl ([.ref (ad 0), .int a1, .int a2])).length) Slot.unset).toArray = ls at hl ⊢
  have hl : lv_has ls 3 [(0, .ref (ad 0)), (1, .int a1), (2, .int a2)] := hl
  unfold f_X11_shared at h
  refine lv_aload_n hx hb dX11_shared_0 rfl (lv_at hl 0 rfl) ?_
  refine lv_iload_n hx hb dX11_shared_1 rfl (lv_at hl 1 rfl) ?_
  obtain ⟨q1, hq1, h⟩ := gb_s h
  refine fw_viR (As := [.int a1]) (rest := []) ⟨hx, hb, hml, hown, hts⟩ (k_X11_isGrave l D cA ad tw hG z a1 q1 hq1) (cwV 1 hts gX11_shared_X11_isGrave rfl rfl rfl hdV_X11_isGrave ⟨Nat.le_of_ble_eq_true rfl, Nat.le_of_ble_eq_true rfl⟩) (fw_preV gF11.1.1 gF11.1.2 rfl rfl hK hZ hP hS) rfl hl _ rfl (Nat.le_of_ble_eq_true rfl) hS dX11_shared_2 ⟨Nat.zero_le _, Nat.zero_le _⟩ (fun H locs hP hS => ?_)
  refine lv_if_eq (tgt := 35) hx hb dX11_shared_5 (by decide) (fun c2 => ?_) (fun c2 => ?_)
  · replace h := gif_t h c2
    refine lv_iconst (v := gm1) hx hb dX11_shared_35 (by decide) ?_
    exact fw_ireti hx hb hr hlocks (congrArg (fun q => (q, z)) (Option.some.inj h)) hK hZ hP hS dX11_shared_36
  · replace h := gif_f h c2
    refine lv_aload_n hx hb dX11_shared_8 rfl (lv_at hl 0 rfl) ?_
    refine lv_iload_n hx hb dX11_shared_9 rfl (lv_at hl 2 rfl) ?_
    obtain ⟨q3, hq3, h⟩ := gb_s h
    refine fw_viR (As := [.int a2]) (rest := []) ⟨hx, hb, hml, hown, hts⟩ (k_X11_isGrave l D cA ad tw hG z a2 q3 hq3) (cwV 1 hts gX11_shared_X11_isGrave rfl rfl rfl hdV_X11_isGrave ⟨Nat.le_of_ble_eq_true rfl, Nat.le_of_ble_eq_true rfl⟩) (fw_preV gF11.1.1 gF11.1.2 rfl rfl hK hZ hP hS) rfl hl _ rfl (Nat.le_of_ble_eq_true rfl) hS dX11_shared_10 ⟨Nat.zero_le _, Nat.zero_le _⟩ (fun H locs hP hS => ?_)
    refine lv_if_eq (tgt := 35) hx hb dX11_shared_13 (by decide) (fun c4 => ?_) (fun c4 => ?_)
    · replace h := gif_t h c4
      refine lv_iconst (v := gm1) hx hb dX11_shared_35 (by decide) ?_
      exact fw_ireti hx hb hr hlocks (congrArg (fun q => (q, z)) (Option.some.inj h)) hK hZ hP hS dX11_shared_36
    · replace h := gif_f h c4
      refine lv_aload_n hx hb dX11_shared_16 rfl (lv_at hl 0 rfl) ?_
      refine fw_getr hx hb hts in_X11_shared_X11 hown hK hP gF11.1.1 gF11.1.2 rfl 4 (by decide) rfl (hts _ (List.mem_of_getElem? (i := 1) rfl)) rfl dX11_shared_17 ?_
      refine lv_iload_n hx hb dX11_shared_20 rfl (lv_at hl 1 rfl) ?_
      obtain ⟨h5, h⟩ := gg_s h
      refine fw_iald hx hb hK hP gF11.2.2.1.1 gF11.2.2.1.2 h5 dX11_shared_21 ?_
      refine lv_aload_n hx hb dX11_shared_22 rfl (lv_at hl 0 rfl) ?_
      refine fw_getr hx hb hts in_X11_shared_X11 hown hK hP gF11.1.1 gF11.1.2 rfl 4 (by decide) rfl (hts _ (List.mem_of_getElem? (i := 1) rfl)) rfl dX11_shared_23 ?_
      refine lv_iload_n hx hb dX11_shared_26 rfl (lv_at hl 2 rfl) ?_
      obtain ⟨h6, h⟩ := gg_s h
      refine fw_iald hx hb hK hP gF11.2.2.1.1 gF11.2.2.1.2 h6 dX11_shared_27 ?_
      refine lv_iand hx hb dX11_shared_28 ?_
      obtain ⟨q7, hq7, h⟩ := gb_s h
      refine fw_siR (As := [.int ((z 2 a1.toNatClampNeg) &&& (z 2 a2.toNatClampNeg))]) (rest := []) ⟨hx, hb, hml, hown, hts⟩ (k_X11_bits l D cA ad tw hG z ((z 2 a1.toNatClampNeg) &&& (z 2 a2.toNatClampNeg)) q7 hq7) (va_cwS 1 hts gX11_shared_X11_bits rfl rfl rfl hdS_X11_bits ⟨Nat.le_of_ble_eq_true rfl, Nat.le_of_ble_eq_true rfl⟩) hK hZ hP rfl hl _ rfl (Nat.le_of_ble_eq_true rfl) hS dX11_shared_29 ⟨Nat.zero_le _, Nat.zero_le _⟩ (fun H locs hP hS => ?_)
      refine lv_goto (tgt := 36) hx hb dX11_shared_32 (by decide) ?_
      exact fw_ireti hx hb hr hlocks (congrArg (fun q => (q, z)) (Option.some.inj h)) hK hZ hP hS dX11_shared_36
theorem in_X11_chain_X11 : ∀ w ∈ wsX110, w ∈ wsX11_chain := fun w h => List.mem_cons_of_mem _ (List.mem_append_right _ (h))
theorem hdV_X11_chain : yX11_chain.cls = RX11 ∧ yX11_chain.cls ≠ "java/lang/invoke/MethodHandle" ∧ yX11_chain.cls ≠ "java/lang/invoke/VarHandle" ∧ (parseMethodDescriptor yX11_chain.desc).map (fun d => d.parameters.length) = some 1 := by decide +kernel
set_option maxHeartbeats 4000000 in
set_option maxRecDepth 100000 in
theorem k_X11_chain (l : Launch) (D : va_G) (cA : Nat → ClassId) (ad : Nat → Nat) (tw : Nat) (hG : gOk ad 22) (z : gS) (a1 : Int32) (res : Int32) (h : f_X11_chain a1 z = some res) : gMi l yX11_chain wsX11_chain (gRm 3 65) D cA ad tw shM 22 [.ref (ad 0), .int a1] z (res, z) := by
  refine Met.ofW (cc := cX11_chain) (maxL := 8) (ret := (some .int)) (by decide) rfl ?_
  intro p e s m args below meth c s₁ B hml hv
  obtain ⟨rfl, hP, hK, hZ⟩ := hv
  have hx := B.exec
  have hb := B.bytes
  have hr := B.returns
  have hts := atoms_spec (ws := wsX11_chain) B.pre
  have hown : s.vm.findClass RX11 = some m.cls := findClass_of_methodNamed B.named
  have hlocks := B.notSynchronized
  have hS : va_S (gA ad 22) s.heap s.heap [] := va_S.rf
  have hl := lv_entry ([.ref (ad 0), .int a1]) (n := 8) (Nat.le_of_ble_eq_true rfl)
  rw [lg_entry_eq]
  generalize (lg_sl ([.ref (ad 0), .int a1]) ++ List.replicate (8 - (lg_sl ([.ref (ad 0), .int a1])).length) Slot.unset).toArray = ls at hl ⊢
  have hl : lv_has ls 8 [(0, .ref (ad 0)), (1, .int a1)] := hl
  have j83 : ∀ (x2 : Int32) (x3 : Int32) (x4 : Int32) (x5 : Int32) (x6 : Int32) (K21 : Int32 → Int32 → Int32 → Option Int32) (hK21 : ∀ (x2' : Int32) (x3' : Int32) (x4' : Int32) (H : Heap) (locs : List Loc) (ls : Array Slot), K21 x2' x3' x4' = some res → va_P D vwCl (gw cA ad shM 22 z) H → va_S (gA ad 22) s.heap H locs → lv_has ls 8 [(0, .ref (ad 0)), (2, .int x2'), (3, .int x3'), (4, .int x4')] → W p l e (headSpec wsX11_chain (gRm 3 65)).room s m ([.ref (ad 0), .int a1] : List Value).toArray below meth c H locs 0 0 (MQ below (va_Qi (fun r u => (r, u) = (res, z)) (gPr D cA ad tw shM 22) (gA ad 22)) ([.ref (ad 0), .int a1] : List Value).toArray s 0 0 (gA ad 22)) (F0 m 21 ls [])) (K35 : Int32 → Int32 → Option Int32) (hK35 : ∀ (x5' : Int32) (x6' : Int32) (H : Heap) (locs : List Loc) (ls : Array Slot), K35 x5' x6' = some res → va_P D vwCl (gw cA ad shM 22 z) H → va_S (gA ad 22) s.heap H locs → lv_has ls 8 [(0, .ref (ad 0)), (2, .int x2), (3, .int x3), (4, .int x4), (5, .int x5'), (6, .int x6')] → W p l e (headSpec wsX11_chain (gRm 3 65)).room s m ([.ref (ad 0), .int a1] : List Value).toArray below meth c H locs 0 0 (MQ below (va_Qi (fun r u => (r, u) = (res, z)) (gPr D cA ad tw shM 22) (gA ad 22)) ([.ref (ad 0), .int a1] : List Value).toArray s 0 0 (gA ad 22)) (F0 m 35 ls [])) (s0 : Int32) (H : Heap) (locs : List Loc) (ls : Array Slot), f_X11_chain_83 x2 x3 x4 x5 x6 K21 K35 s0 z = some res → va_P D vwCl (gw cA ad shM 22 z) H → va_S (gA ad 22) s.heap H locs → lv_has ls 8 [(0, .ref (ad 0)), (2, .int x2), (3, .int x3), (4, .int x4), (5, .int x5), (6, .int x6)] → W p l e (headSpec wsX11_chain (gRm 3 65)).room s m ([.ref (ad 0), .int a1] : List Value).toArray below meth c H locs 0 0 (MQ below (va_Qi (fun r u => (r, u) = (res, z)) (gPr D cA ad tw shM 22) (gA ad 22)) ([.ref (ad 0), .int a1] : List Value).toArray s 0 0 (gA ad 22)) (F0 m 83 ls [.int s0]) := by
    intro x2 x3 x4 x5 x6 K21 hK21 K35 hK35 s0 H locs ls h hP hS hl
    unfold f_X11_chain_83 at h
    refine lv_istore (lv' := [(7, .int s0), (0, .ref (ad 0)), (2, .int x2), (3, .int x3), (4, .int x4), (5, .int x5), (6, .int x6)]) hx hb dX11_chain_83 hl (by decide) rfl (fun ls hl => ?_)
    refine lv_iload hx hb dX11_chain_85 (lv_at hl 0 rfl) ?_
    refine lv_if_gt (tgt := 112) hx hb dX11_chain_87 (by decide) (fun c15 => ?_) (fun c15 => ?_)
    · replace h := gif_t h c15
      refine lv_iload hx hb dX11_chain_112 (lv_at hl 6 rfl) ?_
      refine lv_istore (lv' := [(5, .int x6), (7, .int s0), (0, .ref (ad 0)), (2, .int x2), (3, .int x3), (4, .int x4), (6, .int x6)]) hx hb dX11_chain_114 hl (by decide) rfl (fun ls hl => ?_)
      refine lv_iinc (v := x6 + (nI 1)) (lv' := [(6, .int (x6 + (nI 1))), (5, .int x6), (7, .int s0), (0, .ref (ad 0)), (2, .int x2), (3, .int x3), (4, .int x4)]) hx hb dX11_chain_116 hl (k := 6) rfl rfl (by decide) rfl (fun ls hl => ?_)
      refine lv_goto (tgt := 35) hx hb dX11_chain_119 (by decide) ?_
      exact hK35 x6 (x6 + (nI 1)) _ _ ls h hP hS (lv_sub hl [3, 4, 5, 6, 1, 0] rfl)
    · replace h := gif_f h c15
      refine lv_iload hx hb dX11_chain_90 (lv_at hl 0 rfl) ?_
      refine lv_if_ne (tgt := 116) hx hb dX11_chain_92 (by decide) (fun c16 => ?_) (fun c16 => ?_)
      · replace h := gif_f h c16
        refine lv_iinc (v := x6 + (nI 1)) (lv' := [(6, .int (x6 + (nI 1))), (7, .int s0), (0, .ref (ad 0)), (2, .int x2), (3, .int x3), (4, .int x4), (5, .int x5)]) hx hb dX11_chain_116 hl (k := 6) rfl rfl (by decide) rfl (fun ls hl => ?_)
        refine lv_goto (tgt := 35) hx hb dX11_chain_119 (by decide) ?_
        exact hK35 x5 (x6 + (nI 1)) _ _ ls h hP hS (lv_sub hl [2, 3, 4, 5, 6, 0] rfl)
      · replace h := gif_t h c16
        refine lv_aload_n hx hb dX11_chain_95 rfl (lv_at hl 1 rfl) ?_
        refine fw_getr hx hb hts in_X11_chain_X11 hown hK hP gF11.1.1 gF11.1.2 rfl 3 (by decide) rfl (hts _ (List.mem_of_getElem? (i := 2) rfl)) rfl dX11_chain_96 ?_
        refine lv_iload hx hb dX11_chain_99 (lv_at hl 6 rfl) ?_
        obtain ⟨h17, h⟩ := gg_s h
        refine fw_iald hx hb hK hP gF11.2.1.1 gF11.2.1.2 h17 dX11_chain_101 ?_
        refine lv_aload_n hx hb dX11_chain_102 rfl (lv_at hl 1 rfl) ?_
        refine fw_getr hx hb hts in_X11_chain_X11 hown hK hP gF11.1.1 gF11.1.2 rfl 3 (by decide) rfl (hts _ (List.mem_of_getElem? (i := 2) rfl)) rfl dX11_chain_103 ?_
        refine lv_iload hx hb dX11_chain_106 (lv_at hl 5 rfl) ?_
        obtain ⟨h18, h⟩ := gg_s h
        refine fw_iald hx hb hK hP gF11.2.1.1 gF11.2.1.2 h18 dX11_chain_108 ?_
        refine lv_icmp_ge (tgt := 116) hx hb dX11_chain_109 (by decide) (fun c19 => ?_) (fun c19 => ?_)
        · replace h := gif_t h c19
          refine lv_iinc (v := x6 + (nI 1)) (lv' := [(6, .int (x6 + (nI 1))), (7, .int s0), (0, .ref (ad 0)), (2, .int x2), (3, .int x3), (4, .int x4), (5, .int x5)]) hx hb dX11_chain_116 hl (k := 6) rfl rfl (by decide) rfl (fun ls hl => ?_)
          refine lv_goto (tgt := 35) hx hb dX11_chain_119 (by decide) ?_
          exact hK35 x5 (x6 + (nI 1)) _ _ ls h hP hS (lv_sub hl [2, 3, 4, 5, 6, 0] rfl)
        · replace h := gif_f h c19
          refine lv_iload hx hb dX11_chain_112 (lv_at hl 6 rfl) ?_
          refine lv_istore (lv' := [(5, .int x6), (7, .int s0), (0, .ref (ad 0)), (2, .int x2), (3, .int x3), (4, .int x4), (6, .int x6)]) hx hb dX11_chain_114 hl (by decide) rfl (fun ls hl => ?_)
          refine lv_iinc (v := x6 + (nI 1)) (lv' := [(6, .int (x6 + (nI 1))), (5, .int x6), (7, .int s0), (0, .ref (ad 0)), (2, .int x2), (3, .int x3), (4, .int x4)]) hx hb dX11_chain_116 hl (k := 6) rfl rfl (by decide) rfl (fun ls hl => ?_)
          refine lv_goto (tgt := 35) hx hb dX11_chain_119 (by decide) ?_
          exact hK35 x6 (x6 + (nI 1)) _ _ ls h hP hS (lv_sub hl [3, 4, 5, 6, 1, 0] rfl)
  have j35 : ∀ (x2 : Int32) (x3 : Int32) (x4 : Int32) (K21 : Int32 → Int32 → Int32 → Option Int32) (hK21 : ∀ (x2' : Int32) (x3' : Int32) (x4' : Int32) (H : Heap) (locs : List Loc) (ls : Array Slot), K21 x2' x3' x4' = some res → va_P D vwCl (gw cA ad shM 22 z) H → va_S (gA ad 22) s.heap H locs → lv_has ls 8 [(0, .ref (ad 0)), (2, .int x2'), (3, .int x3'), (4, .int x4')] → W p l e (headSpec wsX11_chain (gRm 3 65)).room s m ([.ref (ad 0), .int a1] : List Value).toArray below meth c H locs 0 0 (MQ below (va_Qi (fun r u => (r, u) = (res, z)) (gPr D cA ad tw shM 22) (gA ad 22)) ([.ref (ad 0), .int a1] : List Value).toArray s 0 0 (gA ad 22)) (F0 m 21 ls [])) (n : Nat) (x5 : Int32) (x6 : Int32) (H : Heap) (locs : List Loc) (ls : Array Slot), f_X11_chain_35 z x2 x3 x4 K21 n x5 x6 = some res → va_P D vwCl (gw cA ad shM 22 z) H → va_S (gA ad 22) s.heap H locs → lv_has ls 8 [(0, .ref (ad 0)), (2, .int x2), (3, .int x3), (4, .int x4), (5, .int x5), (6, .int x6)] → W p l e (headSpec wsX11_chain (gRm 3 65)).room s m ([.ref (ad 0), .int a1] : List Value).toArray below meth c H locs 0 0 (MQ below (va_Qi (fun r u => (r, u) = (res, z)) (gPr D cA ad tw shM 22) (gA ad 22)) ([.ref (ad 0), .int a1] : List Value).toArray s 0 0 (gA ad 22)) (F0 m 35 ls []) := by
    intro x2 x3 x4 K21 hK21 n
    induction n with
    | zero => intro x5 x6 H locs ls h; exact (gno h).elim
    | succ n hK35 =>
      intro x5 x6 H locs ls h hP hS hl
      replace h : f_X11_chain_35_b z x2 x3 x4 K21 (f_X11_chain_35 z x2 x3 x4 K21 n) x5 x6 = some res := h
      unfold f_X11_chain_35_b at h
      refine lv_iload hx hb dX11_chain_35 (lv_at hl 5 rfl) ?_
      refine lv_aload_n hx hb dX11_chain_37 rfl (lv_at hl 0 rfl) ?_
      refine fw_geti hx hb hts in_X11_chain_X11 hown hK hP gF11.1.1 gF11.1.2 rfl 1 (by decide) rfl (hts _ (List.mem_of_getElem? (i := 1) rfl)) rfl dX11_chain_38 ?_
      refine lv_icmp_ge (tgt := 122) hx hb dX11_chain_41 (by decide) (fun c7 => ?_) (fun c7 => ?_)
      · replace h := gif_t h c7
        refine lv_bipush (v := (nI 10)) hx hb dX11_chain_122 (by decide) ?_
        refine lv_iload_n hx hb dX11_chain_124 rfl (lv_at hl 1 rfl) ?_
        refine lv_imul hx hb dX11_chain_125 ?_
        refine lv_iload hx hb dX11_chain_126 (lv_at hl 4 rfl) ?_
        refine lv_iadd hx hb dX11_chain_128 ?_
        refine lv_iconst (v := (nI 1)) hx hb dX11_chain_129 (by decide) ?_
        refine lv_iadd hx hb dX11_chain_130 ?_
        refine lv_topi (fun y8 ey8 => ?_)
        replace h := gl_s h ey8
        refine lv_istore_n (lv' := [(2, .int y8), (0, .ref (ad 0)), (3, .int x3), (4, .int x4), (5, .int x5), (6, .int x6)]) hx hb dX11_chain_131 rfl hl (by decide) rfl (fun ls hl => ?_)
        refine lv_iload_n hx hb dX11_chain_132 rfl (lv_at hl 2 rfl) ?_
        refine lv_iconst (v := (nI 1)) hx hb dX11_chain_133 (by decide) ?_
        refine lv_iload hx hb dX11_chain_134 (lv_at hl 4 rfl) ?_
        refine lv_ishl hx hb dX11_chain_136 ?_
        refine lv_ior hx hb dX11_chain_137 ?_
        refine lv_topi (fun y9 ey9 => ?_)
        replace h := gl_s h ey9
        refine lv_istore_n (lv' := [(3, .int y9), (2, .int y8), (0, .ref (ad 0)), (4, .int x4), (5, .int x5), (6, .int x6)]) hx hb dX11_chain_138 rfl hl (by decide) rfl (fun ls hl => ?_)
        refine lv_iload hx hb dX11_chain_139 (lv_at hl 4 rfl) ?_
        refine lv_istore (lv' := [(4, .int x5), (3, .int y9), (2, .int y8), (0, .ref (ad 0)), (5, .int x5), (6, .int x6)]) hx hb dX11_chain_141 hl (by decide) rfl (fun ls hl => ?_)
        refine lv_goto (tgt := 21) hx hb dX11_chain_143 (by decide) ?_
        exact hK21 y8 y9 x5 _ _ ls h hP hS (lv_sub hl [3, 2, 1, 0] rfl)
      · replace h := gif_f h c7
        refine lv_iload_n hx hb dX11_chain_44 rfl (lv_at hl 2 rfl) ?_
        refine lv_iload hx hb dX11_chain_45 (lv_at hl 5 rfl) ?_
        obtain ⟨q10, hq10, h⟩ := gb_s h
        refine fw_siR (As := [.int x3, .int x6]) (rest := []) ⟨hx, hb, hml, hown, hts⟩ (k_X11_has l D cA ad tw hG z x3 x6 q10 hq10) (va_cwS 2 hts gX11_chain_X11_has rfl rfl rfl hdS_X11_has ⟨Nat.le_of_ble_eq_true rfl, Nat.le_of_ble_eq_true rfl⟩) hK hZ hP rfl hl _ rfl (Nat.le_of_ble_eq_true rfl) hS dX11_chain_47 ⟨Nat.zero_le _, Nat.zero_le _⟩ (fun H locs hP hS => ?_)
        refine lv_if_eq (tgt := 56) hx hb dX11_chain_50 (by decide) (fun c11 => ?_) (fun c11 => ?_)
        · replace h := gif_t h c11
          refine lv_iload hx hb dX11_chain_56 (lv_at hl 4 rfl) ?_
          refine lv_iconst (v := gm1) hx hb dX11_chain_58 (by decide) ?_
          refine lv_icmp_ne (tgt := 66) hx hb dX11_chain_59 (by decide) (fun c12 => ?_) (fun c12 => ?_)
          · replace h := gif_f h c12
            refine lv_aload_n hx hb dX11_chain_66 rfl (lv_at hl 0 rfl) ?_
            refine lv_iload hx hb dX11_chain_67 (lv_at hl 3 rfl) ?_
            refine lv_iload hx hb dX11_chain_69 (lv_at hl 5 rfl) ?_
            obtain ⟨q13, hq13, h⟩ := gb_s h
            refine fw_viR (As := [.int x4, .int x6]) (rest := []) ⟨hx, hb, hml, hown, hts⟩ (k_X11_shared l D cA ad tw hG z x4 x6 q13 hq13) (cwV 2 hts gX11_chain_X11_shared rfl rfl rfl hdV_X11_shared ⟨Nat.le_of_ble_eq_true rfl, Nat.le_of_ble_eq_true rfl⟩) (fw_preV gF11.1.1 gF11.1.2 rfl rfl hK hZ hP hS) rfl hl _ rfl (Nat.le_of_ble_eq_true rfl) hS dX11_chain_71 ⟨Nat.zero_le _, Nat.zero_le _⟩ (fun H locs hP hS => ?_)
            refine lv_aload_n hx hb dX11_chain_74 rfl (lv_at hl 0 rfl) ?_
            refine lv_iload hx hb dX11_chain_75 (lv_at hl 3 rfl) ?_
            refine lv_iload hx hb dX11_chain_77 (lv_at hl 4 rfl) ?_
            obtain ⟨q14, hq14, h⟩ := gb_s h
            refine fw_viR (As := [.int x4, .int x5]) (rest := [.int q13]) ⟨hx, hb, hml, hown, hts⟩ (k_X11_shared l D cA ad tw hG z x4 x5 q14 hq14) (cwV 2 hts gX11_chain_X11_shared rfl rfl rfl hdV_X11_shared ⟨Nat.le_of_ble_eq_true rfl, Nat.le_of_ble_eq_true rfl⟩) (fw_preV gF11.1.1 gF11.1.2 rfl rfl hK hZ hP hS) rfl hl _ rfl (Nat.le_of_ble_eq_true rfl) hS dX11_chain_79 ⟨Nat.zero_le _, Nat.zero_le _⟩ (fun H locs hP hS => ?_)
            refine lv_isub hx hb dX11_chain_82 ?_
            exact j83 x2 x3 x4 x5 x6 _ hK21 _ hK35 (q13 - q14) _ _ ls h hP hS (lv_sub hl [0, 1, 2, 3, 4, 5] rfl)
          · replace h := gif_t h c12
            refine lv_iconst (v := (nI 1)) hx hb dX11_chain_62 (by decide) ?_
            refine lv_goto (tgt := 83) hx hb dX11_chain_63 (by decide) ?_
            exact j83 x2 x3 x4 x5 x6 _ hK21 _ hK35 (nI 1) _ _ ls h hP hS (lv_sub hl [0, 1, 2, 3, 4, 5] rfl)
        · replace h := gif_f h c11
          refine lv_goto (tgt := 116) hx hb dX11_chain_53 (by decide) ?_
          refine lv_iinc (v := x6 + (nI 1)) (lv' := [(6, .int (x6 + (nI 1))), (0, .ref (ad 0)), (2, .int x2), (3, .int x3), (4, .int x4), (5, .int x5)]) hx hb dX11_chain_116 hl (k := 5) rfl rfl (by decide) rfl (fun ls hl => ?_)
          refine lv_goto (tgt := 35) hx hb dX11_chain_119 (by decide) ?_
          exact hK35 x5 (x6 + (nI 1)) _ _ ls h hP hS (lv_sub hl [1, 2, 3, 4, 5, 0] rfl)
  have j21 : ∀  (n : Nat) (x2 : Int32) (x3 : Int32) (x4 : Int32) (H : Heap) (locs : List Loc) (ls : Array Slot), f_X11_chain_21 z n x2 x3 x4 = some res → va_P D vwCl (gw cA ad shM 22 z) H → va_S (gA ad 22) s.heap H locs → lv_has ls 8 [(0, .ref (ad 0)), (2, .int x2), (3, .int x3), (4, .int x4)] → W p l e (headSpec wsX11_chain (gRm 3 65)).room s m ([.ref (ad 0), .int a1] : List Value).toArray below meth c H locs 0 0 (MQ below (va_Qi (fun r u => (r, u) = (res, z)) (gPr D cA ad tw shM 22) (gA ad 22)) ([.ref (ad 0), .int a1] : List Value).toArray s 0 0 (gA ad 22)) (F0 m 21 ls []) := by
    intro n
    induction n with
    | zero => intro x2 x3 x4 H locs ls h; exact (gno h).elim
    | succ n hK21 =>
      intro x2 x3 x4 H locs ls h hP hS hl
      replace h : f_X11_chain_21_b z (f_X11_chain_21 z n) x2 x3 x4 = some res := h
      unfold f_X11_chain_21_b at h
      refine lv_iload_n hx hb dX11_chain_21 rfl (lv_at hl 2 rfl) ?_
      refine lv_aload_n hx hb dX11_chain_22 rfl (lv_at hl 0 rfl) ?_
      obtain ⟨q5, hq5, h⟩ := gb_s h
      refine fw_viR (As := []) (rest := [.int x3]) ⟨hx, hb, hml, hown, hts⟩ (k_X11_all l D cA ad tw hG z  q5 hq5) (cwV 0 hts gX11_chain_X11_all rfl rfl rfl hdV_X11_all ⟨Nat.le_of_ble_eq_true rfl, Nat.le_of_ble_eq_true rfl⟩) (fw_preV gF11.1.1 gF11.1.2 rfl rfl hK hZ hP hS) rfl hl _ rfl (Nat.le_of_ble_eq_true rfl) hS dX11_chain_23 ⟨Nat.zero_le _, Nat.zero_le _⟩ (fun H locs hP hS => ?_)
      refine lv_icmp_eq (tgt := 146) hx hb dX11_chain_26 (by decide) (fun c6 => ?_) (fun c6 => ?_)
      · replace h := gif_t h c6
        refine lv_iload_n hx hb dX11_chain_146 rfl (lv_at hl 1 rfl) ?_
        exact fw_ireti hx hb hr hlocks (congrArg (fun q => (q, z)) (Option.some.inj h)) hK hZ hP hS dX11_chain_147
      · replace h := gif_f h c6
        refine lv_iconst (v := gm1) hx hb dX11_chain_29 (by decide) ?_
        refine lv_istore (lv' := [(5, .int gm1), (0, .ref (ad 0)), (2, .int x2), (3, .int x3), (4, .int x4)]) hx hb dX11_chain_30 hl (by decide) rfl (fun ls hl => ?_)
        refine lv_iconst (v := (nI 0)) hx hb dX11_chain_32 (by decide) ?_
        refine lv_istore (lv' := [(6, .int (nI 0)), (5, .int gm1), (0, .ref (ad 0)), (2, .int x2), (3, .int x3), (4, .int x4)]) hx hb dX11_chain_33 hl (by decide) rfl (fun ls hl => ?_)
        exact j35 x2 x3 x4 _ hK21 gF gm1 (nI 0) _ _ ls h hP hS (lv_sub hl [2, 3, 4, 5, 1, 0] rfl)
  unfold f_X11_chain at h
  refine lv_aload_n hx hb dX11_chain_0 rfl (lv_at hl 0 rfl) ?_
  refine lv_iload_n hx hb dX11_chain_1 rfl (lv_at hl 1 rfl) ?_
  obtain ⟨q1, hq1, h⟩ := gb_s h
  refine fw_viR (As := [.int a1]) (rest := []) ⟨hx, hb, hml, hown, hts⟩ (k_X11_isGrave l D cA ad tw hG z a1 q1 hq1) (cwV 1 hts gX11_chain_X11_isGrave rfl rfl rfl hdV_X11_isGrave ⟨Nat.le_of_ble_eq_true rfl, Nat.le_of_ble_eq_true rfl⟩) (fw_preV gF11.1.1 gF11.1.2 rfl rfl hK hZ hP hS) rfl hl _ rfl (Nat.le_of_ble_eq_true rfl) hS dX11_chain_2 ⟨Nat.zero_le _, Nat.zero_le _⟩ (fun H locs hP hS => ?_)
  refine lv_if_ne (tgt := 10) hx hb dX11_chain_5 (by decide) (fun c2 => ?_) (fun c2 => ?_)
  · replace h := gif_f h c2
    refine lv_iload_n hx hb dX11_chain_10 rfl (lv_at hl 1 rfl) ?_
    refine lv_iconst (v := (nI 1)) hx hb dX11_chain_11 (by decide) ?_
    refine lv_iadd hx hb dX11_chain_12 ?_
    refine lv_topi (fun y3 ey3 => ?_)
    replace h := gl_s h ey3
    refine lv_istore_n (lv' := [(2, .int y3), (0, .ref (ad 0)), (1, .int a1)]) hx hb dX11_chain_13 rfl hl (by decide) rfl (fun ls hl => ?_)
    refine lv_iconst (v := (nI 1)) hx hb dX11_chain_14 (by decide) ?_
    refine lv_iload_n hx hb dX11_chain_15 rfl (lv_at hl 2 rfl) ?_
    refine lv_ishl hx hb dX11_chain_16 ?_
    refine lv_topi (fun y4 ey4 => ?_)
    replace h := gl_s h ey4
    refine lv_istore_n (lv' := [(3, .int y4), (2, .int y3), (0, .ref (ad 0)), (1, .int a1)]) hx hb dX11_chain_17 rfl hl (by decide) rfl (fun ls hl => ?_)
    refine lv_iload_n hx hb dX11_chain_18 rfl (lv_at hl 3 rfl) ?_
    refine lv_istore (lv' := [(4, .int a1), (3, .int y4), (2, .int y3), (0, .ref (ad 0)), (1, .int a1)]) hx hb dX11_chain_19 hl (by decide) rfl (fun ls hl => ?_)
    exact j21  gF y3 y4 a1 _ _ ls h hP hS (lv_sub hl [3, 2, 1, 0] rfl)
  · replace h := gif_t h c2
    refine lv_iconst (v := gm1) hx hb dX11_chain_8 (by decide) ?_
    exact fw_ireti hx hb hr hlocks (congrArg (fun q => (q, z)) (Option.some.inj h)) hK hZ hP hS dX11_chain_9
theorem in_X11_keyOf_X11 : ∀ w ∈ wsX110, w ∈ wsX11_keyOf := fun w h => List.mem_cons_of_mem _ (List.mem_append_right _ (h))
theorem hdV_X11_keyOf : yX11_keyOf.cls = RX11 ∧ yX11_keyOf.cls ≠ "java/lang/invoke/MethodHandle" ∧ yX11_keyOf.cls ≠ "java/lang/invoke/VarHandle" ∧ (parseMethodDescriptor yX11_keyOf.desc).map (fun d => d.parameters.length) = some 2 := by decide +kernel
set_option maxHeartbeats 4000000 in
set_option maxRecDepth 100000 in
theorem k_X11_keyOf (l : Launch) (D : va_G) (cA : Nat → ClassId) (ad : Nat → Nat) (tw : Nat) (hG : gOk ad 22) (z : gS) (a1 : Int32) (a2 : Int32) (res : Int32) (h : f_X11_keyOf a1 a2 z = some res) : gMi l yX11_keyOf wsX11_keyOf (gRm 1 23) D cA ad tw shM 22 [.ref (ad 0), .int a1, .int a2] z (res, z) := by
  refine Met.ofW (cc := cX11_keyOf) (maxL := 3) (ret := (some .int)) (by decide) rfl ?_
  intro p e s m args below meth c s₁ B hml hv
  obtain ⟨rfl, hP, hK, hZ⟩ := hv
  have hx := B.exec
  have hb := B.bytes
  have hr := B.returns
  have hts := atoms_spec (ws := wsX11_keyOf) B.pre
  have hown : s.vm.findClass RX11 = some m.cls := findClass_of_methodNamed B.named
  have hlocks := B.notSynchronized
  have hS : va_S (gA ad 22) s.heap s.heap [] := va_S.rf
  have hl := lv_entry ([.ref (ad 0), .int a1, .int a2]) (n := 3) (Nat.le_of_ble_eq_true rfl)
  rw [lg_entry_eq]
  generalize (lg_sl ([.ref (ad 0), .int a1, .int a2]) ++ List.replicate (3 - (lg_sl ([.ref (ad 0), .int a1, .int a2])).length) Slot.unset).toArray = ls at hl ⊢
  have hl : lv_has ls 3 [(0, .ref (ad 0)), (1, .int a1), (2, .int a2)] := hl
  unfold f_X11_keyOf at h
  refine lv_iload_n hx hb dX11_keyOf_0 rfl (lv_at hl 1 rfl) ?_
  refine lv_if_ne (tgt := 13) hx hb dX11_keyOf_1 (by decide) (fun c1 => ?_) (fun c1 => ?_)
  · replace h := gif_f h c1
    refine lv_iload_n hx hb dX11_keyOf_13 rfl (lv_at hl 1 rfl) ?_
    refine lv_iconst (v := (nI 1)) hx hb dX11_keyOf_14 (by decide) ?_
    refine lv_icmp_ne (tgt := 31) hx hb dX11_keyOf_15 (by decide) (fun c2 => ?_) (fun c2 => ?_)
    · replace h := gif_f h c2
      refine lv_iload_n hx hb dX11_keyOf_31 rfl (lv_at hl 1 rfl) ?_
      refine lv_iconst (v := (nI 2)) hx hb dX11_keyOf_32 (by decide) ?_
      refine lv_icmp_ne (tgt := 45) hx hb dX11_keyOf_33 (by decide) (fun c3 => ?_) (fun c3 => ?_)
      · replace h := gif_f h c3
        refine lv_aload_n hx hb dX11_keyOf_45 rfl (lv_at hl 0 rfl) ?_
        refine fw_getr hx hb hts in_X11_keyOf_X11 hown hK hP gF11.1.1 gF11.1.2 rfl 4 (by decide) rfl (hts _ (List.mem_of_getElem? (i := 2) rfl)) rfl dX11_keyOf_46 ?_
        refine lv_iload_n hx hb dX11_keyOf_49 rfl (lv_at hl 2 rfl) ?_
        obtain ⟨h4, h⟩ := gg_s h
        refine fw_iald hx hb hK hP gF11.2.2.1.1 gF11.2.2.1.2 h4 dX11_keyOf_50 ?_
        exact fw_ireti hx hb hr hlocks (congrArg (fun q => (q, z)) (Option.some.inj h)) hK hZ hP hS dX11_keyOf_51
      · replace h := gif_t h c3
        refine lv_aload_n hx hb dX11_keyOf_36 rfl (lv_at hl 0 rfl) ?_
        refine lv_iload_n hx hb dX11_keyOf_37 rfl (lv_at hl 2 rfl) ?_
        obtain ⟨q5, hq5, h⟩ := gb_s h
        refine fw_viR (As := [.int a2]) (rest := []) ⟨hx, hb, hml, hown, hts⟩ (k_X11_sharers l D cA ad tw hG z a2 q5 hq5) (cwV 1 hts gX11_keyOf_X11_sharers rfl rfl rfl hdV_X11_sharers ⟨Nat.le_of_ble_eq_true rfl, Nat.le_of_ble_eq_true rfl⟩) (fw_preV gF11.1.1 gF11.1.2 rfl rfl hK hZ hP hS) rfl hl _ rfl (Nat.le_of_ble_eq_true rfl) hS dX11_keyOf_38 ⟨Nat.zero_le _, Nat.zero_le _⟩ (fun H locs hP hS => ?_)
        refine lv_ineg hx hb dX11_keyOf_41 ?_
        refine lv_goto (tgt := 51) hx hb dX11_keyOf_42 (by decide) ?_
        exact fw_ireti hx hb hr hlocks (congrArg (fun q => (q, z)) (Option.some.inj h)) hK hZ hP hS dX11_keyOf_51
    · replace h := gif_t h c2
      refine lv_aload_n hx hb dX11_keyOf_18 rfl (lv_at hl 0 rfl) ?_
      refine fw_getr hx hb hts in_X11_keyOf_X11 hown hK hP gF11.1.1 gF11.1.2 rfl 4 (by decide) rfl (hts _ (List.mem_of_getElem? (i := 2) rfl)) rfl dX11_keyOf_19 ?_
      refine lv_iload_n hx hb dX11_keyOf_22 rfl (lv_at hl 2 rfl) ?_
      obtain ⟨h6, h⟩ := gg_s h
      refine fw_iald hx hb hK hP gF11.2.2.1.1 gF11.2.2.1.2 h6 dX11_keyOf_23 ?_
      obtain ⟨q7, hq7, h⟩ := gb_s h
      refine fw_siR (As := [.int (z 2 a2.toNatClampNeg)]) (rest := []) ⟨hx, hb, hml, hown, hts⟩ (k_X11_bits l D cA ad tw hG z (z 2 a2.toNatClampNeg) q7 hq7) (va_cwS 1 hts gX11_keyOf_X11_bits rfl rfl rfl hdS_X11_bits ⟨Nat.le_of_ble_eq_true rfl, Nat.le_of_ble_eq_true rfl⟩) hK hZ hP rfl hl _ rfl (Nat.le_of_ble_eq_true rfl) hS dX11_keyOf_24 ⟨Nat.zero_le _, Nat.zero_le _⟩ (fun H locs hP hS => ?_)
      refine lv_ineg hx hb dX11_keyOf_27 ?_
      refine lv_goto (tgt := 51) hx hb dX11_keyOf_28 (by decide) ?_
      exact fw_ireti hx hb hr hlocks (congrArg (fun q => (q, z)) (Option.some.inj h)) hK hZ hP hS dX11_keyOf_51
  · replace h := gif_t h c1
    refine lv_aload_n hx hb dX11_keyOf_4 rfl (lv_at hl 0 rfl) ?_
    refine fw_getr hx hb hts in_X11_keyOf_X11 hown hK hP gF11.1.1 gF11.1.2 rfl 3 (by decide) rfl (hts _ (List.mem_of_getElem? (i := 1) rfl)) rfl dX11_keyOf_5 ?_
    refine lv_iload_n hx hb dX11_keyOf_8 rfl (lv_at hl 2 rfl) ?_
    obtain ⟨h8, h⟩ := gg_s h
    refine fw_iald hx hb hK hP gF11.2.1.1 gF11.2.1.2 h8 dX11_keyOf_9 ?_
    refine lv_goto (tgt := 51) hx hb dX11_keyOf_10 (by decide) ?_
    exact fw_ireti hx hb hr hlocks (congrArg (fun q => (q, z)) (Option.some.inj h)) hK hZ hP hS dX11_keyOf_51
theorem in_X11_walk_X11 : ∀ w ∈ wsX110, w ∈ wsX11_walk := fun w h => List.mem_cons_of_mem _ (List.mem_append_right _ (h))
theorem hdV_X11_walk : yX11_walk.cls = RX11 ∧ yX11_walk.cls ≠ "java/lang/invoke/MethodHandle" ∧ yX11_walk.cls ≠ "java/lang/invoke/VarHandle" ∧ (parseMethodDescriptor yX11_walk.desc).map (fun d => d.parameters.length) = some 1 := by decide +kernel
set_option maxHeartbeats 4000000 in
set_option maxRecDepth 100000 in
theorem k_X11_walk (l : Launch) (D : va_G) (cA : Nat → ClassId) (ad : Nat → Nat) (tw : Nat) (hG : gOk ad 22) (z : gS) (a1 : Int32) (res : Int32) (h : f_X11_walk a1 z = some res) : gMi l yX11_walk wsX11_walk (gRm 2 45) D cA ad tw shM 22 [.ref (ad 0), .int a1] z (res, z) := by
  refine Met.ofW (cc := cX11_walk) (maxL := 7) (ret := (some .int)) (by decide) rfl ?_
  intro p e s m args below meth c s₁ B hml hv
  obtain ⟨rfl, hP, hK, hZ⟩ := hv
  have hx := B.exec
  have hb := B.bytes
  have hr := B.returns
  have hts := atoms_spec (ws := wsX11_walk) B.pre
  have hown : s.vm.findClass RX11 = some m.cls := findClass_of_methodNamed B.named
  have hlocks := B.notSynchronized
  have hS : va_S (gA ad 22) s.heap s.heap [] := va_S.rf
  have hl := lv_entry ([.ref (ad 0), .int a1]) (n := 7) (Nat.le_of_ble_eq_true rfl)
  rw [lg_entry_eq]
  generalize (lg_sl ([.ref (ad 0), .int a1]) ++ List.replicate (7 - (lg_sl ([.ref (ad 0), .int a1])).length) Slot.unset).toArray = ls at hl ⊢
  have hl : lv_has ls 7 [(0, .ref (ad 0)), (1, .int a1)] := hl
  have j34 : ∀ (x1 : Int32) (x2 : Int32) (x3 : Int32) (x4 : Int32) (K19 : Int32 → Int32 → Int32 → Option Int32) (hK19 : ∀ (x2' : Int32) (x3' : Int32) (x4' : Int32) (H : Heap) (locs : List Loc) (ls : Array Slot), K19 x2' x3' x4' = some res → va_P D vwCl (gw cA ad shM 22 z) H → va_S (gA ad 22) s.heap H locs → lv_has ls 7 [(0, .ref (ad 0)), (1, .int x1), (2, .int x2'), (3, .int x3'), (4, .int x4')] → W p l e (headSpec wsX11_walk (gRm 2 45)).room s m ([.ref (ad 0), .int a1] : List Value).toArray below meth c H locs 0 0 (MQ below (va_Qi (fun r u => (r, u) = (res, z)) (gPr D cA ad tw shM 22) (gA ad 22)) ([.ref (ad 0), .int a1] : List Value).toArray s 0 0 (gA ad 22)) (F0 m 19 ls [])) (n : Nat) (x5 : Int32) (x6 : Int32) (H : Heap) (locs : List Loc) (ls : Array Slot), f_X11_walk_34 z x1 x2 x3 x4 K19 n x5 x6 = some res → va_P D vwCl (gw cA ad shM 22 z) H → va_S (gA ad 22) s.heap H locs → lv_has ls 7 [(0, .ref (ad 0)), (1, .int x1), (2, .int x2), (3, .int x3), (4, .int x4), (5, .int x5), (6, .int x6)] → W p l e (headSpec wsX11_walk (gRm 2 45)).room s m ([.ref (ad 0), .int a1] : List Value).toArray below meth c H locs 0 0 (MQ below (va_Qi (fun r u => (r, u) = (res, z)) (gPr D cA ad tw shM 22) (gA ad 22)) ([.ref (ad 0), .int a1] : List Value).toArray s 0 0 (gA ad 22)) (F0 m 34 ls []) := by
    intro x1 x2 x3 x4 K19 hK19 n
    induction n with
    | zero => intro x5 x6 H locs ls h; exact (gno h).elim
    | succ n hK34 =>
      intro x5 x6 H locs ls h hP hS hl
      replace h : f_X11_walk_34_b z x1 x2 x3 x4 K19 (f_X11_walk_34 z x1 x2 x3 x4 K19 n) x5 x6 = some res := h
      unfold f_X11_walk_34_b at h
      refine lv_iload hx hb dX11_walk_34 (lv_at hl 6 rfl) ?_
      refine lv_aload_n hx hb dX11_walk_36 rfl (lv_at hl 0 rfl) ?_
      refine fw_geti hx hb hts in_X11_walk_X11 hown hK hP gF11.1.1 gF11.1.2 rfl 1 (by decide) rfl (hts _ (List.mem_of_getElem? (i := 1) rfl)) rfl dX11_walk_37 ?_
      refine lv_icmp_ge (tgt := 85) hx hb dX11_walk_40 (by decide) (fun c4 => ?_) (fun c4 => ?_)
      · replace h := gif_t h c4
        refine lv_bipush (v := (nI 10)) hx hb dX11_walk_85 (by decide) ?_
        refine lv_iload_n hx hb dX11_walk_87 rfl (lv_at hl 2 rfl) ?_
        refine lv_imul hx hb dX11_walk_88 ?_
        refine lv_iload hx hb dX11_walk_89 (lv_at hl 5 rfl) ?_
        refine lv_iadd hx hb dX11_walk_91 ?_
        refine lv_iconst (v := (nI 1)) hx hb dX11_walk_92 (by decide) ?_
        refine lv_iadd hx hb dX11_walk_93 ?_
        refine lv_topi (fun y5 ey5 => ?_)
        replace h := gl_s h ey5
        refine lv_istore_n (lv' := [(2, .int y5), (0, .ref (ad 0)), (1, .int x1), (3, .int x3), (4, .int x4), (5, .int x5), (6, .int x6)]) hx hb dX11_walk_94 rfl hl (by decide) rfl (fun ls hl => ?_)
        refine lv_iload_n hx hb dX11_walk_95 rfl (lv_at hl 3 rfl) ?_
        refine lv_iconst (v := (nI 1)) hx hb dX11_walk_96 (by decide) ?_
        refine lv_iload hx hb dX11_walk_97 (lv_at hl 5 rfl) ?_
        refine lv_ishl hx hb dX11_walk_99 ?_
        refine lv_ior hx hb dX11_walk_100 ?_
        refine lv_topi (fun y6 ey6 => ?_)
        replace h := gl_s h ey6
        refine lv_istore_n (lv' := [(3, .int y6), (2, .int y5), (0, .ref (ad 0)), (1, .int x1), (4, .int x4), (5, .int x5), (6, .int x6)]) hx hb dX11_walk_101 rfl hl (by decide) rfl (fun ls hl => ?_)
        refine lv_iinc (v := x4 + (nI 1)) (lv' := [(4, .int (x4 + (nI 1))), (3, .int y6), (2, .int y5), (0, .ref (ad 0)), (1, .int x1), (5, .int x5), (6, .int x6)]) hx hb dX11_walk_102 hl (k := 4) rfl rfl (by decide) rfl (fun ls hl => ?_)
        refine lv_goto (tgt := 19) hx hb dX11_walk_105 (by decide) ?_
        exact hK19 y5 y6 (x4 + (nI 1)) _ _ ls h hP hS (lv_sub hl [3, 4, 2, 1, 0] rfl)
      · replace h := gif_f h c4
        refine lv_iload_n hx hb dX11_walk_43 rfl (lv_at hl 3 rfl) ?_
        refine lv_iload hx hb dX11_walk_44 (lv_at hl 6 rfl) ?_
        obtain ⟨q7, hq7, h⟩ := gb_s h
        refine fw_siR (As := [.int x3, .int x6]) (rest := []) ⟨hx, hb, hml, hown, hts⟩ (k_X11_has l D cA ad tw hG z x3 x6 q7 hq7) (va_cwS 2 hts gX11_walk_X11_has rfl rfl rfl hdS_X11_has ⟨Nat.le_of_ble_eq_true rfl, Nat.le_of_ble_eq_true rfl⟩) hK hZ hP rfl hl _ rfl (Nat.le_of_ble_eq_true rfl) hS dX11_walk_46 ⟨Nat.zero_le _, Nat.zero_le _⟩ (fun H locs hP hS => ?_)
        refine lv_if_ne (tgt := 79) hx hb dX11_walk_49 (by decide) (fun c8 => ?_) (fun c8 => ?_)
        · replace h := gif_f h c8
          refine lv_iinc (v := x6 + (nI 1)) (lv' := [(6, .int (x6 + (nI 1))), (0, .ref (ad 0)), (1, .int x1), (2, .int x2), (3, .int x3), (4, .int x4), (5, .int x5)]) hx hb dX11_walk_79 hl (k := 6) rfl rfl (by decide) rfl (fun ls hl => ?_)
          refine lv_goto (tgt := 34) hx hb dX11_walk_82 (by decide) ?_
          exact hK34 x5 (x6 + (nI 1)) _ _ ls h hP hS (lv_sub hl [1, 2, 3, 4, 5, 6, 0] rfl)
        · replace h := gif_t h c8
          refine lv_iload hx hb dX11_walk_52 (lv_at hl 5 rfl) ?_
          refine lv_iconst (v := gm1) hx hb dX11_walk_54 (by decide) ?_
          refine lv_icmp_eq (tgt := 75) hx hb dX11_walk_55 (by decide) (fun c9 => ?_) (fun c9 => ?_)
          · replace h := gif_t h c9
            refine lv_iload hx hb dX11_walk_75 (lv_at hl 6 rfl) ?_
            refine lv_istore (lv' := [(5, .int x6), (0, .ref (ad 0)), (1, .int x1), (2, .int x2), (3, .int x3), (4, .int x4), (6, .int x6)]) hx hb dX11_walk_77 hl (by decide) rfl (fun ls hl => ?_)
            refine lv_iinc (v := x6 + (nI 1)) (lv' := [(6, .int (x6 + (nI 1))), (5, .int x6), (0, .ref (ad 0)), (1, .int x1), (2, .int x2), (3, .int x3), (4, .int x4)]) hx hb dX11_walk_79 hl (k := 6) rfl rfl (by decide) rfl (fun ls hl => ?_)
            refine lv_goto (tgt := 34) hx hb dX11_walk_82 (by decide) ?_
            exact hK34 x6 (x6 + (nI 1)) _ _ ls h hP hS (lv_sub hl [2, 3, 4, 5, 6, 1, 0] rfl)
          · replace h := gif_f h c9
            refine lv_aload_n hx hb dX11_walk_58 rfl (lv_at hl 0 rfl) ?_
            refine lv_iload_n hx hb dX11_walk_59 rfl (lv_at hl 1 rfl) ?_
            refine lv_iload hx hb dX11_walk_60 (lv_at hl 6 rfl) ?_
            obtain ⟨q10, hq10, h⟩ := gb_s h
            refine fw_viR (As := [.int x1, .int x6]) (rest := []) ⟨hx, hb, hml, hown, hts⟩ (k_X11_keyOf l D cA ad tw hG z x1 x6 q10 hq10) (cwV 2 hts gX11_walk_X11_keyOf rfl rfl rfl hdV_X11_keyOf ⟨Nat.le_of_ble_eq_true rfl, Nat.le_of_ble_eq_true rfl⟩) (fw_preV gF11.1.1 gF11.1.2 rfl rfl hK hZ hP hS) rfl hl _ rfl (Nat.le_of_ble_eq_true rfl) hS dX11_walk_62 ⟨Nat.zero_le _, Nat.zero_le _⟩ (fun H locs hP hS => ?_)
            refine lv_aload_n hx hb dX11_walk_65 rfl (lv_at hl 0 rfl) ?_
            refine lv_iload_n hx hb dX11_walk_66 rfl (lv_at hl 1 rfl) ?_
            refine lv_iload hx hb dX11_walk_67 (lv_at hl 5 rfl) ?_
            obtain ⟨q11, hq11, h⟩ := gb_s h
            refine fw_viR (As := [.int x1, .int x5]) (rest := [.int q10]) ⟨hx, hb, hml, hown, hts⟩ (k_X11_keyOf l D cA ad tw hG z x1 x5 q11 hq11) (cwV 2 hts gX11_walk_X11_keyOf rfl rfl rfl hdV_X11_keyOf ⟨Nat.le_of_ble_eq_true rfl, Nat.le_of_ble_eq_true rfl⟩) (fw_preV gF11.1.1 gF11.1.2 rfl rfl hK hZ hP hS) rfl hl _ rfl (Nat.le_of_ble_eq_true rfl) hS dX11_walk_69 ⟨Nat.zero_le _, Nat.zero_le _⟩ (fun H locs hP hS => ?_)
            refine lv_icmp_ge (tgt := 79) hx hb dX11_walk_72 (by decide) (fun c12 => ?_) (fun c12 => ?_)
            · replace h := gif_t h c12
              refine lv_iinc (v := x6 + (nI 1)) (lv' := [(6, .int (x6 + (nI 1))), (0, .ref (ad 0)), (1, .int x1), (2, .int x2), (3, .int x3), (4, .int x4), (5, .int x5)]) hx hb dX11_walk_79 hl (k := 6) rfl rfl (by decide) rfl (fun ls hl => ?_)
              refine lv_goto (tgt := 34) hx hb dX11_walk_82 (by decide) ?_
              exact hK34 x5 (x6 + (nI 1)) _ _ ls h hP hS (lv_sub hl [1, 2, 3, 4, 5, 6, 0] rfl)
            · replace h := gif_f h c12
              refine lv_iload hx hb dX11_walk_75 (lv_at hl 6 rfl) ?_
              refine lv_istore (lv' := [(5, .int x6), (0, .ref (ad 0)), (1, .int x1), (2, .int x2), (3, .int x3), (4, .int x4), (6, .int x6)]) hx hb dX11_walk_77 hl (by decide) rfl (fun ls hl => ?_)
              refine lv_iinc (v := x6 + (nI 1)) (lv' := [(6, .int (x6 + (nI 1))), (5, .int x6), (0, .ref (ad 0)), (1, .int x1), (2, .int x2), (3, .int x3), (4, .int x4)]) hx hb dX11_walk_79 hl (k := 6) rfl rfl (by decide) rfl (fun ls hl => ?_)
              refine lv_goto (tgt := 34) hx hb dX11_walk_82 (by decide) ?_
              exact hK34 x6 (x6 + (nI 1)) _ _ ls h hP hS (lv_sub hl [2, 3, 4, 5, 6, 1, 0] rfl)
  have j19 : ∀ (x1 : Int32) (n : Nat) (x2 : Int32) (x3 : Int32) (x4 : Int32) (H : Heap) (locs : List Loc) (ls : Array Slot), f_X11_walk_19 z x1 n x2 x3 x4 = some res → va_P D vwCl (gw cA ad shM 22 z) H → va_S (gA ad 22) s.heap H locs → lv_has ls 7 [(0, .ref (ad 0)), (1, .int x1), (2, .int x2), (3, .int x3), (4, .int x4)] → W p l e (headSpec wsX11_walk (gRm 2 45)).room s m ([.ref (ad 0), .int a1] : List Value).toArray below meth c H locs 0 0 (MQ below (va_Qi (fun r u => (r, u) = (res, z)) (gPr D cA ad tw shM 22) (gA ad 22)) ([.ref (ad 0), .int a1] : List Value).toArray s 0 0 (gA ad 22)) (F0 m 19 ls []) := by
    intro x1 n
    induction n with
    | zero => intro x2 x3 x4 H locs ls h; exact (gno h).elim
    | succ n hK19 =>
      intro x2 x3 x4 H locs ls h hP hS hl
      replace h : f_X11_walk_19_b z x1 (f_X11_walk_19 z x1 n) x2 x3 x4 = some res := h
      unfold f_X11_walk_19_b at h
      refine lv_iload hx hb dX11_walk_19 (lv_at hl 4 rfl) ?_
      refine lv_aload_n hx hb dX11_walk_21 rfl (lv_at hl 0 rfl) ?_
      refine fw_geti hx hb hts in_X11_walk_X11 hown hK hP gF11.1.1 gF11.1.2 rfl 1 (by decide) rfl (hts _ (List.mem_of_getElem? (i := 1) rfl)) rfl dX11_walk_22 ?_
      refine lv_icmp_ge (tgt := 108) hx hb dX11_walk_25 (by decide) (fun c3 => ?_) (fun c3 => ?_)
      · replace h := gif_t h c3
        refine lv_iload_n hx hb dX11_walk_108 rfl (lv_at hl 2 rfl) ?_
        exact fw_ireti hx hb hr hlocks (congrArg (fun q => (q, z)) (Option.some.inj h)) hK hZ hP hS dX11_walk_109
      · replace h := gif_f h c3
        refine lv_iconst (v := gm1) hx hb dX11_walk_28 (by decide) ?_
        refine lv_istore (lv' := [(5, .int gm1), (0, .ref (ad 0)), (1, .int x1), (2, .int x2), (3, .int x3), (4, .int x4)]) hx hb dX11_walk_29 hl (by decide) rfl (fun ls hl => ?_)
        refine lv_iconst (v := (nI 0)) hx hb dX11_walk_31 (by decide) ?_
        refine lv_istore (lv' := [(6, .int (nI 0)), (5, .int gm1), (0, .ref (ad 0)), (1, .int x1), (2, .int x2), (3, .int x3), (4, .int x4)]) hx hb dX11_walk_32 hl (by decide) rfl (fun ls hl => ?_)
        exact j34 x1 x2 x3 x4 _ hK19 gF gm1 (nI 0) _ _ ls h hP hS (lv_sub hl [2, 3, 4, 5, 6, 1, 0] rfl)
  unfold f_X11_walk at h
  refine lv_iload_n hx hb dX11_walk_0 rfl (lv_at hl 1 rfl) ?_
  refine lv_iconst (v := (nI 0)) hx hb dX11_walk_1 (by decide) ?_
  refine lv_iconst (v := (nI 3)) hx hb dX11_walk_2 (by decide) ?_
  obtain ⟨q1, hq1, h⟩ := gb_s h
  refine fw_siR (As := [.int a1, .int (nI 0), .int (nI 3)]) (rest := []) ⟨hx, hb, hml, hown, hts⟩ (k_X11_in l D cA ad tw hG z a1 (nI 0) (nI 3) q1 hq1) (va_cwS 3 hts gX11_walk_X11_in rfl rfl rfl hdS_X11_in ⟨Nat.le_of_ble_eq_true rfl, Nat.le_of_ble_eq_true rfl⟩) hK hZ hP rfl hl _ rfl (Nat.le_of_ble_eq_true rfl) hS dX11_walk_3 ⟨Nat.zero_le _, Nat.zero_le _⟩ (fun H locs hP hS => ?_)
  refine lv_if_ne (tgt := 12) hx hb dX11_walk_6 (by decide) (fun c2 => ?_) (fun c2 => ?_)
  · replace h := gif_f h c2
    refine lv_iconst (v := (nI 0)) hx hb dX11_walk_12 (by decide) ?_
    refine lv_istore_n (lv' := [(2, .int (nI 0)), (0, .ref (ad 0)), (1, .int a1)]) hx hb dX11_walk_13 rfl hl (by decide) rfl (fun ls hl => ?_)
    refine lv_iconst (v := (nI 0)) hx hb dX11_walk_14 (by decide) ?_
    refine lv_istore_n (lv' := [(3, .int (nI 0)), (2, .int (nI 0)), (0, .ref (ad 0)), (1, .int a1)]) hx hb dX11_walk_15 rfl hl (by decide) rfl (fun ls hl => ?_)
    refine lv_iconst (v := (nI 0)) hx hb dX11_walk_16 (by decide) ?_
    refine lv_istore (lv' := [(4, .int (nI 0)), (3, .int (nI 0)), (2, .int (nI 0)), (0, .ref (ad 0)), (1, .int a1)]) hx hb dX11_walk_17 hl (by decide) rfl (fun ls hl => ?_)
    exact j19 a1 gF (nI 0) (nI 0) (nI 0) _ _ ls h hP hS (lv_sub hl [3, 4, 2, 1, 0] rfl)
  · replace h := gif_t h c2
    refine lv_bipush (v := (-2)) hx hb dX11_walk_9 (by decide) ?_
    exact fw_ireti hx hb hr hlocks (congrArg (fun q => (q, z)) (Option.some.inj h)) hK hZ hP hS dX11_walk_11
theorem in_X11_turned_X11 : ∀ w ∈ wsX110, w ∈ wsX11_turned := fun w h => List.mem_cons_of_mem _ (List.mem_append_right _ (h))
theorem hdV_X11_turned : yX11_turned.cls = RX11 ∧ yX11_turned.cls ≠ "java/lang/invoke/MethodHandle" ∧ yX11_turned.cls ≠ "java/lang/invoke/VarHandle" ∧ (parseMethodDescriptor yX11_turned.desc).map (fun d => d.parameters.length) = some 1 := by decide +kernel
set_option maxHeartbeats 4000000 in
set_option maxRecDepth 100000 in
theorem k_X11_turned (l : Launch) (D : va_G) (cA : Nat → ClassId) (ad : Nat → Nat) (tw : Nat) (hG : gOk ad 22) (z : gS) (a1 : Int32) (res : Int32 × gS) (h : f_X11_turned a1 z = some res) : gMi l yX11_turned wsX11_turned (gRm 3 68) D cA ad tw shM 22 [.ref (ad 0), .int a1] z res := by
  refine Met.ofW (cc := cX11_turned) (maxL := 4) (ret := (some .int)) (by decide) rfl ?_
  intro p e s m args below meth c s₁ B hml hv
  obtain ⟨rfl, hP, hK, hZ⟩ := hv
  have hx := B.exec
  have hb := B.bytes
  have hr := B.returns
  have hts := atoms_spec (ws := wsX11_turned) B.pre
  have hown : s.vm.findClass RX11 = some m.cls := findClass_of_methodNamed B.named
  have hlocks := B.notSynchronized
  have hS : va_S (gA ad 22) s.heap s.heap [] := va_S.rf
  have hl := lv_entry ([.ref (ad 0), .int a1]) (n := 4) (Nat.le_of_ble_eq_true rfl)
  rw [lg_entry_eq]
  generalize (lg_sl ([.ref (ad 0), .int a1]) ++ List.replicate (4 - (lg_sl ([.ref (ad 0), .int a1])).length) Slot.unset).toArray = ls at hl ⊢
  have hl : lv_has ls 4 [(0, .ref (ad 0)), (1, .int a1)] := hl
  have j20 : ∀ (z : gS) (n : Nat) (x2 : Int32) (x3 : Int32) (H : Heap) (locs : List Loc) (ls : Array Slot), f_X11_turned_20 z n x2 x3 = some res → va_P D vwCl (gw cA ad shM 22 z) H → va_S (gA ad 22) s.heap H locs → lv_has ls 4 [(0, .ref (ad 0)), (2, .int x2), (3, .int x3)] → W p l e (headSpec wsX11_turned (gRm 3 68)).room s m ([.ref (ad 0), .int a1] : List Value).toArray below meth c H locs 0 0 (MQ below (va_Qi (fun r u => (r, u) = res) (gPr D cA ad tw shM 22) (gA ad 22)) ([.ref (ad 0), .int a1] : List Value).toArray s 0 0 (gA ad 22)) (F0 m 20 ls []) := by
    intro z n
    induction n with
    | zero => intro x2 x3 H locs ls h; exact (gno h).elim
    | succ n hK20 =>
      intro x2 x3 H locs ls h hP hS hl
      replace h : f_X11_turned_20_b z (f_X11_turned_20 z n) x2 x3 = some res := h
      unfold f_X11_turned_20_b at h
      refine lv_iload_n hx hb dX11_turned_20 rfl (lv_at hl 2 rfl) ?_
      refine lv_if_lt (tgt := 44) hx hb dX11_turned_21 (by decide) (fun c4 => ?_) (fun c4 => ?_)
      · replace h := gif_t h c4
        refine lv_iload_n hx hb dX11_turned_44 rfl (lv_at hl 1 rfl) ?_
        exact fw_ireti hx hb hr hlocks (Option.some.inj h) hK hZ hP hS dX11_turned_45
      · replace h := gif_f h c4
        refine lv_bipush (v := (nI 10)) hx hb dX11_turned_24 (by decide) ?_
        refine lv_iload_n hx hb dX11_turned_26 rfl (lv_at hl 1 rfl) ?_
        refine lv_imul hx hb dX11_turned_27 ?_
        refine lv_aload_n hx hb dX11_turned_28 rfl (lv_at hl 0 rfl) ?_
        refine fw_getr hx hb hts in_X11_turned_X11 hown hK hP gF11.1.1 gF11.1.2 rfl 6 (by decide) rfl (hts _ (List.mem_of_getElem? (i := 2) rfl)) rfl dX11_turned_29 ?_
        refine lv_iload_n hx hb dX11_turned_32 rfl (lv_at hl 2 rfl) ?_
        obtain ⟨h5, h⟩ := gg_s h
        refine fw_iald hx hb hK hP gF11.2.2.2.2.1.1 gF11.2.2.2.2.1.2 h5 dX11_turned_33 ?_
        refine lv_iadd hx hb dX11_turned_34 ?_
        refine lv_iconst (v := (nI 1)) hx hb dX11_turned_35 (by decide) ?_
        refine lv_iadd hx hb dX11_turned_36 ?_
        refine lv_topi (fun y6 ey6 => ?_)
        replace h := gl_s h ey6
        refine lv_istore_n (lv' := [(2, .int y6), (0, .ref (ad 0)), (3, .int x3)]) hx hb dX11_turned_37 rfl hl (by decide) rfl (fun ls hl => ?_)
        refine lv_iinc (v := x3 + gm1) (lv' := [(3, .int (x3 + gm1)), (2, .int y6), (0, .ref (ad 0))]) hx hb dX11_turned_38 hl (k := 2) rfl rfl (by decide) rfl (fun ls hl => ?_)
        refine lv_goto (tgt := 20) hx hb dX11_turned_41 (by decide) ?_
        exact hK20 y6 (x3 + gm1) _ _ ls h hP hS (lv_sub hl [2, 1, 0] rfl)
  unfold f_X11_turned at h
  refine lv_aload_n hx hb dX11_turned_0 rfl (lv_at hl 0 rfl) ?_
  refine lv_iload_n hx hb dX11_turned_1 rfl (lv_at hl 1 rfl) ?_
  obtain ⟨q1, hq1, h⟩ := gb_s h
  refine fw_vi (As := [.int a1]) (rest := []) ⟨hx, hb, hml, hown, hts⟩ (k_X11_isOrder l D cA ad tw hG z a1 q1 hq1) (cwV 1 hts gX11_turned_X11_isOrder rfl rfl rfl hdV_X11_isOrder ⟨Nat.le_of_ble_eq_true rfl, Nat.le_of_ble_eq_true rfl⟩) (fw_preV gF11.1.1 gF11.1.2 rfl rfl hK hZ hP hS) rfl hl _ rfl (Nat.le_of_ble_eq_true rfl) hS dX11_turned_2 ⟨Nat.zero_le _, Nat.zero_le _⟩ (fun H locs hP hS => ?_)
  refine lv_if_ne (tgt := 11) hx hb dX11_turned_5 (by decide) (fun c2 => ?_) (fun c2 => ?_)
  · replace h := gif_f h c2
    refine lv_iconst (v := (nI 0)) hx hb dX11_turned_11 (by decide) ?_
    refine lv_istore_n (lv' := [(2, .int (nI 0)), (0, .ref (ad 0)), (1, .int a1)]) hx hb dX11_turned_12 rfl hl (by decide) rfl (fun ls hl => ?_)
    refine lv_aload_n hx hb dX11_turned_13 rfl (lv_at hl 1 rfl) ?_
    refine fw_geti hx hb hts in_X11_turned_X11 hown hK hP gF11.1.1 gF11.1.2 rfl 7 (by decide) rfl (hts _ (List.mem_of_getElem? (i := 1) rfl)) rfl dX11_turned_14 ?_
    refine lv_iconst (v := (nI 1)) hx hb dX11_turned_17 (by decide) ?_
    refine lv_isub hx hb dX11_turned_18 ?_
    refine lv_topi (fun y3 ey3 => ?_)
    replace h := gl_s h ey3
    refine lv_istore_n (lv' := [(3, .int y3), (2, .int (nI 0)), (0, .ref (ad 0)), (1, .int a1)]) hx hb dX11_turned_19 rfl hl (by decide) rfl (fun ls hl => ?_)
    exact j20 q1.2  gF (nI 0) y3 _ _ ls h hP hS (lv_sub hl [2, 1, 0] rfl)
  · replace h := gif_t h c2
    refine lv_bipush (v := (-2)) hx hb dX11_turned_8 (by decide) ?_
    exact fw_ireti hx hb hr hlocks (Option.some.inj h) hK hZ hP hS dX11_turned_10
theorem in_X11_rank_X11 : ∀ w ∈ wsX110, w ∈ wsX11_rank := fun w h => List.mem_cons_of_mem _ (List.mem_append_right _ (h))
theorem hdV_X11_rank : yX11_rank.cls = RX11 ∧ yX11_rank.cls ≠ "java/lang/invoke/MethodHandle" ∧ yX11_rank.cls ≠ "java/lang/invoke/VarHandle" ∧ (parseMethodDescriptor yX11_rank.desc).map (fun d => d.parameters.length) = some 1 := by decide +kernel
set_option maxHeartbeats 4000000 in
set_option maxRecDepth 100000 in
theorem k_X11_rank (l : Launch) (D : va_G) (cA : Nat → ClassId) (ad : Nat → Nat) (tw : Nat) (hG : gOk ad 22) (z : gS) (a1 : Int32) (res : Int32 × gS) (h : f_X11_rank a1 z = some res) : gMi l yX11_rank wsX11_rank (gRm 4 89) D cA ad tw shM 22 [.ref (ad 0), .int a1] z res := by
  refine Met.ofW (cc := cX11_rank) (maxL := 3) (ret := (some .int)) (by decide) rfl ?_
  intro p e s m args below meth c s₁ B hml hv
  obtain ⟨rfl, hP, hK, hZ⟩ := hv
  have hx := B.exec
  have hb := B.bytes
  have hr := B.returns
  have hts := atoms_spec (ws := wsX11_rank) B.pre
  have hown : s.vm.findClass RX11 = some m.cls := findClass_of_methodNamed B.named
  have hlocks := B.notSynchronized
  have hS : va_S (gA ad 22) s.heap s.heap [] := va_S.rf
  have hl := lv_entry ([.ref (ad 0), .int a1]) (n := 3) (Nat.le_of_ble_eq_true rfl)
  rw [lg_entry_eq]
  generalize (lg_sl ([.ref (ad 0), .int a1]) ++ List.replicate (3 - (lg_sl ([.ref (ad 0), .int a1])).length) Slot.unset).toArray = ls at hl ⊢
  have hl : lv_has ls 3 [(0, .ref (ad 0)), (1, .int a1)] := hl
  have j17 : ∀ (z : gS) (x1 : Int32) (n : Nat) (x2 : Int32) (H : Heap) (locs : List Loc) (ls : Array Slot), f_X11_rank_17 z x1 n x2 = some res → va_P D vwCl (gw cA ad shM 22 z) H → va_S (gA ad 22) s.heap H locs → lv_has ls 3 [(0, .ref (ad 0)), (1, .int x1), (2, .int x2)] → W p l e (headSpec wsX11_rank (gRm 4 89)).room s m ([.ref (ad 0), .int a1] : List Value).toArray below meth c H locs 0 0 (MQ below (va_Qi (fun r u => (r, u) = res) (gPr D cA ad tw shM 22) (gA ad 22)) ([.ref (ad 0), .int a1] : List Value).toArray s 0 0 (gA ad 22)) (F0 m 17 ls []) := by
    intro z x1 n
    induction n with
    | zero => intro x2 H locs ls h; exact (gno h).elim
    | succ n hK17 =>
      intro x2 H locs ls h hP hS hl
      replace h : f_X11_rank_17_b z x1 (f_X11_rank_17 z x1 n) x2 = some res := h
      unfold f_X11_rank_17_b at h
      refine lv_iload_n hx hb dX11_rank_17 rfl (lv_at hl 2 rfl) ?_
      refine lv_aload_n hx hb dX11_rank_18 rfl (lv_at hl 0 rfl) ?_
      refine fw_geti hx hb hts in_X11_rank_X11 hown hK hP gF11.1.1 gF11.1.2 rfl 10 (by decide) rfl (hts _ (List.mem_of_getElem? (i := 1) rfl)) rfl dX11_rank_19 ?_
      refine lv_icmp_ge (tgt := 41) hx hb dX11_rank_22 (by decide) (fun c4 => ?_) (fun c4 => ?_)
      · replace h := gif_t h c4
        refine lv_iload_n hx hb dX11_rank_41 rfl (lv_at hl 2 rfl) ?_
        exact fw_ireti hx hb hr hlocks (Option.some.inj h) hK hZ hP hS dX11_rank_42
      · replace h := gif_f h c4
        refine lv_aload_n hx hb dX11_rank_25 rfl (lv_at hl 0 rfl) ?_
        refine fw_getr hx hb hts in_X11_rank_X11 hown hK hP gF11.1.1 gF11.1.2 rfl 9 (by decide) rfl (hts _ (List.mem_of_getElem? (i := 2) rfl)) rfl dX11_rank_26 ?_
        refine lv_iload_n hx hb dX11_rank_29 rfl (lv_at hl 2 rfl) ?_
        obtain ⟨h5, h⟩ := gg_s h
        refine fw_iald hx hb hK hP gF11.2.2.2.2.2.1.1 gF11.2.2.2.2.2.1.2 h5 dX11_rank_30 ?_
        refine lv_iload_n hx hb dX11_rank_31 rfl (lv_at hl 1 rfl) ?_
        refine lv_icmp_ge (tgt := 41) hx hb dX11_rank_32 (by decide) (fun c6 => ?_) (fun c6 => ?_)
        · replace h := gif_t h c6
          refine lv_iload_n hx hb dX11_rank_41 rfl (lv_at hl 2 rfl) ?_
          exact fw_ireti hx hb hr hlocks (Option.some.inj h) hK hZ hP hS dX11_rank_42
        · replace h := gif_f h c6
          refine lv_iinc (v := x2 + (nI 1)) (lv' := [(2, .int (x2 + (nI 1))), (0, .ref (ad 0)), (1, .int x1)]) hx hb dX11_rank_35 hl (k := 2) rfl rfl (by decide) rfl (fun ls hl => ?_)
          refine lv_goto (tgt := 17) hx hb dX11_rank_38 (by decide) ?_
          exact hK17 (x2 + (nI 1)) _ _ ls h hP hS (lv_sub hl [1, 2, 0] rfl)
  unfold f_X11_rank at h
  refine lv_aload_n hx hb dX11_rank_0 rfl (lv_at hl 0 rfl) ?_
  refine lv_iload_n hx hb dX11_rank_1 rfl (lv_at hl 1 rfl) ?_
  obtain ⟨q1, hq1, h⟩ := gb_s h
  refine fw_vi (As := [.int a1]) (rest := []) ⟨hx, hb, hml, hown, hts⟩ (k_X11_isOrder l D cA ad tw hG z a1 q1 hq1) (cwV 1 hts gX11_rank_X11_isOrder rfl rfl rfl hdV_X11_isOrder ⟨Nat.le_of_ble_eq_true rfl, Nat.le_of_ble_eq_true rfl⟩) (fw_preV gF11.1.1 gF11.1.2 rfl rfl hK hZ hP hS) rfl hl _ rfl (Nat.le_of_ble_eq_true rfl) hS dX11_rank_2 ⟨Nat.zero_le _, Nat.zero_le _⟩ (fun H locs hP hS => ?_)
  refine lv_if_ne (tgt := 11) hx hb dX11_rank_5 (by decide) (fun c2 => ?_) (fun c2 => ?_)
  · replace h := gif_f h c2
    refine lv_aload_n hx hb dX11_rank_11 rfl (lv_at hl 0 rfl) ?_
    obtain ⟨q3, hq3, h⟩ := gb_s h
    refine fw_vv (As := []) (rest := []) ⟨hx, hb, hml, hown, hts⟩ (k_X11_gaplessOnes l D cA ad tw hG q1.2  q3 hq3) (cwV 0 hts gX11_rank_X11_gaplessOnes rfl rfl rfl hdV_X11_gaplessOnes ⟨Nat.le_of_ble_eq_true rfl, Nat.le_of_ble_eq_true rfl⟩) (fw_preV gF11.1.1 gF11.1.2 rfl rfl hK hZ hP hS) rfl hl _ rfl (Nat.le_of_ble_eq_true rfl) hS dX11_rank_12 ⟨Nat.zero_le _, Nat.zero_le _⟩ (fun H locs hP hS => ?_)
    refine lv_iconst (v := (nI 0)) hx hb dX11_rank_15 (by decide) ?_
    refine lv_istore_n (lv' := [(2, .int (nI 0)), (0, .ref (ad 0)), (1, .int a1)]) hx hb dX11_rank_16 rfl hl (by decide) rfl (fun ls hl => ?_)
    exact j17 q3 a1 gF (nI 0) _ _ ls h hP hS (lv_sub hl [1, 2, 0] rfl)
  · replace h := gif_t h c2
    refine lv_bipush (v := (-2)) hx hb dX11_rank_8 (by decide) ?_
    exact fw_ireti hx hb hr hlocks (Option.some.inj h) hK hZ hP hS dX11_rank_10
theorem in_X11_swap_X11 : ∀ w ∈ wsX110, w ∈ wsX11_swap := fun w h => List.mem_cons_of_mem _ (List.mem_append_right _ (h))
theorem hdV_X11_swap : yX11_swap.cls = RX11 ∧ yX11_swap.cls ≠ "java/lang/invoke/MethodHandle" ∧ yX11_swap.cls ≠ "java/lang/invoke/VarHandle" ∧ (parseMethodDescriptor yX11_swap.desc).map (fun d => d.parameters.length) = some 3 := by decide +kernel
set_option maxHeartbeats 4000000 in
set_option maxRecDepth 100000 in
theorem k_X11_swap (l : Launch) (D : va_G) (cA : Nat → ClassId) (ad : Nat → Nat) (tw : Nat) (hG : gOk ad 22) (z : gS) (a1 : Int32) (a2 : Int32) (a3 : Int32) (res : Int32 × gS) (h : f_X11_swap a1 a2 a3 z = some res) : gMi l yX11_swap wsX11_swap (gRm 3 68) D cA ad tw shM 22 [.ref (ad 0), .int a1, .int a2, .int a3] z res := by
  refine Met.ofW (cc := cX11_swap) (maxL := 5) (ret := (some .int)) (by decide) rfl ?_
  intro p e s m args below meth c s₁ B hml hv
  obtain ⟨rfl, hP, hK, hZ⟩ := hv
  have hx := B.exec
  have hb := B.bytes
  have hr := B.returns
  have hts := atoms_spec (ws := wsX11_swap) B.pre
  have hown : s.vm.findClass RX11 = some m.cls := findClass_of_methodNamed B.named
  have hlocks := B.notSynchronized
  have hS : va_S (gA ad 22) s.heap s.heap [] := va_S.rf
  have hl := lv_entry ([.ref (ad 0), .int a1, .int a2, .int a3]) (n := 5) (Nat.le_of_ble_eq_true rfl)
  rw [lg_entry_eq]
  generalize (lg_sl ([.ref (ad 0), .int a1, .int a2, .int a3]) ++ List.replicate (5 - (lg_sl ([.ref (ad 0), .int a1, .int a2, .int a3])).length) Slot.unset).toArray = ls at hl ⊢
  have hl : lv_has ls 5 [(0, .ref (ad 0)), (1, .int a1), (2, .int a2), (3, .int a3)] := hl
  have j32 : ∀ (x2 : Int32) (x3 : Int32) (n : Nat) (x4 : Int32) (z : gS) (H : Heap) (locs : List Loc) (ls : Array Slot), f_X11_swap_32 x2 x3 n x4 z = some res → va_P D vwCl (gw cA ad shM 22 z) H → va_S (gA ad 22) s.heap H locs → lv_has ls 5 [(0, .ref (ad 0)), (2, .int x2), (3, .int x3), (4, .int x4)] → W p l e (headSpec wsX11_swap (gRm 3 68)).room s m ([.ref (ad 0), .int a1, .int a2, .int a3] : List Value).toArray below meth c H locs 0 0 (MQ below (va_Qi (fun r u => (r, u) = res) (gPr D cA ad tw shM 22) (gA ad 22)) ([.ref (ad 0), .int a1, .int a2, .int a3] : List Value).toArray s 0 0 (gA ad 22)) (F0 m 32 ls []) := by
    intro x2 x3 n
    induction n with
    | zero => intro x4 z H locs ls h; exact (gno h).elim
    | succ n hK32 =>
      intro x4 z H locs ls h hP hS hl
      replace h : f_X11_swap_32_b x2 x3 (f_X11_swap_32 x2 x3 n) x4 z = some res := h
      unfold f_X11_swap_32_b at h
      refine lv_iload hx hb dX11_swap_32 (lv_at hl 3 rfl) ?_
      refine lv_aload_n hx hb dX11_swap_34 rfl (lv_at hl 0 rfl) ?_
      refine fw_geti hx hb hts in_X11_swap_X11 hown hK hP gF11.1.1 gF11.1.2 rfl 7 (by decide) rfl (hts _ (List.mem_of_getElem? (i := 1) rfl)) rfl dX11_swap_35 ?_
      refine lv_icmp_ge (tgt := 91) hx hb dX11_swap_38 (by decide) (fun c7 => ?_) (fun c7 => ?_)
      · replace h := gif_t h c7
        refine lv_aload_n hx hb dX11_swap_91 rfl (lv_at hl 0 rfl) ?_
        obtain ⟨q8, hq8, h⟩ := gb_s h
        refine fw_viR (As := []) (rest := []) ⟨hx, hb, hml, hown, hts⟩ (k_X11_digits l D cA ad tw hG z  q8 hq8) (cwV 0 hts gX11_swap_X11_digits rfl rfl rfl hdV_X11_digits ⟨Nat.le_of_ble_eq_true rfl, Nat.le_of_ble_eq_true rfl⟩) (fw_preV gF11.1.1 gF11.1.2 rfl rfl hK hZ hP hS) rfl hl _ rfl (Nat.le_of_ble_eq_true rfl) hS dX11_swap_92 ⟨Nat.zero_le _, Nat.zero_le _⟩ (fun H locs hP hS => ?_)
        exact fw_ireti hx hb hr hlocks (Option.some.inj h) hK hZ hP hS dX11_swap_95
      · replace h := gif_f h c7
        refine lv_aload_n hx hb dX11_swap_41 rfl (lv_at hl 0 rfl) ?_
        refine fw_getr hx hb hts in_X11_swap_X11 hown hK hP gF11.1.1 gF11.1.2 rfl 6 (by decide) rfl (hts _ (List.mem_of_getElem? (i := 2) rfl)) rfl dX11_swap_42 ?_
        refine lv_iload hx hb dX11_swap_45 (lv_at hl 3 rfl) ?_
        refine lv_aload_n hx hb dX11_swap_47 rfl (lv_at hl 0 rfl) ?_
        refine fw_getr hx hb hts in_X11_swap_X11 hown hK hP gF11.1.1 gF11.1.2 rfl 6 (by decide) rfl (hts _ (List.mem_of_getElem? (i := 2) rfl)) rfl dX11_swap_48 ?_
        refine lv_iload hx hb dX11_swap_51 (lv_at hl 3 rfl) ?_
        obtain ⟨h9, h⟩ := gg_s h
        refine fw_iald hx hb hK hP gF11.2.2.2.2.1.1 gF11.2.2.2.2.1.2 h9 dX11_swap_53 ?_
        refine lv_iload_n hx hb dX11_swap_54 rfl (lv_at hl 1 rfl) ?_
        refine lv_icmp_ne (tgt := 62) hx hb dX11_swap_55 (by decide) (fun c10 => ?_) (fun c10 => ?_)
        · replace h := gif_f h c10
          refine lv_aload_n hx hb dX11_swap_62 rfl (lv_at hl 0 rfl) ?_
          refine fw_getr hx hb hts in_X11_swap_X11 hown hK hP gF11.1.1 gF11.1.2 rfl 6 (by decide) rfl (hts _ (List.mem_of_getElem? (i := 2) rfl)) rfl dX11_swap_63 ?_
          refine lv_iload hx hb dX11_swap_66 (lv_at hl 3 rfl) ?_
          obtain ⟨h11, h⟩ := gg_s h
          refine fw_iald hx hb hK hP gF11.2.2.2.2.1.1 gF11.2.2.2.2.1.2 h11 dX11_swap_68 ?_
          refine lv_iload_n hx hb dX11_swap_69 rfl (lv_at hl 2 rfl) ?_
          refine lv_icmp_ne (tgt := 77) hx hb dX11_swap_70 (by decide) (fun c12 => ?_) (fun c12 => ?_)
          · replace h := gif_f h c12
            refine lv_aload_n hx hb dX11_swap_77 rfl (lv_at hl 0 rfl) ?_
            refine fw_getr hx hb hts in_X11_swap_X11 hown hK hP gF11.1.1 gF11.1.2 rfl 6 (by decide) rfl (hts _ (List.mem_of_getElem? (i := 2) rfl)) rfl dX11_swap_78 ?_
            refine lv_iload hx hb dX11_swap_81 (lv_at hl 3 rfl) ?_
            obtain ⟨h13, h⟩ := gg_s h
            refine fw_iald hx hb hK hP gF11.2.2.2.2.1.1 gF11.2.2.2.2.1.2 h13 dX11_swap_83 ?_
            obtain ⟨h14, h⟩ := gg_s h
            refine fw_iast hx hb hK hG hP hS gF11.2.2.2.2.1.1 gF11.2.2.2.2.1.2 h14 dX11_swap_84 (fun z15 H locs ez15 hP hS => ?_)
            replace h := gl_s h ez15
            refine lv_iinc (v := x4 + (nI 1)) (lv' := [(4, .int (x4 + (nI 1))), (0, .ref (ad 0)), (2, .int x2), (3, .int x3)]) hx hb dX11_swap_85 hl (k := 3) rfl rfl (by decide) rfl (fun ls hl => ?_)
            refine lv_goto (tgt := 32) hx hb dX11_swap_88 (by decide) ?_
            exact hK32 (x4 + (nI 1)) z15 _ _ ls h hP hS (lv_sub hl [1, 2, 3, 0] rfl)
          · replace h := gif_t h c12
            refine lv_iload_n hx hb dX11_swap_73 rfl (lv_at hl 1 rfl) ?_
            refine lv_goto (tgt := 84) hx hb dX11_swap_74 (by decide) ?_
            obtain ⟨h16, h⟩ := gg_s h
            refine fw_iast hx hb hK hG hP hS gF11.2.2.2.2.1.1 gF11.2.2.2.2.1.2 h16 dX11_swap_84 (fun z17 H locs ez17 hP hS => ?_)
            replace h := gl_s h ez17
            refine lv_iinc (v := x4 + (nI 1)) (lv' := [(4, .int (x4 + (nI 1))), (0, .ref (ad 0)), (2, .int x2), (3, .int x3)]) hx hb dX11_swap_85 hl (k := 3) rfl rfl (by decide) rfl (fun ls hl => ?_)
            refine lv_goto (tgt := 32) hx hb dX11_swap_88 (by decide) ?_
            exact hK32 (x4 + (nI 1)) z17 _ _ ls h hP hS (lv_sub hl [1, 2, 3, 0] rfl)
        · replace h := gif_t h c10
          refine lv_iload_n hx hb dX11_swap_58 rfl (lv_at hl 2 rfl) ?_
          refine lv_goto (tgt := 84) hx hb dX11_swap_59 (by decide) ?_
          obtain ⟨h18, h⟩ := gg_s h
          refine fw_iast hx hb hK hG hP hS gF11.2.2.2.2.1.1 gF11.2.2.2.2.1.2 h18 dX11_swap_84 (fun z19 H locs ez19 hP hS => ?_)
          replace h := gl_s h ez19
          refine lv_iinc (v := x4 + (nI 1)) (lv' := [(4, .int (x4 + (nI 1))), (0, .ref (ad 0)), (2, .int x2), (3, .int x3)]) hx hb dX11_swap_85 hl (k := 3) rfl rfl (by decide) rfl (fun ls hl => ?_)
          refine lv_goto (tgt := 32) hx hb dX11_swap_88 (by decide) ?_
          exact hK32 (x4 + (nI 1)) z19 _ _ ls h hP hS (lv_sub hl [1, 2, 3, 0] rfl)
  unfold f_X11_swap at h
  refine lv_aload_n hx hb dX11_swap_0 rfl (lv_at hl 0 rfl) ?_
  refine lv_iload_n hx hb dX11_swap_1 rfl (lv_at hl 1 rfl) ?_
  obtain ⟨q1, hq1, h⟩ := gb_s h
  refine fw_vi (As := [.int a1]) (rest := []) ⟨hx, hb, hml, hown, hts⟩ (k_X11_isOrder l D cA ad tw hG z a1 q1 hq1) (cwV 1 hts gX11_swap_X11_isOrder rfl rfl rfl hdV_X11_isOrder ⟨Nat.le_of_ble_eq_true rfl, Nat.le_of_ble_eq_true rfl⟩) (fw_preV gF11.1.1 gF11.1.2 rfl rfl hK hZ hP hS) rfl hl _ rfl (Nat.le_of_ble_eq_true rfl) hS dX11_swap_2 ⟨Nat.zero_le _, Nat.zero_le _⟩ (fun H locs hP hS => ?_)
  refine lv_if_ne (tgt := 11) hx hb dX11_swap_5 (by decide) (fun c2 => ?_) (fun c2 => ?_)
  · replace h := gif_f h c2
    refine lv_aload_n hx hb dX11_swap_11 rfl (lv_at hl 0 rfl) ?_
    refine lv_iload_n hx hb dX11_swap_12 rfl (lv_at hl 2 rfl) ?_
    obtain ⟨q3, hq3, h⟩ := gb_s h
    refine fw_viR (As := [.int a2]) (rest := []) ⟨hx, hb, hml, hown, hts⟩ (k_X11_isGrave l D cA ad tw hG q1.2 a2 q3 hq3) (cwV 1 hts gX11_swap_X11_isGrave rfl rfl rfl hdV_X11_isGrave ⟨Nat.le_of_ble_eq_true rfl, Nat.le_of_ble_eq_true rfl⟩) (fw_preV gF11.1.1 gF11.1.2 rfl rfl hK hZ hP hS) rfl hl _ rfl (Nat.le_of_ble_eq_true rfl) hS dX11_swap_13 ⟨Nat.zero_le _, Nat.zero_le _⟩ (fun H locs hP hS => ?_)
    refine lv_if_eq (tgt := 27) hx hb dX11_swap_16 (by decide) (fun c4 => ?_) (fun c4 => ?_)
    · replace h := gif_t h c4
      refine lv_iconst (v := gm1) hx hb dX11_swap_27 (by decide) ?_
      exact fw_ireti hx hb hr hlocks (Option.some.inj h) hK hZ hP hS dX11_swap_28
    · replace h := gif_f h c4
      refine lv_aload_n hx hb dX11_swap_19 rfl (lv_at hl 0 rfl) ?_
      refine lv_iload_n hx hb dX11_swap_20 rfl (lv_at hl 3 rfl) ?_
      obtain ⟨q5, hq5, h⟩ := gb_s h
      refine fw_viR (As := [.int a3]) (rest := []) ⟨hx, hb, hml, hown, hts⟩ (k_X11_isGrave l D cA ad tw hG q1.2 a3 q5 hq5) (cwV 1 hts gX11_swap_X11_isGrave rfl rfl rfl hdV_X11_isGrave ⟨Nat.le_of_ble_eq_true rfl, Nat.le_of_ble_eq_true rfl⟩) (fw_preV gF11.1.1 gF11.1.2 rfl rfl hK hZ hP hS) rfl hl _ rfl (Nat.le_of_ble_eq_true rfl) hS dX11_swap_21 ⟨Nat.zero_le _, Nat.zero_le _⟩ (fun H locs hP hS => ?_)
      refine lv_if_ne (tgt := 29) hx hb dX11_swap_24 (by decide) (fun c6 => ?_) (fun c6 => ?_)
      · replace h := gif_f h c6
        refine lv_iconst (v := (nI 0)) hx hb dX11_swap_29 (by decide) ?_
        refine lv_istore (lv' := [(4, .int (nI 0)), (0, .ref (ad 0)), (1, .int a1), (2, .int a2), (3, .int a3)]) hx hb dX11_swap_30 hl (by decide) rfl (fun ls hl => ?_)
        exact j32 a2 a3 gF (nI 0) q1.2 _ _ ls h hP hS (lv_sub hl [1, 3, 4, 0] rfl)
      · replace h := gif_t h c6
        refine lv_iconst (v := gm1) hx hb dX11_swap_27 (by decide) ?_
        exact fw_ireti hx hb hr hlocks (Option.some.inj h) hK hZ hP hS dX11_swap_28
  · replace h := gif_t h c2
    refine lv_bipush (v := (-2)) hx hb dX11_swap_8 (by decide) ?_
    exact fw_ireti hx hb hr hlocks (Option.some.inj h) hK hZ hP hS dX11_swap_10
theorem in_X11_feed_X11 : ∀ w ∈ wsX110, w ∈ wsX11_feed := fun w h => List.mem_cons_of_mem _ (List.mem_append_right _ (h))
theorem hdV_X11_feed : yX11_feed.cls = RX11 ∧ yX11_feed.cls ≠ "java/lang/invoke/MethodHandle" ∧ yX11_feed.cls ≠ "java/lang/invoke/VarHandle" ∧ (parseMethodDescriptor yX11_feed.desc).map (fun d => d.parameters.length) = some 1 := by decide +kernel
set_option maxHeartbeats 4000000 in
set_option maxRecDepth 100000 in
theorem k_X11_feed (l : Launch) (D : va_G) (cA : Nat → ClassId) (ad : Nat → Nat) (tw : Nat) (hG : gOk ad 22) (z : gS) (a1 : Int32) (res : Int32 × gS) (h : f_X11_feed a1 z = some res) : gMi l yX11_feed wsX11_feed (gRm 1 22) D cA ad tw shM 22 [.ref (ad 0), .int a1] z res := by
  refine Met.ofW (cc := cX11_feed) (maxL := 2) (ret := (some .int)) (by decide) rfl ?_
  intro p e s m args below meth c s₁ B hml hv
  obtain ⟨rfl, hP, hK, hZ⟩ := hv
  have hx := B.exec
  have hb := B.bytes
  have hr := B.returns
  have hts := atoms_spec (ws := wsX11_feed) B.pre
  have hown : s.vm.findClass RX11 = some m.cls := findClass_of_methodNamed B.named
  have hlocks := B.notSynchronized
  have hS : va_S (gA ad 22) s.heap s.heap [] := va_S.rf
  have hl := lv_entry ([.ref (ad 0), .int a1]) (n := 2) (Nat.le_of_ble_eq_true rfl)
  rw [lg_entry_eq]
  generalize (lg_sl ([.ref (ad 0), .int a1]) ++ List.replicate (2 - (lg_sl ([.ref (ad 0), .int a1])).length) Slot.unset).toArray = ls at hl ⊢
  have hl : lv_has ls 2 [(0, .ref (ad 0)), (1, .int a1)] := hl
  unfold f_X11_feed at h
  refine lv_iload_n hx hb dX11_feed_0 rfl (lv_at hl 1 rfl) ?_
  refine lv_iconst (v := (nI 0)) hx hb dX11_feed_1 (by decide) ?_
  refine lv_bipush (v := (nI 127)) hx hb dX11_feed_2 (by decide) ?_
  obtain ⟨q1, hq1, h⟩ := gb_s h
  refine fw_siR (As := [.int a1, .int (nI 0), .int (nI 127)]) (rest := []) ⟨hx, hb, hml, hown, hts⟩ (k_X11_in l D cA ad tw hG z a1 (nI 0) (nI 127) q1 hq1) (va_cwS 3 hts gX11_feed_X11_in rfl rfl rfl hdS_X11_in ⟨Nat.le_of_ble_eq_true rfl, Nat.le_of_ble_eq_true rfl⟩) hK hZ hP rfl hl _ rfl (Nat.le_of_ble_eq_true rfl) hS dX11_feed_4 ⟨Nat.zero_le _, Nat.zero_le _⟩ (fun H locs hP hS => ?_)
  refine lv_if_ne (tgt := 13) hx hb dX11_feed_7 (by decide) (fun c2 => ?_) (fun c2 => ?_)
  · replace h := gif_f h c2
    refine lv_aload_n hx hb dX11_feed_13 rfl (lv_at hl 0 rfl) ?_
    refine fw_geti hx hb hts in_X11_feed_X11 hown hK hP gF11.1.1 gF11.1.2 rfl 15 (by decide) rfl (hts _ (List.mem_of_getElem? (i := 1) rfl)) rfl dX11_feed_14 ?_
    refine lv_bipush (v := (nI 100)) hx hb dX11_feed_17 (by decide) ?_
    refine lv_icmp_ne (tgt := 25) hx hb dX11_feed_19 (by decide) (fun c3 => ?_) (fun c3 => ?_)
    · replace h := gif_f h c3
      refine lv_aload_n hx hb dX11_feed_25 rfl (lv_at hl 0 rfl) ?_
      refine fw_getr hx hb hts in_X11_feed_X11 hown hK hP gF11.1.1 gF11.1.2 rfl 14 (by decide) rfl (hts _ (List.mem_of_getElem? (i := 2) rfl)) rfl dX11_feed_26 ?_
      refine lv_aload_n hx hb dX11_feed_29 rfl (lv_at hl 0 rfl) ?_
      refine fw_geti hx hb hts in_X11_feed_X11 hown hK hP gF11.1.1 gF11.1.2 rfl 15 (by decide) rfl (hts _ (List.mem_of_getElem? (i := 1) rfl)) rfl dX11_feed_30 ?_
      refine lv_iload_n hx hb dX11_feed_33 rfl (lv_at hl 1 rfl) ?_
      obtain ⟨h4, h⟩ := gg_s h
      refine fw_iast hx hb hK hG hP hS gF11.2.2.2.2.2.2.2.2.1.1 gF11.2.2.2.2.2.2.2.2.1.2 h4 dX11_feed_34 (fun z5 H locs ez5 hP hS => ?_)
      replace h := gl_s h ez5
      refine lv_aload_n hx hb dX11_feed_35 rfl (lv_at hl 0 rfl) ?_
      refine lv_dup hx hb dX11_feed_36 rfl ?_
      refine fw_geti hx hb hts in_X11_feed_X11 hown hK hP gF11.1.1 gF11.1.2 rfl 15 (by decide) rfl (hts _ (List.mem_of_getElem? (i := 1) rfl)) rfl dX11_feed_37 ?_
      refine lv_iconst (v := (nI 1)) hx hb dX11_feed_40 (by decide) ?_
      refine lv_iadd hx hb dX11_feed_41 ?_
      refine fw_put hx hb hts in_X11_feed_X11 tyX11_ok nmX11 hown hK hG hP hS gF11.1.1 gF11.1.2 rfl 15 (by decide) rfl (hts _ (List.mem_of_getElem? (i := 1) rfl)) rfl rfl (ty := .int) rfl rfl rfl dX11_feed_42 (fun z6 H locs ez6 hP hS => ?_)
      replace h := gl_s h ez6
      refine lv_aload_n hx hb dX11_feed_45 rfl (lv_at hl 0 rfl) ?_
      refine fw_geti hx hb hts in_X11_feed_X11 hown hK hP gF11.1.1 gF11.1.2 rfl 15 (by decide) rfl (hts _ (List.mem_of_getElem? (i := 1) rfl)) rfl dX11_feed_46 ?_
      exact fw_ireti hx hb hr hlocks (Option.some.inj h) hK hZ hP hS dX11_feed_49
    · replace h := gif_t h c3
      refine lv_bipush (v := (-4)) hx hb dX11_feed_22 (by decide) ?_
      exact fw_ireti hx hb hr hlocks (Option.some.inj h) hK hZ hP hS dX11_feed_24
  · replace h := gif_t h c2
    refine lv_bipush (v := (-2)) hx hb dX11_feed_10 (by decide) ?_
    exact fw_ireti hx hb hr hlocks (Option.some.inj h) hK hZ hP hS dX11_feed_12
theorem in_X11_here_X11 : ∀ w ∈ wsX110, w ∈ wsX11_here := fun w h => List.mem_cons_of_mem _ (List.mem_append_right _ (h))
theorem hdV_X11_here : yX11_here.cls = RX11 ∧ yX11_here.cls ≠ "java/lang/invoke/MethodHandle" ∧ yX11_here.cls ≠ "java/lang/invoke/VarHandle" ∧ (parseMethodDescriptor yX11_here.desc).map (fun d => d.parameters.length) = some 0 := by decide +kernel
set_option maxHeartbeats 4000000 in
set_option maxRecDepth 100000 in
theorem k_X11_here (l : Launch) (D : va_G) (cA : Nat → ClassId) (ad : Nat → Nat) (tw : Nat) (hG : gOk ad 22) (z : gS)  (res : Int32) (h : f_X11_here  z = some res) : gMi l yX11_here wsX11_here (gRm 0 0) D cA ad tw shM 22 [.ref (ad 0)] z (res, z) := by
  refine Met.ofW (cc := cX11_here) (maxL := 1) (ret := (some .int)) (by decide) rfl ?_
  intro p e s m args below meth c s₁ B hml hv
  obtain ⟨rfl, hP, hK, hZ⟩ := hv
  have hx := B.exec
  have hb := B.bytes
  have hr := B.returns
  have hts := atoms_spec (ws := wsX11_here) B.pre
  have hown : s.vm.findClass RX11 = some m.cls := findClass_of_methodNamed B.named
  have hlocks := B.notSynchronized
  have hS : va_S (gA ad 22) s.heap s.heap [] := va_S.rf
  have hl := lv_entry ([.ref (ad 0)]) (n := 1) (Nat.le_of_ble_eq_true rfl)
  rw [lg_entry_eq]
  generalize (lg_sl ([.ref (ad 0)]) ++ List.replicate (1 - (lg_sl ([.ref (ad 0)])).length) Slot.unset).toArray = ls at hl ⊢
  have hl : lv_has ls 1 [(0, .ref (ad 0))] := hl
  unfold f_X11_here at h
  refine lv_aload_n hx hb dX11_here_0 rfl (lv_at hl 0 rfl) ?_
  refine fw_geti hx hb hts in_X11_here_X11 hown hK hP gF11.1.1 gF11.1.2 rfl 17 (by decide) rfl (hts _ (List.mem_of_getElem? (i := 1) rfl)) rfl dX11_here_1 ?_
  refine lv_aload_n hx hb dX11_here_4 rfl (lv_at hl 0 rfl) ?_
  refine fw_geti hx hb hts in_X11_here_X11 hown hK hP gF11.1.1 gF11.1.2 rfl 15 (by decide) rfl (hts _ (List.mem_of_getElem? (i := 2) rfl)) rfl dX11_here_5 ?_
  refine lv_icmp_ge (tgt := 23) hx hb dX11_here_8 (by decide) (fun c1 => ?_) (fun c1 => ?_)
  · replace h := gif_t h c1
    refine lv_iconst (v := gm1) hx hb dX11_here_23 (by decide) ?_
    exact fw_ireti hx hb hr hlocks (congrArg (fun q => (q, z)) (Option.some.inj h)) hK hZ hP hS dX11_here_24
  · replace h := gif_f h c1
    refine lv_aload_n hx hb dX11_here_11 rfl (lv_at hl 0 rfl) ?_
    refine fw_getr hx hb hts in_X11_here_X11 hown hK hP gF11.1.1 gF11.1.2 rfl 14 (by decide) rfl (hts _ (List.mem_of_getElem? (i := 3) rfl)) rfl dX11_here_12 ?_
    refine lv_aload_n hx hb dX11_here_15 rfl (lv_at hl 0 rfl) ?_
    refine fw_geti hx hb hts in_X11_here_X11 hown hK hP gF11.1.1 gF11.1.2 rfl 17 (by decide) rfl (hts _ (List.mem_of_getElem? (i := 1) rfl)) rfl dX11_here_16 ?_
    obtain ⟨h2, h⟩ := gg_s h
    refine fw_iald hx hb hK hP gF11.2.2.2.2.2.2.2.2.1.1 gF11.2.2.2.2.2.2.2.2.1.2 h2 dX11_here_19 ?_
    refine lv_goto (tgt := 24) hx hb dX11_here_20 (by decide) ?_
    exact fw_ireti hx hb hr hlocks (congrArg (fun q => (q, z)) (Option.some.inj h)) hK hZ hP hS dX11_here_24
theorem hdS_X11_isLetter : yX11_isLetter.cls ≠ "java/lang/invoke/MethodHandle" ∧ yX11_isLetter.cls ≠ "java/lang/invoke/VarHandle" ∧ (parseMethodDescriptor yX11_isLetter.desc).map (fun d => d.parameters.length) = some 1 := by decide +kernel
set_option maxHeartbeats 4000000 in
set_option maxRecDepth 100000 in
theorem k_X11_isLetter (l : Launch) (D : va_G) (cA : Nat → ClassId) (ad : Nat → Nat) (tw : Nat) (hG : gOk ad 22) (z : gS) (a0 : Int32) (res : Int32) (h : f_X11_isLetter a0 z = some res) : gMi l yX11_isLetter wsX11_isLetter (gRm 1 22) D cA ad tw shM 22 [.int a0] z (res, z) := by
  refine Met.ofW (cc := cX11_isLetter) (maxL := 1) (ret := (some .boolean)) (by decide) rfl ?_
  intro p e s m args below meth c s₁ B hml hv
  obtain ⟨rfl, hP, hK, hZ⟩ := hv
  have hx := B.exec
  have hb := B.bytes
  have hr := B.returns
  have hts := atoms_spec (ws := wsX11_isLetter) B.pre
  have hown : s.vm.findClass RX11 = some m.cls := findClass_of_methodNamed B.named
  have hlocks := B.notSynchronized
  have hS : va_S (gA ad 22) s.heap s.heap [] := va_S.rf
  have hl := lv_entry ([.int a0]) (n := 1) (Nat.le_of_ble_eq_true rfl)
  rw [lg_entry_eq]
  generalize (lg_sl ([.int a0]) ++ List.replicate (1 - (lg_sl ([.int a0])).length) Slot.unset).toArray = ls at hl ⊢
  have hl : lv_has ls 1 [(0, .int a0)] := hl
  unfold f_X11_isLetter at h
  refine lv_iload_n hx hb dX11_isLetter_0 rfl (lv_at hl 0 rfl) ?_
  refine lv_bipush (v := (nI 97)) hx hb dX11_isLetter_1 (by decide) ?_
  refine lv_bipush (v := (nI 122)) hx hb dX11_isLetter_3 (by decide) ?_
  obtain ⟨q1, hq1, h⟩ := gb_s h
  refine fw_siR (As := [.int a0, .int (nI 97), .int (nI 122)]) (rest := []) ⟨hx, hb, hml, hown, hts⟩ (k_X11_in l D cA ad tw hG z a0 (nI 97) (nI 122) q1 hq1) (va_cwS 3 hts gX11_isLetter_X11_in rfl rfl rfl hdS_X11_in ⟨Nat.le_of_ble_eq_true rfl, Nat.le_of_ble_eq_true rfl⟩) hK hZ hP rfl hl _ rfl (Nat.le_of_ble_eq_true rfl) hS dX11_isLetter_5 ⟨Nat.zero_le _, Nat.zero_le _⟩ (fun H locs hP hS => ?_)
  obtain ⟨h2, h⟩ := gz_s h
  exact fw_iretz hx hb hr hlocks h2 (congrArg (fun q => (q, z)) (Option.some.inj h)) hK hZ hP hS dX11_isLetter_8
theorem hdS_X11_isDigit : yX11_isDigit.cls ≠ "java/lang/invoke/MethodHandle" ∧ yX11_isDigit.cls ≠ "java/lang/invoke/VarHandle" ∧ (parseMethodDescriptor yX11_isDigit.desc).map (fun d => d.parameters.length) = some 1 := by decide +kernel
set_option maxHeartbeats 4000000 in
set_option maxRecDepth 100000 in
theorem k_X11_isDigit (l : Launch) (D : va_G) (cA : Nat → ClassId) (ad : Nat → Nat) (tw : Nat) (hG : gOk ad 22) (z : gS) (a0 : Int32) (res : Int32) (h : f_X11_isDigit a0 z = some res) : gMi l yX11_isDigit wsX11_isDigit (gRm 1 22) D cA ad tw shM 22 [.int a0] z (res, z) := by
  refine Met.ofW (cc := cX11_isDigit) (maxL := 1) (ret := (some .boolean)) (by decide) rfl ?_
  intro p e s m args below meth c s₁ B hml hv
  obtain ⟨rfl, hP, hK, hZ⟩ := hv
  have hx := B.exec
  have hb := B.bytes
  have hr := B.returns
  have hts := atoms_spec (ws := wsX11_isDigit) B.pre
  have hown : s.vm.findClass RX11 = some m.cls := findClass_of_methodNamed B.named
  have hlocks := B.notSynchronized
  have hS : va_S (gA ad 22) s.heap s.heap [] := va_S.rf
  have hl := lv_entry ([.int a0]) (n := 1) (Nat.le_of_ble_eq_true rfl)
  rw [lg_entry_eq]
  generalize (lg_sl ([.int a0]) ++ List.replicate (1 - (lg_sl ([.int a0])).length) Slot.unset).toArray = ls at hl ⊢
  have hl : lv_has ls 1 [(0, .int a0)] := hl
  unfold f_X11_isDigit at h
  refine lv_iload_n hx hb dX11_isDigit_0 rfl (lv_at hl 0 rfl) ?_
  refine lv_bipush (v := (nI 48)) hx hb dX11_isDigit_1 (by decide) ?_
  refine lv_bipush (v := (nI 57)) hx hb dX11_isDigit_3 (by decide) ?_
  obtain ⟨q1, hq1, h⟩ := gb_s h
  refine fw_siR (As := [.int a0, .int (nI 48), .int (nI 57)]) (rest := []) ⟨hx, hb, hml, hown, hts⟩ (k_X11_in l D cA ad tw hG z a0 (nI 48) (nI 57) q1 hq1) (va_cwS 3 hts gX11_isDigit_X11_in rfl rfl rfl hdS_X11_in ⟨Nat.le_of_ble_eq_true rfl, Nat.le_of_ble_eq_true rfl⟩) hK hZ hP rfl hl _ rfl (Nat.le_of_ble_eq_true rfl) hS dX11_isDigit_5 ⟨Nat.zero_le _, Nat.zero_le _⟩ (fun H locs hP hS => ?_)
  obtain ⟨h2, h⟩ := gz_s h
  exact fw_iretz hx hb hr hlocks h2 (congrArg (fun q => (q, z)) (Option.some.inj h)) hK hZ hP hS dX11_isDigit_8
theorem in_X11_name_X11 : ∀ w ∈ wsX110, w ∈ wsX11_name := fun w h => List.mem_cons_of_mem _ (List.mem_append_right _ (h))
theorem hdV_X11_name : yX11_name.cls = RX11 ∧ yX11_name.cls ≠ "java/lang/invoke/MethodHandle" ∧ yX11_name.cls ≠ "java/lang/invoke/VarHandle" ∧ (parseMethodDescriptor yX11_name.desc).map (fun d => d.parameters.length) = some 0 := by decide +kernel
set_option maxHeartbeats 4000000 in
set_option maxRecDepth 100000 in
theorem k_X11_name (l : Launch) (D : va_G) (cA : Nat → ClassId) (ad : Nat → Nat) (tw : Nat) (hG : gOk ad 22) (z : gS)  (res : gS) (h : f_X11_name  z = some res) : gMv l yX11_name wsX11_name (gRm 2 42) D cA ad tw shM 22 [.ref (ad 0)] z res := by
  refine Met.ofW (cc := cX11_name) (maxL := 3) (ret := none) (by decide) rfl ?_
  intro p e s m args below meth c s₁ B hml hv
  obtain ⟨rfl, hP, hK, hZ⟩ := hv
  have hx := B.exec
  have hb := B.bytes
  have hr := B.returns
  have hts := atoms_spec (ws := wsX11_name) B.pre
  have hown : s.vm.findClass RX11 = some m.cls := findClass_of_methodNamed B.named
  have hlocks := B.notSynchronized
  have hS : va_S (gA ad 22) s.heap s.heap [] := va_S.rf
  have hl := lv_entry ([.ref (ad 0)]) (n := 3) (Nat.le_of_ble_eq_true rfl)
  rw [lg_entry_eq]
  generalize (lg_sl ([.ref (ad 0)]) ++ List.replicate (3 - (lg_sl ([.ref (ad 0)])).length) Slot.unset).toArray = ls at hl ⊢
  have hl : lv_has ls 3 [(0, .ref (ad 0))] := hl
  have j71 : ∀ (z : gS) (n : Nat) (x1 : Int32) (x2 : Int32) (H : Heap) (locs : List Loc) (ls : Array Slot), f_X11_name_71 z n x1 x2 = some res → va_P D vwCl (gw cA ad shM 22 z) H → va_S (gA ad 22) s.heap H locs → lv_has ls 3 [(0, .ref (ad 0)), (1, .int x1), (2, .int x2)] → W p l e (headSpec wsX11_name (gRm 2 42)).room s m ([.ref (ad 0)] : List Value).toArray below meth c H locs 0 0 (MQ below (va_Qv (fun u => u = res) (gPr D cA ad tw shM 22) (gA ad 22)) ([.ref (ad 0)] : List Value).toArray s 0 0 (gA ad 22)) (F0 m 71 ls []) := by
    intro z n
    induction n with
    | zero => intro x1 x2 H locs ls h; exact (gno h).elim
    | succ n hK71 =>
      intro x1 x2 H locs ls h hP hS hl
      replace h : f_X11_name_71_b z (f_X11_name_71 z n) x1 x2 = some res := h
      unfold f_X11_name_71_b at h
      refine lv_iload_n hx hb dX11_name_71 rfl (lv_at hl 2 rfl) ?_
      refine lv_bipush (v := (nI 6)) hx hb dX11_name_72 (by decide) ?_
      refine lv_icmp_ge (tgt := 88) hx hb dX11_name_74 (by decide) (fun c20 => ?_) (fun c20 => ?_)
      · replace h := gif_t h c20
        refine lv_aload_n hx hb dX11_name_88 rfl (lv_at hl 0 rfl) ?_
        refine fw_getr hx hb hts in_X11_name_X11 hown hK hP gF11.1.1 gF11.1.2 rfl 21 (by decide) rfl (hts _ (List.mem_of_getElem? (i := 3) rfl)) rfl dX11_name_89 ?_
        refine lv_aload_n hx hb dX11_name_92 rfl (lv_at hl 0 rfl) ?_
        refine fw_geti hx hb hts in_X11_name_X11 hown hK hP gF11.1.1 gF11.1.2 rfl 22 (by decide) rfl (hts _ (List.mem_of_getElem? (i := 4) rfl)) rfl dX11_name_93 ?_
        refine lv_iload_n hx hb dX11_name_96 rfl (lv_at hl 1 rfl) ?_
        obtain ⟨h21, h⟩ := gg_s h
        refine fw_iast hx hb hK hG hP hS gF11.2.2.2.2.2.2.2.2.2.1.1 gF11.2.2.2.2.2.2.2.2.2.1.2 h21 dX11_name_97 (fun z22 H locs ez22 hP hS => ?_)
        replace h := gl_s h ez22
        refine lv_aload_n hx hb dX11_name_98 rfl (lv_at hl 0 rfl) ?_
        refine lv_dup hx hb dX11_name_99 rfl ?_
        refine fw_geti hx hb hts in_X11_name_X11 hown hK hP gF11.1.1 gF11.1.2 rfl 22 (by decide) rfl (hts _ (List.mem_of_getElem? (i := 4) rfl)) rfl dX11_name_100 ?_
        refine lv_iconst (v := (nI 1)) hx hb dX11_name_103 (by decide) ?_
        refine lv_iadd hx hb dX11_name_104 ?_
        refine fw_put hx hb hts in_X11_name_X11 tyX11_ok nmX11 hown hK hG hP hS gF11.1.1 gF11.1.2 rfl 22 (by decide) rfl (hts _ (List.mem_of_getElem? (i := 4) rfl)) rfl rfl (ty := .int) rfl rfl rfl dX11_name_105 (fun z23 H locs ez23 hP hS => ?_)
        replace h := gl_s h ez23
        exact fw_vret hx hb hr hlocks (Option.some.inj h) hK hZ hP hS dX11_name_108
      · replace h := gif_f h c20
        refine lv_iload_n hx hb dX11_name_77 rfl (lv_at hl 1 rfl) ?_
        refine lv_bipush (v := (nI 27)) hx hb dX11_name_78 (by decide) ?_
        refine lv_imul hx hb dX11_name_80 ?_
        refine lv_topi (fun y24 ey24 => ?_)
        replace h := gl_s h ey24
        refine lv_istore_n (lv' := [(1, .int y24), (0, .ref (ad 0)), (2, .int x2)]) hx hb dX11_name_81 rfl hl (by decide) rfl (fun ls hl => ?_)
        refine lv_iinc (v := x2 + (nI 1)) (lv' := [(2, .int (x2 + (nI 1))), (1, .int y24), (0, .ref (ad 0))]) hx hb dX11_name_82 hl (k := 2) rfl rfl (by decide) rfl (fun ls hl => ?_)
        refine lv_goto (tgt := 71) hx hb dX11_name_85 (by decide) ?_
        exact hK71 y24 (x2 + (nI 1)) _ _ ls h hP hS (lv_sub hl [2, 1, 0] rfl)
  have j4 : ∀  (n : Nat) (x1 : Int32) (x2 : Int32) (z : gS) (H : Heap) (locs : List Loc) (ls : Array Slot), f_X11_name_4  n x1 x2 z = some res → va_P D vwCl (gw cA ad shM 22 z) H → va_S (gA ad 22) s.heap H locs → lv_has ls 3 [(0, .ref (ad 0)), (1, .int x1), (2, .int x2)] → W p l e (headSpec wsX11_name (gRm 2 42)).room s m ([.ref (ad 0)] : List Value).toArray below meth c H locs 0 0 (MQ below (va_Qv (fun u => u = res) (gPr D cA ad tw shM 22) (gA ad 22)) ([.ref (ad 0)] : List Value).toArray s 0 0 (gA ad 22)) (F0 m 4 ls []) := by
    intro n
    induction n with
    | zero => intro x1 x2 z H locs ls h; exact (gno h).elim
    | succ n hK4 =>
      intro x1 x2 z H locs ls h hP hS hl
      replace h : f_X11_name_4_b  (f_X11_name_4  n) x1 x2 z = some res := h
      unfold f_X11_name_4_b at h
      refine lv_iload_n hx hb dX11_name_4 rfl (lv_at hl 2 rfl) ?_
      refine lv_bipush (v := (nI 6)) hx hb dX11_name_5 (by decide) ?_
      refine lv_icmp_ge (tgt := 51) hx hb dX11_name_7 (by decide) (fun c1 => ?_) (fun c1 => ?_)
      · replace h := gif_t h c1
        refine lv_iload_n hx hb dX11_name_51 rfl (lv_at hl 2 rfl) ?_
        refine lv_if_eq (tgt := 65) hx hb dX11_name_52 (by decide) (fun c2 => ?_) (fun c2 => ?_)
        · replace h := gif_t h c2
          refine lv_aload_n hx hb dX11_name_65 rfl (lv_at hl 0 rfl) ?_
          refine lv_iconst (v := (nI 1)) hx hb dX11_name_66 (by decide) ?_
          refine fw_put hx hb hts in_X11_name_X11 tyX11_ok nmX11 hown hK hG hP hS gF11.1.1 gF11.1.2 rfl 18 (by decide) rfl (hts _ (List.mem_of_getElem? (i := 2) rfl)) rfl rfl (ty := .boolean) rfl rfl rfl dX11_name_67 (fun z3 H locs ez3 hP hS => ?_)
          replace h := gl_s h ez3
          exact fw_vret hx hb hr hlocks (Option.some.inj h) hK hZ hP hS dX11_name_70
        · replace h := gif_f h c2
          refine lv_aload_n hx hb dX11_name_55 rfl (lv_at hl 0 rfl) ?_
          obtain ⟨q4, hq4, h⟩ := gb_s h
          refine fw_viR (As := []) (rest := []) ⟨hx, hb, hml, hown, hts⟩ (k_X11_here l D cA ad tw hG z  q4 hq4) (cwV 0 hts gX11_name_X11_here rfl rfl rfl hdV_X11_here ⟨Nat.le_of_ble_eq_true rfl, Nat.le_of_ble_eq_true rfl⟩) (fw_preV gF11.1.1 gF11.1.2 rfl rfl hK hZ hP hS) rfl hl _ rfl (Nat.le_of_ble_eq_true rfl) hS dX11_name_56 ⟨Nat.zero_le _, Nat.zero_le _⟩ (fun H locs hP hS => ?_)
          obtain ⟨q5, hq5, h⟩ := gb_s h
          refine fw_siR (As := [.int q4]) (rest := []) ⟨hx, hb, hml, hown, hts⟩ (k_X11_isLetter l D cA ad tw hG z q4 q5 hq5) (va_cwS 1 hts gX11_name_X11_isLetter rfl rfl rfl hdS_X11_isLetter ⟨Nat.le_of_ble_eq_true rfl, Nat.le_of_ble_eq_true rfl⟩) hK hZ hP rfl hl _ rfl (Nat.le_of_ble_eq_true rfl) hS dX11_name_59 ⟨Nat.zero_le _, Nat.zero_le _⟩ (fun H locs hP hS => ?_)
          refine lv_if_eq (tgt := 71) hx hb dX11_name_62 (by decide) (fun c6 => ?_) (fun c6 => ?_)
          · replace h := gif_t h c6
            exact j71 z  gF x1 x2 _ _ ls h hP hS (lv_sub hl [0, 1, 2] rfl)
          · replace h := gif_f h c6
            refine lv_aload_n hx hb dX11_name_65 rfl (lv_at hl 0 rfl) ?_
            refine lv_iconst (v := (nI 1)) hx hb dX11_name_66 (by decide) ?_
            refine fw_put hx hb hts in_X11_name_X11 tyX11_ok nmX11 hown hK hG hP hS gF11.1.1 gF11.1.2 rfl 18 (by decide) rfl (hts _ (List.mem_of_getElem? (i := 2) rfl)) rfl rfl (ty := .boolean) rfl rfl rfl dX11_name_67 (fun z7 H locs ez7 hP hS => ?_)
            replace h := gl_s h ez7
            exact fw_vret hx hb hr hlocks (Option.some.inj h) hK hZ hP hS dX11_name_70
      · replace h := gif_f h c1
        refine lv_aload_n hx hb dX11_name_10 rfl (lv_at hl 0 rfl) ?_
        obtain ⟨q8, hq8, h⟩ := gb_s h
        refine fw_viR (As := []) (rest := []) ⟨hx, hb, hml, hown, hts⟩ (k_X11_here l D cA ad tw hG z  q8 hq8) (cwV 0 hts gX11_name_X11_here rfl rfl rfl hdV_X11_here ⟨Nat.le_of_ble_eq_true rfl, Nat.le_of_ble_eq_true rfl⟩) (fw_preV gF11.1.1 gF11.1.2 rfl rfl hK hZ hP hS) rfl hl _ rfl (Nat.le_of_ble_eq_true rfl) hS dX11_name_11 ⟨Nat.zero_le _, Nat.zero_le _⟩ (fun H locs hP hS => ?_)
        obtain ⟨q9, hq9, h⟩ := gb_s h
        refine fw_siR (As := [.int q8]) (rest := []) ⟨hx, hb, hml, hown, hts⟩ (k_X11_isLetter l D cA ad tw hG z q8 q9 hq9) (va_cwS 1 hts gX11_name_X11_isLetter rfl rfl rfl hdS_X11_isLetter ⟨Nat.le_of_ble_eq_true rfl, Nat.le_of_ble_eq_true rfl⟩) hK hZ hP rfl hl _ rfl (Nat.le_of_ble_eq_true rfl) hS dX11_name_14 ⟨Nat.zero_le _, Nat.zero_le _⟩ (fun H locs hP hS => ?_)
        refine lv_if_eq (tgt := 51) hx hb dX11_name_17 (by decide) (fun c10 => ?_) (fun c10 => ?_)
        · replace h := gif_t h c10
          refine lv_iload_n hx hb dX11_name_51 rfl (lv_at hl 2 rfl) ?_
          refine lv_if_eq (tgt := 65) hx hb dX11_name_52 (by decide) (fun c11 => ?_) (fun c11 => ?_)
          · replace h := gif_t h c11
            refine lv_aload_n hx hb dX11_name_65 rfl (lv_at hl 0 rfl) ?_
            refine lv_iconst (v := (nI 1)) hx hb dX11_name_66 (by decide) ?_
            refine fw_put hx hb hts in_X11_name_X11 tyX11_ok nmX11 hown hK hG hP hS gF11.1.1 gF11.1.2 rfl 18 (by decide) rfl (hts _ (List.mem_of_getElem? (i := 2) rfl)) rfl rfl (ty := .boolean) rfl rfl rfl dX11_name_67 (fun z12 H locs ez12 hP hS => ?_)
            replace h := gl_s h ez12
            exact fw_vret hx hb hr hlocks (Option.some.inj h) hK hZ hP hS dX11_name_70
          · replace h := gif_f h c11
            refine lv_aload_n hx hb dX11_name_55 rfl (lv_at hl 0 rfl) ?_
            obtain ⟨q13, hq13, h⟩ := gb_s h
            refine fw_viR (As := []) (rest := []) ⟨hx, hb, hml, hown, hts⟩ (k_X11_here l D cA ad tw hG z  q13 hq13) (cwV 0 hts gX11_name_X11_here rfl rfl rfl hdV_X11_here ⟨Nat.le_of_ble_eq_true rfl, Nat.le_of_ble_eq_true rfl⟩) (fw_preV gF11.1.1 gF11.1.2 rfl rfl hK hZ hP hS) rfl hl _ rfl (Nat.le_of_ble_eq_true rfl) hS dX11_name_56 ⟨Nat.zero_le _, Nat.zero_le _⟩ (fun H locs hP hS => ?_)
            obtain ⟨q14, hq14, h⟩ := gb_s h
            refine fw_siR (As := [.int q13]) (rest := []) ⟨hx, hb, hml, hown, hts⟩ (k_X11_isLetter l D cA ad tw hG z q13 q14 hq14) (va_cwS 1 hts gX11_name_X11_isLetter rfl rfl rfl hdS_X11_isLetter ⟨Nat.le_of_ble_eq_true rfl, Nat.le_of_ble_eq_true rfl⟩) hK hZ hP rfl hl _ rfl (Nat.le_of_ble_eq_true rfl) hS dX11_name_59 ⟨Nat.zero_le _, Nat.zero_le _⟩ (fun H locs hP hS => ?_)
            refine lv_if_eq (tgt := 71) hx hb dX11_name_62 (by decide) (fun c15 => ?_) (fun c15 => ?_)
            · replace h := gif_t h c15
              exact j71 z  gF x1 x2 _ _ ls h hP hS (lv_sub hl [0, 1, 2] rfl)
            · replace h := gif_f h c15
              refine lv_aload_n hx hb dX11_name_65 rfl (lv_at hl 0 rfl) ?_
              refine lv_iconst (v := (nI 1)) hx hb dX11_name_66 (by decide) ?_
              refine fw_put hx hb hts in_X11_name_X11 tyX11_ok nmX11 hown hK hG hP hS gF11.1.1 gF11.1.2 rfl 18 (by decide) rfl (hts _ (List.mem_of_getElem? (i := 2) rfl)) rfl rfl (ty := .boolean) rfl rfl rfl dX11_name_67 (fun z16 H locs ez16 hP hS => ?_)
              replace h := gl_s h ez16
              exact fw_vret hx hb hr hlocks (Option.some.inj h) hK hZ hP hS dX11_name_70
        · replace h := gif_f h c10
          refine lv_bipush (v := (nI 27)) hx hb dX11_name_20 (by decide) ?_
          refine lv_iload_n hx hb dX11_name_22 rfl (lv_at hl 1 rfl) ?_
          refine lv_imul hx hb dX11_name_23 ?_
          refine lv_aload_n hx hb dX11_name_24 rfl (lv_at hl 0 rfl) ?_
          obtain ⟨q17, hq17, h⟩ := gb_s h
          refine fw_viR (As := []) (rest := [.int ((nI 27) * x1)]) ⟨hx, hb, hml, hown, hts⟩ (k_X11_here l D cA ad tw hG z  q17 hq17) (cwV 0 hts gX11_name_X11_here rfl rfl rfl hdV_X11_here ⟨Nat.le_of_ble_eq_true rfl, Nat.le_of_ble_eq_true rfl⟩) (fw_preV gF11.1.1 gF11.1.2 rfl rfl hK hZ hP hS) rfl hl _ rfl (Nat.le_of_ble_eq_true rfl) hS dX11_name_25 ⟨Nat.zero_le _, Nat.zero_le _⟩ (fun H locs hP hS => ?_)
          refine lv_iadd hx hb dX11_name_28 ?_
          refine lv_bipush (v := (nI 97)) hx hb dX11_name_29 (by decide) ?_
          refine lv_isub hx hb dX11_name_31 ?_
          refine lv_iconst (v := (nI 1)) hx hb dX11_name_32 (by decide) ?_
          refine lv_iadd hx hb dX11_name_33 ?_
          refine lv_topi (fun y18 ey18 => ?_)
          replace h := gl_s h ey18
          refine lv_istore_n (lv' := [(1, .int y18), (0, .ref (ad 0)), (2, .int x2)]) hx hb dX11_name_34 rfl hl (by decide) rfl (fun ls hl => ?_)
          refine lv_aload_n hx hb dX11_name_35 rfl (lv_at hl 1 rfl) ?_
          refine lv_dup hx hb dX11_name_36 rfl ?_
          refine fw_geti hx hb hts in_X11_name_X11 hown hK hP gF11.1.1 gF11.1.2 rfl 17 (by decide) rfl (hts _ (List.mem_of_getElem? (i := 1) rfl)) rfl dX11_name_37 ?_
          refine lv_iconst (v := (nI 1)) hx hb dX11_name_40 (by decide) ?_
          refine lv_iadd hx hb dX11_name_41 ?_
          refine fw_put hx hb hts in_X11_name_X11 tyX11_ok nmX11 hown hK hG hP hS gF11.1.1 gF11.1.2 rfl 17 (by decide) rfl (hts _ (List.mem_of_getElem? (i := 1) rfl)) rfl rfl (ty := .int) rfl rfl rfl dX11_name_42 (fun z19 H locs ez19 hP hS => ?_)
          replace h := gl_s h ez19
          refine lv_iinc (v := x2 + (nI 1)) (lv' := [(2, .int (x2 + (nI 1))), (1, .int y18), (0, .ref (ad 0))]) hx hb dX11_name_45 hl (k := 2) rfl rfl (by decide) rfl (fun ls hl => ?_)
          refine lv_goto (tgt := 4) hx hb dX11_name_48 (by decide) ?_
          exact hK4 y18 (x2 + (nI 1)) z19 _ _ ls h hP hS (lv_sub hl [2, 1, 0] rfl)
  unfold f_X11_name at h
  refine lv_iconst (v := (nI 0)) hx hb dX11_name_0 (by decide) ?_
  refine lv_istore_n (lv' := [(1, .int (nI 0)), (0, .ref (ad 0))]) hx hb dX11_name_1 rfl hl (by decide) rfl (fun ls hl => ?_)
  refine lv_iconst (v := (nI 0)) hx hb dX11_name_2 (by decide) ?_
  refine lv_istore_n (lv' := [(2, .int (nI 0)), (1, .int (nI 0)), (0, .ref (ad 0))]) hx hb dX11_name_3 rfl hl (by decide) rfl (fun ls hl => ?_)
  exact j4  gF (nI 0) (nI 0) z _ _ ls h hP hS (lv_sub hl [2, 1, 0] rfl)
theorem in_X11_digits__X11 : ∀ w ∈ wsX110, w ∈ wsX11_digits_ := fun w h => List.mem_cons_of_mem _ (List.mem_append_right _ (h))
theorem hdV_X11_digits_ : yX11_digits_.cls = RX11 ∧ yX11_digits_.cls ≠ "java/lang/invoke/MethodHandle" ∧ yX11_digits_.cls ≠ "java/lang/invoke/VarHandle" ∧ (parseMethodDescriptor yX11_digits_.desc).map (fun d => d.parameters.length) = some 1 := by decide +kernel
set_option maxHeartbeats 4000000 in
set_option maxRecDepth 100000 in
theorem k_X11_digits_ (l : Launch) (D : va_G) (cA : Nat → ClassId) (ad : Nat → Nat) (tw : Nat) (hG : gOk ad 22) (z : gS) (a1 : Int32) (res : gS) (h : f_X11_digits_ a1 z = some res) : gMv l yX11_digits_ wsX11_digits_ (gRm 2 42) D cA ad tw shM 22 [.ref (ad 0), .int a1] z res := by
  refine Met.ofW (cc := cX11_digits_) (maxL := 3) (ret := none) (by decide) rfl ?_
  intro p e s m args below meth c s₁ B hml hv
  obtain ⟨rfl, hP, hK, hZ⟩ := hv
  have hx := B.exec
  have hb := B.bytes
  have hr := B.returns
  have hts := atoms_spec (ws := wsX11_digits_) B.pre
  have hown : s.vm.findClass RX11 = some m.cls := findClass_of_methodNamed B.named
  have hlocks := B.notSynchronized
  have hS : va_S (gA ad 22) s.heap s.heap [] := va_S.rf
  have hl := lv_entry ([.ref (ad 0), .int a1]) (n := 3) (Nat.le_of_ble_eq_true rfl)
  rw [lg_entry_eq]
  generalize (lg_sl ([.ref (ad 0), .int a1]) ++ List.replicate (3 - (lg_sl ([.ref (ad 0), .int a1])).length) Slot.unset).toArray = ls at hl ⊢
  have hl : lv_has ls 3 [(0, .ref (ad 0)), (1, .int a1)] := hl
  have j7 : ∀ (x1 : Int32) (n : Nat) (x2 : Int32) (z : gS) (H : Heap) (locs : List Loc) (ls : Array Slot), f_X11_digits__7 x1 n x2 z = some res → va_P D vwCl (gw cA ad shM 22 z) H → va_S (gA ad 22) s.heap H locs → lv_has ls 3 [(0, .ref (ad 0)), (1, .int x1), (2, .int x2)] → W p l e (headSpec wsX11_digits_ (gRm 2 42)).room s m ([.ref (ad 0), .int a1] : List Value).toArray below meth c H locs 0 0 (MQ below (va_Qv (fun u => u = res) (gPr D cA ad tw shM 22) (gA ad 22)) ([.ref (ad 0), .int a1] : List Value).toArray s 0 0 (gA ad 22)) (F0 m 7 ls []) := by
    intro x1 n
    induction n with
    | zero => intro x2 z H locs ls h; exact (gno h).elim
    | succ n hK7 =>
      intro x2 z H locs ls h hP hS hl
      replace h : f_X11_digits__7_b x1 (f_X11_digits__7 x1 n) x2 z = some res := h
      unfold f_X11_digits__7_b at h
      refine lv_iload_n hx hb dX11_digits__7 rfl (lv_at hl 2 rfl) ?_
      refine lv_iload_n hx hb dX11_digits__8 rfl (lv_at hl 1 rfl) ?_
      refine lv_icmp_ge (tgt := 57) hx hb dX11_digits__9 (by decide) (fun c2 => ?_) (fun c2 => ?_)
      · replace h := gif_t h c2
        refine lv_aload_n hx hb dX11_digits__57 rfl (lv_at hl 0 rfl) ?_
        refine lv_iload_n hx hb dX11_digits__58 rfl (lv_at hl 2 rfl) ?_
        refine lv_if_ne (tgt := 66) hx hb dX11_digits__59 (by decide) (fun c3 => ?_) (fun c3 => ?_)
        · replace h := gif_f h c3
          refine lv_iconst (v := (nI 0)) hx hb dX11_digits__66 (by decide) ?_
          refine fw_put hx hb hts in_X11_digits__X11 tyX11_ok nmX11 hown hK hG hP hS gF11.1.1 gF11.1.2 rfl 18 (by decide) rfl (hts _ (List.mem_of_getElem? (i := 3) rfl)) rfl rfl (ty := .boolean) rfl rfl rfl dX11_digits__67 (fun z4 H locs ez4 hP hS => ?_)
          replace h := gl_s h ez4
          exact fw_vret hx hb hr hlocks (Option.some.inj h) hK hZ hP hS dX11_digits__70
        · replace h := gif_t h c3
          refine lv_iconst (v := (nI 1)) hx hb dX11_digits__62 (by decide) ?_
          refine lv_goto (tgt := 67) hx hb dX11_digits__63 (by decide) ?_
          refine fw_put hx hb hts in_X11_digits__X11 tyX11_ok nmX11 hown hK hG hP hS gF11.1.1 gF11.1.2 rfl 18 (by decide) rfl (hts _ (List.mem_of_getElem? (i := 3) rfl)) rfl rfl (ty := .boolean) rfl rfl rfl dX11_digits__67 (fun z5 H locs ez5 hP hS => ?_)
          replace h := gl_s h ez5
          exact fw_vret hx hb hr hlocks (Option.some.inj h) hK hZ hP hS dX11_digits__70
      · replace h := gif_f h c2
        refine lv_aload_n hx hb dX11_digits__12 rfl (lv_at hl 0 rfl) ?_
        obtain ⟨q6, hq6, h⟩ := gb_s h
        refine fw_viR (As := []) (rest := []) ⟨hx, hb, hml, hown, hts⟩ (k_X11_here l D cA ad tw hG z  q6 hq6) (cwV 0 hts gX11_digits__X11_here rfl rfl rfl hdV_X11_here ⟨Nat.le_of_ble_eq_true rfl, Nat.le_of_ble_eq_true rfl⟩) (fw_preV gF11.1.1 gF11.1.2 rfl rfl hK hZ hP hS) rfl hl _ rfl (Nat.le_of_ble_eq_true rfl) hS dX11_digits__13 ⟨Nat.zero_le _, Nat.zero_le _⟩ (fun H locs hP hS => ?_)
        obtain ⟨q7, hq7, h⟩ := gb_s h
        refine fw_siR (As := [.int q6]) (rest := []) ⟨hx, hb, hml, hown, hts⟩ (k_X11_isDigit l D cA ad tw hG z q6 q7 hq7) (va_cwS 1 hts gX11_digits__X11_isDigit rfl rfl rfl hdS_X11_isDigit ⟨Nat.le_of_ble_eq_true rfl, Nat.le_of_ble_eq_true rfl⟩) hK hZ hP rfl hl _ rfl (Nat.le_of_ble_eq_true rfl) hS dX11_digits__16 ⟨Nat.zero_le _, Nat.zero_le _⟩ (fun H locs hP hS => ?_)
        refine lv_if_eq (tgt := 57) hx hb dX11_digits__19 (by decide) (fun c8 => ?_) (fun c8 => ?_)
        · replace h := gif_t h c8
          refine lv_aload_n hx hb dX11_digits__57 rfl (lv_at hl 0 rfl) ?_
          refine lv_iload_n hx hb dX11_digits__58 rfl (lv_at hl 2 rfl) ?_
          refine lv_if_ne (tgt := 66) hx hb dX11_digits__59 (by decide) (fun c9 => ?_) (fun c9 => ?_)
          · replace h := gif_f h c9
            refine lv_iconst (v := (nI 0)) hx hb dX11_digits__66 (by decide) ?_
            refine fw_put hx hb hts in_X11_digits__X11 tyX11_ok nmX11 hown hK hG hP hS gF11.1.1 gF11.1.2 rfl 18 (by decide) rfl (hts _ (List.mem_of_getElem? (i := 3) rfl)) rfl rfl (ty := .boolean) rfl rfl rfl dX11_digits__67 (fun z10 H locs ez10 hP hS => ?_)
            replace h := gl_s h ez10
            exact fw_vret hx hb hr hlocks (Option.some.inj h) hK hZ hP hS dX11_digits__70
          · replace h := gif_t h c9
            refine lv_iconst (v := (nI 1)) hx hb dX11_digits__62 (by decide) ?_
            refine lv_goto (tgt := 67) hx hb dX11_digits__63 (by decide) ?_
            refine fw_put hx hb hts in_X11_digits__X11 tyX11_ok nmX11 hown hK hG hP hS gF11.1.1 gF11.1.2 rfl 18 (by decide) rfl (hts _ (List.mem_of_getElem? (i := 3) rfl)) rfl rfl (ty := .boolean) rfl rfl rfl dX11_digits__67 (fun z11 H locs ez11 hP hS => ?_)
            replace h := gl_s h ez11
            exact fw_vret hx hb hr hlocks (Option.some.inj h) hK hZ hP hS dX11_digits__70
        · replace h := gif_f h c8
          refine lv_aload_n hx hb dX11_digits__22 rfl (lv_at hl 0 rfl) ?_
          refine lv_bipush (v := (nI 10)) hx hb dX11_digits__23 (by decide) ?_
          refine lv_aload_n hx hb dX11_digits__25 rfl (lv_at hl 0 rfl) ?_
          refine fw_geti hx hb hts in_X11_digits__X11 hown hK hP gF11.1.1 gF11.1.2 rfl 20 (by decide) rfl (hts _ (List.mem_of_getElem? (i := 1) rfl)) rfl dX11_digits__26 ?_
          refine lv_imul hx hb dX11_digits__29 ?_
          refine lv_aload_n hx hb dX11_digits__30 rfl (lv_at hl 0 rfl) ?_
          obtain ⟨q12, hq12, h⟩ := gb_s h
          refine fw_viR (As := []) (rest := [.int ((nI 10) * (z 0 20)), .ref (ad 0)]) ⟨hx, hb, hml, hown, hts⟩ (k_X11_here l D cA ad tw hG z  q12 hq12) (cwV 0 hts gX11_digits__X11_here rfl rfl rfl hdV_X11_here ⟨Nat.le_of_ble_eq_true rfl, Nat.le_of_ble_eq_true rfl⟩) (fw_preV gF11.1.1 gF11.1.2 rfl rfl hK hZ hP hS) rfl hl _ rfl (Nat.le_of_ble_eq_true rfl) hS dX11_digits__31 ⟨Nat.zero_le _, Nat.zero_le _⟩ (fun H locs hP hS => ?_)
          refine lv_iadd hx hb dX11_digits__34 ?_
          refine lv_bipush (v := (nI 48)) hx hb dX11_digits__35 (by decide) ?_
          refine lv_isub hx hb dX11_digits__37 ?_
          refine fw_put hx hb hts in_X11_digits__X11 tyX11_ok nmX11 hown hK hG hP hS gF11.1.1 gF11.1.2 rfl 20 (by decide) rfl (hts _ (List.mem_of_getElem? (i := 1) rfl)) rfl rfl (ty := .int) rfl rfl rfl dX11_digits__38 (fun z13 H locs ez13 hP hS => ?_)
          replace h := gl_s h ez13
          refine lv_aload_n hx hb dX11_digits__41 rfl (lv_at hl 0 rfl) ?_
          refine lv_dup hx hb dX11_digits__42 rfl ?_
          refine fw_geti hx hb hts in_X11_digits__X11 hown hK hP gF11.1.1 gF11.1.2 rfl 17 (by decide) rfl (hts _ (List.mem_of_getElem? (i := 2) rfl)) rfl dX11_digits__43 ?_
          refine lv_iconst (v := (nI 1)) hx hb dX11_digits__46 (by decide) ?_
          refine lv_iadd hx hb dX11_digits__47 ?_
          refine fw_put hx hb hts in_X11_digits__X11 tyX11_ok nmX11 hown hK hG hP hS gF11.1.1 gF11.1.2 rfl 17 (by decide) rfl (hts _ (List.mem_of_getElem? (i := 2) rfl)) rfl rfl (ty := .int) rfl rfl rfl dX11_digits__48 (fun z14 H locs ez14 hP hS => ?_)
          replace h := gl_s h ez14
          refine lv_iinc (v := x2 + (nI 1)) (lv' := [(2, .int (x2 + (nI 1))), (0, .ref (ad 0)), (1, .int x1)]) hx hb dX11_digits__51 hl (k := 2) rfl rfl (by decide) rfl (fun ls hl => ?_)
          refine lv_goto (tgt := 7) hx hb dX11_digits__54 (by decide) ?_
          exact hK7 (x2 + (nI 1)) z14 _ _ ls h hP hS (lv_sub hl [1, 2, 0] rfl)
  unfold f_X11_digits_ at h
  refine lv_aload_n hx hb dX11_digits__0 rfl (lv_at hl 0 rfl) ?_
  refine lv_iconst (v := (nI 0)) hx hb dX11_digits__1 (by decide) ?_
  refine fw_put hx hb hts in_X11_digits__X11 tyX11_ok nmX11 hown hK hG hP hS gF11.1.1 gF11.1.2 rfl 20 (by decide) rfl (hts _ (List.mem_of_getElem? (i := 1) rfl)) rfl rfl (ty := .int) rfl rfl rfl dX11_digits__2 (fun z1 H locs ez1 hP hS => ?_)
  replace h := gl_s h ez1
  refine lv_iconst (v := (nI 0)) hx hb dX11_digits__5 (by decide) ?_
  refine lv_istore_n (lv' := [(2, .int (nI 0)), (0, .ref (ad 0)), (1, .int a1)]) hx hb dX11_digits__6 rfl hl (by decide) rfl (fun ls hl => ?_)
  exact j7 a1 gF (nI 0) z1 _ _ ls h hP hS (lv_sub hl [1, 2, 0] rfl)
theorem in_X11_graveTold_X11 : ∀ w ∈ wsX110, w ∈ wsX11_graveTold := fun w h => List.mem_cons_of_mem _ (List.mem_append_right _ (h))
theorem hdV_X11_graveTold : yX11_graveTold.cls = RX11 ∧ yX11_graveTold.cls ≠ "java/lang/invoke/MethodHandle" ∧ yX11_graveTold.cls ≠ "java/lang/invoke/VarHandle" ∧ (parseMethodDescriptor yX11_graveTold.desc).map (fun d => d.parameters.length) = some 0 := by decide +kernel
set_option maxHeartbeats 4000000 in
set_option maxRecDepth 100000 in
theorem k_X11_graveTold (l : Launch) (D : va_G) (cA : Nat → ClassId) (ad : Nat → Nat) (tw : Nat) (hG : gOk ad 22) (z : gS)  (res : gS) (h : f_X11_graveTold  z = some res) : gMv l yX11_graveTold wsX11_graveTold (gRm 3 64) D cA ad tw shM 22 [.ref (ad 0)] z res := by
  refine Met.ofW (cc := cX11_graveTold) (maxL := 2) (ret := none) (by decide) rfl ?_
  intro p e s m args below meth c s₁ B hml hv
  obtain ⟨rfl, hP, hK, hZ⟩ := hv
  have hx := B.exec
  have hb := B.bytes
  have hr := B.returns
  have hts := atoms_spec (ws := wsX11_graveTold) B.pre
  have hown : s.vm.findClass RX11 = some m.cls := findClass_of_methodNamed B.named
  have hlocks := B.notSynchronized
  have hS : va_S (gA ad 22) s.heap s.heap [] := va_S.rf
  have hl := lv_entry ([.ref (ad 0)]) (n := 2) (Nat.le_of_ble_eq_true rfl)
  rw [lg_entry_eq]
  generalize (lg_sl ([.ref (ad 0)]) ++ List.replicate (2 - (lg_sl ([.ref (ad 0)])).length) Slot.unset).toArray = ls at hl ⊢
  have hl : lv_has ls 2 [(0, .ref (ad 0))] := hl
  have j50 : ∀  (n : Nat) (x1 : Int32) (z : gS) (H : Heap) (locs : List Loc) (ls : Array Slot), f_X11_graveTold_50  n x1 z = some res → va_P D vwCl (gw cA ad shM 22 z) H → va_S (gA ad 22) s.heap H locs → lv_has ls 2 [(0, .ref (ad 0)), (1, .int x1)] → W p l e (headSpec wsX11_graveTold (gRm 3 64)).room s m ([.ref (ad 0)] : List Value).toArray below meth c H locs 0 0 (MQ below (va_Qv (fun u => u = res) (gPr D cA ad tw shM 22) (gA ad 22)) ([.ref (ad 0)] : List Value).toArray s 0 0 (gA ad 22)) (F0 m 50 ls []) := by
    intro n
    induction n with
    | zero => intro x1 z H locs ls h; exact (gno h).elim
    | succ n hK50 =>
      intro x1 z H locs ls h hP hS hl
      replace h : f_X11_graveTold_50_b  (f_X11_graveTold_50  n) x1 z = some res := h
      unfold f_X11_graveTold_50_b at h
      refine lv_iload_n hx hb dX11_graveTold_50 rfl (lv_at hl 1 rfl) ?_
      refine lv_if_eq (tgt := 108) hx hb dX11_graveTold_51 (by decide) (fun c11 => ?_) (fun c11 => ?_)
      · replace h := gif_t h c11
        exact fw_vret hx hb hr hlocks (Option.some.inj h) hK hZ hP hS dX11_graveTold_108
      · replace h := gif_f h c11
        refine lv_aload_n hx hb dX11_graveTold_54 rfl (lv_at hl 0 rfl) ?_
        refine fw_geti hx hb hts in_X11_graveTold_X11 hown hK hP gF11.1.1 gF11.1.2 rfl 18 (by decide) rfl (hts _ (List.mem_of_getElem? (i := 2) rfl)) rfl dX11_graveTold_55 ?_
        refine lv_if_ne (tgt := 108) hx hb dX11_graveTold_58 (by decide) (fun c12 => ?_) (fun c12 => ?_)
        · replace h := gif_f h c12
          exact fw_vret hx hb hr hlocks (Option.some.inj h) hK hZ hP hS dX11_graveTold_108
        · replace h := gif_t h c12
          refine lv_aload_n hx hb dX11_graveTold_61 rfl (lv_at hl 0 rfl) ?_
          obtain ⟨q13, hq13, h⟩ := gb_s h
          refine fw_vv (As := []) (rest := []) ⟨hx, hb, hml, hown, hts⟩ (k_X11_name l D cA ad tw hG z  q13 hq13) (cwV 0 hts gX11_graveTold_X11_name rfl rfl rfl hdV_X11_name ⟨Nat.le_of_ble_eq_true rfl, Nat.le_of_ble_eq_true rfl⟩) (fw_preV gF11.1.1 gF11.1.2 rfl rfl hK hZ hP hS) rfl hl _ rfl (Nat.le_of_ble_eq_true rfl) hS dX11_graveTold_62 ⟨Nat.zero_le _, Nat.zero_le _⟩ (fun H locs hP hS => ?_)
          refine lv_aload_n hx hb dX11_graveTold_65 rfl (lv_at hl 0 rfl) ?_
          refine fw_geti hx hb hts in_X11_graveTold_X11 hown hK hP gF11.1.1 gF11.1.2 rfl 18 (by decide) rfl (hts _ (List.mem_of_getElem? (i := 2) rfl)) rfl dX11_graveTold_66 ?_
          refine lv_if_ne (tgt := 85) hx hb dX11_graveTold_69 (by decide) (fun c14 => ?_) (fun c14 => ?_)
          · replace h := gif_f h c14
            refine lv_iconst (v := (nI 0)) hx hb dX11_graveTold_85 (by decide) ?_
            refine lv_istore_n (lv' := [(1, .int (nI 0)), (0, .ref (ad 0))]) hx hb dX11_graveTold_86 rfl hl (by decide) rfl (fun ls hl => ?_)
            refine lv_aload_n hx hb dX11_graveTold_87 rfl (lv_at hl 1 rfl) ?_
            refine lv_dup hx hb dX11_graveTold_88 rfl ?_
            refine fw_geti hx hb hts in_X11_graveTold_X11 hown hK hP gF11.1.1 gF11.1.2 rfl 17 (by decide) rfl (hts _ (List.mem_of_getElem? (i := 3) rfl)) rfl dX11_graveTold_89 ?_
            refine lv_iload_n hx hb dX11_graveTold_92 rfl (lv_at hl 0 rfl) ?_
            refine lv_if_eq (tgt := 100) hx hb dX11_graveTold_93 (by decide) (fun c15 => ?_) (fun c15 => ?_)
            · replace h := gif_t h c15
              refine lv_iconst (v := (nI 0)) hx hb dX11_graveTold_100 (by decide) ?_
              refine lv_iadd hx hb dX11_graveTold_101 ?_
              refine fw_put hx hb hts in_X11_graveTold_X11 tyX11_ok nmX11 hown hK hG hP hS gF11.1.1 gF11.1.2 rfl 17 (by decide) rfl (hts _ (List.mem_of_getElem? (i := 3) rfl)) rfl rfl (ty := .int) rfl rfl rfl dX11_graveTold_102 (fun z16 H locs ez16 hP hS => ?_)
              replace h := gl_s h ez16
              refine lv_goto (tgt := 50) hx hb dX11_graveTold_105 (by decide) ?_
              exact hK50 (nI 0) z16 _ _ ls h hP hS (lv_sub hl [1, 0] rfl)
            · replace h := gif_f h c15
              refine lv_iconst (v := (nI 1)) hx hb dX11_graveTold_96 (by decide) ?_
              refine lv_goto (tgt := 101) hx hb dX11_graveTold_97 (by decide) ?_
              refine lv_iadd hx hb dX11_graveTold_101 ?_
              refine fw_put hx hb hts in_X11_graveTold_X11 tyX11_ok nmX11 hown hK hG hP hS gF11.1.1 gF11.1.2 rfl 17 (by decide) rfl (hts _ (List.mem_of_getElem? (i := 3) rfl)) rfl rfl (ty := .int) rfl rfl rfl dX11_graveTold_102 (fun z17 H locs ez17 hP hS => ?_)
              replace h := gl_s h ez17
              refine lv_goto (tgt := 50) hx hb dX11_graveTold_105 (by decide) ?_
              exact hK50 (nI 0) z17 _ _ ls h hP hS (lv_sub hl [1, 0] rfl)
          · replace h := gif_t h c14
            refine lv_aload_n hx hb dX11_graveTold_72 rfl (lv_at hl 0 rfl) ?_
            obtain ⟨q18, hq18, h⟩ := gb_s h
            refine fw_viR (As := []) (rest := []) ⟨hx, hb, hml, hown, hts⟩ (k_X11_here l D cA ad tw hG q13  q18 hq18) (cwV 0 hts gX11_graveTold_X11_here rfl rfl rfl hdV_X11_here ⟨Nat.le_of_ble_eq_true rfl, Nat.le_of_ble_eq_true rfl⟩) (fw_preV gF11.1.1 gF11.1.2 rfl rfl hK hZ hP hS) rfl hl _ rfl (Nat.le_of_ble_eq_true rfl) hS dX11_graveTold_73 ⟨Nat.zero_le _, Nat.zero_le _⟩ (fun H locs hP hS => ?_)
            refine lv_bipush (v := (nI 44)) hx hb dX11_graveTold_76 (by decide) ?_
            refine lv_icmp_ne (tgt := 85) hx hb dX11_graveTold_78 (by decide) (fun c19 => ?_) (fun c19 => ?_)
            · replace h := gif_f h c19
              refine lv_iconst (v := (nI 0)) hx hb dX11_graveTold_85 (by decide) ?_
              refine lv_istore_n (lv' := [(1, .int (nI 0)), (0, .ref (ad 0))]) hx hb dX11_graveTold_86 rfl hl (by decide) rfl (fun ls hl => ?_)
              refine lv_aload_n hx hb dX11_graveTold_87 rfl (lv_at hl 1 rfl) ?_
              refine lv_dup hx hb dX11_graveTold_88 rfl ?_
              refine fw_geti hx hb hts in_X11_graveTold_X11 hown hK hP gF11.1.1 gF11.1.2 rfl 17 (by decide) rfl (hts _ (List.mem_of_getElem? (i := 3) rfl)) rfl dX11_graveTold_89 ?_
              refine lv_iload_n hx hb dX11_graveTold_92 rfl (lv_at hl 0 rfl) ?_
              refine lv_if_eq (tgt := 100) hx hb dX11_graveTold_93 (by decide) (fun c20 => ?_) (fun c20 => ?_)
              · replace h := gif_t h c20
                refine lv_iconst (v := (nI 0)) hx hb dX11_graveTold_100 (by decide) ?_
                refine lv_iadd hx hb dX11_graveTold_101 ?_
                refine fw_put hx hb hts in_X11_graveTold_X11 tyX11_ok nmX11 hown hK hG hP hS gF11.1.1 gF11.1.2 rfl 17 (by decide) rfl (hts _ (List.mem_of_getElem? (i := 3) rfl)) rfl rfl (ty := .int) rfl rfl rfl dX11_graveTold_102 (fun z21 H locs ez21 hP hS => ?_)
                replace h := gl_s h ez21
                refine lv_goto (tgt := 50) hx hb dX11_graveTold_105 (by decide) ?_
                exact hK50 (nI 0) z21 _ _ ls h hP hS (lv_sub hl [1, 0] rfl)
              · replace h := gif_f h c20
                refine lv_iconst (v := (nI 1)) hx hb dX11_graveTold_96 (by decide) ?_
                refine lv_goto (tgt := 101) hx hb dX11_graveTold_97 (by decide) ?_
                refine lv_iadd hx hb dX11_graveTold_101 ?_
                refine fw_put hx hb hts in_X11_graveTold_X11 tyX11_ok nmX11 hown hK hG hP hS gF11.1.1 gF11.1.2 rfl 17 (by decide) rfl (hts _ (List.mem_of_getElem? (i := 3) rfl)) rfl rfl (ty := .int) rfl rfl rfl dX11_graveTold_102 (fun z22 H locs ez22 hP hS => ?_)
                replace h := gl_s h ez22
                refine lv_goto (tgt := 50) hx hb dX11_graveTold_105 (by decide) ?_
                exact hK50 (nI 0) z22 _ _ ls h hP hS (lv_sub hl [1, 0] rfl)
            · replace h := gif_t h c19
              refine lv_iconst (v := (nI 1)) hx hb dX11_graveTold_81 (by decide) ?_
              refine lv_goto (tgt := 86) hx hb dX11_graveTold_82 (by decide) ?_
              refine lv_istore_n (lv' := [(1, .int (nI 1)), (0, .ref (ad 0))]) hx hb dX11_graveTold_86 rfl hl (by decide) rfl (fun ls hl => ?_)
              refine lv_aload_n hx hb dX11_graveTold_87 rfl (lv_at hl 1 rfl) ?_
              refine lv_dup hx hb dX11_graveTold_88 rfl ?_
              refine fw_geti hx hb hts in_X11_graveTold_X11 hown hK hP gF11.1.1 gF11.1.2 rfl 17 (by decide) rfl (hts _ (List.mem_of_getElem? (i := 3) rfl)) rfl dX11_graveTold_89 ?_
              refine lv_iload_n hx hb dX11_graveTold_92 rfl (lv_at hl 0 rfl) ?_
              refine lv_if_eq (tgt := 100) hx hb dX11_graveTold_93 (by decide) (fun c23 => ?_) (fun c23 => ?_)
              · replace h := gif_t h c23
                refine lv_iconst (v := (nI 0)) hx hb dX11_graveTold_100 (by decide) ?_
                refine lv_iadd hx hb dX11_graveTold_101 ?_
                refine fw_put hx hb hts in_X11_graveTold_X11 tyX11_ok nmX11 hown hK hG hP hS gF11.1.1 gF11.1.2 rfl 17 (by decide) rfl (hts _ (List.mem_of_getElem? (i := 3) rfl)) rfl rfl (ty := .int) rfl rfl rfl dX11_graveTold_102 (fun z24 H locs ez24 hP hS => ?_)
                replace h := gl_s h ez24
                refine lv_goto (tgt := 50) hx hb dX11_graveTold_105 (by decide) ?_
                exact hK50 (nI 1) z24 _ _ ls h hP hS (lv_sub hl [1, 0] rfl)
              · replace h := gif_f h c23
                refine lv_iconst (v := (nI 1)) hx hb dX11_graveTold_96 (by decide) ?_
                refine lv_goto (tgt := 101) hx hb dX11_graveTold_97 (by decide) ?_
                refine lv_iadd hx hb dX11_graveTold_101 ?_
                refine fw_put hx hb hts in_X11_graveTold_X11 tyX11_ok nmX11 hown hK hG hP hS gF11.1.1 gF11.1.2 rfl 17 (by decide) rfl (hts _ (List.mem_of_getElem? (i := 3) rfl)) rfl rfl (ty := .int) rfl rfl rfl dX11_graveTold_102 (fun z25 H locs ez25 hP hS => ?_)
                replace h := gl_s h ez25
                refine lv_goto (tgt := 50) hx hb dX11_graveTold_105 (by decide) ?_
                exact hK50 (nI 1) z25 _ _ ls h hP hS (lv_sub hl [1, 0] rfl)
  unfold f_X11_graveTold at h
  refine lv_aload_n hx hb dX11_graveTold_0 rfl (lv_at hl 0 rfl) ?_
  refine lv_iconst (v := (nI 0)) hx hb dX11_graveTold_1 (by decide) ?_
  refine fw_put hx hb hts in_X11_graveTold_X11 tyX11_ok nmX11 hown hK hG hP hS gF11.1.1 gF11.1.2 rfl 19 (by decide) rfl (hts _ (List.mem_of_getElem? (i := 1) rfl)) rfl rfl (ty := .int) rfl rfl rfl dX11_graveTold_2 (fun z1 H locs ez1 hP hS => ?_)
  replace h := gl_s h ez1
  refine lv_aload_n hx hb dX11_graveTold_5 rfl (lv_at hl 0 rfl) ?_
  refine lv_iconst (v := (nI 3)) hx hb dX11_graveTold_6 (by decide) ?_
  obtain ⟨q2, hq2, h⟩ := gb_s h
  refine fw_vv (As := [.int (nI 3)]) (rest := []) ⟨hx, hb, hml, hown, hts⟩ (k_X11_digits_ l D cA ad tw hG z1 (nI 3) q2 hq2) (cwV 1 hts gX11_graveTold_X11_digits_ rfl rfl rfl hdV_X11_digits_ ⟨Nat.le_of_ble_eq_true rfl, Nat.le_of_ble_eq_true rfl⟩) (fw_preV gF11.1.1 gF11.1.2 rfl rfl hK hZ hP hS) rfl hl _ rfl (Nat.le_of_ble_eq_true rfl) hS dX11_graveTold_7 ⟨Nat.zero_le _, Nat.zero_le _⟩ (fun H locs hP hS => ?_)
  refine lv_aload_n hx hb dX11_graveTold_10 rfl (lv_at hl 0 rfl) ?_
  refine fw_geti hx hb hts in_X11_graveTold_X11 hown hK hP gF11.1.1 gF11.1.2 rfl 18 (by decide) rfl (hts _ (List.mem_of_getElem? (i := 2) rfl)) rfl dX11_graveTold_11 ?_
  refine lv_if_ne (tgt := 26) hx hb dX11_graveTold_14 (by decide) (fun c3 => ?_) (fun c3 => ?_)
  · replace h := gif_f h c3
    refine lv_aload_n hx hb dX11_graveTold_26 rfl (lv_at hl 0 rfl) ?_
    refine lv_iconst (v := (nI 1)) hx hb dX11_graveTold_27 (by decide) ?_
    refine fw_put hx hb hts in_X11_graveTold_X11 tyX11_ok nmX11 hown hK hG hP hS gF11.1.1 gF11.1.2 rfl 18 (by decide) rfl (hts _ (List.mem_of_getElem? (i := 2) rfl)) rfl rfl (ty := .boolean) rfl rfl rfl dX11_graveTold_28 (fun z4 H locs ez4 hP hS => ?_)
    replace h := gl_s h ez4
    exact fw_vret hx hb hr hlocks (Option.some.inj h) hK hZ hP hS dX11_graveTold_31
  · replace h := gif_t h c3
    refine lv_aload_n hx hb dX11_graveTold_17 rfl (lv_at hl 0 rfl) ?_
    obtain ⟨q5, hq5, h⟩ := gb_s h
    refine fw_viR (As := []) (rest := []) ⟨hx, hb, hml, hown, hts⟩ (k_X11_here l D cA ad tw hG q2  q5 hq5) (cwV 0 hts gX11_graveTold_X11_here rfl rfl rfl hdV_X11_here ⟨Nat.le_of_ble_eq_true rfl, Nat.le_of_ble_eq_true rfl⟩) (fw_preV gF11.1.1 gF11.1.2 rfl rfl hK hZ hP hS) rfl hl _ rfl (Nat.le_of_ble_eq_true rfl) hS dX11_graveTold_18 ⟨Nat.zero_le _, Nat.zero_le _⟩ (fun H locs hP hS => ?_)
    refine lv_bipush (v := (nI 58)) hx hb dX11_graveTold_21 (by decide) ?_
    refine lv_icmp_eq (tgt := 32) hx hb dX11_graveTold_23 (by decide) (fun c6 => ?_) (fun c6 => ?_)
    · replace h := gif_t h c6
      refine lv_aload_n hx hb dX11_graveTold_32 rfl (lv_at hl 0 rfl) ?_
      refine lv_dup hx hb dX11_graveTold_33 rfl ?_
      refine fw_geti hx hb hts in_X11_graveTold_X11 hown hK hP gF11.1.1 gF11.1.2 rfl 17 (by decide) rfl (hts _ (List.mem_of_getElem? (i := 3) rfl)) rfl dX11_graveTold_34 ?_
      refine lv_iconst (v := (nI 1)) hx hb dX11_graveTold_37 (by decide) ?_
      refine lv_iadd hx hb dX11_graveTold_38 ?_
      refine fw_put hx hb hts in_X11_graveTold_X11 tyX11_ok nmX11 hown hK hG hP hS gF11.1.1 gF11.1.2 rfl 17 (by decide) rfl (hts _ (List.mem_of_getElem? (i := 3) rfl)) rfl rfl (ty := .int) rfl rfl rfl dX11_graveTold_39 (fun z7 H locs ez7 hP hS => ?_)
      replace h := gl_s h ez7
      refine lv_aload_n hx hb dX11_graveTold_42 rfl (lv_at hl 0 rfl) ?_
      obtain ⟨q8, hq8, h⟩ := gb_s h
      refine fw_viR (As := []) (rest := []) ⟨hx, hb, hml, hown, hts⟩ (k_X11_here l D cA ad tw hG z7  q8 hq8) (cwV 0 hts gX11_graveTold_X11_here rfl rfl rfl hdV_X11_here ⟨Nat.le_of_ble_eq_true rfl, Nat.le_of_ble_eq_true rfl⟩) (fw_preV gF11.1.1 gF11.1.2 rfl rfl hK hZ hP hS) rfl hl _ rfl (Nat.le_of_ble_eq_true rfl) hS dX11_graveTold_43 ⟨Nat.zero_le _, Nat.zero_le _⟩ (fun H locs hP hS => ?_)
      obtain ⟨q9, hq9, h⟩ := gb_s h
      refine fw_siR (As := [.int q8]) (rest := []) ⟨hx, hb, hml, hown, hts⟩ (k_X11_isLetter l D cA ad tw hG z7 q8 q9 hq9) (va_cwS 1 hts gX11_graveTold_X11_isLetter rfl rfl rfl hdS_X11_isLetter ⟨Nat.le_of_ble_eq_true rfl, Nat.le_of_ble_eq_true rfl⟩) hK hZ hP rfl hl _ rfl (Nat.le_of_ble_eq_true rfl) hS dX11_graveTold_46 ⟨Nat.zero_le _, Nat.zero_le _⟩ (fun H locs hP hS => ?_)
      refine lv_istore_n (lv' := [(1, .int q9), (0, .ref (ad 0))]) hx hb dX11_graveTold_49 rfl hl (by decide) rfl (fun ls hl => ?_)
      exact j50  gF q9 z7 _ _ ls h hP hS (lv_sub hl [1, 0] rfl)
    · replace h := gif_f h c6
      refine lv_aload_n hx hb dX11_graveTold_26 rfl (lv_at hl 0 rfl) ?_
      refine lv_iconst (v := (nI 1)) hx hb dX11_graveTold_27 (by decide) ?_
      refine fw_put hx hb hts in_X11_graveTold_X11 tyX11_ok nmX11 hown hK hG hP hS gF11.1.1 gF11.1.2 rfl 18 (by decide) rfl (hts _ (List.mem_of_getElem? (i := 2) rfl)) rfl rfl (ty := .boolean) rfl rfl rfl dX11_graveTold_28 (fun z10 H locs ez10 hP hS => ?_)
      replace h := gl_s h ez10
      exact fw_vret hx hb hr hlocks (Option.some.inj h) hK hZ hP hS dX11_graveTold_31
theorem in_X11_statement_X11 : ∀ w ∈ wsX110, w ∈ wsX11_statement := fun w h => List.mem_cons_of_mem _ (List.mem_append_right _ (h))
theorem hdV_X11_statement : yX11_statement.cls = RX11 ∧ yX11_statement.cls ≠ "java/lang/invoke/MethodHandle" ∧ yX11_statement.cls ≠ "java/lang/invoke/VarHandle" ∧ (parseMethodDescriptor yX11_statement.desc).map (fun d => d.parameters.length) = some 0 := by decide +kernel
set_option maxHeartbeats 4000000 in
set_option maxRecDepth 100000 in
theorem k_X11_statement (l : Launch) (D : va_G) (cA : Nat → ClassId) (ad : Nat → Nat) (tw : Nat) (hG : gOk ad 22) (z : gS)  (res : gS) (h : f_X11_statement  z = some res) : gMv l yX11_statement wsX11_statement (gRm 4 85) D cA ad tw shM 22 [.ref (ad 0)] z res := by
  refine Met.ofW (cc := cX11_statement) (maxL := 1) (ret := none) (by decide) rfl ?_
  intro p e s m args below meth c s₁ B hml hv
  obtain ⟨rfl, hP, hK, hZ⟩ := hv
  have hx := B.exec
  have hb := B.bytes
  have hr := B.returns
  have hts := atoms_spec (ws := wsX11_statement) B.pre
  have hown : s.vm.findClass RX11 = some m.cls := findClass_of_methodNamed B.named
  have hlocks := B.notSynchronized
  have hS : va_S (gA ad 22) s.heap s.heap [] := va_S.rf
  have hl := lv_entry ([.ref (ad 0)]) (n := 1) (Nat.le_of_ble_eq_true rfl)
  rw [lg_entry_eq]
  generalize (lg_sl ([.ref (ad 0)]) ++ List.replicate (1 - (lg_sl ([.ref (ad 0)])).length) Slot.unset).toArray = ls at hl ⊢
  have hl : lv_has ls 1 [(0, .ref (ad 0))] := hl
  have j28 : ∀ (z : gS) (H : Heap) (locs : List Loc) (ls : Array Slot), f_X11_statement_28 z = some res → va_P D vwCl (gw cA ad shM 22 z) H → va_S (gA ad 22) s.heap H locs → lv_has ls 1 [(0, .ref (ad 0))] → W p l e (headSpec wsX11_statement (gRm 4 85)).room s m ([.ref (ad 0)] : List Value).toArray below meth c H locs 0 0 (MQ below (va_Qv (fun u => u = res) (gPr D cA ad tw shM 22) (gA ad 22)) ([.ref (ad 0)] : List Value).toArray s 0 0 (gA ad 22)) (F0 m 28 ls []) := by
    intro z H locs ls h hP hS hl
    unfold f_X11_statement_28 at h
    refine lv_aload_n hx hb dX11_statement_28 rfl (lv_at hl 0 rfl) ?_
    refine lv_aload_n hx hb dX11_statement_29 rfl (lv_at hl 0 rfl) ?_
    obtain ⟨q7, hq7, h⟩ := gb_s h
    refine fw_viR (As := []) (rest := [.ref (ad 0)]) ⟨hx, hb, hml, hown, hts⟩ (k_X11_here l D cA ad tw hG z  q7 hq7) (cwV 0 hts gX11_statement_X11_here rfl rfl rfl hdV_X11_here ⟨Nat.le_of_ble_eq_true rfl, Nat.le_of_ble_eq_true rfl⟩) (fw_preV gF11.1.1 gF11.1.2 rfl rfl hK hZ hP hS) rfl hl _ rfl (Nat.le_of_ble_eq_true rfl) hS dX11_statement_30 ⟨Nat.zero_le _, Nat.zero_le _⟩ (fun H locs hP hS => ?_)
    refine lv_bipush (v := (nI 43)) hx hb dX11_statement_33 (by decide) ?_
    refine lv_icmp_ne (tgt := 42) hx hb dX11_statement_35 (by decide) (fun c8 => ?_) (fun c8 => ?_)
    · replace h := gif_f h c8
      refine lv_iconst (v := gm1) hx hb dX11_statement_42 (by decide) ?_
      refine fw_put hx hb hts in_X11_statement_X11 tyX11_ok nmX11 hown hK hG hP hS gF11.1.1 gF11.1.2 rfl 19 (by decide) rfl (hts _ (List.mem_of_getElem? (i := 2) rfl)) rfl rfl (ty := .int) rfl rfl rfl dX11_statement_43 (fun z9 H locs ez9 hP hS => ?_)
      replace h := gl_s h ez9
      refine lv_aload_n hx hb dX11_statement_46 rfl (lv_at hl 0 rfl) ?_
      refine lv_dup hx hb dX11_statement_47 rfl ?_
      refine fw_geti hx hb hts in_X11_statement_X11 hown hK hP gF11.1.1 gF11.1.2 rfl 17 (by decide) rfl (hts _ (List.mem_of_getElem? (i := 3) rfl)) rfl dX11_statement_48 ?_
      refine lv_iconst (v := (nI 1)) hx hb dX11_statement_51 (by decide) ?_
      refine lv_iadd hx hb dX11_statement_52 ?_
      refine fw_put hx hb hts in_X11_statement_X11 tyX11_ok nmX11 hown hK hG hP hS gF11.1.1 gF11.1.2 rfl 17 (by decide) rfl (hts _ (List.mem_of_getElem? (i := 3) rfl)) rfl rfl (ty := .int) rfl rfl rfl dX11_statement_53 (fun z10 H locs ez10 hP hS => ?_)
      replace h := gl_s h ez10
      refine lv_aload_n hx hb dX11_statement_56 rfl (lv_at hl 0 rfl) ?_
      refine lv_iconst (v := (nI 1)) hx hb dX11_statement_57 (by decide) ?_
      obtain ⟨q11, hq11, h⟩ := gb_s h
      refine fw_vv (As := [.int (nI 1)]) (rest := []) ⟨hx, hb, hml, hown, hts⟩ (k_X11_digits_ l D cA ad tw hG z10 (nI 1) q11 hq11) (cwV 1 hts gX11_statement_X11_digits_ rfl rfl rfl hdV_X11_digits_ ⟨Nat.le_of_ble_eq_true rfl, Nat.le_of_ble_eq_true rfl⟩) (fw_preV gF11.1.1 gF11.1.2 rfl rfl hK hZ hP hS) rfl hl _ rfl (Nat.le_of_ble_eq_true rfl) hS dX11_statement_58 ⟨Nat.zero_le _, Nat.zero_le _⟩ (fun H locs hP hS => ?_)
      refine lv_aload_n hx hb dX11_statement_61 rfl (lv_at hl 0 rfl) ?_
      refine fw_geti hx hb hts in_X11_statement_X11 hown hK hP gF11.1.1 gF11.1.2 rfl 18 (by decide) rfl (hts _ (List.mem_of_getElem? (i := 4) rfl)) rfl dX11_statement_62 ?_
      refine lv_if_ne (tgt := 72) hx hb dX11_statement_65 (by decide) (fun c12 => ?_) (fun c12 => ?_)
      · replace h := gif_f h c12
        exact fw_vret hx hb hr hlocks (Option.some.inj h) hK hZ hP hS dX11_statement_72
      · replace h := gif_t h c12
        refine lv_aload_n hx hb dX11_statement_68 rfl (lv_at hl 0 rfl) ?_
        obtain ⟨q13, hq13, h⟩ := gb_s h
        refine fw_vv (As := []) (rest := []) ⟨hx, hb, hml, hown, hts⟩ (k_X11_name l D cA ad tw hG q11  q13 hq13) (cwV 0 hts gX11_statement_X11_name rfl rfl rfl hdV_X11_name ⟨Nat.le_of_ble_eq_true rfl, Nat.le_of_ble_eq_true rfl⟩) (fw_preV gF11.1.1 gF11.1.2 rfl rfl hK hZ hP hS) rfl hl _ rfl (Nat.le_of_ble_eq_true rfl) hS dX11_statement_69 ⟨Nat.zero_le _, Nat.zero_le _⟩ (fun H locs hP hS => ?_)
        exact fw_vret hx hb hr hlocks (Option.some.inj h) hK hZ hP hS dX11_statement_72
    · replace h := gif_t h c8
      refine lv_iconst (v := (nI 1)) hx hb dX11_statement_38 (by decide) ?_
      refine lv_goto (tgt := 43) hx hb dX11_statement_39 (by decide) ?_
      refine fw_put hx hb hts in_X11_statement_X11 tyX11_ok nmX11 hown hK hG hP hS gF11.1.1 gF11.1.2 rfl 19 (by decide) rfl (hts _ (List.mem_of_getElem? (i := 2) rfl)) rfl rfl (ty := .int) rfl rfl rfl dX11_statement_43 (fun z14 H locs ez14 hP hS => ?_)
      replace h := gl_s h ez14
      refine lv_aload_n hx hb dX11_statement_46 rfl (lv_at hl 0 rfl) ?_
      refine lv_dup hx hb dX11_statement_47 rfl ?_
      refine fw_geti hx hb hts in_X11_statement_X11 hown hK hP gF11.1.1 gF11.1.2 rfl 17 (by decide) rfl (hts _ (List.mem_of_getElem? (i := 3) rfl)) rfl dX11_statement_48 ?_
      refine lv_iconst (v := (nI 1)) hx hb dX11_statement_51 (by decide) ?_
      refine lv_iadd hx hb dX11_statement_52 ?_
      refine fw_put hx hb hts in_X11_statement_X11 tyX11_ok nmX11 hown hK hG hP hS gF11.1.1 gF11.1.2 rfl 17 (by decide) rfl (hts _ (List.mem_of_getElem? (i := 3) rfl)) rfl rfl (ty := .int) rfl rfl rfl dX11_statement_53 (fun z15 H locs ez15 hP hS => ?_)
      replace h := gl_s h ez15
      refine lv_aload_n hx hb dX11_statement_56 rfl (lv_at hl 0 rfl) ?_
      refine lv_iconst (v := (nI 1)) hx hb dX11_statement_57 (by decide) ?_
      obtain ⟨q16, hq16, h⟩ := gb_s h
      refine fw_vv (As := [.int (nI 1)]) (rest := []) ⟨hx, hb, hml, hown, hts⟩ (k_X11_digits_ l D cA ad tw hG z15 (nI 1) q16 hq16) (cwV 1 hts gX11_statement_X11_digits_ rfl rfl rfl hdV_X11_digits_ ⟨Nat.le_of_ble_eq_true rfl, Nat.le_of_ble_eq_true rfl⟩) (fw_preV gF11.1.1 gF11.1.2 rfl rfl hK hZ hP hS) rfl hl _ rfl (Nat.le_of_ble_eq_true rfl) hS dX11_statement_58 ⟨Nat.zero_le _, Nat.zero_le _⟩ (fun H locs hP hS => ?_)
      refine lv_aload_n hx hb dX11_statement_61 rfl (lv_at hl 0 rfl) ?_
      refine fw_geti hx hb hts in_X11_statement_X11 hown hK hP gF11.1.1 gF11.1.2 rfl 18 (by decide) rfl (hts _ (List.mem_of_getElem? (i := 4) rfl)) rfl dX11_statement_62 ?_
      refine lv_if_ne (tgt := 72) hx hb dX11_statement_65 (by decide) (fun c17 => ?_) (fun c17 => ?_)
      · replace h := gif_f h c17
        exact fw_vret hx hb hr hlocks (Option.some.inj h) hK hZ hP hS dX11_statement_72
      · replace h := gif_t h c17
        refine lv_aload_n hx hb dX11_statement_68 rfl (lv_at hl 0 rfl) ?_
        obtain ⟨q18, hq18, h⟩ := gb_s h
        refine fw_vv (As := []) (rest := []) ⟨hx, hb, hml, hown, hts⟩ (k_X11_name l D cA ad tw hG q16  q18 hq18) (cwV 0 hts gX11_statement_X11_name rfl rfl rfl hdV_X11_name ⟨Nat.le_of_ble_eq_true rfl, Nat.le_of_ble_eq_true rfl⟩) (fw_preV gF11.1.1 gF11.1.2 rfl rfl hK hZ hP hS) rfl hl _ rfl (Nat.le_of_ble_eq_true rfl) hS dX11_statement_69 ⟨Nat.zero_le _, Nat.zero_le _⟩ (fun H locs hP hS => ?_)
        exact fw_vret hx hb hr hlocks (Option.some.inj h) hK hZ hP hS dX11_statement_72
  unfold f_X11_statement at h
  refine lv_aload_n hx hb dX11_statement_0 rfl (lv_at hl 0 rfl) ?_
  refine lv_iconst (v := (nI 0)) hx hb dX11_statement_1 (by decide) ?_
  refine fw_put hx hb hts in_X11_statement_X11 tyX11_ok nmX11 hown hK hG hP hS gF11.1.1 gF11.1.2 rfl 22 (by decide) rfl (hts _ (List.mem_of_getElem? (i := 1) rfl)) rfl rfl (ty := .int) rfl rfl rfl dX11_statement_2 (fun z1 H locs ez1 hP hS => ?_)
  replace h := gl_s h ez1
  refine lv_aload_n hx hb dX11_statement_5 rfl (lv_at hl 0 rfl) ?_
  obtain ⟨q2, hq2, h⟩ := gb_s h
  refine fw_viR (As := []) (rest := []) ⟨hx, hb, hml, hown, hts⟩ (k_X11_here l D cA ad tw hG z1  q2 hq2) (cwV 0 hts gX11_statement_X11_here rfl rfl rfl hdV_X11_here ⟨Nat.le_of_ble_eq_true rfl, Nat.le_of_ble_eq_true rfl⟩) (fw_preV gF11.1.1 gF11.1.2 rfl rfl hK hZ hP hS) rfl hl _ rfl (Nat.le_of_ble_eq_true rfl) hS dX11_statement_6 ⟨Nat.zero_le _, Nat.zero_le _⟩ (fun H locs hP hS => ?_)
  refine lv_bipush (v := (nI 43)) hx hb dX11_statement_9 (by decide) ?_
  refine lv_icmp_eq (tgt := 28) hx hb dX11_statement_11 (by decide) (fun c3 => ?_) (fun c3 => ?_)
  · replace h := gif_t h c3
    exact j28 z1 _ _ ls h hP hS (lv_sub hl [0] rfl)
  · replace h := gif_f h c3
    refine lv_aload_n hx hb dX11_statement_14 rfl (lv_at hl 0 rfl) ?_
    obtain ⟨q4, hq4, h⟩ := gb_s h
    refine fw_viR (As := []) (rest := []) ⟨hx, hb, hml, hown, hts⟩ (k_X11_here l D cA ad tw hG z1  q4 hq4) (cwV 0 hts gX11_statement_X11_here rfl rfl rfl hdV_X11_here ⟨Nat.le_of_ble_eq_true rfl, Nat.le_of_ble_eq_true rfl⟩) (fw_preV gF11.1.1 gF11.1.2 rfl rfl hK hZ hP hS) rfl hl _ rfl (Nat.le_of_ble_eq_true rfl) hS dX11_statement_15 ⟨Nat.zero_le _, Nat.zero_le _⟩ (fun H locs hP hS => ?_)
    refine lv_bipush (v := (nI 45)) hx hb dX11_statement_18 (by decide) ?_
    refine lv_icmp_eq (tgt := 28) hx hb dX11_statement_20 (by decide) (fun c5 => ?_) (fun c5 => ?_)
    · replace h := gif_t h c5
      exact j28 z1 _ _ ls h hP hS (lv_sub hl [0] rfl)
    · replace h := gif_f h c5
      refine lv_aload_n hx hb dX11_statement_23 rfl (lv_at hl 0 rfl) ?_
      obtain ⟨q6, hq6, h⟩ := gb_s h
      refine fw_vv (As := []) (rest := []) ⟨hx, hb, hml, hown, hts⟩ (k_X11_graveTold l D cA ad tw hG z1  q6 hq6) (cwV 0 hts gX11_statement_X11_graveTold rfl rfl rfl hdV_X11_graveTold ⟨Nat.le_of_ble_eq_true rfl, Nat.le_of_ble_eq_true rfl⟩) (fw_preV gF11.1.1 gF11.1.2 rfl rfl hK hZ hP hS) rfl hl _ rfl (Nat.le_of_ble_eq_true rfl) hS dX11_statement_24 ⟨Nat.zero_le _, Nat.zero_le _⟩ (fun H locs hP hS => ?_)
      exact fw_vret hx hb hr hlocks (Option.some.inj h) hK hZ hP hS dX11_statement_27
theorem in_X11_typeOf_X11 : ∀ w ∈ wsX110, w ∈ wsX11_typeOf := fun w h => List.mem_cons_of_mem _ (List.mem_append_right _ (h))
theorem hdV_X11_typeOf : yX11_typeOf.cls = RX11 ∧ yX11_typeOf.cls ≠ "java/lang/invoke/MethodHandle" ∧ yX11_typeOf.cls ≠ "java/lang/invoke/VarHandle" ∧ (parseMethodDescriptor yX11_typeOf.desc).map (fun d => d.parameters.length) = some 1 := by decide +kernel
set_option maxHeartbeats 4000000 in
set_option maxRecDepth 100000 in
theorem k_X11_typeOf (l : Launch) (D : va_G) (cA : Nat → ClassId) (ad : Nat → Nat) (tw : Nat) (hG : gOk ad 22) (z : gS) (a1 : Int32) (res : Int32 × gS) (h : f_X11_typeOf a1 z = some res) : gMi l yX11_typeOf wsX11_typeOf (gRm 0 0) D cA ad tw shM 22 [.ref (ad 0), .int a1] z res := by
  refine Met.ofW (cc := cX11_typeOf) (maxL := 3) (ret := (some .int)) (by decide) rfl ?_
  intro p e s m args below meth c s₁ B hml hv
  obtain ⟨rfl, hP, hK, hZ⟩ := hv
  have hx := B.exec
  have hb := B.bytes
  have hr := B.returns
  have hts := atoms_spec (ws := wsX11_typeOf) B.pre
  have hown : s.vm.findClass RX11 = some m.cls := findClass_of_methodNamed B.named
  have hlocks := B.notSynchronized
  have hS : va_S (gA ad 22) s.heap s.heap [] := va_S.rf
  have hl := lv_entry ([.ref (ad 0), .int a1]) (n := 3) (Nat.le_of_ble_eq_true rfl)
  rw [lg_entry_eq]
  generalize (lg_sl ([.ref (ad 0), .int a1]) ++ List.replicate (3 - (lg_sl ([.ref (ad 0), .int a1])).length) Slot.unset).toArray = ls at hl ⊢
  have hl : lv_has ls 3 [(0, .ref (ad 0)), (1, .int a1)] := hl
  have j2 : ∀ (z : gS) (x1 : Int32) (n : Nat) (x2 : Int32) (H : Heap) (locs : List Loc) (ls : Array Slot), f_X11_typeOf_2 z x1 n x2 = some res → va_P D vwCl (gw cA ad shM 22 z) H → va_S (gA ad 22) s.heap H locs → lv_has ls 3 [(0, .ref (ad 0)), (1, .int x1), (2, .int x2)] → W p l e (headSpec wsX11_typeOf (gRm 0 0)).room s m ([.ref (ad 0), .int a1] : List Value).toArray below meth c H locs 0 0 (MQ below (va_Qi (fun r u => (r, u) = res) (gPr D cA ad tw shM 22) (gA ad 22)) ([.ref (ad 0), .int a1] : List Value).toArray s 0 0 (gA ad 22)) (F0 m 2 ls []) := by
    intro z x1 n
    induction n with
    | zero => intro x2 H locs ls h; exact (gno h).elim
    | succ n hK2 =>
      intro x2 H locs ls h hP hS hl
      replace h : f_X11_typeOf_2_b z x1 (f_X11_typeOf_2 z x1 n) x2 = some res := h
      unfold f_X11_typeOf_2_b at h
      refine lv_iload_n hx hb dX11_typeOf_2 rfl (lv_at hl 2 rfl) ?_
      refine lv_aload_n hx hb dX11_typeOf_3 rfl (lv_at hl 0 rfl) ?_
      refine fw_geti hx hb hts in_X11_typeOf_X11 hown hK hP gF11.1.1 gF11.1.2 rfl 2 (by decide) rfl (hts _ (List.mem_of_getElem? (i := 1) rfl)) rfl dX11_typeOf_4 ?_
      refine lv_icmp_ge (tgt := 28) hx hb dX11_typeOf_7 (by decide) (fun c1 => ?_) (fun c1 => ?_)
      · replace h := gif_t h c1
        refine lv_aload_n hx hb dX11_typeOf_28 rfl (lv_at hl 0 rfl) ?_
        refine fw_geti hx hb hts in_X11_typeOf_X11 hown hK hP gF11.1.1 gF11.1.2 rfl 2 (by decide) rfl (hts _ (List.mem_of_getElem? (i := 1) rfl)) rfl dX11_typeOf_29 ?_
        refine lv_bipush (v := (nI 8)) hx hb dX11_typeOf_32 (by decide) ?_
        refine lv_icmp_ne (tgt := 39) hx hb dX11_typeOf_34 (by decide) (fun c2 => ?_) (fun c2 => ?_)
        · replace h := gif_f h c2
          refine lv_aload_n hx hb dX11_typeOf_39 rfl (lv_at hl 0 rfl) ?_
          refine fw_getr hx hb hts in_X11_typeOf_X11 hown hK hP gF11.1.1 gF11.1.2 rfl 5 (by decide) rfl (hts _ (List.mem_of_getElem? (i := 2) rfl)) rfl dX11_typeOf_40 ?_
          refine lv_aload_n hx hb dX11_typeOf_43 rfl (lv_at hl 0 rfl) ?_
          refine fw_geti hx hb hts in_X11_typeOf_X11 hown hK hP gF11.1.1 gF11.1.2 rfl 2 (by decide) rfl (hts _ (List.mem_of_getElem? (i := 1) rfl)) rfl dX11_typeOf_44 ?_
          refine lv_iload_n hx hb dX11_typeOf_47 rfl (lv_at hl 1 rfl) ?_
          obtain ⟨h3, h⟩ := gg_s h
          refine fw_iast hx hb hK hG hP hS gF11.2.2.2.1.1 gF11.2.2.2.1.2 h3 dX11_typeOf_48 (fun z4 H locs ez4 hP hS => ?_)
          replace h := gl_s h ez4
          refine lv_aload_n hx hb dX11_typeOf_49 rfl (lv_at hl 0 rfl) ?_
          refine lv_dup hx hb dX11_typeOf_50 rfl ?_
          refine fw_geti hx hb hts in_X11_typeOf_X11 hown hK hP gF11.1.1 gF11.1.2 rfl 2 (by decide) rfl (hts _ (List.mem_of_getElem? (i := 1) rfl)) rfl dX11_typeOf_51 ?_
          refine lv_iconst (v := (nI 1)) hx hb dX11_typeOf_54 (by decide) ?_
          refine lv_iadd hx hb dX11_typeOf_55 ?_
          refine fw_put hx hb hts in_X11_typeOf_X11 tyX11_ok nmX11 hown hK hG hP hS gF11.1.1 gF11.1.2 rfl 2 (by decide) rfl (hts _ (List.mem_of_getElem? (i := 1) rfl)) rfl rfl (ty := .int) rfl rfl rfl dX11_typeOf_56 (fun z5 H locs ez5 hP hS => ?_)
          replace h := gl_s h ez5
          refine lv_aload_n hx hb dX11_typeOf_59 rfl (lv_at hl 0 rfl) ?_
          refine fw_geti hx hb hts in_X11_typeOf_X11 hown hK hP gF11.1.1 gF11.1.2 rfl 2 (by decide) rfl (hts _ (List.mem_of_getElem? (i := 1) rfl)) rfl dX11_typeOf_60 ?_
          refine lv_iconst (v := (nI 1)) hx hb dX11_typeOf_63 (by decide) ?_
          refine lv_isub hx hb dX11_typeOf_64 ?_
          exact fw_ireti hx hb hr hlocks (Option.some.inj h) hK hZ hP hS dX11_typeOf_65
        · replace h := gif_t h c2
          refine lv_iconst (v := gm1) hx hb dX11_typeOf_37 (by decide) ?_
          exact fw_ireti hx hb hr hlocks (Option.some.inj h) hK hZ hP hS dX11_typeOf_38
      · replace h := gif_f h c1
        refine lv_aload_n hx hb dX11_typeOf_10 rfl (lv_at hl 0 rfl) ?_
        refine fw_getr hx hb hts in_X11_typeOf_X11 hown hK hP gF11.1.1 gF11.1.2 rfl 5 (by decide) rfl (hts _ (List.mem_of_getElem? (i := 2) rfl)) rfl dX11_typeOf_11 ?_
        refine lv_iload_n hx hb dX11_typeOf_14 rfl (lv_at hl 2 rfl) ?_
        obtain ⟨h6, h⟩ := gg_s h
        refine fw_iald hx hb hK hP gF11.2.2.2.1.1 gF11.2.2.2.1.2 h6 dX11_typeOf_15 ?_
        refine lv_iload_n hx hb dX11_typeOf_16 rfl (lv_at hl 1 rfl) ?_
        refine lv_icmp_ne (tgt := 22) hx hb dX11_typeOf_17 (by decide) (fun c7 => ?_) (fun c7 => ?_)
        · replace h := gif_f h c7
          refine lv_iinc (v := x2 + (nI 1)) (lv' := [(2, .int (x2 + (nI 1))), (0, .ref (ad 0)), (1, .int x1)]) hx hb dX11_typeOf_22 hl (k := 2) rfl rfl (by decide) rfl (fun ls hl => ?_)
          refine lv_goto (tgt := 2) hx hb dX11_typeOf_25 (by decide) ?_
          exact hK2 (x2 + (nI 1)) _ _ ls h hP hS (lv_sub hl [1, 2, 0] rfl)
        · replace h := gif_t h c7
          refine lv_iload_n hx hb dX11_typeOf_20 rfl (lv_at hl 2 rfl) ?_
          exact fw_ireti hx hb hr hlocks (Option.some.inj h) hK hZ hP hS dX11_typeOf_21
  unfold f_X11_typeOf at h
  refine lv_iconst (v := (nI 0)) hx hb dX11_typeOf_0 (by decide) ?_
  refine lv_istore_n (lv' := [(2, .int (nI 0)), (0, .ref (ad 0)), (1, .int a1)]) hx hb dX11_typeOf_1 rfl hl (by decide) rfl (fun ls hl => ?_)
  exact j2 z a1 gF (nI 0) _ _ ls h hP hS (lv_sub hl [1, 2, 0] rfl)
theorem in_X11_isTwice_X11 : ∀ w ∈ wsX110, w ∈ wsX11_isTwice := fun w h => List.mem_cons_of_mem _ (List.mem_append_right _ (h))
theorem hdV_X11_isTwice : yX11_isTwice.cls = RX11 ∧ yX11_isTwice.cls ≠ "java/lang/invoke/MethodHandle" ∧ yX11_isTwice.cls ≠ "java/lang/invoke/VarHandle" ∧ (parseMethodDescriptor yX11_isTwice.desc).map (fun d => d.parameters.length) = some 0 := by decide +kernel
set_option maxHeartbeats 4000000 in
set_option maxRecDepth 100000 in
theorem k_X11_isTwice (l : Launch) (D : va_G) (cA : Nat → ClassId) (ad : Nat → Nat) (tw : Nat) (hG : gOk ad 22) (z : gS)  (res : Int32) (h : f_X11_isTwice  z = some res) : gMi l yX11_isTwice wsX11_isTwice (gRm 0 0) D cA ad tw shM 22 [.ref (ad 0)] z (res, z) := by
  refine Met.ofW (cc := cX11_isTwice) (maxL := 3) (ret := (some .boolean)) (by decide) rfl ?_
  intro p e s m args below meth c s₁ B hml hv
  obtain ⟨rfl, hP, hK, hZ⟩ := hv
  have hx := B.exec
  have hb := B.bytes
  have hr := B.returns
  have hts := atoms_spec (ws := wsX11_isTwice) B.pre
  have hown : s.vm.findClass RX11 = some m.cls := findClass_of_methodNamed B.named
  have hlocks := B.notSynchronized
  have hS : va_S (gA ad 22) s.heap s.heap [] := va_S.rf
  have hl := lv_entry ([.ref (ad 0)]) (n := 3) (Nat.le_of_ble_eq_true rfl)
  rw [lg_entry_eq]
  generalize (lg_sl ([.ref (ad 0)]) ++ List.replicate (3 - (lg_sl ([.ref (ad 0)])).length) Slot.unset).toArray = ls at hl ⊢
  have hl : lv_has ls 3 [(0, .ref (ad 0))] := hl
  have j12 : ∀ (x1 : Int32) (K2 : Int32 → Option Int32) (hK2 : ∀ (x1' : Int32) (H : Heap) (locs : List Loc) (ls : Array Slot), K2 x1' = some res → va_P D vwCl (gw cA ad shM 22 z) H → va_S (gA ad 22) s.heap H locs → lv_has ls 3 [(0, .ref (ad 0)), (1, .int x1')] → W p l e (headSpec wsX11_isTwice (gRm 0 0)).room s m ([.ref (ad 0)] : List Value).toArray below meth c H locs 0 0 (MQ below (va_Qi (fun r u => (r, u) = (res, z)) (gPr D cA ad tw shM 22) (gA ad 22)) ([.ref (ad 0)] : List Value).toArray s 0 0 (gA ad 22)) (F0 m 2 ls [])) (n : Nat) (x2 : Int32) (H : Heap) (locs : List Loc) (ls : Array Slot), f_X11_isTwice_12 z x1 K2 n x2 = some res → va_P D vwCl (gw cA ad shM 22 z) H → va_S (gA ad 22) s.heap H locs → lv_has ls 3 [(0, .ref (ad 0)), (1, .int x1), (2, .int x2)] → W p l e (headSpec wsX11_isTwice (gRm 0 0)).room s m ([.ref (ad 0)] : List Value).toArray below meth c H locs 0 0 (MQ below (va_Qi (fun r u => (r, u) = (res, z)) (gPr D cA ad tw shM 22) (gA ad 22)) ([.ref (ad 0)] : List Value).toArray s 0 0 (gA ad 22)) (F0 m 12 ls []) := by
    intro x1 K2 hK2 n
    induction n with
    | zero => intro x2 H locs ls h; exact (gno h).elim
    | succ n hK12 =>
      intro x2 H locs ls h hP hS hl
      replace h : f_X11_isTwice_12_b z x1 K2 (f_X11_isTwice_12 z x1 K2 n) x2 = some res := h
      unfold f_X11_isTwice_12_b at h
      refine lv_iload_n hx hb dX11_isTwice_12 rfl (lv_at hl 2 rfl) ?_
      refine lv_iload_n hx hb dX11_isTwice_13 rfl (lv_at hl 1 rfl) ?_
      refine lv_icmp_ge (tgt := 40) hx hb dX11_isTwice_14 (by decide) (fun c2 => ?_) (fun c2 => ?_)
      · replace h := gif_t h c2
        refine lv_iinc (v := x1 + (nI 1)) (lv' := [(1, .int (x1 + (nI 1))), (0, .ref (ad 0)), (2, .int x2)]) hx hb dX11_isTwice_40 hl (k := 1) rfl rfl (by decide) rfl (fun ls hl => ?_)
        refine lv_goto (tgt := 2) hx hb dX11_isTwice_43 (by decide) ?_
        exact hK2 (x1 + (nI 1)) _ _ ls h hP hS (lv_sub hl [1, 0] rfl)
      · replace h := gif_f h c2
        refine lv_aload_n hx hb dX11_isTwice_17 rfl (lv_at hl 0 rfl) ?_
        refine fw_getr hx hb hts in_X11_isTwice_X11 hown hK hP gF11.1.1 gF11.1.2 rfl 21 (by decide) rfl (hts _ (List.mem_of_getElem? (i := 2) rfl)) rfl dX11_isTwice_18 ?_
        refine lv_iload_n hx hb dX11_isTwice_21 rfl (lv_at hl 1 rfl) ?_
        obtain ⟨h3, h⟩ := gg_s h
        refine fw_iald hx hb hK hP gF11.2.2.2.2.2.2.2.2.2.1.1 gF11.2.2.2.2.2.2.2.2.2.1.2 h3 dX11_isTwice_22 ?_
        refine lv_aload_n hx hb dX11_isTwice_23 rfl (lv_at hl 0 rfl) ?_
        refine fw_getr hx hb hts in_X11_isTwice_X11 hown hK hP gF11.1.1 gF11.1.2 rfl 21 (by decide) rfl (hts _ (List.mem_of_getElem? (i := 2) rfl)) rfl dX11_isTwice_24 ?_
        refine lv_iload_n hx hb dX11_isTwice_27 rfl (lv_at hl 2 rfl) ?_
        obtain ⟨h4, h⟩ := gg_s h
        refine fw_iald hx hb hK hP gF11.2.2.2.2.2.2.2.2.2.1.1 gF11.2.2.2.2.2.2.2.2.2.1.2 h4 dX11_isTwice_28 ?_
        refine lv_icmp_ne (tgt := 34) hx hb dX11_isTwice_29 (by decide) (fun c5 => ?_) (fun c5 => ?_)
        · replace h := gif_f h c5
          refine lv_iinc (v := x2 + (nI 1)) (lv' := [(2, .int (x2 + (nI 1))), (0, .ref (ad 0)), (1, .int x1)]) hx hb dX11_isTwice_34 hl (k := 2) rfl rfl (by decide) rfl (fun ls hl => ?_)
          refine lv_goto (tgt := 12) hx hb dX11_isTwice_37 (by decide) ?_
          exact hK12 (x2 + (nI 1)) _ _ ls h hP hS (lv_sub hl [1, 2, 0] rfl)
        · replace h := gif_t h c5
          refine lv_iconst (v := (nI 1)) hx hb dX11_isTwice_32 (by decide) ?_
          exact fw_iretz hx hb hr hlocks (by decide) (congrArg (fun q => (q, z)) (Option.some.inj h)) hK hZ hP hS dX11_isTwice_33
  have j2 : ∀  (n : Nat) (x1 : Int32) (H : Heap) (locs : List Loc) (ls : Array Slot), f_X11_isTwice_2 z n x1 = some res → va_P D vwCl (gw cA ad shM 22 z) H → va_S (gA ad 22) s.heap H locs → lv_has ls 3 [(0, .ref (ad 0)), (1, .int x1)] → W p l e (headSpec wsX11_isTwice (gRm 0 0)).room s m ([.ref (ad 0)] : List Value).toArray below meth c H locs 0 0 (MQ below (va_Qi (fun r u => (r, u) = (res, z)) (gPr D cA ad tw shM 22) (gA ad 22)) ([.ref (ad 0)] : List Value).toArray s 0 0 (gA ad 22)) (F0 m 2 ls []) := by
    intro n
    induction n with
    | zero => intro x1 H locs ls h; exact (gno h).elim
    | succ n hK2 =>
      intro x1 H locs ls h hP hS hl
      replace h : f_X11_isTwice_2_b z (f_X11_isTwice_2 z n) x1 = some res := h
      unfold f_X11_isTwice_2_b at h
      refine lv_iload_n hx hb dX11_isTwice_2 rfl (lv_at hl 1 rfl) ?_
      refine lv_aload_n hx hb dX11_isTwice_3 rfl (lv_at hl 0 rfl) ?_
      refine fw_geti hx hb hts in_X11_isTwice_X11 hown hK hP gF11.1.1 gF11.1.2 rfl 22 (by decide) rfl (hts _ (List.mem_of_getElem? (i := 1) rfl)) rfl dX11_isTwice_4 ?_
      refine lv_icmp_ge (tgt := 46) hx hb dX11_isTwice_7 (by decide) (fun c1 => ?_) (fun c1 => ?_)
      · replace h := gif_t h c1
        refine lv_iconst (v := (nI 0)) hx hb dX11_isTwice_46 (by decide) ?_
        exact fw_iretz hx hb hr hlocks (by decide) (congrArg (fun q => (q, z)) (Option.some.inj h)) hK hZ hP hS dX11_isTwice_47
      · replace h := gif_f h c1
        refine lv_iconst (v := (nI 0)) hx hb dX11_isTwice_10 (by decide) ?_
        refine lv_istore_n (lv' := [(2, .int (nI 0)), (0, .ref (ad 0)), (1, .int x1)]) hx hb dX11_isTwice_11 rfl hl (by decide) rfl (fun ls hl => ?_)
        exact j12 x1 _ hK2 gF (nI 0) _ _ ls h hP hS (lv_sub hl [1, 2, 0] rfl)
  unfold f_X11_isTwice at h
  refine lv_iconst (v := (nI 0)) hx hb dX11_isTwice_0 (by decide) ?_
  refine lv_istore_n (lv' := [(1, .int (nI 0)), (0, .ref (ad 0))]) hx hb dX11_isTwice_1 rfl hl (by decide) rfl (fun ls hl => ?_)
  exact j2  gF (nI 0) _ _ ls h hP hS (lv_sub hl [1, 0] rfl)
theorem in_X11_isDone_X11 : ∀ w ∈ wsX110, w ∈ wsX11_isDone := fun w h => List.mem_cons_of_mem _ (List.mem_append_right _ (h))
theorem hdV_X11_isDone : yX11_isDone.cls = RX11 ∧ yX11_isDone.cls ≠ "java/lang/invoke/MethodHandle" ∧ yX11_isDone.cls ≠ "java/lang/invoke/VarHandle" ∧ (parseMethodDescriptor yX11_isDone.desc).map (fun d => d.parameters.length) = some 0 := by decide +kernel
set_option maxHeartbeats 4000000 in
set_option maxRecDepth 100000 in
theorem k_X11_isDone (l : Launch) (D : va_G) (cA : Nat → ClassId) (ad : Nat → Nat) (tw : Nat) (hG : gOk ad 22) (z : gS)  (res : Int32 × gS) (h : f_X11_isDone  z = some res) : gMi l yX11_isDone wsX11_isDone (gRm 2 43) D cA ad tw shM 22 [.ref (ad 0)] z res := by
  refine Met.ofW (cc := cX11_isDone) (maxL := 4) (ret := (some .boolean)) (by decide) rfl ?_
  intro p e s m args below meth c s₁ B hml hv
  obtain ⟨rfl, hP, hK, hZ⟩ := hv
  have hx := B.exec
  have hb := B.bytes
  have hr := B.returns
  have hts := atoms_spec (ws := wsX11_isDone) B.pre
  have hown : s.vm.findClass RX11 = some m.cls := findClass_of_methodNamed B.named
  have hlocks := B.notSynchronized
  have hS : va_S (gA ad 22) s.heap s.heap [] := va_S.rf
  have hl := lv_entry ([.ref (ad 0)]) (n := 4) (Nat.le_of_ble_eq_true rfl)
  rw [lg_entry_eq]
  generalize (lg_sl ([.ref (ad 0)]) ++ List.replicate (4 - (lg_sl ([.ref (ad 0)])).length) Slot.unset).toArray = ls at hl ⊢
  have hl : lv_has ls 4 [(0, .ref (ad 0))] := hl
  have j47 : ∀  (n : Nat) (x1 : Int32) (x2 : Int32) (z : gS) (H : Heap) (locs : List Loc) (ls : Array Slot), f_X11_isDone_47  n x1 x2 z = some res → va_P D vwCl (gw cA ad shM 22 z) H → va_S (gA ad 22) s.heap H locs → lv_has ls 4 [(0, .ref (ad 0)), (1, .int x1), (2, .int x2)] → W p l e (headSpec wsX11_isDone (gRm 2 43)).room s m ([.ref (ad 0)] : List Value).toArray below meth c H locs 0 0 (MQ below (va_Qi (fun r u => (r, u) = res) (gPr D cA ad tw shM 22) (gA ad 22)) ([.ref (ad 0)] : List Value).toArray s 0 0 (gA ad 22)) (F0 m 47 ls []) := by
    intro n
    induction n with
    | zero => intro x1 x2 z H locs ls h; exact (gno h).elim
    | succ n hK47 =>
      intro x1 x2 z H locs ls h hP hS hl
      replace h : f_X11_isDone_47_b  (f_X11_isDone_47  n) x1 x2 z = some res := h
      unfold f_X11_isDone_47_b at h
      refine lv_iload_n hx hb dX11_isDone_47 rfl (lv_at hl 2 rfl) ?_
      refine lv_aload_n hx hb dX11_isDone_48 rfl (lv_at hl 0 rfl) ?_
      refine fw_geti hx hb hts in_X11_isDone_X11 hown hK hP gF11.1.1 gF11.1.2 rfl 22 (by decide) rfl (hts _ (List.mem_of_getElem? (i := 4) rfl)) rfl dX11_isDone_49 ?_
      refine lv_icmp_ge (tgt := 85) hx hb dX11_isDone_52 (by decide) (fun c11 => ?_) (fun c11 => ?_)
      · replace h := gif_t h c11
        refine lv_aload_n hx hb dX11_isDone_85 rfl (lv_at hl 0 rfl) ?_
        refine fw_geti hx hb hts in_X11_isDone_X11 hown hK hP gF11.1.1 gF11.1.2 rfl 19 (by decide) rfl (hts _ (List.mem_of_getElem? (i := 1) rfl)) rfl dX11_isDone_86 ?_
        refine lv_if_ne (tgt := 111) hx hb dX11_isDone_89 (by decide) (fun c12 => ?_) (fun c12 => ?_)
        · replace h := gif_f h c12
          refine lv_aload_n hx hb dX11_isDone_111 rfl (lv_at hl 0 rfl) ?_
          refine fw_getr hx hb hts in_X11_isDone_X11 hown hK hP gF11.1.1 gF11.1.2 rfl 4 (by decide) rfl (hts _ (List.mem_of_getElem? (i := 6) rfl)) rfl dX11_isDone_112 ?_
          refine lv_aload_n hx hb dX11_isDone_115 rfl (lv_at hl 0 rfl) ?_
          refine fw_geti hx hb hts in_X11_isDone_X11 hown hK hP gF11.1.1 gF11.1.2 rfl 20 (by decide) rfl (hts _ (List.mem_of_getElem? (i := 3) rfl)) rfl dX11_isDone_116 ?_
          refine lv_aload_n hx hb dX11_isDone_119 rfl (lv_at hl 0 rfl) ?_
          refine fw_geti hx hb hts in_X11_isDone_X11 hown hK hP gF11.1.1 gF11.1.2 rfl 19 (by decide) rfl (hts _ (List.mem_of_getElem? (i := 1) rfl)) rfl dX11_isDone_120 ?_
          refine lv_if_le (tgt := 140) hx hb dX11_isDone_123 (by decide) (fun c13 => ?_) (fun c13 => ?_)
          · replace h := gif_t h c13
            refine lv_aload_n hx hb dX11_isDone_140 rfl (lv_at hl 0 rfl) ?_
            refine fw_getr hx hb hts in_X11_isDone_X11 hown hK hP gF11.1.1 gF11.1.2 rfl 4 (by decide) rfl (hts _ (List.mem_of_getElem? (i := 6) rfl)) rfl dX11_isDone_141 ?_
            refine lv_aload_n hx hb dX11_isDone_144 rfl (lv_at hl 0 rfl) ?_
            refine fw_geti hx hb hts in_X11_isDone_X11 hown hK hP gF11.1.1 gF11.1.2 rfl 20 (by decide) rfl (hts _ (List.mem_of_getElem? (i := 3) rfl)) rfl dX11_isDone_145 ?_
            obtain ⟨h14, h⟩ := gg_s h
            refine fw_iald hx hb hK hP gF11.2.2.1.1 gF11.2.2.1.2 h14 dX11_isDone_148 ?_
            refine lv_iload_n hx hb dX11_isDone_149 rfl (lv_at hl 1 rfl) ?_
            refine lv_iconst (v := gm1) hx hb dX11_isDone_150 (by decide) ?_
            refine lv_ixor hx hb dX11_isDone_151 ?_
            refine lv_iand hx hb dX11_isDone_152 ?_
            obtain ⟨h15, h⟩ := gg_s h
            refine fw_iast hx hb hK hG hP hS gF11.2.2.1.1 gF11.2.2.1.2 h15 dX11_isDone_153 (fun z16 H locs ez16 hP hS => ?_)
            replace h := gl_s h ez16
            refine lv_iconst (v := (nI 1)) hx hb dX11_isDone_154 (by decide) ?_
            exact fw_iretz hx hb hr hlocks (by decide) (Option.some.inj h) hK hZ hP hS dX11_isDone_155
          · replace h := gif_f h c13
            refine lv_aload_n hx hb dX11_isDone_126 rfl (lv_at hl 0 rfl) ?_
            refine fw_getr hx hb hts in_X11_isDone_X11 hown hK hP gF11.1.1 gF11.1.2 rfl 4 (by decide) rfl (hts _ (List.mem_of_getElem? (i := 6) rfl)) rfl dX11_isDone_127 ?_
            refine lv_aload_n hx hb dX11_isDone_130 rfl (lv_at hl 0 rfl) ?_
            refine fw_geti hx hb hts in_X11_isDone_X11 hown hK hP gF11.1.1 gF11.1.2 rfl 20 (by decide) rfl (hts _ (List.mem_of_getElem? (i := 3) rfl)) rfl dX11_isDone_131 ?_
            obtain ⟨h17, h⟩ := gg_s h
            refine fw_iald hx hb hK hP gF11.2.2.1.1 gF11.2.2.1.2 h17 dX11_isDone_134 ?_
            refine lv_iload_n hx hb dX11_isDone_135 rfl (lv_at hl 1 rfl) ?_
            refine lv_ior hx hb dX11_isDone_136 ?_
            refine lv_goto (tgt := 153) hx hb dX11_isDone_137 (by decide) ?_
            obtain ⟨h18, h⟩ := gg_s h
            refine fw_iast hx hb hK hG hP hS gF11.2.2.1.1 gF11.2.2.1.2 h18 dX11_isDone_153 (fun z19 H locs ez19 hP hS => ?_)
            replace h := gl_s h ez19
            refine lv_iconst (v := (nI 1)) hx hb dX11_isDone_154 (by decide) ?_
            exact fw_iretz hx hb hr hlocks (by decide) (Option.some.inj h) hK hZ hP hS dX11_isDone_155
        · replace h := gif_t h c12
          refine lv_aload_n hx hb dX11_isDone_92 rfl (lv_at hl 0 rfl) ?_
          refine lv_aload_n hx hb dX11_isDone_93 rfl (lv_at hl 0 rfl) ?_
          refine fw_geti hx hb hts in_X11_isDone_X11 hown hK hP gF11.1.1 gF11.1.2 rfl 20 (by decide) rfl (hts _ (List.mem_of_getElem? (i := 3) rfl)) rfl dX11_isDone_94 ?_
          obtain ⟨q20, hq20, h⟩ := gb_s h
          refine fw_vi (As := [.int (z 0 20)]) (rest := []) ⟨hx, hb, hml, hown, hts⟩ (k_X11_grave l D cA ad tw hG z (z 0 20) q20 hq20) (cwV 1 hts gX11_isDone_X11_grave rfl rfl rfl hdV_X11_grave ⟨Nat.le_of_ble_eq_true rfl, Nat.le_of_ble_eq_true rfl⟩) (fw_preV gF11.1.1 gF11.1.2 rfl rfl hK hZ hP hS) rfl hl _ rfl (Nat.le_of_ble_eq_true rfl) hS dX11_isDone_97 ⟨Nat.zero_le _, Nat.zero_le _⟩ (fun H locs hP hS => ?_)
          refine lv_istore_n (lv' := [(2, .int q20.1), (0, .ref (ad 0)), (1, .int x1)]) hx hb dX11_isDone_100 rfl hl (by decide) rfl (fun ls hl => ?_)
          refine lv_aload_n hx hb dX11_isDone_101 rfl (lv_at hl 1 rfl) ?_
          refine fw_getr hx hb hts in_X11_isDone_X11 hown hK hP gF11.1.1 gF11.1.2 rfl 4 (by decide) rfl (hts _ (List.mem_of_getElem? (i := 6) rfl)) rfl dX11_isDone_102 ?_
          refine lv_iload_n hx hb dX11_isDone_105 rfl (lv_at hl 0 rfl) ?_
          refine lv_iload_n hx hb dX11_isDone_106 rfl (lv_at hl 2 rfl) ?_
          obtain ⟨h21, h⟩ := gg_s h
          refine fw_iast hx hb hK hG hP hS gF11.2.2.1.1 gF11.2.2.1.2 h21 dX11_isDone_107 (fun z22 H locs ez22 hP hS => ?_)
          replace h := gl_s h ez22
          refine lv_goto (tgt := 154) hx hb dX11_isDone_108 (by decide) ?_
          refine lv_iconst (v := (nI 1)) hx hb dX11_isDone_154 (by decide) ?_
          exact fw_iretz hx hb hr hlocks (by decide) (Option.some.inj h) hK hZ hP hS dX11_isDone_155
      · replace h := gif_f h c11
        refine lv_aload_n hx hb dX11_isDone_55 rfl (lv_at hl 0 rfl) ?_
        refine lv_aload_n hx hb dX11_isDone_56 rfl (lv_at hl 0 rfl) ?_
        refine fw_getr hx hb hts in_X11_isDone_X11 hown hK hP gF11.1.1 gF11.1.2 rfl 21 (by decide) rfl (hts _ (List.mem_of_getElem? (i := 5) rfl)) rfl dX11_isDone_57 ?_
        refine lv_iload_n hx hb dX11_isDone_60 rfl (lv_at hl 2 rfl) ?_
        obtain ⟨h23, h⟩ := gg_s h
        refine fw_iald hx hb hK hP gF11.2.2.2.2.2.2.2.2.2.1.1 gF11.2.2.2.2.2.2.2.2.2.1.2 h23 dX11_isDone_61 ?_
        obtain ⟨q24, hq24, h⟩ := gb_s h
        refine fw_vi (As := [.int (z 9 x2.toNatClampNeg)]) (rest := []) ⟨hx, hb, hml, hown, hts⟩ (k_X11_typeOf l D cA ad tw hG z (z 9 x2.toNatClampNeg) q24 hq24) (cwV 1 hts gX11_isDone_X11_typeOf rfl rfl rfl hdV_X11_typeOf ⟨Nat.le_of_ble_eq_true rfl, Nat.le_of_ble_eq_true rfl⟩) (fw_preV gF11.1.1 gF11.1.2 rfl rfl hK hZ hP hS) rfl hl _ rfl (Nat.le_of_ble_eq_true rfl) hS dX11_isDone_62 ⟨Nat.zero_le _, Nat.zero_le _⟩ (fun H locs hP hS => ?_)
        refine lv_istore_n (lv' := [(3, .int q24.1), (0, .ref (ad 0)), (1, .int x1), (2, .int x2)]) hx hb dX11_isDone_65 rfl hl (by decide) rfl (fun ls hl => ?_)
        refine lv_iload_n hx hb dX11_isDone_66 rfl (lv_at hl 0 rfl) ?_
        refine lv_iconst (v := gm1) hx hb dX11_isDone_67 (by decide) ?_
        refine lv_icmp_ne (tgt := 73) hx hb dX11_isDone_68 (by decide) (fun c25 => ?_) (fun c25 => ?_)
        · replace h := gif_f h c25
          refine lv_iload_n hx hb dX11_isDone_73 rfl (lv_at hl 2 rfl) ?_
          refine lv_iconst (v := (nI 1)) hx hb dX11_isDone_74 (by decide) ?_
          refine lv_iload_n hx hb dX11_isDone_75 rfl (lv_at hl 0 rfl) ?_
          refine lv_ishl hx hb dX11_isDone_76 ?_
          refine lv_ior hx hb dX11_isDone_77 ?_
          refine lv_topi (fun y26 ey26 => ?_)
          replace h := gl_s h ey26
          refine lv_istore_n (lv' := [(1, .int y26), (3, .int q24.1), (0, .ref (ad 0)), (2, .int x2)]) hx hb dX11_isDone_78 rfl hl (by decide) rfl (fun ls hl => ?_)
          refine lv_iinc (v := x2 + (nI 1)) (lv' := [(2, .int (x2 + (nI 1))), (1, .int y26), (3, .int q24.1), (0, .ref (ad 0))]) hx hb dX11_isDone_79 hl (k := 3) rfl rfl (by decide) rfl (fun ls hl => ?_)
          refine lv_goto (tgt := 47) hx hb dX11_isDone_82 (by decide) ?_
          exact hK47 y26 (x2 + (nI 1)) q24.2 _ _ ls h hP hS (lv_sub hl [3, 1, 0] rfl)
        · replace h := gif_t h c25
          refine lv_iconst (v := (nI 0)) hx hb dX11_isDone_71 (by decide) ?_
          exact fw_iretz hx hb hr hlocks (by decide) (Option.some.inj h) hK hZ hP hS dX11_isDone_72
  unfold f_X11_isDone at h
  refine lv_aload_n hx hb dX11_isDone_0 rfl (lv_at hl 0 rfl) ?_
  refine fw_geti hx hb hts in_X11_isDone_X11 hown hK hP gF11.1.1 gF11.1.2 rfl 19 (by decide) rfl (hts _ (List.mem_of_getElem? (i := 1) rfl)) rfl dX11_isDone_1 ?_
  refine lv_if_ne (tgt := 23) hx hb dX11_isDone_4 (by decide) (fun c1 => ?_) (fun c1 => ?_)
  · replace h := gif_f h c1
    refine lv_aload_n hx hb dX11_isDone_23 rfl (lv_at hl 0 rfl) ?_
    refine fw_geti hx hb hts in_X11_isDone_X11 hown hK hP gF11.1.1 gF11.1.2 rfl 19 (by decide) rfl (hts _ (List.mem_of_getElem? (i := 1) rfl)) rfl dX11_isDone_24 ?_
    refine lv_if_eq (tgt := 43) hx hb dX11_isDone_27 (by decide) (fun c2 => ?_) (fun c2 => ?_)
    · replace h := gif_t h c2
      refine lv_iconst (v := (nI 0)) hx hb dX11_isDone_43 (by decide) ?_
      refine lv_istore_n (lv' := [(1, .int (nI 0)), (0, .ref (ad 0))]) hx hb dX11_isDone_44 rfl hl (by decide) rfl (fun ls hl => ?_)
      refine lv_iconst (v := (nI 0)) hx hb dX11_isDone_45 (by decide) ?_
      refine lv_istore_n (lv' := [(2, .int (nI 0)), (1, .int (nI 0)), (0, .ref (ad 0))]) hx hb dX11_isDone_46 rfl hl (by decide) rfl (fun ls hl => ?_)
      exact j47  gF (nI 0) (nI 0) z _ _ ls h hP hS (lv_sub hl [2, 1, 0] rfl)
    · replace h := gif_f h c2
      refine lv_aload_n hx hb dX11_isDone_30 rfl (lv_at hl 0 rfl) ?_
      refine lv_aload_n hx hb dX11_isDone_31 rfl (lv_at hl 0 rfl) ?_
      refine fw_geti hx hb hts in_X11_isDone_X11 hown hK hP gF11.1.1 gF11.1.2 rfl 20 (by decide) rfl (hts _ (List.mem_of_getElem? (i := 3) rfl)) rfl dX11_isDone_32 ?_
      obtain ⟨q3, hq3, h⟩ := gb_s h
      refine fw_viR (As := [.int (z 0 20)]) (rest := []) ⟨hx, hb, hml, hown, hts⟩ (k_X11_isGrave l D cA ad tw hG z (z 0 20) q3 hq3) (cwV 1 hts gX11_isDone_X11_isGrave rfl rfl rfl hdV_X11_isGrave ⟨Nat.le_of_ble_eq_true rfl, Nat.le_of_ble_eq_true rfl⟩) (fw_preV gF11.1.1 gF11.1.2 rfl rfl hK hZ hP hS) rfl hl _ rfl (Nat.le_of_ble_eq_true rfl) hS dX11_isDone_35 ⟨Nat.zero_le _, Nat.zero_le _⟩ (fun H locs hP hS => ?_)
      refine lv_if_ne (tgt := 43) hx hb dX11_isDone_38 (by decide) (fun c4 => ?_) (fun c4 => ?_)
      · replace h := gif_f h c4
        refine lv_iconst (v := (nI 0)) hx hb dX11_isDone_43 (by decide) ?_
        refine lv_istore_n (lv' := [(1, .int (nI 0)), (0, .ref (ad 0))]) hx hb dX11_isDone_44 rfl hl (by decide) rfl (fun ls hl => ?_)
        refine lv_iconst (v := (nI 0)) hx hb dX11_isDone_45 (by decide) ?_
        refine lv_istore_n (lv' := [(2, .int (nI 0)), (1, .int (nI 0)), (0, .ref (ad 0))]) hx hb dX11_isDone_46 rfl hl (by decide) rfl (fun ls hl => ?_)
        exact j47  gF (nI 0) (nI 0) z _ _ ls h hP hS (lv_sub hl [2, 1, 0] rfl)
      · replace h := gif_t h c4
        refine lv_iconst (v := (nI 0)) hx hb dX11_isDone_41 (by decide) ?_
        exact fw_iretz hx hb hr hlocks (by decide) (Option.some.inj h) hK hZ hP hS dX11_isDone_42
  · replace h := gif_t h c1
    refine lv_aload_n hx hb dX11_isDone_7 rfl (lv_at hl 0 rfl) ?_
    refine fw_geti hx hb hts in_X11_isDone_X11 hown hK hP gF11.1.1 gF11.1.2 rfl 1 (by decide) rfl (hts _ (List.mem_of_getElem? (i := 2) rfl)) rfl dX11_isDone_8 ?_
    refine lv_bipush (v := (nI 7)) hx hb dX11_isDone_11 (by decide) ?_
    refine lv_icmp_eq (tgt := 41) hx hb dX11_isDone_13 (by decide) (fun c5 => ?_) (fun c5 => ?_)
    · replace h := gif_t h c5
      refine lv_iconst (v := (nI 0)) hx hb dX11_isDone_41 (by decide) ?_
      exact fw_iretz hx hb hr hlocks (by decide) (Option.some.inj h) hK hZ hP hS dX11_isDone_42
    · replace h := gif_f h c5
      refine lv_aload_n hx hb dX11_isDone_16 rfl (lv_at hl 0 rfl) ?_
      obtain ⟨q6, hq6, h⟩ := gb_s h
      refine fw_viR (As := []) (rest := []) ⟨hx, hb, hml, hown, hts⟩ (k_X11_isTwice l D cA ad tw hG z  q6 hq6) (cwV 0 hts gX11_isDone_X11_isTwice rfl rfl rfl hdV_X11_isTwice ⟨Nat.le_of_ble_eq_true rfl, Nat.le_of_ble_eq_true rfl⟩) (fw_preV gF11.1.1 gF11.1.2 rfl rfl hK hZ hP hS) rfl hl _ rfl (Nat.le_of_ble_eq_true rfl) hS dX11_isDone_17 ⟨Nat.zero_le _, Nat.zero_le _⟩ (fun H locs hP hS => ?_)
      refine lv_if_ne (tgt := 41) hx hb dX11_isDone_20 (by decide) (fun c7 => ?_) (fun c7 => ?_)
      · replace h := gif_f h c7
        refine lv_iconst (v := (nI 0)) hx hb dX11_isDone_41 (by decide) ?_
        exact fw_iretz hx hb hr hlocks (by decide) (Option.some.inj h) hK hZ hP hS dX11_isDone_42
      · replace h := gif_t h c7
        refine lv_aload_n hx hb dX11_isDone_23 rfl (lv_at hl 0 rfl) ?_
        refine fw_geti hx hb hts in_X11_isDone_X11 hown hK hP gF11.1.1 gF11.1.2 rfl 19 (by decide) rfl (hts _ (List.mem_of_getElem? (i := 1) rfl)) rfl dX11_isDone_24 ?_
        refine lv_if_eq (tgt := 43) hx hb dX11_isDone_27 (by decide) (fun c8 => ?_) (fun c8 => ?_)
        · replace h := gif_t h c8
          refine lv_iconst (v := (nI 0)) hx hb dX11_isDone_43 (by decide) ?_
          refine lv_istore_n (lv' := [(1, .int (nI 0)), (0, .ref (ad 0))]) hx hb dX11_isDone_44 rfl hl (by decide) rfl (fun ls hl => ?_)
          refine lv_iconst (v := (nI 0)) hx hb dX11_isDone_45 (by decide) ?_
          refine lv_istore_n (lv' := [(2, .int (nI 0)), (1, .int (nI 0)), (0, .ref (ad 0))]) hx hb dX11_isDone_46 rfl hl (by decide) rfl (fun ls hl => ?_)
          exact j47  gF (nI 0) (nI 0) z _ _ ls h hP hS (lv_sub hl [2, 1, 0] rfl)
        · replace h := gif_f h c8
          refine lv_aload_n hx hb dX11_isDone_30 rfl (lv_at hl 0 rfl) ?_
          refine lv_aload_n hx hb dX11_isDone_31 rfl (lv_at hl 0 rfl) ?_
          refine fw_geti hx hb hts in_X11_isDone_X11 hown hK hP gF11.1.1 gF11.1.2 rfl 20 (by decide) rfl (hts _ (List.mem_of_getElem? (i := 3) rfl)) rfl dX11_isDone_32 ?_
          obtain ⟨q9, hq9, h⟩ := gb_s h
          refine fw_viR (As := [.int (z 0 20)]) (rest := []) ⟨hx, hb, hml, hown, hts⟩ (k_X11_isGrave l D cA ad tw hG z (z 0 20) q9 hq9) (cwV 1 hts gX11_isDone_X11_isGrave rfl rfl rfl hdV_X11_isGrave ⟨Nat.le_of_ble_eq_true rfl, Nat.le_of_ble_eq_true rfl⟩) (fw_preV gF11.1.1 gF11.1.2 rfl rfl hK hZ hP hS) rfl hl _ rfl (Nat.le_of_ble_eq_true rfl) hS dX11_isDone_35 ⟨Nat.zero_le _, Nat.zero_le _⟩ (fun H locs hP hS => ?_)
          refine lv_if_ne (tgt := 43) hx hb dX11_isDone_38 (by decide) (fun c10 => ?_) (fun c10 => ?_)
          · replace h := gif_f h c10
            refine lv_iconst (v := (nI 0)) hx hb dX11_isDone_43 (by decide) ?_
            refine lv_istore_n (lv' := [(1, .int (nI 0)), (0, .ref (ad 0))]) hx hb dX11_isDone_44 rfl hl (by decide) rfl (fun ls hl => ?_)
            refine lv_iconst (v := (nI 0)) hx hb dX11_isDone_45 (by decide) ?_
            refine lv_istore_n (lv' := [(2, .int (nI 0)), (1, .int (nI 0)), (0, .ref (ad 0))]) hx hb dX11_isDone_46 rfl hl (by decide) rfl (fun ls hl => ?_)
            exact j47  gF (nI 0) (nI 0) z _ _ ls h hP hS (lv_sub hl [2, 1, 0] rfl)
          · replace h := gif_t h c10
            refine lv_iconst (v := (nI 0)) hx hb dX11_isDone_41 (by decide) ?_
            exact fw_iretz hx hb hr hlocks (by decide) (Option.some.inj h) hK hZ hP hS dX11_isDone_42
theorem hdS_X11_copies : yX11_copies.cls ≠ "java/lang/invoke/MethodHandle" ∧ yX11_copies.cls ≠ "java/lang/invoke/VarHandle" ∧ (parseMethodDescriptor yX11_copies.desc).map (fun d => d.parameters.length) = some 3 := by decide +kernel
set_option maxHeartbeats 4000000 in
set_option maxRecDepth 100000 in
theorem k_X11_copies (l : Launch) (D : va_G) (cA : Nat → ClassId) (ad : Nat → Nat) (tw : Nat) (hG : gOk ad 22) (z : gS) (p0 n0 : Nat) (hp0 : p0 < 22 ∧ shM p0 = .inr (0, n0, 0, 0)) (p1 n1 : Nat) (hp1 : p1 < 22 ∧ shM p1 = .inr (0, n1, 0, 0)) (a2 : Int32) (res : gS) (h : f_X11_copies p0 n0 p1 n1 a2 z = some res) : gMv l yX11_copies wsX11_copies (gRm 0 0) D cA ad tw shM 22 [.ref (ad p0), .ref (ad p1), .int a2] z res := by
  refine Met.ofW (cc := cX11_copies) (maxL := 4) (ret := none) (by decide) rfl ?_
  intro p e s m args below meth c s₁ B hml hv
  obtain ⟨rfl, hP, hK, hZ⟩ := hv
  have hx := B.exec
  have hb := B.bytes
  have hr := B.returns
  have hts := atoms_spec (ws := wsX11_copies) B.pre
  have hown : s.vm.findClass RX11 = some m.cls := findClass_of_methodNamed B.named
  have hlocks := B.notSynchronized
  have hS : va_S (gA ad 22) s.heap s.heap [] := va_S.rf
  have hl := lv_entry ([.ref (ad p0), .ref (ad p1), .int a2]) (n := 4) (Nat.le_of_ble_eq_true rfl)
  rw [lg_entry_eq]
  generalize (lg_sl ([.ref (ad p0), .ref (ad p1), .int a2]) ++ List.replicate (4 - (lg_sl ([.ref (ad p0), .ref (ad p1), .int a2])).length) Slot.unset).toArray = ls at hl ⊢
  have hl : lv_has ls 4 [(0, .ref (ad p0)), (1, .ref (ad p1)), (2, .int a2)] := hl
  have j2 : ∀ (x2 : Int32) (n : Nat) (x3 : Int32) (z : gS) (H : Heap) (locs : List Loc) (ls : Array Slot), f_X11_copies_2 p0 n0 p1 n1 x2 n x3 z = some res → va_P D vwCl (gw cA ad shM 22 z) H → va_S (gA ad 22) s.heap H locs → lv_has ls 4 [(0, .ref (ad p0)), (1, .ref (ad p1)), (2, .int x2), (3, .int x3)] → W p l e (headSpec wsX11_copies (gRm 0 0)).room s m ([.ref (ad p0), .ref (ad p1), .int a2] : List Value).toArray below meth c H locs 0 0 (MQ below (va_Qv (fun u => u = res) (gPr D cA ad tw shM 22) (gA ad 22)) ([.ref (ad p0), .ref (ad p1), .int a2] : List Value).toArray s 0 0 (gA ad 22)) (F0 m 2 ls []) := by
    intro x2 n
    induction n with
    | zero => intro x3 z H locs ls h; exact (gno h).elim
    | succ n hK2 =>
      intro x3 z H locs ls h hP hS hl
      replace h : f_X11_copies_2_b p0 n0 p1 n1 x2 (f_X11_copies_2 p0 n0 p1 n1 x2 n) x3 z = some res := h
      unfold f_X11_copies_2_b at h
      refine lv_iload_n hx hb dX11_copies_2 rfl (lv_at hl 3 rfl) ?_
      refine lv_iload_n hx hb dX11_copies_3 rfl (lv_at hl 2 rfl) ?_
      refine lv_icmp_ge (tgt := 19) hx hb dX11_copies_4 (by decide) (fun c1 => ?_) (fun c1 => ?_)
      · replace h := gif_t h c1
        exact fw_vret hx hb hr hlocks (Option.some.inj h) hK hZ hP hS dX11_copies_19
      · replace h := gif_f h c1
        refine lv_aload_n hx hb dX11_copies_7 rfl (lv_at hl 1 rfl) ?_
        refine lv_iload_n hx hb dX11_copies_8 rfl (lv_at hl 3 rfl) ?_
        refine lv_aload_n hx hb dX11_copies_9 rfl (lv_at hl 0 rfl) ?_
        refine lv_iload_n hx hb dX11_copies_10 rfl (lv_at hl 3 rfl) ?_
        obtain ⟨h2, h⟩ := gg_s h
        refine fw_iald hx hb hK hP hp0.1 hp0.2 h2 dX11_copies_11 ?_
        obtain ⟨h3, h⟩ := gg_s h
        refine fw_iast hx hb hK hG hP hS hp1.1 hp1.2 h3 dX11_copies_12 (fun z4 H locs ez4 hP hS => ?_)
        replace h := gl_s h ez4
        refine lv_iinc (v := x3 + (nI 1)) (lv' := [(3, .int (x3 + (nI 1))), (0, .ref (ad p0)), (1, .ref (ad p1)), (2, .int x2)]) hx hb dX11_copies_13 hl (k := 3) rfl rfl (by decide) rfl (fun ls hl => ?_)
        refine lv_goto (tgt := 2) hx hb dX11_copies_16 (by decide) ?_
        exact hK2 (x3 + (nI 1)) z4 _ _ ls h hP hS (lv_sub hl [1, 2, 3, 0] rfl)
  unfold f_X11_copies at h
  refine lv_iconst (v := (nI 0)) hx hb dX11_copies_0 (by decide) ?_
  refine lv_istore_n (lv' := [(3, .int (nI 0)), (0, .ref (ad p0)), (1, .ref (ad p1)), (2, .int a2)]) hx hb dX11_copies_1 rfl hl (by decide) rfl (fun ls hl => ?_)
  exact j2 a2 gF (nI 0) z _ _ ls h hP hS (lv_sub hl [1, 2, 3, 0] rfl)
theorem in_X11_goesThrough_X11 : ∀ w ∈ wsX110, w ∈ wsX11_goesThrough := fun w h => List.mem_cons_of_mem _ (List.mem_append_right _ (h))
theorem hdV_X11_goesThrough : yX11_goesThrough.cls = RX11 ∧ yX11_goesThrough.cls ≠ "java/lang/invoke/MethodHandle" ∧ yX11_goesThrough.cls ≠ "java/lang/invoke/VarHandle" ∧ (parseMethodDescriptor yX11_goesThrough.desc).map (fun d => d.parameters.length) = some 1 := by decide +kernel
set_option maxHeartbeats 4000000 in
set_option maxRecDepth 100000 in
theorem k_X11_goesThrough (l : Launch) (D : va_G) (cA : Nat → ClassId) (ad : Nat → Nat) (tw : Nat) (hG : gOk ad 22) (z : gS) (a1 : Int32) (res : Int32 × gS) (h : f_X11_goesThrough a1 z = some res) : gMi l yX11_goesThrough wsX11_goesThrough (gRm 5 105) D cA ad tw shM 22 [.ref (ad 0), .int a1] z res := by
  refine Met.ofW (cc := cX11_goesThrough) (maxL := 4) (ret := (some .int)) (by decide) rfl ?_
  intro p e s m args below meth c s₁ B hml hv
  obtain ⟨rfl, hP, hK, hZ⟩ := hv
  have hx := B.exec
  have hb := B.bytes
  have hr := B.returns
  have hts := atoms_spec (ws := wsX11_goesThrough) B.pre
  have hown : s.vm.findClass RX11 = some m.cls := findClass_of_methodNamed B.named
  have hlocks := B.notSynchronized
  have hS : va_S (gA ad 22) s.heap s.heap [] := va_S.rf
  have hl := lv_entry ([.ref (ad 0), .int a1]) (n := 4) (Nat.le_of_ble_eq_true rfl)
  rw [lg_entry_eq]
  generalize (lg_sl ([.ref (ad 0), .int a1]) ++ List.replicate (4 - (lg_sl ([.ref (ad 0), .int a1])).length) Slot.unset).toArray = ls at hl ⊢
  have hl : lv_has ls 4 [(0, .ref (ad 0)), (1, .int a1)] := hl
  have j53 : ∀ (x1 : Int32) (x2 : Int32) (K7 : Int32 → gS → Option (Int32 × gS)) (hK7 : ∀ (x2' : Int32) (z' : gS) (H : Heap) (locs : List Loc) (ls : Array Slot), K7 x2' z' = some res → va_P D vwCl (gw cA ad shM 22 z') H → va_S (gA ad 22) s.heap H locs → lv_has ls 4 [(0, .ref (ad 0)), (1, .int x1), (2, .int x2')] → W p l e (headSpec wsX11_goesThrough (gRm 5 105)).room s m ([.ref (ad 0), .int a1] : List Value).toArray below meth c H locs 0 0 (MQ below (va_Qi (fun r u => (r, u) = res) (gPr D cA ad tw shM 22) (gA ad 22)) ([.ref (ad 0), .int a1] : List Value).toArray s 0 0 (gA ad 22)) (F0 m 7 ls [])) (z : gS) (H : Heap) (locs : List Loc) (ls : Array Slot), f_X11_goesThrough_53 x1 x2 K7 z = some res → va_P D vwCl (gw cA ad shM 22 z) H → va_S (gA ad 22) s.heap H locs → lv_has ls 4 [(0, .ref (ad 0)), (1, .int x1), (2, .int x2)] → W p l e (headSpec wsX11_goesThrough (gRm 5 105)).room s m ([.ref (ad 0), .int a1] : List Value).toArray below meth c H locs 0 0 (MQ below (va_Qi (fun r u => (r, u) = res) (gPr D cA ad tw shM 22) (gA ad 22)) ([.ref (ad 0), .int a1] : List Value).toArray s 0 0 (gA ad 22)) (F0 m 53 ls []) := by
    intro x1 x2 K7 hK7 z H locs ls h hP hS hl
    unfold f_X11_goesThrough_53 at h
    refine lv_iinc (v := x2 + (nI 1)) (lv' := [(2, .int (x2 + (nI 1))), (0, .ref (ad 0)), (1, .int x1)]) hx hb dX11_goesThrough_53 hl (k := 2) rfl rfl (by decide) rfl (fun ls hl => ?_)
    refine lv_aload_n hx hb dX11_goesThrough_56 rfl (lv_at hl 1 rfl) ?_
    refine fw_geti hx hb hts in_X11_goesThrough_X11 hown hK hP gF11.1.1 gF11.1.2 rfl 17 (by decide) rfl (hts _ (List.mem_of_getElem? (i := 1) rfl)) rfl dX11_goesThrough_57 ?_
    refine lv_aload_n hx hb dX11_goesThrough_60 rfl (lv_at hl 1 rfl) ?_
    refine fw_geti hx hb hts in_X11_goesThrough_X11 hown hK hP gF11.1.1 gF11.1.2 rfl 15 (by decide) rfl (hts _ (List.mem_of_getElem? (i := 3) rfl)) rfl dX11_goesThrough_61 ?_
    refine lv_icmp_ne (tgt := 69) hx hb dX11_goesThrough_64 (by decide) (fun c9 => ?_) (fun c9 => ?_)
    · replace h := gif_f h c9
      refine lv_aload_n hx hb dX11_goesThrough_69 rfl (lv_at hl 1 rfl) ?_
      obtain ⟨q10, hq10, h⟩ := gb_s h
      refine fw_viR (As := []) (rest := []) ⟨hx, hb, hml, hown, hts⟩ (k_X11_here l D cA ad tw hG z  q10 hq10) (cwV 0 hts gX11_goesThrough_X11_here rfl rfl rfl hdV_X11_here ⟨Nat.le_of_ble_eq_true rfl, Nat.le_of_ble_eq_true rfl⟩) (fw_preV gF11.1.1 gF11.1.2 rfl rfl hK hZ hP hS) rfl hl _ rfl (Nat.le_of_ble_eq_true rfl) hS dX11_goesThrough_70 ⟨Nat.zero_le _, Nat.zero_le _⟩ (fun H locs hP hS => ?_)
      refine lv_bipush (v := (nI 59)) hx hb dX11_goesThrough_73 (by decide) ?_
      refine lv_icmp_eq (tgt := 86) hx hb dX11_goesThrough_75 (by decide) (fun c11 => ?_) (fun c11 => ?_)
      · replace h := gif_t h c11
        refine lv_aload_n hx hb dX11_goesThrough_86 rfl (lv_at hl 1 rfl) ?_
        refine lv_dup hx hb dX11_goesThrough_87 rfl ?_
        refine fw_geti hx hb hts in_X11_goesThrough_X11 hown hK hP gF11.1.1 gF11.1.2 rfl 17 (by decide) rfl (hts _ (List.mem_of_getElem? (i := 1) rfl)) rfl dX11_goesThrough_88 ?_
        refine lv_iconst (v := (nI 1)) hx hb dX11_goesThrough_91 (by decide) ?_
        refine lv_iadd hx hb dX11_goesThrough_92 ?_
        refine fw_put hx hb hts in_X11_goesThrough_X11 tyX11_ok nmX11 hown hK hG hP hS gF11.1.1 gF11.1.2 rfl 17 (by decide) rfl (hts _ (List.mem_of_getElem? (i := 1) rfl)) rfl rfl (ty := .int) rfl rfl rfl dX11_goesThrough_93 (fun z12 H locs ez12 hP hS => ?_)
        replace h := gl_s h ez12
        refine lv_goto (tgt := 7) hx hb dX11_goesThrough_96 (by decide) ?_
        exact hK7 (x2 + (nI 1)) z12 _ _ ls h hP hS (lv_sub hl [1, 2, 0] rfl)
      · replace h := gif_f h c11
        refine lv_bipush (v := (-100)) hx hb dX11_goesThrough_78 (by decide) ?_
        refine lv_aload_n hx hb dX11_goesThrough_80 rfl (lv_at hl 1 rfl) ?_
        refine fw_geti hx hb hts in_X11_goesThrough_X11 hown hK hP gF11.1.1 gF11.1.2 rfl 17 (by decide) rfl (hts _ (List.mem_of_getElem? (i := 1) rfl)) rfl dX11_goesThrough_81 ?_
        refine lv_isub hx hb dX11_goesThrough_84 ?_
        exact fw_ireti hx hb hr hlocks (Option.some.inj h) hK hZ hP hS dX11_goesThrough_85
    · replace h := gif_t h c9
      refine lv_iload_n hx hb dX11_goesThrough_67 rfl (lv_at hl 0 rfl) ?_
      exact fw_ireti hx hb hr hlocks (Option.some.inj h) hK hZ hP hS dX11_goesThrough_68
  have j7 : ∀ (x1 : Int32) (n : Nat) (x2 : Int32) (z : gS) (H : Heap) (locs : List Loc) (ls : Array Slot), f_X11_goesThrough_7 x1 n x2 z = some res → va_P D vwCl (gw cA ad shM 22 z) H → va_S (gA ad 22) s.heap H locs → lv_has ls 4 [(0, .ref (ad 0)), (1, .int x1), (2, .int x2)] → W p l e (headSpec wsX11_goesThrough (gRm 5 105)).room s m ([.ref (ad 0), .int a1] : List Value).toArray below meth c H locs 0 0 (MQ below (va_Qi (fun r u => (r, u) = res) (gPr D cA ad tw shM 22) (gA ad 22)) ([.ref (ad 0), .int a1] : List Value).toArray s 0 0 (gA ad 22)) (F0 m 7 ls []) := by
    intro x1 n
    induction n with
    | zero => intro x2 z H locs ls h; exact (gno h).elim
    | succ n hK7 =>
      intro x2 z H locs ls h hP hS hl
      replace h : f_X11_goesThrough_7_b x1 (f_X11_goesThrough_7 x1 n) x2 z = some res := h
      unfold f_X11_goesThrough_7_b at h
      refine lv_aload_n hx hb dX11_goesThrough_7 rfl (lv_at hl 0 rfl) ?_
      refine fw_geti hx hb hts in_X11_goesThrough_X11 hown hK hP gF11.1.1 gF11.1.2 rfl 17 (by decide) rfl (hts _ (List.mem_of_getElem? (i := 1) rfl)) rfl dX11_goesThrough_8 ?_
      refine lv_topi (fun y2 ey2 => ?_)
      replace h := gl_s h ey2
      refine lv_istore_n (lv' := [(3, .int y2), (0, .ref (ad 0)), (1, .int x1), (2, .int x2)]) hx hb dX11_goesThrough_11 rfl hl (by decide) rfl (fun ls hl => ?_)
      refine lv_aload_n hx hb dX11_goesThrough_12 rfl (lv_at hl 1 rfl) ?_
      refine lv_iconst (v := (nI 0)) hx hb dX11_goesThrough_13 (by decide) ?_
      refine fw_put hx hb hts in_X11_goesThrough_X11 tyX11_ok nmX11 hown hK hG hP hS gF11.1.1 gF11.1.2 rfl 18 (by decide) rfl (hts _ (List.mem_of_getElem? (i := 2) rfl)) rfl rfl (ty := .boolean) rfl rfl rfl dX11_goesThrough_14 (fun z3 H locs ez3 hP hS => ?_)
      replace h := gl_s h ez3
      refine lv_aload_n hx hb dX11_goesThrough_17 rfl (lv_at hl 1 rfl) ?_
      obtain ⟨q4, hq4, h⟩ := gb_s h
      refine fw_vv (As := []) (rest := []) ⟨hx, hb, hml, hown, hts⟩ (k_X11_statement l D cA ad tw hG z3  q4 hq4) (cwV 0 hts gX11_goesThrough_X11_statement rfl rfl rfl hdV_X11_statement ⟨Nat.le_of_ble_eq_true rfl, Nat.le_of_ble_eq_true rfl⟩) (fw_preV gF11.1.1 gF11.1.2 rfl rfl hK hZ hP hS) rfl hl _ rfl (Nat.le_of_ble_eq_true rfl) hS dX11_goesThrough_18 ⟨Nat.zero_le _, Nat.zero_le _⟩ (fun H locs hP hS => ?_)
      refine lv_aload_n hx hb dX11_goesThrough_21 rfl (lv_at hl 1 rfl) ?_
      refine fw_geti hx hb hts in_X11_goesThrough_X11 hown hK hP gF11.1.1 gF11.1.2 rfl 18 (by decide) rfl (hts _ (List.mem_of_getElem? (i := 2) rfl)) rfl dX11_goesThrough_22 ?_
      refine lv_if_eq (tgt := 36) hx hb dX11_goesThrough_25 (by decide) (fun c5 => ?_) (fun c5 => ?_)
      · replace h := gif_t h c5
        refine lv_iload_n hx hb dX11_goesThrough_36 rfl (lv_at hl 2 rfl) ?_
        refine lv_if_eq (tgt := 53) hx hb dX11_goesThrough_37 (by decide) (fun c6 => ?_) (fun c6 => ?_)
        · replace h := gif_t h c6
          exact j53 x1 x2 _ hK7 q4 _ _ ls h hP hS (lv_sub hl [1, 2, 3] rfl)
        · replace h := gif_f h c6
          refine lv_aload_n hx hb dX11_goesThrough_40 rfl (lv_at hl 1 rfl) ?_
          obtain ⟨q7, hq7, h⟩ := gb_s h
          refine fw_vi (As := []) (rest := []) ⟨hx, hb, hml, hown, hts⟩ (k_X11_isDone l D cA ad tw hG q4  q7 hq7) (cwV 0 hts gX11_goesThrough_X11_isDone rfl rfl rfl hdV_X11_isDone ⟨Nat.le_of_ble_eq_true rfl, Nat.le_of_ble_eq_true rfl⟩) (fw_preV gF11.1.1 gF11.1.2 rfl rfl hK hZ hP hS) rfl hl _ rfl (Nat.le_of_ble_eq_true rfl) hS dX11_goesThrough_41 ⟨Nat.zero_le _, Nat.zero_le _⟩ (fun H locs hP hS => ?_)
          refine lv_if_ne (tgt := 53) hx hb dX11_goesThrough_44 (by decide) (fun c8 => ?_) (fun c8 => ?_)
          · replace h := gif_f h c8
            exact j53 x1 x2 _ hK7 q7.2 _ _ ls h hP hS (lv_sub hl [1, 2, 3] rfl)
          · replace h := gif_t h c8
            refine lv_sipush (v := (-300)) hx hb dX11_goesThrough_47 (by decide) ?_
            refine lv_iload_n hx hb dX11_goesThrough_50 rfl (lv_at hl 0 rfl) ?_
            refine lv_isub hx hb dX11_goesThrough_51 ?_
            exact fw_ireti hx hb hr hlocks (Option.some.inj h) hK hZ hP hS dX11_goesThrough_52
      · replace h := gif_f h c5
        refine lv_bipush (v := (-100)) hx hb dX11_goesThrough_28 (by decide) ?_
        refine lv_aload_n hx hb dX11_goesThrough_30 rfl (lv_at hl 1 rfl) ?_
        refine fw_geti hx hb hts in_X11_goesThrough_X11 hown hK hP gF11.1.1 gF11.1.2 rfl 17 (by decide) rfl (hts _ (List.mem_of_getElem? (i := 1) rfl)) rfl dX11_goesThrough_31 ?_
        refine lv_isub hx hb dX11_goesThrough_34 ?_
        exact fw_ireti hx hb hr hlocks (Option.some.inj h) hK hZ hP hS dX11_goesThrough_35
  unfold f_X11_goesThrough at h
  refine lv_aload_n hx hb dX11_goesThrough_0 rfl (lv_at hl 0 rfl) ?_
  refine lv_iconst (v := (nI 0)) hx hb dX11_goesThrough_1 (by decide) ?_
  refine fw_put hx hb hts in_X11_goesThrough_X11 tyX11_ok nmX11 hown hK hG hP hS gF11.1.1 gF11.1.2 rfl 17 (by decide) rfl (hts _ (List.mem_of_getElem? (i := 1) rfl)) rfl rfl (ty := .int) rfl rfl rfl dX11_goesThrough_2 (fun z1 H locs ez1 hP hS => ?_)
  replace h := gl_s h ez1
  refine lv_iconst (v := (nI 0)) hx hb dX11_goesThrough_5 (by decide) ?_
  refine lv_istore_n (lv' := [(2, .int (nI 0)), (0, .ref (ad 0)), (1, .int a1)]) hx hb dX11_goesThrough_6 rfl hl (by decide) rfl (fun ls hl => ?_)
  exact j7 a1 gF (nI 0) z1 _ _ ls h hP hS (lv_sub hl [1, 2, 0] rfl)
theorem in_X11_read_X11 : ∀ w ∈ wsX110, w ∈ wsX11_read := fun w h => List.mem_cons_of_mem _ (List.mem_append_right _ (h))
theorem hdV_X11_read : yX11_read.cls = RX11 ∧ yX11_read.cls ≠ "java/lang/invoke/MethodHandle" ∧ yX11_read.cls ≠ "java/lang/invoke/VarHandle" ∧ (parseMethodDescriptor yX11_read.desc).map (fun d => d.parameters.length) = some 0 := by decide +kernel
set_option maxHeartbeats 4000000 in
set_option maxRecDepth 100000 in
theorem k_X11_read (l : Launch) (D : va_G) (cA : Nat → ClassId) (ad : Nat → Nat) (tw : Nat) (hG : gOk ad 22) (z : gS)  (res : Int32 × gS) (h : f_X11_read  z = some res) : gMi l yX11_read wsX11_read (gRm 6 128) D cA ad tw shM 22 [.ref (ad 0)] z res := by
  refine Met.ofW (cc := cX11_read) (maxL := 4) (ret := (some .int)) (by decide) rfl ?_
  intro p e s m args below meth c s₁ B hml hv
  obtain ⟨rfl, hP, hK, hZ⟩ := hv
  have hx := B.exec
  have hb := B.bytes
  have hr := B.returns
  have hts := atoms_spec (ws := wsX11_read) B.pre
  have hown : s.vm.findClass RX11 = some m.cls := findClass_of_methodNamed B.named
  have hlocks := B.notSynchronized
  have hS : va_S (gA ad 22) s.heap s.heap [] := va_S.rf
  have hl := lv_entry ([.ref (ad 0)]) (n := 4) (Nat.le_of_ble_eq_true rfl)
  rw [lg_entry_eq]
  generalize (lg_sl ([.ref (ad 0)]) ++ List.replicate (4 - (lg_sl ([.ref (ad 0)])).length) Slot.unset).toArray = ls at hl ⊢
  have hl : lv_has ls 4 [(0, .ref (ad 0))] := hl
  unfold f_X11_read at h
  refine lv_aload_n hx hb dX11_read_0 rfl (lv_at hl 0 rfl) ?_
  refine lv_iconst (v := (nI 0)) hx hb dX11_read_1 (by decide) ?_
  obtain ⟨q1, hq1, h⟩ := gb_s h
  refine fw_vi (As := [.int (nI 0)]) (rest := []) ⟨hx, hb, hml, hown, hts⟩ (k_X11_goesThrough l D cA ad tw hG z (nI 0) q1 hq1) (cwV 1 hts gX11_read_X11_goesThrough rfl rfl rfl hdV_X11_goesThrough ⟨Nat.le_of_ble_eq_true rfl, Nat.le_of_ble_eq_true rfl⟩) (fw_preV gF11.1.1 gF11.1.2 rfl rfl hK hZ hP hS) rfl hl _ rfl (Nat.le_of_ble_eq_true rfl) hS dX11_read_2 ⟨Nat.zero_le _, Nat.zero_le _⟩ (fun H locs hP hS => ?_)
  refine lv_istore_n (lv' := [(1, .int q1.1), (0, .ref (ad 0))]) hx hb dX11_read_5 rfl hl (by decide) rfl (fun ls hl => ?_)
  refine lv_iload_n hx hb dX11_read_6 rfl (lv_at hl 0 rfl) ?_
  refine lv_if_lt (tgt := 105) hx hb dX11_read_7 (by decide) (fun c2 => ?_) (fun c2 => ?_)
  · replace h := gif_t h c2
    refine lv_aload_n hx hb dX11_read_105 rfl (lv_at hl 1 rfl) ?_
    refine lv_iconst (v := (nI 0)) hx hb dX11_read_106 (by decide) ?_
    refine fw_put hx hb hts in_X11_read_X11 tyX11_ok nmX11 hown hK hG hP hS gF11.1.1 gF11.1.2 rfl 15 (by decide) rfl (hts _ (List.mem_of_getElem? (i := 8) rfl)) rfl rfl (ty := .int) rfl rfl rfl dX11_read_107 (fun z3 H locs ez3 hP hS => ?_)
    replace h := gl_s h ez3
    refine lv_iload_n hx hb dX11_read_110 rfl (lv_at hl 0 rfl) ?_
    exact fw_ireti hx hb hr hlocks (Option.some.inj h) hK hZ hP hS dX11_read_111
  · replace h := gif_f h c2
    refine lv_aload_n hx hb dX11_read_10 rfl (lv_at hl 1 rfl) ?_
    refine fw_geti hx hb hts in_X11_read_X11 hown hK hP gF11.1.1 gF11.1.2 rfl 1 (by decide) rfl (hts _ (List.mem_of_getElem? (i := 1) rfl)) rfl dX11_read_11 ?_
    refine lv_topi (fun y4 ey4 => ?_)
    replace h := gl_s h ey4
    refine lv_istore_n (lv' := [(2, .int y4), (1, .int q1.1), (0, .ref (ad 0))]) hx hb dX11_read_14 rfl hl (by decide) rfl (fun ls hl => ?_)
    refine lv_aload_n hx hb dX11_read_15 rfl (lv_at hl 2 rfl) ?_
    refine fw_geti hx hb hts in_X11_read_X11 hown hK hP gF11.1.1 gF11.1.2 rfl 2 (by decide) rfl (hts _ (List.mem_of_getElem? (i := 2) rfl)) rfl dX11_read_16 ?_
    refine lv_topi (fun y5 ey5 => ?_)
    replace h := gl_s h ey5
    refine lv_istore_n (lv' := [(3, .int y5), (2, .int y4), (1, .int q1.1), (0, .ref (ad 0))]) hx hb dX11_read_19 rfl hl (by decide) rfl (fun ls hl => ?_)
    refine lv_aload_n hx hb dX11_read_20 rfl (lv_at hl 3 rfl) ?_
    refine fw_getr hx hb hts in_X11_read_X11 hown hK hP gF11.1.1 gF11.1.2 rfl 3 (by decide) rfl (hts _ (List.mem_of_getElem? (i := 3) rfl)) rfl dX11_read_21 ?_
    refine lv_aload_n hx hb dX11_read_24 rfl (lv_at hl 3 rfl) ?_
    refine fw_getr hx hb hts in_X11_read_X11 hown hK hP gF11.1.1 gF11.1.2 rfl 23 (by decide) rfl (hts _ (List.mem_of_getElem? (i := 4) rfl)) rfl dX11_read_25 ?_
    refine lv_bipush (v := (nI 7)) hx hb dX11_read_28 (by decide) ?_
    obtain ⟨q6, hq6, h⟩ := gb_s h
    refine fw_sv (As := [.ref (ad 1), .ref (ad 10), .int (nI 7)]) (rest := []) ⟨hx, hb, hml, hown, hts⟩ (k_X11_copies l D cA ad tw hG q1.2 1 7 (gF11.2.1) 10 7 (gF11.2.2.2.2.2.2.2.2.2.2.1) (nI 7) q6 hq6) (va_cwS 3 hts gX11_read_X11_copies rfl rfl rfl hdS_X11_copies ⟨Nat.le_of_ble_eq_true rfl, Nat.le_of_ble_eq_true rfl⟩) hK hZ hP rfl hl _ rfl (Nat.le_of_ble_eq_true rfl) hS dX11_read_30 ⟨Nat.zero_le _, Nat.zero_le _⟩ (fun H locs hP hS => ?_)
    refine lv_aload_n hx hb dX11_read_33 rfl (lv_at hl 3 rfl) ?_
    refine fw_getr hx hb hts in_X11_read_X11 hown hK hP gF11.1.1 gF11.1.2 rfl 4 (by decide) rfl (hts _ (List.mem_of_getElem? (i := 5) rfl)) rfl dX11_read_34 ?_
    refine lv_aload_n hx hb dX11_read_37 rfl (lv_at hl 3 rfl) ?_
    refine fw_getr hx hb hts in_X11_read_X11 hown hK hP gF11.1.1 gF11.1.2 rfl 24 (by decide) rfl (hts _ (List.mem_of_getElem? (i := 6) rfl)) rfl dX11_read_38 ?_
    refine lv_bipush (v := (nI 7)) hx hb dX11_read_41 (by decide) ?_
    obtain ⟨q7, hq7, h⟩ := gb_s h
    refine fw_sv (As := [.ref (ad 2), .ref (ad 11), .int (nI 7)]) (rest := []) ⟨hx, hb, hml, hown, hts⟩ (k_X11_copies l D cA ad tw hG q6 2 7 (gF11.2.2.1) 11 7 (gF11.2.2.2.2.2.2.2.2.2.2.2.1) (nI 7) q7 hq7) (va_cwS 3 hts gX11_read_X11_copies rfl rfl rfl hdS_X11_copies ⟨Nat.le_of_ble_eq_true rfl, Nat.le_of_ble_eq_true rfl⟩) hK hZ hP rfl hl _ rfl (Nat.le_of_ble_eq_true rfl) hS dX11_read_43 ⟨Nat.zero_le _, Nat.zero_le _⟩ (fun H locs hP hS => ?_)
    refine lv_aload_n hx hb dX11_read_46 rfl (lv_at hl 3 rfl) ?_
    refine lv_iconst (v := (nI 1)) hx hb dX11_read_47 (by decide) ?_
    obtain ⟨q8, hq8, h⟩ := gb_s h
    refine fw_vi (As := [.int (nI 1)]) (rest := []) ⟨hx, hb, hml, hown, hts⟩ (k_X11_goesThrough l D cA ad tw hG q7 (nI 1) q8 hq8) (cwV 1 hts gX11_read_X11_goesThrough rfl rfl rfl hdV_X11_goesThrough ⟨Nat.le_of_ble_eq_true rfl, Nat.le_of_ble_eq_true rfl⟩) (fw_preV gF11.1.1 gF11.1.2 rfl rfl hK hZ hP hS) rfl hl _ rfl (Nat.le_of_ble_eq_true rfl) hS dX11_read_48 ⟨Nat.zero_le _, Nat.zero_le _⟩ (fun H locs hP hS => ?_)
    refine lv_istore_n (lv' := [(1, .int q8.1), (3, .int y5), (2, .int y4), (0, .ref (ad 0))]) hx hb dX11_read_51 rfl hl (by decide) rfl (fun ls hl => ?_)
    refine lv_iload_n hx hb dX11_read_52 rfl (lv_at hl 0 rfl) ?_
    refine lv_if_ge (tgt := 95) hx hb dX11_read_53 (by decide) (fun c9 => ?_) (fun c9 => ?_)
    · replace h := gif_t h c9
      refine lv_aload_n hx hb dX11_read_95 rfl (lv_at hl 3 rfl) ?_
      refine lv_dup hx hb dX11_read_96 rfl ?_
      refine fw_geti hx hb hts in_X11_read_X11 hown hK hP gF11.1.1 gF11.1.2 rfl 16 (by decide) rfl (hts _ (List.mem_of_getElem? (i := 7) rfl)) rfl dX11_read_97 ?_
      refine lv_iconst (v := (nI 1)) hx hb dX11_read_100 (by decide) ?_
      refine lv_iadd hx hb dX11_read_101 ?_
      refine fw_put hx hb hts in_X11_read_X11 tyX11_ok nmX11 hown hK hG hP hS gF11.1.1 gF11.1.2 rfl 16 (by decide) rfl (hts _ (List.mem_of_getElem? (i := 7) rfl)) rfl rfl (ty := .int) rfl rfl rfl dX11_read_102 (fun z10 H locs ez10 hP hS => ?_)
      replace h := gl_s h ez10
      refine lv_aload_n hx hb dX11_read_105 rfl (lv_at hl 3 rfl) ?_
      refine lv_iconst (v := (nI 0)) hx hb dX11_read_106 (by decide) ?_
      refine fw_put hx hb hts in_X11_read_X11 tyX11_ok nmX11 hown hK hG hP hS gF11.1.1 gF11.1.2 rfl 15 (by decide) rfl (hts _ (List.mem_of_getElem? (i := 8) rfl)) rfl rfl (ty := .int) rfl rfl rfl dX11_read_107 (fun z11 H locs ez11 hP hS => ?_)
      replace h := gl_s h ez11
      refine lv_iload_n hx hb dX11_read_110 rfl (lv_at hl 0 rfl) ?_
      exact fw_ireti hx hb hr hlocks (Option.some.inj h) hK hZ hP hS dX11_read_111
    · replace h := gif_f h c9
      refine lv_aload_n hx hb dX11_read_56 rfl (lv_at hl 3 rfl) ?_
      refine lv_iload_n hx hb dX11_read_57 rfl (lv_at hl 2 rfl) ?_
      refine fw_put hx hb hts in_X11_read_X11 tyX11_ok nmX11 hown hK hG hP hS gF11.1.1 gF11.1.2 rfl 1 (by decide) rfl (hts _ (List.mem_of_getElem? (i := 1) rfl)) rfl rfl (ty := .int) rfl rfl rfl dX11_read_58 (fun z12 H locs ez12 hP hS => ?_)
      replace h := gl_s h ez12
      refine lv_aload_n hx hb dX11_read_61 rfl (lv_at hl 3 rfl) ?_
      refine lv_iload_n hx hb dX11_read_62 rfl (lv_at hl 1 rfl) ?_
      refine fw_put hx hb hts in_X11_read_X11 tyX11_ok nmX11 hown hK hG hP hS gF11.1.1 gF11.1.2 rfl 2 (by decide) rfl (hts _ (List.mem_of_getElem? (i := 2) rfl)) rfl rfl (ty := .int) rfl rfl rfl dX11_read_63 (fun z13 H locs ez13 hP hS => ?_)
      replace h := gl_s h ez13
      refine lv_aload_n hx hb dX11_read_66 rfl (lv_at hl 3 rfl) ?_
      refine fw_getr hx hb hts in_X11_read_X11 hown hK hP gF11.1.1 gF11.1.2 rfl 23 (by decide) rfl (hts _ (List.mem_of_getElem? (i := 4) rfl)) rfl dX11_read_67 ?_
      refine lv_aload_n hx hb dX11_read_70 rfl (lv_at hl 3 rfl) ?_
      refine fw_getr hx hb hts in_X11_read_X11 hown hK hP gF11.1.1 gF11.1.2 rfl 3 (by decide) rfl (hts _ (List.mem_of_getElem? (i := 3) rfl)) rfl dX11_read_71 ?_
      refine lv_bipush (v := (nI 7)) hx hb dX11_read_74 (by decide) ?_
      obtain ⟨q14, hq14, h⟩ := gb_s h
      refine fw_sv (As := [.ref (ad 10), .ref (ad 1), .int (nI 7)]) (rest := []) ⟨hx, hb, hml, hown, hts⟩ (k_X11_copies l D cA ad tw hG z13 10 7 (gF11.2.2.2.2.2.2.2.2.2.2.1) 1 7 (gF11.2.1) (nI 7) q14 hq14) (va_cwS 3 hts gX11_read_X11_copies rfl rfl rfl hdS_X11_copies ⟨Nat.le_of_ble_eq_true rfl, Nat.le_of_ble_eq_true rfl⟩) hK hZ hP rfl hl _ rfl (Nat.le_of_ble_eq_true rfl) hS dX11_read_76 ⟨Nat.zero_le _, Nat.zero_le _⟩ (fun H locs hP hS => ?_)
      refine lv_aload_n hx hb dX11_read_79 rfl (lv_at hl 3 rfl) ?_
      refine fw_getr hx hb hts in_X11_read_X11 hown hK hP gF11.1.1 gF11.1.2 rfl 24 (by decide) rfl (hts _ (List.mem_of_getElem? (i := 6) rfl)) rfl dX11_read_80 ?_
      refine lv_aload_n hx hb dX11_read_83 rfl (lv_at hl 3 rfl) ?_
      refine fw_getr hx hb hts in_X11_read_X11 hown hK hP gF11.1.1 gF11.1.2 rfl 4 (by decide) rfl (hts _ (List.mem_of_getElem? (i := 5) rfl)) rfl dX11_read_84 ?_
      refine lv_bipush (v := (nI 7)) hx hb dX11_read_87 (by decide) ?_
      obtain ⟨q15, hq15, h⟩ := gb_s h
      refine fw_sv (As := [.ref (ad 11), .ref (ad 2), .int (nI 7)]) (rest := []) ⟨hx, hb, hml, hown, hts⟩ (k_X11_copies l D cA ad tw hG q14 11 7 (gF11.2.2.2.2.2.2.2.2.2.2.2.1) 2 7 (gF11.2.2.1) (nI 7) q15 hq15) (va_cwS 3 hts gX11_read_X11_copies rfl rfl rfl hdS_X11_copies ⟨Nat.le_of_ble_eq_true rfl, Nat.le_of_ble_eq_true rfl⟩) hK hZ hP rfl hl _ rfl (Nat.le_of_ble_eq_true rfl) hS dX11_read_89 ⟨Nat.zero_le _, Nat.zero_le _⟩ (fun H locs hP hS => ?_)
      refine lv_goto (tgt := 105) hx hb dX11_read_92 (by decide) ?_
      refine lv_aload_n hx hb dX11_read_105 rfl (lv_at hl 3 rfl) ?_
      refine lv_iconst (v := (nI 0)) hx hb dX11_read_106 (by decide) ?_
      refine fw_put hx hb hts in_X11_read_X11 tyX11_ok nmX11 hown hK hG hP hS gF11.1.1 gF11.1.2 rfl 15 (by decide) rfl (hts _ (List.mem_of_getElem? (i := 8) rfl)) rfl rfl (ty := .int) rfl rfl rfl dX11_read_107 (fun z16 H locs ez16 hP hS => ?_)
      replace h := gl_s h ez16
      refine lv_iload_n hx hb dX11_read_110 rfl (lv_at hl 0 rfl) ?_
      exact fw_ireti hx hb hr hlocks (Option.some.inj h) hK hZ hP hS dX11_read_111
theorem in_X11_writes_X11 : ∀ w ∈ wsX110, w ∈ wsX11_writes := fun w h => List.mem_cons_of_mem _ (List.mem_append_right _ (h))
theorem hdV_X11_writes : yX11_writes.cls = RX11 ∧ yX11_writes.cls ≠ "java/lang/invoke/MethodHandle" ∧ yX11_writes.cls ≠ "java/lang/invoke/VarHandle" ∧ (parseMethodDescriptor yX11_writes.desc).map (fun d => d.parameters.length) = some 1 := by decide +kernel
set_option maxHeartbeats 4000000 in
set_option maxRecDepth 100000 in
theorem k_X11_writes (l : Launch) (D : va_G) (cA : Nat → ClassId) (ad : Nat → Nat) (tw : Nat) (hG : gOk ad 22) (z : gS) (a1 : Int32) (res : gS) (h : f_X11_writes a1 z = some res) : gMv l yX11_writes wsX11_writes (gRm 0 0) D cA ad tw shM 22 [.ref (ad 0), .int a1] z res := by
  refine Met.ofW (cc := cX11_writes) (maxL := 2) (ret := none) (by decide) rfl ?_
  intro p e s m args below meth c s₁ B hml hv
  obtain ⟨rfl, hP, hK, hZ⟩ := hv
  have hx := B.exec
  have hb := B.bytes
  have hr := B.returns
  have hts := atoms_spec (ws := wsX11_writes) B.pre
  have hown : s.vm.findClass RX11 = some m.cls := findClass_of_methodNamed B.named
  have hlocks := B.notSynchronized
  have hS : va_S (gA ad 22) s.heap s.heap [] := va_S.rf
  have hl := lv_entry ([.ref (ad 0), .int a1]) (n := 2) (Nat.le_of_ble_eq_true rfl)
  rw [lg_entry_eq]
  generalize (lg_sl ([.ref (ad 0), .int a1]) ++ List.replicate (2 - (lg_sl ([.ref (ad 0), .int a1])).length) Slot.unset).toArray = ls at hl ⊢
  have hl : lv_has ls 2 [(0, .ref (ad 0)), (1, .int a1)] := hl
  unfold f_X11_writes at h
  refine lv_aload_n hx hb dX11_writes_0 rfl (lv_at hl 0 rfl) ?_
  refine fw_getr hx hb hts in_X11_writes_X11 hown hK hP gF11.1.1 gF11.1.2 rfl 25 (by decide) rfl (hts _ (List.mem_of_getElem? (i := 1) rfl)) rfl dX11_writes_1 ?_
  refine lv_aload_n hx hb dX11_writes_4 rfl (lv_at hl 0 rfl) ?_
  refine fw_geti hx hb hts in_X11_writes_X11 hown hK hP gF11.1.1 gF11.1.2 rfl 26 (by decide) rfl (hts _ (List.mem_of_getElem? (i := 2) rfl)) rfl dX11_writes_5 ?_
  refine lv_iload_n hx hb dX11_writes_8 rfl (lv_at hl 1 rfl) ?_
  obtain ⟨h1, h⟩ := gg_s h
  refine fw_iast hx hb hK hG hP hS gF11.2.2.2.2.2.2.2.2.2.2.2.2.1.1 gF11.2.2.2.2.2.2.2.2.2.2.2.2.1.2 h1 dX11_writes_9 (fun z2 H locs ez2 hP hS => ?_)
  replace h := gl_s h ez2
  refine lv_aload_n hx hb dX11_writes_10 rfl (lv_at hl 0 rfl) ?_
  refine lv_dup hx hb dX11_writes_11 rfl ?_
  refine fw_geti hx hb hts in_X11_writes_X11 hown hK hP gF11.1.1 gF11.1.2 rfl 26 (by decide) rfl (hts _ (List.mem_of_getElem? (i := 2) rfl)) rfl dX11_writes_12 ?_
  refine lv_iconst (v := (nI 1)) hx hb dX11_writes_15 (by decide) ?_
  refine lv_iadd hx hb dX11_writes_16 ?_
  refine fw_put hx hb hts in_X11_writes_X11 tyX11_ok nmX11 hown hK hG hP hS gF11.1.1 gF11.1.2 rfl 26 (by decide) rfl (hts _ (List.mem_of_getElem? (i := 2) rfl)) rfl rfl (ty := .int) rfl rfl rfl dX11_writes_17 (fun z3 H locs ez3 hP hS => ?_)
  replace h := gl_s h ez3
  exact fw_vret hx hb hr hlocks (Option.some.inj h) hK hZ hP hS dX11_writes_20
theorem hdV_X11_writesName : yX11_writesName.cls = RX11 ∧ yX11_writesName.cls ≠ "java/lang/invoke/MethodHandle" ∧ yX11_writesName.cls ≠ "java/lang/invoke/VarHandle" ∧ (parseMethodDescriptor yX11_writesName.desc).map (fun d => d.parameters.length) = some 1 := by decide +kernel
set_option maxHeartbeats 4000000 in
set_option maxRecDepth 100000 in
theorem k_X11_writesName (l : Launch) (D : va_G) (cA : Nat → ClassId) (ad : Nat → Nat) (tw : Nat) (hG : gOk ad 22) (z : gS) (a1 : Int32) (res : gS) (h : f_X11_writesName a1 z = some res) : gMv l yX11_writesName wsX11_writesName (gRm 2 44) D cA ad tw shM 22 [.ref (ad 0), .int a1] z res := by
  refine Met.ofW (cc := cX11_writesName) (maxL := 3) (ret := none) (by decide) rfl ?_
  intro p e s m args below meth c s₁ B hml hv
  obtain ⟨rfl, hP, hK, hZ⟩ := hv
  have hx := B.exec
  have hb := B.bytes
  have hr := B.returns
  have hts := atoms_spec (ws := wsX11_writesName) B.pre
  have hown : s.vm.findClass RX11 = some m.cls := findClass_of_methodNamed B.named
  have hlocks := B.notSynchronized
  have hS : va_S (gA ad 22) s.heap s.heap [] := va_S.rf
  have hl := lv_entry ([.ref (ad 0), .int a1]) (n := 3) (Nat.le_of_ble_eq_true rfl)
  rw [lg_entry_eq]
  generalize (lg_sl ([.ref (ad 0), .int a1]) ++ List.replicate (3 - (lg_sl ([.ref (ad 0), .int a1])).length) Slot.unset).toArray = ls at hl ⊢
  have hl : lv_has ls 3 [(0, .ref (ad 0)), (1, .int a1)] := hl
  have j2 : ∀ (x1 : Int32) (n : Nat) (x2 : Int32) (z : gS) (H : Heap) (locs : List Loc) (ls : Array Slot), f_X11_writesName_2 x1 n x2 z = some res → va_P D vwCl (gw cA ad shM 22 z) H → va_S (gA ad 22) s.heap H locs → lv_has ls 3 [(0, .ref (ad 0)), (1, .int x1), (2, .int x2)] → W p l e (headSpec wsX11_writesName (gRm 2 44)).room s m ([.ref (ad 0), .int a1] : List Value).toArray below meth c H locs 0 0 (MQ below (va_Qv (fun u => u = res) (gPr D cA ad tw shM 22) (gA ad 22)) ([.ref (ad 0), .int a1] : List Value).toArray s 0 0 (gA ad 22)) (F0 m 2 ls []) := by
    intro x1 n
    induction n with
    | zero => intro x2 z H locs ls h; exact (gno h).elim
    | succ n hK2 =>
      intro x2 z H locs ls h hP hS hl
      replace h : f_X11_writesName_2_b x1 (f_X11_writesName_2 x1 n) x2 z = some res := h
      unfold f_X11_writesName_2_b at h
      refine lv_iload_n hx hb dX11_writesName_2 rfl (lv_at hl 2 rfl) ?_
      refine lv_iload_n hx hb dX11_writesName_3 rfl (lv_at hl 1 rfl) ?_
      obtain ⟨q1, hq1, h⟩ := gb_s h
      refine fw_siR (As := [.int x1]) (rest := [.int x2]) ⟨hx, hb, hml, hown, hts⟩ (k_X11_lettersOf l D cA ad tw hG z x1 q1 hq1) (va_cwS 1 hts gX11_writesName_X11_lettersOf rfl rfl rfl hdS_X11_lettersOf ⟨Nat.le_of_ble_eq_true rfl, Nat.le_of_ble_eq_true rfl⟩) hK hZ hP rfl hl _ rfl (Nat.le_of_ble_eq_true rfl) hS dX11_writesName_4 ⟨Nat.zero_le _, Nat.zero_le _⟩ (fun H locs hP hS => ?_)
      refine lv_icmp_ge (tgt := 30) hx hb dX11_writesName_7 (by decide) (fun c2 => ?_) (fun c2 => ?_)
      · replace h := gif_t h c2
        exact fw_vret hx hb hr hlocks (Option.some.inj h) hK hZ hP hS dX11_writesName_30
      · replace h := gif_f h c2
        refine lv_aload_n hx hb dX11_writesName_10 rfl (lv_at hl 0 rfl) ?_
        refine lv_bipush (v := (nI 97)) hx hb dX11_writesName_11 (by decide) ?_
        refine lv_iload_n hx hb dX11_writesName_13 rfl (lv_at hl 1 rfl) ?_
        refine lv_iload_n hx hb dX11_writesName_14 rfl (lv_at hl 2 rfl) ?_
        obtain ⟨q3, hq3, h⟩ := gb_s h
        refine fw_siR (As := [.int x1, .int x2]) (rest := [.int (nI 97), .ref (ad 0)]) ⟨hx, hb, hml, hown, hts⟩ (k_X11_letterOf l D cA ad tw hG z x1 x2 q3 hq3) (va_cwS 2 hts gX11_writesName_X11_letterOf rfl rfl rfl hdS_X11_letterOf ⟨Nat.le_of_ble_eq_true rfl, Nat.le_of_ble_eq_true rfl⟩) hK hZ hP rfl hl _ rfl (Nat.le_of_ble_eq_true rfl) hS dX11_writesName_15 ⟨Nat.zero_le _, Nat.zero_le _⟩ (fun H locs hP hS => ?_)
        refine lv_iadd hx hb dX11_writesName_18 ?_
        refine lv_iconst (v := (nI 1)) hx hb dX11_writesName_19 (by decide) ?_
        refine lv_isub hx hb dX11_writesName_20 ?_
        obtain ⟨q4, hq4, h⟩ := gb_s h
        refine fw_vv (As := [.int (((nI 97) + q3) - (nI 1))]) (rest := []) ⟨hx, hb, hml, hown, hts⟩ (k_X11_writes l D cA ad tw hG z (((nI 97) + q3) - (nI 1)) q4 hq4) (cwV 1 hts gX11_writesName_X11_writes rfl rfl rfl hdV_X11_writes ⟨Nat.le_of_ble_eq_true rfl, Nat.le_of_ble_eq_true rfl⟩) (fw_preV gF11.1.1 gF11.1.2 rfl rfl hK hZ hP hS) rfl hl _ rfl (Nat.le_of_ble_eq_true rfl) hS dX11_writesName_21 ⟨Nat.zero_le _, Nat.zero_le _⟩ (fun H locs hP hS => ?_)
        refine lv_iinc (v := x2 + (nI 1)) (lv' := [(2, .int (x2 + (nI 1))), (0, .ref (ad 0)), (1, .int x1)]) hx hb dX11_writesName_24 hl (k := 2) rfl rfl (by decide) rfl (fun ls hl => ?_)
        refine lv_goto (tgt := 2) hx hb dX11_writesName_27 (by decide) ?_
        exact hK2 (x2 + (nI 1)) q4 _ _ ls h hP hS (lv_sub hl [1, 2, 0] rfl)
  unfold f_X11_writesName at h
  refine lv_iconst (v := (nI 0)) hx hb dX11_writesName_0 (by decide) ?_
  refine lv_istore_n (lv' := [(2, .int (nI 0)), (0, .ref (ad 0)), (1, .int a1)]) hx hb dX11_writesName_1 rfl hl (by decide) rfl (fun ls hl => ?_)
  exact j2 a1 gF (nI 0) z _ _ ls h hP hS (lv_sub hl [1, 2, 0] rfl)
theorem in_X11_writesNames_X11 : ∀ w ∈ wsX110, w ∈ wsX11_writesNames := fun w h => List.mem_cons_of_mem _ (List.mem_append_right _ (h))
theorem hdV_X11_writesNames : yX11_writesNames.cls = RX11 ∧ yX11_writesNames.cls ≠ "java/lang/invoke/MethodHandle" ∧ yX11_writesNames.cls ≠ "java/lang/invoke/VarHandle" ∧ (parseMethodDescriptor yX11_writesNames.desc).map (fun d => d.parameters.length) = some 1 := by decide +kernel
set_option maxHeartbeats 4000000 in
set_option maxRecDepth 100000 in
theorem k_X11_writesNames (l : Launch) (D : va_G) (cA : Nat → ClassId) (ad : Nat → Nat) (tw : Nat) (hG : gOk ad 22) (z : gS) (a1 : Int32) (res : gS) (h : f_X11_writesNames a1 z = some res) : gMv l yX11_writesNames wsX11_writesNames (gRm 3 66) D cA ad tw shM 22 [.ref (ad 0), .int a1] z res := by
  refine Met.ofW (cc := cX11_writesNames) (maxL := 5) (ret := none) (by decide) rfl ?_
  intro p e s m args below meth c s₁ B hml hv
  obtain ⟨rfl, hP, hK, hZ⟩ := hv
  have hx := B.exec
  have hb := B.bytes
  have hr := B.returns
  have hts := atoms_spec (ws := wsX11_writesNames) B.pre
  have hown : s.vm.findClass RX11 = some m.cls := findClass_of_methodNamed B.named
  have hlocks := B.notSynchronized
  have hS : va_S (gA ad 22) s.heap s.heap [] := va_S.rf
  have hl := lv_entry ([.ref (ad 0), .int a1]) (n := 5) (Nat.le_of_ble_eq_true rfl)
  rw [lg_entry_eq]
  generalize (lg_sl ([.ref (ad 0), .int a1]) ++ List.replicate (5 - (lg_sl ([.ref (ad 0), .int a1])).length) Slot.unset).toArray = ls at hl ⊢
  have hl : lv_has ls 5 [(0, .ref (ad 0)), (1, .int a1)] := hl
  have j11 : ∀ (z : gS) (x1 : Int32) (x2 : Int32) (K2 : Int32 → gS → Option gS) (hK2 : ∀ (x2' : Int32) (z' : gS) (H : Heap) (locs : List Loc) (ls : Array Slot), K2 x2' z' = some res → va_P D vwCl (gw cA ad shM 22 z') H → va_S (gA ad 22) s.heap H locs → lv_has ls 5 [(0, .ref (ad 0)), (1, .int x1), (2, .int x2')] → W p l e (headSpec wsX11_writesNames (gRm 3 66)).room s m ([.ref (ad 0), .int a1] : List Value).toArray below meth c H locs 0 0 (MQ below (va_Qv (fun u => u = res) (gPr D cA ad tw shM 22) (gA ad 22)) ([.ref (ad 0), .int a1] : List Value).toArray s 0 0 (gA ad 22)) (F0 m 2 ls [])) (n : Nat) (x3 : Int32) (x4 : Int32) (H : Heap) (locs : List Loc) (ls : Array Slot), f_X11_writesNames_11 z x1 x2 K2 n x3 x4 = some res → va_P D vwCl (gw cA ad shM 22 z) H → va_S (gA ad 22) s.heap H locs → lv_has ls 5 [(0, .ref (ad 0)), (1, .int x1), (2, .int x2), (3, .int x3), (4, .int x4)] → W p l e (headSpec wsX11_writesNames (gRm 3 66)).room s m ([.ref (ad 0), .int a1] : List Value).toArray below meth c H locs 0 0 (MQ below (va_Qv (fun u => u = res) (gPr D cA ad tw shM 22) (gA ad 22)) ([.ref (ad 0), .int a1] : List Value).toArray s 0 0 (gA ad 22)) (F0 m 11 ls []) := by
    intro z x1 x2 K2 hK2 n
    induction n with
    | zero => intro x3 x4 H locs ls h; exact (gno h).elim
    | succ n hK11 =>
      intro x3 x4 H locs ls h hP hS hl
      replace h : f_X11_writesNames_11_b z x1 x2 K2 (f_X11_writesNames_11 z x1 x2 K2 n) x3 x4 = some res := h
      unfold f_X11_writesNames_11_b at h
      refine lv_iload hx hb dX11_writesNames_11 (lv_at hl 4 rfl) ?_
      refine lv_aload_n hx hb dX11_writesNames_13 rfl (lv_at hl 0 rfl) ?_
      refine fw_geti hx hb hts in_X11_writesNames_X11 hown hK hP gF11.1.1 gF11.1.2 rfl 2 (by decide) rfl (hts _ (List.mem_of_getElem? (i := 1) rfl)) rfl dX11_writesNames_14 ?_
      refine lv_icmp_ge (tgt := 63) hx hb dX11_writesNames_17 (by decide) (fun c2 => ?_) (fun c2 => ?_)
      · replace h := gif_t h c2
        refine lv_iload_n hx hb dX11_writesNames_63 rfl (lv_at hl 2 rfl) ?_
        refine lv_iload_n hx hb dX11_writesNames_64 rfl (lv_at hl 1 rfl) ?_
        refine lv_icmp_eq (tgt := 74) hx hb dX11_writesNames_65 (by decide) (fun c3 => ?_) (fun c3 => ?_)
        · replace h := gif_t h c3
          refine lv_aload_n hx hb dX11_writesNames_74 rfl (lv_at hl 0 rfl) ?_
          refine lv_aload_n hx hb dX11_writesNames_75 rfl (lv_at hl 0 rfl) ?_
          refine fw_getr hx hb hts in_X11_writesNames_X11 hown hK hP gF11.1.1 gF11.1.2 rfl 5 (by decide) rfl (hts _ (List.mem_of_getElem? (i := 2) rfl)) rfl dX11_writesNames_76 ?_
          refine lv_iload_n hx hb dX11_writesNames_79 rfl (lv_at hl 3 rfl) ?_
          obtain ⟨h4, h⟩ := gg_s h
          refine fw_iald hx hb hK hP gF11.2.2.2.1.1 gF11.2.2.2.1.2 h4 dX11_writesNames_80 ?_
          obtain ⟨q5, hq5, h⟩ := gb_s h
          refine fw_vv (As := [.int (z 3 x3.toNatClampNeg)]) (rest := []) ⟨hx, hb, hml, hown, hts⟩ (k_X11_writesName l D cA ad tw hG z (z 3 x3.toNatClampNeg) q5 hq5) (cwV 1 hts gX11_writesNames_X11_writesName rfl rfl rfl hdV_X11_writesName ⟨Nat.le_of_ble_eq_true rfl, Nat.le_of_ble_eq_true rfl⟩) (fw_preV gF11.1.1 gF11.1.2 rfl rfl hK hZ hP hS) rfl hl _ rfl (Nat.le_of_ble_eq_true rfl) hS dX11_writesNames_81 ⟨Nat.zero_le _, Nat.zero_le _⟩ (fun H locs hP hS => ?_)
          refine lv_iload_n hx hb dX11_writesNames_84 rfl (lv_at hl 2 rfl) ?_
          refine lv_iconst (v := (nI 1)) hx hb dX11_writesNames_85 (by decide) ?_
          refine lv_iload_n hx hb dX11_writesNames_86 rfl (lv_at hl 3 rfl) ?_
          refine lv_ishl hx hb dX11_writesNames_87 ?_
          refine lv_iconst (v := gm1) hx hb dX11_writesNames_88 (by decide) ?_
          refine lv_ixor hx hb dX11_writesNames_89 ?_
          refine lv_iand hx hb dX11_writesNames_90 ?_
          refine lv_topi (fun y6 ey6 => ?_)
          replace h := gl_s h ey6
          refine lv_istore_n (lv' := [(2, .int y6), (0, .ref (ad 0)), (1, .int x1), (3, .int x3), (4, .int x4)]) hx hb dX11_writesNames_91 rfl hl (by decide) rfl (fun ls hl => ?_)
          refine lv_goto (tgt := 2) hx hb dX11_writesNames_92 (by decide) ?_
          exact hK2 y6 q5 _ _ ls h hP hS (lv_sub hl [1, 2, 0] rfl)
        · replace h := gif_f h c3
          refine lv_aload_n hx hb dX11_writesNames_68 rfl (lv_at hl 0 rfl) ?_
          refine lv_bipush (v := (nI 44)) hx hb dX11_writesNames_69 (by decide) ?_
          obtain ⟨q7, hq7, h⟩ := gb_s h
          refine fw_vv (As := [.int (nI 44)]) (rest := []) ⟨hx, hb, hml, hown, hts⟩ (k_X11_writes l D cA ad tw hG z (nI 44) q7 hq7) (cwV 1 hts gX11_writesNames_X11_writes rfl rfl rfl hdV_X11_writes ⟨Nat.le_of_ble_eq_true rfl, Nat.le_of_ble_eq_true rfl⟩) (fw_preV gF11.1.1 gF11.1.2 rfl rfl hK hZ hP hS) rfl hl _ rfl (Nat.le_of_ble_eq_true rfl) hS dX11_writesNames_71 ⟨Nat.zero_le _, Nat.zero_le _⟩ (fun H locs hP hS => ?_)
          refine lv_aload_n hx hb dX11_writesNames_74 rfl (lv_at hl 0 rfl) ?_
          refine lv_aload_n hx hb dX11_writesNames_75 rfl (lv_at hl 0 rfl) ?_
          refine fw_getr hx hb hts in_X11_writesNames_X11 hown hK hP gF11.1.1 gF11.1.2 rfl 5 (by decide) rfl (hts _ (List.mem_of_getElem? (i := 2) rfl)) rfl dX11_writesNames_76 ?_
          refine lv_iload_n hx hb dX11_writesNames_79 rfl (lv_at hl 3 rfl) ?_
          obtain ⟨h8, h⟩ := gg_s h
          refine fw_iald hx hb hK hP gF11.2.2.2.1.1 gF11.2.2.2.1.2 h8 dX11_writesNames_80 ?_
          obtain ⟨q9, hq9, h⟩ := gb_s h
          refine fw_vv (As := [.int (q7 3 x3.toNatClampNeg)]) (rest := []) ⟨hx, hb, hml, hown, hts⟩ (k_X11_writesName l D cA ad tw hG q7 (q7 3 x3.toNatClampNeg) q9 hq9) (cwV 1 hts gX11_writesNames_X11_writesName rfl rfl rfl hdV_X11_writesName ⟨Nat.le_of_ble_eq_true rfl, Nat.le_of_ble_eq_true rfl⟩) (fw_preV gF11.1.1 gF11.1.2 rfl rfl hK hZ hP hS) rfl hl _ rfl (Nat.le_of_ble_eq_true rfl) hS dX11_writesNames_81 ⟨Nat.zero_le _, Nat.zero_le _⟩ (fun H locs hP hS => ?_)
          refine lv_iload_n hx hb dX11_writesNames_84 rfl (lv_at hl 2 rfl) ?_
          refine lv_iconst (v := (nI 1)) hx hb dX11_writesNames_85 (by decide) ?_
          refine lv_iload_n hx hb dX11_writesNames_86 rfl (lv_at hl 3 rfl) ?_
          refine lv_ishl hx hb dX11_writesNames_87 ?_
          refine lv_iconst (v := gm1) hx hb dX11_writesNames_88 (by decide) ?_
          refine lv_ixor hx hb dX11_writesNames_89 ?_
          refine lv_iand hx hb dX11_writesNames_90 ?_
          refine lv_topi (fun y10 ey10 => ?_)
          replace h := gl_s h ey10
          refine lv_istore_n (lv' := [(2, .int y10), (0, .ref (ad 0)), (1, .int x1), (3, .int x3), (4, .int x4)]) hx hb dX11_writesNames_91 rfl hl (by decide) rfl (fun ls hl => ?_)
          refine lv_goto (tgt := 2) hx hb dX11_writesNames_92 (by decide) ?_
          exact hK2 y10 q9 _ _ ls h hP hS (lv_sub hl [1, 2, 0] rfl)
      · replace h := gif_f h c2
        refine lv_iload_n hx hb dX11_writesNames_20 rfl (lv_at hl 2 rfl) ?_
        refine lv_iload hx hb dX11_writesNames_21 (lv_at hl 4 rfl) ?_
        obtain ⟨q11, hq11, h⟩ := gb_s h
        refine fw_siR (As := [.int x2, .int x4]) (rest := []) ⟨hx, hb, hml, hown, hts⟩ (k_X11_has l D cA ad tw hG z x2 x4 q11 hq11) (va_cwS 2 hts gX11_writesNames_X11_has rfl rfl rfl hdS_X11_has ⟨Nat.le_of_ble_eq_true rfl, Nat.le_of_ble_eq_true rfl⟩) hK hZ hP rfl hl _ rfl (Nat.le_of_ble_eq_true rfl) hS dX11_writesNames_23 ⟨Nat.zero_le _, Nat.zero_le _⟩ (fun H locs hP hS => ?_)
        refine lv_if_eq (tgt := 55) hx hb dX11_writesNames_26 (by decide) (fun c12 => ?_) (fun c12 => ?_)
        · replace h := gif_t h c12
          refine lv_iload_n hx hb dX11_writesNames_55 rfl (lv_at hl 3 rfl) ?_
          refine lv_istore_n (lv' := [(3, .int x3), (0, .ref (ad 0)), (1, .int x1), (2, .int x2), (4, .int x4)]) hx hb dX11_writesNames_56 rfl hl (by decide) rfl (fun ls hl => ?_)
          refine lv_iinc (v := x4 + (nI 1)) (lv' := [(4, .int (x4 + (nI 1))), (3, .int x3), (0, .ref (ad 0)), (1, .int x1), (2, .int x2)]) hx hb dX11_writesNames_57 hl (k := 4) rfl rfl (by decide) rfl (fun ls hl => ?_)
          refine lv_goto (tgt := 11) hx hb dX11_writesNames_60 (by decide) ?_
          exact hK11 x3 (x4 + (nI 1)) _ _ ls h hP hS (lv_sub hl [2, 3, 4, 1, 0] rfl)
        · replace h := gif_f h c12
          refine lv_iload_n hx hb dX11_writesNames_29 rfl (lv_at hl 3 rfl) ?_
          refine lv_iconst (v := gm1) hx hb dX11_writesNames_30 (by decide) ?_
          refine lv_icmp_eq (tgt := 50) hx hb dX11_writesNames_31 (by decide) (fun c13 => ?_) (fun c13 => ?_)
          · replace h := gif_t h c13
            refine lv_iload hx hb dX11_writesNames_50 (lv_at hl 4 rfl) ?_
            refine lv_goto (tgt := 56) hx hb dX11_writesNames_52 (by decide) ?_
            refine lv_istore_n (lv' := [(3, .int x4), (0, .ref (ad 0)), (1, .int x1), (2, .int x2), (4, .int x4)]) hx hb dX11_writesNames_56 rfl hl (by decide) rfl (fun ls hl => ?_)
            refine lv_iinc (v := x4 + (nI 1)) (lv' := [(4, .int (x4 + (nI 1))), (3, .int x4), (0, .ref (ad 0)), (1, .int x1), (2, .int x2)]) hx hb dX11_writesNames_57 hl (k := 4) rfl rfl (by decide) rfl (fun ls hl => ?_)
            refine lv_goto (tgt := 11) hx hb dX11_writesNames_60 (by decide) ?_
            exact hK11 x4 (x4 + (nI 1)) _ _ ls h hP hS (lv_sub hl [2, 3, 4, 1, 0] rfl)
          · replace h := gif_f h c13
            refine lv_aload_n hx hb dX11_writesNames_34 rfl (lv_at hl 0 rfl) ?_
            refine fw_getr hx hb hts in_X11_writesNames_X11 hown hK hP gF11.1.1 gF11.1.2 rfl 5 (by decide) rfl (hts _ (List.mem_of_getElem? (i := 2) rfl)) rfl dX11_writesNames_35 ?_
            refine lv_iload hx hb dX11_writesNames_38 (lv_at hl 4 rfl) ?_
            obtain ⟨h14, h⟩ := gg_s h
            refine fw_iald hx hb hK hP gF11.2.2.2.1.1 gF11.2.2.2.1.2 h14 dX11_writesNames_40 ?_
            refine lv_aload_n hx hb dX11_writesNames_41 rfl (lv_at hl 0 rfl) ?_
            refine fw_getr hx hb hts in_X11_writesNames_X11 hown hK hP gF11.1.1 gF11.1.2 rfl 5 (by decide) rfl (hts _ (List.mem_of_getElem? (i := 2) rfl)) rfl dX11_writesNames_42 ?_
            refine lv_iload_n hx hb dX11_writesNames_45 rfl (lv_at hl 3 rfl) ?_
            obtain ⟨h15, h⟩ := gg_s h
            refine fw_iald hx hb hK hP gF11.2.2.2.1.1 gF11.2.2.2.1.2 h15 dX11_writesNames_46 ?_
            refine lv_icmp_ge (tgt := 55) hx hb dX11_writesNames_47 (by decide) (fun c16 => ?_) (fun c16 => ?_)
            · replace h := gif_t h c16
              refine lv_iload_n hx hb dX11_writesNames_55 rfl (lv_at hl 3 rfl) ?_
              refine lv_istore_n (lv' := [(3, .int x3), (0, .ref (ad 0)), (1, .int x1), (2, .int x2), (4, .int x4)]) hx hb dX11_writesNames_56 rfl hl (by decide) rfl (fun ls hl => ?_)
              refine lv_iinc (v := x4 + (nI 1)) (lv' := [(4, .int (x4 + (nI 1))), (3, .int x3), (0, .ref (ad 0)), (1, .int x1), (2, .int x2)]) hx hb dX11_writesNames_57 hl (k := 4) rfl rfl (by decide) rfl (fun ls hl => ?_)
              refine lv_goto (tgt := 11) hx hb dX11_writesNames_60 (by decide) ?_
              exact hK11 x3 (x4 + (nI 1)) _ _ ls h hP hS (lv_sub hl [2, 3, 4, 1, 0] rfl)
            · replace h := gif_f h c16
              refine lv_iload hx hb dX11_writesNames_50 (lv_at hl 4 rfl) ?_
              refine lv_goto (tgt := 56) hx hb dX11_writesNames_52 (by decide) ?_
              refine lv_istore_n (lv' := [(3, .int x4), (0, .ref (ad 0)), (1, .int x1), (2, .int x2), (4, .int x4)]) hx hb dX11_writesNames_56 rfl hl (by decide) rfl (fun ls hl => ?_)
              refine lv_iinc (v := x4 + (nI 1)) (lv' := [(4, .int (x4 + (nI 1))), (3, .int x4), (0, .ref (ad 0)), (1, .int x1), (2, .int x2)]) hx hb dX11_writesNames_57 hl (k := 4) rfl rfl (by decide) rfl (fun ls hl => ?_)
              refine lv_goto (tgt := 11) hx hb dX11_writesNames_60 (by decide) ?_
              exact hK11 x4 (x4 + (nI 1)) _ _ ls h hP hS (lv_sub hl [2, 3, 4, 1, 0] rfl)
  have j2 : ∀ (x1 : Int32) (n : Nat) (x2 : Int32) (z : gS) (H : Heap) (locs : List Loc) (ls : Array Slot), f_X11_writesNames_2 x1 n x2 z = some res → va_P D vwCl (gw cA ad shM 22 z) H → va_S (gA ad 22) s.heap H locs → lv_has ls 5 [(0, .ref (ad 0)), (1, .int x1), (2, .int x2)] → W p l e (headSpec wsX11_writesNames (gRm 3 66)).room s m ([.ref (ad 0), .int a1] : List Value).toArray below meth c H locs 0 0 (MQ below (va_Qv (fun u => u = res) (gPr D cA ad tw shM 22) (gA ad 22)) ([.ref (ad 0), .int a1] : List Value).toArray s 0 0 (gA ad 22)) (F0 m 2 ls []) := by
    intro x1 n
    induction n with
    | zero => intro x2 z H locs ls h; exact (gno h).elim
    | succ n hK2 =>
      intro x2 z H locs ls h hP hS hl
      replace h : f_X11_writesNames_2_b x1 (f_X11_writesNames_2 x1 n) x2 z = some res := h
      unfold f_X11_writesNames_2_b at h
      refine lv_iload_n hx hb dX11_writesNames_2 rfl (lv_at hl 2 rfl) ?_
      refine lv_if_eq (tgt := 95) hx hb dX11_writesNames_3 (by decide) (fun c1 => ?_) (fun c1 => ?_)
      · replace h := gif_t h c1
        exact fw_vret hx hb hr hlocks (Option.some.inj h) hK hZ hP hS dX11_writesNames_95
      · replace h := gif_f h c1
        refine lv_iconst (v := gm1) hx hb dX11_writesNames_6 (by decide) ?_
        refine lv_istore_n (lv' := [(3, .int gm1), (0, .ref (ad 0)), (1, .int x1), (2, .int x2)]) hx hb dX11_writesNames_7 rfl hl (by decide) rfl (fun ls hl => ?_)
        refine lv_iconst (v := (nI 0)) hx hb dX11_writesNames_8 (by decide) ?_
        refine lv_istore (lv' := [(4, .int (nI 0)), (3, .int gm1), (0, .ref (ad 0)), (1, .int x1), (2, .int x2)]) hx hb dX11_writesNames_9 hl (by decide) rfl (fun ls hl => ?_)
        exact j11 z x1 x2 _ hK2 gF gm1 (nI 0) _ _ ls h hP hS (lv_sub hl [2, 3, 4, 1, 0] rfl)
  unfold f_X11_writesNames at h
  refine lv_iload_n hx hb dX11_writesNames_0 rfl (lv_at hl 1 rfl) ?_
  refine lv_istore_n (lv' := [(2, .int a1), (0, .ref (ad 0)), (1, .int a1)]) hx hb dX11_writesNames_1 rfl hl (by decide) rfl (fun ls hl => ?_)
  exact j2 a1 gF a1 z _ _ ls h hP hS (lv_sub hl [1, 2, 0] rfl)
theorem in_X11_papers_X11 : ∀ w ∈ wsX110, w ∈ wsX11_papers := fun w h => List.mem_cons_of_mem _ (List.mem_append_right _ (h))
theorem hdV_X11_papers : yX11_papers.cls = RX11 ∧ yX11_papers.cls ≠ "java/lang/invoke/MethodHandle" ∧ yX11_papers.cls ≠ "java/lang/invoke/VarHandle" ∧ (parseMethodDescriptor yX11_papers.desc).map (fun d => d.parameters.length) = some 0 := by decide +kernel
set_option maxHeartbeats 4000000 in
set_option maxRecDepth 100000 in
theorem k_X11_papers (l : Launch) (D : va_G) (cA : Nat → ClassId) (ad : Nat → Nat) (tw : Nat) (hG : gOk ad 22) (z : gS)  (res : gS) (h : f_X11_papers  z = some res) : gMv l yX11_papers wsX11_papers (gRm 4 90) D cA ad tw shM 22 [.ref (ad 0)] z res := by
  refine Met.ofW (cc := cX11_papers) (maxL := 2) (ret := none) (by decide) rfl ?_
  intro p e s m args below meth c s₁ B hml hv
  obtain ⟨rfl, hP, hK, hZ⟩ := hv
  have hx := B.exec
  have hb := B.bytes
  have hr := B.returns
  have hts := atoms_spec (ws := wsX11_papers) B.pre
  have hown : s.vm.findClass RX11 = some m.cls := findClass_of_methodNamed B.named
  have hlocks := B.notSynchronized
  have hS : va_S (gA ad 22) s.heap s.heap [] := va_S.rf
  have hl := lv_entry ([.ref (ad 0)]) (n := 2) (Nat.le_of_ble_eq_true rfl)
  rw [lg_entry_eq]
  generalize (lg_sl ([.ref (ad 0)]) ++ List.replicate (2 - (lg_sl ([.ref (ad 0)])).length) Slot.unset).toArray = ls at hl ⊢
  have hl : lv_has ls 2 [(0, .ref (ad 0))] := hl
  have j52 : ∀ (x1 : Int32) (K7 : Int32 → gS → Option gS) (hK7 : ∀ (x1' : Int32) (z' : gS) (H : Heap) (locs : List Loc) (ls : Array Slot), K7 x1' z' = some res → va_P D vwCl (gw cA ad shM 22 z') H → va_S (gA ad 22) s.heap H locs → lv_has ls 2 [(0, .ref (ad 0)), (1, .int x1')] → W p l e (headSpec wsX11_papers (gRm 4 90)).room s m ([.ref (ad 0)] : List Value).toArray below meth c H locs 0 0 (MQ below (va_Qv (fun u => u = res) (gPr D cA ad tw shM 22) (gA ad 22)) ([.ref (ad 0)] : List Value).toArray s 0 0 (gA ad 22)) (F0 m 7 ls [])) (z : gS) (H : Heap) (locs : List Loc) (ls : Array Slot), f_X11_papers_52 x1 K7 z = some res → va_P D vwCl (gw cA ad shM 22 z) H → va_S (gA ad 22) s.heap H locs → lv_has ls 2 [(0, .ref (ad 0)), (1, .int x1)] → W p l e (headSpec wsX11_papers (gRm 4 90)).room s m ([.ref (ad 0)] : List Value).toArray below meth c H locs 0 0 (MQ below (va_Qv (fun u => u = res) (gPr D cA ad tw shM 22) (gA ad 22)) ([.ref (ad 0)] : List Value).toArray s 0 0 (gA ad 22)) (F0 m 52 ls []) := by
    intro x1 K7 hK7 z H locs ls h hP hS hl
    unfold f_X11_papers_52 at h
    refine lv_aload_n hx hb dX11_papers_52 rfl (lv_at hl 0 rfl) ?_
    refine fw_getr hx hb hts in_X11_papers_X11 hown hK hP gF11.1.1 gF11.1.2 rfl 3 (by decide) rfl (hts _ (List.mem_of_getElem? (i := 3) rfl)) rfl dX11_papers_53 ?_
    refine lv_iload_n hx hb dX11_papers_56 rfl (lv_at hl 1 rfl) ?_
    obtain ⟨h13, h⟩ := gg_s h
    refine fw_iald hx hb hK hP gF11.2.1.1 gF11.2.1.2 h13 dX11_papers_57 ?_
    refine lv_bipush (v := (nI 9)) hx hb dX11_papers_58 (by decide) ?_
    refine lv_icmp_le (tgt := 82) hx hb dX11_papers_60 (by decide) (fun c14 => ?_) (fun c14 => ?_)
    · replace h := gif_t h c14
      refine lv_aload_n hx hb dX11_papers_82 rfl (lv_at hl 0 rfl) ?_
      refine lv_bipush (v := (nI 48)) hx hb dX11_papers_83 (by decide) ?_
      refine lv_aload_n hx hb dX11_papers_85 rfl (lv_at hl 0 rfl) ?_
      refine fw_getr hx hb hts in_X11_papers_X11 hown hK hP gF11.1.1 gF11.1.2 rfl 3 (by decide) rfl (hts _ (List.mem_of_getElem? (i := 3) rfl)) rfl dX11_papers_86 ?_
      refine lv_iload_n hx hb dX11_papers_89 rfl (lv_at hl 1 rfl) ?_
      obtain ⟨h15, h⟩ := gg_s h
      refine fw_iald hx hb hK hP gF11.2.1.1 gF11.2.1.2 h15 dX11_papers_90 ?_
      refine lv_bipush (v := (nI 10)) hx hb dX11_papers_91 (by decide) ?_
      refine lv_irem hx hb dX11_papers_93 (by decide) ?_
      refine lv_iadd hx hb dX11_papers_94 ?_
      obtain ⟨q16, hq16, h⟩ := gb_s h
      refine fw_vv (As := [.int ((nI 48) + ((z 1 x1.toNatClampNeg) - (z 1 x1.toNatClampNeg) / (nI 10) * (nI 10)))]) (rest := []) ⟨hx, hb, hml, hown, hts⟩ (k_X11_writes l D cA ad tw hG z ((nI 48) + ((z 1 x1.toNatClampNeg) - (z 1 x1.toNatClampNeg) / (nI 10) * (nI 10))) q16 hq16) (cwV 1 hts gX11_papers_X11_writes rfl rfl rfl hdV_X11_writes ⟨Nat.le_of_ble_eq_true rfl, Nat.le_of_ble_eq_true rfl⟩) (fw_preV gF11.1.1 gF11.1.2 rfl rfl hK hZ hP hS) rfl hl _ rfl (Nat.le_of_ble_eq_true rfl) hS dX11_papers_95 ⟨Nat.zero_le _, Nat.zero_le _⟩ (fun H locs hP hS => ?_)
      refine lv_aload_n hx hb dX11_papers_98 rfl (lv_at hl 0 rfl) ?_
      refine lv_bipush (v := (nI 58)) hx hb dX11_papers_99 (by decide) ?_
      obtain ⟨q17, hq17, h⟩ := gb_s h
      refine fw_vv (As := [.int (nI 58)]) (rest := []) ⟨hx, hb, hml, hown, hts⟩ (k_X11_writes l D cA ad tw hG q16 (nI 58) q17 hq17) (cwV 1 hts gX11_papers_X11_writes rfl rfl rfl hdV_X11_writes ⟨Nat.le_of_ble_eq_true rfl, Nat.le_of_ble_eq_true rfl⟩) (fw_preV gF11.1.1 gF11.1.2 rfl rfl hK hZ hP hS) rfl hl _ rfl (Nat.le_of_ble_eq_true rfl) hS dX11_papers_101 ⟨Nat.zero_le _, Nat.zero_le _⟩ (fun H locs hP hS => ?_)
      refine lv_aload_n hx hb dX11_papers_104 rfl (lv_at hl 0 rfl) ?_
      refine lv_aload_n hx hb dX11_papers_105 rfl (lv_at hl 0 rfl) ?_
      refine fw_getr hx hb hts in_X11_papers_X11 hown hK hP gF11.1.1 gF11.1.2 rfl 4 (by decide) rfl (hts _ (List.mem_of_getElem? (i := 4) rfl)) rfl dX11_papers_106 ?_
      refine lv_iload_n hx hb dX11_papers_109 rfl (lv_at hl 1 rfl) ?_
      obtain ⟨h18, h⟩ := gg_s h
      refine fw_iald hx hb hK hP gF11.2.2.1.1 gF11.2.2.1.2 h18 dX11_papers_110 ?_
      obtain ⟨q19, hq19, h⟩ := gb_s h
      refine fw_vv (As := [.int (q17 2 x1.toNatClampNeg)]) (rest := []) ⟨hx, hb, hml, hown, hts⟩ (k_X11_writesNames l D cA ad tw hG q17 (q17 2 x1.toNatClampNeg) q19 hq19) (cwV 1 hts gX11_papers_X11_writesNames rfl rfl rfl hdV_X11_writesNames ⟨Nat.le_of_ble_eq_true rfl, Nat.le_of_ble_eq_true rfl⟩) (fw_preV gF11.1.1 gF11.1.2 rfl rfl hK hZ hP hS) rfl hl _ rfl (Nat.le_of_ble_eq_true rfl) hS dX11_papers_111 ⟨Nat.zero_le _, Nat.zero_le _⟩ (fun H locs hP hS => ?_)
      refine lv_iinc (v := x1 + (nI 1)) (lv' := [(1, .int (x1 + (nI 1))), (0, .ref (ad 0))]) hx hb dX11_papers_114 hl (k := 1) rfl rfl (by decide) rfl (fun ls hl => ?_)
      refine lv_goto (tgt := 7) hx hb dX11_papers_117 (by decide) ?_
      exact hK7 (x1 + (nI 1)) q19 _ _ ls h hP hS (lv_sub hl [1, 0] rfl)
    · replace h := gif_f h c14
      refine lv_aload_n hx hb dX11_papers_63 rfl (lv_at hl 0 rfl) ?_
      refine lv_bipush (v := (nI 48)) hx hb dX11_papers_64 (by decide) ?_
      refine lv_aload_n hx hb dX11_papers_66 rfl (lv_at hl 0 rfl) ?_
      refine fw_getr hx hb hts in_X11_papers_X11 hown hK hP gF11.1.1 gF11.1.2 rfl 3 (by decide) rfl (hts _ (List.mem_of_getElem? (i := 3) rfl)) rfl dX11_papers_67 ?_
      refine lv_iload_n hx hb dX11_papers_70 rfl (lv_at hl 1 rfl) ?_
      obtain ⟨h20, h⟩ := gg_s h
      refine fw_iald hx hb hK hP gF11.2.1.1 gF11.2.1.2 h20 dX11_papers_71 ?_
      refine lv_bipush (v := (nI 10)) hx hb dX11_papers_72 (by decide) ?_
      refine lv_idiv hx hb dX11_papers_74 (by decide) ?_
      refine lv_bipush (v := (nI 10)) hx hb dX11_papers_75 (by decide) ?_
      refine lv_irem hx hb dX11_papers_77 (by decide) ?_
      refine lv_iadd hx hb dX11_papers_78 ?_
      obtain ⟨q21, hq21, h⟩ := gb_s h
      refine fw_vv (As := [.int ((nI 48) + (((z 1 x1.toNatClampNeg) / (nI 10)) - ((z 1 x1.toNatClampNeg) / (nI 10)) / (nI 10) * (nI 10)))]) (rest := []) ⟨hx, hb, hml, hown, hts⟩ (k_X11_writes l D cA ad tw hG z ((nI 48) + (((z 1 x1.toNatClampNeg) / (nI 10)) - ((z 1 x1.toNatClampNeg) / (nI 10)) / (nI 10) * (nI 10))) q21 hq21) (cwV 1 hts gX11_papers_X11_writes rfl rfl rfl hdV_X11_writes ⟨Nat.le_of_ble_eq_true rfl, Nat.le_of_ble_eq_true rfl⟩) (fw_preV gF11.1.1 gF11.1.2 rfl rfl hK hZ hP hS) rfl hl _ rfl (Nat.le_of_ble_eq_true rfl) hS dX11_papers_79 ⟨Nat.zero_le _, Nat.zero_le _⟩ (fun H locs hP hS => ?_)
      refine lv_aload_n hx hb dX11_papers_82 rfl (lv_at hl 0 rfl) ?_
      refine lv_bipush (v := (nI 48)) hx hb dX11_papers_83 (by decide) ?_
      refine lv_aload_n hx hb dX11_papers_85 rfl (lv_at hl 0 rfl) ?_
      refine fw_getr hx hb hts in_X11_papers_X11 hown hK hP gF11.1.1 gF11.1.2 rfl 3 (by decide) rfl (hts _ (List.mem_of_getElem? (i := 3) rfl)) rfl dX11_papers_86 ?_
      refine lv_iload_n hx hb dX11_papers_89 rfl (lv_at hl 1 rfl) ?_
      obtain ⟨h22, h⟩ := gg_s h
      refine fw_iald hx hb hK hP gF11.2.1.1 gF11.2.1.2 h22 dX11_papers_90 ?_
      refine lv_bipush (v := (nI 10)) hx hb dX11_papers_91 (by decide) ?_
      refine lv_irem hx hb dX11_papers_93 (by decide) ?_
      refine lv_iadd hx hb dX11_papers_94 ?_
      obtain ⟨q23, hq23, h⟩ := gb_s h
      refine fw_vv (As := [.int ((nI 48) + ((q21 1 x1.toNatClampNeg) - (q21 1 x1.toNatClampNeg) / (nI 10) * (nI 10)))]) (rest := []) ⟨hx, hb, hml, hown, hts⟩ (k_X11_writes l D cA ad tw hG q21 ((nI 48) + ((q21 1 x1.toNatClampNeg) - (q21 1 x1.toNatClampNeg) / (nI 10) * (nI 10))) q23 hq23) (cwV 1 hts gX11_papers_X11_writes rfl rfl rfl hdV_X11_writes ⟨Nat.le_of_ble_eq_true rfl, Nat.le_of_ble_eq_true rfl⟩) (fw_preV gF11.1.1 gF11.1.2 rfl rfl hK hZ hP hS) rfl hl _ rfl (Nat.le_of_ble_eq_true rfl) hS dX11_papers_95 ⟨Nat.zero_le _, Nat.zero_le _⟩ (fun H locs hP hS => ?_)
      refine lv_aload_n hx hb dX11_papers_98 rfl (lv_at hl 0 rfl) ?_
      refine lv_bipush (v := (nI 58)) hx hb dX11_papers_99 (by decide) ?_
      obtain ⟨q24, hq24, h⟩ := gb_s h
      refine fw_vv (As := [.int (nI 58)]) (rest := []) ⟨hx, hb, hml, hown, hts⟩ (k_X11_writes l D cA ad tw hG q23 (nI 58) q24 hq24) (cwV 1 hts gX11_papers_X11_writes rfl rfl rfl hdV_X11_writes ⟨Nat.le_of_ble_eq_true rfl, Nat.le_of_ble_eq_true rfl⟩) (fw_preV gF11.1.1 gF11.1.2 rfl rfl hK hZ hP hS) rfl hl _ rfl (Nat.le_of_ble_eq_true rfl) hS dX11_papers_101 ⟨Nat.zero_le _, Nat.zero_le _⟩ (fun H locs hP hS => ?_)
      refine lv_aload_n hx hb dX11_papers_104 rfl (lv_at hl 0 rfl) ?_
      refine lv_aload_n hx hb dX11_papers_105 rfl (lv_at hl 0 rfl) ?_
      refine fw_getr hx hb hts in_X11_papers_X11 hown hK hP gF11.1.1 gF11.1.2 rfl 4 (by decide) rfl (hts _ (List.mem_of_getElem? (i := 4) rfl)) rfl dX11_papers_106 ?_
      refine lv_iload_n hx hb dX11_papers_109 rfl (lv_at hl 1 rfl) ?_
      obtain ⟨h25, h⟩ := gg_s h
      refine fw_iald hx hb hK hP gF11.2.2.1.1 gF11.2.2.1.2 h25 dX11_papers_110 ?_
      obtain ⟨q26, hq26, h⟩ := gb_s h
      refine fw_vv (As := [.int (q24 2 x1.toNatClampNeg)]) (rest := []) ⟨hx, hb, hml, hown, hts⟩ (k_X11_writesNames l D cA ad tw hG q24 (q24 2 x1.toNatClampNeg) q26 hq26) (cwV 1 hts gX11_papers_X11_writesNames rfl rfl rfl hdV_X11_writesNames ⟨Nat.le_of_ble_eq_true rfl, Nat.le_of_ble_eq_true rfl⟩) (fw_preV gF11.1.1 gF11.1.2 rfl rfl hK hZ hP hS) rfl hl _ rfl (Nat.le_of_ble_eq_true rfl) hS dX11_papers_111 ⟨Nat.zero_le _, Nat.zero_le _⟩ (fun H locs hP hS => ?_)
      refine lv_iinc (v := x1 + (nI 1)) (lv' := [(1, .int (x1 + (nI 1))), (0, .ref (ad 0))]) hx hb dX11_papers_114 hl (k := 1) rfl rfl (by decide) rfl (fun ls hl => ?_)
      refine lv_goto (tgt := 7) hx hb dX11_papers_117 (by decide) ?_
      exact hK7 (x1 + (nI 1)) q26 _ _ ls h hP hS (lv_sub hl [1, 0] rfl)
  have j7 : ∀  (n : Nat) (x1 : Int32) (z : gS) (H : Heap) (locs : List Loc) (ls : Array Slot), f_X11_papers_7  n x1 z = some res → va_P D vwCl (gw cA ad shM 22 z) H → va_S (gA ad 22) s.heap H locs → lv_has ls 2 [(0, .ref (ad 0)), (1, .int x1)] → W p l e (headSpec wsX11_papers (gRm 4 90)).room s m ([.ref (ad 0)] : List Value).toArray below meth c H locs 0 0 (MQ below (va_Qv (fun u => u = res) (gPr D cA ad tw shM 22) (gA ad 22)) ([.ref (ad 0)] : List Value).toArray s 0 0 (gA ad 22)) (F0 m 7 ls []) := by
    intro n
    induction n with
    | zero => intro x1 z H locs ls h; exact (gno h).elim
    | succ n hK7 =>
      intro x1 z H locs ls h hP hS hl
      replace h : f_X11_papers_7_b  (f_X11_papers_7  n) x1 z = some res := h
      unfold f_X11_papers_7_b at h
      refine lv_iload_n hx hb dX11_papers_7 rfl (lv_at hl 1 rfl) ?_
      refine lv_aload_n hx hb dX11_papers_8 rfl (lv_at hl 0 rfl) ?_
      refine fw_geti hx hb hts in_X11_papers_X11 hown hK hP gF11.1.1 gF11.1.2 rfl 1 (by decide) rfl (hts _ (List.mem_of_getElem? (i := 2) rfl)) rfl dX11_papers_9 ?_
      refine lv_icmp_ge (tgt := 120) hx hb dX11_papers_12 (by decide) (fun c2 => ?_) (fun c2 => ?_)
      · replace h := gif_t h c2
        exact fw_vret hx hb hr hlocks (Option.some.inj h) hK hZ hP hS dX11_papers_120
      · replace h := gif_f h c2
        refine lv_iload_n hx hb dX11_papers_15 rfl (lv_at hl 1 rfl) ?_
        refine lv_if_le (tgt := 25) hx hb dX11_papers_16 (by decide) (fun c3 => ?_) (fun c3 => ?_)
        · replace h := gif_t h c3
          refine lv_aload_n hx hb dX11_papers_25 rfl (lv_at hl 0 rfl) ?_
          refine fw_getr hx hb hts in_X11_papers_X11 hown hK hP gF11.1.1 gF11.1.2 rfl 3 (by decide) rfl (hts _ (List.mem_of_getElem? (i := 3) rfl)) rfl dX11_papers_26 ?_
          refine lv_iload_n hx hb dX11_papers_29 rfl (lv_at hl 1 rfl) ?_
          obtain ⟨h4, h⟩ := gg_s h
          refine fw_iald hx hb hK hP gF11.2.1.1 gF11.2.1.2 h4 dX11_papers_30 ?_
          refine lv_bipush (v := (nI 99)) hx hb dX11_papers_31 (by decide) ?_
          refine lv_icmp_le (tgt := 52) hx hb dX11_papers_33 (by decide) (fun c5 => ?_) (fun c5 => ?_)
          · replace h := gif_t h c5
            exact j52 x1 _ hK7 z _ _ ls h hP hS (lv_sub hl [0, 1] rfl)
          · replace h := gif_f h c5
            refine lv_aload_n hx hb dX11_papers_36 rfl (lv_at hl 0 rfl) ?_
            refine lv_bipush (v := (nI 48)) hx hb dX11_papers_37 (by decide) ?_
            refine lv_aload_n hx hb dX11_papers_39 rfl (lv_at hl 0 rfl) ?_
            refine fw_getr hx hb hts in_X11_papers_X11 hown hK hP gF11.1.1 gF11.1.2 rfl 3 (by decide) rfl (hts _ (List.mem_of_getElem? (i := 3) rfl)) rfl dX11_papers_40 ?_
            refine lv_iload_n hx hb dX11_papers_43 rfl (lv_at hl 1 rfl) ?_
            obtain ⟨h6, h⟩ := gg_s h
            refine fw_iald hx hb hK hP gF11.2.1.1 gF11.2.1.2 h6 dX11_papers_44 ?_
            refine lv_bipush (v := (nI 100)) hx hb dX11_papers_45 (by decide) ?_
            refine lv_idiv hx hb dX11_papers_47 (by decide) ?_
            refine lv_iadd hx hb dX11_papers_48 ?_
            obtain ⟨q7, hq7, h⟩ := gb_s h
            refine fw_vv (As := [.int ((nI 48) + ((z 1 x1.toNatClampNeg) / (nI 100)))]) (rest := []) ⟨hx, hb, hml, hown, hts⟩ (k_X11_writes l D cA ad tw hG z ((nI 48) + ((z 1 x1.toNatClampNeg) / (nI 100))) q7 hq7) (cwV 1 hts gX11_papers_X11_writes rfl rfl rfl hdV_X11_writes ⟨Nat.le_of_ble_eq_true rfl, Nat.le_of_ble_eq_true rfl⟩) (fw_preV gF11.1.1 gF11.1.2 rfl rfl hK hZ hP hS) rfl hl _ rfl (Nat.le_of_ble_eq_true rfl) hS dX11_papers_49 ⟨Nat.zero_le _, Nat.zero_le _⟩ (fun H locs hP hS => ?_)
            exact j52 x1 _ hK7 q7 _ _ ls h hP hS (lv_sub hl [0, 1] rfl)
        · replace h := gif_f h c3
          refine lv_aload_n hx hb dX11_papers_19 rfl (lv_at hl 0 rfl) ?_
          refine lv_bipush (v := (nI 59)) hx hb dX11_papers_20 (by decide) ?_
          obtain ⟨q8, hq8, h⟩ := gb_s h
          refine fw_vv (As := [.int (nI 59)]) (rest := []) ⟨hx, hb, hml, hown, hts⟩ (k_X11_writes l D cA ad tw hG z (nI 59) q8 hq8) (cwV 1 hts gX11_papers_X11_writes rfl rfl rfl hdV_X11_writes ⟨Nat.le_of_ble_eq_true rfl, Nat.le_of_ble_eq_true rfl⟩) (fw_preV gF11.1.1 gF11.1.2 rfl rfl hK hZ hP hS) rfl hl _ rfl (Nat.le_of_ble_eq_true rfl) hS dX11_papers_22 ⟨Nat.zero_le _, Nat.zero_le _⟩ (fun H locs hP hS => ?_)
          refine lv_aload_n hx hb dX11_papers_25 rfl (lv_at hl 0 rfl) ?_
          refine fw_getr hx hb hts in_X11_papers_X11 hown hK hP gF11.1.1 gF11.1.2 rfl 3 (by decide) rfl (hts _ (List.mem_of_getElem? (i := 3) rfl)) rfl dX11_papers_26 ?_
          refine lv_iload_n hx hb dX11_papers_29 rfl (lv_at hl 1 rfl) ?_
          obtain ⟨h9, h⟩ := gg_s h
          refine fw_iald hx hb hK hP gF11.2.1.1 gF11.2.1.2 h9 dX11_papers_30 ?_
          refine lv_bipush (v := (nI 99)) hx hb dX11_papers_31 (by decide) ?_
          refine lv_icmp_le (tgt := 52) hx hb dX11_papers_33 (by decide) (fun c10 => ?_) (fun c10 => ?_)
          · replace h := gif_t h c10
            exact j52 x1 _ hK7 q8 _ _ ls h hP hS (lv_sub hl [0, 1] rfl)
          · replace h := gif_f h c10
            refine lv_aload_n hx hb dX11_papers_36 rfl (lv_at hl 0 rfl) ?_
            refine lv_bipush (v := (nI 48)) hx hb dX11_papers_37 (by decide) ?_
            refine lv_aload_n hx hb dX11_papers_39 rfl (lv_at hl 0 rfl) ?_
            refine fw_getr hx hb hts in_X11_papers_X11 hown hK hP gF11.1.1 gF11.1.2 rfl 3 (by decide) rfl (hts _ (List.mem_of_getElem? (i := 3) rfl)) rfl dX11_papers_40 ?_
            refine lv_iload_n hx hb dX11_papers_43 rfl (lv_at hl 1 rfl) ?_
            obtain ⟨h11, h⟩ := gg_s h
            refine fw_iald hx hb hK hP gF11.2.1.1 gF11.2.1.2 h11 dX11_papers_44 ?_
            refine lv_bipush (v := (nI 100)) hx hb dX11_papers_45 (by decide) ?_
            refine lv_idiv hx hb dX11_papers_47 (by decide) ?_
            refine lv_iadd hx hb dX11_papers_48 ?_
            obtain ⟨q12, hq12, h⟩ := gb_s h
            refine fw_vv (As := [.int ((nI 48) + ((q8 1 x1.toNatClampNeg) / (nI 100)))]) (rest := []) ⟨hx, hb, hml, hown, hts⟩ (k_X11_writes l D cA ad tw hG q8 ((nI 48) + ((q8 1 x1.toNatClampNeg) / (nI 100))) q12 hq12) (cwV 1 hts gX11_papers_X11_writes rfl rfl rfl hdV_X11_writes ⟨Nat.le_of_ble_eq_true rfl, Nat.le_of_ble_eq_true rfl⟩) (fw_preV gF11.1.1 gF11.1.2 rfl rfl hK hZ hP hS) rfl hl _ rfl (Nat.le_of_ble_eq_true rfl) hS dX11_papers_49 ⟨Nat.zero_le _, Nat.zero_le _⟩ (fun H locs hP hS => ?_)
            exact j52 x1 _ hK7 q12 _ _ ls h hP hS (lv_sub hl [0, 1] rfl)
  unfold f_X11_papers at h
  refine lv_aload_n hx hb dX11_papers_0 rfl (lv_at hl 0 rfl) ?_
  refine lv_iconst (v := (nI 0)) hx hb dX11_papers_1 (by decide) ?_
  refine fw_put hx hb hts in_X11_papers_X11 tyX11_ok nmX11 hown hK hG hP hS gF11.1.1 gF11.1.2 rfl 26 (by decide) rfl (hts _ (List.mem_of_getElem? (i := 1) rfl)) rfl rfl (ty := .int) rfl rfl rfl dX11_papers_2 (fun z1 H locs ez1 hP hS => ?_)
  replace h := gl_s h ez1
  refine lv_iconst (v := (nI 0)) hx hb dX11_papers_5 (by decide) ?_
  refine lv_istore_n (lv' := [(1, .int (nI 0)), (0, .ref (ad 0))]) hx hb dX11_papers_6 rfl hl (by decide) rfl (fun ls hl => ?_)
  exact j7  gF (nI 0) z1 _ _ ls h hP hS (lv_sub hl [1, 0] rfl)
theorem in_X11_spell_X11 : ∀ w ∈ wsX110, w ∈ wsX11_spell := fun w h => List.mem_cons_of_mem _ (List.mem_append_right _ (h))
theorem hdV_X11_spell : yX11_spell.cls = RX11 ∧ yX11_spell.cls ≠ "java/lang/invoke/MethodHandle" ∧ yX11_spell.cls ≠ "java/lang/invoke/VarHandle" ∧ (parseMethodDescriptor yX11_spell.desc).map (fun d => d.parameters.length) = some 0 := by decide +kernel
set_option maxHeartbeats 4000000 in
set_option maxRecDepth 100000 in
theorem k_X11_spell (l : Launch) (D : va_G) (cA : Nat → ClassId) (ad : Nat → Nat) (tw : Nat) (hG : gOk ad 22) (z : gS)  (res : Int32 × gS) (h : f_X11_spell  z = some res) : gMi l yX11_spell wsX11_spell (gRm 5 111) D cA ad tw shM 22 [.ref (ad 0)] z res := by
  refine Met.ofW (cc := cX11_spell) (maxL := 1) (ret := (some .int)) (by decide) rfl ?_
  intro p e s m args below meth c s₁ B hml hv
  obtain ⟨rfl, hP, hK, hZ⟩ := hv
  have hx := B.exec
  have hb := B.bytes
  have hr := B.returns
  have hts := atoms_spec (ws := wsX11_spell) B.pre
  have hown : s.vm.findClass RX11 = some m.cls := findClass_of_methodNamed B.named
  have hlocks := B.notSynchronized
  have hS : va_S (gA ad 22) s.heap s.heap [] := va_S.rf
  have hl := lv_entry ([.ref (ad 0)]) (n := 1) (Nat.le_of_ble_eq_true rfl)
  rw [lg_entry_eq]
  generalize (lg_sl ([.ref (ad 0)]) ++ List.replicate (1 - (lg_sl ([.ref (ad 0)])).length) Slot.unset).toArray = ls at hl ⊢
  have hl : lv_has ls 1 [(0, .ref (ad 0))] := hl
  unfold f_X11_spell at h
  refine lv_aload_n hx hb dX11_spell_0 rfl (lv_at hl 0 rfl) ?_
  obtain ⟨q1, hq1, h⟩ := gb_s h
  refine fw_vv (As := []) (rest := []) ⟨hx, hb, hml, hown, hts⟩ (k_X11_papers l D cA ad tw hG z  q1 hq1) (cwV 0 hts gX11_spell_X11_papers rfl rfl rfl hdV_X11_papers ⟨Nat.le_of_ble_eq_true rfl, Nat.le_of_ble_eq_true rfl⟩) (fw_preV gF11.1.1 gF11.1.2 rfl rfl hK hZ hP hS) rfl hl _ rfl (Nat.le_of_ble_eq_true rfl) hS dX11_spell_1 ⟨Nat.zero_le _, Nat.zero_le _⟩ (fun H locs hP hS => ?_)
  refine lv_aload_n hx hb dX11_spell_4 rfl (lv_at hl 0 rfl) ?_
  refine fw_geti hx hb hts in_X11_spell_X11 hown hK hP gF11.1.1 gF11.1.2 rfl 26 (by decide) rfl (hts _ (List.mem_of_getElem? (i := 1) rfl)) rfl dX11_spell_5 ?_
  exact fw_ireti hx hb hr hlocks (Option.some.inj h) hK hZ hP hS dX11_spell_8
theorem in_X11_paper_X11 : ∀ w ∈ wsX110, w ∈ wsX11_paper := fun w h => List.mem_cons_of_mem _ (List.mem_append_right _ (h))
theorem hdV_X11_paper : yX11_paper.cls = RX11 ∧ yX11_paper.cls ≠ "java/lang/invoke/MethodHandle" ∧ yX11_paper.cls ≠ "java/lang/invoke/VarHandle" ∧ (parseMethodDescriptor yX11_paper.desc).map (fun d => d.parameters.length) = some 1 := by decide +kernel
set_option maxHeartbeats 4000000 in
set_option maxRecDepth 100000 in
theorem k_X11_paper (l : Launch) (D : va_G) (cA : Nat → ClassId) (ad : Nat → Nat) (tw : Nat) (hG : gOk ad 22) (z : gS) (a1 : Int32) (res : Int32 × gS) (h : f_X11_paper a1 z = some res) : gMi l yX11_paper wsX11_paper (gRm 5 111) D cA ad tw shM 22 [.ref (ad 0), .int a1] z res := by
  refine Met.ofW (cc := cX11_paper) (maxL := 2) (ret := (some .int)) (by decide) rfl ?_
  intro p e s m args below meth c s₁ B hml hv
  obtain ⟨rfl, hP, hK, hZ⟩ := hv
  have hx := B.exec
  have hb := B.bytes
  have hr := B.returns
  have hts := atoms_spec (ws := wsX11_paper) B.pre
  have hown : s.vm.findClass RX11 = some m.cls := findClass_of_methodNamed B.named
  have hlocks := B.notSynchronized
  have hS : va_S (gA ad 22) s.heap s.heap [] := va_S.rf
  have hl := lv_entry ([.ref (ad 0), .int a1]) (n := 2) (Nat.le_of_ble_eq_true rfl)
  rw [lg_entry_eq]
  generalize (lg_sl ([.ref (ad 0), .int a1]) ++ List.replicate (2 - (lg_sl ([.ref (ad 0), .int a1])).length) Slot.unset).toArray = ls at hl ⊢
  have hl : lv_has ls 2 [(0, .ref (ad 0)), (1, .int a1)] := hl
  unfold f_X11_paper at h
  refine lv_aload_n hx hb dX11_paper_0 rfl (lv_at hl 0 rfl) ?_
  obtain ⟨q1, hq1, h⟩ := gb_s h
  refine fw_vv (As := []) (rest := []) ⟨hx, hb, hml, hown, hts⟩ (k_X11_papers l D cA ad tw hG z  q1 hq1) (cwV 0 hts gX11_paper_X11_papers rfl rfl rfl hdV_X11_papers ⟨Nat.le_of_ble_eq_true rfl, Nat.le_of_ble_eq_true rfl⟩) (fw_preV gF11.1.1 gF11.1.2 rfl rfl hK hZ hP hS) rfl hl _ rfl (Nat.le_of_ble_eq_true rfl) hS dX11_paper_1 ⟨Nat.zero_le _, Nat.zero_le _⟩ (fun H locs hP hS => ?_)
  refine lv_iload_n hx hb dX11_paper_4 rfl (lv_at hl 1 rfl) ?_
  refine lv_iconst (v := (nI 0)) hx hb dX11_paper_5 (by decide) ?_
  refine lv_aload_n hx hb dX11_paper_6 rfl (lv_at hl 0 rfl) ?_
  refine fw_geti hx hb hts in_X11_paper_X11 hown hK hP gF11.1.1 gF11.1.2 rfl 26 (by decide) rfl (hts _ (List.mem_of_getElem? (i := 1) rfl)) rfl dX11_paper_7 ?_
  refine lv_iconst (v := (nI 1)) hx hb dX11_paper_10 (by decide) ?_
  refine lv_isub hx hb dX11_paper_11 ?_
  obtain ⟨q2, hq2, h⟩ := gb_s h
  refine fw_siR (As := [.int a1, .int (nI 0), .int ((q1 0 26) - (nI 1))]) (rest := []) ⟨hx, hb, hml, hown, hts⟩ (k_X11_in l D cA ad tw hG q1 a1 (nI 0) ((q1 0 26) - (nI 1)) q2 hq2) (va_cwS 3 hts gX11_paper_X11_in rfl rfl rfl hdS_X11_in ⟨Nat.le_of_ble_eq_true rfl, Nat.le_of_ble_eq_true rfl⟩) hK hZ hP rfl hl _ rfl (Nat.le_of_ble_eq_true rfl) hS dX11_paper_12 ⟨Nat.zero_le _, Nat.zero_le _⟩ (fun H locs hP hS => ?_)
  refine lv_if_eq (tgt := 27) hx hb dX11_paper_15 (by decide) (fun c3 => ?_) (fun c3 => ?_)
  · replace h := gif_t h c3
    refine lv_iconst (v := gm1) hx hb dX11_paper_27 (by decide) ?_
    exact fw_ireti hx hb hr hlocks (Option.some.inj h) hK hZ hP hS dX11_paper_28
  · replace h := gif_f h c3
    refine lv_aload_n hx hb dX11_paper_18 rfl (lv_at hl 0 rfl) ?_
    refine fw_getr hx hb hts in_X11_paper_X11 hown hK hP gF11.1.1 gF11.1.2 rfl 25 (by decide) rfl (hts _ (List.mem_of_getElem? (i := 2) rfl)) rfl dX11_paper_19 ?_
    refine lv_iload_n hx hb dX11_paper_22 rfl (lv_at hl 1 rfl) ?_
    obtain ⟨h4, h⟩ := gg_s h
    refine fw_iald hx hb hK hP gF11.2.2.2.2.2.2.2.2.2.2.2.2.1.1 gF11.2.2.2.2.2.2.2.2.2.2.2.2.1.2 h4 dX11_paper_23 ?_
    refine lv_goto (tgt := 28) hx hb dX11_paper_24 (by decide) ?_
    exact fw_ireti hx hb hr hlocks (Option.some.inj h) hK hZ hP hS dX11_paper_28
theorem hdS_X11_isTray : yX11_isTray.cls ≠ "java/lang/invoke/MethodHandle" ∧ yX11_isTray.cls ≠ "java/lang/invoke/VarHandle" ∧ (parseMethodDescriptor yX11_isTray.desc).map (fun d => d.parameters.length) = some 1 := by decide +kernel
set_option maxHeartbeats 4000000 in
set_option maxRecDepth 100000 in
theorem k_X11_isTray (l : Launch) (D : va_G) (cA : Nat → ClassId) (ad : Nat → Nat) (tw : Nat) (hG : gOk ad 22) (z : gS) (a0 : Int32) (res : Int32) (h : f_X11_isTray a0 z = some res) : gMi l yX11_isTray wsX11_isTray (gRm 1 22) D cA ad tw shM 22 [.int a0] z (res, z) := by
  refine Met.ofW (cc := cX11_isTray) (maxL := 1) (ret := (some .boolean)) (by decide) rfl ?_
  intro p e s m args below meth c s₁ B hml hv
  obtain ⟨rfl, hP, hK, hZ⟩ := hv
  have hx := B.exec
  have hb := B.bytes
  have hr := B.returns
  have hts := atoms_spec (ws := wsX11_isTray) B.pre
  have hown : s.vm.findClass RX11 = some m.cls := findClass_of_methodNamed B.named
  have hlocks := B.notSynchronized
  have hS : va_S (gA ad 22) s.heap s.heap [] := va_S.rf
  have hl := lv_entry ([.int a0]) (n := 1) (Nat.le_of_ble_eq_true rfl)
  rw [lg_entry_eq]
  generalize (lg_sl ([.int a0]) ++ List.replicate (1 - (lg_sl ([.int a0])).length) Slot.unset).toArray = ls at hl ⊢
  have hl : lv_has ls 1 [(0, .int a0)] := hl
  unfold f_X11_isTray at h
  refine lv_iload_n hx hb dX11_isTray_0 rfl (lv_at hl 0 rfl) ?_
  refine lv_iconst (v := (nI 0)) hx hb dX11_isTray_1 (by decide) ?_
  refine lv_iconst (v := (nI 3)) hx hb dX11_isTray_2 (by decide) ?_
  obtain ⟨q1, hq1, h⟩ := gb_s h
  refine fw_siR (As := [.int a0, .int (nI 0), .int (nI 3)]) (rest := []) ⟨hx, hb, hml, hown, hts⟩ (k_X11_in l D cA ad tw hG z a0 (nI 0) (nI 3) q1 hq1) (va_cwS 3 hts gX11_isTray_X11_in rfl rfl rfl hdS_X11_in ⟨Nat.le_of_ble_eq_true rfl, Nat.le_of_ble_eq_true rfl⟩) hK hZ hP rfl hl _ rfl (Nat.le_of_ble_eq_true rfl) hS dX11_isTray_3 ⟨Nat.zero_le _, Nat.zero_le _⟩ (fun H locs hP hS => ?_)
  obtain ⟨h2, h⟩ := gz_s h
  exact fw_iretz hx hb hr hlocks h2 (congrArg (fun q => (q, z)) (Option.some.inj h)) hK hZ hP hS dX11_isTray_6
theorem in_X11_tray_X11 : ∀ w ∈ wsX110, w ∈ wsX11_tray := fun w h => List.mem_cons_of_mem _ (List.mem_append_right _ (h))
theorem hdV_X11_tray : yX11_tray.cls = RX11 ∧ yX11_tray.cls ≠ "java/lang/invoke/MethodHandle" ∧ yX11_tray.cls ≠ "java/lang/invoke/VarHandle" ∧ (parseMethodDescriptor yX11_tray.desc).map (fun d => d.parameters.length) = some 2 := by decide +kernel
set_option maxHeartbeats 4000000 in
set_option maxRecDepth 100000 in
theorem k_X11_tray (l : Launch) (D : va_G) (cA : Nat → ClassId) (ad : Nat → Nat) (tw : Nat) (hG : gOk ad 22) (z : gS) (a1 : Int32) (a2 : Int32) (res : Int32 × gS) (h : f_X11_tray a1 a2 z = some res) : gMi l yX11_tray wsX11_tray (gRm 2 42) D cA ad tw shM 22 [.ref (ad 0), .int a1, .int a2] z res := by
  refine Met.ofW (cc := cX11_tray) (maxL := 3) (ret := (some .int)) (by decide) rfl ?_
  intro p e s m args below meth c s₁ B hml hv
  obtain ⟨rfl, hP, hK, hZ⟩ := hv
  have hx := B.exec
  have hb := B.bytes
  have hr := B.returns
  have hts := atoms_spec (ws := wsX11_tray) B.pre
  have hown : s.vm.findClass RX11 = some m.cls := findClass_of_methodNamed B.named
  have hlocks := B.notSynchronized
  have hS : va_S (gA ad 22) s.heap s.heap [] := va_S.rf
  have hl := lv_entry ([.ref (ad 0), .int a1, .int a2]) (n := 3) (Nat.le_of_ble_eq_true rfl)
  rw [lg_entry_eq]
  generalize (lg_sl ([.ref (ad 0), .int a1, .int a2]) ++ List.replicate (3 - (lg_sl ([.ref (ad 0), .int a1, .int a2])).length) Slot.unset).toArray = ls at hl ⊢
  have hl : lv_has ls 3 [(0, .ref (ad 0)), (1, .int a1), (2, .int a2)] := hl
  unfold f_X11_tray at h
  refine lv_iload_n hx hb dX11_tray_0 rfl (lv_at hl 1 rfl) ?_
  obtain ⟨q1, hq1, h⟩ := gb_s h
  refine fw_siR (As := [.int a1]) (rest := []) ⟨hx, hb, hml, hown, hts⟩ (k_X11_isTray l D cA ad tw hG z a1 q1 hq1) (va_cwS 1 hts gX11_tray_X11_isTray rfl rfl rfl hdS_X11_isTray ⟨Nat.le_of_ble_eq_true rfl, Nat.le_of_ble_eq_true rfl⟩) hK hZ hP rfl hl _ rfl (Nat.le_of_ble_eq_true rfl) hS dX11_tray_1 ⟨Nat.zero_le _, Nat.zero_le _⟩ (fun H locs hP hS => ?_)
  refine lv_if_ne (tgt := 9) hx hb dX11_tray_4 (by decide) (fun c2 => ?_) (fun c2 => ?_)
  · replace h := gif_f h c2
    refine lv_iload_n hx hb dX11_tray_9 rfl (lv_at hl 2 rfl) ?_
    refine lv_iconst (v := (nI 0)) hx hb dX11_tray_10 (by decide) ?_
    refine lv_iconst (v := (nI 1)) hx hb dX11_tray_11 (by decide) ?_
    obtain ⟨q3, hq3, h⟩ := gb_s h
    refine fw_siR (As := [.int a2, .int (nI 0), .int (nI 1)]) (rest := []) ⟨hx, hb, hml, hown, hts⟩ (k_X11_in l D cA ad tw hG z a2 (nI 0) (nI 1) q3 hq3) (va_cwS 3 hts gX11_tray_X11_in rfl rfl rfl hdS_X11_in ⟨Nat.le_of_ble_eq_true rfl, Nat.le_of_ble_eq_true rfl⟩) hK hZ hP rfl hl _ rfl (Nat.le_of_ble_eq_true rfl) hS dX11_tray_12 ⟨Nat.zero_le _, Nat.zero_le _⟩ (fun H locs hP hS => ?_)
    refine lv_if_ne (tgt := 21) hx hb dX11_tray_15 (by decide) (fun c4 => ?_) (fun c4 => ?_)
    · replace h := gif_f h c4
      refine lv_aload_n hx hb dX11_tray_21 rfl (lv_at hl 0 rfl) ?_
      refine fw_getr hx hb hts in_X11_tray_X11 hown hK hP gF11.1.1 gF11.1.2 rfl 27 (by decide) rfl (hts _ (List.mem_of_getElem? (i := 1) rfl)) rfl dX11_tray_22 ?_
      refine lv_iload_n hx hb dX11_tray_25 rfl (lv_at hl 1 rfl) ?_
      refine lv_iload_n hx hb dX11_tray_26 rfl (lv_at hl 2 rfl) ?_
      refine lv_iconst (v := (nI 1)) hx hb dX11_tray_27 (by decide) ?_
      refine lv_icmp_ne (tgt := 35) hx hb dX11_tray_28 (by decide) (fun c5 => ?_) (fun c5 => ?_)
      · replace h := gif_f h c5
        refine lv_iconst (v := (nI 0)) hx hb dX11_tray_35 (by decide) ?_
        obtain ⟨h6, h⟩ := gg_s h
        refine fw_zast hx hb hK hG hP hS gF11.2.2.2.2.2.2.2.2.2.2.2.2.2.1.1 gF11.2.2.2.2.2.2.2.2.2.2.2.2.2.1.2 (by decide) h6 dX11_tray_36 (fun z7 H locs ez7 hP hS => ?_)
        replace h := gl_s h ez7
        refine lv_aload_n hx hb dX11_tray_37 rfl (lv_at hl 0 rfl) ?_
        refine fw_getr hx hb hts in_X11_tray_X11 hown hK hP gF11.1.1 gF11.1.2 rfl 28 (by decide) rfl (hts _ (List.mem_of_getElem? (i := 2) rfl)) rfl dX11_tray_38 ?_
        refine lv_iload_n hx hb dX11_tray_41 rfl (lv_at hl 1 rfl) ?_
        refine lv_iconst (v := (nI 0)) hx hb dX11_tray_42 (by decide) ?_
        obtain ⟨h8, h⟩ := gg_s h
        refine fw_iast hx hb hK hG hP hS gF11.2.2.2.2.2.2.2.2.2.2.2.2.2.2.1.1 gF11.2.2.2.2.2.2.2.2.2.2.2.2.2.2.1.2 h8 dX11_tray_43 (fun z9 H locs ez9 hP hS => ?_)
        replace h := gl_s h ez9
        refine lv_iconst (v := (nI 1)) hx hb dX11_tray_44 (by decide) ?_
        exact fw_ireti hx hb hr hlocks (Option.some.inj h) hK hZ hP hS dX11_tray_45
      · replace h := gif_t h c5
        refine lv_iconst (v := (nI 1)) hx hb dX11_tray_31 (by decide) ?_
        refine lv_goto (tgt := 36) hx hb dX11_tray_32 (by decide) ?_
        obtain ⟨h10, h⟩ := gg_s h
        refine fw_zast hx hb hK hG hP hS gF11.2.2.2.2.2.2.2.2.2.2.2.2.2.1.1 gF11.2.2.2.2.2.2.2.2.2.2.2.2.2.1.2 (by decide) h10 dX11_tray_36 (fun z11 H locs ez11 hP hS => ?_)
        replace h := gl_s h ez11
        refine lv_aload_n hx hb dX11_tray_37 rfl (lv_at hl 0 rfl) ?_
        refine fw_getr hx hb hts in_X11_tray_X11 hown hK hP gF11.1.1 gF11.1.2 rfl 28 (by decide) rfl (hts _ (List.mem_of_getElem? (i := 2) rfl)) rfl dX11_tray_38 ?_
        refine lv_iload_n hx hb dX11_tray_41 rfl (lv_at hl 1 rfl) ?_
        refine lv_iconst (v := (nI 0)) hx hb dX11_tray_42 (by decide) ?_
        obtain ⟨h12, h⟩ := gg_s h
        refine fw_iast hx hb hK hG hP hS gF11.2.2.2.2.2.2.2.2.2.2.2.2.2.2.1.1 gF11.2.2.2.2.2.2.2.2.2.2.2.2.2.2.1.2 h12 dX11_tray_43 (fun z13 H locs ez13 hP hS => ?_)
        replace h := gl_s h ez13
        refine lv_iconst (v := (nI 1)) hx hb dX11_tray_44 (by decide) ?_
        exact fw_ireti hx hb hr hlocks (Option.some.inj h) hK hZ hP hS dX11_tray_45
    · replace h := gif_t h c4
      refine lv_bipush (v := (-2)) hx hb dX11_tray_18 (by decide) ?_
      exact fw_ireti hx hb hr hlocks (Option.some.inj h) hK hZ hP hS dX11_tray_20
  · replace h := gif_t h c2
    refine lv_iconst (v := gm1) hx hb dX11_tray_7 (by decide) ?_
    exact fw_ireti hx hb hr hlocks (Option.some.inj h) hK hZ hP hS dX11_tray_8
theorem in_X11_placeIn_X11 : ∀ w ∈ wsX110, w ∈ wsX11_placeIn := fun w h => List.mem_cons_of_mem _ (List.mem_append_right _ (h))
theorem hdV_X11_placeIn : yX11_placeIn.cls = RX11 ∧ yX11_placeIn.cls ≠ "java/lang/invoke/MethodHandle" ∧ yX11_placeIn.cls ≠ "java/lang/invoke/VarHandle" ∧ (parseMethodDescriptor yX11_placeIn.desc).map (fun d => d.parameters.length) = some 2 := by decide +kernel
set_option maxHeartbeats 4000000 in
set_option maxRecDepth 100000 in
theorem k_X11_placeIn (l : Launch) (D : va_G) (cA : Nat → ClassId) (ad : Nat → Nat) (tw : Nat) (hG : gOk ad 22) (z : gS) (a1 : Int32) (a2 : Int32) (res : Int32) (h : f_X11_placeIn a1 a2 z = some res) : gMi l yX11_placeIn wsX11_placeIn (gRm 0 0) D cA ad tw shM 22 [.ref (ad 0), .int a1, .int a2] z (res, z) := by
  refine Met.ofW (cc := cX11_placeIn) (maxL := 4) (ret := (some .int)) (by decide) rfl ?_
  intro p e s m args below meth c s₁ B hml hv
  obtain ⟨rfl, hP, hK, hZ⟩ := hv
  have hx := B.exec
  have hb := B.bytes
  have hr := B.returns
  have hts := atoms_spec (ws := wsX11_placeIn) B.pre
  have hown : s.vm.findClass RX11 = some m.cls := findClass_of_methodNamed B.named
  have hlocks := B.notSynchronized
  have hS : va_S (gA ad 22) s.heap s.heap [] := va_S.rf
  have hl := lv_entry ([.ref (ad 0), .int a1, .int a2]) (n := 4) (Nat.le_of_ble_eq_true rfl)
  rw [lg_entry_eq]
  generalize (lg_sl ([.ref (ad 0), .int a1, .int a2]) ++ List.replicate (4 - (lg_sl ([.ref (ad 0), .int a1, .int a2])).length) Slot.unset).toArray = ls at hl ⊢
  have hl : lv_has ls 4 [(0, .ref (ad 0)), (1, .int a1), (2, .int a2)] := hl
  have j6 : ∀ (x1 : Int32) (x2 : Int32) (n : Nat) (x3 : Int32) (H : Heap) (locs : List Loc) (ls : Array Slot), f_X11_placeIn_6 z x1 x2 n x3 = some res → va_P D vwCl (gw cA ad shM 22 z) H → va_S (gA ad 22) s.heap H locs → lv_has ls 4 [(0, .ref (ad 0)), (1, .int x1), (2, .int x2), (3, .int x3)] → W p l e (headSpec wsX11_placeIn (gRm 0 0)).room s m ([.ref (ad 0), .int a1, .int a2] : List Value).toArray below meth c H locs 0 0 (MQ below (va_Qi (fun r u => (r, u) = (res, z)) (gPr D cA ad tw shM 22) (gA ad 22)) ([.ref (ad 0), .int a1, .int a2] : List Value).toArray s 0 0 (gA ad 22)) (F0 m 6 ls []) := by
    intro x1 x2 n
    induction n with
    | zero => intro x3 H locs ls h; exact (gno h).elim
    | succ n hK6 =>
      intro x3 H locs ls h hP hS hl
      replace h : f_X11_placeIn_6_b z x1 x2 (f_X11_placeIn_6 z x1 x2 n) x3 = some res := h
      unfold f_X11_placeIn_6_b at h
      refine lv_iload_n hx hb dX11_placeIn_6 rfl (lv_at hl 3 rfl) ?_
      refine lv_sipush (v := (nI 300)) hx hb dX11_placeIn_7 (by decide) ?_
      refine lv_iload_n hx hb dX11_placeIn_10 rfl (lv_at hl 1 rfl) ?_
      refine lv_imul hx hb dX11_placeIn_11 ?_
      refine lv_aload_n hx hb dX11_placeIn_12 rfl (lv_at hl 0 rfl) ?_
      refine fw_getr hx hb hts in_X11_placeIn_X11 hown hK hP gF11.1.1 gF11.1.2 rfl 28 (by decide) rfl (hts _ (List.mem_of_getElem? (i := 1) rfl)) rfl dX11_placeIn_13 ?_
      refine lv_iload_n hx hb dX11_placeIn_16 rfl (lv_at hl 1 rfl) ?_
      obtain ⟨h2, h⟩ := gg_s h
      refine fw_iald hx hb hK hP gF11.2.2.2.2.2.2.2.2.2.2.2.2.2.2.1.1 gF11.2.2.2.2.2.2.2.2.2.2.2.2.2.2.1.2 h2 dX11_placeIn_17 ?_
      refine lv_iadd hx hb dX11_placeIn_18 ?_
      refine lv_icmp_ge (tgt := 40) hx hb dX11_placeIn_19 (by decide) (fun c3 => ?_) (fun c3 => ?_)
      · replace h := gif_t h c3
        refine lv_iconst (v := gm1) hx hb dX11_placeIn_40 (by decide) ?_
        exact fw_ireti hx hb hr hlocks (congrArg (fun q => (q, z)) (Option.some.inj h)) hK hZ hP hS dX11_placeIn_41
      · replace h := gif_f h c3
        refine lv_aload_n hx hb dX11_placeIn_22 rfl (lv_at hl 0 rfl) ?_
        refine fw_getr hx hb hts in_X11_placeIn_X11 hown hK hP gF11.1.1 gF11.1.2 rfl 29 (by decide) rfl (hts _ (List.mem_of_getElem? (i := 2) rfl)) rfl dX11_placeIn_23 ?_
        refine lv_iload_n hx hb dX11_placeIn_26 rfl (lv_at hl 3 rfl) ?_
        obtain ⟨h4, h⟩ := gg_s h
        refine fw_iald hx hb hK hP gF11.2.2.2.2.2.2.2.2.2.2.2.2.2.2.2.1.1 gF11.2.2.2.2.2.2.2.2.2.2.2.2.2.2.2.1.2 h4 dX11_placeIn_27 ?_
        refine lv_iload_n hx hb dX11_placeIn_28 rfl (lv_at hl 2 rfl) ?_
        refine lv_icmp_ne (tgt := 34) hx hb dX11_placeIn_29 (by decide) (fun c5 => ?_) (fun c5 => ?_)
        · replace h := gif_f h c5
          refine lv_iinc (v := x3 + (nI 1)) (lv' := [(3, .int (x3 + (nI 1))), (0, .ref (ad 0)), (1, .int x1), (2, .int x2)]) hx hb dX11_placeIn_34 hl (k := 3) rfl rfl (by decide) rfl (fun ls hl => ?_)
          refine lv_goto (tgt := 6) hx hb dX11_placeIn_37 (by decide) ?_
          exact hK6 (x3 + (nI 1)) _ _ ls h hP hS (lv_sub hl [1, 2, 3, 0] rfl)
        · replace h := gif_t h c5
          refine lv_iload_n hx hb dX11_placeIn_32 rfl (lv_at hl 3 rfl) ?_
          exact fw_ireti hx hb hr hlocks (congrArg (fun q => (q, z)) (Option.some.inj h)) hK hZ hP hS dX11_placeIn_33
  unfold f_X11_placeIn at h
  refine lv_sipush (v := (nI 300)) hx hb dX11_placeIn_0 (by decide) ?_
  refine lv_iload_n hx hb dX11_placeIn_3 rfl (lv_at hl 1 rfl) ?_
  refine lv_imul hx hb dX11_placeIn_4 ?_
  refine lv_topi (fun y1 ey1 => ?_)
  replace h := gl_s h ey1
  refine lv_istore_n (lv' := [(3, .int y1), (0, .ref (ad 0)), (1, .int a1), (2, .int a2)]) hx hb dX11_placeIn_5 rfl hl (by decide) rfl (fun ls hl => ?_)
  exact j6 a1 a2 gF y1 _ _ ls h hP hS (lv_sub hl [1, 2, 3, 0] rfl)
theorem in_X11_lays_X11 : ∀ w ∈ wsX110, w ∈ wsX11_lays := fun w h => List.mem_cons_of_mem _ (List.mem_append_right _ (h))
theorem hdV_X11_lays : yX11_lays.cls = RX11 ∧ yX11_lays.cls ≠ "java/lang/invoke/MethodHandle" ∧ yX11_lays.cls ≠ "java/lang/invoke/VarHandle" ∧ (parseMethodDescriptor yX11_lays.desc).map (fun d => d.parameters.length) = some 2 := by decide +kernel
set_option maxHeartbeats 4000000 in
set_option maxRecDepth 100000 in
theorem k_X11_lays (l : Launch) (D : va_G) (cA : Nat → ClassId) (ad : Nat → Nat) (tw : Nat) (hG : gOk ad 22) (z : gS) (a1 : Int32) (a2 : Int32) (res : gS) (h : f_X11_lays a1 a2 z = some res) : gMv l yX11_lays wsX11_lays (gRm 1 23) D cA ad tw shM 22 [.ref (ad 0), .int a1, .int a2] z res := by
  refine Met.ofW (cc := cX11_lays) (maxL := 4) (ret := none) (by decide) rfl ?_
  intro p e s m args below meth c s₁ B hml hv
  obtain ⟨rfl, hP, hK, hZ⟩ := hv
  have hx := B.exec
  have hb := B.bytes
  have hr := B.returns
  have hts := atoms_spec (ws := wsX11_lays) B.pre
  have hown : s.vm.findClass RX11 = some m.cls := findClass_of_methodNamed B.named
  have hlocks := B.notSynchronized
  have hS : va_S (gA ad 22) s.heap s.heap [] := va_S.rf
  have hl := lv_entry ([.ref (ad 0), .int a1, .int a2]) (n := 4) (Nat.le_of_ble_eq_true rfl)
  rw [lg_entry_eq]
  generalize (lg_sl ([.ref (ad 0), .int a1, .int a2]) ++ List.replicate (4 - (lg_sl ([.ref (ad 0), .int a1, .int a2])).length) Slot.unset).toArray = ls at hl ⊢
  have hl : lv_has ls 4 [(0, .ref (ad 0)), (1, .int a1), (2, .int a2)] := hl
  unfold f_X11_lays at h
  refine lv_aload_n hx hb dX11_lays_0 rfl (lv_at hl 0 rfl) ?_
  refine lv_iload_n hx hb dX11_lays_1 rfl (lv_at hl 1 rfl) ?_
  refine lv_iload_n hx hb dX11_lays_2 rfl (lv_at hl 2 rfl) ?_
  obtain ⟨q1, hq1, h⟩ := gb_s h
  refine fw_viR (As := [.int a1, .int a2]) (rest := []) ⟨hx, hb, hml, hown, hts⟩ (k_X11_placeIn l D cA ad tw hG z a1 a2 q1 hq1) (cwV 2 hts gX11_lays_X11_placeIn rfl rfl rfl hdV_X11_placeIn ⟨Nat.le_of_ble_eq_true rfl, Nat.le_of_ble_eq_true rfl⟩) (fw_preV gF11.1.1 gF11.1.2 rfl rfl hK hZ hP hS) rfl hl _ rfl (Nat.le_of_ble_eq_true rfl) hS dX11_lays_3 ⟨Nat.zero_le _, Nat.zero_le _⟩ (fun H locs hP hS => ?_)
  refine lv_istore_n (lv' := [(3, .int q1), (0, .ref (ad 0)), (1, .int a1), (2, .int a2)]) hx hb dX11_lays_6 rfl hl (by decide) rfl (fun ls hl => ?_)
  refine lv_iload_n hx hb dX11_lays_7 rfl (lv_at hl 0 rfl) ?_
  refine lv_iconst (v := gm1) hx hb dX11_lays_8 (by decide) ?_
  refine lv_icmp_ne (tgt := 49) hx hb dX11_lays_9 (by decide) (fun c2 => ?_) (fun c2 => ?_)
  · replace h := gif_f h c2
    refine lv_aload_n hx hb dX11_lays_49 rfl (lv_at hl 1 rfl) ?_
    refine fw_getr hx hb hts in_X11_lays_X11 hown hK hP gF11.1.1 gF11.1.2 rfl 30 (by decide) rfl (hts _ (List.mem_of_getElem? (i := 3) rfl)) rfl dX11_lays_50 ?_
    refine lv_iload_n hx hb dX11_lays_53 rfl (lv_at hl 0 rfl) ?_
    refine lv_dup2_11 hx hb dX11_lays_54 rfl rfl ?_
    obtain ⟨h3, h⟩ := gg_s h
    refine fw_iald hx hb hK hP gF11.2.2.2.2.2.2.2.2.2.2.2.2.2.2.2.2.1.1 gF11.2.2.2.2.2.2.2.2.2.2.2.2.2.2.2.2.1.2 h3 dX11_lays_55 ?_
    refine lv_iconst (v := (nI 1)) hx hb dX11_lays_56 (by decide) ?_
    refine lv_iadd hx hb dX11_lays_57 ?_
    obtain ⟨h4, h⟩ := gg_s h
    refine fw_iast hx hb hK hG hP hS gF11.2.2.2.2.2.2.2.2.2.2.2.2.2.2.2.2.1.1 gF11.2.2.2.2.2.2.2.2.2.2.2.2.2.2.2.2.1.2 h4 dX11_lays_58 (fun z5 H locs ez5 hP hS => ?_)
    replace h := gl_s h ez5
    exact fw_vret hx hb hr hlocks (Option.some.inj h) hK hZ hP hS dX11_lays_59
  · replace h := gif_t h c2
    refine lv_sipush (v := (nI 300)) hx hb dX11_lays_12 (by decide) ?_
    refine lv_iload_n hx hb dX11_lays_15 rfl (lv_at hl 2 rfl) ?_
    refine lv_imul hx hb dX11_lays_16 ?_
    refine lv_aload_n hx hb dX11_lays_17 rfl (lv_at hl 1 rfl) ?_
    refine fw_getr hx hb hts in_X11_lays_X11 hown hK hP gF11.1.1 gF11.1.2 rfl 28 (by decide) rfl (hts _ (List.mem_of_getElem? (i := 1) rfl)) rfl dX11_lays_18 ?_
    refine lv_iload_n hx hb dX11_lays_21 rfl (lv_at hl 2 rfl) ?_
    obtain ⟨h6, h⟩ := gg_s h
    refine fw_iald hx hb hK hP gF11.2.2.2.2.2.2.2.2.2.2.2.2.2.2.1.1 gF11.2.2.2.2.2.2.2.2.2.2.2.2.2.2.1.2 h6 dX11_lays_22 ?_
    refine lv_iadd hx hb dX11_lays_23 ?_
    refine lv_topi (fun y7 ey7 => ?_)
    replace h := gl_s h ey7
    refine lv_istore_n (lv' := [(3, .int y7), (0, .ref (ad 0)), (1, .int a1), (2, .int a2)]) hx hb dX11_lays_24 rfl hl (by decide) rfl (fun ls hl => ?_)
    refine lv_aload_n hx hb dX11_lays_25 rfl (lv_at hl 1 rfl) ?_
    refine fw_getr hx hb hts in_X11_lays_X11 hown hK hP gF11.1.1 gF11.1.2 rfl 29 (by decide) rfl (hts _ (List.mem_of_getElem? (i := 2) rfl)) rfl dX11_lays_26 ?_
    refine lv_iload_n hx hb dX11_lays_29 rfl (lv_at hl 0 rfl) ?_
    refine lv_iload_n hx hb dX11_lays_30 rfl (lv_at hl 3 rfl) ?_
    obtain ⟨h8, h⟩ := gg_s h
    refine fw_iast hx hb hK hG hP hS gF11.2.2.2.2.2.2.2.2.2.2.2.2.2.2.2.1.1 gF11.2.2.2.2.2.2.2.2.2.2.2.2.2.2.2.1.2 h8 dX11_lays_31 (fun z9 H locs ez9 hP hS => ?_)
    replace h := gl_s h ez9
    refine lv_aload_n hx hb dX11_lays_32 rfl (lv_at hl 1 rfl) ?_
    refine fw_getr hx hb hts in_X11_lays_X11 hown hK hP gF11.1.1 gF11.1.2 rfl 30 (by decide) rfl (hts _ (List.mem_of_getElem? (i := 3) rfl)) rfl dX11_lays_33 ?_
    refine lv_iload_n hx hb dX11_lays_36 rfl (lv_at hl 0 rfl) ?_
    refine lv_iconst (v := (nI 0)) hx hb dX11_lays_37 (by decide) ?_
    obtain ⟨h10, h⟩ := gg_s h
    refine fw_iast hx hb hK hG hP hS gF11.2.2.2.2.2.2.2.2.2.2.2.2.2.2.2.2.1.1 gF11.2.2.2.2.2.2.2.2.2.2.2.2.2.2.2.2.1.2 h10 dX11_lays_38 (fun z11 H locs ez11 hP hS => ?_)
    replace h := gl_s h ez11
    refine lv_aload_n hx hb dX11_lays_39 rfl (lv_at hl 1 rfl) ?_
    refine fw_getr hx hb hts in_X11_lays_X11 hown hK hP gF11.1.1 gF11.1.2 rfl 28 (by decide) rfl (hts _ (List.mem_of_getElem? (i := 1) rfl)) rfl dX11_lays_40 ?_
    refine lv_iload_n hx hb dX11_lays_43 rfl (lv_at hl 2 rfl) ?_
    refine lv_dup2_11 hx hb dX11_lays_44 rfl rfl ?_
    obtain ⟨h12, h⟩ := gg_s h
    refine fw_iald hx hb hK hP gF11.2.2.2.2.2.2.2.2.2.2.2.2.2.2.1.1 gF11.2.2.2.2.2.2.2.2.2.2.2.2.2.2.1.2 h12 dX11_lays_45 ?_
    refine lv_iconst (v := (nI 1)) hx hb dX11_lays_46 (by decide) ?_
    refine lv_iadd hx hb dX11_lays_47 ?_
    obtain ⟨h13, h⟩ := gg_s h
    refine fw_iast hx hb hK hG hP hS gF11.2.2.2.2.2.2.2.2.2.2.2.2.2.2.1.1 gF11.2.2.2.2.2.2.2.2.2.2.2.2.2.2.1.2 h13 dX11_lays_48 (fun z14 H locs ez14 hP hS => ?_)
    replace h := gl_s h ez14
    refine lv_aload_n hx hb dX11_lays_49 rfl (lv_at hl 1 rfl) ?_
    refine fw_getr hx hb hts in_X11_lays_X11 hown hK hP gF11.1.1 gF11.1.2 rfl 30 (by decide) rfl (hts _ (List.mem_of_getElem? (i := 3) rfl)) rfl dX11_lays_50 ?_
    refine lv_iload_n hx hb dX11_lays_53 rfl (lv_at hl 0 rfl) ?_
    refine lv_dup2_11 hx hb dX11_lays_54 rfl rfl ?_
    obtain ⟨h15, h⟩ := gg_s h
    refine fw_iald hx hb hK hP gF11.2.2.2.2.2.2.2.2.2.2.2.2.2.2.2.2.1.1 gF11.2.2.2.2.2.2.2.2.2.2.2.2.2.2.2.2.1.2 h15 dX11_lays_55 ?_
    refine lv_iconst (v := (nI 1)) hx hb dX11_lays_56 (by decide) ?_
    refine lv_iadd hx hb dX11_lays_57 ?_
    obtain ⟨h16, h⟩ := gg_s h
    refine fw_iast hx hb hK hG hP hS gF11.2.2.2.2.2.2.2.2.2.2.2.2.2.2.2.2.1.1 gF11.2.2.2.2.2.2.2.2.2.2.2.2.2.2.2.2.1.2 h16 dX11_lays_58 (fun z17 H locs ez17 hP hS => ?_)
    replace h := gl_s h ez17
    exact fw_vret hx hb hr hlocks (Option.some.inj h) hK hZ hP hS dX11_lays_59
theorem in_X11_lay_X11 : ∀ w ∈ wsX110, w ∈ wsX11_lay := fun w h => List.mem_cons_of_mem _ (List.mem_append_right _ (h))
theorem hdV_X11_lay : yX11_lay.cls = RX11 ∧ yX11_lay.cls ≠ "java/lang/invoke/MethodHandle" ∧ yX11_lay.cls ≠ "java/lang/invoke/VarHandle" ∧ (parseMethodDescriptor yX11_lay.desc).map (fun d => d.parameters.length) = some 2 := by decide +kernel
set_option maxHeartbeats 4000000 in
set_option maxRecDepth 100000 in
theorem k_X11_lay (l : Launch) (D : va_G) (cA : Nat → ClassId) (ad : Nat → Nat) (tw : Nat) (hG : gOk ad 22) (z : gS) (a1 : Int32) (a2 : Int32) (res : Int32 × gS) (h : f_X11_lay a1 a2 z = some res) : gMi l yX11_lay wsX11_lay (gRm 2 46) D cA ad tw shM 22 [.ref (ad 0), .int a1, .int a2] z res := by
  refine Met.ofW (cc := cX11_lay) (maxL := 4) (ret := (some .int)) (by decide) rfl ?_
  intro p e s m args below meth c s₁ B hml hv
  obtain ⟨rfl, hP, hK, hZ⟩ := hv
  have hx := B.exec
  have hb := B.bytes
  have hr := B.returns
  have hts := atoms_spec (ws := wsX11_lay) B.pre
  have hown : s.vm.findClass RX11 = some m.cls := findClass_of_methodNamed B.named
  have hlocks := B.notSynchronized
  have hS : va_S (gA ad 22) s.heap s.heap [] := va_S.rf
  have hl := lv_entry ([.ref (ad 0), .int a1, .int a2]) (n := 4) (Nat.le_of_ble_eq_true rfl)
  rw [lg_entry_eq]
  generalize (lg_sl ([.ref (ad 0), .int a1, .int a2]) ++ List.replicate (4 - (lg_sl ([.ref (ad 0), .int a1, .int a2])).length) Slot.unset).toArray = ls at hl ⊢
  have hl : lv_has ls 4 [(0, .ref (ad 0)), (1, .int a1), (2, .int a2)] := hl
  have j31 : ∀ (x1 : Int32) (x2 : Int32) (n : Nat) (x3 : Int32) (z : gS) (H : Heap) (locs : List Loc) (ls : Array Slot), f_X11_lay_31 x1 x2 n x3 z = some res → va_P D vwCl (gw cA ad shM 22 z) H → va_S (gA ad 22) s.heap H locs → lv_has ls 4 [(0, .ref (ad 0)), (1, .int x1), (2, .int x2), (3, .int x3)] → W p l e (headSpec wsX11_lay (gRm 2 46)).room s m ([.ref (ad 0), .int a1, .int a2] : List Value).toArray below meth c H locs 0 0 (MQ below (va_Qi (fun r u => (r, u) = res) (gPr D cA ad tw shM 22) (gA ad 22)) ([.ref (ad 0), .int a1, .int a2] : List Value).toArray s 0 0 (gA ad 22)) (F0 m 31 ls []) := by
    intro x1 x2 n
    induction n with
    | zero => intro x3 z H locs ls h; exact (gno h).elim
    | succ n hK31 =>
      intro x3 z H locs ls h hP hS hl
      replace h : f_X11_lay_31_b x1 x2 (f_X11_lay_31 x1 x2 n) x3 z = some res := h
      unfold f_X11_lay_31_b at h
      refine lv_iload_n hx hb dX11_lay_31 rfl (lv_at hl 3 rfl) ?_
      refine lv_aload_n hx hb dX11_lay_32 rfl (lv_at hl 0 rfl) ?_
      refine fw_geti hx hb hts in_X11_lay_X11 hown hK hP gF11.1.1 gF11.1.2 rfl 2 (by decide) rfl (hts _ (List.mem_of_getElem? (i := 2) rfl)) rfl dX11_lay_33 ?_
      refine lv_icmp_ge (tgt := 69) hx hb dX11_lay_36 (by decide) (fun c7 => ?_) (fun c7 => ?_)
      · replace h := gif_t h c7
        refine lv_aload_n hx hb dX11_lay_69 rfl (lv_at hl 0 rfl) ?_
        refine fw_getr hx hb hts in_X11_lay_X11 hown hK hP gF11.1.1 gF11.1.2 rfl 28 (by decide) rfl (hts _ (List.mem_of_getElem? (i := 5) rfl)) rfl dX11_lay_70 ?_
        refine lv_iload_n hx hb dX11_lay_73 rfl (lv_at hl 1 rfl) ?_
        obtain ⟨h8, h⟩ := gg_s h
        refine fw_iald hx hb hK hP gF11.2.2.2.2.2.2.2.2.2.2.2.2.2.2.1.1 gF11.2.2.2.2.2.2.2.2.2.2.2.2.2.2.1.2 h8 dX11_lay_74 ?_
        exact fw_ireti hx hb hr hlocks (Option.some.inj h) hK hZ hP hS dX11_lay_75
      · replace h := gif_f h c7
        refine lv_aload_n hx hb dX11_lay_39 rfl (lv_at hl 0 rfl) ?_
        refine fw_getr hx hb hts in_X11_lay_X11 hown hK hP gF11.1.1 gF11.1.2 rfl 4 (by decide) rfl (hts _ (List.mem_of_getElem? (i := 3) rfl)) rfl dX11_lay_40 ?_
        refine lv_iload_n hx hb dX11_lay_43 rfl (lv_at hl 2 rfl) ?_
        obtain ⟨h9, h⟩ := gg_s h
        refine fw_iald hx hb hK hP gF11.2.2.1.1 gF11.2.2.1.2 h9 dX11_lay_44 ?_
        refine lv_iload_n hx hb dX11_lay_45 rfl (lv_at hl 3 rfl) ?_
        obtain ⟨q10, hq10, h⟩ := gb_s h
        refine fw_siR (As := [.int (z 2 x2.toNatClampNeg), .int x3]) (rest := []) ⟨hx, hb, hml, hown, hts⟩ (k_X11_has l D cA ad tw hG z (z 2 x2.toNatClampNeg) x3 q10 hq10) (va_cwS 2 hts gX11_lay_X11_has rfl rfl rfl hdS_X11_has ⟨Nat.le_of_ble_eq_true rfl, Nat.le_of_ble_eq_true rfl⟩) hK hZ hP rfl hl _ rfl (Nat.le_of_ble_eq_true rfl) hS dX11_lay_46 ⟨Nat.zero_le _, Nat.zero_le _⟩ (fun H locs hP hS => ?_)
        refine lv_if_eq (tgt := 63) hx hb dX11_lay_49 (by decide) (fun c11 => ?_) (fun c11 => ?_)
        · replace h := gif_t h c11
          refine lv_iinc (v := x3 + (nI 1)) (lv' := [(3, .int (x3 + (nI 1))), (0, .ref (ad 0)), (1, .int x1), (2, .int x2)]) hx hb dX11_lay_63 hl (k := 3) rfl rfl (by decide) rfl (fun ls hl => ?_)
          refine lv_goto (tgt := 31) hx hb dX11_lay_66 (by decide) ?_
          exact hK31 (x3 + (nI 1)) z _ _ ls h hP hS (lv_sub hl [1, 2, 3, 0] rfl)
        · replace h := gif_f h c11
          refine lv_aload_n hx hb dX11_lay_52 rfl (lv_at hl 0 rfl) ?_
          refine lv_iload_n hx hb dX11_lay_53 rfl (lv_at hl 1 rfl) ?_
          refine lv_aload_n hx hb dX11_lay_54 rfl (lv_at hl 0 rfl) ?_
          refine fw_getr hx hb hts in_X11_lay_X11 hown hK hP gF11.1.1 gF11.1.2 rfl 5 (by decide) rfl (hts _ (List.mem_of_getElem? (i := 4) rfl)) rfl dX11_lay_55 ?_
          refine lv_iload_n hx hb dX11_lay_58 rfl (lv_at hl 3 rfl) ?_
          obtain ⟨h12, h⟩ := gg_s h
          refine fw_iald hx hb hK hP gF11.2.2.2.1.1 gF11.2.2.2.1.2 h12 dX11_lay_59 ?_
          obtain ⟨q13, hq13, h⟩ := gb_s h
          refine fw_vv (As := [.int x1, .int (z 3 x3.toNatClampNeg)]) (rest := []) ⟨hx, hb, hml, hown, hts⟩ (k_X11_lays l D cA ad tw hG z x1 (z 3 x3.toNatClampNeg) q13 hq13) (cwV 2 hts gX11_lay_X11_lays rfl rfl rfl hdV_X11_lays ⟨Nat.le_of_ble_eq_true rfl, Nat.le_of_ble_eq_true rfl⟩) (fw_preV gF11.1.1 gF11.1.2 rfl rfl hK hZ hP hS) rfl hl _ rfl (Nat.le_of_ble_eq_true rfl) hS dX11_lay_60 ⟨Nat.zero_le _, Nat.zero_le _⟩ (fun H locs hP hS => ?_)
          refine lv_iinc (v := x3 + (nI 1)) (lv' := [(3, .int (x3 + (nI 1))), (0, .ref (ad 0)), (1, .int x1), (2, .int x2)]) hx hb dX11_lay_63 hl (k := 3) rfl rfl (by decide) rfl (fun ls hl => ?_)
          refine lv_goto (tgt := 31) hx hb dX11_lay_66 (by decide) ?_
          exact hK31 (x3 + (nI 1)) q13 _ _ ls h hP hS (lv_sub hl [1, 2, 3, 0] rfl)
  unfold f_X11_lay at h
  refine lv_iload_n hx hb dX11_lay_0 rfl (lv_at hl 1 rfl) ?_
  obtain ⟨q1, hq1, h⟩ := gb_s h
  refine fw_siR (As := [.int a1]) (rest := []) ⟨hx, hb, hml, hown, hts⟩ (k_X11_isTray l D cA ad tw hG z a1 q1 hq1) (va_cwS 1 hts gX11_lay_X11_isTray rfl rfl rfl hdS_X11_isTray ⟨Nat.le_of_ble_eq_true rfl, Nat.le_of_ble_eq_true rfl⟩) hK hZ hP rfl hl _ rfl (Nat.le_of_ble_eq_true rfl) hS dX11_lay_1 ⟨Nat.zero_le _, Nat.zero_le _⟩ (fun H locs hP hS => ?_)
  refine lv_if_eq (tgt := 15) hx hb dX11_lay_4 (by decide) (fun c2 => ?_) (fun c2 => ?_)
  · replace h := gif_t h c2
    refine lv_iconst (v := gm1) hx hb dX11_lay_15 (by decide) ?_
    exact fw_ireti hx hb hr hlocks (Option.some.inj h) hK hZ hP hS dX11_lay_16
  · replace h := gif_f h c2
    refine lv_aload_n hx hb dX11_lay_7 rfl (lv_at hl 0 rfl) ?_
    refine lv_iload_n hx hb dX11_lay_8 rfl (lv_at hl 2 rfl) ?_
    obtain ⟨q3, hq3, h⟩ := gb_s h
    refine fw_viR (As := [.int a2]) (rest := []) ⟨hx, hb, hml, hown, hts⟩ (k_X11_isGrave l D cA ad tw hG z a2 q3 hq3) (cwV 1 hts gX11_lay_X11_isGrave rfl rfl rfl hdV_X11_isGrave ⟨Nat.le_of_ble_eq_true rfl, Nat.le_of_ble_eq_true rfl⟩) (fw_preV gF11.1.1 gF11.1.2 rfl rfl hK hZ hP hS) rfl hl _ rfl (Nat.le_of_ble_eq_true rfl) hS dX11_lay_9 ⟨Nat.zero_le _, Nat.zero_le _⟩ (fun H locs hP hS => ?_)
    refine lv_if_ne (tgt := 17) hx hb dX11_lay_12 (by decide) (fun c4 => ?_) (fun c4 => ?_)
    · replace h := gif_f h c4
      refine lv_aload_n hx hb dX11_lay_17 rfl (lv_at hl 0 rfl) ?_
      refine fw_getr hx hb hts in_X11_lay_X11 hown hK hP gF11.1.1 gF11.1.2 rfl 27 (by decide) rfl (hts _ (List.mem_of_getElem? (i := 1) rfl)) rfl dX11_lay_18 ?_
      refine lv_iload_n hx hb dX11_lay_21 rfl (lv_at hl 1 rfl) ?_
      obtain ⟨h5, h⟩ := gg_s h
      refine fw_zald hx hb hK hP gF11.2.2.2.2.2.2.2.2.2.2.2.2.2.1.1 gF11.2.2.2.2.2.2.2.2.2.2.2.2.2.1.2 h5 dX11_lay_22 ?_
      refine lv_if_ne (tgt := 29) hx hb dX11_lay_23 (by decide) (fun c6 => ?_) (fun c6 => ?_)
      · replace h := gif_f h c6
        refine lv_iconst (v := (nI 0)) hx hb dX11_lay_29 (by decide) ?_
        refine lv_istore_n (lv' := [(3, .int (nI 0)), (0, .ref (ad 0)), (1, .int a1), (2, .int a2)]) hx hb dX11_lay_30 rfl hl (by decide) rfl (fun ls hl => ?_)
        exact j31 a1 a2 gF (nI 0) z _ _ ls h hP hS (lv_sub hl [1, 2, 3, 0] rfl)
      · replace h := gif_t h c6
        refine lv_bipush (v := (-11)) hx hb dX11_lay_26 (by decide) ?_
        exact fw_ireti hx hb hr hlocks (Option.some.inj h) hK hZ hP hS dX11_lay_28
    · replace h := gif_t h c4
      refine lv_iconst (v := gm1) hx hb dX11_lay_15 (by decide) ?_
      exact fw_ireti hx hb hr hlocks (Option.some.inj h) hK hZ hP hS dX11_lay_16
theorem in_X11_laid_X11 : ∀ w ∈ wsX110, w ∈ wsX11_laid := fun w h => List.mem_cons_of_mem _ (List.mem_append_right _ (h))
theorem hdV_X11_laid : yX11_laid.cls = RX11 ∧ yX11_laid.cls ≠ "java/lang/invoke/MethodHandle" ∧ yX11_laid.cls ≠ "java/lang/invoke/VarHandle" ∧ (parseMethodDescriptor yX11_laid.desc).map (fun d => d.parameters.length) = some 2 := by decide +kernel
set_option maxHeartbeats 4000000 in
set_option maxRecDepth 100000 in
theorem k_X11_laid (l : Launch) (D : va_G) (cA : Nat → ClassId) (ad : Nat → Nat) (tw : Nat) (hG : gOk ad 22) (z : gS) (a1 : Int32) (a2 : Int32) (res : Int32) (h : f_X11_laid a1 a2 z = some res) : gMi l yX11_laid wsX11_laid (gRm 2 43) D cA ad tw shM 22 [.ref (ad 0), .int a1, .int a2] z (res, z) := by
  refine Met.ofW (cc := cX11_laid) (maxL := 4) (ret := (some .int)) (by decide) rfl ?_
  intro p e s m args below meth c s₁ B hml hv
  obtain ⟨rfl, hP, hK, hZ⟩ := hv
  have hx := B.exec
  have hb := B.bytes
  have hr := B.returns
  have hts := atoms_spec (ws := wsX11_laid) B.pre
  have hown : s.vm.findClass RX11 = some m.cls := findClass_of_methodNamed B.named
  have hlocks := B.notSynchronized
  have hS : va_S (gA ad 22) s.heap s.heap [] := va_S.rf
  have hl := lv_entry ([.ref (ad 0), .int a1, .int a2]) (n := 4) (Nat.le_of_ble_eq_true rfl)
  rw [lg_entry_eq]
  generalize (lg_sl ([.ref (ad 0), .int a1, .int a2]) ++ List.replicate (4 - (lg_sl ([.ref (ad 0), .int a1, .int a2])).length) Slot.unset).toArray = ls at hl ⊢
  have hl : lv_has ls 4 [(0, .ref (ad 0)), (1, .int a1), (2, .int a2)] := hl
  unfold f_X11_laid at h
  refine lv_iload_n hx hb dX11_laid_0 rfl (lv_at hl 1 rfl) ?_
  obtain ⟨q1, hq1, h⟩ := gb_s h
  refine fw_siR (As := [.int a1]) (rest := []) ⟨hx, hb, hml, hown, hts⟩ (k_X11_isTray l D cA ad tw hG z a1 q1 hq1) (va_cwS 1 hts gX11_laid_X11_isTray rfl rfl rfl hdS_X11_isTray ⟨Nat.le_of_ble_eq_true rfl, Nat.le_of_ble_eq_true rfl⟩) hK hZ hP rfl hl _ rfl (Nat.le_of_ble_eq_true rfl) hS dX11_laid_1 ⟨Nat.zero_le _, Nat.zero_le _⟩ (fun H locs hP hS => ?_)
  refine lv_if_eq (tgt := 15) hx hb dX11_laid_4 (by decide) (fun c2 => ?_) (fun c2 => ?_)
  · replace h := gif_t h c2
    refine lv_iconst (v := gm1) hx hb dX11_laid_15 (by decide) ?_
    exact fw_ireti hx hb hr hlocks (congrArg (fun q => (q, z)) (Option.some.inj h)) hK hZ hP hS dX11_laid_16
  · replace h := gif_f h c2
    refine lv_aload_n hx hb dX11_laid_7 rfl (lv_at hl 0 rfl) ?_
    refine lv_iload_n hx hb dX11_laid_8 rfl (lv_at hl 2 rfl) ?_
    obtain ⟨q3, hq3, h⟩ := gb_s h
    refine fw_viR (As := [.int a2]) (rest := []) ⟨hx, hb, hml, hown, hts⟩ (k_X11_isType l D cA ad tw hG z a2 q3 hq3) (cwV 1 hts gX11_laid_X11_isType rfl rfl rfl hdV_X11_isType ⟨Nat.le_of_ble_eq_true rfl, Nat.le_of_ble_eq_true rfl⟩) (fw_preV gF11.1.1 gF11.1.2 rfl rfl hK hZ hP hS) rfl hl _ rfl (Nat.le_of_ble_eq_true rfl) hS dX11_laid_9 ⟨Nat.zero_le _, Nat.zero_le _⟩ (fun H locs hP hS => ?_)
    refine lv_if_ne (tgt := 17) hx hb dX11_laid_12 (by decide) (fun c4 => ?_) (fun c4 => ?_)
    · replace h := gif_f h c4
      refine lv_aload_n hx hb dX11_laid_17 rfl (lv_at hl 0 rfl) ?_
      refine fw_getr hx hb hts in_X11_laid_X11 hown hK hP gF11.1.1 gF11.1.2 rfl 27 (by decide) rfl (hts _ (List.mem_of_getElem? (i := 1) rfl)) rfl dX11_laid_18 ?_
      refine lv_iload_n hx hb dX11_laid_21 rfl (lv_at hl 1 rfl) ?_
      obtain ⟨h5, h⟩ := gg_s h
      refine fw_zald hx hb hK hP gF11.2.2.2.2.2.2.2.2.2.2.2.2.2.1.1 gF11.2.2.2.2.2.2.2.2.2.2.2.2.2.1.2 h5 dX11_laid_22 ?_
      refine lv_if_ne (tgt := 29) hx hb dX11_laid_23 (by decide) (fun c6 => ?_) (fun c6 => ?_)
      · replace h := gif_f h c6
        refine lv_aload_n hx hb dX11_laid_29 rfl (lv_at hl 0 rfl) ?_
        refine lv_iload_n hx hb dX11_laid_30 rfl (lv_at hl 1 rfl) ?_
        refine lv_aload_n hx hb dX11_laid_31 rfl (lv_at hl 0 rfl) ?_
        refine fw_getr hx hb hts in_X11_laid_X11 hown hK hP gF11.1.1 gF11.1.2 rfl 5 (by decide) rfl (hts _ (List.mem_of_getElem? (i := 2) rfl)) rfl dX11_laid_32 ?_
        refine lv_iload_n hx hb dX11_laid_35 rfl (lv_at hl 2 rfl) ?_
        obtain ⟨h7, h⟩ := gg_s h
        refine fw_iald hx hb hK hP gF11.2.2.2.1.1 gF11.2.2.2.1.2 h7 dX11_laid_36 ?_
        obtain ⟨q8, hq8, h⟩ := gb_s h
        refine fw_viR (As := [.int a1, .int (z 3 a2.toNatClampNeg)]) (rest := []) ⟨hx, hb, hml, hown, hts⟩ (k_X11_placeIn l D cA ad tw hG z a1 (z 3 a2.toNatClampNeg) q8 hq8) (cwV 2 hts gX11_laid_X11_placeIn rfl rfl rfl hdV_X11_placeIn ⟨Nat.le_of_ble_eq_true rfl, Nat.le_of_ble_eq_true rfl⟩) (fw_preV gF11.1.1 gF11.1.2 rfl rfl hK hZ hP hS) rfl hl _ rfl (Nat.le_of_ble_eq_true rfl) hS dX11_laid_37 ⟨Nat.zero_le _, Nat.zero_le _⟩ (fun H locs hP hS => ?_)
        refine lv_istore_n (lv' := [(3, .int q8), (0, .ref (ad 0)), (1, .int a1), (2, .int a2)]) hx hb dX11_laid_40 rfl hl (by decide) rfl (fun ls hl => ?_)
        refine lv_iload_n hx hb dX11_laid_41 rfl (lv_at hl 0 rfl) ?_
        refine lv_iconst (v := gm1) hx hb dX11_laid_42 (by decide) ?_
        refine lv_icmp_ne (tgt := 51) hx hb dX11_laid_43 (by decide) (fun c9 => ?_) (fun c9 => ?_)
        · replace h := gif_f h c9
          refine lv_aload_n hx hb dX11_laid_51 rfl (lv_at hl 1 rfl) ?_
          refine fw_getr hx hb hts in_X11_laid_X11 hown hK hP gF11.1.1 gF11.1.2 rfl 30 (by decide) rfl (hts _ (List.mem_of_getElem? (i := 3) rfl)) rfl dX11_laid_52 ?_
          refine lv_iload_n hx hb dX11_laid_55 rfl (lv_at hl 0 rfl) ?_
          obtain ⟨h10, h⟩ := gg_s h
          refine fw_iald hx hb hK hP gF11.2.2.2.2.2.2.2.2.2.2.2.2.2.2.2.2.1.1 gF11.2.2.2.2.2.2.2.2.2.2.2.2.2.2.2.2.1.2 h10 dX11_laid_56 ?_
          exact fw_ireti hx hb hr hlocks (congrArg (fun q => (q, z)) (Option.some.inj h)) hK hZ hP hS dX11_laid_57
        · replace h := gif_t h c9
          refine lv_bipush (v := (-5)) hx hb dX11_laid_46 (by decide) ?_
          refine lv_goto (tgt := 57) hx hb dX11_laid_48 (by decide) ?_
          exact fw_ireti hx hb hr hlocks (congrArg (fun q => (q, z)) (Option.some.inj h)) hK hZ hP hS dX11_laid_57
      · replace h := gif_t h c6
        refine lv_bipush (v := (-11)) hx hb dX11_laid_26 (by decide) ?_
        exact fw_ireti hx hb hr hlocks (congrArg (fun q => (q, z)) (Option.some.inj h)) hK hZ hP hS dX11_laid_28
    · replace h := gif_t h c4
      refine lv_iconst (v := gm1) hx hb dX11_laid_15 (by decide) ?_
      exact fw_ireti hx hb hr hlocks (congrArg (fun q => (q, z)) (Option.some.inj h)) hK hZ hP hS dX11_laid_16
theorem hdS_X11_isList : yX11_isList.cls ≠ "java/lang/invoke/MethodHandle" ∧ yX11_isList.cls ≠ "java/lang/invoke/VarHandle" ∧ (parseMethodDescriptor yX11_isList.desc).map (fun d => d.parameters.length) = some 1 := by decide +kernel
set_option maxHeartbeats 4000000 in
set_option maxRecDepth 100000 in
theorem k_X11_isList (l : Launch) (D : va_G) (cA : Nat → ClassId) (ad : Nat → Nat) (tw : Nat) (hG : gOk ad 22) (z : gS) (a0 : Int32) (res : Int32) (h : f_X11_isList a0 z = some res) : gMi l yX11_isList wsX11_isList (gRm 1 22) D cA ad tw shM 22 [.int a0] z (res, z) := by
  refine Met.ofW (cc := cX11_isList) (maxL := 1) (ret := (some .boolean)) (by decide) rfl ?_
  intro p e s m args below meth c s₁ B hml hv
  obtain ⟨rfl, hP, hK, hZ⟩ := hv
  have hx := B.exec
  have hb := B.bytes
  have hr := B.returns
  have hts := atoms_spec (ws := wsX11_isList) B.pre
  have hown : s.vm.findClass RX11 = some m.cls := findClass_of_methodNamed B.named
  have hlocks := B.notSynchronized
  have hS : va_S (gA ad 22) s.heap s.heap [] := va_S.rf
  have hl := lv_entry ([.int a0]) (n := 1) (Nat.le_of_ble_eq_true rfl)
  rw [lg_entry_eq]
  generalize (lg_sl ([.int a0]) ++ List.replicate (1 - (lg_sl ([.int a0])).length) Slot.unset).toArray = ls at hl ⊢
  have hl : lv_has ls 1 [(0, .int a0)] := hl
  unfold f_X11_isList at h
  refine lv_iload_n hx hb dX11_isList_0 rfl (lv_at hl 0 rfl) ?_
  refine lv_iconst (v := (nI 0)) hx hb dX11_isList_1 (by decide) ?_
  refine lv_iconst (v := (nI 2)) hx hb dX11_isList_2 (by decide) ?_
  obtain ⟨q1, hq1, h⟩ := gb_s h
  refine fw_siR (As := [.int a0, .int (nI 0), .int (nI 2)]) (rest := []) ⟨hx, hb, hml, hown, hts⟩ (k_X11_in l D cA ad tw hG z a0 (nI 0) (nI 2) q1 hq1) (va_cwS 3 hts gX11_isList_X11_in rfl rfl rfl hdS_X11_in ⟨Nat.le_of_ble_eq_true rfl, Nat.le_of_ble_eq_true rfl⟩) hK hZ hP rfl hl _ rfl (Nat.le_of_ble_eq_true rfl) hS dX11_isList_3 ⟨Nat.zero_le _, Nat.zero_le _⟩ (fun H locs hP hS => ?_)
  obtain ⟨h2, h⟩ := gz_s h
  exact fw_iretz hx hb hr hlocks h2 (congrArg (fun q => (q, z)) (Option.some.inj h)) hK hZ hP hS dX11_isList_6
theorem in_X11_list_X11 : ∀ w ∈ wsX110, w ∈ wsX11_list := fun w h => List.mem_cons_of_mem _ (List.mem_append_right _ (h))
theorem hdV_X11_list : yX11_list.cls = RX11 ∧ yX11_list.cls ≠ "java/lang/invoke/MethodHandle" ∧ yX11_list.cls ≠ "java/lang/invoke/VarHandle" ∧ (parseMethodDescriptor yX11_list.desc).map (fun d => d.parameters.length) = some 2 := by decide +kernel
set_option maxHeartbeats 4000000 in
set_option maxRecDepth 100000 in
theorem k_X11_list (l : Launch) (D : va_G) (cA : Nat → ClassId) (ad : Nat → Nat) (tw : Nat) (hG : gOk ad 22) (z : gS) (a1 : Int32) (a2 : Int32) (res : Int32 × gS) (h : f_X11_list a1 a2 z = some res) : gMi l yX11_list wsX11_list (gRm 2 42) D cA ad tw shM 22 [.ref (ad 0), .int a1, .int a2] z res := by
  refine Met.ofW (cc := cX11_list) (maxL := 4) (ret := (some .int)) (by decide) rfl ?_
  intro p e s m args below meth c s₁ B hml hv
  obtain ⟨rfl, hP, hK, hZ⟩ := hv
  have hx := B.exec
  have hb := B.bytes
  have hr := B.returns
  have hts := atoms_spec (ws := wsX11_list) B.pre
  have hown : s.vm.findClass RX11 = some m.cls := findClass_of_methodNamed B.named
  have hlocks := B.notSynchronized
  have hS : va_S (gA ad 22) s.heap s.heap [] := va_S.rf
  have hl := lv_entry ([.ref (ad 0), .int a1, .int a2]) (n := 4) (Nat.le_of_ble_eq_true rfl)
  rw [lg_entry_eq]
  generalize (lg_sl ([.ref (ad 0), .int a1, .int a2]) ++ List.replicate (4 - (lg_sl ([.ref (ad 0), .int a1, .int a2])).length) Slot.unset).toArray = ls at hl ⊢
  have hl : lv_has ls 4 [(0, .ref (ad 0)), (1, .int a1), (2, .int a2)] := hl
  have j35 : ∀ (x1 : Int32) (n : Nat) (x3 : Int32) (z : gS) (H : Heap) (locs : List Loc) (ls : Array Slot), f_X11_list_35 x1 n x3 z = some res → va_P D vwCl (gw cA ad shM 22 z) H → va_S (gA ad 22) s.heap H locs → lv_has ls 4 [(0, .ref (ad 0)), (1, .int x1), (3, .int x3)] → W p l e (headSpec wsX11_list (gRm 2 42)).room s m ([.ref (ad 0), .int a1, .int a2] : List Value).toArray below meth c H locs 0 0 (MQ below (va_Qi (fun r u => (r, u) = res) (gPr D cA ad tw shM 22) (gA ad 22)) ([.ref (ad 0), .int a1, .int a2] : List Value).toArray s 0 0 (gA ad 22)) (F0 m 35 ls []) := by
    intro x1 n
    induction n with
    | zero => intro x3 z H locs ls h; exact (gno h).elim
    | succ n hK35 =>
      intro x3 z H locs ls h hP hS hl
      replace h : f_X11_list_35_b x1 (f_X11_list_35 x1 n) x3 z = some res := h
      unfold f_X11_list_35_b at h
      refine lv_iload_n hx hb dX11_list_35 rfl (lv_at hl 2 rfl) ?_
      refine lv_bipush (v := (nI 30)) hx hb dX11_list_36 (by decide) ?_
      refine lv_icmp_ge (tgt := 59) hx hb dX11_list_38 (by decide) (fun c7 => ?_) (fun c7 => ?_)
      · replace h := gif_t h c7
        refine lv_iconst (v := (nI 1)) hx hb dX11_list_59 (by decide) ?_
        exact fw_ireti hx hb hr hlocks (Option.some.inj h) hK hZ hP hS dX11_list_60
      · replace h := gif_f h c7
        refine lv_aload_n hx hb dX11_list_41 rfl (lv_at hl 0 rfl) ?_
        refine fw_getr hx hb hts in_X11_list_X11 hown hK hP gF11.1.1 gF11.1.2 rfl 32 (by decide) rfl (hts _ (List.mem_of_getElem? (i := 2) rfl)) rfl dX11_list_42 ?_
        refine lv_bipush (v := (nI 30)) hx hb dX11_list_45 (by decide) ?_
        refine lv_iload_n hx hb dX11_list_47 rfl (lv_at hl 1 rfl) ?_
        refine lv_imul hx hb dX11_list_48 ?_
        refine lv_iload_n hx hb dX11_list_49 rfl (lv_at hl 2 rfl) ?_
        refine lv_iadd hx hb dX11_list_50 ?_
        refine lv_iconst (v := (nI 0)) hx hb dX11_list_51 (by decide) ?_
        obtain ⟨h8, h⟩ := gg_s h
        refine fw_iast hx hb hK hG hP hS gF11.2.2.2.2.2.2.2.2.2.2.2.2.2.2.2.2.2.2.1.1 gF11.2.2.2.2.2.2.2.2.2.2.2.2.2.2.2.2.2.2.1.2 h8 dX11_list_52 (fun z9 H locs ez9 hP hS => ?_)
        replace h := gl_s h ez9
        refine lv_iinc (v := x3 + (nI 1)) (lv' := [(3, .int (x3 + (nI 1))), (0, .ref (ad 0)), (1, .int x1)]) hx hb dX11_list_53 hl (k := 2) rfl rfl (by decide) rfl (fun ls hl => ?_)
        refine lv_goto (tgt := 35) hx hb dX11_list_56 (by decide) ?_
        exact hK35 (x3 + (nI 1)) z9 _ _ ls h hP hS (lv_sub hl [1, 2, 0] rfl)
  unfold f_X11_list at h
  refine lv_iload_n hx hb dX11_list_0 rfl (lv_at hl 1 rfl) ?_
  obtain ⟨q1, hq1, h⟩ := gb_s h
  refine fw_siR (As := [.int a1]) (rest := []) ⟨hx, hb, hml, hown, hts⟩ (k_X11_isList l D cA ad tw hG z a1 q1 hq1) (va_cwS 1 hts gX11_list_X11_isList rfl rfl rfl hdS_X11_isList ⟨Nat.le_of_ble_eq_true rfl, Nat.le_of_ble_eq_true rfl⟩) hK hZ hP rfl hl _ rfl (Nat.le_of_ble_eq_true rfl) hS dX11_list_1 ⟨Nat.zero_le _, Nat.zero_le _⟩ (fun H locs hP hS => ?_)
  refine lv_if_ne (tgt := 9) hx hb dX11_list_4 (by decide) (fun c2 => ?_) (fun c2 => ?_)
  · replace h := gif_f h c2
    refine lv_iload_n hx hb dX11_list_9 rfl (lv_at hl 2 rfl) ?_
    refine lv_bipush (v := (nI 30)) hx hb dX11_list_10 (by decide) ?_
    refine lv_icmp_le (tgt := 18) hx hb dX11_list_12 (by decide) (fun c3 => ?_) (fun c3 => ?_)
    · replace h := gif_t h c3
      refine lv_iload_n hx hb dX11_list_18 rfl (lv_at hl 2 rfl) ?_
      refine lv_iconst (v := gm1) hx hb dX11_list_19 (by decide) ?_
      refine lv_icmp_ge (tgt := 26) hx hb dX11_list_20 (by decide) (fun c4 => ?_) (fun c4 => ?_)
      · replace h := gif_t h c4
        refine lv_aload_n hx hb dX11_list_26 rfl (lv_at hl 0 rfl) ?_
        refine fw_getr hx hb hts in_X11_list_X11 hown hK hP gF11.1.1 gF11.1.2 rfl 31 (by decide) rfl (hts _ (List.mem_of_getElem? (i := 1) rfl)) rfl dX11_list_27 ?_
        refine lv_iload_n hx hb dX11_list_30 rfl (lv_at hl 1 rfl) ?_
        refine lv_iload_n hx hb dX11_list_31 rfl (lv_at hl 2 rfl) ?_
        obtain ⟨h5, h⟩ := gg_s h
        refine fw_iast hx hb hK hG hP hS gF11.2.2.2.2.2.2.2.2.2.2.2.2.2.2.2.2.2.1.1 gF11.2.2.2.2.2.2.2.2.2.2.2.2.2.2.2.2.2.1.2 h5 dX11_list_32 (fun z6 H locs ez6 hP hS => ?_)
        replace h := gl_s h ez6
        refine lv_iconst (v := (nI 0)) hx hb dX11_list_33 (by decide) ?_
        refine lv_istore_n (lv' := [(3, .int (nI 0)), (0, .ref (ad 0)), (1, .int a1), (2, .int a2)]) hx hb dX11_list_34 rfl hl (by decide) rfl (fun ls hl => ?_)
        exact j35 a1 gF (nI 0) z6 _ _ ls h hP hS (lv_sub hl [1, 2, 0] rfl)
      · replace h := gif_f h c4
        refine lv_bipush (v := (-14)) hx hb dX11_list_23 (by decide) ?_
        exact fw_ireti hx hb hr hlocks (Option.some.inj h) hK hZ hP hS dX11_list_25
    · replace h := gif_f h c3
      refine lv_bipush (v := (-2)) hx hb dX11_list_15 (by decide) ?_
      exact fw_ireti hx hb hr hlocks (Option.some.inj h) hK hZ hP hS dX11_list_17
  · replace h := gif_t h c2
    refine lv_iconst (v := gm1) hx hb dX11_list_7 (by decide) ?_
    exact fw_ireti hx hb hr hlocks (Option.some.inj h) hK hZ hP hS dX11_list_8
theorem in_X11_put_X11 : ∀ w ∈ wsX110, w ∈ wsX11_put := fun w h => List.mem_cons_of_mem _ (List.mem_append_right _ (h))
theorem hdV_X11_put : yX11_put.cls = RX11 ∧ yX11_put.cls ≠ "java/lang/invoke/MethodHandle" ∧ yX11_put.cls ≠ "java/lang/invoke/VarHandle" ∧ (parseMethodDescriptor yX11_put.desc).map (fun d => d.parameters.length) = some 3 := by decide +kernel
set_option maxHeartbeats 4000000 in
set_option maxRecDepth 100000 in
theorem k_X11_put (l : Launch) (D : va_G) (cA : Nat → ClassId) (ad : Nat → Nat) (tw : Nat) (hG : gOk ad 22) (z : gS) (a1 : Int32) (a2 : Int32) (a3 : Int32) (res : Int32 × gS) (h : f_X11_put a1 a2 a3 z = some res) : gMi l yX11_put wsX11_put (gRm 2 42) D cA ad tw shM 22 [.ref (ad 0), .int a1, .int a2, .int a3] z res := by
  refine Met.ofW (cc := cX11_put) (maxL := 4) (ret := (some .int)) (by decide) rfl ?_
  intro p e s m args below meth c s₁ B hml hv
  obtain ⟨rfl, hP, hK, hZ⟩ := hv
  have hx := B.exec
  have hb := B.bytes
  have hr := B.returns
  have hts := atoms_spec (ws := wsX11_put) B.pre
  have hown : s.vm.findClass RX11 = some m.cls := findClass_of_methodNamed B.named
  have hlocks := B.notSynchronized
  have hS : va_S (gA ad 22) s.heap s.heap [] := va_S.rf
  have hl := lv_entry ([.ref (ad 0), .int a1, .int a2, .int a3]) (n := 4) (Nat.le_of_ble_eq_true rfl)
  rw [lg_entry_eq]
  generalize (lg_sl ([.ref (ad 0), .int a1, .int a2, .int a3]) ++ List.replicate (4 - (lg_sl ([.ref (ad 0), .int a1, .int a2, .int a3])).length) Slot.unset).toArray = ls at hl ⊢
  have hl : lv_has ls 4 [(0, .ref (ad 0)), (1, .int a1), (2, .int a2), (3, .int a3)] := hl
  unfold f_X11_put at h
  refine lv_iload_n hx hb dX11_put_0 rfl (lv_at hl 1 rfl) ?_
  obtain ⟨q1, hq1, h⟩ := gb_s h
  refine fw_siR (As := [.int a1]) (rest := []) ⟨hx, hb, hml, hown, hts⟩ (k_X11_isList l D cA ad tw hG z a1 q1 hq1) (va_cwS 1 hts gX11_put_X11_isList rfl rfl rfl hdS_X11_isList ⟨Nat.le_of_ble_eq_true rfl, Nat.le_of_ble_eq_true rfl⟩) hK hZ hP rfl hl _ rfl (Nat.le_of_ble_eq_true rfl) hS dX11_put_1 ⟨Nat.zero_le _, Nat.zero_le _⟩ (fun H locs hP hS => ?_)
  refine lv_if_ne (tgt := 9) hx hb dX11_put_4 (by decide) (fun c2 => ?_) (fun c2 => ?_)
  · replace h := gif_f h c2
    refine lv_aload_n hx hb dX11_put_9 rfl (lv_at hl 0 rfl) ?_
    refine fw_getr hx hb hts in_X11_put_X11 hown hK hP gF11.1.1 gF11.1.2 rfl 31 (by decide) rfl (hts _ (List.mem_of_getElem? (i := 1) rfl)) rfl dX11_put_10 ?_
    refine lv_iload_n hx hb dX11_put_13 rfl (lv_at hl 1 rfl) ?_
    obtain ⟨h3, h⟩ := gg_s h
    refine fw_iald hx hb hK hP gF11.2.2.2.2.2.2.2.2.2.2.2.2.2.2.2.2.2.1.1 gF11.2.2.2.2.2.2.2.2.2.2.2.2.2.2.2.2.2.1.2 h3 dX11_put_14 ?_
    refine lv_if_ge (tgt := 21) hx hb dX11_put_15 (by decide) (fun c4 => ?_) (fun c4 => ?_)
    · replace h := gif_t h c4
      refine lv_iload_n hx hb dX11_put_21 rfl (lv_at hl 2 rfl) ?_
      refine lv_iconst (v := (nI 0)) hx hb dX11_put_22 (by decide) ?_
      refine lv_aload_n hx hb dX11_put_23 rfl (lv_at hl 0 rfl) ?_
      refine fw_getr hx hb hts in_X11_put_X11 hown hK hP gF11.1.1 gF11.1.2 rfl 31 (by decide) rfl (hts _ (List.mem_of_getElem? (i := 1) rfl)) rfl dX11_put_24 ?_
      refine lv_iload_n hx hb dX11_put_27 rfl (lv_at hl 1 rfl) ?_
      obtain ⟨h5, h⟩ := gg_s h
      refine fw_iald hx hb hK hP gF11.2.2.2.2.2.2.2.2.2.2.2.2.2.2.2.2.2.1.1 gF11.2.2.2.2.2.2.2.2.2.2.2.2.2.2.2.2.2.1.2 h5 dX11_put_28 ?_
      refine lv_iconst (v := (nI 1)) hx hb dX11_put_29 (by decide) ?_
      refine lv_isub hx hb dX11_put_30 ?_
      obtain ⟨q6, hq6, h⟩ := gb_s h
      refine fw_siR (As := [.int a2, .int (nI 0), .int ((z 17 a1.toNatClampNeg) - (nI 1))]) (rest := []) ⟨hx, hb, hml, hown, hts⟩ (k_X11_in l D cA ad tw hG z a2 (nI 0) ((z 17 a1.toNatClampNeg) - (nI 1)) q6 hq6) (va_cwS 3 hts gX11_put_X11_in rfl rfl rfl hdS_X11_in ⟨Nat.le_of_ble_eq_true rfl, Nat.le_of_ble_eq_true rfl⟩) hK hZ hP rfl hl _ rfl (Nat.le_of_ble_eq_true rfl) hS dX11_put_31 ⟨Nat.zero_le _, Nat.zero_le _⟩ (fun H locs hP hS => ?_)
      refine lv_if_ne (tgt := 40) hx hb dX11_put_34 (by decide) (fun c7 => ?_) (fun c7 => ?_)
      · replace h := gif_f h c7
        refine lv_aload_n hx hb dX11_put_40 rfl (lv_at hl 0 rfl) ?_
        refine fw_getr hx hb hts in_X11_put_X11 hown hK hP gF11.1.1 gF11.1.2 rfl 32 (by decide) rfl (hts _ (List.mem_of_getElem? (i := 2) rfl)) rfl dX11_put_41 ?_
        refine lv_bipush (v := (nI 30)) hx hb dX11_put_44 (by decide) ?_
        refine lv_iload_n hx hb dX11_put_46 rfl (lv_at hl 1 rfl) ?_
        refine lv_imul hx hb dX11_put_47 ?_
        refine lv_iload_n hx hb dX11_put_48 rfl (lv_at hl 2 rfl) ?_
        refine lv_iadd hx hb dX11_put_49 ?_
        refine lv_iload_n hx hb dX11_put_50 rfl (lv_at hl 3 rfl) ?_
        obtain ⟨h8, h⟩ := gg_s h
        refine fw_iast hx hb hK hG hP hS gF11.2.2.2.2.2.2.2.2.2.2.2.2.2.2.2.2.2.2.1.1 gF11.2.2.2.2.2.2.2.2.2.2.2.2.2.2.2.2.2.2.1.2 h8 dX11_put_51 (fun z9 H locs ez9 hP hS => ?_)
        replace h := gl_s h ez9
        refine lv_iconst (v := (nI 1)) hx hb dX11_put_52 (by decide) ?_
        exact fw_ireti hx hb hr hlocks (Option.some.inj h) hK hZ hP hS dX11_put_53
      · replace h := gif_t h c7
        refine lv_bipush (v := (-12)) hx hb dX11_put_37 (by decide) ?_
        exact fw_ireti hx hb hr hlocks (Option.some.inj h) hK hZ hP hS dX11_put_39
    · replace h := gif_f h c4
      refine lv_bipush (v := (-11)) hx hb dX11_put_18 (by decide) ?_
      exact fw_ireti hx hb hr hlocks (Option.some.inj h) hK hZ hP hS dX11_put_20
  · replace h := gif_t h c2
    refine lv_iconst (v := gm1) hx hb dX11_put_7 (by decide) ?_
    exact fw_ireti hx hb hr hlocks (Option.some.inj h) hK hZ hP hS dX11_put_8
theorem in_X11_get_X11 : ∀ w ∈ wsX110, w ∈ wsX11_get := fun w h => List.mem_cons_of_mem _ (List.mem_append_right _ (h))
theorem hdV_X11_get : yX11_get.cls = RX11 ∧ yX11_get.cls ≠ "java/lang/invoke/MethodHandle" ∧ yX11_get.cls ≠ "java/lang/invoke/VarHandle" ∧ (parseMethodDescriptor yX11_get.desc).map (fun d => d.parameters.length) = some 2 := by decide +kernel
set_option maxHeartbeats 4000000 in
set_option maxRecDepth 100000 in
theorem k_X11_get (l : Launch) (D : va_G) (cA : Nat → ClassId) (ad : Nat → Nat) (tw : Nat) (hG : gOk ad 22) (z : gS) (a1 : Int32) (a2 : Int32) (res : Int32) (h : f_X11_get a1 a2 z = some res) : gMi l yX11_get wsX11_get (gRm 2 42) D cA ad tw shM 22 [.ref (ad 0), .int a1, .int a2] z (res, z) := by
  refine Met.ofW (cc := cX11_get) (maxL := 3) (ret := (some .int)) (by decide) rfl ?_
  intro p e s m args below meth c s₁ B hml hv
  obtain ⟨rfl, hP, hK, hZ⟩ := hv
  have hx := B.exec
  have hb := B.bytes
  have hr := B.returns
  have hts := atoms_spec (ws := wsX11_get) B.pre
  have hown : s.vm.findClass RX11 = some m.cls := findClass_of_methodNamed B.named
  have hlocks := B.notSynchronized
  have hS : va_S (gA ad 22) s.heap s.heap [] := va_S.rf
  have hl := lv_entry ([.ref (ad 0), .int a1, .int a2]) (n := 3) (Nat.le_of_ble_eq_true rfl)
  rw [lg_entry_eq]
  generalize (lg_sl ([.ref (ad 0), .int a1, .int a2]) ++ List.replicate (3 - (lg_sl ([.ref (ad 0), .int a1, .int a2])).length) Slot.unset).toArray = ls at hl ⊢
  have hl : lv_has ls 3 [(0, .ref (ad 0)), (1, .int a1), (2, .int a2)] := hl
  unfold f_X11_get at h
  refine lv_iload_n hx hb dX11_get_0 rfl (lv_at hl 1 rfl) ?_
  obtain ⟨q1, hq1, h⟩ := gb_s h
  refine fw_siR (As := [.int a1]) (rest := []) ⟨hx, hb, hml, hown, hts⟩ (k_X11_isList l D cA ad tw hG z a1 q1 hq1) (va_cwS 1 hts gX11_get_X11_isList rfl rfl rfl hdS_X11_isList ⟨Nat.le_of_ble_eq_true rfl, Nat.le_of_ble_eq_true rfl⟩) hK hZ hP rfl hl _ rfl (Nat.le_of_ble_eq_true rfl) hS dX11_get_1 ⟨Nat.zero_le _, Nat.zero_le _⟩ (fun H locs hP hS => ?_)
  refine lv_if_eq (tgt := 37) hx hb dX11_get_4 (by decide) (fun c2 => ?_) (fun c2 => ?_)
  · replace h := gif_t h c2
    refine lv_ldcw (v := (-2000000000)) hx hb hown (hts _ (List.mem_of_getElem? (i := 3) rfl)) dX11_get_37 ?_
    exact fw_ireti hx hb hr hlocks (congrArg (fun q => (q, z)) (Option.some.inj h)) hK hZ hP hS dX11_get_40
  · replace h := gif_f h c2
    refine lv_iload_n hx hb dX11_get_7 rfl (lv_at hl 2 rfl) ?_
    refine lv_iconst (v := (nI 0)) hx hb dX11_get_8 (by decide) ?_
    refine lv_aload_n hx hb dX11_get_9 rfl (lv_at hl 0 rfl) ?_
    refine fw_getr hx hb hts in_X11_get_X11 hown hK hP gF11.1.1 gF11.1.2 rfl 31 (by decide) rfl (hts _ (List.mem_of_getElem? (i := 1) rfl)) rfl dX11_get_10 ?_
    refine lv_iload_n hx hb dX11_get_13 rfl (lv_at hl 1 rfl) ?_
    obtain ⟨h3, h⟩ := gg_s h
    refine fw_iald hx hb hK hP gF11.2.2.2.2.2.2.2.2.2.2.2.2.2.2.2.2.2.1.1 gF11.2.2.2.2.2.2.2.2.2.2.2.2.2.2.2.2.2.1.2 h3 dX11_get_14 ?_
    refine lv_iconst (v := (nI 1)) hx hb dX11_get_15 (by decide) ?_
    refine lv_isub hx hb dX11_get_16 ?_
    obtain ⟨q4, hq4, h⟩ := gb_s h
    refine fw_siR (As := [.int a2, .int (nI 0), .int ((z 17 a1.toNatClampNeg) - (nI 1))]) (rest := []) ⟨hx, hb, hml, hown, hts⟩ (k_X11_in l D cA ad tw hG z a2 (nI 0) ((z 17 a1.toNatClampNeg) - (nI 1)) q4 hq4) (va_cwS 3 hts gX11_get_X11_in rfl rfl rfl hdS_X11_in ⟨Nat.le_of_ble_eq_true rfl, Nat.le_of_ble_eq_true rfl⟩) hK hZ hP rfl hl _ rfl (Nat.le_of_ble_eq_true rfl) hS dX11_get_17 ⟨Nat.zero_le _, Nat.zero_le _⟩ (fun H locs hP hS => ?_)
    refine lv_if_eq (tgt := 37) hx hb dX11_get_20 (by decide) (fun c5 => ?_) (fun c5 => ?_)
    · replace h := gif_t h c5
      refine lv_ldcw (v := (-2000000000)) hx hb hown (hts _ (List.mem_of_getElem? (i := 3) rfl)) dX11_get_37 ?_
      exact fw_ireti hx hb hr hlocks (congrArg (fun q => (q, z)) (Option.some.inj h)) hK hZ hP hS dX11_get_40
    · replace h := gif_f h c5
      refine lv_aload_n hx hb dX11_get_23 rfl (lv_at hl 0 rfl) ?_
      refine fw_getr hx hb hts in_X11_get_X11 hown hK hP gF11.1.1 gF11.1.2 rfl 32 (by decide) rfl (hts _ (List.mem_of_getElem? (i := 2) rfl)) rfl dX11_get_24 ?_
      refine lv_bipush (v := (nI 30)) hx hb dX11_get_27 (by decide) ?_
      refine lv_iload_n hx hb dX11_get_29 rfl (lv_at hl 1 rfl) ?_
      refine lv_imul hx hb dX11_get_30 ?_
      refine lv_iload_n hx hb dX11_get_31 rfl (lv_at hl 2 rfl) ?_
      refine lv_iadd hx hb dX11_get_32 ?_
      obtain ⟨h6, h⟩ := gg_s h
      refine fw_iald hx hb hK hP gF11.2.2.2.2.2.2.2.2.2.2.2.2.2.2.2.2.2.2.1.1 gF11.2.2.2.2.2.2.2.2.2.2.2.2.2.2.2.2.2.2.1.2 h6 dX11_get_33 ?_
      refine lv_goto (tgt := 40) hx hb dX11_get_34 (by decide) ?_
      exact fw_ireti hx hb hr hlocks (congrArg (fun q => (q, z)) (Option.some.inj h)) hK hZ hP hS dX11_get_40
theorem in_X11_fill_X11 : ∀ w ∈ wsX110, w ∈ wsX11_fill := fun w h => List.mem_cons_of_mem _ (List.mem_append_right _ (h))
theorem hdV_X11_fill : yX11_fill.cls = RX11 ∧ yX11_fill.cls ≠ "java/lang/invoke/MethodHandle" ∧ yX11_fill.cls ≠ "java/lang/invoke/VarHandle" ∧ (parseMethodDescriptor yX11_fill.desc).map (fun d => d.parameters.length) = some 2 := by decide +kernel
set_option maxHeartbeats 4000000 in
set_option maxRecDepth 100000 in
theorem k_X11_fill (l : Launch) (D : va_G) (cA : Nat → ClassId) (ad : Nat → Nat) (tw : Nat) (hG : gOk ad 22) (z : gS) (a1 : Int32) (a2 : Int32) (res : Int32 × gS) (h : f_X11_fill a1 a2 z = some res) : gMi l yX11_fill wsX11_fill (gRm 4 89) D cA ad tw shM 22 [.ref (ad 0), .int a1, .int a2] z res := by
  refine Met.ofW (cc := cX11_fill) (maxL := 4) (ret := (some .int)) (by decide) rfl ?_
  intro p e s m args below meth c s₁ B hml hv
  obtain ⟨rfl, hP, hK, hZ⟩ := hv
  have hx := B.exec
  have hb := B.bytes
  have hr := B.returns
  have hts := atoms_spec (ws := wsX11_fill) B.pre
  have hown : s.vm.findClass RX11 = some m.cls := findClass_of_methodNamed B.named
  have hlocks := B.notSynchronized
  have hS : va_S (gA ad 22) s.heap s.heap [] := va_S.rf
  have hl := lv_entry ([.ref (ad 0), .int a1, .int a2]) (n := 4) (Nat.le_of_ble_eq_true rfl)
  rw [lg_entry_eq]
  generalize (lg_sl ([.ref (ad 0), .int a1, .int a2]) ++ List.replicate (4 - (lg_sl ([.ref (ad 0), .int a1, .int a2])).length) Slot.unset).toArray = ls at hl ⊢
  have hl : lv_has ls 4 [(0, .ref (ad 0)), (1, .int a1), (2, .int a2)] := hl
  have j34 : ∀ (x1 : Int32) (x2 : Int32) (n : Nat) (x3 : Int32) (z : gS) (H : Heap) (locs : List Loc) (ls : Array Slot), f_X11_fill_34 x1 x2 n x3 z = some res → va_P D vwCl (gw cA ad shM 22 z) H → va_S (gA ad 22) s.heap H locs → lv_has ls 4 [(0, .ref (ad 0)), (1, .int x1), (2, .int x2), (3, .int x3)] → W p l e (headSpec wsX11_fill (gRm 4 89)).room s m ([.ref (ad 0), .int a1, .int a2] : List Value).toArray below meth c H locs 0 0 (MQ below (va_Qi (fun r u => (r, u) = res) (gPr D cA ad tw shM 22) (gA ad 22)) ([.ref (ad 0), .int a1, .int a2] : List Value).toArray s 0 0 (gA ad 22)) (F0 m 34 ls []) := by
    intro x1 x2 n
    induction n with
    | zero => intro x3 z H locs ls h; exact (gno h).elim
    | succ n hK34 =>
      intro x3 z H locs ls h hP hS hl
      replace h : f_X11_fill_34_b x1 x2 (f_X11_fill_34 x1 x2 n) x3 z = some res := h
      unfold f_X11_fill_34_b at h
      refine lv_iload_n hx hb dX11_fill_34 rfl (lv_at hl 3 rfl) ?_
      refine lv_aload_n hx hb dX11_fill_35 rfl (lv_at hl 0 rfl) ?_
      refine fw_getr hx hb hts in_X11_fill_X11 hown hK hP gF11.1.1 gF11.1.2 rfl 31 (by decide) rfl (hts _ (List.mem_of_getElem? (i := 1) rfl)) rfl dX11_fill_36 ?_
      refine lv_iload_n hx hb dX11_fill_39 rfl (lv_at hl 1 rfl) ?_
      obtain ⟨h7, h⟩ := gg_s h
      refine fw_iald hx hb hK hP gF11.2.2.2.2.2.2.2.2.2.2.2.2.2.2.2.2.2.1.1 gF11.2.2.2.2.2.2.2.2.2.2.2.2.2.2.2.2.2.1.2 h7 dX11_fill_40 ?_
      refine lv_icmp_ge (tgt := 79) hx hb dX11_fill_41 (by decide) (fun c8 => ?_) (fun c8 => ?_)
      · replace h := gif_t h c8
        refine lv_iload_n hx hb dX11_fill_79 rfl (lv_at hl 3 rfl) ?_
        exact fw_ireti hx hb hr hlocks (Option.some.inj h) hK hZ hP hS dX11_fill_80
      · replace h := gif_f h c8
        refine lv_iload_n hx hb dX11_fill_44 rfl (lv_at hl 3 rfl) ?_
        refine lv_aload_n hx hb dX11_fill_45 rfl (lv_at hl 0 rfl) ?_
        refine fw_geti hx hb hts in_X11_fill_X11 hown hK hP gF11.1.1 gF11.1.2 rfl 10 (by decide) rfl (hts _ (List.mem_of_getElem? (i := 2) rfl)) rfl dX11_fill_46 ?_
        refine lv_iload_n hx hb dX11_fill_49 rfl (lv_at hl 2 rfl) ?_
        refine lv_isub hx hb dX11_fill_50 ?_
        refine lv_icmp_ge (tgt := 79) hx hb dX11_fill_51 (by decide) (fun c9 => ?_) (fun c9 => ?_)
        · replace h := gif_t h c9
          refine lv_iload_n hx hb dX11_fill_79 rfl (lv_at hl 3 rfl) ?_
          exact fw_ireti hx hb hr hlocks (Option.some.inj h) hK hZ hP hS dX11_fill_80
        · replace h := gif_f h c9
          refine lv_aload_n hx hb dX11_fill_54 rfl (lv_at hl 0 rfl) ?_
          refine fw_getr hx hb hts in_X11_fill_X11 hown hK hP gF11.1.1 gF11.1.2 rfl 32 (by decide) rfl (hts _ (List.mem_of_getElem? (i := 3) rfl)) rfl dX11_fill_55 ?_
          refine lv_bipush (v := (nI 30)) hx hb dX11_fill_58 (by decide) ?_
          refine lv_iload_n hx hb dX11_fill_60 rfl (lv_at hl 1 rfl) ?_
          refine lv_imul hx hb dX11_fill_61 ?_
          refine lv_iload_n hx hb dX11_fill_62 rfl (lv_at hl 3 rfl) ?_
          refine lv_iadd hx hb dX11_fill_63 ?_
          refine lv_aload_n hx hb dX11_fill_64 rfl (lv_at hl 0 rfl) ?_
          refine fw_getr hx hb hts in_X11_fill_X11 hown hK hP gF11.1.1 gF11.1.2 rfl 9 (by decide) rfl (hts _ (List.mem_of_getElem? (i := 4) rfl)) rfl dX11_fill_65 ?_
          refine lv_iload_n hx hb dX11_fill_68 rfl (lv_at hl 2 rfl) ?_
          refine lv_iload_n hx hb dX11_fill_69 rfl (lv_at hl 3 rfl) ?_
          refine lv_iadd hx hb dX11_fill_70 ?_
          obtain ⟨h10, h⟩ := gg_s h
          refine fw_iald hx hb hK hP gF11.2.2.2.2.2.1.1 gF11.2.2.2.2.2.1.2 h10 dX11_fill_71 ?_
          obtain ⟨h11, h⟩ := gg_s h
          refine fw_iast hx hb hK hG hP hS gF11.2.2.2.2.2.2.2.2.2.2.2.2.2.2.2.2.2.2.1.1 gF11.2.2.2.2.2.2.2.2.2.2.2.2.2.2.2.2.2.2.1.2 h11 dX11_fill_72 (fun z12 H locs ez12 hP hS => ?_)
          replace h := gl_s h ez12
          refine lv_iinc (v := x3 + (nI 1)) (lv' := [(3, .int (x3 + (nI 1))), (0, .ref (ad 0)), (1, .int x1), (2, .int x2)]) hx hb dX11_fill_73 hl (k := 3) rfl rfl (by decide) rfl (fun ls hl => ?_)
          refine lv_goto (tgt := 34) hx hb dX11_fill_76 (by decide) ?_
          exact hK34 (x3 + (nI 1)) z12 _ _ ls h hP hS (lv_sub hl [1, 2, 3, 0] rfl)
  unfold f_X11_fill at h
  refine lv_iload_n hx hb dX11_fill_0 rfl (lv_at hl 1 rfl) ?_
  obtain ⟨q1, hq1, h⟩ := gb_s h
  refine fw_siR (As := [.int a1]) (rest := []) ⟨hx, hb, hml, hown, hts⟩ (k_X11_isList l D cA ad tw hG z a1 q1 hq1) (va_cwS 1 hts gX11_fill_X11_isList rfl rfl rfl hdS_X11_isList ⟨Nat.le_of_ble_eq_true rfl, Nat.le_of_ble_eq_true rfl⟩) hK hZ hP rfl hl _ rfl (Nat.le_of_ble_eq_true rfl) hS dX11_fill_1 ⟨Nat.zero_le _, Nat.zero_le _⟩ (fun H locs hP hS => ?_)
  refine lv_if_ne (tgt := 9) hx hb dX11_fill_4 (by decide) (fun c2 => ?_) (fun c2 => ?_)
  · replace h := gif_f h c2
    refine lv_iload_n hx hb dX11_fill_9 rfl (lv_at hl 2 rfl) ?_
    refine lv_if_ge (tgt := 16) hx hb dX11_fill_10 (by decide) (fun c3 => ?_) (fun c3 => ?_)
    · replace h := gif_t h c3
      refine lv_aload_n hx hb dX11_fill_16 rfl (lv_at hl 0 rfl) ?_
      refine fw_getr hx hb hts in_X11_fill_X11 hown hK hP gF11.1.1 gF11.1.2 rfl 31 (by decide) rfl (hts _ (List.mem_of_getElem? (i := 1) rfl)) rfl dX11_fill_17 ?_
      refine lv_iload_n hx hb dX11_fill_20 rfl (lv_at hl 1 rfl) ?_
      obtain ⟨h4, h⟩ := gg_s h
      refine fw_iald hx hb hK hP gF11.2.2.2.2.2.2.2.2.2.2.2.2.2.2.2.2.2.1.1 gF11.2.2.2.2.2.2.2.2.2.2.2.2.2.2.2.2.2.1.2 h4 dX11_fill_21 ?_
      refine lv_if_ge (tgt := 28) hx hb dX11_fill_22 (by decide) (fun c5 => ?_) (fun c5 => ?_)
      · replace h := gif_t h c5
        refine lv_aload_n hx hb dX11_fill_28 rfl (lv_at hl 0 rfl) ?_
        obtain ⟨q6, hq6, h⟩ := gb_s h
        refine fw_vv (As := []) (rest := []) ⟨hx, hb, hml, hown, hts⟩ (k_X11_gaplessOnes l D cA ad tw hG z  q6 hq6) (cwV 0 hts gX11_fill_X11_gaplessOnes rfl rfl rfl hdV_X11_gaplessOnes ⟨Nat.le_of_ble_eq_true rfl, Nat.le_of_ble_eq_true rfl⟩) (fw_preV gF11.1.1 gF11.1.2 rfl rfl hK hZ hP hS) rfl hl _ rfl (Nat.le_of_ble_eq_true rfl) hS dX11_fill_29 ⟨Nat.zero_le _, Nat.zero_le _⟩ (fun H locs hP hS => ?_)
        refine lv_iconst (v := (nI 0)) hx hb dX11_fill_32 (by decide) ?_
        refine lv_istore_n (lv' := [(3, .int (nI 0)), (0, .ref (ad 0)), (1, .int a1), (2, .int a2)]) hx hb dX11_fill_33 rfl hl (by decide) rfl (fun ls hl => ?_)
        exact j34 a1 a2 gF (nI 0) q6 _ _ ls h hP hS (lv_sub hl [1, 2, 3, 0] rfl)
      · replace h := gif_f h c5
        refine lv_bipush (v := (-11)) hx hb dX11_fill_25 (by decide) ?_
        exact fw_ireti hx hb hr hlocks (Option.some.inj h) hK hZ hP hS dX11_fill_27
    · replace h := gif_f h c3
      refine lv_bipush (v := (-2)) hx hb dX11_fill_13 (by decide) ?_
      exact fw_ireti hx hb hr hlocks (Option.some.inj h) hK hZ hP hS dX11_fill_15
  · replace h := gif_t h c2
    refine lv_iconst (v := gm1) hx hb dX11_fill_7 (by decide) ?_
    exact fw_ireti hx hb hr hlocks (Option.some.inj h) hK hZ hP hS dX11_fill_8
theorem in_X11_isSo_X11 : ∀ w ∈ wsX110, w ∈ wsX11_isSo := fun w h => List.mem_cons_of_mem _ (List.mem_append_right _ (h))
theorem hdV_X11_isSo : yX11_isSo.cls = RX11 ∧ yX11_isSo.cls ≠ "java/lang/invoke/MethodHandle" ∧ yX11_isSo.cls ≠ "java/lang/invoke/VarHandle" ∧ (parseMethodDescriptor yX11_isSo.desc).map (fun d => d.parameters.length) = some 3 := by decide +kernel
set_option maxHeartbeats 4000000 in
set_option maxRecDepth 100000 in
theorem k_X11_isSo (l : Launch) (D : va_G) (cA : Nat → ClassId) (ad : Nat → Nat) (tw : Nat) (hG : gOk ad 22) (z : gS) (a1 : Int32) (a2 : Int32) (a3 : Int32) (res : Int32 × gS) (h : f_X11_isSo a1 a2 a3 z = some res) : gMi l yX11_isSo wsX11_isSo (gRm 3 68) D cA ad tw shM 22 [.ref (ad 0), .int a1, .int a2, .int a3] z res := by
  refine Met.ofW (cc := cX11_isSo) (maxL := 4) (ret := (some .boolean)) (by decide) rfl ?_
  intro p e s m args below meth c s₁ B hml hv
  obtain ⟨rfl, hP, hK, hZ⟩ := hv
  have hx := B.exec
  have hb := B.bytes
  have hr := B.returns
  have hts := atoms_spec (ws := wsX11_isSo) B.pre
  have hown : s.vm.findClass RX11 = some m.cls := findClass_of_methodNamed B.named
  have hlocks := B.notSynchronized
  have hS : va_S (gA ad 22) s.heap s.heap [] := va_S.rf
  have hl := lv_entry ([.ref (ad 0), .int a1, .int a2, .int a3]) (n := 4) (Nat.le_of_ble_eq_true rfl)
  rw [lg_entry_eq]
  generalize (lg_sl ([.ref (ad 0), .int a1, .int a2, .int a3]) ++ List.replicate (4 - (lg_sl ([.ref (ad 0), .int a1, .int a2, .int a3])).length) Slot.unset).toArray = ls at hl ⊢
  have hl : lv_has ls 4 [(0, .ref (ad 0)), (1, .int a1), (2, .int a2), (3, .int a3)] := hl
  unfold f_X11_isSo at h
  refine lv_iload_n hx hb dX11_isSo_0 rfl (lv_at hl 3 rfl) ?_
  refine lv_iconst (v := (nI 2)) hx hb dX11_isSo_1 (by decide) ?_
  refine lv_icmp_ne (tgt := 29) hx hb dX11_isSo_2 (by decide) (fun c1 => ?_) (fun c1 => ?_)
  · replace h := gif_f h c1
    refine lv_aload_n hx hb dX11_isSo_29 rfl (lv_at hl 0 rfl) ?_
    refine lv_iload_n hx hb dX11_isSo_30 rfl (lv_at hl 1 rfl) ?_
    obtain ⟨q2, hq2, h⟩ := gb_s h
    refine fw_vi (As := [.int a1]) (rest := []) ⟨hx, hb, hml, hown, hts⟩ (k_X11_isOrder l D cA ad tw hG z a1 q2 hq2) (cwV 1 hts gX11_isSo_X11_isOrder rfl rfl rfl hdV_X11_isOrder ⟨Nat.le_of_ble_eq_true rfl, Nat.le_of_ble_eq_true rfl⟩) (fw_preV gF11.1.1 gF11.1.2 rfl rfl hK hZ hP hS) rfl hl _ rfl (Nat.le_of_ble_eq_true rfl) hS dX11_isSo_31 ⟨Nat.zero_le _, Nat.zero_le _⟩ (fun H locs hP hS => ?_)
    refine lv_if_eq (tgt := 52) hx hb dX11_isSo_34 (by decide) (fun c3 => ?_) (fun c3 => ?_)
    · replace h := gif_t h c3
      refine lv_iconst (v := (nI 0)) hx hb dX11_isSo_52 (by decide) ?_
      exact fw_iretz hx hb hr hlocks (by decide) (Option.some.inj h) hK hZ hP hS dX11_isSo_53
    · replace h := gif_f h c3
      refine lv_iload_n hx hb dX11_isSo_37 rfl (lv_at hl 3 rfl) ?_
      refine lv_if_eq (tgt := 48) hx hb dX11_isSo_38 (by decide) (fun c4 => ?_) (fun c4 => ?_)
      · replace h := gif_t h c4
        refine lv_iconst (v := (nI 1)) hx hb dX11_isSo_48 (by decide) ?_
        refine lv_goto (tgt := 53) hx hb dX11_isSo_49 (by decide) ?_
        exact fw_iretz hx hb hr hlocks (by decide) (Option.some.inj h) hK hZ hP hS dX11_isSo_53
      · replace h := gif_f h c4
        refine lv_aload_n hx hb dX11_isSo_41 rfl (lv_at hl 0 rfl) ?_
        obtain ⟨q5, hq5, h⟩ := gb_s h
        refine fw_viR (As := []) (rest := []) ⟨hx, hb, hml, hown, hts⟩ (k_X11_gapsNow l D cA ad tw hG q2.2  q5 hq5) (cwV 0 hts gX11_isSo_X11_gapsNow rfl rfl rfl hdV_X11_gapsNow ⟨Nat.le_of_ble_eq_true rfl, Nat.le_of_ble_eq_true rfl⟩) (fw_preV gF11.1.1 gF11.1.2 rfl rfl hK hZ hP hS) rfl hl _ rfl (Nat.le_of_ble_eq_true rfl) hS dX11_isSo_42 ⟨Nat.zero_le _, Nat.zero_le _⟩ (fun H locs hP hS => ?_)
        refine lv_if_ne (tgt := 52) hx hb dX11_isSo_45 (by decide) (fun c6 => ?_) (fun c6 => ?_)
        · replace h := gif_f h c6
          refine lv_iconst (v := (nI 0)) hx hb dX11_isSo_52 (by decide) ?_
          exact fw_iretz hx hb hr hlocks (by decide) (Option.some.inj h) hK hZ hP hS dX11_isSo_53
        · replace h := gif_t h c6
          refine lv_iconst (v := (nI 1)) hx hb dX11_isSo_48 (by decide) ?_
          refine lv_goto (tgt := 53) hx hb dX11_isSo_49 (by decide) ?_
          exact fw_iretz hx hb hr hlocks (by decide) (Option.some.inj h) hK hZ hP hS dX11_isSo_53
  · replace h := gif_t h c1
    refine lv_iload_n hx hb dX11_isSo_5 rfl (lv_at hl 2 rfl) ?_
    refine lv_aload_n hx hb dX11_isSo_6 rfl (lv_at hl 0 rfl) ?_
    refine fw_geti hx hb hts in_X11_isSo_X11 hown hK hP gF11.1.1 gF11.1.2 rfl 10 (by decide) rfl (hts _ (List.mem_of_getElem? (i := 1) rfl)) rfl dX11_isSo_7 ?_
    refine lv_icmp_ge (tgt := 27) hx hb dX11_isSo_10 (by decide) (fun c7 => ?_) (fun c7 => ?_)
    · replace h := gif_t h c7
      refine lv_iconst (v := (nI 0)) hx hb dX11_isSo_27 (by decide) ?_
      exact fw_iretz hx hb hr hlocks (by decide) (Option.some.inj h) hK hZ hP hS dX11_isSo_28
    · replace h := gif_f h c7
      refine lv_aload_n hx hb dX11_isSo_13 rfl (lv_at hl 0 rfl) ?_
      refine fw_getr hx hb hts in_X11_isSo_X11 hown hK hP gF11.1.1 gF11.1.2 rfl 9 (by decide) rfl (hts _ (List.mem_of_getElem? (i := 2) rfl)) rfl dX11_isSo_14 ?_
      refine lv_iload_n hx hb dX11_isSo_17 rfl (lv_at hl 2 rfl) ?_
      obtain ⟨h8, h⟩ := gg_s h
      refine fw_iald hx hb hK hP gF11.2.2.2.2.2.1.1 gF11.2.2.2.2.2.1.2 h8 dX11_isSo_18 ?_
      refine lv_iload_n hx hb dX11_isSo_19 rfl (lv_at hl 1 rfl) ?_
      refine lv_icmp_ne (tgt := 27) hx hb dX11_isSo_20 (by decide) (fun c9 => ?_) (fun c9 => ?_)
      · replace h := gif_f h c9
        refine lv_iconst (v := (nI 0)) hx hb dX11_isSo_27 (by decide) ?_
        exact fw_iretz hx hb hr hlocks (by decide) (Option.some.inj h) hK hZ hP hS dX11_isSo_28
      · replace h := gif_t h c9
        refine lv_iconst (v := (nI 1)) hx hb dX11_isSo_23 (by decide) ?_
        refine lv_goto (tgt := 28) hx hb dX11_isSo_24 (by decide) ?_
        exact fw_iretz hx hb hr hlocks (by decide) (Option.some.inj h) hK hZ hP hS dX11_isSo_28
theorem in_X11_judge_X11 : ∀ w ∈ wsX110, w ∈ wsX11_judge := fun w h => List.mem_cons_of_mem _ (List.mem_append_right _ (h))
theorem hdV_X11_judge : yX11_judge.cls = RX11 ∧ yX11_judge.cls ≠ "java/lang/invoke/MethodHandle" ∧ yX11_judge.cls ≠ "java/lang/invoke/VarHandle" ∧ (parseMethodDescriptor yX11_judge.desc).map (fun d => d.parameters.length) = some 2 := by decide +kernel
set_option maxHeartbeats 4000000 in
set_option maxRecDepth 100000 in
theorem k_X11_judge (l : Launch) (D : va_G) (cA : Nat → ClassId) (ad : Nat → Nat) (tw : Nat) (hG : gOk ad 22) (z : gS) (a1 : Int32) (a2 : Int32) (res : Int32 × gS) (h : f_X11_judge a1 a2 z = some res) : gMi l yX11_judge wsX11_judge (gRm 4 91) D cA ad tw shM 22 [.ref (ad 0), .int a1, .int a2] z res := by
  refine Met.ofW (cc := cX11_judge) (maxL := 4) (ret := (some .int)) (by decide) rfl ?_
  intro p e s m args below meth c s₁ B hml hv
  obtain ⟨rfl, hP, hK, hZ⟩ := hv
  have hx := B.exec
  have hb := B.bytes
  have hr := B.returns
  have hts := atoms_spec (ws := wsX11_judge) B.pre
  have hown : s.vm.findClass RX11 = some m.cls := findClass_of_methodNamed B.named
  have hlocks := B.notSynchronized
  have hS : va_S (gA ad 22) s.heap s.heap [] := va_S.rf
  have hl := lv_entry ([.ref (ad 0), .int a1, .int a2]) (n := 4) (Nat.le_of_ble_eq_true rfl)
  rw [lg_entry_eq]
  generalize (lg_sl ([.ref (ad 0), .int a1, .int a2]) ++ List.replicate (4 - (lg_sl ([.ref (ad 0), .int a1, .int a2])).length) Slot.unset).toArray = ls at hl ⊢
  have hl : lv_has ls 4 [(0, .ref (ad 0)), (1, .int a1), (2, .int a2)] := hl
  have j44 : ∀ (x1 : Int32) (x2 : Int32) (n : Nat) (x3 : Int32) (z : gS) (H : Heap) (locs : List Loc) (ls : Array Slot), f_X11_judge_44 x1 x2 n x3 z = some res → va_P D vwCl (gw cA ad shM 22 z) H → va_S (gA ad 22) s.heap H locs → lv_has ls 4 [(0, .ref (ad 0)), (1, .int x1), (2, .int x2), (3, .int x3)] → W p l e (headSpec wsX11_judge (gRm 4 91)).room s m ([.ref (ad 0), .int a1, .int a2] : List Value).toArray below meth c H locs 0 0 (MQ below (va_Qi (fun r u => (r, u) = res) (gPr D cA ad tw shM 22) (gA ad 22)) ([.ref (ad 0), .int a1, .int a2] : List Value).toArray s 0 0 (gA ad 22)) (F0 m 44 ls []) := by
    intro x1 x2 n
    induction n with
    | zero => intro x3 z H locs ls h; exact (gno h).elim
    | succ n hK44 =>
      intro x3 z H locs ls h hP hS hl
      replace h : f_X11_judge_44_b x1 x2 (f_X11_judge_44 x1 x2 n) x3 z = some res := h
      unfold f_X11_judge_44_b at h
      refine lv_iload_n hx hb dX11_judge_44 rfl (lv_at hl 3 rfl) ?_
      refine lv_aload_n hx hb dX11_judge_45 rfl (lv_at hl 0 rfl) ?_
      refine fw_getr hx hb hts in_X11_judge_X11 hown hK hP gF11.1.1 gF11.1.2 rfl 31 (by decide) rfl (hts _ (List.mem_of_getElem? (i := 1) rfl)) rfl dX11_judge_46 ?_
      refine lv_iload_n hx hb dX11_judge_49 rfl (lv_at hl 1 rfl) ?_
      obtain ⟨h9, h⟩ := gg_s h
      refine fw_iald hx hb hK hP gF11.2.2.2.2.2.2.2.2.2.2.2.2.2.2.2.2.2.1.1 gF11.2.2.2.2.2.2.2.2.2.2.2.2.2.2.2.2.2.1.2 h9 dX11_judge_50 ?_
      refine lv_icmp_ge (tgt := 82) hx hb dX11_judge_51 (by decide) (fun c10 => ?_) (fun c10 => ?_)
      · replace h := gif_t h c10
        refine lv_bipush (v := (-5)) hx hb dX11_judge_82 (by decide) ?_
        exact fw_ireti hx hb hr hlocks (Option.some.inj h) hK hZ hP hS dX11_judge_84
      · replace h := gif_f h c10
        refine lv_aload_n hx hb dX11_judge_54 rfl (lv_at hl 0 rfl) ?_
        refine lv_aload_n hx hb dX11_judge_55 rfl (lv_at hl 0 rfl) ?_
        refine fw_getr hx hb hts in_X11_judge_X11 hown hK hP gF11.1.1 gF11.1.2 rfl 32 (by decide) rfl (hts _ (List.mem_of_getElem? (i := 2) rfl)) rfl dX11_judge_56 ?_
        refine lv_bipush (v := (nI 30)) hx hb dX11_judge_59 (by decide) ?_
        refine lv_iload_n hx hb dX11_judge_61 rfl (lv_at hl 1 rfl) ?_
        refine lv_imul hx hb dX11_judge_62 ?_
        refine lv_iload_n hx hb dX11_judge_63 rfl (lv_at hl 3 rfl) ?_
        refine lv_iadd hx hb dX11_judge_64 ?_
        obtain ⟨h11, h⟩ := gg_s h
        refine fw_iald hx hb hK hP gF11.2.2.2.2.2.2.2.2.2.2.2.2.2.2.2.2.2.2.1.1 gF11.2.2.2.2.2.2.2.2.2.2.2.2.2.2.2.2.2.2.1.2 h11 dX11_judge_65 ?_
        refine lv_iload_n hx hb dX11_judge_66 rfl (lv_at hl 3 rfl) ?_
        refine lv_iload_n hx hb dX11_judge_67 rfl (lv_at hl 2 rfl) ?_
        obtain ⟨q12, hq12, h⟩ := gb_s h
        refine fw_vi (As := [.int (z 18 (((nI 30) * x1) + x3).toNatClampNeg), .int x3, .int x2]) (rest := []) ⟨hx, hb, hml, hown, hts⟩ (k_X11_isSo l D cA ad tw hG z (z 18 (((nI 30) * x1) + x3).toNatClampNeg) x3 x2 q12 hq12) (cwV 3 hts gX11_judge_X11_isSo rfl rfl rfl hdV_X11_isSo ⟨Nat.le_of_ble_eq_true rfl, Nat.le_of_ble_eq_true rfl⟩) (fw_preV gF11.1.1 gF11.1.2 rfl rfl hK hZ hP hS) rfl hl _ rfl (Nat.le_of_ble_eq_true rfl) hS dX11_judge_68 ⟨Nat.zero_le _, Nat.zero_le _⟩ (fun H locs hP hS => ?_)
        refine lv_if_ne (tgt := 76) hx hb dX11_judge_71 (by decide) (fun c13 => ?_) (fun c13 => ?_)
        · replace h := gif_f h c13
          refine lv_iinc (v := x3 + (nI 1)) (lv' := [(3, .int (x3 + (nI 1))), (0, .ref (ad 0)), (1, .int x1), (2, .int x2)]) hx hb dX11_judge_76 hl (k := 3) rfl rfl (by decide) rfl (fun ls hl => ?_)
          refine lv_goto (tgt := 44) hx hb dX11_judge_79 (by decide) ?_
          exact hK44 (x3 + (nI 1)) q12.2 _ _ ls h hP hS (lv_sub hl [1, 2, 3, 0] rfl)
        · replace h := gif_t h c13
          refine lv_iload_n hx hb dX11_judge_74 rfl (lv_at hl 3 rfl) ?_
          exact fw_ireti hx hb hr hlocks (Option.some.inj h) hK hZ hP hS dX11_judge_75
  unfold f_X11_judge at h
  refine lv_iload_n hx hb dX11_judge_0 rfl (lv_at hl 1 rfl) ?_
  obtain ⟨q1, hq1, h⟩ := gb_s h
  refine fw_siR (As := [.int a1]) (rest := []) ⟨hx, hb, hml, hown, hts⟩ (k_X11_isList l D cA ad tw hG z a1 q1 hq1) (va_cwS 1 hts gX11_judge_X11_isList rfl rfl rfl hdS_X11_isList ⟨Nat.le_of_ble_eq_true rfl, Nat.le_of_ble_eq_true rfl⟩) hK hZ hP rfl hl _ rfl (Nat.le_of_ble_eq_true rfl) hS dX11_judge_1 ⟨Nat.zero_le _, Nat.zero_le _⟩ (fun H locs hP hS => ?_)
  refine lv_if_ne (tgt := 9) hx hb dX11_judge_4 (by decide) (fun c2 => ?_) (fun c2 => ?_)
  · replace h := gif_f h c2
    refine lv_iload_n hx hb dX11_judge_9 rfl (lv_at hl 2 rfl) ?_
    refine lv_iconst (v := (nI 0)) hx hb dX11_judge_10 (by decide) ?_
    refine lv_iconst (v := (nI 2)) hx hb dX11_judge_11 (by decide) ?_
    obtain ⟨q3, hq3, h⟩ := gb_s h
    refine fw_siR (As := [.int a2, .int (nI 0), .int (nI 2)]) (rest := []) ⟨hx, hb, hml, hown, hts⟩ (k_X11_in l D cA ad tw hG z a2 (nI 0) (nI 2) q3 hq3) (va_cwS 3 hts gX11_judge_X11_in rfl rfl rfl hdS_X11_in ⟨Nat.le_of_ble_eq_true rfl, Nat.le_of_ble_eq_true rfl⟩) hK hZ hP rfl hl _ rfl (Nat.le_of_ble_eq_true rfl) hS dX11_judge_12 ⟨Nat.zero_le _, Nat.zero_le _⟩ (fun H locs hP hS => ?_)
    refine lv_if_ne (tgt := 21) hx hb dX11_judge_15 (by decide) (fun c4 => ?_) (fun c4 => ?_)
    · replace h := gif_f h c4
      refine lv_aload_n hx hb dX11_judge_21 rfl (lv_at hl 0 rfl) ?_
      refine fw_getr hx hb hts in_X11_judge_X11 hown hK hP gF11.1.1 gF11.1.2 rfl 31 (by decide) rfl (hts _ (List.mem_of_getElem? (i := 1) rfl)) rfl dX11_judge_22 ?_
      refine lv_iload_n hx hb dX11_judge_25 rfl (lv_at hl 1 rfl) ?_
      obtain ⟨h5, h⟩ := gg_s h
      refine fw_iald hx hb hK hP gF11.2.2.2.2.2.2.2.2.2.2.2.2.2.2.2.2.2.1.1 gF11.2.2.2.2.2.2.2.2.2.2.2.2.2.2.2.2.2.1.2 h5 dX11_judge_26 ?_
      refine lv_if_ge (tgt := 33) hx hb dX11_judge_27 (by decide) (fun c6 => ?_) (fun c6 => ?_)
      · replace h := gif_t h c6
        refine lv_iload_n hx hb dX11_judge_33 rfl (lv_at hl 2 rfl) ?_
        refine lv_iconst (v := (nI 2)) hx hb dX11_judge_34 (by decide) ?_
        refine lv_icmp_ne (tgt := 42) hx hb dX11_judge_35 (by decide) (fun c7 => ?_) (fun c7 => ?_)
        · replace h := gif_f h c7
          refine lv_iconst (v := (nI 0)) hx hb dX11_judge_42 (by decide) ?_
          refine lv_istore_n (lv' := [(3, .int (nI 0)), (0, .ref (ad 0)), (1, .int a1), (2, .int a2)]) hx hb dX11_judge_43 rfl hl (by decide) rfl (fun ls hl => ?_)
          exact j44 a1 a2 gF (nI 0) z _ _ ls h hP hS (lv_sub hl [1, 2, 3, 0] rfl)
        · replace h := gif_t h c7
          refine lv_aload_n hx hb dX11_judge_38 rfl (lv_at hl 0 rfl) ?_
          obtain ⟨q8, hq8, h⟩ := gb_s h
          refine fw_vv (As := []) (rest := []) ⟨hx, hb, hml, hown, hts⟩ (k_X11_gaplessOnes l D cA ad tw hG z  q8 hq8) (cwV 0 hts gX11_judge_X11_gaplessOnes rfl rfl rfl hdV_X11_gaplessOnes ⟨Nat.le_of_ble_eq_true rfl, Nat.le_of_ble_eq_true rfl⟩) (fw_preV gF11.1.1 gF11.1.2 rfl rfl hK hZ hP hS) rfl hl _ rfl (Nat.le_of_ble_eq_true rfl) hS dX11_judge_39 ⟨Nat.zero_le _, Nat.zero_le _⟩ (fun H locs hP hS => ?_)
          refine lv_iconst (v := (nI 0)) hx hb dX11_judge_42 (by decide) ?_
          refine lv_istore_n (lv' := [(3, .int (nI 0)), (0, .ref (ad 0)), (1, .int a1), (2, .int a2)]) hx hb dX11_judge_43 rfl hl (by decide) rfl (fun ls hl => ?_)
          exact j44 a1 a2 gF (nI 0) q8 _ _ ls h hP hS (lv_sub hl [1, 2, 3, 0] rfl)
      · replace h := gif_f h c6
        refine lv_bipush (v := (-11)) hx hb dX11_judge_30 (by decide) ?_
        exact fw_ireti hx hb hr hlocks (Option.some.inj h) hK hZ hP hS dX11_judge_32
    · replace h := gif_t h c4
      refine lv_bipush (v := (-2)) hx hb dX11_judge_18 (by decide) ?_
      exact fw_ireti hx hb hr hlocks (Option.some.inj h) hK hZ hP hS dX11_judge_20
  · replace h := gif_t h c2
    refine lv_iconst (v := gm1) hx hb dX11_judge_7 (by decide) ?_
    exact fw_ireti hx hb hr hlocks (Option.some.inj h) hK hZ hP hS dX11_judge_8
theorem in_X11_image_X11 : ∀ w ∈ wsX110, w ∈ wsX11_image := fun w h => List.mem_cons_of_mem _ (List.mem_append_right _ (h))
theorem hdV_X11_image : yX11_image.cls = RX11 ∧ yX11_image.cls ≠ "java/lang/invoke/MethodHandle" ∧ yX11_image.cls ≠ "java/lang/invoke/VarHandle" ∧ (parseMethodDescriptor yX11_image.desc).map (fun d => d.parameters.length) = some 0 := by decide +kernel
set_option maxHeartbeats 4000000 in
set_option maxRecDepth 100000 in
theorem k_X11_image (l : Launch) (D : va_G) (cA : Nat → ClassId) (ad : Nat → Nat) (tw : Nat) (hG : gOk ad 22) (z : gS)  (res : Int32 × gS) (h : f_X11_image  z = some res) : gMi l yX11_image wsX11_image (gRm 1 23) D cA ad tw shM 22 [.ref (ad 0)] z res := by
  refine Met.ofW (cc := cX11_image) (maxL := 1) (ret := (some .int)) (by decide) rfl ?_
  intro p e s m args below meth c s₁ B hml hv
  obtain ⟨rfl, hP, hK, hZ⟩ := hv
  have hx := B.exec
  have hb := B.bytes
  have hr := B.returns
  have hts := atoms_spec (ws := wsX11_image) B.pre
  have hown : s.vm.findClass RX11 = some m.cls := findClass_of_methodNamed B.named
  have hlocks := B.notSynchronized
  have hS : va_S (gA ad 22) s.heap s.heap [] := va_S.rf
  have hl := lv_entry ([.ref (ad 0)]) (n := 1) (Nat.le_of_ble_eq_true rfl)
  rw [lg_entry_eq]
  generalize (lg_sl ([.ref (ad 0)]) ++ List.replicate (1 - (lg_sl ([.ref (ad 0)])).length) Slot.unset).toArray = ls at hl ⊢
  have hl : lv_has ls 1 [(0, .ref (ad 0))] := hl
  unfold f_X11_image at h
  refine lv_aload_n hx hb dX11_image_0 rfl (lv_at hl 0 rfl) ?_
  refine lv_iconst (v := (nI 1)) hx hb dX11_image_1 (by decide) ?_
  refine fw_put hx hb hts in_X11_image_X11 tyX11_ok nmX11 hown hK hG hP hS gF11.1.1 gF11.1.2 rfl 33 (by decide) rfl (hts _ (List.mem_of_getElem? (i := 1) rfl)) rfl rfl (ty := .boolean) rfl rfl rfl dX11_image_2 (fun z1 H locs ez1 hP hS => ?_)
  replace h := gl_s h ez1
  refine lv_aload_n hx hb dX11_image_5 rfl (lv_at hl 0 rfl) ?_
  refine lv_aload_n hx hb dX11_image_6 rfl (lv_at hl 0 rfl) ?_
  refine fw_geti hx hb hts in_X11_image_X11 hown hK hP gF11.1.1 gF11.1.2 rfl 1 (by decide) rfl (hts _ (List.mem_of_getElem? (i := 2) rfl)) rfl dX11_image_7 ?_
  refine fw_put hx hb hts in_X11_image_X11 tyX11_ok nmX11 hown hK hG hP hS gF11.1.1 gF11.1.2 rfl 34 (by decide) rfl (hts _ (List.mem_of_getElem? (i := 3) rfl)) rfl rfl (ty := .int) rfl rfl rfl dX11_image_10 (fun z2 H locs ez2 hP hS => ?_)
  replace h := gl_s h ez2
  refine lv_aload_n hx hb dX11_image_13 rfl (lv_at hl 0 rfl) ?_
  refine lv_aload_n hx hb dX11_image_14 rfl (lv_at hl 0 rfl) ?_
  refine fw_geti hx hb hts in_X11_image_X11 hown hK hP gF11.1.1 gF11.1.2 rfl 2 (by decide) rfl (hts _ (List.mem_of_getElem? (i := 4) rfl)) rfl dX11_image_15 ?_
  refine fw_put hx hb hts in_X11_image_X11 tyX11_ok nmX11 hown hK hG hP hS gF11.1.1 gF11.1.2 rfl 35 (by decide) rfl (hts _ (List.mem_of_getElem? (i := 5) rfl)) rfl rfl (ty := .int) rfl rfl rfl dX11_image_18 (fun z3 H locs ez3 hP hS => ?_)
  replace h := gl_s h ez3
  refine lv_aload_n hx hb dX11_image_21 rfl (lv_at hl 0 rfl) ?_
  refine fw_getr hx hb hts in_X11_image_X11 hown hK hP gF11.1.1 gF11.1.2 rfl 3 (by decide) rfl (hts _ (List.mem_of_getElem? (i := 6) rfl)) rfl dX11_image_22 ?_
  refine lv_aload_n hx hb dX11_image_25 rfl (lv_at hl 0 rfl) ?_
  refine fw_getr hx hb hts in_X11_image_X11 hown hK hP gF11.1.1 gF11.1.2 rfl 36 (by decide) rfl (hts _ (List.mem_of_getElem? (i := 7) rfl)) rfl dX11_image_26 ?_
  refine lv_bipush (v := (nI 7)) hx hb dX11_image_29 (by decide) ?_
  obtain ⟨q4, hq4, h⟩ := gb_s h
  refine fw_sv (As := [.ref (ad 1), .ref (ad 19), .int (nI 7)]) (rest := []) ⟨hx, hb, hml, hown, hts⟩ (k_X11_copies l D cA ad tw hG z3 1 7 (gF11.2.1) 19 7 (gF11.2.2.2.2.2.2.2.2.2.2.2.2.2.2.2.2.2.2.2.1) (nI 7) q4 hq4) (va_cwS 3 hts gX11_image_X11_copies rfl rfl rfl hdS_X11_copies ⟨Nat.le_of_ble_eq_true rfl, Nat.le_of_ble_eq_true rfl⟩) hK hZ hP rfl hl _ rfl (Nat.le_of_ble_eq_true rfl) hS dX11_image_31 ⟨Nat.zero_le _, Nat.zero_le _⟩ (fun H locs hP hS => ?_)
  refine lv_aload_n hx hb dX11_image_34 rfl (lv_at hl 0 rfl) ?_
  refine fw_getr hx hb hts in_X11_image_X11 hown hK hP gF11.1.1 gF11.1.2 rfl 4 (by decide) rfl (hts _ (List.mem_of_getElem? (i := 8) rfl)) rfl dX11_image_35 ?_
  refine lv_aload_n hx hb dX11_image_38 rfl (lv_at hl 0 rfl) ?_
  refine fw_getr hx hb hts in_X11_image_X11 hown hK hP gF11.1.1 gF11.1.2 rfl 37 (by decide) rfl (hts _ (List.mem_of_getElem? (i := 9) rfl)) rfl dX11_image_39 ?_
  refine lv_bipush (v := (nI 7)) hx hb dX11_image_42 (by decide) ?_
  obtain ⟨q5, hq5, h⟩ := gb_s h
  refine fw_sv (As := [.ref (ad 2), .ref (ad 20), .int (nI 7)]) (rest := []) ⟨hx, hb, hml, hown, hts⟩ (k_X11_copies l D cA ad tw hG q4 2 7 (gF11.2.2.1) 20 7 (gF11.2.2.2.2.2.2.2.2.2.2.2.2.2.2.2.2.2.2.2.2.1) (nI 7) q5 hq5) (va_cwS 3 hts gX11_image_X11_copies rfl rfl rfl hdS_X11_copies ⟨Nat.le_of_ble_eq_true rfl, Nat.le_of_ble_eq_true rfl⟩) hK hZ hP rfl hl _ rfl (Nat.le_of_ble_eq_true rfl) hS dX11_image_44 ⟨Nat.zero_le _, Nat.zero_le _⟩ (fun H locs hP hS => ?_)
  refine lv_aload_n hx hb dX11_image_47 rfl (lv_at hl 0 rfl) ?_
  refine fw_getr hx hb hts in_X11_image_X11 hown hK hP gF11.1.1 gF11.1.2 rfl 5 (by decide) rfl (hts _ (List.mem_of_getElem? (i := 10) rfl)) rfl dX11_image_48 ?_
  refine lv_aload_n hx hb dX11_image_51 rfl (lv_at hl 0 rfl) ?_
  refine fw_getr hx hb hts in_X11_image_X11 hown hK hP gF11.1.1 gF11.1.2 rfl 38 (by decide) rfl (hts _ (List.mem_of_getElem? (i := 11) rfl)) rfl dX11_image_52 ?_
  refine lv_bipush (v := (nI 8)) hx hb dX11_image_55 (by decide) ?_
  obtain ⟨q6, hq6, h⟩ := gb_s h
  refine fw_sv (As := [.ref (ad 3), .ref (ad 21), .int (nI 8)]) (rest := []) ⟨hx, hb, hml, hown, hts⟩ (k_X11_copies l D cA ad tw hG q5 3 8 (gF11.2.2.2.1) 21 8 (gF11.2.2.2.2.2.2.2.2.2.2.2.2.2.2.2.2.2.2.2.2.2) (nI 8) q6 hq6) (va_cwS 3 hts gX11_image_X11_copies rfl rfl rfl hdS_X11_copies ⟨Nat.le_of_ble_eq_true rfl, Nat.le_of_ble_eq_true rfl⟩) hK hZ hP rfl hl _ rfl (Nat.le_of_ble_eq_true rfl) hS dX11_image_57 ⟨Nat.zero_le _, Nat.zero_le _⟩ (fun H locs hP hS => ?_)
  refine lv_aload_n hx hb dX11_image_60 rfl (lv_at hl 0 rfl) ?_
  refine fw_geti hx hb hts in_X11_image_X11 hown hK hP gF11.1.1 gF11.1.2 rfl 1 (by decide) rfl (hts _ (List.mem_of_getElem? (i := 2) rfl)) rfl dX11_image_61 ?_
  exact fw_ireti hx hb hr hlocks (Option.some.inj h) hK hZ hP hS dX11_image_64
theorem in_X11_undo_X11 : ∀ w ∈ wsX110, w ∈ wsX11_undo := fun w h => List.mem_cons_of_mem _ (List.mem_append_right _ (h))
theorem hdV_X11_undo : yX11_undo.cls = RX11 ∧ yX11_undo.cls ≠ "java/lang/invoke/MethodHandle" ∧ yX11_undo.cls ≠ "java/lang/invoke/VarHandle" ∧ (parseMethodDescriptor yX11_undo.desc).map (fun d => d.parameters.length) = some 0 := by decide +kernel
set_option maxHeartbeats 4000000 in
set_option maxRecDepth 100000 in
theorem k_X11_undo (l : Launch) (D : va_G) (cA : Nat → ClassId) (ad : Nat → Nat) (tw : Nat) (hG : gOk ad 22) (z : gS)  (res : Int32 × gS) (h : f_X11_undo  z = some res) : gMi l yX11_undo wsX11_undo (gRm 1 23) D cA ad tw shM 22 [.ref (ad 0)] z res := by
  refine Met.ofW (cc := cX11_undo) (maxL := 1) (ret := (some .int)) (by decide) rfl ?_
  intro p e s m args below meth c s₁ B hml hv
  obtain ⟨rfl, hP, hK, hZ⟩ := hv
  have hx := B.exec
  have hb := B.bytes
  have hr := B.returns
  have hts := atoms_spec (ws := wsX11_undo) B.pre
  have hown : s.vm.findClass RX11 = some m.cls := findClass_of_methodNamed B.named
  have hlocks := B.notSynchronized
  have hS : va_S (gA ad 22) s.heap s.heap [] := va_S.rf
  have hl := lv_entry ([.ref (ad 0)]) (n := 1) (Nat.le_of_ble_eq_true rfl)
  rw [lg_entry_eq]
  generalize (lg_sl ([.ref (ad 0)]) ++ List.replicate (1 - (lg_sl ([.ref (ad 0)])).length) Slot.unset).toArray = ls at hl ⊢
  have hl : lv_has ls 1 [(0, .ref (ad 0))] := hl
  unfold f_X11_undo at h
  refine lv_aload_n hx hb dX11_undo_0 rfl (lv_at hl 0 rfl) ?_
  refine fw_geti hx hb hts in_X11_undo_X11 hown hK hP gF11.1.1 gF11.1.2 rfl 33 (by decide) rfl (hts _ (List.mem_of_getElem? (i := 1) rfl)) rfl dX11_undo_1 ?_
  refine lv_if_ne (tgt := 10) hx hb dX11_undo_4 (by decide) (fun c1 => ?_) (fun c1 => ?_)
  · replace h := gif_f h c1
    refine lv_aload_n hx hb dX11_undo_10 rfl (lv_at hl 0 rfl) ?_
    refine lv_aload_n hx hb dX11_undo_11 rfl (lv_at hl 0 rfl) ?_
    refine fw_geti hx hb hts in_X11_undo_X11 hown hK hP gF11.1.1 gF11.1.2 rfl 34 (by decide) rfl (hts _ (List.mem_of_getElem? (i := 2) rfl)) rfl dX11_undo_12 ?_
    refine fw_put hx hb hts in_X11_undo_X11 tyX11_ok nmX11 hown hK hG hP hS gF11.1.1 gF11.1.2 rfl 1 (by decide) rfl (hts _ (List.mem_of_getElem? (i := 3) rfl)) rfl rfl (ty := .int) rfl rfl rfl dX11_undo_15 (fun z2 H locs ez2 hP hS => ?_)
    replace h := gl_s h ez2
    refine lv_aload_n hx hb dX11_undo_18 rfl (lv_at hl 0 rfl) ?_
    refine lv_aload_n hx hb dX11_undo_19 rfl (lv_at hl 0 rfl) ?_
    refine fw_geti hx hb hts in_X11_undo_X11 hown hK hP gF11.1.1 gF11.1.2 rfl 35 (by decide) rfl (hts _ (List.mem_of_getElem? (i := 4) rfl)) rfl dX11_undo_20 ?_
    refine fw_put hx hb hts in_X11_undo_X11 tyX11_ok nmX11 hown hK hG hP hS gF11.1.1 gF11.1.2 rfl 2 (by decide) rfl (hts _ (List.mem_of_getElem? (i := 5) rfl)) rfl rfl (ty := .int) rfl rfl rfl dX11_undo_23 (fun z3 H locs ez3 hP hS => ?_)
    replace h := gl_s h ez3
    refine lv_aload_n hx hb dX11_undo_26 rfl (lv_at hl 0 rfl) ?_
    refine fw_getr hx hb hts in_X11_undo_X11 hown hK hP gF11.1.1 gF11.1.2 rfl 36 (by decide) rfl (hts _ (List.mem_of_getElem? (i := 6) rfl)) rfl dX11_undo_27 ?_
    refine lv_aload_n hx hb dX11_undo_30 rfl (lv_at hl 0 rfl) ?_
    refine fw_getr hx hb hts in_X11_undo_X11 hown hK hP gF11.1.1 gF11.1.2 rfl 3 (by decide) rfl (hts _ (List.mem_of_getElem? (i := 7) rfl)) rfl dX11_undo_31 ?_
    refine lv_bipush (v := (nI 7)) hx hb dX11_undo_34 (by decide) ?_
    obtain ⟨q4, hq4, h⟩ := gb_s h
    refine fw_sv (As := [.ref (ad 19), .ref (ad 1), .int (nI 7)]) (rest := []) ⟨hx, hb, hml, hown, hts⟩ (k_X11_copies l D cA ad tw hG z3 19 7 (gF11.2.2.2.2.2.2.2.2.2.2.2.2.2.2.2.2.2.2.2.1) 1 7 (gF11.2.1) (nI 7) q4 hq4) (va_cwS 3 hts gX11_undo_X11_copies rfl rfl rfl hdS_X11_copies ⟨Nat.le_of_ble_eq_true rfl, Nat.le_of_ble_eq_true rfl⟩) hK hZ hP rfl hl _ rfl (Nat.le_of_ble_eq_true rfl) hS dX11_undo_36 ⟨Nat.zero_le _, Nat.zero_le _⟩ (fun H locs hP hS => ?_)
    refine lv_aload_n hx hb dX11_undo_39 rfl (lv_at hl 0 rfl) ?_
    refine fw_getr hx hb hts in_X11_undo_X11 hown hK hP gF11.1.1 gF11.1.2 rfl 37 (by decide) rfl (hts _ (List.mem_of_getElem? (i := 8) rfl)) rfl dX11_undo_40 ?_
    refine lv_aload_n hx hb dX11_undo_43 rfl (lv_at hl 0 rfl) ?_
    refine fw_getr hx hb hts in_X11_undo_X11 hown hK hP gF11.1.1 gF11.1.2 rfl 4 (by decide) rfl (hts _ (List.mem_of_getElem? (i := 9) rfl)) rfl dX11_undo_44 ?_
    refine lv_bipush (v := (nI 7)) hx hb dX11_undo_47 (by decide) ?_
    obtain ⟨q5, hq5, h⟩ := gb_s h
    refine fw_sv (As := [.ref (ad 20), .ref (ad 2), .int (nI 7)]) (rest := []) ⟨hx, hb, hml, hown, hts⟩ (k_X11_copies l D cA ad tw hG q4 20 7 (gF11.2.2.2.2.2.2.2.2.2.2.2.2.2.2.2.2.2.2.2.2.1) 2 7 (gF11.2.2.1) (nI 7) q5 hq5) (va_cwS 3 hts gX11_undo_X11_copies rfl rfl rfl hdS_X11_copies ⟨Nat.le_of_ble_eq_true rfl, Nat.le_of_ble_eq_true rfl⟩) hK hZ hP rfl hl _ rfl (Nat.le_of_ble_eq_true rfl) hS dX11_undo_49 ⟨Nat.zero_le _, Nat.zero_le _⟩ (fun H locs hP hS => ?_)
    refine lv_aload_n hx hb dX11_undo_52 rfl (lv_at hl 0 rfl) ?_
    refine fw_getr hx hb hts in_X11_undo_X11 hown hK hP gF11.1.1 gF11.1.2 rfl 38 (by decide) rfl (hts _ (List.mem_of_getElem? (i := 10) rfl)) rfl dX11_undo_53 ?_
    refine lv_aload_n hx hb dX11_undo_56 rfl (lv_at hl 0 rfl) ?_
    refine fw_getr hx hb hts in_X11_undo_X11 hown hK hP gF11.1.1 gF11.1.2 rfl 5 (by decide) rfl (hts _ (List.mem_of_getElem? (i := 11) rfl)) rfl dX11_undo_57 ?_
    refine lv_bipush (v := (nI 8)) hx hb dX11_undo_60 (by decide) ?_
    obtain ⟨q6, hq6, h⟩ := gb_s h
    refine fw_sv (As := [.ref (ad 21), .ref (ad 3), .int (nI 8)]) (rest := []) ⟨hx, hb, hml, hown, hts⟩ (k_X11_copies l D cA ad tw hG q5 21 8 (gF11.2.2.2.2.2.2.2.2.2.2.2.2.2.2.2.2.2.2.2.2.2) 3 8 (gF11.2.2.2.1) (nI 8) q6 hq6) (va_cwS 3 hts gX11_undo_X11_copies rfl rfl rfl hdS_X11_copies ⟨Nat.le_of_ble_eq_true rfl, Nat.le_of_ble_eq_true rfl⟩) hK hZ hP rfl hl _ rfl (Nat.le_of_ble_eq_true rfl) hS dX11_undo_62 ⟨Nat.zero_le _, Nat.zero_le _⟩ (fun H locs hP hS => ?_)
    refine lv_aload_n hx hb dX11_undo_65 rfl (lv_at hl 0 rfl) ?_
    refine fw_geti hx hb hts in_X11_undo_X11 hown hK hP gF11.1.1 gF11.1.2 rfl 1 (by decide) rfl (hts _ (List.mem_of_getElem? (i := 3) rfl)) rfl dX11_undo_66 ?_
    exact fw_ireti hx hb hr hlocks (Option.some.inj h) hK hZ hP hS dX11_undo_69
  · replace h := gif_t h c1
    refine lv_bipush (v := (-3)) hx hb dX11_undo_7 (by decide) ?_
    exact fw_ireti hx hb hr hlocks (Option.some.inj h) hK hZ hP hS dX11_undo_9
