theorem in_X0_bestFrom_X0 : ∀ w ∈ wsX00, w ∈ wsX0_bestFrom := fun w h => List.mem_cons_of_mem _ (List.mem_append_right _ (h))
theorem in_X0_bestFrom_X5 : ∀ w ∈ wsX50, w ∈ wsX0_bestFrom := fun w h => List.mem_cons_of_mem _ (List.mem_append_left _ (List.mem_append_right _ (h)))
theorem hdV_X0_bestFrom : yX0_bestFrom.cls = RX0 ∧ yX0_bestFrom.cls ≠ "java/lang/invoke/MethodHandle" ∧ yX0_bestFrom.cls ≠ "java/lang/invoke/VarHandle" ∧ (parseMethodDescriptor yX0_bestFrom.desc).map (fun d => d.parameters.length) = some 3 := by decide +kernel
set_option maxHeartbeats 4000000 in
set_option maxRecDepth 100000 in
theorem k_X0_bestFrom (l : Launch) (D : va_G) (cA : Nat → ClassId) (ad : Nat → Nat) (tw : Nat) (hG : gOk ad 315) (z : gS) (p0 : Nat) (hp0 : gC0 p0) (p1 : Nat) (hp1 : gC5 p1) (a2 : Int32) (a3 : Int32) (res : Int32) (h : f_X0_bestFrom p0 p1 a2 a3 z = some res) : gMi l yX0_bestFrom wsX0_bestFrom (gRm 2 43) D cA ad tw shX 315 [.ref (ad p0), .ref (ad p1), .int a2, .int a3] z (res, z) := by
  refine Met.ofW (cc := cX0_bestFrom) (maxL := 6) (ret := (some .int)) (by decide) rfl ?_
  intro p e s m args below meth c s₁ B hml hv
  obtain ⟨rfl, hP, hK, hZ⟩ := hv
  have hx := B.exec
  have hb := B.bytes
  have hr := B.returns
  have hts := atoms_spec (ws := wsX0_bestFrom) B.pre
  have hown : s.vm.findClass RX0 = some m.cls := findClass_of_methodNamed B.named
  have hlocks := B.notSynchronized
  have hS : va_S (gA ad 315) s.heap s.heap [] := va_S.rf
  have hl := lv_entry ([.ref (ad p0), .ref (ad p1), .int a2, .int a3]) (n := 6) (Nat.le_of_ble_eq_true rfl)
  rw [lg_entry_eq]
  generalize (lg_sl ([.ref (ad p0), .ref (ad p1), .int a2, .int a3]) ++ List.replicate (6 - (lg_sl ([.ref (ad p0), .ref (ad p1), .int a2, .int a3])).length) Slot.unset).toArray = ls at hl ⊢
  have hl : lv_has ls 6 [(0, .ref (ad p0)), (1, .ref (ad p1)), (2, .int a2), (3, .int a3)] := hl
  have j6 : ∀ (x2 : Int32) (x3 : Int32) (n : Nat) (x4 : Int32) (x5 : Int32) (H : Heap) (locs : List Loc) (ls : Array Slot), f_X0_bestFrom_6 p0 p1 z x2 x3 n x4 x5 = some res → va_P D vwCl (gw cA ad shX 315 z) H → va_S (gA ad 315) s.heap H locs → lv_has ls 6 [(0, .ref (ad p0)), (1, .ref (ad p1)), (2, .int x2), (3, .int x3), (4, .int x4), (5, .int x5)] → W p l e (headSpec wsX0_bestFrom (gRm 2 43)).room s m ([.ref (ad p0), .ref (ad p1), .int a2, .int a3] : List Value).toArray below meth c H locs 0 0 (MQ below (va_Qi (fun r u => (r, u) = (res, z)) (gPr D cA ad tw shX 315) (gA ad 315)) ([.ref (ad p0), .ref (ad p1), .int a2, .int a3] : List Value).toArray s 0 0 (gA ad 315)) (F0 m 6 ls []) := by
    intro x2 x3 n
    induction n with
    | zero => intro x4 x5 H locs ls h; exact (gno h).elim
    | succ n hK6 =>
      intro x4 x5 H locs ls h hP hS hl
      replace h : f_X0_bestFrom_6_b p0 p1 z x2 x3 (f_X0_bestFrom_6 p0 p1 z x2 x3 n) x4 x5 = some res := h
      unfold f_X0_bestFrom_6_b at h
      refine lv_iload hx hb dX0_bestFrom_6 (lv_at hl 5 rfl) ?_
      refine lv_aload_n hx hb dX0_bestFrom_8 rfl (lv_at hl 1 rfl) ?_
      refine fw_geti hx hb hts in_X0_bestFrom_X5 hown hK hP hp1.1.1 hp1.1.2 rfl 0 (by decide) rfl (hts _ (List.mem_of_getElem? (i := 1) rfl)) rfl dX0_bestFrom_9 ?_
      refine lv_icmp_ge (tgt := 59) hx hb dX0_bestFrom_12 (by decide) (fun c1 => ?_) (fun c1 => ?_)
      · replace h := gif_t h c1
        refine lv_iload hx hb dX0_bestFrom_59 (lv_at hl 4 rfl) ?_
        exact fw_ireti hx hb hr hlocks (congrArg (fun q => (q, z)) (Option.some.inj h)) hK hZ hP hS dX0_bestFrom_61
      · replace h := gif_f h c1
        refine lv_iload_n hx hb dX0_bestFrom_15 rfl (lv_at hl 2 rfl) ?_
        refine lv_iload hx hb dX0_bestFrom_16 (lv_at hl 5 rfl) ?_
        refine lv_ishr hx hb dX0_bestFrom_18 ?_
        refine lv_iconst (v := (nI 1)) hx hb dX0_bestFrom_19 (by decide) ?_
        refine lv_iand hx hb dX0_bestFrom_20 ?_
        refine lv_if_ne (tgt := 53) hx hb dX0_bestFrom_21 (by decide) (fun c2 => ?_) (fun c2 => ?_)
        · replace h := gif_f h c2
          refine lv_iinc (v := x5 + (nI 1)) (lv' := [(5, .int (x5 + (nI 1))), (0, .ref (ad p0)), (1, .ref (ad p1)), (2, .int x2), (3, .int x3), (4, .int x4)]) hx hb dX0_bestFrom_53 hl (k := 5) rfl rfl (by decide) rfl (fun ls hl => ?_)
          refine lv_goto (tgt := 6) hx hb dX0_bestFrom_56 (by decide) ?_
          exact hK6 x4 (x5 + (nI 1)) _ _ ls h hP hS (lv_sub hl [1, 2, 3, 4, 5, 0] rfl)
        · replace h := gif_t h c2
          refine lv_iload hx hb dX0_bestFrom_24 (lv_at hl 4 rfl) ?_
          refine lv_aload_n hx hb dX0_bestFrom_26 rfl (lv_at hl 1 rfl) ?_
          refine lv_iload_n hx hb dX0_bestFrom_27 rfl (lv_at hl 3 rfl) ?_
          refine lv_iload hx hb dX0_bestFrom_28 (lv_at hl 5 rfl) ?_
          obtain ⟨q3, hq3, h⟩ := gb_s h
          refine fw_viR (As := [.int x3, .int x5]) (rest := [.int x4]) ⟨hx, hb, hml, hown, hts⟩ (k_X5_common l D cA ad tw hG z p1 (hp1) x3 x5 q3 hq3) (cwV 2 hts gX0_bestFrom_X5_common rfl rfl rfl hdV_X5_common ⟨Nat.le_of_ble_eq_true rfl, Nat.le_of_ble_eq_true rfl⟩) (fw_preV hp1.1.1 hp1.1.2 rfl rfl hK hZ hP hS) rfl hl _ rfl (Nat.le_of_ble_eq_true rfl) hS dX0_bestFrom_30 ⟨Nat.zero_le _, Nat.zero_le _⟩ (fun H locs hP hS => ?_)
          refine lv_aload_n hx hb dX0_bestFrom_33 rfl (lv_at hl 0 rfl) ?_
          refine fw_getr hx hb hts in_X0_bestFrom_X0 hown hK hP hp0.1.1 hp0.1.2 rfl 0 (by decide) rfl (hts _ (List.mem_of_getElem? (i := 2) rfl)) rfl dX0_bestFrom_34 ?_
          refine lv_iload_n hx hb dX0_bestFrom_37 rfl (lv_at hl 2 rfl) ?_
          refine lv_iconst (v := (nI 1)) hx hb dX0_bestFrom_38 (by decide) ?_
          refine lv_iload hx hb dX0_bestFrom_39 (lv_at hl 5 rfl) ?_
          refine lv_ishl hx hb dX0_bestFrom_41 ?_
          refine lv_ior hx hb dX0_bestFrom_42 ?_
          obtain ⟨h4, h⟩ := gg_s h
          refine fw_rald hx hb hK hP hp0.2.1.1 hp0.2.1.2 h4 dX0_bestFrom_43 ?_
          refine lv_iload hx hb dX0_bestFrom_44 (lv_at hl 5 rfl) ?_
          obtain ⟨h5, h⟩ := gg_s h
          refine fw_iald hx hb hK hP (hp0.2.2 _ (gvl h4)).1 (hp0.2.2 _ (gvl h4)).2 h5 dX0_bestFrom_46 ?_
          refine lv_iadd hx hb dX0_bestFrom_47 ?_
          refine va_mmax hx hb (by rw [hml]; exact hl.1.symm) hown (hts _ (List.mem_of_getElem? (i := 3) rfl)) (hts _ (List.mem_of_getElem? (i := 4) rfl)) (hts _ (List.mem_of_getElem? (i := 5) rfl)) (hts _ (List.mem_of_getElem? (i := 6) rfl)) (Nat.le_of_ble_eq_true rfl) (Nat.le_of_ble_eq_true rfl) (Nat.zero_le _) (Nat.zero_le _) dX0_bestFrom_48 ?_
          refine lv_topi (fun y6 ey6 => ?_)
          replace h := gl_s h ey6
          refine lv_istore (lv' := [(4, .int y6), (0, .ref (ad p0)), (1, .ref (ad p1)), (2, .int x2), (3, .int x3), (5, .int x5)]) hx hb dX0_bestFrom_51 hl (by decide) rfl (fun ls hl => ?_)
          refine lv_iinc (v := x5 + (nI 1)) (lv' := [(5, .int (x5 + (nI 1))), (4, .int y6), (0, .ref (ad p0)), (1, .ref (ad p1)), (2, .int x2), (3, .int x3)]) hx hb dX0_bestFrom_53 hl (k := 5) rfl rfl (by decide) rfl (fun ls hl => ?_)
          refine lv_goto (tgt := 6) hx hb dX0_bestFrom_56 (by decide) ?_
          exact hK6 y6 (x5 + (nI 1)) _ _ ls h hP hS (lv_sub hl [2, 3, 4, 5, 1, 0] rfl)
  unfold f_X0_bestFrom at h
  refine lv_iconst (v := (nI 0)) hx hb dX0_bestFrom_0 (by decide) ?_
  refine lv_istore (lv' := [(4, .int (nI 0)), (0, .ref (ad p0)), (1, .ref (ad p1)), (2, .int a2), (3, .int a3)]) hx hb dX0_bestFrom_1 hl (by decide) rfl (fun ls hl => ?_)
  refine lv_iconst (v := (nI 0)) hx hb dX0_bestFrom_3 (by decide) ?_
  refine lv_istore (lv' := [(5, .int (nI 0)), (4, .int (nI 0)), (0, .ref (ad p0)), (1, .ref (ad p1)), (2, .int a2), (3, .int a3)]) hx hb dX0_bestFrom_4 hl (by decide) rfl (fun ls hl => ?_)
  exact j6 a2 a3 gF (nI 0) (nI 0) _ _ ls h hP hS (lv_sub hl [2, 3, 4, 5, 1, 0] rfl)
theorem in_X0_make_X0 : ∀ w ∈ wsX00, w ∈ wsX0_make := fun w h => List.mem_cons_of_mem _ (List.mem_append_right _ (h))
theorem in_X0_make_X5 : ∀ w ∈ wsX50, w ∈ wsX0_make := fun w h => List.mem_cons_of_mem _ (List.mem_append_left _ (List.mem_append_right _ (h)))
theorem hdV_X0_make : yX0_make.cls = RX0 ∧ yX0_make.cls ≠ "java/lang/invoke/MethodHandle" ∧ yX0_make.cls ≠ "java/lang/invoke/VarHandle" ∧ (parseMethodDescriptor yX0_make.desc).map (fun d => d.parameters.length) = some 1 := by decide +kernel
set_option maxHeartbeats 4000000 in
set_option maxRecDepth 100000 in
theorem k_X0_make (l : Launch) (D : va_G) (cA : Nat → ClassId) (ad : Nat → Nat) (tw : Nat) (hG : gOk ad 315) (z : gS) (p0 : Nat) (hp0 : gC0 p0) (p1 : Nat) (hp1 : gC5 p1) (res : gS) (h : f_X0_make p0 p1 z = some res) : gMv l yX0_make wsX0_make (gRm 3 68) D cA ad tw shX 315 [.ref (ad p0), .ref (ad p1)] z res := by
  refine Met.ofW (cc := cX0_make) (maxL := 4) (ret := none) (by decide) rfl ?_
  intro p e s m args below meth c s₁ B hml hv
  obtain ⟨rfl, hP, hK, hZ⟩ := hv
  have hx := B.exec
  have hb := B.bytes
  have hr := B.returns
  have hts := atoms_spec (ws := wsX0_make) B.pre
  have hown : s.vm.findClass RX0 = some m.cls := findClass_of_methodNamed B.named
  have hlocks := B.notSynchronized
  have hS : va_S (gA ad 315) s.heap s.heap [] := va_S.rf
  have hl := lv_entry ([.ref (ad p0), .ref (ad p1)]) (n := 4) (Nat.le_of_ble_eq_true rfl)
  rw [lg_entry_eq]
  generalize (lg_sl ([.ref (ad p0), .ref (ad p1)]) ++ List.replicate (4 - (lg_sl ([.ref (ad p0), .ref (ad p1)])).length) Slot.unset).toArray = ls at hl ⊢
  have hl : lv_has ls 4 [(0, .ref (ad p0)), (1, .ref (ad p1))] := hl
  have j11 : ∀ (x2 : Int32) (K5 : Int32 → gS → Option gS) (hK5 : ∀ (x2' : Int32) (z' : gS) (H : Heap) (locs : List Loc) (ls : Array Slot), K5 x2' z' = some res → va_P D vwCl (gw cA ad shX 315 z') H → va_S (gA ad 315) s.heap H locs → lv_has ls 4 [(0, .ref (ad p0)), (1, .ref (ad p1)), (2, .int x2')] → W p l e (headSpec wsX0_make (gRm 3 68)).room s m ([.ref (ad p0), .ref (ad p1)] : List Value).toArray below meth c H locs 0 0 (MQ below (va_Qv (fun u => u = res) (gPr D cA ad tw shX 315) (gA ad 315)) ([.ref (ad p0), .ref (ad p1)] : List Value).toArray s 0 0 (gA ad 315)) (F0 m 5 ls [])) (n : Nat) (x3 : Int32) (z : gS) (H : Heap) (locs : List Loc) (ls : Array Slot), f_X0_make_11 p0 p1 x2 K5 n x3 z = some res → va_P D vwCl (gw cA ad shX 315 z) H → va_S (gA ad 315) s.heap H locs → lv_has ls 4 [(0, .ref (ad p0)), (1, .ref (ad p1)), (2, .int x2), (3, .int x3)] → W p l e (headSpec wsX0_make (gRm 3 68)).room s m ([.ref (ad p0), .ref (ad p1)] : List Value).toArray below meth c H locs 0 0 (MQ below (va_Qv (fun u => u = res) (gPr D cA ad tw shX 315) (gA ad 315)) ([.ref (ad p0), .ref (ad p1)] : List Value).toArray s 0 0 (gA ad 315)) (F0 m 11 ls []) := by
    intro x2 K5 hK5 n
    induction n with
    | zero => intro x3 z H locs ls h; exact (gno h).elim
    | succ n hK11 =>
      intro x3 z H locs ls h hP hS hl
      replace h : f_X0_make_11_b p0 p1 x2 K5 (f_X0_make_11 p0 p1 x2 K5 n) x3 z = some res := h
      unfold f_X0_make_11_b at h
      refine lv_iload_n hx hb dX0_make_11 rfl (lv_at hl 3 rfl) ?_
      refine lv_aload_n hx hb dX0_make_12 rfl (lv_at hl 1 rfl) ?_
      refine fw_geti hx hb hts in_X0_make_X5 hown hK hP hp1.1.1 hp1.1.2 rfl 0 (by decide) rfl (hts _ (List.mem_of_getElem? (i := 1) rfl)) rfl dX0_make_13 ?_
      refine lv_icmp_ge (tgt := 40) hx hb dX0_make_16 (by decide) (fun c8 => ?_) (fun c8 => ?_)
      · replace h := gif_t h c8
        refine lv_iinc (v := x2 + gm1) (lv' := [(2, .int (x2 + gm1)), (0, .ref (ad p0)), (1, .ref (ad p1)), (3, .int x3)]) hx hb dX0_make_40 hl (k := 2) rfl rfl (by decide) rfl (fun ls hl => ?_)
        refine lv_goto (tgt := 5) hx hb dX0_make_43 (by decide) ?_
        exact hK5 (x2 + gm1) z _ _ ls h hP hS (lv_sub hl [1, 2, 0] rfl)
      · replace h := gif_f h c8
        refine lv_aload_n hx hb dX0_make_19 rfl (lv_at hl 0 rfl) ?_
        refine fw_getr hx hb hts in_X0_make_X0 hown hK hP hp0.1.1 hp0.1.2 rfl 0 (by decide) rfl (hts _ (List.mem_of_getElem? (i := 2) rfl)) rfl dX0_make_20 ?_
        refine lv_iload_n hx hb dX0_make_23 rfl (lv_at hl 2 rfl) ?_
        obtain ⟨h9, h⟩ := gg_s h
        refine fw_rald hx hb hK hP hp0.2.1.1 hp0.2.1.2 h9 dX0_make_24 ?_
        refine lv_iload_n hx hb dX0_make_25 rfl (lv_at hl 3 rfl) ?_
        refine lv_aload_n hx hb dX0_make_26 rfl (lv_at hl 0 rfl) ?_
        refine lv_aload_n hx hb dX0_make_27 rfl (lv_at hl 1 rfl) ?_
        refine lv_iload_n hx hb dX0_make_28 rfl (lv_at hl 2 rfl) ?_
        refine lv_iload_n hx hb dX0_make_29 rfl (lv_at hl 3 rfl) ?_
        obtain ⟨q10, hq10, h⟩ := gb_s h
        refine fw_viR (As := [.ref (ad p1), .int x2, .int x3]) (rest := [.int x3, .ref (ad (p0 + 2 + 1 * x2.toNatClampNeg))]) ⟨hx, hb, hml, hown, hts⟩ (k_X0_bestFrom l D cA ad tw hG z p0 (hp0) p1 (hp1) x2 x3 q10 hq10) (cwV 3 hts gX0_make_X0_bestFrom rfl rfl rfl hdV_X0_bestFrom ⟨Nat.le_of_ble_eq_true rfl, Nat.le_of_ble_eq_true rfl⟩) (fw_preV hp0.1.1 hp0.1.2 rfl rfl hK hZ hP hS) rfl hl _ rfl (Nat.le_of_ble_eq_true rfl) hS dX0_make_30 ⟨Nat.zero_le _, Nat.zero_le _⟩ (fun H locs hP hS => ?_)
        obtain ⟨h11, h⟩ := gg_s h
        refine fw_iast hx hb hK hG hP hS (hp0.2.2 _ (gvl h9)).1 (hp0.2.2 _ (gvl h9)).2 h11 dX0_make_33 (fun z12 H locs ez12 hP hS => ?_)
        replace h := gl_s h ez12
        refine lv_iinc (v := x3 + (nI 1)) (lv' := [(3, .int (x3 + (nI 1))), (0, .ref (ad p0)), (1, .ref (ad p1)), (2, .int x2)]) hx hb dX0_make_34 hl (k := 3) rfl rfl (by decide) rfl (fun ls hl => ?_)
        refine lv_goto (tgt := 11) hx hb dX0_make_37 (by decide) ?_
        exact hK11 (x3 + (nI 1)) z12 _ _ ls h hP hS (lv_sub hl [1, 2, 3, 0] rfl)
  have j53 : ∀  (n : Nat) (x2 : Int32) (z : gS) (H : Heap) (locs : List Loc) (ls : Array Slot), f_X0_make_53 p0 p1 n x2 z = some res → va_P D vwCl (gw cA ad shX 315 z) H → va_S (gA ad 315) s.heap H locs → lv_has ls 4 [(0, .ref (ad p0)), (1, .ref (ad p1)), (2, .int x2)] → W p l e (headSpec wsX0_make (gRm 3 68)).room s m ([.ref (ad p0), .ref (ad p1)] : List Value).toArray below meth c H locs 0 0 (MQ below (va_Qv (fun u => u = res) (gPr D cA ad tw shX 315) (gA ad 315)) ([.ref (ad p0), .ref (ad p1)] : List Value).toArray s 0 0 (gA ad 315)) (F0 m 53 ls []) := by
    intro n
    induction n with
    | zero => intro x2 z H locs ls h; exact (gno h).elim
    | succ n hK53 =>
      intro x2 z H locs ls h hP hS hl
      replace h : f_X0_make_53_b p0 p1 (f_X0_make_53 p0 p1 n) x2 z = some res := h
      unfold f_X0_make_53_b at h
      refine lv_iload_n hx hb dX0_make_53 rfl (lv_at hl 2 rfl) ?_
      refine lv_aload_n hx hb dX0_make_54 rfl (lv_at hl 1 rfl) ?_
      refine fw_geti hx hb hts in_X0_make_X5 hown hK hP hp1.1.1 hp1.1.2 rfl 0 (by decide) rfl (hts _ (List.mem_of_getElem? (i := 1) rfl)) rfl dX0_make_55 ?_
      refine lv_icmp_ge (tgt := 88) hx hb dX0_make_58 (by decide) (fun c4 => ?_) (fun c4 => ?_)
      · replace h := gif_t h c4
        exact fw_vret hx hb hr hlocks (Option.some.inj h) hK hZ hP hS dX0_make_88
      · replace h := gif_f h c4
        refine lv_aload_n hx hb dX0_make_61 rfl (lv_at hl 0 rfl) ?_
        refine lv_aload_n hx hb dX0_make_62 rfl (lv_at hl 0 rfl) ?_
        refine fw_geti hx hb hts in_X0_make_X0 hown hK hP hp0.1.1 hp0.1.2 rfl 1 (by decide) rfl (hts _ (List.mem_of_getElem? (i := 3) rfl)) rfl dX0_make_63 ?_
        refine lv_aload_n hx hb dX0_make_66 rfl (lv_at hl 0 rfl) ?_
        refine fw_getr hx hb hts in_X0_make_X0 hown hK hP hp0.1.1 hp0.1.2 rfl 0 (by decide) rfl (hts _ (List.mem_of_getElem? (i := 2) rfl)) rfl dX0_make_67 ?_
        refine lv_iconst (v := (nI 1)) hx hb dX0_make_70 (by decide) ?_
        refine lv_iload_n hx hb dX0_make_71 rfl (lv_at hl 2 rfl) ?_
        refine lv_ishl hx hb dX0_make_72 ?_
        obtain ⟨h5, h⟩ := gg_s h
        refine fw_rald hx hb hK hP hp0.2.1.1 hp0.2.1.2 h5 dX0_make_73 ?_
        refine lv_iload_n hx hb dX0_make_74 rfl (lv_at hl 2 rfl) ?_
        obtain ⟨h6, h⟩ := gg_s h
        refine fw_iald hx hb hK hP (hp0.2.2 _ (gvl h5)).1 (hp0.2.2 _ (gvl h5)).2 h6 dX0_make_75 ?_
        refine va_mmax hx hb (by rw [hml]; exact hl.1.symm) hown (hts _ (List.mem_of_getElem? (i := 4) rfl)) (hts _ (List.mem_of_getElem? (i := 5) rfl)) (hts _ (List.mem_of_getElem? (i := 6) rfl)) (hts _ (List.mem_of_getElem? (i := 7) rfl)) (Nat.le_of_ble_eq_true rfl) (Nat.le_of_ble_eq_true rfl) (Nat.zero_le _) (Nat.zero_le _) dX0_make_76 ?_
        refine fw_put hx hb hts in_X0_make_X0 tyX0_ok nmX0 hown hK hG hP hS hp0.1.1 hp0.1.2 rfl 1 (by decide) rfl (hts _ (List.mem_of_getElem? (i := 3) rfl)) rfl rfl (ty := .int) rfl rfl rfl dX0_make_79 (fun z7 H locs ez7 hP hS => ?_)
        replace h := gl_s h ez7
        refine lv_iinc (v := x2 + (nI 1)) (lv' := [(2, .int (x2 + (nI 1))), (0, .ref (ad p0)), (1, .ref (ad p1))]) hx hb dX0_make_82 hl (k := 2) rfl rfl (by decide) rfl (fun ls hl => ?_)
        refine lv_goto (tgt := 53) hx hb dX0_make_85 (by decide) ?_
        exact hK53 (x2 + (nI 1)) z7 _ _ ls h hP hS (lv_sub hl [1, 2, 0] rfl)
  have j5 : ∀  (n : Nat) (x2 : Int32) (z : gS) (H : Heap) (locs : List Loc) (ls : Array Slot), f_X0_make_5 p0 p1 n x2 z = some res → va_P D vwCl (gw cA ad shX 315 z) H → va_S (gA ad 315) s.heap H locs → lv_has ls 4 [(0, .ref (ad p0)), (1, .ref (ad p1)), (2, .int x2)] → W p l e (headSpec wsX0_make (gRm 3 68)).room s m ([.ref (ad p0), .ref (ad p1)] : List Value).toArray below meth c H locs 0 0 (MQ below (va_Qv (fun u => u = res) (gPr D cA ad tw shX 315) (gA ad 315)) ([.ref (ad p0), .ref (ad p1)] : List Value).toArray s 0 0 (gA ad 315)) (F0 m 5 ls []) := by
    intro n
    induction n with
    | zero => intro x2 z H locs ls h; exact (gno h).elim
    | succ n hK5 =>
      intro x2 z H locs ls h hP hS hl
      replace h : f_X0_make_5_b p0 p1 (f_X0_make_5 p0 p1 n) x2 z = some res := h
      unfold f_X0_make_5_b at h
      refine lv_iload_n hx hb dX0_make_5 rfl (lv_at hl 2 rfl) ?_
      refine lv_if_le (tgt := 46) hx hb dX0_make_6 (by decide) (fun c2 => ?_) (fun c2 => ?_)
      · replace h := gif_t h c2
        refine lv_aload_n hx hb dX0_make_46 rfl (lv_at hl 0 rfl) ?_
        refine lv_iconst (v := (nI 0)) hx hb dX0_make_47 (by decide) ?_
        refine fw_put hx hb hts in_X0_make_X0 tyX0_ok nmX0 hown hK hG hP hS hp0.1.1 hp0.1.2 rfl 1 (by decide) rfl (hts _ (List.mem_of_getElem? (i := 3) rfl)) rfl rfl (ty := .int) rfl rfl rfl dX0_make_48 (fun z3 H locs ez3 hP hS => ?_)
        replace h := gl_s h ez3
        refine lv_iconst (v := (nI 0)) hx hb dX0_make_51 (by decide) ?_
        refine lv_istore_n (lv' := [(2, .int (nI 0)), (0, .ref (ad p0)), (1, .ref (ad p1))]) hx hb dX0_make_52 rfl hl (by decide) rfl (fun ls hl => ?_)
        exact j53  gF (nI 0) z3 _ _ ls h hP hS (lv_sub hl [1, 2, 0] rfl)
      · replace h := gif_f h c2
        refine lv_iconst (v := (nI 0)) hx hb dX0_make_9 (by decide) ?_
        refine lv_istore_n (lv' := [(3, .int (nI 0)), (0, .ref (ad p0)), (1, .ref (ad p1)), (2, .int x2)]) hx hb dX0_make_10 rfl hl (by decide) rfl (fun ls hl => ?_)
        exact j11 x2 _ hK5 gF (nI 0) z _ _ ls h hP hS (lv_sub hl [1, 2, 3, 0] rfl)
  unfold f_X0_make at h
  refine lv_aload_n hx hb dX0_make_0 rfl (lv_at hl 1 rfl) ?_
  obtain ⟨q1, hq1, h⟩ := gb_s h
  refine fw_viR (As := []) (rest := []) ⟨hx, hb, hml, hown, hts⟩ (k_X5_everybody l D cA ad tw hG z p1 (hp1) q1 hq1) (cwV 0 hts gX0_make_X5_everybody rfl rfl rfl hdV_X5_everybody ⟨Nat.le_of_ble_eq_true rfl, Nat.le_of_ble_eq_true rfl⟩) (fw_preV hp1.1.1 hp1.1.2 rfl rfl hK hZ hP hS) rfl hl _ rfl (Nat.le_of_ble_eq_true rfl) hS dX0_make_1 ⟨Nat.zero_le _, Nat.zero_le _⟩ (fun H locs hP hS => ?_)
  refine lv_istore_n (lv' := [(2, .int q1), (0, .ref (ad p0)), (1, .ref (ad p1))]) hx hb dX0_make_4 rfl hl (by decide) rfl (fun ls hl => ?_)
  exact j5  gF q1 z _ _ ls h hP hS (lv_sub hl [1, 2, 0] rfl)
theorem in_X0_firstOrder_X0 : ∀ w ∈ wsX00, w ∈ wsX0_firstOrder := fun w h => List.mem_cons_of_mem _ (List.mem_append_left _ (List.mem_append_right _ (h)))
theorem in_X0_firstOrder_X5 : ∀ w ∈ wsX50, w ∈ wsX0_firstOrder := fun w h => List.mem_cons_of_mem _ (List.mem_append_right _ (h))
theorem hdV_X0_firstOrder : yX0_firstOrder.cls = RX0 ∧ yX0_firstOrder.cls ≠ "java/lang/invoke/MethodHandle" ∧ yX0_firstOrder.cls ≠ "java/lang/invoke/VarHandle" ∧ (parseMethodDescriptor yX0_firstOrder.desc).map (fun d => d.parameters.length) = some 1 := by decide +kernel
set_option maxHeartbeats 4000000 in
set_option maxRecDepth 100000 in
theorem k_X0_firstOrder (l : Launch) (D : va_G) (cA : Nat → ClassId) (ad : Nat → Nat) (tw : Nat) (hG : gOk ad 315) (z : gS) (p0 : Nat) (hp0 : gC0 p0) (p1 : Nat) (hp1 : gC5 p1) (res : Int32) (h : f_X0_firstOrder p0 p1 z = some res) : gMi l yX0_firstOrder wsX0_firstOrder (gRm 2 43) D cA ad tw shX 315 [.ref (ad p0), .ref (ad p1)] z (res, z) := by
  refine Met.ofW (cc := cX0_firstOrder) (maxL := 9) (ret := (some .int)) (by decide) rfl ?_
  intro p e s m args below meth c s₁ B hml hv
  obtain ⟨rfl, hP, hK, hZ⟩ := hv
  have hx := B.exec
  have hb := B.bytes
  have hr := B.returns
  have hts := atoms_spec (ws := wsX0_firstOrder) B.pre
  have hown : s.vm.findClass RX0 = some m.cls := findClass_of_methodNamed B.named
  have hlocks := B.notSynchronized
  have hS : va_S (gA ad 315) s.heap s.heap [] := va_S.rf
  have hl := lv_entry ([.ref (ad p0), .ref (ad p1)]) (n := 9) (Nat.le_of_ble_eq_true rfl)
  rw [lg_entry_eq]
  generalize (lg_sl ([.ref (ad p0), .ref (ad p1)]) ++ List.replicate (9 - (lg_sl ([.ref (ad p0), .ref (ad p1)])).length) Slot.unset).toArray = ls at hl ⊢
  have hl : lv_has ls 9 [(0, .ref (ad p0)), (1, .ref (ad p1))] := hl
  have j28 : ∀ (x2 : Int32) (x3 : Int32) (x4 : Int32) (x5 : Int32) (x6 : Int32) (K16 : Int32 → Int32 → Int32 → Int32 → Int32 → Option Int32) (hK16 : ∀ (x2' : Int32) (x3' : Int32) (x4' : Int32) (x5' : Int32) (x6' : Int32) (H : Heap) (locs : List Loc) (ls : Array Slot), K16 x2' x3' x4' x5' x6' = some res → va_P D vwCl (gw cA ad shX 315 z) H → va_S (gA ad 315) s.heap H locs → lv_has ls 9 [(0, .ref (ad p0)), (1, .ref (ad p1)), (2, .int x2'), (3, .int x3'), (4, .int x4'), (5, .int x5'), (6, .int x6')] → W p l e (headSpec wsX0_firstOrder (gRm 2 43)).room s m ([.ref (ad p0), .ref (ad p1)] : List Value).toArray below meth c H locs 0 0 (MQ below (va_Qi (fun r u => (r, u) = (res, z)) (gPr D cA ad tw shX 315) (gA ad 315)) ([.ref (ad p0), .ref (ad p1)] : List Value).toArray s 0 0 (gA ad 315)) (F0 m 16 ls [])) (n : Nat) (x7 : Int32) (H : Heap) (locs : List Loc) (ls : Array Slot), f_X0_firstOrder_28 p0 p1 z x2 x3 x4 x5 x6 K16 n x7 = some res → va_P D vwCl (gw cA ad shX 315 z) H → va_S (gA ad 315) s.heap H locs → lv_has ls 9 [(0, .ref (ad p0)), (1, .ref (ad p1)), (2, .int x2), (3, .int x3), (4, .int x4), (5, .int x5), (6, .int x6), (7, .int x7)] → W p l e (headSpec wsX0_firstOrder (gRm 2 43)).room s m ([.ref (ad p0), .ref (ad p1)] : List Value).toArray below meth c H locs 0 0 (MQ below (va_Qi (fun r u => (r, u) = (res, z)) (gPr D cA ad tw shX 315) (gA ad 315)) ([.ref (ad p0), .ref (ad p1)] : List Value).toArray s 0 0 (gA ad 315)) (F0 m 28 ls []) := by
    intro x2 x3 x4 x5 x6 K16 hK16 n
    induction n with
    | zero => intro x7 H locs ls h; exact (gno h).elim
    | succ n hK28 =>
      intro x7 H locs ls h hP hS hl
      replace h : f_X0_firstOrder_28_b p0 p1 z x2 x3 x4 x5 x6 K16 (f_X0_firstOrder_28 p0 p1 z x2 x3 x4 x5 x6 K16 n) x7 = some res := h
      unfold f_X0_firstOrder_28_b at h
      refine lv_iload hx hb dX0_firstOrder_28 (lv_at hl 7 rfl) ?_
      refine lv_aload_n hx hb dX0_firstOrder_30 rfl (lv_at hl 1 rfl) ?_
      refine fw_geti hx hb hts in_X0_firstOrder_X5 hown hK hP hp1.1.1 hp1.1.2 rfl 0 (by decide) rfl (hts _ (List.mem_of_getElem? (i := 2) rfl)) rfl dX0_firstOrder_31 ?_
      refine lv_icmp_ge (tgt := 114) hx hb dX0_firstOrder_34 (by decide) (fun c3 => ?_) (fun c3 => ?_)
      · replace h := gif_t h c3
        refine lv_iinc (v := x6 + (nI 1)) (lv' := [(6, .int (x6 + (nI 1))), (0, .ref (ad p0)), (1, .ref (ad p1)), (2, .int x2), (3, .int x3), (4, .int x4), (5, .int x5), (7, .int x7)]) hx hb dX0_firstOrder_114 hl (k := 6) rfl rfl (by decide) rfl (fun ls hl => ?_)
        refine lv_goto (tgt := 16) hx hb dX0_firstOrder_117 (by decide) ?_
        exact hK16 x2 x3 x4 x5 (x6 + (nI 1)) _ _ ls h hP hS (lv_sub hl [1, 2, 3, 4, 5, 6, 0] rfl)
      · replace h := gif_f h c3
        refine lv_aload_n hx hb dX0_firstOrder_37 rfl (lv_at hl 1 rfl) ?_
        refine lv_iload hx hb dX0_firstOrder_38 (lv_at hl 4 rfl) ?_
        refine lv_iload hx hb dX0_firstOrder_40 (lv_at hl 7 rfl) ?_
        obtain ⟨q4, hq4, h⟩ := gb_s h
        refine fw_viR (As := [.int x4, .int x7]) (rest := []) ⟨hx, hb, hml, hown, hts⟩ (k_X5_common l D cA ad tw hG z p1 (hp1) x4 x7 q4 hq4) (cwV 2 hts gX0_firstOrder_X5_common rfl rfl rfl hdV_X5_common ⟨Nat.le_of_ble_eq_true rfl, Nat.le_of_ble_eq_true rfl⟩) (fw_preV hp1.1.1 hp1.1.2 rfl rfl hK hZ hP hS) rfl hl _ rfl (Nat.le_of_ble_eq_true rfl) hS dX0_firstOrder_42 ⟨Nat.zero_le _, Nat.zero_le _⟩ (fun H locs hP hS => ?_)
        refine lv_istore (lv' := [(8, .int q4), (0, .ref (ad p0)), (1, .ref (ad p1)), (2, .int x2), (3, .int x3), (4, .int x4), (5, .int x5), (6, .int x6), (7, .int x7)]) hx hb dX0_firstOrder_45 hl (by decide) rfl (fun ls hl => ?_)
        refine lv_iload_n hx hb dX0_firstOrder_47 rfl (lv_at hl 4 rfl) ?_
        refine lv_iload hx hb dX0_firstOrder_48 (lv_at hl 8 rfl) ?_
        refine lv_ishr hx hb dX0_firstOrder_50 ?_
        refine lv_iconst (v := (nI 1)) hx hb dX0_firstOrder_51 (by decide) ?_
        refine lv_iand hx hb dX0_firstOrder_52 ?_
        refine lv_if_ne (tgt := 108) hx hb dX0_firstOrder_53 (by decide) (fun c5 => ?_) (fun c5 => ?_)
        · replace h := gif_f h c5
          refine lv_iinc (v := x7 + (nI 1)) (lv' := [(7, .int (x7 + (nI 1))), (8, .int q4), (0, .ref (ad p0)), (1, .ref (ad p1)), (2, .int x2), (3, .int x3), (4, .int x4), (5, .int x5), (6, .int x6)]) hx hb dX0_firstOrder_108 hl (k := 8) rfl rfl (by decide) rfl (fun ls hl => ?_)
          refine lv_goto (tgt := 28) hx hb dX0_firstOrder_111 (by decide) ?_
          exact hK28 (x7 + (nI 1)) _ _ ls h hP hS (lv_sub hl [2, 3, 4, 5, 6, 7, 8, 0] rfl)
        · replace h := gif_t h c5
          refine lv_iload hx hb dX0_firstOrder_56 (lv_at hl 0 rfl) ?_
          refine lv_aload_n hx hb dX0_firstOrder_58 rfl (lv_at hl 1 rfl) ?_
          refine fw_getr hx hb hts in_X0_firstOrder_X0 hown hK hP hp0.1.1 hp0.1.2 rfl 0 (by decide) rfl (hts _ (List.mem_of_getElem? (i := 3) rfl)) rfl dX0_firstOrder_59 ?_
          refine lv_iload_n hx hb dX0_firstOrder_62 rfl (lv_at hl 4 rfl) ?_
          refine lv_iconst (v := (nI 1)) hx hb dX0_firstOrder_63 (by decide) ?_
          refine lv_iload hx hb dX0_firstOrder_64 (lv_at hl 8 rfl) ?_
          refine lv_ishl hx hb dX0_firstOrder_66 ?_
          refine lv_ior hx hb dX0_firstOrder_67 ?_
          obtain ⟨h6, h⟩ := gg_s h
          refine fw_rald hx hb hK hP hp0.2.1.1 hp0.2.1.2 h6 dX0_firstOrder_68 ?_
          refine lv_iload hx hb dX0_firstOrder_69 (lv_at hl 8 rfl) ?_
          obtain ⟨h7, h⟩ := gg_s h
          refine fw_iald hx hb hK hP (hp0.2.2 _ (gvl h6)).1 (hp0.2.2 _ (gvl h6)).2 h7 dX0_firstOrder_71 ?_
          refine lv_iadd hx hb dX0_firstOrder_72 ?_
          refine lv_iload_n hx hb dX0_firstOrder_73 rfl (lv_at hl 3 rfl) ?_
          refine lv_icmp_ne (tgt := 108) hx hb dX0_firstOrder_74 (by decide) (fun c8 => ?_) (fun c8 => ?_)
          · replace h := gif_f h c8
            refine lv_iinc (v := x7 + (nI 1)) (lv' := [(7, .int (x7 + (nI 1))), (8, .int q4), (0, .ref (ad p0)), (1, .ref (ad p1)), (2, .int x2), (3, .int x3), (4, .int x4), (5, .int x5), (6, .int x6)]) hx hb dX0_firstOrder_108 hl (k := 8) rfl rfl (by decide) rfl (fun ls hl => ?_)
            refine lv_goto (tgt := 28) hx hb dX0_firstOrder_111 (by decide) ?_
            exact hK28 (x7 + (nI 1)) _ _ ls h hP hS (lv_sub hl [2, 3, 4, 5, 6, 7, 8, 0] rfl)
          · replace h := gif_t h c8
            refine lv_iload_n hx hb dX0_firstOrder_77 rfl (lv_at hl 3 rfl) ?_
            refine lv_iload hx hb dX0_firstOrder_78 (lv_at hl 0 rfl) ?_
            refine lv_isub hx hb dX0_firstOrder_80 ?_
            refine lv_topi (fun y9 ey9 => ?_)
            replace h := gl_s h ey9
            refine lv_istore_n (lv' := [(2, .int y9), (8, .int q4), (0, .ref (ad p0)), (1, .ref (ad p1)), (3, .int x3), (4, .int x4), (5, .int x5), (6, .int x6), (7, .int x7)]) hx hb dX0_firstOrder_81 rfl hl (by decide) rfl (fun ls hl => ?_)
            refine lv_iload_n hx hb dX0_firstOrder_82 rfl (lv_at hl 4 rfl) ?_
            refine lv_iconst (v := (nI 1)) hx hb dX0_firstOrder_83 (by decide) ?_
            refine lv_iload hx hb dX0_firstOrder_84 (lv_at hl 8 rfl) ?_
            refine lv_ishl hx hb dX0_firstOrder_86 ?_
            refine lv_ior hx hb dX0_firstOrder_87 ?_
            refine lv_topi (fun y10 ey10 => ?_)
            replace h := gl_s h ey10
            refine lv_istore_n (lv' := [(3, .int y10), (2, .int y9), (8, .int q4), (0, .ref (ad p0)), (1, .ref (ad p1)), (4, .int x4), (5, .int x5), (6, .int x6), (7, .int x7)]) hx hb dX0_firstOrder_88 rfl hl (by decide) rfl (fun ls hl => ?_)
            refine lv_iload hx hb dX0_firstOrder_89 (lv_at hl 8 rfl) ?_
            refine lv_istore (lv' := [(4, .int x7), (3, .int y10), (2, .int y9), (8, .int q4), (0, .ref (ad p0)), (1, .ref (ad p1)), (5, .int x5), (6, .int x6), (7, .int x7)]) hx hb dX0_firstOrder_91 hl (by decide) rfl (fun ls hl => ?_)
            refine lv_iload hx hb dX0_firstOrder_93 (lv_at hl 6 rfl) ?_
            refine lv_bipush (v := (nI 10)) hx hb dX0_firstOrder_95 (by decide) ?_
            refine lv_imul hx hb dX0_firstOrder_97 ?_
            refine lv_iload hx hb dX0_firstOrder_98 (lv_at hl 8 rfl) ?_
            refine lv_iadd hx hb dX0_firstOrder_100 ?_
            refine lv_iconst (v := (nI 1)) hx hb dX0_firstOrder_101 (by decide) ?_
            refine lv_iadd hx hb dX0_firstOrder_102 ?_
            refine lv_topi (fun y11 ey11 => ?_)
            replace h := gl_s h ey11
            refine lv_istore (lv' := [(5, .int y11), (4, .int x7), (3, .int y10), (2, .int y9), (8, .int q4), (0, .ref (ad p0)), (1, .ref (ad p1)), (6, .int x6), (7, .int x7)]) hx hb dX0_firstOrder_103 hl (by decide) rfl (fun ls hl => ?_)
            refine lv_goto (tgt := 114) hx hb dX0_firstOrder_105 (by decide) ?_
            refine lv_iinc (v := x6 + (nI 1)) (lv' := [(6, .int (x6 + (nI 1))), (5, .int y11), (4, .int x7), (3, .int y10), (2, .int y9), (8, .int q4), (0, .ref (ad p0)), (1, .ref (ad p1)), (7, .int x7)]) hx hb dX0_firstOrder_114 hl (k := 7) rfl rfl (by decide) rfl (fun ls hl => ?_)
            refine lv_goto (tgt := 16) hx hb dX0_firstOrder_117 (by decide) ?_
            exact hK16 y9 y10 x7 y11 (x6 + (nI 1)) _ _ ls h hP hS (lv_sub hl [6, 7, 4, 3, 2, 1, 0] rfl)
  have j16 : ∀  (n : Nat) (x2 : Int32) (x3 : Int32) (x4 : Int32) (x5 : Int32) (x6 : Int32) (H : Heap) (locs : List Loc) (ls : Array Slot), f_X0_firstOrder_16 p0 p1 z n x2 x3 x4 x5 x6 = some res → va_P D vwCl (gw cA ad shX 315 z) H → va_S (gA ad 315) s.heap H locs → lv_has ls 9 [(0, .ref (ad p0)), (1, .ref (ad p1)), (2, .int x2), (3, .int x3), (4, .int x4), (5, .int x5), (6, .int x6)] → W p l e (headSpec wsX0_firstOrder (gRm 2 43)).room s m ([.ref (ad p0), .ref (ad p1)] : List Value).toArray below meth c H locs 0 0 (MQ below (va_Qi (fun r u => (r, u) = (res, z)) (gPr D cA ad tw shX 315) (gA ad 315)) ([.ref (ad p0), .ref (ad p1)] : List Value).toArray s 0 0 (gA ad 315)) (F0 m 16 ls []) := by
    intro n
    induction n with
    | zero => intro x2 x3 x4 x5 x6 H locs ls h; exact (gno h).elim
    | succ n hK16 =>
      intro x2 x3 x4 x5 x6 H locs ls h hP hS hl
      replace h : f_X0_firstOrder_16_b p0 p1 z (f_X0_firstOrder_16 p0 p1 z n) x2 x3 x4 x5 x6 = some res := h
      unfold f_X0_firstOrder_16_b at h
      refine lv_iload hx hb dX0_firstOrder_16 (lv_at hl 6 rfl) ?_
      refine lv_aload_n hx hb dX0_firstOrder_18 rfl (lv_at hl 1 rfl) ?_
      refine fw_geti hx hb hts in_X0_firstOrder_X5 hown hK hP hp1.1.1 hp1.1.2 rfl 0 (by decide) rfl (hts _ (List.mem_of_getElem? (i := 2) rfl)) rfl dX0_firstOrder_19 ?_
      refine lv_icmp_ge (tgt := 120) hx hb dX0_firstOrder_22 (by decide) (fun c2 => ?_) (fun c2 => ?_)
      · replace h := gif_t h c2
        refine lv_iload hx hb dX0_firstOrder_120 (lv_at hl 5 rfl) ?_
        exact fw_ireti hx hb hr hlocks (congrArg (fun q => (q, z)) (Option.some.inj h)) hK hZ hP hS dX0_firstOrder_122
      · replace h := gif_f h c2
        refine lv_iconst (v := (nI 0)) hx hb dX0_firstOrder_25 (by decide) ?_
        refine lv_istore (lv' := [(7, .int (nI 0)), (0, .ref (ad p0)), (1, .ref (ad p1)), (2, .int x2), (3, .int x3), (4, .int x4), (5, .int x5), (6, .int x6)]) hx hb dX0_firstOrder_26 hl (by decide) rfl (fun ls hl => ?_)
        exact j28 x2 x3 x4 x5 x6 _ hK16 gF (nI 0) _ _ ls h hP hS (lv_sub hl [1, 2, 3, 4, 5, 6, 7, 0] rfl)
  unfold f_X0_firstOrder at h
  refine lv_aload_n hx hb dX0_firstOrder_0 rfl (lv_at hl 0 rfl) ?_
  refine fw_geti hx hb hts in_X0_firstOrder_X0 hown hK hP hp0.1.1 hp0.1.2 rfl 1 (by decide) rfl (hts _ (List.mem_of_getElem? (i := 1) rfl)) rfl dX0_firstOrder_1 ?_
  refine lv_topi (fun y1 ey1 => ?_)
  replace h := gl_s h ey1
  refine lv_istore_n (lv' := [(2, .int y1), (0, .ref (ad p0)), (1, .ref (ad p1))]) hx hb dX0_firstOrder_4 rfl hl (by decide) rfl (fun ls hl => ?_)
  refine lv_iconst (v := (nI 0)) hx hb dX0_firstOrder_5 (by decide) ?_
  refine lv_istore_n (lv' := [(3, .int (nI 0)), (2, .int y1), (0, .ref (ad p0)), (1, .ref (ad p1))]) hx hb dX0_firstOrder_6 rfl hl (by decide) rfl (fun ls hl => ?_)
  refine lv_iconst (v := gm1) hx hb dX0_firstOrder_7 (by decide) ?_
  refine lv_istore (lv' := [(4, .int gm1), (3, .int (nI 0)), (2, .int y1), (0, .ref (ad p0)), (1, .ref (ad p1))]) hx hb dX0_firstOrder_8 hl (by decide) rfl (fun ls hl => ?_)
  refine lv_iconst (v := (nI 0)) hx hb dX0_firstOrder_10 (by decide) ?_
  refine lv_istore (lv' := [(5, .int (nI 0)), (4, .int gm1), (3, .int (nI 0)), (2, .int y1), (0, .ref (ad p0)), (1, .ref (ad p1))]) hx hb dX0_firstOrder_11 hl (by decide) rfl (fun ls hl => ?_)
  refine lv_iconst (v := (nI 0)) hx hb dX0_firstOrder_13 (by decide) ?_
  refine lv_istore (lv' := [(6, .int (nI 0)), (5, .int (nI 0)), (4, .int gm1), (3, .int (nI 0)), (2, .int y1), (0, .ref (ad p0)), (1, .ref (ad p1))]) hx hb dX0_firstOrder_14 hl (by decide) rfl (fun ls hl => ?_)
  exact j16  gF y1 (nI 0) gm1 (nI 0) (nI 0) _ _ ls h hP hS (lv_sub hl [5, 6, 4, 3, 2, 1, 0] rfl)
theorem in_X3_mayFollow_X3 : ∀ w ∈ wsX30, w ∈ wsX3_mayFollow := fun w h => List.mem_cons_of_mem _ (List.mem_append_right _ (h))
theorem hdV_X3_mayFollow : yX3_mayFollow.cls = RX3 ∧ yX3_mayFollow.cls ≠ "java/lang/invoke/MethodHandle" ∧ yX3_mayFollow.cls ≠ "java/lang/invoke/VarHandle" ∧ (parseMethodDescriptor yX3_mayFollow.desc).map (fun d => d.parameters.length) = some 2 := by decide +kernel
set_option maxHeartbeats 4000000 in
set_option maxRecDepth 100000 in
theorem k_X3_mayFollow (l : Launch) (D : va_G) (cA : Nat → ClassId) (ad : Nat → Nat) (tw : Nat) (hG : gOk ad 315) (z : gS) (p0 : Nat) (hp0 : gC3 p0) (a1 : Int32) (a2 : Int32) (res : Int32) (h : f_X3_mayFollow p0 a1 a2 z = some res) : gMi l yX3_mayFollow wsX3_mayFollow (gRm 0 0) D cA ad tw shX 315 [.ref (ad p0), .int a1, .int a2] z (res, z) := by
  refine Met.ofW (cc := cX3_mayFollow) (maxL := 4) (ret := (some .boolean)) (by decide) rfl ?_
  intro p e s m args below meth c s₁ B hml hv
  obtain ⟨rfl, hP, hK, hZ⟩ := hv
  have hx := B.exec
  have hb := B.bytes
  have hr := B.returns
  have hts := atoms_spec (ws := wsX3_mayFollow) B.pre
  have hown : s.vm.findClass RX3 = some m.cls := findClass_of_methodNamed B.named
  have hlocks := B.notSynchronized
  have hS : va_S (gA ad 315) s.heap s.heap [] := va_S.rf
  have hl := lv_entry ([.ref (ad p0), .int a1, .int a2]) (n := 4) (Nat.le_of_ble_eq_true rfl)
  rw [lg_entry_eq]
  generalize (lg_sl ([.ref (ad p0), .int a1, .int a2]) ++ List.replicate (4 - (lg_sl ([.ref (ad p0), .int a1, .int a2])).length) Slot.unset).toArray = ls at hl ⊢
  have hl : lv_has ls 4 [(0, .ref (ad p0)), (1, .int a1), (2, .int a2)] := hl
  have j53 : ∀ (x1 : Int32) (x2 : Int32) (x3 : Int32) (H : Heap) (locs : List Loc) (ls : Array Slot), f_X3_mayFollow_53 p0 x1 x2 x3 z = some res → va_P D vwCl (gw cA ad shX 315 z) H → va_S (gA ad 315) s.heap H locs → lv_has ls 4 [(0, .ref (ad p0)), (1, .int x1), (2, .int x2), (3, .int x3)] → W p l e (headSpec wsX3_mayFollow (gRm 0 0)).room s m ([.ref (ad p0), .int a1, .int a2] : List Value).toArray below meth c H locs 0 0 (MQ below (va_Qi (fun r u => (r, u) = (res, z)) (gPr D cA ad tw shX 315) (gA ad 315)) ([.ref (ad p0), .int a1, .int a2] : List Value).toArray s 0 0 (gA ad 315)) (F0 m 53 ls []) := by
    intro x1 x2 x3 H locs ls h hP hS hl
    unfold f_X3_mayFollow_53 at h
    refine lv_aload_n hx hb dX3_mayFollow_53 rfl (lv_at hl 0 rfl) ?_
    refine fw_geti hx hb hts in_X3_mayFollow_X3 hown hK hP hp0.1.1 hp0.1.2 rfl 6 (by decide) rfl (hts _ (List.mem_of_getElem? (i := 3) rfl)) rfl dX3_mayFollow_54 ?_
    refine lv_if_lt (tgt := 91) hx hb dX3_mayFollow_57 (by decide) (fun c11 => ?_) (fun c11 => ?_)
    · replace h := gif_t h c11
      refine lv_iconst (v := (nI 1)) hx hb dX3_mayFollow_91 (by decide) ?_
      refine lv_goto (tgt := 96) hx hb dX3_mayFollow_92 (by decide) ?_
      exact fw_iretz hx hb hr hlocks (by decide) (congrArg (fun q => (q, z)) (Option.some.inj h)) hK hZ hP hS dX3_mayFollow_96
    · replace h := gif_f h c11
      refine lv_iload_n hx hb dX3_mayFollow_60 rfl (lv_at hl 2 rfl) ?_
      refine lv_aload_n hx hb dX3_mayFollow_61 rfl (lv_at hl 0 rfl) ?_
      refine fw_geti hx hb hts in_X3_mayFollow_X3 hown hK hP hp0.1.1 hp0.1.2 rfl 6 (by decide) rfl (hts _ (List.mem_of_getElem? (i := 3) rfl)) rfl dX3_mayFollow_62 ?_
      refine lv_icmp_ne (tgt := 72) hx hb dX3_mayFollow_65 (by decide) (fun c12 => ?_) (fun c12 => ?_)
      · replace h := gif_f h c12
        refine lv_iconst (v := (nI 0)) hx hb dX3_mayFollow_72 (by decide) ?_
        refine lv_iload_n hx hb dX3_mayFollow_73 rfl (lv_at hl 1 rfl) ?_
        refine lv_iload_n hx hb dX3_mayFollow_74 rfl (lv_at hl 3 rfl) ?_
        refine lv_ior hx hb dX3_mayFollow_75 ?_
        refine lv_aload_n hx hb dX3_mayFollow_76 rfl (lv_at hl 0 rfl) ?_
        refine fw_geti hx hb hts in_X3_mayFollow_X3 hown hK hP hp0.1.1 hp0.1.2 rfl 4 (by decide) rfl (hts _ (List.mem_of_getElem? (i := 1) rfl)) rfl dX3_mayFollow_77 ?_
        refine lv_icmp_ne (tgt := 87) hx hb dX3_mayFollow_80 (by decide) (fun c13 => ?_) (fun c13 => ?_)
        · replace h := gif_f h c13
          refine lv_iconst (v := (nI 0)) hx hb dX3_mayFollow_87 (by decide) ?_
          refine lv_icmp_ne (tgt := 95) hx hb dX3_mayFollow_88 (by decide) (fun c14 => ?_) (fun c14 => ?_)
          · replace h := gif_f h c14
            refine lv_iconst (v := (nI 0)) hx hb dX3_mayFollow_95 (by decide) ?_
            exact fw_iretz hx hb hr hlocks (by decide) (congrArg (fun q => (q, z)) (Option.some.inj h)) hK hZ hP hS dX3_mayFollow_96
          · replace h := gif_t h c14
            refine lv_iconst (v := (nI 1)) hx hb dX3_mayFollow_91 (by decide) ?_
            refine lv_goto (tgt := 96) hx hb dX3_mayFollow_92 (by decide) ?_
            exact fw_iretz hx hb hr hlocks (by decide) (congrArg (fun q => (q, z)) (Option.some.inj h)) hK hZ hP hS dX3_mayFollow_96
        · replace h := gif_t h c13
          refine lv_iconst (v := (nI 1)) hx hb dX3_mayFollow_83 (by decide) ?_
          refine lv_goto (tgt := 88) hx hb dX3_mayFollow_84 (by decide) ?_
          refine lv_icmp_ne (tgt := 95) hx hb dX3_mayFollow_88 (by decide) (fun c15 => ?_) (fun c15 => ?_)
          · replace h := gif_f h c15
            refine lv_iconst (v := (nI 0)) hx hb dX3_mayFollow_95 (by decide) ?_
            exact fw_iretz hx hb hr hlocks (by decide) (congrArg (fun q => (q, z)) (Option.some.inj h)) hK hZ hP hS dX3_mayFollow_96
          · replace h := gif_t h c15
            refine lv_iconst (v := (nI 1)) hx hb dX3_mayFollow_91 (by decide) ?_
            refine lv_goto (tgt := 96) hx hb dX3_mayFollow_92 (by decide) ?_
            exact fw_iretz hx hb hr hlocks (by decide) (congrArg (fun q => (q, z)) (Option.some.inj h)) hK hZ hP hS dX3_mayFollow_96
      · replace h := gif_t h c12
        refine lv_iconst (v := (nI 1)) hx hb dX3_mayFollow_68 (by decide) ?_
        refine lv_goto (tgt := 73) hx hb dX3_mayFollow_69 (by decide) ?_
        refine lv_iload_n hx hb dX3_mayFollow_73 rfl (lv_at hl 1 rfl) ?_
        refine lv_iload_n hx hb dX3_mayFollow_74 rfl (lv_at hl 3 rfl) ?_
        refine lv_ior hx hb dX3_mayFollow_75 ?_
        refine lv_aload_n hx hb dX3_mayFollow_76 rfl (lv_at hl 0 rfl) ?_
        refine fw_geti hx hb hts in_X3_mayFollow_X3 hown hK hP hp0.1.1 hp0.1.2 rfl 4 (by decide) rfl (hts _ (List.mem_of_getElem? (i := 1) rfl)) rfl dX3_mayFollow_77 ?_
        refine lv_icmp_ne (tgt := 87) hx hb dX3_mayFollow_80 (by decide) (fun c16 => ?_) (fun c16 => ?_)
        · replace h := gif_f h c16
          refine lv_iconst (v := (nI 0)) hx hb dX3_mayFollow_87 (by decide) ?_
          refine lv_icmp_ne (tgt := 95) hx hb dX3_mayFollow_88 (by decide) (fun c17 => ?_) (fun c17 => ?_)
          · replace h := gif_f h c17
            refine lv_iconst (v := (nI 0)) hx hb dX3_mayFollow_95 (by decide) ?_
            exact fw_iretz hx hb hr hlocks (by decide) (congrArg (fun q => (q, z)) (Option.some.inj h)) hK hZ hP hS dX3_mayFollow_96
          · replace h := gif_t h c17
            refine lv_iconst (v := (nI 1)) hx hb dX3_mayFollow_91 (by decide) ?_
            refine lv_goto (tgt := 96) hx hb dX3_mayFollow_92 (by decide) ?_
            exact fw_iretz hx hb hr hlocks (by decide) (congrArg (fun q => (q, z)) (Option.some.inj h)) hK hZ hP hS dX3_mayFollow_96
        · replace h := gif_t h c16
          refine lv_iconst (v := (nI 1)) hx hb dX3_mayFollow_83 (by decide) ?_
          refine lv_goto (tgt := 88) hx hb dX3_mayFollow_84 (by decide) ?_
          refine lv_icmp_ne (tgt := 95) hx hb dX3_mayFollow_88 (by decide) (fun c18 => ?_) (fun c18 => ?_)
          · replace h := gif_f h c18
            refine lv_iconst (v := (nI 0)) hx hb dX3_mayFollow_95 (by decide) ?_
            exact fw_iretz hx hb hr hlocks (by decide) (congrArg (fun q => (q, z)) (Option.some.inj h)) hK hZ hP hS dX3_mayFollow_96
          · replace h := gif_t h c18
            refine lv_iconst (v := (nI 1)) hx hb dX3_mayFollow_91 (by decide) ?_
            refine lv_goto (tgt := 96) hx hb dX3_mayFollow_92 (by decide) ?_
            exact fw_iretz hx hb hr hlocks (by decide) (congrArg (fun q => (q, z)) (Option.some.inj h)) hK hZ hP hS dX3_mayFollow_96
  unfold f_X3_mayFollow at h
  refine lv_iconst (v := (nI 1)) hx hb dX3_mayFollow_0 (by decide) ?_
  refine lv_iload_n hx hb dX3_mayFollow_1 rfl (lv_at hl 2 rfl) ?_
  refine lv_ishl hx hb dX3_mayFollow_2 ?_
  refine lv_topi (fun y1 ey1 => ?_)
  replace h := gl_s h ey1
  refine lv_istore_n (lv' := [(3, .int y1), (0, .ref (ad p0)), (1, .int a1), (2, .int a2)]) hx hb dX3_mayFollow_3 rfl hl (by decide) rfl (fun ls hl => ?_)
  refine lv_aload_n hx hb dX3_mayFollow_4 rfl (lv_at hl 1 rfl) ?_
  refine fw_geti hx hb hts in_X3_mayFollow_X3 hown hK hP hp0.1.1 hp0.1.2 rfl 4 (by decide) rfl (hts _ (List.mem_of_getElem? (i := 1) rfl)) rfl dX3_mayFollow_5 ?_
  refine lv_iload_n hx hb dX3_mayFollow_8 rfl (lv_at hl 2 rfl) ?_
  refine lv_iconst (v := gm1) hx hb dX3_mayFollow_9 (by decide) ?_
  refine lv_ixor hx hb dX3_mayFollow_10 ?_
  refine lv_iand hx hb dX3_mayFollow_11 ?_
  refine lv_iload_n hx hb dX3_mayFollow_12 rfl (lv_at hl 0 rfl) ?_
  refine lv_iand hx hb dX3_mayFollow_13 ?_
  refine lv_if_ne (tgt := 19) hx hb dX3_mayFollow_14 (by decide) (fun c2 => ?_) (fun c2 => ?_)
  · replace h := gif_f h c2
    refine lv_aload_n hx hb dX3_mayFollow_19 rfl (lv_at hl 1 rfl) ?_
    refine fw_geti hx hb hts in_X3_mayFollow_X3 hown hK hP hp0.1.1 hp0.1.2 rfl 5 (by decide) rfl (hts _ (List.mem_of_getElem? (i := 2) rfl)) rfl dX3_mayFollow_20 ?_
    refine lv_if_lt (tgt := 53) hx hb dX3_mayFollow_23 (by decide) (fun c3 => ?_) (fun c3 => ?_)
    · replace h := gif_t h c3
      exact j53 a1 a2 y1 _ _ ls h hP hS (lv_sub hl [1, 2, 3, 0] rfl)
    · replace h := gif_f h c3
      refine lv_iload_n hx hb dX3_mayFollow_26 rfl (lv_at hl 3 rfl) ?_
      refine lv_aload_n hx hb dX3_mayFollow_27 rfl (lv_at hl 1 rfl) ?_
      refine fw_geti hx hb hts in_X3_mayFollow_X3 hown hK hP hp0.1.1 hp0.1.2 rfl 5 (by decide) rfl (hts _ (List.mem_of_getElem? (i := 2) rfl)) rfl dX3_mayFollow_28 ?_
      refine lv_icmp_ne (tgt := 38) hx hb dX3_mayFollow_31 (by decide) (fun c4 => ?_) (fun c4 => ?_)
      · replace h := gif_f h c4
        refine lv_iconst (v := (nI 0)) hx hb dX3_mayFollow_38 (by decide) ?_
        refine lv_iload_n hx hb dX3_mayFollow_39 rfl (lv_at hl 2 rfl) ?_
        refine lv_if_ne (tgt := 47) hx hb dX3_mayFollow_40 (by decide) (fun c5 => ?_) (fun c5 => ?_)
        · replace h := gif_f h c5
          refine lv_iconst (v := (nI 0)) hx hb dX3_mayFollow_47 (by decide) ?_
          refine lv_icmp_eq (tgt := 53) hx hb dX3_mayFollow_48 (by decide) (fun c6 => ?_) (fun c6 => ?_)
          · replace h := gif_t h c6
            exact j53 a1 a2 y1 _ _ ls h hP hS (lv_sub hl [1, 2, 3, 0] rfl)
          · replace h := gif_f h c6
            refine lv_iconst (v := (nI 0)) hx hb dX3_mayFollow_51 (by decide) ?_
            exact fw_iretz hx hb hr hlocks (by decide) (congrArg (fun q => (q, z)) (Option.some.inj h)) hK hZ hP hS dX3_mayFollow_52
        · replace h := gif_t h c5
          refine lv_iconst (v := (nI 1)) hx hb dX3_mayFollow_43 (by decide) ?_
          refine lv_goto (tgt := 48) hx hb dX3_mayFollow_44 (by decide) ?_
          refine lv_icmp_eq (tgt := 53) hx hb dX3_mayFollow_48 (by decide) (fun c7 => ?_) (fun c7 => ?_)
          · replace h := gif_t h c7
            exact j53 a1 a2 y1 _ _ ls h hP hS (lv_sub hl [1, 2, 3, 0] rfl)
          · replace h := gif_f h c7
            refine lv_iconst (v := (nI 0)) hx hb dX3_mayFollow_51 (by decide) ?_
            exact fw_iretz hx hb hr hlocks (by decide) (congrArg (fun q => (q, z)) (Option.some.inj h)) hK hZ hP hS dX3_mayFollow_52
      · replace h := gif_t h c4
        refine lv_iconst (v := (nI 1)) hx hb dX3_mayFollow_34 (by decide) ?_
        refine lv_goto (tgt := 39) hx hb dX3_mayFollow_35 (by decide) ?_
        refine lv_iload_n hx hb dX3_mayFollow_39 rfl (lv_at hl 2 rfl) ?_
        refine lv_if_ne (tgt := 47) hx hb dX3_mayFollow_40 (by decide) (fun c8 => ?_) (fun c8 => ?_)
        · replace h := gif_f h c8
          refine lv_iconst (v := (nI 0)) hx hb dX3_mayFollow_47 (by decide) ?_
          refine lv_icmp_eq (tgt := 53) hx hb dX3_mayFollow_48 (by decide) (fun c9 => ?_) (fun c9 => ?_)
          · replace h := gif_t h c9
            exact j53 a1 a2 y1 _ _ ls h hP hS (lv_sub hl [1, 2, 3, 0] rfl)
          · replace h := gif_f h c9
            refine lv_iconst (v := (nI 0)) hx hb dX3_mayFollow_51 (by decide) ?_
            exact fw_iretz hx hb hr hlocks (by decide) (congrArg (fun q => (q, z)) (Option.some.inj h)) hK hZ hP hS dX3_mayFollow_52
        · replace h := gif_t h c8
          refine lv_iconst (v := (nI 1)) hx hb dX3_mayFollow_43 (by decide) ?_
          refine lv_goto (tgt := 48) hx hb dX3_mayFollow_44 (by decide) ?_
          refine lv_icmp_eq (tgt := 53) hx hb dX3_mayFollow_48 (by decide) (fun c10 => ?_) (fun c10 => ?_)
          · replace h := gif_t h c10
            exact j53 a1 a2 y1 _ _ ls h hP hS (lv_sub hl [1, 2, 3, 0] rfl)
          · replace h := gif_f h c10
            refine lv_iconst (v := (nI 0)) hx hb dX3_mayFollow_51 (by decide) ?_
            exact fw_iretz hx hb hr hlocks (by decide) (congrArg (fun q => (q, z)) (Option.some.inj h)) hK hZ hP hS dX3_mayFollow_52
  · replace h := gif_t h c2
    refine lv_iconst (v := (nI 0)) hx hb dX3_mayFollow_17 (by decide) ?_
    exact fw_iretz hx hb hr hlocks (by decide) (congrArg (fun q => (q, z)) (Option.some.inj h)) hK hZ hP hS dX3_mayFollow_18
theorem in_X3_toll_X3 : ∀ w ∈ wsX30, w ∈ wsX3_toll := fun w h => List.mem_cons_of_mem _ (List.mem_append_right _ (h))
theorem hdV_X3_toll : yX3_toll.cls = RX3 ∧ yX3_toll.cls ≠ "java/lang/invoke/MethodHandle" ∧ yX3_toll.cls ≠ "java/lang/invoke/VarHandle" ∧ (parseMethodDescriptor yX3_toll.desc).map (fun d => d.parameters.length) = some 2 := by decide +kernel
set_option maxHeartbeats 4000000 in
set_option maxRecDepth 100000 in
theorem k_X3_toll (l : Launch) (D : va_G) (cA : Nat → ClassId) (ad : Nat → Nat) (tw : Nat) (hG : gOk ad 315) (z : gS) (p0 : Nat) (hp0 : gC3 p0) (a1 : Int32) (a2 : Int32) (res : Int32) (h : f_X3_toll p0 a1 a2 z = some res) : gMi l yX3_toll wsX3_toll (gRm 1 20) D cA ad tw shX 315 [.ref (ad p0), .int a1, .int a2] z (res, z) := by
  refine Met.ofW (cc := cX3_toll) (maxL := 3) (ret := (some .int)) (by decide) rfl ?_
  intro p e s m args below meth c s₁ B hml hv
  obtain ⟨rfl, hP, hK, hZ⟩ := hv
  have hx := B.exec
  have hb := B.bytes
  have hr := B.returns
  have hts := atoms_spec (ws := wsX3_toll) B.pre
  have hown : s.vm.findClass RX3 = some m.cls := findClass_of_methodNamed B.named
  have hlocks := B.notSynchronized
  have hS : va_S (gA ad 315) s.heap s.heap [] := va_S.rf
  have hl := lv_entry ([.ref (ad p0), .int a1, .int a2]) (n := 3) (Nat.le_of_ble_eq_true rfl)
  rw [lg_entry_eq]
  generalize (lg_sl ([.ref (ad p0), .int a1, .int a2]) ++ List.replicate (3 - (lg_sl ([.ref (ad p0), .int a1, .int a2])).length) Slot.unset).toArray = ls at hl ⊢
  have hl : lv_has ls 3 [(0, .ref (ad p0)), (1, .int a1), (2, .int a2)] := hl
  unfold f_X3_toll at h
  refine lv_aload_n hx hb dX3_toll_0 rfl (lv_at hl 0 rfl) ?_
  refine fw_getr hx hb hts in_X3_toll_X3 hown hK hP hp0.1.1 hp0.1.2 rfl 1 (by decide) rfl (hts _ (List.mem_of_getElem? (i := 1) rfl)) rfl dX3_toll_1 ?_
  refine lv_iload_n hx hb dX3_toll_4 rfl (lv_at hl 1 rfl) ?_
  obtain ⟨h1, h⟩ := gg_s h
  refine fw_iald hx hb hK hP hp0.2.2.1.1 hp0.2.2.1.2 h1 dX3_toll_5 ?_
  refine lv_aload_n hx hb dX3_toll_6 rfl (lv_at hl 0 rfl) ?_
  refine fw_getr hx hb hts in_X3_toll_X3 hown hK hP hp0.1.1 hp0.1.2 rfl 1 (by decide) rfl (hts _ (List.mem_of_getElem? (i := 1) rfl)) rfl dX3_toll_7 ?_
  refine lv_aload_n hx hb dX3_toll_10 rfl (lv_at hl 0 rfl) ?_
  refine fw_geti hx hb hts in_X3_toll_X3 hown hK hP hp0.1.1 hp0.1.2 rfl 4 (by decide) rfl (hts _ (List.mem_of_getElem? (i := 2) rfl)) rfl dX3_toll_11 ?_
  refine lv_iload_n hx hb dX3_toll_14 rfl (lv_at hl 1 rfl) ?_
  refine lv_iconst (v := gm1) hx hb dX3_toll_15 (by decide) ?_
  refine lv_ixor hx hb dX3_toll_16 ?_
  refine lv_iand hx hb dX3_toll_17 ?_
  refine lv_iconst (v := (nI 1)) hx hb dX3_toll_18 (by decide) ?_
  refine lv_iload_n hx hb dX3_toll_19 rfl (lv_at hl 2 rfl) ?_
  refine lv_ishl hx hb dX3_toll_20 ?_
  refine lv_iconst (v := gm1) hx hb dX3_toll_21 (by decide) ?_
  refine lv_ixor hx hb dX3_toll_22 ?_
  refine lv_iand hx hb dX3_toll_23 ?_
  obtain ⟨h2, h⟩ := gg_s h
  refine fw_iald hx hb hK hP hp0.2.2.1.1 hp0.2.2.1.2 h2 dX3_toll_24 ?_
  refine lv_iand hx hb dX3_toll_25 ?_
  refine lv_aload_n hx hb dX3_toll_26 rfl (lv_at hl 0 rfl) ?_
  refine fw_getr hx hb hts in_X3_toll_X3 hown hK hP hp0.1.1 hp0.1.2 rfl 0 (by decide) rfl (hts _ (List.mem_of_getElem? (i := 3) rfl)) rfl dX3_toll_27 ?_
  refine lv_iload_n hx hb dX3_toll_30 rfl (lv_at hl 2 rfl) ?_
  obtain ⟨h3, h⟩ := gg_s h
  refine fw_iald hx hb hK hP hp0.2.1.1 hp0.2.1.2 h3 dX3_toll_31 ?_
  refine lv_iconst (v := gm1) hx hb dX3_toll_32 (by decide) ?_
  refine lv_ixor hx hb dX3_toll_33 ?_
  refine lv_iand hx hb dX3_toll_34 ?_
  obtain ⟨q4, hq4, h⟩ := gb_s h
  refine fw_siR (As := [.int (((z (p0 + 2) a1.toNatClampNeg) &&& (z (p0 + 2) (((z p0 4) &&& (a1 ^^^ gm1)) &&& (((nI 1) <<< (a2 &&& 31)) ^^^ gm1)).toNatClampNeg)) &&& ((z (p0 + 1) a2.toNatClampNeg) ^^^ gm1))]) (rest := []) ⟨hx, hb, hml, hown, hts⟩ (k_J6_bitCount_0f7a4 l D cA ad tw hG z (((z (p0 + 2) a1.toNatClampNeg) &&& (z (p0 + 2) (((z p0 4) &&& (a1 ^^^ gm1)) &&& (((nI 1) <<< (a2 &&& 31)) ^^^ gm1)).toNatClampNeg)) &&& ((z (p0 + 1) a2.toNatClampNeg) ^^^ gm1)) q4 hq4) (va_cwS 1 hts gX3_toll_J6_bitCount_0f7a4 rfl rfl rfl hdS_J6_bitCount_0f7a4 ⟨Nat.le_of_ble_eq_true rfl, Nat.le_of_ble_eq_true rfl⟩) hK hZ hP rfl hl _ rfl (Nat.le_of_ble_eq_true rfl) hS dX3_toll_35 ⟨Nat.zero_le _, Nat.zero_le _⟩ (fun H locs hP hS => ?_)
  exact fw_ireti hx hb hr hlocks (congrArg (fun q => (q, z)) (Option.some.inj h)) hK hZ hP hS dX3_toll_38
theorem in_X3_settle_X3 : ∀ w ∈ wsX30, w ∈ wsX3_settle := fun w h => List.mem_cons_of_mem _ (List.mem_append_right _ (h))
theorem hdV_X3_settle : yX3_settle.cls = RX3 ∧ yX3_settle.cls ≠ "java/lang/invoke/MethodHandle" ∧ yX3_settle.cls ≠ "java/lang/invoke/VarHandle" ∧ (parseMethodDescriptor yX3_settle.desc).map (fun d => d.parameters.length) = some 1 := by decide +kernel
set_option maxHeartbeats 4000000 in
set_option maxRecDepth 100000 in
theorem k_X3_settle (l : Launch) (D : va_G) (cA : Nat → ClassId) (ad : Nat → Nat) (tw : Nat) (hG : gOk ad 315) (z : gS) (p0 : Nat) (hp0 : gC3 p0) (a1 : Int32) (res : gS) (h : f_X3_settle p0 a1 z = some res) : gMv l yX3_settle wsX3_settle (gRm 2 42) D cA ad tw shX 315 [.ref (ad p0), .int a1] z res := by
  refine Met.ofW (cc := cX3_settle) (maxL := 7) (ret := none) (by decide) rfl ?_
  intro p e s m args below meth c s₁ B hml hv
  obtain ⟨rfl, hP, hK, hZ⟩ := hv
  have hx := B.exec
  have hb := B.bytes
  have hr := B.returns
  have hts := atoms_spec (ws := wsX3_settle) B.pre
  have hown : s.vm.findClass RX3 = some m.cls := findClass_of_methodNamed B.named
  have hlocks := B.notSynchronized
  have hS : va_S (gA ad 315) s.heap s.heap [] := va_S.rf
  have hl := lv_entry ([.ref (ad p0), .int a1]) (n := 7) (Nat.le_of_ble_eq_true rfl)
  rw [lg_entry_eq]
  generalize (lg_sl ([.ref (ad p0), .int a1]) ++ List.replicate (7 - (lg_sl ([.ref (ad p0), .int a1])).length) Slot.unset).toArray = ls at hl ⊢
  have hl : lv_has ls 7 [(0, .ref (ad p0)), (1, .int a1)] := hl
  have j33 : ∀ (z : gS) (x1 : Int32) (n : Nat) (x2 : Int32) (x3 : Int32) (x4 : Int32) (H : Heap) (locs : List Loc) (ls : Array Slot), f_X3_settle_33 p0 z x1 n x2 x3 x4 = some res → va_P D vwCl (gw cA ad shX 315 z) H → va_S (gA ad 315) s.heap H locs → lv_has ls 7 [(0, .ref (ad p0)), (1, .int x1), (2, .int x2), (3, .int x3), (4, .int x4)] → W p l e (headSpec wsX3_settle (gRm 2 42)).room s m ([.ref (ad p0), .int a1] : List Value).toArray below meth c H locs 0 0 (MQ below (va_Qv (fun u => u = res) (gPr D cA ad tw shX 315) (gA ad 315)) ([.ref (ad p0), .int a1] : List Value).toArray s 0 0 (gA ad 315)) (F0 m 33 ls []) := by
    intro z x1 n
    induction n with
    | zero => intro x2 x3 x4 H locs ls h; exact (gno h).elim
    | succ n hK33 =>
      intro x2 x3 x4 H locs ls h hP hS hl
      replace h : f_X3_settle_33_b p0 z x1 (f_X3_settle_33 p0 z x1 n) x2 x3 x4 = some res := h
      unfold f_X3_settle_33_b at h
      refine lv_iload hx hb dX3_settle_33 (lv_at hl 4 rfl) ?_
      refine lv_bipush (v := (nI 7)) hx hb dX3_settle_35 (by decide) ?_
      refine lv_icmp_ge (tgt := 108) hx hb dX3_settle_37 (by decide) (fun c4 => ?_) (fun c4 => ?_)
      · replace h := gif_t h c4
        refine lv_aload_n hx hb dX3_settle_108 rfl (lv_at hl 0 rfl) ?_
        refine fw_getr hx hb hts in_X3_settle_X3 hown hK hP hp0.1.1 hp0.1.2 rfl 2 (by decide) rfl (hts _ (List.mem_of_getElem? (i := 2) rfl)) rfl dX3_settle_109 ?_
        refine lv_iload_n hx hb dX3_settle_112 rfl (lv_at hl 1 rfl) ?_
        refine lv_iload_n hx hb dX3_settle_113 rfl (lv_at hl 2 rfl) ?_
        obtain ⟨h5, h⟩ := gg_s h
        refine fw_iast hx hb hK hG hP hS hp0.2.2.2.1.1 hp0.2.2.2.1.2 h5 dX3_settle_114 (fun z6 H locs ez6 hP hS => ?_)
        replace h := gl_s h ez6
        refine lv_aload_n hx hb dX3_settle_115 rfl (lv_at hl 0 rfl) ?_
        refine fw_getr hx hb hts in_X3_settle_X3 hown hK hP hp0.1.1 hp0.1.2 rfl 3 (by decide) rfl (hts _ (List.mem_of_getElem? (i := 3) rfl)) rfl dX3_settle_116 ?_
        refine lv_iload_n hx hb dX3_settle_119 rfl (lv_at hl 1 rfl) ?_
        refine lv_iload_n hx hb dX3_settle_120 rfl (lv_at hl 3 rfl) ?_
        obtain ⟨h7, h⟩ := gg_s h
        refine fw_iast hx hb hK hG hP hS hp0.2.2.2.2.1 hp0.2.2.2.2.2 h7 dX3_settle_121 (fun z8 H locs ez8 hP hS => ?_)
        replace h := gl_s h ez8
        exact fw_vret hx hb hr hlocks (Option.some.inj h) hK hZ hP hS dX3_settle_122
      · replace h := gif_f h c4
        refine lv_aload_n hx hb dX3_settle_40 rfl (lv_at hl 0 rfl) ?_
        refine lv_iload_n hx hb dX3_settle_41 rfl (lv_at hl 1 rfl) ?_
        refine lv_iload hx hb dX3_settle_42 (lv_at hl 4 rfl) ?_
        obtain ⟨q9, hq9, h⟩ := gb_s h
        refine fw_viR (As := [.int x1, .int x4]) (rest := []) ⟨hx, hb, hml, hown, hts⟩ (k_X3_mayFollow l D cA ad tw hG z p0 (hp0) x1 x4 q9 hq9) (cwV 2 hts gX3_settle_X3_mayFollow rfl rfl rfl hdV_X3_mayFollow ⟨Nat.le_of_ble_eq_true rfl, Nat.le_of_ble_eq_true rfl⟩) (fw_preV hp0.1.1 hp0.1.2 rfl rfl hK hZ hP hS) rfl hl _ rfl (Nat.le_of_ble_eq_true rfl) hS dX3_settle_44 ⟨Nat.zero_le _, Nat.zero_le _⟩ (fun H locs hP hS => ?_)
        refine lv_if_eq (tgt := 102) hx hb dX3_settle_47 (by decide) (fun c10 => ?_) (fun c10 => ?_)
        · replace h := gif_t h c10
          refine lv_iinc (v := x4 + (nI 1)) (lv' := [(4, .int (x4 + (nI 1))), (0, .ref (ad p0)), (1, .int x1), (2, .int x2), (3, .int x3)]) hx hb dX3_settle_102 hl (k := 4) rfl rfl (by decide) rfl (fun ls hl => ?_)
          refine lv_goto (tgt := 33) hx hb dX3_settle_105 (by decide) ?_
          exact hK33 x2 x3 (x4 + (nI 1)) _ _ ls h hP hS (lv_sub hl [1, 2, 3, 4, 0] rfl)
        · replace h := gif_f h c10
          refine lv_iload_n hx hb dX3_settle_50 rfl (lv_at hl 1 rfl) ?_
          refine lv_iconst (v := (nI 1)) hx hb dX3_settle_51 (by decide) ?_
          refine lv_iload hx hb dX3_settle_52 (lv_at hl 4 rfl) ?_
          refine lv_ishl hx hb dX3_settle_54 ?_
          refine lv_ior hx hb dX3_settle_55 ?_
          refine lv_topi (fun y11 ey11 => ?_)
          replace h := gl_s h ey11
          refine lv_istore (lv' := [(5, .int y11), (0, .ref (ad p0)), (1, .int x1), (2, .int x2), (3, .int x3), (4, .int x4)]) hx hb dX3_settle_56 hl (by decide) rfl (fun ls hl => ?_)
          refine lv_aload_n hx hb dX3_settle_58 rfl (lv_at hl 1 rfl) ?_
          refine lv_iload_n hx hb dX3_settle_59 rfl (lv_at hl 2 rfl) ?_
          refine lv_iload hx hb dX3_settle_60 (lv_at hl 5 rfl) ?_
          obtain ⟨q12, hq12, h⟩ := gb_s h
          refine fw_viR (As := [.int x1, .int x4]) (rest := []) ⟨hx, hb, hml, hown, hts⟩ (k_X3_toll l D cA ad tw hG z p0 (hp0) x1 x4 q12 hq12) (cwV 2 hts gX3_settle_X3_toll rfl rfl rfl hdV_X3_toll ⟨Nat.le_of_ble_eq_true rfl, Nat.le_of_ble_eq_true rfl⟩) (fw_preV hp0.1.1 hp0.1.2 rfl rfl hK hZ hP hS) rfl hl _ rfl (Nat.le_of_ble_eq_true rfl) hS dX3_settle_62 ⟨Nat.zero_le _, Nat.zero_le _⟩ (fun H locs hP hS => ?_)
          refine lv_aload_n hx hb dX3_settle_65 rfl (lv_at hl 1 rfl) ?_
          refine fw_getr hx hb hts in_X3_settle_X3 hown hK hP hp0.1.1 hp0.1.2 rfl 2 (by decide) rfl (hts _ (List.mem_of_getElem? (i := 2) rfl)) rfl dX3_settle_66 ?_
          refine lv_iload hx hb dX3_settle_69 (lv_at hl 0 rfl) ?_
          obtain ⟨h13, h⟩ := gg_s h
          refine fw_iald hx hb hK hP hp0.2.2.2.1.1 hp0.2.2.2.1.2 h13 dX3_settle_71 ?_
          refine lv_iadd hx hb dX3_settle_72 ?_
          refine lv_topi (fun y14 ey14 => ?_)
          replace h := gl_s h ey14
          refine lv_istore (lv' := [(6, .int y14), (5, .int y11), (0, .ref (ad p0)), (1, .int x1), (2, .int x2), (3, .int x3), (4, .int x4)]) hx hb dX3_settle_73 hl (by decide) rfl (fun ls hl => ?_)
          refine lv_iload hx hb dX3_settle_75 (lv_at hl 0 rfl) ?_
          refine lv_iload_n hx hb dX3_settle_77 rfl (lv_at hl 4 rfl) ?_
          refine lv_icmp_ge (tgt := 86) hx hb dX3_settle_78 (by decide) (fun c15 => ?_) (fun c15 => ?_)
          · replace h := gif_t h c15
            refine lv_iload hx hb dX3_settle_86 (lv_at hl 0 rfl) ?_
            refine lv_iload_n hx hb dX3_settle_88 rfl (lv_at hl 4 rfl) ?_
            refine lv_icmp_ne (tgt := 102) hx hb dX3_settle_89 (by decide) (fun c16 => ?_) (fun c16 => ?_)
            · replace h := gif_f h c16
              refine lv_iinc (v := x4 + (nI 1)) (lv' := [(4, .int (x4 + (nI 1))), (6, .int y14), (5, .int y11), (0, .ref (ad p0)), (1, .int x1), (2, .int x2), (3, .int x3)]) hx hb dX3_settle_102 hl (k := 6) rfl rfl (by decide) rfl (fun ls hl => ?_)
              refine lv_goto (tgt := 33) hx hb dX3_settle_105 (by decide) ?_
              exact hK33 x2 x3 (x4 + (nI 1)) _ _ ls h hP hS (lv_sub hl [3, 4, 5, 6, 0] rfl)
            · replace h := gif_t h c16
              refine lv_iload_n hx hb dX3_settle_92 rfl (lv_at hl 5 rfl) ?_
              refine lv_aload_n hx hb dX3_settle_93 rfl (lv_at hl 2 rfl) ?_
              refine fw_getr hx hb hts in_X3_settle_X3 hown hK hP hp0.1.1 hp0.1.2 rfl 3 (by decide) rfl (hts _ (List.mem_of_getElem? (i := 3) rfl)) rfl dX3_settle_94 ?_
              refine lv_iload hx hb dX3_settle_97 (lv_at hl 1 rfl) ?_
              obtain ⟨h17, h⟩ := gg_s h
              refine fw_iald hx hb hK hP hp0.2.2.2.2.1 hp0.2.2.2.2.2 h17 dX3_settle_99 ?_
              refine lv_iadd hx hb dX3_settle_100 ?_
              refine lv_topi (fun y18 ey18 => ?_)
              replace h := gl_s h ey18
              refine lv_istore_n (lv' := [(3, .int y18), (6, .int y14), (5, .int y11), (0, .ref (ad p0)), (1, .int x1), (2, .int x2), (4, .int x4)]) hx hb dX3_settle_101 rfl hl (by decide) rfl (fun ls hl => ?_)
              refine lv_iinc (v := x4 + (nI 1)) (lv' := [(4, .int (x4 + (nI 1))), (3, .int y18), (6, .int y14), (5, .int y11), (0, .ref (ad p0)), (1, .int x1), (2, .int x2)]) hx hb dX3_settle_102 hl (k := 6) rfl rfl (by decide) rfl (fun ls hl => ?_)
              refine lv_goto (tgt := 33) hx hb dX3_settle_105 (by decide) ?_
              exact hK33 x2 y18 (x4 + (nI 1)) _ _ ls h hP hS (lv_sub hl [4, 5, 6, 1, 0] rfl)
          · replace h := gif_f h c15
            refine lv_iload hx hb dX3_settle_81 (lv_at hl 0 rfl) ?_
            refine lv_istore_n (lv' := [(2, .int y14), (6, .int y14), (5, .int y11), (0, .ref (ad p0)), (1, .int x1), (3, .int x3), (4, .int x4)]) hx hb dX3_settle_83 rfl hl (by decide) rfl (fun ls hl => ?_)
            refine lv_iconst (v := (nI 0)) hx hb dX3_settle_84 (by decide) ?_
            refine lv_istore_n (lv' := [(3, .int (nI 0)), (2, .int y14), (6, .int y14), (5, .int y11), (0, .ref (ad p0)), (1, .int x1), (4, .int x4)]) hx hb dX3_settle_85 rfl hl (by decide) rfl (fun ls hl => ?_)
            refine lv_iload hx hb dX3_settle_86 (lv_at hl 2 rfl) ?_
            refine lv_iload_n hx hb dX3_settle_88 rfl (lv_at hl 1 rfl) ?_
            refine lv_icmp_ne (tgt := 102) hx hb dX3_settle_89 (by decide) (fun c19 => ?_) (fun c19 => ?_)
            · replace h := gif_f h c19
              refine lv_iinc (v := x4 + (nI 1)) (lv' := [(4, .int (x4 + (nI 1))), (3, .int (nI 0)), (2, .int y14), (6, .int y14), (5, .int y11), (0, .ref (ad p0)), (1, .int x1)]) hx hb dX3_settle_102 hl (k := 6) rfl rfl (by decide) rfl (fun ls hl => ?_)
              refine lv_goto (tgt := 33) hx hb dX3_settle_105 (by decide) ?_
              exact hK33 y14 (nI 0) (x4 + (nI 1)) _ _ ls h hP hS (lv_sub hl [5, 6, 2, 1, 0] rfl)
            · replace h := gif_t h c19
              refine lv_iload_n hx hb dX3_settle_92 rfl (lv_at hl 0 rfl) ?_
              refine lv_aload_n hx hb dX3_settle_93 rfl (lv_at hl 4 rfl) ?_
              refine fw_getr hx hb hts in_X3_settle_X3 hown hK hP hp0.1.1 hp0.1.2 rfl 3 (by decide) rfl (hts _ (List.mem_of_getElem? (i := 3) rfl)) rfl dX3_settle_94 ?_
              refine lv_iload hx hb dX3_settle_97 (lv_at hl 3 rfl) ?_
              obtain ⟨h20, h⟩ := gg_s h
              refine fw_iald hx hb hK hP hp0.2.2.2.2.1 hp0.2.2.2.2.2 h20 dX3_settle_99 ?_
              refine lv_iadd hx hb dX3_settle_100 ?_
              refine lv_topi (fun y21 ey21 => ?_)
              replace h := gl_s h ey21
              refine lv_istore_n (lv' := [(3, .int y21), (2, .int y14), (6, .int y14), (5, .int y11), (0, .ref (ad p0)), (1, .int x1), (4, .int x4)]) hx hb dX3_settle_101 rfl hl (by decide) rfl (fun ls hl => ?_)
              refine lv_iinc (v := x4 + (nI 1)) (lv' := [(4, .int (x4 + (nI 1))), (3, .int y21), (2, .int y14), (6, .int y14), (5, .int y11), (0, .ref (ad p0)), (1, .int x1)]) hx hb dX3_settle_102 hl (k := 6) rfl rfl (by decide) rfl (fun ls hl => ?_)
              refine lv_goto (tgt := 33) hx hb dX3_settle_105 (by decide) ?_
              exact hK33 y14 y21 (x4 + (nI 1)) _ _ ls h hP hS (lv_sub hl [5, 6, 2, 1, 0] rfl)
  unfold f_X3_settle at h
  refine lv_iload_n hx hb dX3_settle_0 rfl (lv_at hl 1 rfl) ?_
  refine lv_aload_n hx hb dX3_settle_1 rfl (lv_at hl 0 rfl) ?_
  refine fw_geti hx hb hts in_X3_settle_X3 hown hK hP hp0.1.1 hp0.1.2 rfl 4 (by decide) rfl (hts _ (List.mem_of_getElem? (i := 1) rfl)) rfl dX3_settle_2 ?_
  refine lv_icmp_ne (tgt := 12) hx hb dX3_settle_5 (by decide) (fun c1 => ?_) (fun c1 => ?_)
  · replace h := gif_f h c1
    refine lv_sipush (v := (nI 1000)) hx hb dX3_settle_12 (by decide) ?_
    refine lv_istore_n (lv' := [(2, .int (nI 1000)), (0, .ref (ad p0)), (1, .int a1)]) hx hb dX3_settle_15 rfl hl (by decide) rfl (fun ls hl => ?_)
    refine lv_iload_n hx hb dX3_settle_16 rfl (lv_at hl 2 rfl) ?_
    refine lv_aload_n hx hb dX3_settle_17 rfl (lv_at hl 1 rfl) ?_
    refine fw_geti hx hb hts in_X3_settle_X3 hown hK hP hp0.1.1 hp0.1.2 rfl 4 (by decide) rfl (hts _ (List.mem_of_getElem? (i := 1) rfl)) rfl dX3_settle_18 ?_
    refine lv_icmp_ne (tgt := 28) hx hb dX3_settle_21 (by decide) (fun c2 => ?_) (fun c2 => ?_)
    · replace h := gif_f h c2
      refine lv_iconst (v := (nI 0)) hx hb dX3_settle_28 (by decide) ?_
      refine lv_istore_n (lv' := [(3, .int (nI 0)), (2, .int (nI 1000)), (0, .ref (ad p0)), (1, .int a1)]) hx hb dX3_settle_29 rfl hl (by decide) rfl (fun ls hl => ?_)
      refine lv_iconst (v := (nI 0)) hx hb dX3_settle_30 (by decide) ?_
      refine lv_istore (lv' := [(4, .int (nI 0)), (3, .int (nI 0)), (2, .int (nI 1000)), (0, .ref (ad p0)), (1, .int a1)]) hx hb dX3_settle_31 hl (by decide) rfl (fun ls hl => ?_)
      exact j33 z a1 gF (nI 1000) (nI 0) (nI 0) _ _ ls h hP hS (lv_sub hl [3, 4, 2, 1, 0] rfl)
    · replace h := gif_t h c2
      refine lv_iconst (v := (nI 1)) hx hb dX3_settle_24 (by decide) ?_
      refine lv_goto (tgt := 29) hx hb dX3_settle_25 (by decide) ?_
      refine lv_istore_n (lv' := [(3, .int (nI 1)), (2, .int (nI 1000)), (0, .ref (ad p0)), (1, .int a1)]) hx hb dX3_settle_29 rfl hl (by decide) rfl (fun ls hl => ?_)
      refine lv_iconst (v := (nI 0)) hx hb dX3_settle_30 (by decide) ?_
      refine lv_istore (lv' := [(4, .int (nI 0)), (3, .int (nI 1)), (2, .int (nI 1000)), (0, .ref (ad p0)), (1, .int a1)]) hx hb dX3_settle_31 hl (by decide) rfl (fun ls hl => ?_)
      exact j33 z a1 gF (nI 1000) (nI 1) (nI 0) _ _ ls h hP hS (lv_sub hl [3, 4, 2, 1, 0] rfl)
  · replace h := gif_t h c1
    refine lv_iconst (v := (nI 0)) hx hb dX3_settle_8 (by decide) ?_
    refine lv_goto (tgt := 15) hx hb dX3_settle_9 (by decide) ?_
    refine lv_istore_n (lv' := [(2, .int (nI 0)), (0, .ref (ad p0)), (1, .int a1)]) hx hb dX3_settle_15 rfl hl (by decide) rfl (fun ls hl => ?_)
    refine lv_iload_n hx hb dX3_settle_16 rfl (lv_at hl 2 rfl) ?_
    refine lv_aload_n hx hb dX3_settle_17 rfl (lv_at hl 1 rfl) ?_
    refine fw_geti hx hb hts in_X3_settle_X3 hown hK hP hp0.1.1 hp0.1.2 rfl 4 (by decide) rfl (hts _ (List.mem_of_getElem? (i := 1) rfl)) rfl dX3_settle_18 ?_
    refine lv_icmp_ne (tgt := 28) hx hb dX3_settle_21 (by decide) (fun c3 => ?_) (fun c3 => ?_)
    · replace h := gif_f h c3
      refine lv_iconst (v := (nI 0)) hx hb dX3_settle_28 (by decide) ?_
      refine lv_istore_n (lv' := [(3, .int (nI 0)), (2, .int (nI 0)), (0, .ref (ad p0)), (1, .int a1)]) hx hb dX3_settle_29 rfl hl (by decide) rfl (fun ls hl => ?_)
      refine lv_iconst (v := (nI 0)) hx hb dX3_settle_30 (by decide) ?_
      refine lv_istore (lv' := [(4, .int (nI 0)), (3, .int (nI 0)), (2, .int (nI 0)), (0, .ref (ad p0)), (1, .int a1)]) hx hb dX3_settle_31 hl (by decide) rfl (fun ls hl => ?_)
      exact j33 z a1 gF (nI 0) (nI 0) (nI 0) _ _ ls h hP hS (lv_sub hl [3, 4, 2, 1, 0] rfl)
    · replace h := gif_t h c3
      refine lv_iconst (v := (nI 1)) hx hb dX3_settle_24 (by decide) ?_
      refine lv_goto (tgt := 29) hx hb dX3_settle_25 (by decide) ?_
      refine lv_istore_n (lv' := [(3, .int (nI 1)), (2, .int (nI 0)), (0, .ref (ad p0)), (1, .int a1)]) hx hb dX3_settle_29 rfl hl (by decide) rfl (fun ls hl => ?_)
      refine lv_iconst (v := (nI 0)) hx hb dX3_settle_30 (by decide) ?_
      refine lv_istore (lv' := [(4, .int (nI 0)), (3, .int (nI 1)), (2, .int (nI 0)), (0, .ref (ad p0)), (1, .int a1)]) hx hb dX3_settle_31 hl (by decide) rfl (fun ls hl => ?_)
      exact j33 z a1 gF (nI 0) (nI 1) (nI 0) _ _ ls h hP hS (lv_sub hl [3, 4, 2, 1, 0] rfl)
theorem in_X3_make_X3 : ∀ w ∈ wsX30, w ∈ wsX3_make := fun w h => List.mem_cons_of_mem _ (List.mem_append_left _ (List.mem_append_right _ (h)))
theorem in_X3_make_X5 : ∀ w ∈ wsX50, w ∈ wsX3_make := fun w h => List.mem_cons_of_mem _ (List.mem_append_right _ (h))
theorem hdV_X3_make : yX3_make.cls = RX3 ∧ yX3_make.cls ≠ "java/lang/invoke/MethodHandle" ∧ yX3_make.cls ≠ "java/lang/invoke/VarHandle" ∧ (parseMethodDescriptor yX3_make.desc).map (fun d => d.parameters.length) = some 5 := by decide +kernel
set_option maxHeartbeats 4000000 in
set_option maxRecDepth 100000 in
theorem k_X3_make (l : Launch) (D : va_G) (cA : Nat → ClassId) (ad : Nat → Nat) (tw : Nat) (hG : gOk ad 315) (z : gS) (p0 : Nat) (hp0 : gC3 p0) (p1 : Nat) (hp1 : gC5 p1) (a2 : Int32) (a3 : Int32) (a4 : Int32) (a5 : Int32) (res : gS) (h : f_X3_make p0 p1 a2 a3 a4 a5 z = some res) : gMv l yX3_make wsX3_make (gRm 3 68) D cA ad tw shX 315 [.ref (ad p0), .ref (ad p1), .int a2, .int a3, .int a4, .int a5] z res := by
  refine Met.ofW (cc := cX3_make) (maxL := 7) (ret := none) (by decide) rfl ?_
  intro p e s m args below meth c s₁ B hml hv
  obtain ⟨rfl, hP, hK, hZ⟩ := hv
  have hx := B.exec
  have hb := B.bytes
  have hr := B.returns
  have hts := atoms_spec (ws := wsX3_make) B.pre
  have hown : s.vm.findClass RX3 = some m.cls := findClass_of_methodNamed B.named
  have hlocks := B.notSynchronized
  have hS : va_S (gA ad 315) s.heap s.heap [] := va_S.rf
  have hl := lv_entry ([.ref (ad p0), .ref (ad p1), .int a2, .int a3, .int a4, .int a5]) (n := 7) (Nat.le_of_ble_eq_true rfl)
  rw [lg_entry_eq]
  generalize (lg_sl ([.ref (ad p0), .ref (ad p1), .int a2, .int a3, .int a4, .int a5]) ++ List.replicate (7 - (lg_sl ([.ref (ad p0), .ref (ad p1), .int a2, .int a3, .int a4, .int a5])).length) Slot.unset).toArray = ls at hl ⊢
  have hl : lv_has ls 7 [(0, .ref (ad p0)), (1, .ref (ad p1)), (2, .int a2), (3, .int a3), (4, .int a4), (5, .int a5)] := hl
  have j116 : ∀  (n : Nat) (x6 : Int32) (z : gS) (H : Heap) (locs : List Loc) (ls : Array Slot), f_X3_make_116 p0 p1 n x6 z = some res → va_P D vwCl (gw cA ad shX 315 z) H → va_S (gA ad 315) s.heap H locs → lv_has ls 7 [(0, .ref (ad p0)), (6, .int x6)] → W p l e (headSpec wsX3_make (gRm 3 68)).room s m ([.ref (ad p0), .ref (ad p1), .int a2, .int a3, .int a4, .int a5] : List Value).toArray below meth c H locs 0 0 (MQ below (va_Qv (fun u => u = res) (gPr D cA ad tw shX 315) (gA ad 315)) ([.ref (ad p0), .ref (ad p1), .int a2, .int a3, .int a4, .int a5] : List Value).toArray s 0 0 (gA ad 315)) (F0 m 116 ls []) := by
    intro n
    induction n with
    | zero => intro x6 z H locs ls h; exact (gno h).elim
    | succ n hK116 =>
      intro x6 z H locs ls h hP hS hl
      replace h : f_X3_make_116_b p0 p1 (f_X3_make_116 p0 p1 n) x6 z = some res := h
      unfold f_X3_make_116_b at h
      refine lv_iload hx hb dX3_make_116 (lv_at hl 1 rfl) ?_
      refine lv_if_lt (tgt := 145) hx hb dX3_make_118 (by decide) (fun c19 => ?_) (fun c19 => ?_)
      · replace h := gif_t h c19
        exact fw_vret hx hb hr hlocks (Option.some.inj h) hK hZ hP hS dX3_make_145
      · replace h := gif_f h c19
        refine lv_iload hx hb dX3_make_121 (lv_at hl 1 rfl) ?_
        refine lv_aload_n hx hb dX3_make_123 rfl (lv_at hl 0 rfl) ?_
        refine fw_geti hx hb hts in_X3_make_X3 hown hK hP hp0.1.1 hp0.1.2 rfl 4 (by decide) rfl (hts _ (List.mem_of_getElem? (i := 1) rfl)) rfl dX3_make_124 ?_
        refine lv_iconst (v := gm1) hx hb dX3_make_127 (by decide) ?_
        refine lv_ixor hx hb dX3_make_128 ?_
        refine lv_iand hx hb dX3_make_129 ?_
        refine lv_if_ne (tgt := 139) hx hb dX3_make_130 (by decide) (fun c20 => ?_) (fun c20 => ?_)
        · replace h := gif_f h c20
          refine lv_iinc (v := x6 + gm1) (lv' := [(6, .int (x6 + gm1)), (0, .ref (ad p0))]) hx hb dX3_make_139 hl (k := 1) rfl rfl (by decide) rfl (fun ls hl => ?_)
          refine lv_goto (tgt := 116) hx hb dX3_make_142 (by decide) ?_
          exact hK116 (x6 + gm1) z _ _ ls h hP hS (lv_sub hl [1, 0] rfl)
        · replace h := gif_t h c20
          refine lv_aload_n hx hb dX3_make_133 rfl (lv_at hl 0 rfl) ?_
          refine lv_iload hx hb dX3_make_134 (lv_at hl 1 rfl) ?_
          obtain ⟨q21, hq21, h⟩ := gb_s h
          refine fw_vv (As := [.int x6]) (rest := []) ⟨hx, hb, hml, hown, hts⟩ (k_X3_settle l D cA ad tw hG z p0 (hp0) x6 q21 hq21) (cwV 1 hts gX3_make_X3_settle rfl rfl rfl hdV_X3_settle ⟨Nat.le_of_ble_eq_true rfl, Nat.le_of_ble_eq_true rfl⟩) (fw_preV hp0.1.1 hp0.1.2 rfl rfl hK hZ hP hS) rfl hl _ rfl (Nat.le_of_ble_eq_true rfl) hS dX3_make_136 ⟨Nat.zero_le _, Nat.zero_le _⟩ (fun H locs hP hS => ?_)
          refine lv_iinc (v := x6 + gm1) (lv' := [(6, .int (x6 + gm1)), (0, .ref (ad p0))]) hx hb dX3_make_139 hl (k := 1) rfl rfl (by decide) rfl (fun ls hl => ?_)
          refine lv_goto (tgt := 116) hx hb dX3_make_142 (by decide) ?_
          exact hK116 (x6 + gm1) q21 _ _ ls h hP hS (lv_sub hl [1, 0] rfl)
  have j65 : ∀  (n : Nat) (x6 : Int32) (z : gS) (H : Heap) (locs : List Loc) (ls : Array Slot), f_X3_make_65 p0 p1 n x6 z = some res → va_P D vwCl (gw cA ad shX 315 z) H → va_S (gA ad 315) s.heap H locs → lv_has ls 7 [(0, .ref (ad p0)), (6, .int x6)] → W p l e (headSpec wsX3_make (gRm 3 68)).room s m ([.ref (ad p0), .ref (ad p1), .int a2, .int a3, .int a4, .int a5] : List Value).toArray below meth c H locs 0 0 (MQ below (va_Qv (fun u => u = res) (gPr D cA ad tw shX 315) (gA ad 315)) ([.ref (ad p0), .ref (ad p1), .int a2, .int a3, .int a4, .int a5] : List Value).toArray s 0 0 (gA ad 315)) (F0 m 65 ls []) := by
    intro n
    induction n with
    | zero => intro x6 z H locs ls h; exact (gno h).elim
    | succ n hK65 =>
      intro x6 z H locs ls h hP hS hl
      replace h : f_X3_make_65_b p0 p1 (f_X3_make_65 p0 p1 n) x6 z = some res := h
      unfold f_X3_make_65_b at h
      refine lv_iload hx hb dX3_make_65 (lv_at hl 1 rfl) ?_
      refine lv_aload_n hx hb dX3_make_67 rfl (lv_at hl 0 rfl) ?_
      refine fw_geti hx hb hts in_X3_make_X3 hown hK hP hp0.1.1 hp0.1.2 rfl 4 (by decide) rfl (hts _ (List.mem_of_getElem? (i := 1) rfl)) rfl dX3_make_68 ?_
      refine lv_icmp_gt (tgt := 110) hx hb dX3_make_71 (by decide) (fun c12 => ?_) (fun c12 => ?_)
      · replace h := gif_t h c12
        refine lv_aload_n hx hb dX3_make_110 rfl (lv_at hl 0 rfl) ?_
        refine fw_geti hx hb hts in_X3_make_X3 hown hK hP hp0.1.1 hp0.1.2 rfl 4 (by decide) rfl (hts _ (List.mem_of_getElem? (i := 1) rfl)) rfl dX3_make_111 ?_
        refine lv_topi (fun y13 ey13 => ?_)
        replace h := gl_s h ey13
        refine lv_istore (lv' := [(6, .int y13), (0, .ref (ad p0))]) hx hb dX3_make_114 hl (by decide) rfl (fun ls hl => ?_)
        exact j116  gF y13 z _ _ ls h hP hS (lv_sub hl [1, 0] rfl)
      · replace h := gif_f h c12
        refine lv_aload_n hx hb dX3_make_74 rfl (lv_at hl 0 rfl) ?_
        refine fw_getr hx hb hts in_X3_make_X3 hown hK hP hp0.1.1 hp0.1.2 rfl 1 (by decide) rfl (hts _ (List.mem_of_getElem? (i := 6) rfl)) rfl dX3_make_75 ?_
        refine lv_iload hx hb dX3_make_78 (lv_at hl 1 rfl) ?_
        refine lv_aload_n hx hb dX3_make_80 rfl (lv_at hl 0 rfl) ?_
        refine fw_getr hx hb hts in_X3_make_X3 hown hK hP hp0.1.1 hp0.1.2 rfl 1 (by decide) rfl (hts _ (List.mem_of_getElem? (i := 6) rfl)) rfl dX3_make_81 ?_
        refine lv_iload hx hb dX3_make_84 (lv_at hl 1 rfl) ?_
        refine lv_iload hx hb dX3_make_86 (lv_at hl 1 rfl) ?_
        refine lv_iconst (v := (nI 1)) hx hb dX3_make_88 (by decide) ?_
        refine lv_isub hx hb dX3_make_89 ?_
        refine lv_iand hx hb dX3_make_90 ?_
        obtain ⟨h14, h⟩ := gg_s h
        refine fw_iald hx hb hK hP hp0.2.2.1.1 hp0.2.2.1.2 h14 dX3_make_91 ?_
        refine lv_aload_n hx hb dX3_make_92 rfl (lv_at hl 0 rfl) ?_
        refine fw_getr hx hb hts in_X3_make_X3 hown hK hP hp0.1.1 hp0.1.2 rfl 0 (by decide) rfl (hts _ (List.mem_of_getElem? (i := 4) rfl)) rfl dX3_make_93 ?_
        refine lv_iload hx hb dX3_make_96 (lv_at hl 1 rfl) ?_
        obtain ⟨q15, hq15, h⟩ := gb_s h
        refine fw_siR (As := [.int x6]) (rest := [.ref (ad (p0 + 1)), .int (z (p0 + 2) (x6 &&& (x6 - (nI 1))).toNatClampNeg), .int x6, .ref (ad (p0 + 2))]) ⟨hx, hb, hml, hown, hts⟩ (k_J6_numberOfTrailingZeros_0f7a4 l D cA ad tw hG z x6 q15 hq15) (va_cwS 1 hts gX3_make_J6_numberOfTrailingZeros_0f7a4 rfl rfl rfl hdS_J6_numberOfTrailingZeros_0f7a4 ⟨Nat.le_of_ble_eq_true rfl, Nat.le_of_ble_eq_true rfl⟩) hK hZ hP rfl hl _ rfl (Nat.le_of_ble_eq_true rfl) hS dX3_make_98 ⟨Nat.zero_le _, Nat.zero_le _⟩ (fun H locs hP hS => ?_)
        obtain ⟨h16, h⟩ := gg_s h
        refine fw_iald hx hb hK hP hp0.2.1.1 hp0.2.1.2 h16 dX3_make_101 ?_
        refine lv_ior hx hb dX3_make_102 ?_
        obtain ⟨h17, h⟩ := gg_s h
        refine fw_iast hx hb hK hG hP hS hp0.2.2.1.1 hp0.2.2.1.2 h17 dX3_make_103 (fun z18 H locs ez18 hP hS => ?_)
        replace h := gl_s h ez18
        refine lv_iinc (v := x6 + (nI 1)) (lv' := [(6, .int (x6 + (nI 1))), (0, .ref (ad p0))]) hx hb dX3_make_104 hl (k := 1) rfl rfl (by decide) rfl (fun ls hl => ?_)
        refine lv_goto (tgt := 65) hx hb dX3_make_107 (by decide) ?_
        exact hK65 (x6 + (nI 1)) z18 _ _ ls h hP hS (lv_sub hl [1, 0] rfl)
  have j20 : ∀ (x3 : Int32) (n : Nat) (x6 : Int32) (z : gS) (H : Heap) (locs : List Loc) (ls : Array Slot), f_X3_make_20 p0 p1 x3 n x6 z = some res → va_P D vwCl (gw cA ad shX 315 z) H → va_S (gA ad 315) s.heap H locs → lv_has ls 7 [(0, .ref (ad p0)), (1, .ref (ad p1)), (3, .int x3), (6, .int x6)] → W p l e (headSpec wsX3_make (gRm 3 68)).room s m ([.ref (ad p0), .ref (ad p1), .int a2, .int a3, .int a4, .int a5] : List Value).toArray below meth c H locs 0 0 (MQ below (va_Qv (fun u => u = res) (gPr D cA ad tw shX 315) (gA ad 315)) ([.ref (ad p0), .ref (ad p1), .int a2, .int a3, .int a4, .int a5] : List Value).toArray s 0 0 (gA ad 315)) (F0 m 20 ls []) := by
    intro x3 n
    induction n with
    | zero => intro x6 z H locs ls h; exact (gno h).elim
    | succ n hK20 =>
      intro x6 z H locs ls h hP hS hl
      replace h : f_X3_make_20_b p0 p1 x3 (f_X3_make_20 p0 p1 x3 n) x6 z = some res := h
      unfold f_X3_make_20_b at h
      refine lv_iload hx hb dX3_make_20 (lv_at hl 3 rfl) ?_
      refine lv_bipush (v := (nI 7)) hx hb dX3_make_22 (by decide) ?_
      refine lv_icmp_ge (tgt := 62) hx hb dX3_make_24 (by decide) (fun c4 => ?_) (fun c4 => ?_)
      · replace h := gif_t h c4
        refine lv_iconst (v := (nI 1)) hx hb dX3_make_62 (by decide) ?_
        refine lv_istore (lv' := [(6, .int (nI 1)), (0, .ref (ad p0)), (1, .ref (ad p1)), (3, .int x3)]) hx hb dX3_make_63 hl (by decide) rfl (fun ls hl => ?_)
        exact j65  gF (nI 1) z _ _ ls h hP hS (lv_sub hl [1, 0] rfl)
      · replace h := gif_f h c4
        refine lv_aload_n hx hb dX3_make_27 rfl (lv_at hl 0 rfl) ?_
        refine fw_getr hx hb hts in_X3_make_X3 hown hK hP hp0.1.1 hp0.1.2 rfl 0 (by decide) rfl (hts _ (List.mem_of_getElem? (i := 4) rfl)) rfl dX3_make_28 ?_
        refine lv_iload hx hb dX3_make_31 (lv_at hl 3 rfl) ?_
        refine lv_aload_n hx hb dX3_make_33 rfl (lv_at hl 1 rfl) ?_
        refine lv_iload hx hb dX3_make_34 (lv_at hl 3 rfl) ?_
        obtain ⟨q5, hq5, h⟩ := gb_s h
        refine fw_viR (As := [.int x6]) (rest := [.int x6, .ref (ad (p0 + 1))]) ⟨hx, hb, hml, hown, hts⟩ (k_X5_holds l D cA ad tw hG z p1 (hp1) x6 q5 hq5) (cwV 1 hts gX3_make_X5_holds rfl rfl rfl hdV_X5_holds ⟨Nat.le_of_ble_eq_true rfl, Nat.le_of_ble_eq_true rfl⟩) (fw_preV hp1.1.1 hp1.1.2 rfl rfl hK hZ hP hS) rfl hl _ rfl (Nat.le_of_ble_eq_true rfl) hS dX3_make_36 ⟨Nat.zero_le _, Nat.zero_le _⟩ (fun H locs hP hS => ?_)
        refine lv_if_eq (tgt := 54) hx hb dX3_make_39 (by decide) (fun c6 => ?_) (fun c6 => ?_)
        · replace h := gif_t h c6
          refine lv_iconst (v := (nI 0)) hx hb dX3_make_54 (by decide) ?_
          obtain ⟨h7, h⟩ := gg_s h
          refine fw_iast hx hb hK hG hP hS hp0.2.1.1 hp0.2.1.2 h7 dX3_make_55 (fun z8 H locs ez8 hP hS => ?_)
          replace h := gl_s h ez8
          refine lv_iinc (v := x6 + (nI 1)) (lv' := [(6, .int (x6 + (nI 1))), (0, .ref (ad p0)), (1, .ref (ad p1)), (3, .int x3)]) hx hb dX3_make_56 hl (k := 3) rfl rfl (by decide) rfl (fun ls hl => ?_)
          refine lv_goto (tgt := 20) hx hb dX3_make_59 (by decide) ?_
          exact hK20 (x6 + (nI 1)) z8 _ _ ls h hP hS (lv_sub hl [1, 2, 3, 0] rfl)
        · replace h := gif_f h c6
          refine lv_aload_n hx hb dX3_make_42 rfl (lv_at hl 1 rfl) ?_
          refine fw_getr hx hb hts in_X3_make_X5 hown hK hP hp1.1.1 hp1.1.2 rfl 3 (by decide) rfl (hts _ (List.mem_of_getElem? (i := 5) rfl)) rfl dX3_make_43 ?_
          refine lv_iload hx hb dX3_make_46 (lv_at hl 3 rfl) ?_
          obtain ⟨h9, h⟩ := gg_s h
          refine fw_iald hx hb hK hP hp1.2.2.1.1 hp1.2.2.1.2 h9 dX3_make_48 ?_
          refine lv_iload_n hx hb dX3_make_49 rfl (lv_at hl 2 rfl) ?_
          refine lv_iand hx hb dX3_make_50 ?_
          refine lv_goto (tgt := 55) hx hb dX3_make_51 (by decide) ?_
          obtain ⟨h10, h⟩ := gg_s h
          refine fw_iast hx hb hK hG hP hS hp0.2.1.1 hp0.2.1.2 h10 dX3_make_55 (fun z11 H locs ez11 hP hS => ?_)
          replace h := gl_s h ez11
          refine lv_iinc (v := x6 + (nI 1)) (lv' := [(6, .int (x6 + (nI 1))), (0, .ref (ad p0)), (1, .ref (ad p1)), (3, .int x3)]) hx hb dX3_make_56 hl (k := 3) rfl rfl (by decide) rfl (fun ls hl => ?_)
          refine lv_goto (tgt := 20) hx hb dX3_make_59 (by decide) ?_
          exact hK20 (x6 + (nI 1)) z11 _ _ ls h hP hS (lv_sub hl [1, 2, 3, 0] rfl)
  unfold f_X3_make at h
  refine lv_aload_n hx hb dX3_make_0 rfl (lv_at hl 0 rfl) ?_
  refine lv_iload_n hx hb dX3_make_1 rfl (lv_at hl 2 rfl) ?_
  refine fw_put hx hb hts in_X3_make_X3 tyX3_ok nmX3 hown hK hG hP hS hp0.1.1 hp0.1.2 rfl 4 (by decide) rfl (hts _ (List.mem_of_getElem? (i := 1) rfl)) rfl rfl (ty := .int) rfl rfl rfl dX3_make_2 (fun z1 H locs ez1 hP hS => ?_)
  replace h := gl_s h ez1
  refine lv_aload_n hx hb dX3_make_5 rfl (lv_at hl 0 rfl) ?_
  refine lv_iload hx hb dX3_make_6 (lv_at hl 4 rfl) ?_
  refine fw_put hx hb hts in_X3_make_X3 tyX3_ok nmX3 hown hK hG hP hS hp0.1.1 hp0.1.2 rfl 5 (by decide) rfl (hts _ (List.mem_of_getElem? (i := 2) rfl)) rfl rfl (ty := .int) rfl rfl rfl dX3_make_8 (fun z2 H locs ez2 hP hS => ?_)
  replace h := gl_s h ez2
  refine lv_aload_n hx hb dX3_make_11 rfl (lv_at hl 0 rfl) ?_
  refine lv_iload hx hb dX3_make_12 (lv_at hl 5 rfl) ?_
  refine fw_put hx hb hts in_X3_make_X3 tyX3_ok nmX3 hown hK hG hP hS hp0.1.1 hp0.1.2 rfl 6 (by decide) rfl (hts _ (List.mem_of_getElem? (i := 3) rfl)) rfl rfl (ty := .int) rfl rfl rfl dX3_make_14 (fun z3 H locs ez3 hP hS => ?_)
  replace h := gl_s h ez3
  refine lv_iconst (v := (nI 0)) hx hb dX3_make_17 (by decide) ?_
  refine lv_istore (lv' := [(6, .int (nI 0)), (0, .ref (ad p0)), (1, .ref (ad p1)), (2, .int a2), (3, .int a3), (4, .int a4), (5, .int a5)]) hx hb dX3_make_18 hl (by decide) rfl (fun ls hl => ?_)
  exact j20 a3 gF (nI 0) z3 _ _ ls h hP hS (lv_sub hl [1, 2, 4, 0] rfl)
theorem in_X3_isBest_X3 : ∀ w ∈ wsX30, w ∈ wsX3_isBest := fun w h => List.mem_cons_of_mem _ (List.mem_append_right _ (h))
theorem hdV_X3_isBest : yX3_isBest.cls = RX3 ∧ yX3_isBest.cls ≠ "java/lang/invoke/MethodHandle" ∧ yX3_isBest.cls ≠ "java/lang/invoke/VarHandle" ∧ (parseMethodDescriptor yX3_isBest.desc).map (fun d => d.parameters.length) = some 2 := by decide +kernel
set_option maxHeartbeats 4000000 in
set_option maxRecDepth 100000 in
theorem k_X3_isBest (l : Launch) (D : va_G) (cA : Nat → ClassId) (ad : Nat → Nat) (tw : Nat) (hG : gOk ad 315) (z : gS) (p0 : Nat) (hp0 : gC3 p0) (a1 : Int32) (a2 : Int32) (res : Int32) (h : f_X3_isBest p0 a1 a2 z = some res) : gMi l yX3_isBest wsX3_isBest (gRm 2 42) D cA ad tw shX 315 [.ref (ad p0), .int a1, .int a2] z (res, z) := by
  refine Met.ofW (cc := cX3_isBest) (maxL := 3) (ret := (some .boolean)) (by decide) rfl ?_
  intro p e s m args below meth c s₁ B hml hv
  obtain ⟨rfl, hP, hK, hZ⟩ := hv
  have hx := B.exec
  have hb := B.bytes
  have hr := B.returns
  have hts := atoms_spec (ws := wsX3_isBest) B.pre
  have hown : s.vm.findClass RX3 = some m.cls := findClass_of_methodNamed B.named
  have hlocks := B.notSynchronized
  have hS : va_S (gA ad 315) s.heap s.heap [] := va_S.rf
  have hl := lv_entry ([.ref (ad p0), .int a1, .int a2]) (n := 3) (Nat.le_of_ble_eq_true rfl)
  rw [lg_entry_eq]
  generalize (lg_sl ([.ref (ad p0), .int a1, .int a2]) ++ List.replicate (3 - (lg_sl ([.ref (ad p0), .int a1, .int a2])).length) Slot.unset).toArray = ls at hl ⊢
  have hl : lv_has ls 3 [(0, .ref (ad p0)), (1, .int a1), (2, .int a2)] := hl
  unfold f_X3_isBest at h
  refine lv_aload_n hx hb dX3_isBest_0 rfl (lv_at hl 0 rfl) ?_
  refine lv_iload_n hx hb dX3_isBest_1 rfl (lv_at hl 1 rfl) ?_
  refine lv_iload_n hx hb dX3_isBest_2 rfl (lv_at hl 2 rfl) ?_
  obtain ⟨q1, hq1, h⟩ := gb_s h
  refine fw_viR (As := [.int a1, .int a2]) (rest := []) ⟨hx, hb, hml, hown, hts⟩ (k_X3_mayFollow l D cA ad tw hG z p0 (hp0) a1 a2 q1 hq1) (cwV 2 hts gX3_isBest_X3_mayFollow rfl rfl rfl hdV_X3_mayFollow ⟨Nat.le_of_ble_eq_true rfl, Nat.le_of_ble_eq_true rfl⟩) (fw_preV hp0.1.1 hp0.1.2 rfl rfl hK hZ hP hS) rfl hl _ rfl (Nat.le_of_ble_eq_true rfl) hS dX3_isBest_3 ⟨Nat.zero_le _, Nat.zero_le _⟩ (fun H locs hP hS => ?_)
  refine lv_if_eq (tgt := 39) hx hb dX3_isBest_6 (by decide) (fun c2 => ?_) (fun c2 => ?_)
  · replace h := gif_t h c2
    refine lv_iconst (v := (nI 0)) hx hb dX3_isBest_39 (by decide) ?_
    exact fw_iretz hx hb hr hlocks (by decide) (congrArg (fun q => (q, z)) (Option.some.inj h)) hK hZ hP hS dX3_isBest_40
  · replace h := gif_f h c2
    refine lv_aload_n hx hb dX3_isBest_9 rfl (lv_at hl 0 rfl) ?_
    refine lv_iload_n hx hb dX3_isBest_10 rfl (lv_at hl 1 rfl) ?_
    refine lv_iload_n hx hb dX3_isBest_11 rfl (lv_at hl 2 rfl) ?_
    obtain ⟨q3, hq3, h⟩ := gb_s h
    refine fw_viR (As := [.int a1, .int a2]) (rest := []) ⟨hx, hb, hml, hown, hts⟩ (k_X3_toll l D cA ad tw hG z p0 (hp0) a1 a2 q3 hq3) (cwV 2 hts gX3_isBest_X3_toll rfl rfl rfl hdV_X3_toll ⟨Nat.le_of_ble_eq_true rfl, Nat.le_of_ble_eq_true rfl⟩) (fw_preV hp0.1.1 hp0.1.2 rfl rfl hK hZ hP hS) rfl hl _ rfl (Nat.le_of_ble_eq_true rfl) hS dX3_isBest_12 ⟨Nat.zero_le _, Nat.zero_le _⟩ (fun H locs hP hS => ?_)
    refine lv_aload_n hx hb dX3_isBest_15 rfl (lv_at hl 0 rfl) ?_
    refine fw_getr hx hb hts in_X3_isBest_X3 hown hK hP hp0.1.1 hp0.1.2 rfl 2 (by decide) rfl (hts _ (List.mem_of_getElem? (i := 1) rfl)) rfl dX3_isBest_16 ?_
    refine lv_iload_n hx hb dX3_isBest_19 rfl (lv_at hl 1 rfl) ?_
    refine lv_iconst (v := (nI 1)) hx hb dX3_isBest_20 (by decide) ?_
    refine lv_iload_n hx hb dX3_isBest_21 rfl (lv_at hl 2 rfl) ?_
    refine lv_ishl hx hb dX3_isBest_22 ?_
    refine lv_ior hx hb dX3_isBest_23 ?_
    obtain ⟨h4, h⟩ := gg_s h
    refine fw_iald hx hb hK hP hp0.2.2.2.1.1 hp0.2.2.2.1.2 h4 dX3_isBest_24 ?_
    refine lv_iadd hx hb dX3_isBest_25 ?_
    refine lv_aload_n hx hb dX3_isBest_26 rfl (lv_at hl 0 rfl) ?_
    refine fw_getr hx hb hts in_X3_isBest_X3 hown hK hP hp0.1.1 hp0.1.2 rfl 2 (by decide) rfl (hts _ (List.mem_of_getElem? (i := 1) rfl)) rfl dX3_isBest_27 ?_
    refine lv_iload_n hx hb dX3_isBest_30 rfl (lv_at hl 1 rfl) ?_
    obtain ⟨h5, h⟩ := gg_s h
    refine fw_iald hx hb hK hP hp0.2.2.2.1.1 hp0.2.2.2.1.2 h5 dX3_isBest_31 ?_
    refine lv_icmp_ne (tgt := 39) hx hb dX3_isBest_32 (by decide) (fun c6 => ?_) (fun c6 => ?_)
    · replace h := gif_f h c6
      refine lv_iconst (v := (nI 0)) hx hb dX3_isBest_39 (by decide) ?_
      exact fw_iretz hx hb hr hlocks (by decide) (congrArg (fun q => (q, z)) (Option.some.inj h)) hK hZ hP hS dX3_isBest_40
    · replace h := gif_t h c6
      refine lv_iconst (v := (nI 1)) hx hb dX3_isBest_35 (by decide) ?_
      refine lv_goto (tgt := 40) hx hb dX3_isBest_36 (by decide) ?_
      exact fw_iretz hx hb hr hlocks (by decide) (congrArg (fun q => (q, z)) (Option.some.inj h)) hK hZ hP hS dX3_isBest_40
theorem in_X3_least_X3 : ∀ w ∈ wsX30, w ∈ wsX3_least := fun w h => List.mem_cons_of_mem _ (List.mem_append_right _ (h))
theorem hdV_X3_least : yX3_least.cls = RX3 ∧ yX3_least.cls ≠ "java/lang/invoke/MethodHandle" ∧ yX3_least.cls ≠ "java/lang/invoke/VarHandle" ∧ (parseMethodDescriptor yX3_least.desc).map (fun d => d.parameters.length) = some 0 := by decide +kernel
set_option maxHeartbeats 4000000 in
set_option maxRecDepth 100000 in
theorem k_X3_least (l : Launch) (D : va_G) (cA : Nat → ClassId) (ad : Nat → Nat) (tw : Nat) (hG : gOk ad 315) (z : gS) (p0 : Nat) (hp0 : gC3 p0) (res : Int32) (h : f_X3_least p0 z = some res) : gMi l yX3_least wsX3_least (gRm 0 0) D cA ad tw shX 315 [.ref (ad p0)] z (res, z) := by
  refine Met.ofW (cc := cX3_least) (maxL := 1) (ret := (some .int)) (by decide) rfl ?_
  intro p e s m args below meth c s₁ B hml hv
  obtain ⟨rfl, hP, hK, hZ⟩ := hv
  have hx := B.exec
  have hb := B.bytes
  have hr := B.returns
  have hts := atoms_spec (ws := wsX3_least) B.pre
  have hown : s.vm.findClass RX3 = some m.cls := findClass_of_methodNamed B.named
  have hlocks := B.notSynchronized
  have hS : va_S (gA ad 315) s.heap s.heap [] := va_S.rf
  have hl := lv_entry ([.ref (ad p0)]) (n := 1) (Nat.le_of_ble_eq_true rfl)
  rw [lg_entry_eq]
  generalize (lg_sl ([.ref (ad p0)]) ++ List.replicate (1 - (lg_sl ([.ref (ad p0)])).length) Slot.unset).toArray = ls at hl ⊢
  have hl : lv_has ls 1 [(0, .ref (ad p0))] := hl
  unfold f_X3_least at h
  refine lv_aload_n hx hb dX3_least_0 rfl (lv_at hl 0 rfl) ?_
  refine fw_getr hx hb hts in_X3_least_X3 hown hK hP hp0.1.1 hp0.1.2 rfl 2 (by decide) rfl (hts _ (List.mem_of_getElem? (i := 1) rfl)) rfl dX3_least_1 ?_
  refine lv_iconst (v := (nI 0)) hx hb dX3_least_4 (by decide) ?_
  obtain ⟨h1, h⟩ := gg_s h
  refine fw_iald hx hb hK hP hp0.2.2.2.1.1 hp0.2.2.2.1.2 h1 dX3_least_5 ?_
  exact fw_ireti hx hb hr hlocks (congrArg (fun q => (q, z)) (Option.some.inj h)) hK hZ hP hS dX3_least_6
theorem in_X3_smoothOrders_X3 : ∀ w ∈ wsX30, w ∈ wsX3_smoothOrders := fun w h => List.mem_cons_of_mem _ (List.mem_append_right _ (h))
theorem hdV_X3_smoothOrders : yX3_smoothOrders.cls = RX3 ∧ yX3_smoothOrders.cls ≠ "java/lang/invoke/MethodHandle" ∧ yX3_smoothOrders.cls ≠ "java/lang/invoke/VarHandle" ∧ (parseMethodDescriptor yX3_smoothOrders.desc).map (fun d => d.parameters.length) = some 0 := by decide +kernel
set_option maxHeartbeats 4000000 in
set_option maxRecDepth 100000 in
theorem k_X3_smoothOrders (l : Launch) (D : va_G) (cA : Nat → ClassId) (ad : Nat → Nat) (tw : Nat) (hG : gOk ad 315) (z : gS) (p0 : Nat) (hp0 : gC3 p0) (res : Int32) (h : f_X3_smoothOrders p0 z = some res) : gMi l yX3_smoothOrders wsX3_smoothOrders (gRm 0 0) D cA ad tw shX 315 [.ref (ad p0)] z (res, z) := by
  refine Met.ofW (cc := cX3_smoothOrders) (maxL := 1) (ret := (some .int)) (by decide) rfl ?_
  intro p e s m args below meth c s₁ B hml hv
  obtain ⟨rfl, hP, hK, hZ⟩ := hv
  have hx := B.exec
  have hb := B.bytes
  have hr := B.returns
  have hts := atoms_spec (ws := wsX3_smoothOrders) B.pre
  have hown : s.vm.findClass RX3 = some m.cls := findClass_of_methodNamed B.named
  have hlocks := B.notSynchronized
  have hS : va_S (gA ad 315) s.heap s.heap [] := va_S.rf
  have hl := lv_entry ([.ref (ad p0)]) (n := 1) (Nat.le_of_ble_eq_true rfl)
  rw [lg_entry_eq]
  generalize (lg_sl ([.ref (ad p0)]) ++ List.replicate (1 - (lg_sl ([.ref (ad p0)])).length) Slot.unset).toArray = ls at hl ⊢
  have hl : lv_has ls 1 [(0, .ref (ad p0))] := hl
  unfold f_X3_smoothOrders at h
  refine lv_aload_n hx hb dX3_smoothOrders_0 rfl (lv_at hl 0 rfl) ?_
  refine fw_getr hx hb hts in_X3_smoothOrders_X3 hown hK hP hp0.1.1 hp0.1.2 rfl 2 (by decide) rfl (hts _ (List.mem_of_getElem? (i := 1) rfl)) rfl dX3_smoothOrders_1 ?_
  refine lv_iconst (v := (nI 0)) hx hb dX3_smoothOrders_4 (by decide) ?_
  obtain ⟨h1, h⟩ := gg_s h
  refine fw_iald hx hb hK hP hp0.2.2.2.1.1 hp0.2.2.2.1.2 h1 dX3_smoothOrders_5 ?_
  refine lv_if_ne (tgt := 18) hx hb dX3_smoothOrders_6 (by decide) (fun c2 => ?_) (fun c2 => ?_)
  · replace h := gif_f h c2
    refine lv_iconst (v := (nI 0)) hx hb dX3_smoothOrders_18 (by decide) ?_
    exact fw_ireti hx hb hr hlocks (congrArg (fun q => (q, z)) (Option.some.inj h)) hK hZ hP hS dX3_smoothOrders_19
  · replace h := gif_t h c2
    refine lv_aload_n hx hb dX3_smoothOrders_9 rfl (lv_at hl 0 rfl) ?_
    refine fw_getr hx hb hts in_X3_smoothOrders_X3 hown hK hP hp0.1.1 hp0.1.2 rfl 3 (by decide) rfl (hts _ (List.mem_of_getElem? (i := 2) rfl)) rfl dX3_smoothOrders_10 ?_
    refine lv_iconst (v := (nI 0)) hx hb dX3_smoothOrders_13 (by decide) ?_
    obtain ⟨h3, h⟩ := gg_s h
    refine fw_iald hx hb hK hP hp0.2.2.2.2.1 hp0.2.2.2.2.2 h3 dX3_smoothOrders_14 ?_
    refine lv_goto (tgt := 19) hx hb dX3_smoothOrders_15 (by decide) ?_
    exact fw_ireti hx hb hr hlocks (congrArg (fun q => (q, z)) (Option.some.inj h)) hK hZ hP hS dX3_smoothOrders_19
theorem in_X3_pick_X3 : ∀ w ∈ wsX30, w ∈ wsX3_pick := fun w h => List.mem_cons_of_mem _ (List.mem_append_right _ (h))
theorem hdV_X3_pick : yX3_pick.cls = RX3 ∧ yX3_pick.cls ≠ "java/lang/invoke/MethodHandle" ∧ yX3_pick.cls ≠ "java/lang/invoke/VarHandle" ∧ (parseMethodDescriptor yX3_pick.desc).map (fun d => d.parameters.length) = some 1 := by decide +kernel
set_option maxHeartbeats 4000000 in
set_option maxRecDepth 100000 in
theorem k_X3_pick (l : Launch) (D : va_G) (cA : Nat → ClassId) (ad : Nat → Nat) (tw : Nat) (hG : gOk ad 315) (z : gS) (p0 : Nat) (hp0 : gC3 p0) (a1 : Int32) (res : Int32) (h : f_X3_pick p0 a1 z = some res) : gMi l yX3_pick wsX3_pick (gRm 3 64) D cA ad tw shX 315 [.ref (ad p0), .int a1] z (res, z) := by
  refine Met.ofW (cc := cX3_pick) (maxL := 8) (ret := (some .int)) (by decide) rfl ?_
  intro p e s m args below meth c s₁ B hml hv
  obtain ⟨rfl, hP, hK, hZ⟩ := hv
  have hx := B.exec
  have hb := B.bytes
  have hr := B.returns
  have hts := atoms_spec (ws := wsX3_pick) B.pre
  have hown : s.vm.findClass RX3 = some m.cls := findClass_of_methodNamed B.named
  have hlocks := B.notSynchronized
  have hS : va_S (gA ad 315) s.heap s.heap [] := va_S.rf
  have hl := lv_entry ([.ref (ad p0), .int a1]) (n := 8) (Nat.le_of_ble_eq_true rfl)
  rw [lg_entry_eq]
  generalize (lg_sl ([.ref (ad p0), .int a1]) ++ List.replicate (8 - (lg_sl ([.ref (ad p0), .int a1])).length) Slot.unset).toArray = ls at hl ⊢
  have hl : lv_has ls 8 [(0, .ref (ad p0)), (1, .int a1)] := hl
  have j24 : ∀ (x3 : Int32) (x4 : Int32) (x5 : Int32) (K16 : Int32 → Int32 → Int32 → Int32 → Option Int32) (hK16 : ∀ (x2' : Int32) (x3' : Int32) (x4' : Int32) (x5' : Int32) (H : Heap) (locs : List Loc) (ls : Array Slot), K16 x2' x3' x4' x5' = some res → va_P D vwCl (gw cA ad shX 315 z) H → va_S (gA ad 315) s.heap H locs → lv_has ls 8 [(0, .ref (ad p0)), (2, .int x2'), (3, .int x3'), (4, .int x4'), (5, .int x5')] → W p l e (headSpec wsX3_pick (gRm 3 64)).room s m ([.ref (ad p0), .int a1] : List Value).toArray below meth c H locs 0 0 (MQ below (va_Qi (fun r u => (r, u) = (res, z)) (gPr D cA ad tw shX 315) (gA ad 315)) ([.ref (ad p0), .int a1] : List Value).toArray s 0 0 (gA ad 315)) (F0 m 16 ls [])) (n : Nat) (x2 : Int32) (x6 : Int32) (H : Heap) (locs : List Loc) (ls : Array Slot), f_X3_pick_24 p0 z x3 x4 x5 K16 n x2 x6 = some res → va_P D vwCl (gw cA ad shX 315 z) H → va_S (gA ad 315) s.heap H locs → lv_has ls 8 [(0, .ref (ad p0)), (2, .int x2), (3, .int x3), (4, .int x4), (5, .int x5), (6, .int x6)] → W p l e (headSpec wsX3_pick (gRm 3 64)).room s m ([.ref (ad p0), .int a1] : List Value).toArray below meth c H locs 0 0 (MQ below (va_Qi (fun r u => (r, u) = (res, z)) (gPr D cA ad tw shX 315) (gA ad 315)) ([.ref (ad p0), .int a1] : List Value).toArray s 0 0 (gA ad 315)) (F0 m 24 ls []) := by
    intro x3 x4 x5 K16 hK16 n
    induction n with
    | zero => intro x2 x6 H locs ls h; exact (gno h).elim
    | succ n hK24 =>
      intro x2 x6 H locs ls h hP hS hl
      replace h : f_X3_pick_24_b p0 z x3 x4 x5 K16 (f_X3_pick_24 p0 z x3 x4 x5 K16 n) x2 x6 = some res := h
      unfold f_X3_pick_24_b at h
      refine lv_iload hx hb dX3_pick_24 (lv_at hl 5 rfl) ?_
      refine lv_bipush (v := (nI 7)) hx hb dX3_pick_26 (by decide) ?_
      refine lv_icmp_ge (tgt := 94) hx hb dX3_pick_28 (by decide) (fun c3 => ?_) (fun c3 => ?_)
      · replace h := gif_t h c3
        refine lv_iinc (v := x5 + gm1) (lv' := [(5, .int (x5 + gm1)), (0, .ref (ad p0)), (2, .int x2), (3, .int x3), (4, .int x4), (6, .int x6)]) hx hb dX3_pick_94 hl (k := 4) rfl rfl (by decide) rfl (fun ls hl => ?_)
        refine lv_goto (tgt := 16) hx hb dX3_pick_97 (by decide) ?_
        exact hK16 x2 x3 x4 (x5 + gm1) _ _ ls h hP hS (lv_sub hl [1, 2, 3, 4, 0] rfl)
      · replace h := gif_f h c3
        refine lv_aload_n hx hb dX3_pick_31 rfl (lv_at hl 0 rfl) ?_
        refine lv_iload_n hx hb dX3_pick_32 rfl (lv_at hl 2 rfl) ?_
        refine lv_iload hx hb dX3_pick_33 (lv_at hl 5 rfl) ?_
        obtain ⟨q4, hq4, h⟩ := gb_s h
        refine fw_viR (As := [.int x3, .int x6]) (rest := []) ⟨hx, hb, hml, hown, hts⟩ (k_X3_isBest l D cA ad tw hG z p0 (hp0) x3 x6 q4 hq4) (cwV 2 hts gX3_pick_X3_isBest rfl rfl rfl hdV_X3_isBest ⟨Nat.le_of_ble_eq_true rfl, Nat.le_of_ble_eq_true rfl⟩) (fw_preV hp0.1.1 hp0.1.2 rfl rfl hK hZ hP hS) rfl hl _ rfl (Nat.le_of_ble_eq_true rfl) hS dX3_pick_35 ⟨Nat.zero_le _, Nat.zero_le _⟩ (fun H locs hP hS => ?_)
        refine lv_if_eq (tgt := 88) hx hb dX3_pick_38 (by decide) (fun c5 => ?_) (fun c5 => ?_)
        · replace h := gif_t h c5
          refine lv_iinc (v := x6 + (nI 1)) (lv' := [(6, .int (x6 + (nI 1))), (0, .ref (ad p0)), (2, .int x2), (3, .int x3), (4, .int x4), (5, .int x5)]) hx hb dX3_pick_88 hl (k := 5) rfl rfl (by decide) rfl (fun ls hl => ?_)
          refine lv_goto (tgt := 24) hx hb dX3_pick_91 (by decide) ?_
          exact hK24 x2 (x6 + (nI 1)) _ _ ls h hP hS (lv_sub hl [1, 2, 3, 4, 5, 0] rfl)
        · replace h := gif_f h c5
          refine lv_iload_n hx hb dX3_pick_41 rfl (lv_at hl 2 rfl) ?_
          refine lv_iconst (v := (nI 1)) hx hb dX3_pick_42 (by decide) ?_
          refine lv_iload hx hb dX3_pick_43 (lv_at hl 5 rfl) ?_
          refine lv_ishl hx hb dX3_pick_45 ?_
          refine lv_ior hx hb dX3_pick_46 ?_
          refine lv_topi (fun y6 ey6 => ?_)
          replace h := gl_s h ey6
          refine lv_istore (lv' := [(7, .int y6), (0, .ref (ad p0)), (2, .int x2), (3, .int x3), (4, .int x4), (5, .int x5), (6, .int x6)]) hx hb dX3_pick_47 hl (by decide) rfl (fun ls hl => ?_)
          refine lv_iload_n hx hb dX3_pick_49 rfl (lv_at hl 2 rfl) ?_
          refine lv_aload_n hx hb dX3_pick_50 rfl (lv_at hl 1 rfl) ?_
          refine fw_getr hx hb hts in_X3_pick_X3 hown hK hP hp0.1.1 hp0.1.2 rfl 3 (by decide) rfl (hts _ (List.mem_of_getElem? (i := 2) rfl)) rfl dX3_pick_51 ?_
          refine lv_iload hx hb dX3_pick_54 (lv_at hl 0 rfl) ?_
          obtain ⟨h7, h⟩ := gg_s h
          refine fw_iald hx hb hK hP hp0.2.2.2.2.1 hp0.2.2.2.2.2 h7 dX3_pick_56 ?_
          refine lv_icmp_ge (tgt := 78) hx hb dX3_pick_57 (by decide) (fun c8 => ?_) (fun c8 => ?_)
          · replace h := gif_t h c8
            refine lv_iload_n hx hb dX3_pick_78 rfl (lv_at hl 2 rfl) ?_
            refine lv_aload_n hx hb dX3_pick_79 rfl (lv_at hl 1 rfl) ?_
            refine fw_getr hx hb hts in_X3_pick_X3 hown hK hP hp0.1.1 hp0.1.2 rfl 3 (by decide) rfl (hts _ (List.mem_of_getElem? (i := 2) rfl)) rfl dX3_pick_80 ?_
            refine lv_iload hx hb dX3_pick_83 (lv_at hl 0 rfl) ?_
            obtain ⟨h9, h⟩ := gg_s h
            refine fw_iald hx hb hK hP hp0.2.2.2.2.1 hp0.2.2.2.2.2 h9 dX3_pick_85 ?_
            refine lv_isub hx hb dX3_pick_86 ?_
            refine lv_topi (fun y10 ey10 => ?_)
            replace h := gl_s h ey10
            refine lv_istore_n (lv' := [(2, .int y10), (7, .int y6), (0, .ref (ad p0)), (3, .int x3), (4, .int x4), (5, .int x5), (6, .int x6)]) hx hb dX3_pick_87 rfl hl (by decide) rfl (fun ls hl => ?_)
            refine lv_iinc (v := x6 + (nI 1)) (lv' := [(6, .int (x6 + (nI 1))), (2, .int y10), (7, .int y6), (0, .ref (ad p0)), (3, .int x3), (4, .int x4), (5, .int x5)]) hx hb dX3_pick_88 hl (k := 6) rfl rfl (by decide) rfl (fun ls hl => ?_)
            refine lv_goto (tgt := 24) hx hb dX3_pick_91 (by decide) ?_
            exact hK24 y10 (x6 + (nI 1)) _ _ ls h hP hS (lv_sub hl [3, 1, 4, 5, 6, 0] rfl)
          · replace h := gif_f h c8
            refine lv_iload hx hb dX3_pick_60 (lv_at hl 0 rfl) ?_
            refine lv_istore_n (lv' := [(3, .int y6), (7, .int y6), (0, .ref (ad p0)), (2, .int x2), (4, .int x4), (5, .int x5), (6, .int x6)]) hx hb dX3_pick_62 rfl hl (by decide) rfl (fun ls hl => ?_)
            refine lv_iload hx hb dX3_pick_63 (lv_at hl 4 rfl) ?_
            refine lv_bipush (v := (nI 10)) hx hb dX3_pick_65 (by decide) ?_
            refine lv_imul hx hb dX3_pick_67 ?_
            refine lv_iload hx hb dX3_pick_68 (lv_at hl 6 rfl) ?_
            refine lv_iadd hx hb dX3_pick_70 ?_
            refine lv_iconst (v := (nI 1)) hx hb dX3_pick_71 (by decide) ?_
            refine lv_iadd hx hb dX3_pick_72 ?_
            refine lv_topi (fun y11 ey11 => ?_)
            replace h := gl_s h ey11
            refine lv_istore (lv' := [(4, .int y11), (3, .int y6), (7, .int y6), (0, .ref (ad p0)), (2, .int x2), (5, .int x5), (6, .int x6)]) hx hb dX3_pick_73 hl (by decide) rfl (fun ls hl => ?_)
            refine lv_goto (tgt := 94) hx hb dX3_pick_75 (by decide) ?_
            refine lv_iinc (v := x5 + gm1) (lv' := [(5, .int (x5 + gm1)), (4, .int y11), (3, .int y6), (7, .int y6), (0, .ref (ad p0)), (2, .int x2), (6, .int x6)]) hx hb dX3_pick_94 hl (k := 5) rfl rfl (by decide) rfl (fun ls hl => ?_)
            refine lv_goto (tgt := 16) hx hb dX3_pick_97 (by decide) ?_
            exact hK16 x2 y6 y11 (x5 + gm1) _ _ ls h hP hS (lv_sub hl [4, 5, 2, 1, 0] rfl)
  have j16 : ∀  (n : Nat) (x2 : Int32) (x3 : Int32) (x4 : Int32) (x5 : Int32) (H : Heap) (locs : List Loc) (ls : Array Slot), f_X3_pick_16 p0 z n x2 x3 x4 x5 = some res → va_P D vwCl (gw cA ad shX 315 z) H → va_S (gA ad 315) s.heap H locs → lv_has ls 8 [(0, .ref (ad p0)), (2, .int x2), (3, .int x3), (4, .int x4), (5, .int x5)] → W p l e (headSpec wsX3_pick (gRm 3 64)).room s m ([.ref (ad p0), .int a1] : List Value).toArray below meth c H locs 0 0 (MQ below (va_Qi (fun r u => (r, u) = (res, z)) (gPr D cA ad tw shX 315) (gA ad 315)) ([.ref (ad p0), .int a1] : List Value).toArray s 0 0 (gA ad 315)) (F0 m 16 ls []) := by
    intro n
    induction n with
    | zero => intro x2 x3 x4 x5 H locs ls h; exact (gno h).elim
    | succ n hK16 =>
      intro x2 x3 x4 x5 H locs ls h hP hS hl
      replace h : f_X3_pick_16_b p0 z (f_X3_pick_16 p0 z n) x2 x3 x4 x5 = some res := h
      unfold f_X3_pick_16_b at h
      refine lv_iload hx hb dX3_pick_16 (lv_at hl 4 rfl) ?_
      refine lv_if_le (tgt := 100) hx hb dX3_pick_18 (by decide) (fun c2 => ?_) (fun c2 => ?_)
      · replace h := gif_t h c2
        refine lv_iload hx hb dX3_pick_100 (lv_at hl 3 rfl) ?_
        exact fw_ireti hx hb hr hlocks (congrArg (fun q => (q, z)) (Option.some.inj h)) hK hZ hP hS dX3_pick_102
      · replace h := gif_f h c2
        refine lv_iconst (v := (nI 0)) hx hb dX3_pick_21 (by decide) ?_
        refine lv_istore (lv' := [(6, .int (nI 0)), (0, .ref (ad p0)), (2, .int x2), (3, .int x3), (4, .int x4), (5, .int x5)]) hx hb dX3_pick_22 hl (by decide) rfl (fun ls hl => ?_)
        exact j24 x3 x4 x5 _ hK16 gF x2 (nI 0) _ _ ls h hP hS (lv_sub hl [1, 2, 3, 4, 5, 0] rfl)
  unfold f_X3_pick at h
  refine lv_iload_n hx hb dX3_pick_0 rfl (lv_at hl 1 rfl) ?_
  refine lv_istore_n (lv' := [(2, .int a1), (0, .ref (ad p0)), (1, .int a1)]) hx hb dX3_pick_1 rfl hl (by decide) rfl (fun ls hl => ?_)
  refine lv_iconst (v := (nI 0)) hx hb dX3_pick_2 (by decide) ?_
  refine lv_istore_n (lv' := [(3, .int (nI 0)), (2, .int a1), (0, .ref (ad p0)), (1, .int a1)]) hx hb dX3_pick_3 rfl hl (by decide) rfl (fun ls hl => ?_)
  refine lv_iconst (v := (nI 0)) hx hb dX3_pick_4 (by decide) ?_
  refine lv_istore (lv' := [(4, .int (nI 0)), (3, .int (nI 0)), (2, .int a1), (0, .ref (ad p0)), (1, .int a1)]) hx hb dX3_pick_5 hl (by decide) rfl (fun ls hl => ?_)
  refine lv_aload_n hx hb dX3_pick_7 rfl (lv_at hl 3 rfl) ?_
  refine fw_geti hx hb hts in_X3_pick_X3 hown hK hP hp0.1.1 hp0.1.2 rfl 4 (by decide) rfl (hts _ (List.mem_of_getElem? (i := 1) rfl)) rfl dX3_pick_8 ?_
  obtain ⟨q1, hq1, h⟩ := gb_s h
  refine fw_siR (As := [.int (z p0 4)]) (rest := []) ⟨hx, hb, hml, hown, hts⟩ (k_J6_bitCount_0f7a4 l D cA ad tw hG z (z p0 4) q1 hq1) (va_cwS 1 hts gX3_pick_J6_bitCount_0f7a4 rfl rfl rfl hdS_J6_bitCount_0f7a4 ⟨Nat.le_of_ble_eq_true rfl, Nat.le_of_ble_eq_true rfl⟩) hK hZ hP rfl hl _ rfl (Nat.le_of_ble_eq_true rfl) hS dX3_pick_11 ⟨Nat.zero_le _, Nat.zero_le _⟩ (fun H locs hP hS => ?_)
  refine lv_istore (lv' := [(5, .int q1), (4, .int (nI 0)), (3, .int (nI 0)), (2, .int a1), (0, .ref (ad p0)), (1, .int a1)]) hx hb dX3_pick_14 hl (by decide) rfl (fun ls hl => ?_)
  exact j16  gF a1 (nI 0) (nI 0) q1 _ _ ls h hP hS (lv_sub hl [4, 3, 2, 1, 0] rfl)
theorem in_X3_ahead_X3 : ∀ w ∈ wsX30, w ∈ wsX3_ahead := fun w h => List.mem_cons_of_mem _ (List.mem_append_right _ (h))
theorem hdV_X3_ahead : yX3_ahead.cls = RX3 ∧ yX3_ahead.cls ≠ "java/lang/invoke/MethodHandle" ∧ yX3_ahead.cls ≠ "java/lang/invoke/VarHandle" ∧ (parseMethodDescriptor yX3_ahead.desc).map (fun d => d.parameters.length) = some 2 := by decide +kernel
set_option maxHeartbeats 4000000 in
set_option maxRecDepth 100000 in
theorem k_X3_ahead (l : Launch) (D : va_G) (cA : Nat → ClassId) (ad : Nat → Nat) (tw : Nat) (hG : gOk ad 315) (z : gS) (p0 : Nat) (hp0 : gC3 p0) (p1 n1 : Nat) (hp1 : p1 < 315 ∧ shX p1 = .inr (0, n1, 0, 0)) (a2 : Int32) (res : Int32) (h : f_X3_ahead p0 p1 n1 a2 z = some res) : gMi l yX3_ahead wsX3_ahead (gRm 3 64) D cA ad tw shX 315 [.ref (ad p0), .ref (ad p1), .int a2] z (res, z) := by
  refine Met.ofW (cc := cX3_ahead) (maxL := 7) (ret := (some .int)) (by decide) rfl ?_
  intro p e s m args below meth c s₁ B hml hv
  obtain ⟨rfl, hP, hK, hZ⟩ := hv
  have hx := B.exec
  have hb := B.bytes
  have hr := B.returns
  have hts := atoms_spec (ws := wsX3_ahead) B.pre
  have hown : s.vm.findClass RX3 = some m.cls := findClass_of_methodNamed B.named
  have hlocks := B.notSynchronized
  have hS : va_S (gA ad 315) s.heap s.heap [] := va_S.rf
  have hl := lv_entry ([.ref (ad p0), .ref (ad p1), .int a2]) (n := 7) (Nat.le_of_ble_eq_true rfl)
  rw [lg_entry_eq]
  generalize (lg_sl ([.ref (ad p0), .ref (ad p1), .int a2]) ++ List.replicate (7 - (lg_sl ([.ref (ad p0), .ref (ad p1), .int a2])).length) Slot.unset).toArray = ls at hl ⊢
  have hl : lv_has ls 7 [(0, .ref (ad p0)), (1, .ref (ad p1)), (2, .int a2)] := hl
  have j33 : ∀ (x2 : Int32) (x4 : Int32) (x5 : Int32) (K8 : Int32 → Int32 → Int32 → Option Int32) (hK8 : ∀ (x3' : Int32) (x4' : Int32) (x5' : Int32) (H : Heap) (locs : List Loc) (ls : Array Slot), K8 x3' x4' x5' = some res → va_P D vwCl (gw cA ad shX 315 z) H → va_S (gA ad 315) s.heap H locs → lv_has ls 7 [(0, .ref (ad p0)), (1, .ref (ad p1)), (2, .int x2), (3, .int x3'), (4, .int x4'), (5, .int x5')] → W p l e (headSpec wsX3_ahead (gRm 3 64)).room s m ([.ref (ad p0), .ref (ad p1), .int a2] : List Value).toArray below meth c H locs 0 0 (MQ below (va_Qi (fun r u => (r, u) = (res, z)) (gPr D cA ad tw shX 315) (gA ad 315)) ([.ref (ad p0), .ref (ad p1), .int a2] : List Value).toArray s 0 0 (gA ad 315)) (F0 m 8 ls [])) (n : Nat) (x3 : Int32) (x6 : Int32) (H : Heap) (locs : List Loc) (ls : Array Slot), f_X3_ahead_33 p0 p1 n1 z x2 x4 x5 K8 n x3 x6 = some res → va_P D vwCl (gw cA ad shX 315 z) H → va_S (gA ad 315) s.heap H locs → lv_has ls 7 [(0, .ref (ad p0)), (1, .ref (ad p1)), (2, .int x2), (3, .int x3), (4, .int x4), (5, .int x5), (6, .int x6)] → W p l e (headSpec wsX3_ahead (gRm 3 64)).room s m ([.ref (ad p0), .ref (ad p1), .int a2] : List Value).toArray below meth c H locs 0 0 (MQ below (va_Qi (fun r u => (r, u) = (res, z)) (gPr D cA ad tw shX 315) (gA ad 315)) ([.ref (ad p0), .ref (ad p1), .int a2] : List Value).toArray s 0 0 (gA ad 315)) (F0 m 33 ls []) := by
    intro x2 x4 x5 K8 hK8 n
    induction n with
    | zero => intro x3 x6 H locs ls h; exact (gno h).elim
    | succ n hK33 =>
      intro x3 x6 H locs ls h hP hS hl
      replace h : f_X3_ahead_33_b p0 p1 n1 z x2 x4 x5 K8 (f_X3_ahead_33 p0 p1 n1 z x2 x4 x5 K8 n) x3 x6 = some res := h
      unfold f_X3_ahead_33_b at h
      refine lv_iload hx hb dX3_ahead_33 (lv_at hl 6 rfl) ?_
      refine lv_aload_n hx hb dX3_ahead_35 rfl (lv_at hl 1 rfl) ?_
      refine lv_iload hx hb dX3_ahead_36 (lv_at hl 5 rfl) ?_
      obtain ⟨h5, h⟩ := gg_s h
      refine fw_iald hx hb hK hP hp1.1 hp1.2 h5 dX3_ahead_38 ?_
      refine lv_icmp_ge (tgt := 74) hx hb dX3_ahead_39 (by decide) (fun c6 => ?_) (fun c6 => ?_)
      · replace h := gif_t h c6
        refine lv_aload_n hx hb dX3_ahead_74 rfl (lv_at hl 0 rfl) ?_
        refine lv_iload hx hb dX3_ahead_75 (lv_at hl 4 rfl) ?_
        refine lv_aload_n hx hb dX3_ahead_77 rfl (lv_at hl 1 rfl) ?_
        refine lv_iload hx hb dX3_ahead_78 (lv_at hl 5 rfl) ?_
        obtain ⟨h7, h⟩ := gg_s h
        refine fw_iald hx hb hK hP hp1.1 hp1.2 h7 dX3_ahead_80 ?_
        obtain ⟨q8, hq8, h⟩ := gb_s h
        refine fw_viR (As := [.int x4, .int (z p1 x5.toNatClampNeg)]) (rest := []) ⟨hx, hb, hml, hown, hts⟩ (k_X3_isBest l D cA ad tw hG z p0 (hp0) x4 (z p1 x5.toNatClampNeg) q8 hq8) (cwV 2 hts gX3_ahead_X3_isBest rfl rfl rfl hdV_X3_isBest ⟨Nat.le_of_ble_eq_true rfl, Nat.le_of_ble_eq_true rfl⟩) (fw_preV hp0.1.1 hp0.1.2 rfl rfl hK hZ hP hS) rfl hl _ rfl (Nat.le_of_ble_eq_true rfl) hS dX3_ahead_81 ⟨Nat.zero_le _, Nat.zero_le _⟩ (fun H locs hP hS => ?_)
        refine lv_if_ne (tgt := 90) hx hb dX3_ahead_84 (by decide) (fun c9 => ?_) (fun c9 => ?_)
        · replace h := gif_f h c9
          refine lv_iload hx hb dX3_ahead_90 (lv_at hl 4 rfl) ?_
          refine lv_iconst (v := (nI 1)) hx hb dX3_ahead_92 (by decide) ?_
          refine lv_aload_n hx hb dX3_ahead_93 rfl (lv_at hl 1 rfl) ?_
          refine lv_iload hx hb dX3_ahead_94 (lv_at hl 5 rfl) ?_
          obtain ⟨h10, h⟩ := gg_s h
          refine fw_iald hx hb hK hP hp1.1 hp1.2 h10 dX3_ahead_96 ?_
          refine lv_ishl hx hb dX3_ahead_97 ?_
          refine lv_ior hx hb dX3_ahead_98 ?_
          refine lv_topi (fun y11 ey11 => ?_)
          replace h := gl_s h ey11
          refine lv_istore (lv' := [(4, .int y11), (0, .ref (ad p0)), (1, .ref (ad p1)), (2, .int x2), (3, .int x3), (5, .int x5), (6, .int x6)]) hx hb dX3_ahead_99 hl (by decide) rfl (fun ls hl => ?_)
          refine lv_iinc (v := x5 + (nI 1)) (lv' := [(5, .int (x5 + (nI 1))), (4, .int y11), (0, .ref (ad p0)), (1, .ref (ad p1)), (2, .int x2), (3, .int x3), (6, .int x6)]) hx hb dX3_ahead_101 hl (k := 5) rfl rfl (by decide) rfl (fun ls hl => ?_)
          refine lv_goto (tgt := 8) hx hb dX3_ahead_104 (by decide) ?_
          exact hK8 x3 y11 (x5 + (nI 1)) _ _ ls h hP hS (lv_sub hl [2, 3, 4, 5, 1, 0] rfl)
        · replace h := gif_t h c9
          refine lv_goto (tgt := 107) hx hb dX3_ahead_87 (by decide) ?_
          refine lv_iload_n hx hb dX3_ahead_107 rfl (lv_at hl 3 rfl) ?_
          exact fw_ireti hx hb hr hlocks (congrArg (fun q => (q, z)) (Option.some.inj h)) hK hZ hP hS dX3_ahead_108
      · replace h := gif_f h c6
        refine lv_aload_n hx hb dX3_ahead_42 rfl (lv_at hl 0 rfl) ?_
        refine lv_iload hx hb dX3_ahead_43 (lv_at hl 4 rfl) ?_
        refine lv_iload hx hb dX3_ahead_45 (lv_at hl 6 rfl) ?_
        obtain ⟨q12, hq12, h⟩ := gb_s h
        refine fw_viR (As := [.int x4, .int x6]) (rest := []) ⟨hx, hb, hml, hown, hts⟩ (k_X3_isBest l D cA ad tw hG z p0 (hp0) x4 x6 q12 hq12) (cwV 2 hts gX3_ahead_X3_isBest rfl rfl rfl hdV_X3_isBest ⟨Nat.le_of_ble_eq_true rfl, Nat.le_of_ble_eq_true rfl⟩) (fw_preV hp0.1.1 hp0.1.2 rfl rfl hK hZ hP hS) rfl hl _ rfl (Nat.le_of_ble_eq_true rfl) hS dX3_ahead_47 ⟨Nat.zero_le _, Nat.zero_le _⟩ (fun H locs hP hS => ?_)
        refine lv_if_eq (tgt := 68) hx hb dX3_ahead_50 (by decide) (fun c13 => ?_) (fun c13 => ?_)
        · replace h := gif_t h c13
          refine lv_iinc (v := x6 + (nI 1)) (lv' := [(6, .int (x6 + (nI 1))), (0, .ref (ad p0)), (1, .ref (ad p1)), (2, .int x2), (3, .int x3), (4, .int x4), (5, .int x5)]) hx hb dX3_ahead_68 hl (k := 6) rfl rfl (by decide) rfl (fun ls hl => ?_)
          refine lv_goto (tgt := 33) hx hb dX3_ahead_71 (by decide) ?_
          exact hK33 x3 (x6 + (nI 1)) _ _ ls h hP hS (lv_sub hl [1, 2, 3, 4, 5, 6, 0] rfl)
        · replace h := gif_f h c13
          refine lv_iload_n hx hb dX3_ahead_53 rfl (lv_at hl 3 rfl) ?_
          refine lv_aload_n hx hb dX3_ahead_54 rfl (lv_at hl 0 rfl) ?_
          refine fw_getr hx hb hts in_X3_ahead_X3 hown hK hP hp0.1.1 hp0.1.2 rfl 3 (by decide) rfl (hts _ (List.mem_of_getElem? (i := 2) rfl)) rfl dX3_ahead_55 ?_
          refine lv_iload hx hb dX3_ahead_58 (lv_at hl 4 rfl) ?_
          refine lv_iconst (v := (nI 1)) hx hb dX3_ahead_60 (by decide) ?_
          refine lv_iload hx hb dX3_ahead_61 (lv_at hl 6 rfl) ?_
          refine lv_ishl hx hb dX3_ahead_63 ?_
          refine lv_ior hx hb dX3_ahead_64 ?_
          obtain ⟨h14, h⟩ := gg_s h
          refine fw_iald hx hb hK hP hp0.2.2.2.2.1 hp0.2.2.2.2.2 h14 dX3_ahead_65 ?_
          refine lv_iadd hx hb dX3_ahead_66 ?_
          refine lv_topi (fun y15 ey15 => ?_)
          replace h := gl_s h ey15
          refine lv_istore_n (lv' := [(3, .int y15), (0, .ref (ad p0)), (1, .ref (ad p1)), (2, .int x2), (4, .int x4), (5, .int x5), (6, .int x6)]) hx hb dX3_ahead_67 rfl hl (by decide) rfl (fun ls hl => ?_)
          refine lv_iinc (v := x6 + (nI 1)) (lv' := [(6, .int (x6 + (nI 1))), (3, .int y15), (0, .ref (ad p0)), (1, .ref (ad p1)), (2, .int x2), (4, .int x4), (5, .int x5)]) hx hb dX3_ahead_68 hl (k := 6) rfl rfl (by decide) rfl (fun ls hl => ?_)
          refine lv_goto (tgt := 33) hx hb dX3_ahead_71 (by decide) ?_
          exact hK33 y15 (x6 + (nI 1)) _ _ ls h hP hS (lv_sub hl [2, 3, 4, 1, 5, 6, 0] rfl)
  have j8 : ∀ (x2 : Int32) (n : Nat) (x3 : Int32) (x4 : Int32) (x5 : Int32) (H : Heap) (locs : List Loc) (ls : Array Slot), f_X3_ahead_8 p0 p1 n1 z x2 n x3 x4 x5 = some res → va_P D vwCl (gw cA ad shX 315 z) H → va_S (gA ad 315) s.heap H locs → lv_has ls 7 [(0, .ref (ad p0)), (1, .ref (ad p1)), (2, .int x2), (3, .int x3), (4, .int x4), (5, .int x5)] → W p l e (headSpec wsX3_ahead (gRm 3 64)).room s m ([.ref (ad p0), .ref (ad p1), .int a2] : List Value).toArray below meth c H locs 0 0 (MQ below (va_Qi (fun r u => (r, u) = (res, z)) (gPr D cA ad tw shX 315) (gA ad 315)) ([.ref (ad p0), .ref (ad p1), .int a2] : List Value).toArray s 0 0 (gA ad 315)) (F0 m 8 ls []) := by
    intro x2 n
    induction n with
    | zero => intro x3 x4 x5 H locs ls h; exact (gno h).elim
    | succ n hK8 =>
      intro x3 x4 x5 H locs ls h hP hS hl
      replace h : f_X3_ahead_8_b p0 p1 n1 z x2 (f_X3_ahead_8 p0 p1 n1 z x2 n) x3 x4 x5 = some res := h
      unfold f_X3_ahead_8_b at h
      refine lv_iload hx hb dX3_ahead_8 (lv_at hl 5 rfl) ?_
      refine lv_iload_n hx hb dX3_ahead_10 rfl (lv_at hl 2 rfl) ?_
      refine lv_icmp_ge (tgt := 107) hx hb dX3_ahead_11 (by decide) (fun c1 => ?_) (fun c1 => ?_)
      · replace h := gif_t h c1
        refine lv_iload_n hx hb dX3_ahead_107 rfl (lv_at hl 3 rfl) ?_
        exact fw_ireti hx hb hr hlocks (congrArg (fun q => (q, z)) (Option.some.inj h)) hK hZ hP hS dX3_ahead_108
      · replace h := gif_f h c1
        refine lv_iload hx hb dX3_ahead_14 (lv_at hl 5 rfl) ?_
        refine lv_aload_n hx hb dX3_ahead_16 rfl (lv_at hl 1 rfl) ?_
        refine fw_alen hx hb hK hP hp1.1 hp1.2 dX3_ahead_17 ?_
        refine lv_icmp_ge (tgt := 107) hx hb dX3_ahead_18 (by decide) (fun c2 => ?_) (fun c2 => ?_)
        · replace h := gif_t h c2
          refine lv_iload_n hx hb dX3_ahead_107 rfl (lv_at hl 3 rfl) ?_
          exact fw_ireti hx hb hr hlocks (congrArg (fun q => (q, z)) (Option.some.inj h)) hK hZ hP hS dX3_ahead_108
        · replace h := gif_f h c2
          refine lv_aload_n hx hb dX3_ahead_21 rfl (lv_at hl 0 rfl) ?_
          refine fw_getr hx hb hts in_X3_ahead_X3 hown hK hP hp0.1.1 hp0.1.2 rfl 2 (by decide) rfl (hts _ (List.mem_of_getElem? (i := 1) rfl)) rfl dX3_ahead_22 ?_
          refine lv_iconst (v := (nI 0)) hx hb dX3_ahead_25 (by decide) ?_
          obtain ⟨h3, h⟩ := gg_s h
          refine fw_iald hx hb hK hP hp0.2.2.2.1.1 hp0.2.2.2.1.2 h3 dX3_ahead_26 ?_
          refine lv_if_ne (tgt := 107) hx hb dX3_ahead_27 (by decide) (fun c4 => ?_) (fun c4 => ?_)
          · replace h := gif_f h c4
            refine lv_iload_n hx hb dX3_ahead_107 rfl (lv_at hl 3 rfl) ?_
            exact fw_ireti hx hb hr hlocks (congrArg (fun q => (q, z)) (Option.some.inj h)) hK hZ hP hS dX3_ahead_108
          · replace h := gif_t h c4
            refine lv_iconst (v := (nI 0)) hx hb dX3_ahead_30 (by decide) ?_
            refine lv_istore (lv' := [(6, .int (nI 0)), (0, .ref (ad p0)), (1, .ref (ad p1)), (2, .int x2), (3, .int x3), (4, .int x4), (5, .int x5)]) hx hb dX3_ahead_31 hl (by decide) rfl (fun ls hl => ?_)
            exact j33 x2 x4 x5 _ hK8 gF x3 (nI 0) _ _ ls h hP hS (lv_sub hl [1, 2, 3, 4, 5, 6, 0] rfl)
  unfold f_X3_ahead at h
  refine lv_iconst (v := (nI 0)) hx hb dX3_ahead_0 (by decide) ?_
  refine lv_istore_n (lv' := [(3, .int (nI 0)), (0, .ref (ad p0)), (1, .ref (ad p1)), (2, .int a2)]) hx hb dX3_ahead_1 rfl hl (by decide) rfl (fun ls hl => ?_)
  refine lv_iconst (v := (nI 0)) hx hb dX3_ahead_2 (by decide) ?_
  refine lv_istore (lv' := [(4, .int (nI 0)), (3, .int (nI 0)), (0, .ref (ad p0)), (1, .ref (ad p1)), (2, .int a2)]) hx hb dX3_ahead_3 hl (by decide) rfl (fun ls hl => ?_)
  refine lv_iconst (v := (nI 0)) hx hb dX3_ahead_5 (by decide) ?_
  refine lv_istore (lv' := [(5, .int (nI 0)), (4, .int (nI 0)), (3, .int (nI 0)), (0, .ref (ad p0)), (1, .ref (ad p1)), (2, .int a2)]) hx hb dX3_ahead_6 hl (by decide) rfl (fun ls hl => ?_)
  exact j8 a2 gF (nI 0) (nI 0) (nI 0) _ _ ls h hP hS (lv_sub hl [3, 4, 5, 2, 1, 0] rfl)
theorem in_X6_settle_X3 : ∀ w ∈ wsX30, w ∈ wsX6_settle := fun w h => List.mem_cons_of_mem _ (List.mem_append_right _ (h))
theorem in_X6_settle_X6 : ∀ w ∈ wsX60, w ∈ wsX6_settle := fun w h => List.mem_cons_of_mem _ (List.mem_append_left _ (List.mem_append_right _ (h)))
theorem hdV_X6_settle : yX6_settle.cls = RX6 ∧ yX6_settle.cls ≠ "java/lang/invoke/MethodHandle" ∧ yX6_settle.cls ≠ "java/lang/invoke/VarHandle" ∧ (parseMethodDescriptor yX6_settle.desc).map (fun d => d.parameters.length) = some 2 := by decide +kernel
set_option maxHeartbeats 4000000 in
set_option maxRecDepth 100000 in
theorem k_X6_settle (l : Launch) (D : va_G) (cA : Nat → ClassId) (ad : Nat → Nat) (tw : Nat) (hG : gOk ad 315) (z : gS) (p0 : Nat) (hp0 : gC6 p0) (p1 : Nat) (hp1 : gC3 p1) (a2 : Int32) (res : gS) (h : f_X6_settle p0 p1 a2 z = some res) : gMv l yX6_settle wsX6_settle (gRm 2 42) D cA ad tw shX 315 [.ref (ad p0), .ref (ad p1), .int a2] z res := by
  refine Met.ofW (cc := cX6_settle) (maxL := 8) (ret := none) (by decide) rfl ?_
  intro p e s m args below meth c s₁ B hml hv
  obtain ⟨rfl, hP, hK, hZ⟩ := hv
  have hx := B.exec
  have hb := B.bytes
  have hr := B.returns
  have hts := atoms_spec (ws := wsX6_settle) B.pre
  have hown : s.vm.findClass RX6 = some m.cls := findClass_of_methodNamed B.named
  have hlocks := B.notSynchronized
  have hS : va_S (gA ad 315) s.heap s.heap [] := va_S.rf
  have hl := lv_entry ([.ref (ad p0), .ref (ad p1), .int a2]) (n := 8) (Nat.le_of_ble_eq_true rfl)
  rw [lg_entry_eq]
  generalize (lg_sl ([.ref (ad p0), .ref (ad p1), .int a2]) ++ List.replicate (8 - (lg_sl ([.ref (ad p0), .ref (ad p1), .int a2])).length) Slot.unset).toArray = ls at hl ⊢
  have hl : lv_has ls 8 [(0, .ref (ad p0)), (1, .ref (ad p1)), (2, .int a2)] := hl
  have j86 : ∀ (x2 : Int32) (x3 : Nat) (hx3 : x3 < 315 ∧ shX x3 = .inr (0, 41, 0, 0)) (x4 : Int32) (x5 : Int32) (x6 : Nat) (hx6 : x6 < 315 ∧ shX x6 = .inr (0, 41, 0, 0)) (K43 : Int32 → gS → Option gS) (hK43 : ∀ (x4' : Int32) (z' : gS) (H : Heap) (locs : List Loc) (ls : Array Slot), K43 x4' z' = some res → va_P D vwCl (gw cA ad shX 315 z') H → va_S (gA ad 315) s.heap H locs → lv_has ls 8 [(0, .ref (ad p0)), (1, .ref (ad p1)), (2, .int x2), (3, .ref (ad x3)), (4, .int x4')] → W p l e (headSpec wsX6_settle (gRm 2 42)).room s m ([.ref (ad p0), .ref (ad p1), .int a2] : List Value).toArray below meth c H locs 0 0 (MQ below (va_Qv (fun u => u = res) (gPr D cA ad tw shX 315) (gA ad 315)) ([.ref (ad p0), .ref (ad p1), .int a2] : List Value).toArray s 0 0 (gA ad 315)) (F0 m 43 ls [])) (n : Nat) (x7 : Int32) (z : gS) (H : Heap) (locs : List Loc) (ls : Array Slot), f_X6_settle_86 p0 p1 x2 x3 x4 x5 x6 K43 n x7 z = some res → va_P D vwCl (gw cA ad shX 315 z) H → va_S (gA ad 315) s.heap H locs → lv_has ls 8 [(0, .ref (ad p0)), (1, .ref (ad p1)), (2, .int x2), (3, .ref (ad x3)), (4, .int x4), (5, .int x5), (6, .ref (ad x6)), (7, .int x7)] → W p l e (headSpec wsX6_settle (gRm 2 42)).room s m ([.ref (ad p0), .ref (ad p1), .int a2] : List Value).toArray below meth c H locs 0 0 (MQ below (va_Qv (fun u => u = res) (gPr D cA ad tw shX 315) (gA ad 315)) ([.ref (ad p0), .ref (ad p1), .int a2] : List Value).toArray s 0 0 (gA ad 315)) (F0 m 86 ls []) := by
    intro x2 x3 hx3 x4 x5 x6 hx6 K43 hK43 n
    induction n with
    | zero => intro x7 z H locs ls h; exact (gno h).elim
    | succ n hK86 =>
      intro x7 z H locs ls h hP hS hl
      replace h : f_X6_settle_86_b p0 p1 x2 x3 x4 x5 x6 K43 (f_X6_settle_86 p0 p1 x2 x3 x4 x5 x6 K43 n) x7 z = some res := h
      unfold f_X6_settle_86_b at h
      refine lv_iload hx hb dX6_settle_86 (lv_at hl 7 rfl) ?_
      refine lv_bipush (v := (nI 40)) hx hb dX6_settle_88 (by decide) ?_
      refine lv_icmp_gt (tgt := 114) hx hb dX6_settle_90 (by decide) (fun c13 => ?_) (fun c13 => ?_)
      · replace h := gif_t h c13
        refine lv_iinc (v := x4 + (nI 1)) (lv' := [(4, .int (x4 + (nI 1))), (0, .ref (ad p0)), (1, .ref (ad p1)), (2, .int x2), (3, .ref (ad x3)), (5, .int x5), (6, .ref (ad x6)), (7, .int x7)]) hx hb dX6_settle_114 hl (k := 4) rfl rfl (by decide) rfl (fun ls hl => ?_)
        refine lv_goto (tgt := 43) hx hb dX6_settle_117 (by decide) ?_
        exact hK43 (x4 + (nI 1)) z _ _ ls h hP hS (lv_sub hl [1, 2, 3, 4, 0] rfl)
      · replace h := gif_f h c13
        refine lv_aload_n hx hb dX6_settle_93 rfl (lv_at hl 3 rfl) ?_
        refine lv_iload hx hb dX6_settle_94 (lv_at hl 7 rfl) ?_
        refine lv_dup2_11 hx hb dX6_settle_96 rfl rfl ?_
        obtain ⟨h14, h⟩ := gg_s h
        refine fw_iald hx hb hK hP hx3.1 hx3.2 h14 dX6_settle_97 ?_
        refine lv_aload hx hb dX6_settle_98 (lv_at hl 6 rfl) ?_
        refine lv_iload hx hb dX6_settle_100 (lv_at hl 7 rfl) ?_
        refine lv_iload hx hb dX6_settle_102 (lv_at hl 5 rfl) ?_
        refine lv_isub hx hb dX6_settle_104 ?_
        obtain ⟨h15, h⟩ := gg_s h
        refine fw_iald hx hb hK hP hx6.1 hx6.2 h15 dX6_settle_105 ?_
        refine lv_iadd hx hb dX6_settle_106 ?_
        obtain ⟨h16, h⟩ := gg_s h
        refine fw_iast hx hb hK hG hP hS hx3.1 hx3.2 h16 dX6_settle_107 (fun z17 H locs ez17 hP hS => ?_)
        replace h := gl_s h ez17
        refine lv_iinc (v := x7 + (nI 1)) (lv' := [(7, .int (x7 + (nI 1))), (0, .ref (ad p0)), (1, .ref (ad p1)), (2, .int x2), (3, .ref (ad x3)), (4, .int x4), (5, .int x5), (6, .ref (ad x6))]) hx hb dX6_settle_108 hl (k := 7) rfl rfl (by decide) rfl (fun ls hl => ?_)
        refine lv_goto (tgt := 86) hx hb dX6_settle_111 (by decide) ?_
        exact hK86 (x7 + (nI 1)) z17 _ _ ls h hP hS (lv_sub hl [1, 2, 3, 4, 5, 6, 7, 0] rfl)
  have j43 : ∀ (x2 : Int32) (x3 : Nat) (hx3 : x3 < 315 ∧ shX x3 = .inr (0, 41, 0, 0)) (n : Nat) (x4 : Int32) (z : gS) (H : Heap) (locs : List Loc) (ls : Array Slot), f_X6_settle_43 p0 p1 x2 x3 n x4 z = some res → va_P D vwCl (gw cA ad shX 315 z) H → va_S (gA ad 315) s.heap H locs → lv_has ls 8 [(0, .ref (ad p0)), (1, .ref (ad p1)), (2, .int x2), (3, .ref (ad x3)), (4, .int x4)] → W p l e (headSpec wsX6_settle (gRm 2 42)).room s m ([.ref (ad p0), .ref (ad p1), .int a2] : List Value).toArray below meth c H locs 0 0 (MQ below (va_Qv (fun u => u = res) (gPr D cA ad tw shX 315) (gA ad 315)) ([.ref (ad p0), .ref (ad p1), .int a2] : List Value).toArray s 0 0 (gA ad 315)) (F0 m 43 ls []) := by
    intro x2 x3 hx3 n
    induction n with
    | zero => intro x4 z H locs ls h; exact (gno h).elim
    | succ n hK43 =>
      intro x4 z H locs ls h hP hS hl
      replace h : f_X6_settle_43_b p0 p1 x2 x3 (f_X6_settle_43 p0 p1 x2 x3 n) x4 z = some res := h
      unfold f_X6_settle_43_b at h
      refine lv_iload hx hb dX6_settle_43 (lv_at hl 4 rfl) ?_
      refine lv_bipush (v := (nI 7)) hx hb dX6_settle_45 (by decide) ?_
      refine lv_icmp_ge (tgt := 120) hx hb dX6_settle_47 (by decide) (fun c8 => ?_) (fun c8 => ?_)
      · replace h := gif_t h c8
        exact fw_vret hx hb hr hlocks (Option.some.inj h) hK hZ hP hS dX6_settle_120
      · replace h := gif_f h c8
        refine lv_aload_n hx hb dX6_settle_50 rfl (lv_at hl 1 rfl) ?_
        refine lv_iload_n hx hb dX6_settle_51 rfl (lv_at hl 2 rfl) ?_
        refine lv_iload hx hb dX6_settle_52 (lv_at hl 4 rfl) ?_
        obtain ⟨q9, hq9, h⟩ := gb_s h
        refine fw_viR (As := [.int x2, .int x4]) (rest := []) ⟨hx, hb, hml, hown, hts⟩ (k_X3_mayFollow l D cA ad tw hG z p1 (hp1) x2 x4 q9 hq9) (cwV 2 hts gX6_settle_X3_mayFollow rfl rfl rfl hdV_X3_mayFollow ⟨Nat.le_of_ble_eq_true rfl, Nat.le_of_ble_eq_true rfl⟩) (fw_preV hp1.1.1 hp1.1.2 rfl rfl hK hZ hP hS) rfl hl _ rfl (Nat.le_of_ble_eq_true rfl) hS dX6_settle_54 ⟨Nat.zero_le _, Nat.zero_le _⟩ (fun H locs hP hS => ?_)
        refine lv_if_eq (tgt := 114) hx hb dX6_settle_57 (by decide) (fun c10 => ?_) (fun c10 => ?_)
        · replace h := gif_t h c10
          refine lv_iinc (v := x4 + (nI 1)) (lv' := [(4, .int (x4 + (nI 1))), (0, .ref (ad p0)), (1, .ref (ad p1)), (2, .int x2), (3, .ref (ad x3))]) hx hb dX6_settle_114 hl (k := 4) rfl rfl (by decide) rfl (fun ls hl => ?_)
          refine lv_goto (tgt := 43) hx hb dX6_settle_117 (by decide) ?_
          exact hK43 (x4 + (nI 1)) z _ _ ls h hP hS (lv_sub hl [1, 2, 3, 4, 0] rfl)
        · replace h := gif_f h c10
          refine lv_aload_n hx hb dX6_settle_60 rfl (lv_at hl 1 rfl) ?_
          refine lv_iload_n hx hb dX6_settle_61 rfl (lv_at hl 2 rfl) ?_
          refine lv_iload hx hb dX6_settle_62 (lv_at hl 4 rfl) ?_
          obtain ⟨q11, hq11, h⟩ := gb_s h
          refine fw_viR (As := [.int x2, .int x4]) (rest := []) ⟨hx, hb, hml, hown, hts⟩ (k_X3_toll l D cA ad tw hG z p1 (hp1) x2 x4 q11 hq11) (cwV 2 hts gX6_settle_X3_toll rfl rfl rfl hdV_X3_toll ⟨Nat.le_of_ble_eq_true rfl, Nat.le_of_ble_eq_true rfl⟩) (fw_preV hp1.1.1 hp1.1.2 rfl rfl hK hZ hP hS) rfl hl _ rfl (Nat.le_of_ble_eq_true rfl) hS dX6_settle_64 ⟨Nat.zero_le _, Nat.zero_le _⟩ (fun H locs hP hS => ?_)
          refine lv_istore (lv' := [(5, .int q11), (0, .ref (ad p0)), (1, .ref (ad p1)), (2, .int x2), (3, .ref (ad x3)), (4, .int x4)]) hx hb dX6_settle_67 hl (by decide) rfl (fun ls hl => ?_)
          refine lv_aload_n hx hb dX6_settle_69 rfl (lv_at hl 1 rfl) ?_
          refine fw_getr hx hb hts in_X6_settle_X6 hown hK hP hp0.1.1 hp0.1.2 rfl 0 (by decide) rfl (hts _ (List.mem_of_getElem? (i := 1) rfl)) rfl dX6_settle_70 ?_
          refine lv_iload_n hx hb dX6_settle_73 rfl (lv_at hl 3 rfl) ?_
          refine lv_iconst (v := (nI 1)) hx hb dX6_settle_74 (by decide) ?_
          refine lv_iload hx hb dX6_settle_75 (lv_at hl 5 rfl) ?_
          refine lv_ishl hx hb dX6_settle_77 ?_
          refine lv_ior hx hb dX6_settle_78 ?_
          obtain ⟨h12, h⟩ := gg_s h
          refine fw_rald hx hb hK hP hp0.2.1.1 hp0.2.1.2 h12 dX6_settle_79 ?_
          refine lv_astore (lv' := [(6, .ref (ad (p0 + 2 + 1 * (x2 ||| ((nI 1) <<< (x4 &&& 31))).toNatClampNeg))), (5, .int q11), (0, .ref (ad p0)), (1, .ref (ad p1)), (2, .int x2), (3, .ref (ad x3)), (4, .int x4)]) hx hb dX6_settle_80 hl (by decide) rfl (fun ls hl => ?_)
          refine lv_iload hx hb dX6_settle_82 (lv_at hl 1 rfl) ?_
          refine lv_istore (lv' := [(7, .int q11), (6, .ref (ad (p0 + 2 + 1 * (x2 ||| ((nI 1) <<< (x4 &&& 31))).toNatClampNeg))), (5, .int q11), (0, .ref (ad p0)), (1, .ref (ad p1)), (2, .int x2), (3, .ref (ad x3)), (4, .int x4)]) hx hb dX6_settle_84 hl (by decide) rfl (fun ls hl => ?_)
          exact j86 x2 x3 (hx3) x4 q11 (p0 + 2 + 1 * (x2 ||| ((nI 1) <<< (x4 &&& 31))).toNatClampNeg) ((hp0.2.2 _ (gvl h12))) _ hK43 gF q11 z _ _ ls h hP hS (lv_sub hl [3, 4, 5, 6, 7, 2, 1, 0] rfl)
  have j10 : ∀ (x2 : Int32) (x3 : Nat) (hx3 : x3 < 315 ∧ shX x3 = .inr (0, 41, 0, 0)) (n : Nat) (x4 : Int32) (z : gS) (H : Heap) (locs : List Loc) (ls : Array Slot), f_X6_settle_10 p0 p1 x2 x3 n x4 z = some res → va_P D vwCl (gw cA ad shX 315 z) H → va_S (gA ad 315) s.heap H locs → lv_has ls 8 [(0, .ref (ad p0)), (1, .ref (ad p1)), (2, .int x2), (3, .ref (ad x3)), (4, .int x4)] → W p l e (headSpec wsX6_settle (gRm 2 42)).room s m ([.ref (ad p0), .ref (ad p1), .int a2] : List Value).toArray below meth c H locs 0 0 (MQ below (va_Qv (fun u => u = res) (gPr D cA ad tw shX 315) (gA ad 315)) ([.ref (ad p0), .ref (ad p1), .int a2] : List Value).toArray s 0 0 (gA ad 315)) (F0 m 10 ls []) := by
    intro x2 x3 hx3 n
    induction n with
    | zero => intro x4 z H locs ls h; exact (gno h).elim
    | succ n hK10 =>
      intro x4 z H locs ls h hP hS hl
      replace h : f_X6_settle_10_b p0 p1 x2 x3 (f_X6_settle_10 p0 p1 x2 x3 n) x4 z = some res := h
      unfold f_X6_settle_10_b at h
      refine lv_iload hx hb dX6_settle_10 (lv_at hl 4 rfl) ?_
      refine lv_bipush (v := (nI 40)) hx hb dX6_settle_12 (by decide) ?_
      refine lv_icmp_gt (tgt := 28) hx hb dX6_settle_14 (by decide) (fun c2 => ?_) (fun c2 => ?_)
      · replace h := gif_t h c2
        refine lv_iload_n hx hb dX6_settle_28 rfl (lv_at hl 2 rfl) ?_
        refine lv_aload_n hx hb dX6_settle_29 rfl (lv_at hl 1 rfl) ?_
        refine fw_geti hx hb hts in_X6_settle_X3 hown hK hP hp1.1.1 hp1.1.2 rfl 4 (by decide) rfl (hts _ (List.mem_of_getElem? (i := 2) rfl)) rfl dX6_settle_30 ?_
        refine lv_icmp_ne (tgt := 40) hx hb dX6_settle_33 (by decide) (fun c3 => ?_) (fun c3 => ?_)
        · replace h := gif_f h c3
          refine lv_iconst (v := (nI 0)) hx hb dX6_settle_40 (by decide) ?_
          refine lv_istore (lv' := [(4, .int (nI 0)), (0, .ref (ad p0)), (1, .ref (ad p1)), (2, .int x2), (3, .ref (ad x3))]) hx hb dX6_settle_41 hl (by decide) rfl (fun ls hl => ?_)
          exact j43 x2 x3 (hx3) gF (nI 0) z _ _ ls h hP hS (lv_sub hl [1, 2, 3, 4, 0] rfl)
        · replace h := gif_t h c3
          refine lv_aload_n hx hb dX6_settle_36 rfl (lv_at hl 3 rfl) ?_
          refine lv_iconst (v := (nI 0)) hx hb dX6_settle_37 (by decide) ?_
          refine lv_iconst (v := (nI 1)) hx hb dX6_settle_38 (by decide) ?_
          obtain ⟨h4, h⟩ := gg_s h
          refine fw_iast hx hb hK hG hP hS hx3.1 hx3.2 h4 dX6_settle_39 (fun z5 H locs ez5 hP hS => ?_)
          replace h := gl_s h ez5
          refine lv_iconst (v := (nI 0)) hx hb dX6_settle_40 (by decide) ?_
          refine lv_istore (lv' := [(4, .int (nI 0)), (0, .ref (ad p0)), (1, .ref (ad p1)), (2, .int x2), (3, .ref (ad x3))]) hx hb dX6_settle_41 hl (by decide) rfl (fun ls hl => ?_)
          exact j43 x2 x3 (hx3) gF (nI 0) z5 _ _ ls h hP hS (lv_sub hl [1, 2, 3, 4, 0] rfl)
      · replace h := gif_f h c2
        refine lv_aload_n hx hb dX6_settle_17 rfl (lv_at hl 3 rfl) ?_
        refine lv_iload hx hb dX6_settle_18 (lv_at hl 4 rfl) ?_
        refine lv_iconst (v := (nI 0)) hx hb dX6_settle_20 (by decide) ?_
        obtain ⟨h6, h⟩ := gg_s h
        refine fw_iast hx hb hK hG hP hS hx3.1 hx3.2 h6 dX6_settle_21 (fun z7 H locs ez7 hP hS => ?_)
        replace h := gl_s h ez7
        refine lv_iinc (v := x4 + (nI 1)) (lv' := [(4, .int (x4 + (nI 1))), (0, .ref (ad p0)), (1, .ref (ad p1)), (2, .int x2), (3, .ref (ad x3))]) hx hb dX6_settle_22 hl (k := 4) rfl rfl (by decide) rfl (fun ls hl => ?_)
        refine lv_goto (tgt := 10) hx hb dX6_settle_25 (by decide) ?_
        exact hK10 (x4 + (nI 1)) z7 _ _ ls h hP hS (lv_sub hl [1, 2, 3, 4, 0] rfl)
  unfold f_X6_settle at h
  refine lv_aload_n hx hb dX6_settle_0 rfl (lv_at hl 0 rfl) ?_
  refine fw_getr hx hb hts in_X6_settle_X6 hown hK hP hp0.1.1 hp0.1.2 rfl 0 (by decide) rfl (hts _ (List.mem_of_getElem? (i := 1) rfl)) rfl dX6_settle_1 ?_
  refine lv_iload_n hx hb dX6_settle_4 rfl (lv_at hl 2 rfl) ?_
  obtain ⟨h1, h⟩ := gg_s h
  refine fw_rald hx hb hK hP hp0.2.1.1 hp0.2.1.2 h1 dX6_settle_5 ?_
  refine lv_astore_n (lv' := [(3, .ref (ad (p0 + 2 + 1 * a2.toNatClampNeg))), (0, .ref (ad p0)), (1, .ref (ad p1)), (2, .int a2)]) hx hb dX6_settle_6 rfl hl (by decide) rfl (fun ls hl => ?_)
  refine lv_iconst (v := (nI 0)) hx hb dX6_settle_7 (by decide) ?_
  refine lv_istore (lv' := [(4, .int (nI 0)), (3, .ref (ad (p0 + 2 + 1 * a2.toNatClampNeg))), (0, .ref (ad p0)), (1, .ref (ad p1)), (2, .int a2)]) hx hb dX6_settle_8 hl (by decide) rfl (fun ls hl => ?_)
  exact j10 a2 (p0 + 2 + 1 * a2.toNatClampNeg) ((hp0.2.2 _ (gvl h1))) gF (nI 0) z _ _ ls h hP hS (lv_sub hl [2, 3, 4, 1, 0] rfl)
theorem in_X6_within_X3 : ∀ w ∈ wsX30, w ∈ wsX6_within := fun w h => List.mem_cons_of_mem _ (List.mem_append_left _ (List.mem_append_right _ (h)))
theorem in_X6_within_X6 : ∀ w ∈ wsX60, w ∈ wsX6_within := fun w h => List.mem_cons_of_mem _ (List.mem_append_right _ (h))
theorem hdV_X6_within : yX6_within.cls = RX6 ∧ yX6_within.cls ≠ "java/lang/invoke/MethodHandle" ∧ yX6_within.cls ≠ "java/lang/invoke/VarHandle" ∧ (parseMethodDescriptor yX6_within.desc).map (fun d => d.parameters.length) = some 2 := by decide +kernel
set_option maxHeartbeats 4000000 in
set_option maxRecDepth 100000 in
theorem k_X6_within (l : Launch) (D : va_G) (cA : Nat → ClassId) (ad : Nat → Nat) (tw : Nat) (hG : gOk ad 315) (z : gS) (p0 : Nat) (hp0 : gC6 p0) (p1 : Nat) (hp1 : gC3 p1) (a2 : Int32) (res : Int32 × gS) (h : f_X6_within p0 p1 a2 z = some res) : gMi l yX6_within wsX6_within (gRm 3 69) D cA ad tw shX 315 [.ref (ad p0), .ref (ad p1), .int a2] z res := by
  refine Met.ofW (cc := cX6_within) (maxL := 5) (ret := (some .int)) (by decide) rfl ?_
  intro p e s m args below meth c s₁ B hml hv
  obtain ⟨rfl, hP, hK, hZ⟩ := hv
  have hx := B.exec
  have hb := B.bytes
  have hr := B.returns
  have hts := atoms_spec (ws := wsX6_within) B.pre
  have hown : s.vm.findClass RX6 = some m.cls := findClass_of_methodNamed B.named
  have hlocks := B.notSynchronized
  have hS : va_S (gA ad 315) s.heap s.heap [] := va_S.rf
  have hl := lv_entry ([.ref (ad p0), .ref (ad p1), .int a2]) (n := 5) (Nat.le_of_ble_eq_true rfl)
  rw [lg_entry_eq]
  generalize (lg_sl ([.ref (ad p0), .ref (ad p1), .int a2]) ++ List.replicate (5 - (lg_sl ([.ref (ad p0), .ref (ad p1), .int a2])).length) Slot.unset).toArray = ls at hl ⊢
  have hl : lv_has ls 5 [(0, .ref (ad p0)), (1, .ref (ad p1)), (2, .int a2)] := hl
  have j26 : ∀ (z : gS) (x2 : Int32) (n : Nat) (x3 : Int32) (x4 : Int32) (H : Heap) (locs : List Loc) (ls : Array Slot), f_X6_within_26 p0 p1 z x2 n x3 x4 = some res → va_P D vwCl (gw cA ad shX 315 z) H → va_S (gA ad 315) s.heap H locs → lv_has ls 5 [(0, .ref (ad p0)), (2, .int x2), (3, .int x3), (4, .int x4)] → W p l e (headSpec wsX6_within (gRm 3 69)).room s m ([.ref (ad p0), .ref (ad p1), .int a2] : List Value).toArray below meth c H locs 0 0 (MQ below (va_Qi (fun r u => (r, u) = res) (gPr D cA ad tw shX 315) (gA ad 315)) ([.ref (ad p0), .ref (ad p1), .int a2] : List Value).toArray s 0 0 (gA ad 315)) (F0 m 26 ls []) := by
    intro z x2 n
    induction n with
    | zero => intro x3 x4 H locs ls h; exact (gno h).elim
    | succ n hK26 =>
      intro x3 x4 H locs ls h hP hS hl
      replace h : f_X6_within_26_b p0 p1 z x2 (f_X6_within_26 p0 p1 z x2 n) x3 x4 = some res := h
      unfold f_X6_within_26_b at h
      refine lv_iload hx hb dX6_within_26 (lv_at hl 3 rfl) ?_
      refine lv_bipush (v := (nI 40)) hx hb dX6_within_28 (by decide) ?_
      refine lv_icmp_gt (tgt := 57) hx hb dX6_within_30 (by decide) (fun c4 => ?_) (fun c4 => ?_)
      · replace h := gif_t h c4
        refine lv_iload_n hx hb dX6_within_57 rfl (lv_at hl 2 rfl) ?_
        exact fw_ireti hx hb hr hlocks (Option.some.inj h) hK hZ hP hS dX6_within_58
      · replace h := gif_f h c4
        refine lv_iload hx hb dX6_within_33 (lv_at hl 3 rfl) ?_
        refine lv_iload_n hx hb dX6_within_35 rfl (lv_at hl 1 rfl) ?_
        refine lv_icmp_gt (tgt := 57) hx hb dX6_within_36 (by decide) (fun c5 => ?_) (fun c5 => ?_)
        · replace h := gif_t h c5
          refine lv_iload_n hx hb dX6_within_57 rfl (lv_at hl 2 rfl) ?_
          exact fw_ireti hx hb hr hlocks (Option.some.inj h) hK hZ hP hS dX6_within_58
        · replace h := gif_f h c5
          refine lv_iload_n hx hb dX6_within_39 rfl (lv_at hl 2 rfl) ?_
          refine lv_aload_n hx hb dX6_within_40 rfl (lv_at hl 0 rfl) ?_
          refine fw_getr hx hb hts in_X6_within_X6 hown hK hP hp0.1.1 hp0.1.2 rfl 0 (by decide) rfl (hts _ (List.mem_of_getElem? (i := 2) rfl)) rfl dX6_within_41 ?_
          refine lv_iconst (v := (nI 0)) hx hb dX6_within_44 (by decide) ?_
          obtain ⟨h6, h⟩ := gg_s h
          refine fw_rald hx hb hK hP hp0.2.1.1 hp0.2.1.2 h6 dX6_within_45 ?_
          refine lv_iload hx hb dX6_within_46 (lv_at hl 3 rfl) ?_
          obtain ⟨h7, h⟩ := gg_s h
          refine fw_iald hx hb hK hP (hp0.2.2 _ (gvl h6)).1 (hp0.2.2 _ (gvl h6)).2 h7 dX6_within_48 ?_
          refine lv_iadd hx hb dX6_within_49 ?_
          refine lv_topi (fun y8 ey8 => ?_)
          replace h := gl_s h ey8
          refine lv_istore_n (lv' := [(3, .int y8), (0, .ref (ad p0)), (2, .int x2), (4, .int x4)]) hx hb dX6_within_50 rfl hl (by decide) rfl (fun ls hl => ?_)
          refine lv_iinc (v := x4 + (nI 1)) (lv' := [(4, .int (x4 + (nI 1))), (3, .int y8), (0, .ref (ad p0)), (2, .int x2)]) hx hb dX6_within_51 hl (k := 3) rfl rfl (by decide) rfl (fun ls hl => ?_)
          refine lv_goto (tgt := 26) hx hb dX6_within_54 (by decide) ?_
          exact hK26 y8 (x4 + (nI 1)) _ _ ls h hP hS (lv_sub hl [2, 3, 1, 0] rfl)
  have j5 : ∀ (x2 : Int32) (n : Nat) (x3 : Int32) (z : gS) (H : Heap) (locs : List Loc) (ls : Array Slot), f_X6_within_5 p0 p1 x2 n x3 z = some res → va_P D vwCl (gw cA ad shX 315 z) H → va_S (gA ad 315) s.heap H locs → lv_has ls 5 [(0, .ref (ad p0)), (1, .ref (ad p1)), (2, .int x2), (3, .int x3)] → W p l e (headSpec wsX6_within (gRm 3 69)).room s m ([.ref (ad p0), .ref (ad p1), .int a2] : List Value).toArray below meth c H locs 0 0 (MQ below (va_Qi (fun r u => (r, u) = res) (gPr D cA ad tw shX 315) (gA ad 315)) ([.ref (ad p0), .ref (ad p1), .int a2] : List Value).toArray s 0 0 (gA ad 315)) (F0 m 5 ls []) := by
    intro x2 n
    induction n with
    | zero => intro x3 z H locs ls h; exact (gno h).elim
    | succ n hK5 =>
      intro x3 z H locs ls h hP hS hl
      replace h : f_X6_within_5_b p0 p1 x2 (f_X6_within_5 p0 p1 x2 n) x3 z = some res := h
      unfold f_X6_within_5_b at h
      refine lv_iload_n hx hb dX6_within_5 rfl (lv_at hl 3 rfl) ?_
      refine lv_if_lt (tgt := 21) hx hb dX6_within_6 (by decide) (fun c2 => ?_) (fun c2 => ?_)
      · replace h := gif_t h c2
        refine lv_iconst (v := (nI 0)) hx hb dX6_within_21 (by decide) ?_
        refine lv_istore_n (lv' := [(3, .int (nI 0)), (0, .ref (ad p0)), (1, .ref (ad p1)), (2, .int x2)]) hx hb dX6_within_22 rfl hl (by decide) rfl (fun ls hl => ?_)
        refine lv_iconst (v := (nI 0)) hx hb dX6_within_23 (by decide) ?_
        refine lv_istore (lv' := [(4, .int (nI 0)), (3, .int (nI 0)), (0, .ref (ad p0)), (1, .ref (ad p1)), (2, .int x2)]) hx hb dX6_within_24 hl (by decide) rfl (fun ls hl => ?_)
        exact j26 z x2 gF (nI 0) (nI 0) _ _ ls h hP hS (lv_sub hl [2, 4, 1, 0] rfl)
      · replace h := gif_f h c2
        refine lv_aload_n hx hb dX6_within_9 rfl (lv_at hl 0 rfl) ?_
        refine lv_aload_n hx hb dX6_within_10 rfl (lv_at hl 1 rfl) ?_
        refine lv_iload_n hx hb dX6_within_11 rfl (lv_at hl 3 rfl) ?_
        obtain ⟨q3, hq3, h⟩ := gb_s h
        refine fw_vv (As := [.ref (ad p1), .int x3]) (rest := []) ⟨hx, hb, hml, hown, hts⟩ (k_X6_settle l D cA ad tw hG z p0 (hp0) p1 (hp1) x3 q3 hq3) (cwV 2 hts gX6_within_X6_settle rfl rfl rfl hdV_X6_settle ⟨Nat.le_of_ble_eq_true rfl, Nat.le_of_ble_eq_true rfl⟩) (fw_preV hp0.1.1 hp0.1.2 rfl rfl hK hZ hP hS) rfl hl _ rfl (Nat.le_of_ble_eq_true rfl) hS dX6_within_12 ⟨Nat.zero_le _, Nat.zero_le _⟩ (fun H locs hP hS => ?_)
        refine lv_iinc (v := x3 + gm1) (lv' := [(3, .int (x3 + gm1)), (0, .ref (ad p0)), (1, .ref (ad p1)), (2, .int x2)]) hx hb dX6_within_15 hl (k := 3) rfl rfl (by decide) rfl (fun ls hl => ?_)
        refine lv_goto (tgt := 5) hx hb dX6_within_18 (by decide) ?_
        exact hK5 (x3 + gm1) q3 _ _ ls h hP hS (lv_sub hl [1, 2, 3, 0] rfl)
  unfold f_X6_within at h
  refine lv_aload_n hx hb dX6_within_0 rfl (lv_at hl 1 rfl) ?_
  refine fw_geti hx hb hts in_X6_within_X3 hown hK hP hp1.1.1 hp1.1.2 rfl 4 (by decide) rfl (hts _ (List.mem_of_getElem? (i := 1) rfl)) rfl dX6_within_1 ?_
  refine lv_topi (fun y1 ey1 => ?_)
  replace h := gl_s h ey1
  refine lv_istore_n (lv' := [(3, .int y1), (0, .ref (ad p0)), (1, .ref (ad p1)), (2, .int a2)]) hx hb dX6_within_4 rfl hl (by decide) rfl (fun ls hl => ?_)
  exact j5 a2 gF y1 z _ _ ls h hP hS (lv_sub hl [1, 2, 3, 0] rfl)
theorem in_X9_partPassed_X9 : ∀ w ∈ wsX90, w ∈ wsX9_partPassed := fun w h => List.mem_cons_of_mem _ (List.mem_append_right _ (h))
theorem hdV_X9_partPassed : yX9_partPassed.cls = RX9 ∧ yX9_partPassed.cls ≠ "java/lang/invoke/MethodHandle" ∧ yX9_partPassed.cls ≠ "java/lang/invoke/VarHandle" ∧ (parseMethodDescriptor yX9_partPassed.desc).map (fun d => d.parameters.length) = some 2 := by decide +kernel
set_option maxHeartbeats 4000000 in
set_option maxRecDepth 100000 in
theorem k_X9_partPassed (l : Launch) (D : va_G) (cA : Nat → ClassId) (ad : Nat → Nat) (tw : Nat) (hG : gOk ad 315) (z : gS) (p0 : Nat) (hp0 : gC9 p0) (a1 : Int32) (a2 : Int32) (res : gS) (h : f_X9_partPassed p0 a1 a2 z = some res) : gMv l yX9_partPassed wsX9_partPassed (gRm 0 0) D cA ad tw shX 315 [.ref (ad p0), .int a1, .int a2] z res := by
  refine Met.ofW (cc := cX9_partPassed) (maxL := 5) (ret := none) (by decide) rfl ?_
  intro p e s m args below meth c s₁ B hml hv
  obtain ⟨rfl, hP, hK, hZ⟩ := hv
  have hx := B.exec
  have hb := B.bytes
  have hr := B.returns
  have hts := atoms_spec (ws := wsX9_partPassed) B.pre
  have hown : s.vm.findClass RX9 = some m.cls := findClass_of_methodNamed B.named
  have hlocks := B.notSynchronized
  have hS : va_S (gA ad 315) s.heap s.heap [] := va_S.rf
  have hl := lv_entry ([.ref (ad p0), .int a1, .int a2]) (n := 5) (Nat.le_of_ble_eq_true rfl)
  rw [lg_entry_eq]
  generalize (lg_sl ([.ref (ad p0), .int a1, .int a2]) ++ List.replicate (5 - (lg_sl ([.ref (ad p0), .int a1, .int a2])).length) Slot.unset).toArray = ls at hl ⊢
  have hl : lv_has ls 5 [(0, .ref (ad p0)), (1, .int a1), (2, .int a2)] := hl
  have j16 : ∀ (x1 : Int32) (x2 : Int32) (x3 : Int32) (n : Nat) (x4 : Int32) (z : gS) (H : Heap) (locs : List Loc) (ls : Array Slot), f_X9_partPassed_16 p0 x1 x2 x3 n x4 z = some res → va_P D vwCl (gw cA ad shX 315 z) H → va_S (gA ad 315) s.heap H locs → lv_has ls 5 [(0, .ref (ad p0)), (1, .int x1), (2, .int x2), (3, .int x3), (4, .int x4)] → W p l e (headSpec wsX9_partPassed (gRm 0 0)).room s m ([.ref (ad p0), .int a1, .int a2] : List Value).toArray below meth c H locs 0 0 (MQ below (va_Qv (fun u => u = res) (gPr D cA ad tw shX 315) (gA ad 315)) ([.ref (ad p0), .int a1, .int a2] : List Value).toArray s 0 0 (gA ad 315)) (F0 m 16 ls []) := by
    intro x1 x2 x3 n
    induction n with
    | zero => intro x4 z H locs ls h; exact (gno h).elim
    | succ n hK16 =>
      intro x4 z H locs ls h hP hS hl
      replace h : f_X9_partPassed_16_b p0 x1 x2 x3 (f_X9_partPassed_16 p0 x1 x2 x3 n) x4 z = some res := h
      unfold f_X9_partPassed_16_b at h
      refine lv_iload hx hb dX9_partPassed_16 (lv_at hl 4 rfl) ?_
      refine lv_aload_n hx hb dX9_partPassed_18 rfl (lv_at hl 0 rfl) ?_
      refine fw_geti hx hb hts in_X9_partPassed_X9 hown hK hP hp0.1.1 hp0.1.2 rfl 2 (by decide) rfl (hts _ (List.mem_of_getElem? (i := 1) rfl)) rfl dX9_partPassed_19 ?_
      refine lv_icmp_gt (tgt := 60) hx hb dX9_partPassed_22 (by decide) (fun c2 => ?_) (fun c2 => ?_)
      · replace h := gif_t h c2
        exact fw_vret hx hb hr hlocks (Option.some.inj h) hK hZ hP hS dX9_partPassed_60
      · replace h := gif_f h c2
        refine lv_iload hx hb dX9_partPassed_25 (lv_at hl 4 rfl) ?_
        refine lv_iload_n hx hb dX9_partPassed_27 rfl (lv_at hl 2 rfl) ?_
        refine lv_iand hx hb dX9_partPassed_28 ?_
        refine lv_if_ne (tgt := 54) hx hb dX9_partPassed_29 (by decide) (fun c3 => ?_) (fun c3 => ?_)
        · replace h := gif_f h c3
          refine lv_iinc (v := x4 + (nI 1)) (lv' := [(4, .int (x4 + (nI 1))), (0, .ref (ad p0)), (1, .int x1), (2, .int x2), (3, .int x3)]) hx hb dX9_partPassed_54 hl (k := 4) rfl rfl (by decide) rfl (fun ls hl => ?_)
          refine lv_goto (tgt := 16) hx hb dX9_partPassed_57 (by decide) ?_
          exact hK16 (x4 + (nI 1)) z _ _ ls h hP hS (lv_sub hl [1, 2, 3, 4, 0] rfl)
        · replace h := gif_t h c3
          refine lv_iload hx hb dX9_partPassed_32 (lv_at hl 4 rfl) ?_
          refine lv_iload_n hx hb dX9_partPassed_34 rfl (lv_at hl 1 rfl) ?_
          refine lv_iand hx hb dX9_partPassed_35 ?_
          refine lv_if_eq (tgt := 54) hx hb dX9_partPassed_36 (by decide) (fun c4 => ?_) (fun c4 => ?_)
          · replace h := gif_t h c4
            refine lv_iinc (v := x4 + (nI 1)) (lv' := [(4, .int (x4 + (nI 1))), (0, .ref (ad p0)), (1, .int x1), (2, .int x2), (3, .int x3)]) hx hb dX9_partPassed_54 hl (k := 4) rfl rfl (by decide) rfl (fun ls hl => ?_)
            refine lv_goto (tgt := 16) hx hb dX9_partPassed_57 (by decide) ?_
            exact hK16 (x4 + (nI 1)) z _ _ ls h hP hS (lv_sub hl [1, 2, 3, 4, 0] rfl)
          · replace h := gif_f h c4
            refine lv_iload hx hb dX9_partPassed_39 (lv_at hl 4 rfl) ?_
            refine lv_iload_n hx hb dX9_partPassed_41 rfl (lv_at hl 3 rfl) ?_
            refine lv_iand hx hb dX9_partPassed_42 ?_
            refine lv_if_eq (tgt := 54) hx hb dX9_partPassed_43 (by decide) (fun c5 => ?_) (fun c5 => ?_)
            · replace h := gif_t h c5
              refine lv_iinc (v := x4 + (nI 1)) (lv' := [(4, .int (x4 + (nI 1))), (0, .ref (ad p0)), (1, .int x1), (2, .int x2), (3, .int x3)]) hx hb dX9_partPassed_54 hl (k := 4) rfl rfl (by decide) rfl (fun ls hl => ?_)
              refine lv_goto (tgt := 16) hx hb dX9_partPassed_57 (by decide) ?_
              exact hK16 (x4 + (nI 1)) z _ _ ls h hP hS (lv_sub hl [1, 2, 3, 4, 0] rfl)
            · replace h := gif_f h c5
              refine lv_aload_n hx hb dX9_partPassed_46 rfl (lv_at hl 0 rfl) ?_
              refine fw_getr hx hb hts in_X9_partPassed_X9 hown hK hP hp0.1.1 hp0.1.2 rfl 0 (by decide) rfl (hts _ (List.mem_of_getElem? (i := 2) rfl)) rfl dX9_partPassed_47 ?_
              refine lv_iload hx hb dX9_partPassed_50 (lv_at hl 4 rfl) ?_
              refine lv_iconst (v := (nI 0)) hx hb dX9_partPassed_52 (by decide) ?_
              obtain ⟨h6, h⟩ := gg_s h
              refine fw_zast hx hb hK hG hP hS hp0.2.1.1 hp0.2.1.2 (by decide) h6 dX9_partPassed_53 (fun z7 H locs ez7 hP hS => ?_)
              replace h := gl_s h ez7
              refine lv_iinc (v := x4 + (nI 1)) (lv' := [(4, .int (x4 + (nI 1))), (0, .ref (ad p0)), (1, .int x1), (2, .int x2), (3, .int x3)]) hx hb dX9_partPassed_54 hl (k := 4) rfl rfl (by decide) rfl (fun ls hl => ?_)
              refine lv_goto (tgt := 16) hx hb dX9_partPassed_57 (by decide) ?_
              exact hK16 (x4 + (nI 1)) z7 _ _ ls h hP hS (lv_sub hl [1, 2, 3, 4, 0] rfl)
  unfold f_X9_partPassed at h
  refine lv_aload_n hx hb dX9_partPassed_0 rfl (lv_at hl 0 rfl) ?_
  refine fw_geti hx hb hts in_X9_partPassed_X9 hown hK hP hp0.1.1 hp0.1.2 rfl 2 (by decide) rfl (hts _ (List.mem_of_getElem? (i := 1) rfl)) rfl dX9_partPassed_1 ?_
  refine lv_iload_n hx hb dX9_partPassed_4 rfl (lv_at hl 1 rfl) ?_
  refine lv_iconst (v := gm1) hx hb dX9_partPassed_5 (by decide) ?_
  refine lv_ixor hx hb dX9_partPassed_6 ?_
  refine lv_iand hx hb dX9_partPassed_7 ?_
  refine lv_iload_n hx hb dX9_partPassed_8 rfl (lv_at hl 2 rfl) ?_
  refine lv_iconst (v := gm1) hx hb dX9_partPassed_9 (by decide) ?_
  refine lv_ixor hx hb dX9_partPassed_10 ?_
  refine lv_iand hx hb dX9_partPassed_11 ?_
  refine lv_topi (fun y1 ey1 => ?_)
  replace h := gl_s h ey1
  refine lv_istore_n (lv' := [(3, .int y1), (0, .ref (ad p0)), (1, .int a1), (2, .int a2)]) hx hb dX9_partPassed_12 rfl hl (by decide) rfl (fun ls hl => ?_)
  refine lv_iconst (v := (nI 1)) hx hb dX9_partPassed_13 (by decide) ?_
  refine lv_istore (lv' := [(4, .int (nI 1)), (3, .int y1), (0, .ref (ad p0)), (1, .int a1), (2, .int a2)]) hx hb dX9_partPassed_14 hl (by decide) rfl (fun ls hl => ?_)
  exact j16 a1 a2 y1 gF (nI 1) z _ _ ls h hP hS (lv_sub hl [2, 3, 4, 1, 0] rfl)
theorem in_X9_findClusters_X9 : ∀ w ∈ wsX90, w ∈ wsX9_findClusters := fun w h => List.mem_cons_of_mem _ (List.mem_append_left _ (List.mem_append_right _ (h)))
theorem hdV_X9_findClusters : yX9_findClusters.cls = RX9 ∧ yX9_findClusters.cls ≠ "java/lang/invoke/MethodHandle" ∧ yX9_findClusters.cls ≠ "java/lang/invoke/VarHandle" ∧ (parseMethodDescriptor yX9_findClusters.desc).map (fun d => d.parameters.length) = some 1 := by decide +kernel
set_option maxHeartbeats 4000000 in
set_option maxRecDepth 100000 in
theorem k_X9_findClusters (l : Launch) (D : va_G) (cA : Nat → ClassId) (ad : Nat → Nat) (tw : Nat) (hG : gOk ad 315) (z : gS) (p0 : Nat) (hp0 : gC9 p0) (p1 : Nat) (hp1 : gC3 p1) (res : gS) (h : f_X9_findClusters p0 p1 z = some res) : gMv l yX9_findClusters wsX9_findClusters (gRm 3 64) D cA ad tw shX 315 [.ref (ad p0), .ref (ad p1)] z res := by
  refine Met.ofW (cc := cX9_findClusters) (maxL := 4) (ret := none) (by decide) rfl ?_
  intro p e s m args below meth c s₁ B hml hv
  obtain ⟨rfl, hP, hK, hZ⟩ := hv
  have hx := B.exec
  have hb := B.bytes
  have hr := B.returns
  have hts := atoms_spec (ws := wsX9_findClusters) B.pre
  have hown : s.vm.findClass RX9 = some m.cls := findClass_of_methodNamed B.named
  have hlocks := B.notSynchronized
  have hS : va_S (gA ad 315) s.heap s.heap [] := va_S.rf
  have hl := lv_entry ([.ref (ad p0), .ref (ad p1)]) (n := 4) (Nat.le_of_ble_eq_true rfl)
  rw [lg_entry_eq]
  generalize (lg_sl ([.ref (ad p0), .ref (ad p1)]) ++ List.replicate (4 - (lg_sl ([.ref (ad p0), .ref (ad p1)])).length) Slot.unset).toArray = ls at hl ⊢
  have hl : lv_has ls 4 [(0, .ref (ad p0)), (1, .ref (ad p1))] := hl
  have j58 : ∀ (x2 : Int32) (K48 : Int32 → gS → Option gS) (hK48 : ∀ (x2' : Int32) (z' : gS) (H : Heap) (locs : List Loc) (ls : Array Slot), K48 x2' z' = some res → va_P D vwCl (gw cA ad shX 315 z') H → va_S (gA ad 315) s.heap H locs → lv_has ls 4 [(0, .ref (ad p0)), (1, .ref (ad p1)), (2, .int x2')] → W p l e (headSpec wsX9_findClusters (gRm 3 64)).room s m ([.ref (ad p0), .ref (ad p1)] : List Value).toArray below meth c H locs 0 0 (MQ below (va_Qv (fun u => u = res) (gPr D cA ad tw shX 315) (gA ad 315)) ([.ref (ad p0), .ref (ad p1)] : List Value).toArray s 0 0 (gA ad 315)) (F0 m 48 ls [])) (n : Nat) (x3 : Int32) (z : gS) (H : Heap) (locs : List Loc) (ls : Array Slot), f_X9_findClusters_58 p0 p1 x2 K48 n x3 z = some res → va_P D vwCl (gw cA ad shX 315 z) H → va_S (gA ad 315) s.heap H locs → lv_has ls 4 [(0, .ref (ad p0)), (1, .ref (ad p1)), (2, .int x2), (3, .int x3)] → W p l e (headSpec wsX9_findClusters (gRm 3 64)).room s m ([.ref (ad p0), .ref (ad p1)] : List Value).toArray below meth c H locs 0 0 (MQ below (va_Qv (fun u => u = res) (gPr D cA ad tw shX 315) (gA ad 315)) ([.ref (ad p0), .ref (ad p1)] : List Value).toArray s 0 0 (gA ad 315)) (F0 m 58 ls []) := by
    intro x2 K48 hK48 n
    induction n with
    | zero => intro x3 z H locs ls h; exact (gno h).elim
    | succ n hK58 =>
      intro x3 z H locs ls h hP hS hl
      replace h : f_X9_findClusters_58_b p0 p1 x2 K48 (f_X9_findClusters_58 p0 p1 x2 K48 n) x3 z = some res := h
      unfold f_X9_findClusters_58_b at h
      refine lv_iload_n hx hb dX9_findClusters_58 rfl (lv_at hl 3 rfl) ?_
      refine lv_bipush (v := (nI 7)) hx hb dX9_findClusters_59 (by decide) ?_
      refine lv_icmp_ge (tgt := 107) hx hb dX9_findClusters_61 (by decide) (fun c23 => ?_) (fun c23 => ?_)
      · replace h := gif_t h c23
        refine lv_iinc (v := x2 + (nI 1)) (lv' := [(2, .int (x2 + (nI 1))), (0, .ref (ad p0)), (1, .ref (ad p1)), (3, .int x3)]) hx hb dX9_findClusters_107 hl (k := 2) rfl rfl (by decide) rfl (fun ls hl => ?_)
        refine lv_goto (tgt := 48) hx hb dX9_findClusters_110 (by decide) ?_
        exact hK48 (x2 + (nI 1)) z _ _ ls h hP hS (lv_sub hl [1, 2, 0] rfl)
      · replace h := gif_f h c23
        refine lv_aload_n hx hb dX9_findClusters_64 rfl (lv_at hl 0 rfl) ?_
        refine fw_getr hx hb hts in_X9_findClusters_X9 hown hK hP hp0.1.1 hp0.1.2 rfl 1 (by decide) rfl (hts _ (List.mem_of_getElem? (i := 3) rfl)) rfl dX9_findClusters_65 ?_
        refine lv_iload_n hx hb dX9_findClusters_68 rfl (lv_at hl 2 rfl) ?_
        obtain ⟨h24, h⟩ := gg_s h
        refine fw_zald hx hb hK hP hp0.2.2.1.1 hp0.2.2.1.2 h24 dX9_findClusters_69 ?_
        refine lv_if_eq (tgt := 101) hx hb dX9_findClusters_70 (by decide) (fun c25 => ?_) (fun c25 => ?_)
        · replace h := gif_t h c25
          refine lv_iinc (v := x3 + (nI 1)) (lv' := [(3, .int (x3 + (nI 1))), (0, .ref (ad p0)), (1, .ref (ad p1)), (2, .int x2)]) hx hb dX9_findClusters_101 hl (k := 3) rfl rfl (by decide) rfl (fun ls hl => ?_)
          refine lv_goto (tgt := 58) hx hb dX9_findClusters_104 (by decide) ?_
          exact hK58 (x3 + (nI 1)) z _ _ ls h hP hS (lv_sub hl [1, 2, 3, 0] rfl)
        · replace h := gif_f h c25
          refine lv_aload_n hx hb dX9_findClusters_73 rfl (lv_at hl 1 rfl) ?_
          refine lv_iload_n hx hb dX9_findClusters_74 rfl (lv_at hl 2 rfl) ?_
          refine lv_iload_n hx hb dX9_findClusters_75 rfl (lv_at hl 3 rfl) ?_
          obtain ⟨q26, hq26, h⟩ := gb_s h
          refine fw_viR (As := [.int x2, .int x3]) (rest := []) ⟨hx, hb, hml, hown, hts⟩ (k_X3_isBest l D cA ad tw hG z p1 (hp1) x2 x3 q26 hq26) (cwV 2 hts gX9_findClusters_X3_isBest rfl rfl rfl hdV_X3_isBest ⟨Nat.le_of_ble_eq_true rfl, Nat.le_of_ble_eq_true rfl⟩) (fw_preV hp1.1.1 hp1.1.2 rfl rfl hK hZ hP hS) rfl hl _ rfl (Nat.le_of_ble_eq_true rfl) hS dX9_findClusters_76 ⟨Nat.zero_le _, Nat.zero_le _⟩ (fun H locs hP hS => ?_)
          refine lv_if_eq (tgt := 101) hx hb dX9_findClusters_79 (by decide) (fun c27 => ?_) (fun c27 => ?_)
          · replace h := gif_t h c27
            refine lv_iinc (v := x3 + (nI 1)) (lv' := [(3, .int (x3 + (nI 1))), (0, .ref (ad p0)), (1, .ref (ad p1)), (2, .int x2)]) hx hb dX9_findClusters_101 hl (k := 3) rfl rfl (by decide) rfl (fun ls hl => ?_)
            refine lv_goto (tgt := 58) hx hb dX9_findClusters_104 (by decide) ?_
            exact hK58 (x3 + (nI 1)) z _ _ ls h hP hS (lv_sub hl [1, 2, 3, 0] rfl)
          · replace h := gif_f h c27
            refine lv_aload_n hx hb dX9_findClusters_82 rfl (lv_at hl 0 rfl) ?_
            refine fw_getr hx hb hts in_X9_findClusters_X9 hown hK hP hp0.1.1 hp0.1.2 rfl 1 (by decide) rfl (hts _ (List.mem_of_getElem? (i := 3) rfl)) rfl dX9_findClusters_83 ?_
            refine lv_iload_n hx hb dX9_findClusters_86 rfl (lv_at hl 2 rfl) ?_
            refine lv_iconst (v := (nI 1)) hx hb dX9_findClusters_87 (by decide) ?_
            refine lv_iload_n hx hb dX9_findClusters_88 rfl (lv_at hl 3 rfl) ?_
            refine lv_ishl hx hb dX9_findClusters_89 ?_
            refine lv_ior hx hb dX9_findClusters_90 ?_
            refine lv_iconst (v := (nI 1)) hx hb dX9_findClusters_91 (by decide) ?_
            obtain ⟨h28, h⟩ := gg_s h
            refine fw_zast hx hb hK hG hP hS hp0.2.2.1.1 hp0.2.2.1.2 (by decide) h28 dX9_findClusters_92 (fun z29 H locs ez29 hP hS => ?_)
            replace h := gl_s h ez29
            refine lv_aload_n hx hb dX9_findClusters_93 rfl (lv_at hl 0 rfl) ?_
            refine lv_iload_n hx hb dX9_findClusters_94 rfl (lv_at hl 2 rfl) ?_
            refine lv_iconst (v := (nI 1)) hx hb dX9_findClusters_95 (by decide) ?_
            refine lv_iload_n hx hb dX9_findClusters_96 rfl (lv_at hl 3 rfl) ?_
            refine lv_ishl hx hb dX9_findClusters_97 ?_
            obtain ⟨q30, hq30, h⟩ := gb_s h
            refine fw_vv (As := [.int x2, .int ((nI 1) <<< (x3 &&& 31))]) (rest := []) ⟨hx, hb, hml, hown, hts⟩ (k_X9_partPassed l D cA ad tw hG z29 p0 (hp0) x2 ((nI 1) <<< (x3 &&& 31)) q30 hq30) (cwV 2 hts gX9_findClusters_X9_partPassed rfl rfl rfl hdV_X9_partPassed ⟨Nat.le_of_ble_eq_true rfl, Nat.le_of_ble_eq_true rfl⟩) (fw_preV hp0.1.1 hp0.1.2 rfl rfl hK hZ hP hS) rfl hl _ rfl (Nat.le_of_ble_eq_true rfl) hS dX9_findClusters_98 ⟨Nat.zero_le _, Nat.zero_le _⟩ (fun H locs hP hS => ?_)
            refine lv_iinc (v := x3 + (nI 1)) (lv' := [(3, .int (x3 + (nI 1))), (0, .ref (ad p0)), (1, .ref (ad p1)), (2, .int x2)]) hx hb dX9_findClusters_101 hl (k := 3) rfl rfl (by decide) rfl (fun ls hl => ?_)
            refine lv_goto (tgt := 58) hx hb dX9_findClusters_104 (by decide) ?_
            exact hK58 (x3 + (nI 1)) q30 _ _ ls h hP hS (lv_sub hl [1, 2, 3, 0] rfl)
  have j120 : ∀  (n : Nat) (x2 : Int32) (z : gS) (H : Heap) (locs : List Loc) (ls : Array Slot), f_X9_findClusters_120 p0 p1 n x2 z = some res → va_P D vwCl (gw cA ad shX 315 z) H → va_S (gA ad 315) s.heap H locs → lv_has ls 4 [(0, .ref (ad p0)), (2, .int x2)] → W p l e (headSpec wsX9_findClusters (gRm 3 64)).room s m ([.ref (ad p0), .ref (ad p1)] : List Value).toArray below meth c H locs 0 0 (MQ below (va_Qv (fun u => u = res) (gPr D cA ad tw shX 315) (gA ad 315)) ([.ref (ad p0), .ref (ad p1)] : List Value).toArray s 0 0 (gA ad 315)) (F0 m 120 ls []) := by
    intro n
    induction n with
    | zero => intro x2 z H locs ls h; exact (gno h).elim
    | succ n hK120 =>
      intro x2 z H locs ls h hP hS hl
      replace h : f_X9_findClusters_120_b p0 p1 (f_X9_findClusters_120 p0 p1 n) x2 z = some res := h
      unfold f_X9_findClusters_120_b at h
      refine lv_iload_n hx hb dX9_findClusters_120 rfl (lv_at hl 1 rfl) ?_
      refine lv_aload_n hx hb dX9_findClusters_121 rfl (lv_at hl 0 rfl) ?_
      refine fw_geti hx hb hts in_X9_findClusters_X9 hown hK hP hp0.1.1 hp0.1.2 rfl 2 (by decide) rfl (hts _ (List.mem_of_getElem? (i := 1) rfl)) rfl dX9_findClusters_122 ?_
      refine lv_icmp_gt (tgt := 153) hx hb dX9_findClusters_125 (by decide) (fun c19 => ?_) (fun c19 => ?_)
      · replace h := gif_t h c19
        exact fw_vret hx hb hr hlocks (Option.some.inj h) hK hZ hP hS dX9_findClusters_153
      · replace h := gif_f h c19
        refine lv_aload_n hx hb dX9_findClusters_128 rfl (lv_at hl 0 rfl) ?_
        refine fw_getr hx hb hts in_X9_findClusters_X9 hown hK hP hp0.1.1 hp0.1.2 rfl 0 (by decide) rfl (hts _ (List.mem_of_getElem? (i := 2) rfl)) rfl dX9_findClusters_129 ?_
        refine lv_iload_n hx hb dX9_findClusters_132 rfl (lv_at hl 1 rfl) ?_
        obtain ⟨h20, h⟩ := gg_s h
        refine fw_zald hx hb hK hP hp0.2.1.1 hp0.2.1.2 h20 dX9_findClusters_133 ?_
        refine lv_if_eq (tgt := 147) hx hb dX9_findClusters_134 (by decide) (fun c21 => ?_) (fun c21 => ?_)
        · replace h := gif_t h c21
          refine lv_iinc (v := x2 + (nI 1)) (lv' := [(2, .int (x2 + (nI 1))), (0, .ref (ad p0))]) hx hb dX9_findClusters_147 hl (k := 1) rfl rfl (by decide) rfl (fun ls hl => ?_)
          refine lv_goto (tgt := 120) hx hb dX9_findClusters_150 (by decide) ?_
          exact hK120 (x2 + (nI 1)) z _ _ ls h hP hS (lv_sub hl [1, 0] rfl)
        · replace h := gif_f h c21
          refine lv_aload_n hx hb dX9_findClusters_137 rfl (lv_at hl 0 rfl) ?_
          refine lv_dup hx hb dX9_findClusters_138 rfl ?_
          refine fw_geti hx hb hts in_X9_findClusters_X9 hown hK hP hp0.1.1 hp0.1.2 rfl 3 (by decide) rfl (hts _ (List.mem_of_getElem? (i := 4) rfl)) rfl dX9_findClusters_139 ?_
          refine lv_iconst (v := (nI 1)) hx hb dX9_findClusters_142 (by decide) ?_
          refine lv_iadd hx hb dX9_findClusters_143 ?_
          refine fw_put hx hb hts in_X9_findClusters_X9 tyX9_ok nmX9 hown hK hG hP hS hp0.1.1 hp0.1.2 rfl 3 (by decide) rfl (hts _ (List.mem_of_getElem? (i := 4) rfl)) rfl rfl (ty := .int) rfl rfl rfl dX9_findClusters_144 (fun z22 H locs ez22 hP hS => ?_)
          replace h := gl_s h ez22
          refine lv_iinc (v := x2 + (nI 1)) (lv' := [(2, .int (x2 + (nI 1))), (0, .ref (ad p0))]) hx hb dX9_findClusters_147 hl (k := 1) rfl rfl (by decide) rfl (fun ls hl => ?_)
          refine lv_goto (tgt := 120) hx hb dX9_findClusters_150 (by decide) ?_
          exact hK120 (x2 + (nI 1)) z22 _ _ ls h hP hS (lv_sub hl [1, 0] rfl)
  have j48 : ∀  (n : Nat) (x2 : Int32) (z : gS) (H : Heap) (locs : List Loc) (ls : Array Slot), f_X9_findClusters_48 p0 p1 n x2 z = some res → va_P D vwCl (gw cA ad shX 315 z) H → va_S (gA ad 315) s.heap H locs → lv_has ls 4 [(0, .ref (ad p0)), (1, .ref (ad p1)), (2, .int x2)] → W p l e (headSpec wsX9_findClusters (gRm 3 64)).room s m ([.ref (ad p0), .ref (ad p1)] : List Value).toArray below meth c H locs 0 0 (MQ below (va_Qv (fun u => u = res) (gPr D cA ad tw shX 315) (gA ad 315)) ([.ref (ad p0), .ref (ad p1)] : List Value).toArray s 0 0 (gA ad 315)) (F0 m 48 ls []) := by
    intro n
    induction n with
    | zero => intro x2 z H locs ls h; exact (gno h).elim
    | succ n hK48 =>
      intro x2 z H locs ls h hP hS hl
      replace h : f_X9_findClusters_48_b p0 p1 (f_X9_findClusters_48 p0 p1 n) x2 z = some res := h
      unfold f_X9_findClusters_48_b at h
      refine lv_iload_n hx hb dX9_findClusters_48 rfl (lv_at hl 2 rfl) ?_
      refine lv_aload_n hx hb dX9_findClusters_49 rfl (lv_at hl 0 rfl) ?_
      refine fw_geti hx hb hts in_X9_findClusters_X9 hown hK hP hp0.1.1 hp0.1.2 rfl 2 (by decide) rfl (hts _ (List.mem_of_getElem? (i := 1) rfl)) rfl dX9_findClusters_50 ?_
      refine lv_icmp_gt (tgt := 113) hx hb dX9_findClusters_53 (by decide) (fun c17 => ?_) (fun c17 => ?_)
      · replace h := gif_t h c17
        refine lv_aload_n hx hb dX9_findClusters_113 rfl (lv_at hl 0 rfl) ?_
        refine lv_iconst (v := (nI 0)) hx hb dX9_findClusters_114 (by decide) ?_
        refine fw_put hx hb hts in_X9_findClusters_X9 tyX9_ok nmX9 hown hK hG hP hS hp0.1.1 hp0.1.2 rfl 3 (by decide) rfl (hts _ (List.mem_of_getElem? (i := 4) rfl)) rfl rfl (ty := .int) rfl rfl rfl dX9_findClusters_115 (fun z18 H locs ez18 hP hS => ?_)
        replace h := gl_s h ez18
        refine lv_iconst (v := (nI 1)) hx hb dX9_findClusters_118 (by decide) ?_
        refine lv_istore_n (lv' := [(2, .int (nI 1)), (0, .ref (ad p0)), (1, .ref (ad p1))]) hx hb dX9_findClusters_119 rfl hl (by decide) rfl (fun ls hl => ?_)
        exact j120  gF (nI 1) z18 _ _ ls h hP hS (lv_sub hl [1, 0] rfl)
      · replace h := gif_f h c17
        refine lv_iconst (v := (nI 0)) hx hb dX9_findClusters_56 (by decide) ?_
        refine lv_istore_n (lv' := [(3, .int (nI 0)), (0, .ref (ad p0)), (1, .ref (ad p1)), (2, .int x2)]) hx hb dX9_findClusters_57 rfl hl (by decide) rfl (fun ls hl => ?_)
        exact j58 x2 _ hK48 gF (nI 0) z _ _ ls h hP hS (lv_sub hl [1, 2, 3, 0] rfl)
  have j2 : ∀  (n : Nat) (x2 : Int32) (z : gS) (H : Heap) (locs : List Loc) (ls : Array Slot), f_X9_findClusters_2 p0 p1 n x2 z = some res → va_P D vwCl (gw cA ad shX 315 z) H → va_S (gA ad 315) s.heap H locs → lv_has ls 4 [(0, .ref (ad p0)), (1, .ref (ad p1)), (2, .int x2)] → W p l e (headSpec wsX9_findClusters (gRm 3 64)).room s m ([.ref (ad p0), .ref (ad p1)] : List Value).toArray below meth c H locs 0 0 (MQ below (va_Qv (fun u => u = res) (gPr D cA ad tw shX 315) (gA ad 315)) ([.ref (ad p0), .ref (ad p1)] : List Value).toArray s 0 0 (gA ad 315)) (F0 m 2 ls []) := by
    intro n
    induction n with
    | zero => intro x2 z H locs ls h; exact (gno h).elim
    | succ n hK2 =>
      intro x2 z H locs ls h hP hS hl
      replace h : f_X9_findClusters_2_b p0 p1 (f_X9_findClusters_2 p0 p1 n) x2 z = some res := h
      unfold f_X9_findClusters_2_b at h
      refine lv_iload_n hx hb dX9_findClusters_2 rfl (lv_at hl 2 rfl) ?_
      refine lv_aload_n hx hb dX9_findClusters_3 rfl (lv_at hl 0 rfl) ?_
      refine fw_geti hx hb hts in_X9_findClusters_X9 hown hK hP hp0.1.1 hp0.1.2 rfl 2 (by decide) rfl (hts _ (List.mem_of_getElem? (i := 1) rfl)) rfl dX9_findClusters_4 ?_
      refine lv_icmp_gt (tgt := 46) hx hb dX9_findClusters_7 (by decide) (fun c1 => ?_) (fun c1 => ?_)
      · replace h := gif_t h c1
        refine lv_iconst (v := (nI 0)) hx hb dX9_findClusters_46 (by decide) ?_
        refine lv_istore_n (lv' := [(2, .int (nI 0)), (0, .ref (ad p0)), (1, .ref (ad p1))]) hx hb dX9_findClusters_47 rfl hl (by decide) rfl (fun ls hl => ?_)
        exact j48  gF (nI 0) z _ _ ls h hP hS (lv_sub hl [1, 2, 0] rfl)
      · replace h := gif_f h c1
        refine lv_aload_n hx hb dX9_findClusters_10 rfl (lv_at hl 0 rfl) ?_
        refine fw_getr hx hb hts in_X9_findClusters_X9 hown hK hP hp0.1.1 hp0.1.2 rfl 0 (by decide) rfl (hts _ (List.mem_of_getElem? (i := 2) rfl)) rfl dX9_findClusters_11 ?_
        refine lv_iload_n hx hb dX9_findClusters_14 rfl (lv_at hl 2 rfl) ?_
        refine lv_iload_n hx hb dX9_findClusters_15 rfl (lv_at hl 2 rfl) ?_
        refine lv_if_eq (tgt := 23) hx hb dX9_findClusters_16 (by decide) (fun c2 => ?_) (fun c2 => ?_)
        · replace h := gif_t h c2
          refine lv_iconst (v := (nI 0)) hx hb dX9_findClusters_23 (by decide) ?_
          obtain ⟨h3, h⟩ := gg_s h
          refine fw_zast hx hb hK hG hP hS hp0.2.1.1 hp0.2.1.2 (by decide) h3 dX9_findClusters_24 (fun z4 H locs ez4 hP hS => ?_)
          replace h := gl_s h ez4
          refine lv_aload_n hx hb dX9_findClusters_25 rfl (lv_at hl 0 rfl) ?_
          refine fw_getr hx hb hts in_X9_findClusters_X9 hown hK hP hp0.1.1 hp0.1.2 rfl 1 (by decide) rfl (hts _ (List.mem_of_getElem? (i := 3) rfl)) rfl dX9_findClusters_26 ?_
          refine lv_iload_n hx hb dX9_findClusters_29 rfl (lv_at hl 2 rfl) ?_
          refine lv_iload_n hx hb dX9_findClusters_30 rfl (lv_at hl 2 rfl) ?_
          refine lv_if_ne (tgt := 38) hx hb dX9_findClusters_31 (by decide) (fun c5 => ?_) (fun c5 => ?_)
          · replace h := gif_f h c5
            refine lv_iconst (v := (nI 0)) hx hb dX9_findClusters_38 (by decide) ?_
            obtain ⟨h6, h⟩ := gg_s h
            refine fw_zast hx hb hK hG hP hS hp0.2.2.1.1 hp0.2.2.1.2 (by decide) h6 dX9_findClusters_39 (fun z7 H locs ez7 hP hS => ?_)
            replace h := gl_s h ez7
            refine lv_iinc (v := x2 + (nI 1)) (lv' := [(2, .int (x2 + (nI 1))), (0, .ref (ad p0)), (1, .ref (ad p1))]) hx hb dX9_findClusters_40 hl (k := 2) rfl rfl (by decide) rfl (fun ls hl => ?_)
            refine lv_goto (tgt := 2) hx hb dX9_findClusters_43 (by decide) ?_
            exact hK2 (x2 + (nI 1)) z7 _ _ ls h hP hS (lv_sub hl [1, 2, 0] rfl)
          · replace h := gif_t h c5
            refine lv_iconst (v := (nI 1)) hx hb dX9_findClusters_34 (by decide) ?_
            refine lv_goto (tgt := 39) hx hb dX9_findClusters_35 (by decide) ?_
            obtain ⟨h8, h⟩ := gg_s h
            refine fw_zast hx hb hK hG hP hS hp0.2.2.1.1 hp0.2.2.1.2 (by decide) h8 dX9_findClusters_39 (fun z9 H locs ez9 hP hS => ?_)
            replace h := gl_s h ez9
            refine lv_iinc (v := x2 + (nI 1)) (lv' := [(2, .int (x2 + (nI 1))), (0, .ref (ad p0)), (1, .ref (ad p1))]) hx hb dX9_findClusters_40 hl (k := 2) rfl rfl (by decide) rfl (fun ls hl => ?_)
            refine lv_goto (tgt := 2) hx hb dX9_findClusters_43 (by decide) ?_
            exact hK2 (x2 + (nI 1)) z9 _ _ ls h hP hS (lv_sub hl [1, 2, 0] rfl)
        · replace h := gif_f h c2
          refine lv_iconst (v := (nI 1)) hx hb dX9_findClusters_19 (by decide) ?_
          refine lv_goto (tgt := 24) hx hb dX9_findClusters_20 (by decide) ?_
          obtain ⟨h10, h⟩ := gg_s h
          refine fw_zast hx hb hK hG hP hS hp0.2.1.1 hp0.2.1.2 (by decide) h10 dX9_findClusters_24 (fun z11 H locs ez11 hP hS => ?_)
          replace h := gl_s h ez11
          refine lv_aload_n hx hb dX9_findClusters_25 rfl (lv_at hl 0 rfl) ?_
          refine fw_getr hx hb hts in_X9_findClusters_X9 hown hK hP hp0.1.1 hp0.1.2 rfl 1 (by decide) rfl (hts _ (List.mem_of_getElem? (i := 3) rfl)) rfl dX9_findClusters_26 ?_
          refine lv_iload_n hx hb dX9_findClusters_29 rfl (lv_at hl 2 rfl) ?_
          refine lv_iload_n hx hb dX9_findClusters_30 rfl (lv_at hl 2 rfl) ?_
          refine lv_if_ne (tgt := 38) hx hb dX9_findClusters_31 (by decide) (fun c12 => ?_) (fun c12 => ?_)
          · replace h := gif_f h c12
            refine lv_iconst (v := (nI 0)) hx hb dX9_findClusters_38 (by decide) ?_
            obtain ⟨h13, h⟩ := gg_s h
            refine fw_zast hx hb hK hG hP hS hp0.2.2.1.1 hp0.2.2.1.2 (by decide) h13 dX9_findClusters_39 (fun z14 H locs ez14 hP hS => ?_)
            replace h := gl_s h ez14
            refine lv_iinc (v := x2 + (nI 1)) (lv' := [(2, .int (x2 + (nI 1))), (0, .ref (ad p0)), (1, .ref (ad p1))]) hx hb dX9_findClusters_40 hl (k := 2) rfl rfl (by decide) rfl (fun ls hl => ?_)
            refine lv_goto (tgt := 2) hx hb dX9_findClusters_43 (by decide) ?_
            exact hK2 (x2 + (nI 1)) z14 _ _ ls h hP hS (lv_sub hl [1, 2, 0] rfl)
          · replace h := gif_t h c12
            refine lv_iconst (v := (nI 1)) hx hb dX9_findClusters_34 (by decide) ?_
            refine lv_goto (tgt := 39) hx hb dX9_findClusters_35 (by decide) ?_
            obtain ⟨h15, h⟩ := gg_s h
            refine fw_zast hx hb hK hG hP hS hp0.2.2.1.1 hp0.2.2.1.2 (by decide) h15 dX9_findClusters_39 (fun z16 H locs ez16 hP hS => ?_)
            replace h := gl_s h ez16
            refine lv_iinc (v := x2 + (nI 1)) (lv' := [(2, .int (x2 + (nI 1))), (0, .ref (ad p0)), (1, .ref (ad p1))]) hx hb dX9_findClusters_40 hl (k := 2) rfl rfl (by decide) rfl (fun ls hl => ?_)
            refine lv_goto (tgt := 2) hx hb dX9_findClusters_43 (by decide) ?_
            exact hK2 (x2 + (nI 1)) z16 _ _ ls h hP hS (lv_sub hl [1, 2, 0] rfl)
  unfold f_X9_findClusters at h
  refine lv_iconst (v := (nI 0)) hx hb dX9_findClusters_0 (by decide) ?_
  refine lv_istore_n (lv' := [(2, .int (nI 0)), (0, .ref (ad p0)), (1, .ref (ad p1))]) hx hb dX9_findClusters_1 rfl hl (by decide) rfl (fun ls hl => ?_)
  exact j2  gF (nI 0) z _ _ ls h hP hS (lv_sub hl [1, 2, 0] rfl)
theorem in_X9_isKnot_X9 : ∀ w ∈ wsX90, w ∈ wsX9_isKnot := fun w h => List.mem_cons_of_mem _ (List.mem_append_right _ (h))
theorem hdV_X9_isKnot : yX9_isKnot.cls = RX9 ∧ yX9_isKnot.cls ≠ "java/lang/invoke/MethodHandle" ∧ yX9_isKnot.cls ≠ "java/lang/invoke/VarHandle" ∧ (parseMethodDescriptor yX9_isKnot.desc).map (fun d => d.parameters.length) = some 1 := by decide +kernel
set_option maxHeartbeats 4000000 in
set_option maxRecDepth 100000 in
theorem k_X9_isKnot (l : Launch) (D : va_G) (cA : Nat → ClassId) (ad : Nat → Nat) (tw : Nat) (hG : gOk ad 315) (z : gS) (p0 : Nat) (hp0 : gC9 p0) (a1 : Int32) (res : Int32) (h : f_X9_isKnot p0 a1 z = some res) : gMi l yX9_isKnot wsX9_isKnot (gRm 0 0) D cA ad tw shX 315 [.ref (ad p0), .int a1] z (res, z) := by
  refine Met.ofW (cc := cX9_isKnot) (maxL := 3) (ret := (some .boolean)) (by decide) rfl ?_
  intro p e s m args below meth c s₁ B hml hv
  obtain ⟨rfl, hP, hK, hZ⟩ := hv
  have hx := B.exec
  have hb := B.bytes
  have hr := B.returns
  have hts := atoms_spec (ws := wsX9_isKnot) B.pre
  have hown : s.vm.findClass RX9 = some m.cls := findClass_of_methodNamed B.named
  have hlocks := B.notSynchronized
  have hS : va_S (gA ad 315) s.heap s.heap [] := va_S.rf
  have hl := lv_entry ([.ref (ad p0), .int a1]) (n := 3) (Nat.le_of_ble_eq_true rfl)
  rw [lg_entry_eq]
  generalize (lg_sl ([.ref (ad p0), .int a1]) ++ List.replicate (3 - (lg_sl ([.ref (ad p0), .int a1])).length) Slot.unset).toArray = ls at hl ⊢
  have hl : lv_has ls 3 [(0, .ref (ad p0)), (1, .int a1)] := hl
  have j13 : ∀ (x1 : Int32) (n : Nat) (x2 : Int32) (H : Heap) (locs : List Loc) (ls : Array Slot), f_X9_isKnot_13 p0 z x1 n x2 = some res → va_P D vwCl (gw cA ad shX 315 z) H → va_S (gA ad 315) s.heap H locs → lv_has ls 3 [(0, .ref (ad p0)), (1, .int x1), (2, .int x2)] → W p l e (headSpec wsX9_isKnot (gRm 0 0)).room s m ([.ref (ad p0), .int a1] : List Value).toArray below meth c H locs 0 0 (MQ below (va_Qi (fun r u => (r, u) = (res, z)) (gPr D cA ad tw shX 315) (gA ad 315)) ([.ref (ad p0), .int a1] : List Value).toArray s 0 0 (gA ad 315)) (F0 m 13 ls []) := by
    intro x1 n
    induction n with
    | zero => intro x2 H locs ls h; exact (gno h).elim
    | succ n hK13 =>
      intro x2 H locs ls h hP hS hl
      replace h : f_X9_isKnot_13_b p0 z x1 (f_X9_isKnot_13 p0 z x1 n) x2 = some res := h
      unfold f_X9_isKnot_13_b at h
      refine lv_iload_n hx hb dX9_isKnot_13 rfl (lv_at hl 2 rfl) ?_
      refine lv_aload_n hx hb dX9_isKnot_14 rfl (lv_at hl 0 rfl) ?_
      refine fw_geti hx hb hts in_X9_isKnot_X9 hown hK hP hp0.1.1 hp0.1.2 rfl 2 (by decide) rfl (hts _ (List.mem_of_getElem? (i := 2) rfl)) rfl dX9_isKnot_15 ?_
      refine lv_icmp_gt (tgt := 60) hx hb dX9_isKnot_18 (by decide) (fun c3 => ?_) (fun c3 => ?_)
      · replace h := gif_t h c3
        refine lv_iconst (v := (nI 1)) hx hb dX9_isKnot_60 (by decide) ?_
        exact fw_iretz hx hb hr hlocks (by decide) (congrArg (fun q => (q, z)) (Option.some.inj h)) hK hZ hP hS dX9_isKnot_61
      · replace h := gif_f h c3
        refine lv_aload_n hx hb dX9_isKnot_21 rfl (lv_at hl 0 rfl) ?_
        refine fw_getr hx hb hts in_X9_isKnot_X9 hown hK hP hp0.1.1 hp0.1.2 rfl 0 (by decide) rfl (hts _ (List.mem_of_getElem? (i := 1) rfl)) rfl dX9_isKnot_22 ?_
        refine lv_iload_n hx hb dX9_isKnot_25 rfl (lv_at hl 2 rfl) ?_
        obtain ⟨h4, h⟩ := gg_s h
        refine fw_zald hx hb hK hP hp0.2.1.1 hp0.2.1.2 h4 dX9_isKnot_26 ?_
        refine lv_if_eq (tgt := 54) hx hb dX9_isKnot_27 (by decide) (fun c5 => ?_) (fun c5 => ?_)
        · replace h := gif_t h c5
          refine lv_iinc (v := x2 + (nI 1)) (lv' := [(2, .int (x2 + (nI 1))), (0, .ref (ad p0)), (1, .int x1)]) hx hb dX9_isKnot_54 hl (k := 2) rfl rfl (by decide) rfl (fun ls hl => ?_)
          refine lv_goto (tgt := 13) hx hb dX9_isKnot_57 (by decide) ?_
          exact hK13 (x2 + (nI 1)) _ _ ls h hP hS (lv_sub hl [1, 2, 0] rfl)
        · replace h := gif_f h c5
          refine lv_iload_n hx hb dX9_isKnot_30 rfl (lv_at hl 1 rfl) ?_
          refine lv_iload_n hx hb dX9_isKnot_31 rfl (lv_at hl 2 rfl) ?_
          refine lv_iand hx hb dX9_isKnot_32 ?_
          refine lv_if_eq (tgt := 54) hx hb dX9_isKnot_33 (by decide) (fun c6 => ?_) (fun c6 => ?_)
          · replace h := gif_t h c6
            refine lv_iinc (v := x2 + (nI 1)) (lv' := [(2, .int (x2 + (nI 1))), (0, .ref (ad p0)), (1, .int x1)]) hx hb dX9_isKnot_54 hl (k := 2) rfl rfl (by decide) rfl (fun ls hl => ?_)
            refine lv_goto (tgt := 13) hx hb dX9_isKnot_57 (by decide) ?_
            exact hK13 (x2 + (nI 1)) _ _ ls h hP hS (lv_sub hl [1, 2, 0] rfl)
          · replace h := gif_f h c6
            refine lv_iload_n hx hb dX9_isKnot_36 rfl (lv_at hl 1 rfl) ?_
            refine lv_iload_n hx hb dX9_isKnot_37 rfl (lv_at hl 2 rfl) ?_
            refine lv_iconst (v := gm1) hx hb dX9_isKnot_38 (by decide) ?_
            refine lv_ixor hx hb dX9_isKnot_39 ?_
            refine lv_iand hx hb dX9_isKnot_40 ?_
            refine lv_if_eq (tgt := 54) hx hb dX9_isKnot_41 (by decide) (fun c7 => ?_) (fun c7 => ?_)
            · replace h := gif_t h c7
              refine lv_iinc (v := x2 + (nI 1)) (lv' := [(2, .int (x2 + (nI 1))), (0, .ref (ad p0)), (1, .int x1)]) hx hb dX9_isKnot_54 hl (k := 2) rfl rfl (by decide) rfl (fun ls hl => ?_)
              refine lv_goto (tgt := 13) hx hb dX9_isKnot_57 (by decide) ?_
              exact hK13 (x2 + (nI 1)) _ _ ls h hP hS (lv_sub hl [1, 2, 0] rfl)
            · replace h := gif_f h c7
              refine lv_iload_n hx hb dX9_isKnot_44 rfl (lv_at hl 2 rfl) ?_
              refine lv_iload_n hx hb dX9_isKnot_45 rfl (lv_at hl 1 rfl) ?_
              refine lv_iconst (v := gm1) hx hb dX9_isKnot_46 (by decide) ?_
              refine lv_ixor hx hb dX9_isKnot_47 ?_
              refine lv_iand hx hb dX9_isKnot_48 ?_
              refine lv_if_eq (tgt := 54) hx hb dX9_isKnot_49 (by decide) (fun c8 => ?_) (fun c8 => ?_)
              · replace h := gif_t h c8
                refine lv_iinc (v := x2 + (nI 1)) (lv' := [(2, .int (x2 + (nI 1))), (0, .ref (ad p0)), (1, .int x1)]) hx hb dX9_isKnot_54 hl (k := 2) rfl rfl (by decide) rfl (fun ls hl => ?_)
                refine lv_goto (tgt := 13) hx hb dX9_isKnot_57 (by decide) ?_
                exact hK13 (x2 + (nI 1)) _ _ ls h hP hS (lv_sub hl [1, 2, 0] rfl)
              · replace h := gif_f h c8
                refine lv_iconst (v := (nI 0)) hx hb dX9_isKnot_52 (by decide) ?_
                exact fw_iretz hx hb hr hlocks (by decide) (congrArg (fun q => (q, z)) (Option.some.inj h)) hK hZ hP hS dX9_isKnot_53
  unfold f_X9_isKnot at h
  refine lv_aload_n hx hb dX9_isKnot_0 rfl (lv_at hl 0 rfl) ?_
  refine fw_getr hx hb hts in_X9_isKnot_X9 hown hK hP hp0.1.1 hp0.1.2 rfl 0 (by decide) rfl (hts _ (List.mem_of_getElem? (i := 1) rfl)) rfl dX9_isKnot_1 ?_
  refine lv_iload_n hx hb dX9_isKnot_4 rfl (lv_at hl 1 rfl) ?_
  obtain ⟨h1, h⟩ := gg_s h
  refine fw_zald hx hb hK hP hp0.2.1.1 hp0.2.1.2 h1 dX9_isKnot_5 ?_
  refine lv_if_ne (tgt := 11) hx hb dX9_isKnot_6 (by decide) (fun c2 => ?_) (fun c2 => ?_)
  · replace h := gif_f h c2
    refine lv_iconst (v := (nI 1)) hx hb dX9_isKnot_11 (by decide) ?_
    refine lv_istore_n (lv' := [(2, .int (nI 1)), (0, .ref (ad p0)), (1, .int a1)]) hx hb dX9_isKnot_12 rfl hl (by decide) rfl (fun ls hl => ?_)
    exact j13 a1 gF (nI 1) _ _ ls h hP hS (lv_sub hl [1, 2, 0] rfl)
  · replace h := gif_t h c2
    refine lv_iconst (v := (nI 0)) hx hb dX9_isKnot_9 (by decide) ?_
    exact fw_iretz hx hb hr hlocks (by decide) (congrArg (fun q => (q, z)) (Option.some.inj h)) hK hZ hP hS dX9_isKnot_10
theorem in_X9_findKnots_X9 : ∀ w ∈ wsX90, w ∈ wsX9_findKnots := fun w h => List.mem_cons_of_mem _ (List.mem_append_right _ (h))
theorem hdV_X9_findKnots : yX9_findKnots.cls = RX9 ∧ yX9_findKnots.cls ≠ "java/lang/invoke/MethodHandle" ∧ yX9_findKnots.cls ≠ "java/lang/invoke/VarHandle" ∧ (parseMethodDescriptor yX9_findKnots.desc).map (fun d => d.parameters.length) = some 0 := by decide +kernel
set_option maxHeartbeats 4000000 in
set_option maxRecDepth 100000 in
theorem k_X9_findKnots (l : Launch) (D : va_G) (cA : Nat → ClassId) (ad : Nat → Nat) (tw : Nat) (hG : gOk ad 315) (z : gS) (p0 : Nat) (hp0 : gC9 p0) (res : gS) (h : f_X9_findKnots p0 z = some res) : gMv l yX9_findKnots wsX9_findKnots (gRm 1 22) D cA ad tw shX 315 [.ref (ad p0)] z res := by
  refine Met.ofW (cc := cX9_findKnots) (maxL := 3) (ret := none) (by decide) rfl ?_
  intro p e s m args below meth c s₁ B hml hv
  obtain ⟨rfl, hP, hK, hZ⟩ := hv
  have hx := B.exec
  have hb := B.bytes
  have hr := B.returns
  have hts := atoms_spec (ws := wsX9_findKnots) B.pre
  have hown : s.vm.findClass RX9 = some m.cls := findClass_of_methodNamed B.named
  have hlocks := B.notSynchronized
  have hS : va_S (gA ad 315) s.heap s.heap [] := va_S.rf
  have hl := lv_entry ([.ref (ad p0)]) (n := 3) (Nat.le_of_ble_eq_true rfl)
  rw [lg_entry_eq]
  generalize (lg_sl ([.ref (ad p0)]) ++ List.replicate (3 - (lg_sl ([.ref (ad p0)])).length) Slot.unset).toArray = ls at hl ⊢
  have hl : lv_has ls 3 [(0, .ref (ad p0))] := hl
  have j15 : ∀ (x1 : Int32) (K7 : Int32 → gS → Option gS) (hK7 : ∀ (x1' : Int32) (z' : gS) (H : Heap) (locs : List Loc) (ls : Array Slot), K7 x1' z' = some res → va_P D vwCl (gw cA ad shX 315 z') H → va_S (gA ad 315) s.heap H locs → lv_has ls 3 [(0, .ref (ad p0)), (1, .int x1')] → W p l e (headSpec wsX9_findKnots (gRm 1 22)).room s m ([.ref (ad p0)] : List Value).toArray below meth c H locs 0 0 (MQ below (va_Qv (fun u => u = res) (gPr D cA ad tw shX 315) (gA ad 315)) ([.ref (ad p0)] : List Value).toArray s 0 0 (gA ad 315)) (F0 m 7 ls [])) (n : Nat) (x2 : Int32) (z : gS) (H : Heap) (locs : List Loc) (ls : Array Slot), f_X9_findKnots_15 p0 x1 K7 n x2 z = some res → va_P D vwCl (gw cA ad shX 315 z) H → va_S (gA ad 315) s.heap H locs → lv_has ls 3 [(0, .ref (ad p0)), (1, .int x1), (2, .int x2)] → W p l e (headSpec wsX9_findKnots (gRm 1 22)).room s m ([.ref (ad p0)] : List Value).toArray below meth c H locs 0 0 (MQ below (va_Qv (fun u => u = res) (gPr D cA ad tw shX 315) (gA ad 315)) ([.ref (ad p0)] : List Value).toArray s 0 0 (gA ad 315)) (F0 m 15 ls []) := by
    intro x1 K7 hK7 n
    induction n with
    | zero => intro x2 z H locs ls h; exact (gno h).elim
    | succ n hK15 =>
      intro x2 z H locs ls h hP hS hl
      replace h : f_X9_findKnots_15_b p0 x1 K7 (f_X9_findKnots_15 p0 x1 K7 n) x2 z = some res := h
      unfold f_X9_findKnots_15_b at h
      refine lv_iload_n hx hb dX9_findKnots_15 rfl (lv_at hl 2 rfl) ?_
      refine lv_aload_n hx hb dX9_findKnots_16 rfl (lv_at hl 0 rfl) ?_
      refine fw_geti hx hb hts in_X9_findKnots_X9 hown hK hP hp0.1.1 hp0.1.2 rfl 2 (by decide) rfl (hts _ (List.mem_of_getElem? (i := 2) rfl)) rfl dX9_findKnots_17 ?_
      refine lv_icmp_gt (tgt := 74) hx hb dX9_findKnots_20 (by decide) (fun c3 => ?_) (fun c3 => ?_)
      · replace h := gif_t h c3
        refine lv_iinc (v := x1 + (nI 1)) (lv' := [(1, .int (x1 + (nI 1))), (0, .ref (ad p0)), (2, .int x2)]) hx hb dX9_findKnots_74 hl (k := 1) rfl rfl (by decide) rfl (fun ls hl => ?_)
        refine lv_goto (tgt := 7) hx hb dX9_findKnots_77 (by decide) ?_
        exact hK7 (x1 + (nI 1)) z _ _ ls h hP hS (lv_sub hl [1, 0] rfl)
      · replace h := gif_f h c3
        refine lv_iload_n hx hb dX9_findKnots_23 rfl (lv_at hl 2 rfl) ?_
        obtain ⟨q4, hq4, h⟩ := gb_s h
        refine fw_siR (As := [.int x2]) (rest := []) ⟨hx, hb, hml, hown, hts⟩ (k_J6_bitCount_0f7a4 l D cA ad tw hG z x2 q4 hq4) (va_cwS 1 hts gX9_findKnots_J6_bitCount_0f7a4 rfl rfl rfl hdS_J6_bitCount_0f7a4 ⟨Nat.le_of_ble_eq_true rfl, Nat.le_of_ble_eq_true rfl⟩) hK hZ hP rfl hl _ rfl (Nat.le_of_ble_eq_true rfl) hS dX9_findKnots_24 ⟨Nat.zero_le _, Nat.zero_le _⟩ (fun H locs hP hS => ?_)
        refine lv_iload_n hx hb dX9_findKnots_27 rfl (lv_at hl 1 rfl) ?_
        refine lv_icmp_ne (tgt := 68) hx hb dX9_findKnots_28 (by decide) (fun c5 => ?_) (fun c5 => ?_)
        · replace h := gif_f h c5
          refine lv_iinc (v := x2 + (nI 1)) (lv' := [(2, .int (x2 + (nI 1))), (0, .ref (ad p0)), (1, .int x1)]) hx hb dX9_findKnots_68 hl (k := 2) rfl rfl (by decide) rfl (fun ls hl => ?_)
          refine lv_goto (tgt := 15) hx hb dX9_findKnots_71 (by decide) ?_
          exact hK15 (x2 + (nI 1)) z _ _ ls h hP hS (lv_sub hl [1, 2, 0] rfl)
        · replace h := gif_t h c5
          refine lv_aload_n hx hb dX9_findKnots_31 rfl (lv_at hl 0 rfl) ?_
          refine lv_iload_n hx hb dX9_findKnots_32 rfl (lv_at hl 2 rfl) ?_
          obtain ⟨q6, hq6, h⟩ := gb_s h
          refine fw_viR (As := [.int x2]) (rest := []) ⟨hx, hb, hml, hown, hts⟩ (k_X9_isKnot l D cA ad tw hG z p0 (hp0) x2 q6 hq6) (cwV 1 hts gX9_findKnots_X9_isKnot rfl rfl rfl hdV_X9_isKnot ⟨Nat.le_of_ble_eq_true rfl, Nat.le_of_ble_eq_true rfl⟩) (fw_preV hp0.1.1 hp0.1.2 rfl rfl hK hZ hP hS) rfl hl _ rfl (Nat.le_of_ble_eq_true rfl) hS dX9_findKnots_33 ⟨Nat.zero_le _, Nat.zero_le _⟩ (fun H locs hP hS => ?_)
          refine lv_if_eq (tgt := 68) hx hb dX9_findKnots_36 (by decide) (fun c7 => ?_) (fun c7 => ?_)
          · replace h := gif_t h c7
            refine lv_iinc (v := x2 + (nI 1)) (lv' := [(2, .int (x2 + (nI 1))), (0, .ref (ad p0)), (1, .int x1)]) hx hb dX9_findKnots_68 hl (k := 2) rfl rfl (by decide) rfl (fun ls hl => ?_)
            refine lv_goto (tgt := 15) hx hb dX9_findKnots_71 (by decide) ?_
            exact hK15 (x2 + (nI 1)) z _ _ ls h hP hS (lv_sub hl [1, 2, 0] rfl)
          · replace h := gif_f h c7
            refine lv_aload_n hx hb dX9_findKnots_39 rfl (lv_at hl 0 rfl) ?_
            refine fw_geti hx hb hts in_X9_findKnots_X9 hown hK hP hp0.1.1 hp0.1.2 rfl 4 (by decide) rfl (hts _ (List.mem_of_getElem? (i := 1) rfl)) rfl dX9_findKnots_40 ?_
            refine lv_bipush (v := (nI 13)) hx hb dX9_findKnots_43 (by decide) ?_
            refine lv_icmp_ge (tgt := 68) hx hb dX9_findKnots_45 (by decide) (fun c8 => ?_) (fun c8 => ?_)
            · replace h := gif_t h c8
              refine lv_iinc (v := x2 + (nI 1)) (lv' := [(2, .int (x2 + (nI 1))), (0, .ref (ad p0)), (1, .int x1)]) hx hb dX9_findKnots_68 hl (k := 2) rfl rfl (by decide) rfl (fun ls hl => ?_)
              refine lv_goto (tgt := 15) hx hb dX9_findKnots_71 (by decide) ?_
              exact hK15 (x2 + (nI 1)) z _ _ ls h hP hS (lv_sub hl [1, 2, 0] rfl)
            · replace h := gif_f h c8
              refine lv_aload_n hx hb dX9_findKnots_48 rfl (lv_at hl 0 rfl) ?_
              refine fw_getr hx hb hts in_X9_findKnots_X9 hown hK hP hp0.1.1 hp0.1.2 rfl 5 (by decide) rfl (hts _ (List.mem_of_getElem? (i := 3) rfl)) rfl dX9_findKnots_49 ?_
              refine lv_aload_n hx hb dX9_findKnots_52 rfl (lv_at hl 0 rfl) ?_
              refine fw_geti hx hb hts in_X9_findKnots_X9 hown hK hP hp0.1.1 hp0.1.2 rfl 4 (by decide) rfl (hts _ (List.mem_of_getElem? (i := 1) rfl)) rfl dX9_findKnots_53 ?_
              refine lv_iload_n hx hb dX9_findKnots_56 rfl (lv_at hl 2 rfl) ?_
              obtain ⟨h9, h⟩ := gg_s h
              refine fw_iast hx hb hK hG hP hS hp0.2.2.2.1.1 hp0.2.2.2.1.2 h9 dX9_findKnots_57 (fun z10 H locs ez10 hP hS => ?_)
              replace h := gl_s h ez10
              refine lv_aload_n hx hb dX9_findKnots_58 rfl (lv_at hl 0 rfl) ?_
              refine lv_dup hx hb dX9_findKnots_59 rfl ?_
              refine fw_geti hx hb hts in_X9_findKnots_X9 hown hK hP hp0.1.1 hp0.1.2 rfl 4 (by decide) rfl (hts _ (List.mem_of_getElem? (i := 1) rfl)) rfl dX9_findKnots_60 ?_
              refine lv_iconst (v := (nI 1)) hx hb dX9_findKnots_63 (by decide) ?_
              refine lv_iadd hx hb dX9_findKnots_64 ?_
              refine fw_put hx hb hts in_X9_findKnots_X9 tyX9_ok nmX9 hown hK hG hP hS hp0.1.1 hp0.1.2 rfl 4 (by decide) rfl (hts _ (List.mem_of_getElem? (i := 1) rfl)) rfl rfl (ty := .int) rfl rfl rfl dX9_findKnots_65 (fun z11 H locs ez11 hP hS => ?_)
              replace h := gl_s h ez11
              refine lv_iinc (v := x2 + (nI 1)) (lv' := [(2, .int (x2 + (nI 1))), (0, .ref (ad p0)), (1, .int x1)]) hx hb dX9_findKnots_68 hl (k := 2) rfl rfl (by decide) rfl (fun ls hl => ?_)
              refine lv_goto (tgt := 15) hx hb dX9_findKnots_71 (by decide) ?_
              exact hK15 (x2 + (nI 1)) z11 _ _ ls h hP hS (lv_sub hl [1, 2, 0] rfl)
  have j7 : ∀  (n : Nat) (x1 : Int32) (z : gS) (H : Heap) (locs : List Loc) (ls : Array Slot), f_X9_findKnots_7 p0 n x1 z = some res → va_P D vwCl (gw cA ad shX 315 z) H → va_S (gA ad 315) s.heap H locs → lv_has ls 3 [(0, .ref (ad p0)), (1, .int x1)] → W p l e (headSpec wsX9_findKnots (gRm 1 22)).room s m ([.ref (ad p0)] : List Value).toArray below meth c H locs 0 0 (MQ below (va_Qv (fun u => u = res) (gPr D cA ad tw shX 315) (gA ad 315)) ([.ref (ad p0)] : List Value).toArray s 0 0 (gA ad 315)) (F0 m 7 ls []) := by
    intro n
    induction n with
    | zero => intro x1 z H locs ls h; exact (gno h).elim
    | succ n hK7 =>
      intro x1 z H locs ls h hP hS hl
      replace h : f_X9_findKnots_7_b p0 (f_X9_findKnots_7 p0 n) x1 z = some res := h
      unfold f_X9_findKnots_7_b at h
      refine lv_iload_n hx hb dX9_findKnots_7 rfl (lv_at hl 1 rfl) ?_
      refine lv_bipush (v := (nI 7)) hx hb dX9_findKnots_8 (by decide) ?_
      refine lv_icmp_gt (tgt := 80) hx hb dX9_findKnots_10 (by decide) (fun c2 => ?_) (fun c2 => ?_)
      · replace h := gif_t h c2
        exact fw_vret hx hb hr hlocks (Option.some.inj h) hK hZ hP hS dX9_findKnots_80
      · replace h := gif_f h c2
        refine lv_iconst (v := (nI 1)) hx hb dX9_findKnots_13 (by decide) ?_
        refine lv_istore_n (lv' := [(2, .int (nI 1)), (0, .ref (ad p0)), (1, .int x1)]) hx hb dX9_findKnots_14 rfl hl (by decide) rfl (fun ls hl => ?_)
        exact j15 x1 _ hK7 gF (nI 1) z _ _ ls h hP hS (lv_sub hl [1, 2, 0] rfl)
  unfold f_X9_findKnots at h
  refine lv_aload_n hx hb dX9_findKnots_0 rfl (lv_at hl 0 rfl) ?_
  refine lv_iconst (v := (nI 0)) hx hb dX9_findKnots_1 (by decide) ?_
  refine fw_put hx hb hts in_X9_findKnots_X9 tyX9_ok nmX9 hown hK hG hP hS hp0.1.1 hp0.1.2 rfl 4 (by decide) rfl (hts _ (List.mem_of_getElem? (i := 1) rfl)) rfl rfl (ty := .int) rfl rfl rfl dX9_findKnots_2 (fun z1 H locs ez1 hP hS => ?_)
  replace h := gl_s h ez1
  refine lv_iconst (v := (nI 1)) hx hb dX9_findKnots_5 (by decide) ?_
  refine lv_istore_n (lv' := [(1, .int (nI 1)), (0, .ref (ad p0))]) hx hb dX9_findKnots_6 rfl hl (by decide) rfl (fun ls hl => ?_)
  exact j7  gF (nI 1) z1 _ _ ls h hP hS (lv_sub hl [1, 0] rfl)
theorem in_X9_leastAround_X9 : ∀ w ∈ wsX90, w ∈ wsX9_leastAround := fun w h => List.mem_cons_of_mem _ (List.mem_append_right _ (h))
theorem hdV_X9_leastAround : yX9_leastAround.cls = RX9 ∧ yX9_leastAround.cls ≠ "java/lang/invoke/MethodHandle" ∧ yX9_leastAround.cls ≠ "java/lang/invoke/VarHandle" ∧ (parseMethodDescriptor yX9_leastAround.desc).map (fun d => d.parameters.length) = some 1 := by decide +kernel
set_option maxHeartbeats 4000000 in
set_option maxRecDepth 100000 in
theorem k_X9_leastAround (l : Launch) (D : va_G) (cA : Nat → ClassId) (ad : Nat → Nat) (tw : Nat) (hG : gOk ad 315) (z : gS) (p0 : Nat) (hp0 : gC9 p0) (a1 : Int32) (res : Int32) (h : f_X9_leastAround p0 a1 z = some res) : gMi l yX9_leastAround wsX9_leastAround (gRm 0 0) D cA ad tw shX 315 [.ref (ad p0), .int a1] z (res, z) := by
  refine Met.ofW (cc := cX9_leastAround) (maxL := 3) (ret := (some .int)) (by decide) rfl ?_
  intro p e s m args below meth c s₁ B hml hv
  obtain ⟨rfl, hP, hK, hZ⟩ := hv
  have hx := B.exec
  have hb := B.bytes
  have hr := B.returns
  have hts := atoms_spec (ws := wsX9_leastAround) B.pre
  have hown : s.vm.findClass RX9 = some m.cls := findClass_of_methodNamed B.named
  have hlocks := B.notSynchronized
  have hS : va_S (gA ad 315) s.heap s.heap [] := va_S.rf
  have hl := lv_entry ([.ref (ad p0), .int a1]) (n := 3) (Nat.le_of_ble_eq_true rfl)
  rw [lg_entry_eq]
  generalize (lg_sl ([.ref (ad p0), .int a1]) ++ List.replicate (3 - (lg_sl ([.ref (ad p0), .int a1])).length) Slot.unset).toArray = ls at hl ⊢
  have hl : lv_has ls 3 [(0, .ref (ad p0)), (1, .int a1)] := hl
  have j4 : ∀ (x1 : Int32) (n : Nat) (x2 : Int32) (H : Heap) (locs : List Loc) (ls : Array Slot), f_X9_leastAround_4 p0 z x1 n x2 = some res → va_P D vwCl (gw cA ad shX 315 z) H → va_S (gA ad 315) s.heap H locs → lv_has ls 3 [(0, .ref (ad p0)), (1, .int x1), (2, .int x2)] → W p l e (headSpec wsX9_leastAround (gRm 0 0)).room s m ([.ref (ad p0), .int a1] : List Value).toArray below meth c H locs 0 0 (MQ below (va_Qi (fun r u => (r, u) = (res, z)) (gPr D cA ad tw shX 315) (gA ad 315)) ([.ref (ad p0), .int a1] : List Value).toArray s 0 0 (gA ad 315)) (F0 m 4 ls []) := by
    intro x1 n
    induction n with
    | zero => intro x2 H locs ls h; exact (gno h).elim
    | succ n hK4 =>
      intro x2 H locs ls h hP hS hl
      replace h : f_X9_leastAround_4_b p0 z x1 (f_X9_leastAround_4 p0 z x1 n) x2 = some res := h
      unfold f_X9_leastAround_4_b at h
      refine lv_iload_n hx hb dX9_leastAround_4 rfl (lv_at hl 2 rfl) ?_
      refine lv_aload_n hx hb dX9_leastAround_5 rfl (lv_at hl 0 rfl) ?_
      refine fw_geti hx hb hts in_X9_leastAround_X9 hown hK hP hp0.1.1 hp0.1.2 rfl 4 (by decide) rfl (hts _ (List.mem_of_getElem? (i := 1) rfl)) rfl dX9_leastAround_6 ?_
      refine lv_icmp_ge (tgt := 38) hx hb dX9_leastAround_9 (by decide) (fun c2 => ?_) (fun c2 => ?_)
      · replace h := gif_t h c2
        refine lv_iconst (v := gm1) hx hb dX9_leastAround_38 (by decide) ?_
        exact fw_ireti hx hb hr hlocks (congrArg (fun q => (q, z)) (Option.some.inj h)) hK hZ hP hS dX9_leastAround_39
      · replace h := gif_f h c2
        refine lv_aload_n hx hb dX9_leastAround_12 rfl (lv_at hl 0 rfl) ?_
        refine fw_getr hx hb hts in_X9_leastAround_X9 hown hK hP hp0.1.1 hp0.1.2 rfl 5 (by decide) rfl (hts _ (List.mem_of_getElem? (i := 2) rfl)) rfl dX9_leastAround_13 ?_
        refine lv_iload_n hx hb dX9_leastAround_16 rfl (lv_at hl 1 rfl) ?_
        obtain ⟨h3, h⟩ := gg_s h
        refine fw_iald hx hb hK hP hp0.2.2.2.1.1 hp0.2.2.2.1.2 h3 dX9_leastAround_17 ?_
        refine lv_aload_n hx hb dX9_leastAround_18 rfl (lv_at hl 0 rfl) ?_
        refine fw_getr hx hb hts in_X9_leastAround_X9 hown hK hP hp0.1.1 hp0.1.2 rfl 5 (by decide) rfl (hts _ (List.mem_of_getElem? (i := 2) rfl)) rfl dX9_leastAround_19 ?_
        refine lv_iload_n hx hb dX9_leastAround_22 rfl (lv_at hl 2 rfl) ?_
        obtain ⟨h4, h⟩ := gg_s h
        refine fw_iald hx hb hK hP hp0.2.2.2.1.1 hp0.2.2.2.1.2 h4 dX9_leastAround_23 ?_
        refine lv_iconst (v := gm1) hx hb dX9_leastAround_24 (by decide) ?_
        refine lv_ixor hx hb dX9_leastAround_25 ?_
        refine lv_iand hx hb dX9_leastAround_26 ?_
        refine lv_if_ne (tgt := 32) hx hb dX9_leastAround_27 (by decide) (fun c5 => ?_) (fun c5 => ?_)
        · replace h := gif_f h c5
          refine lv_iinc (v := x2 + (nI 1)) (lv' := [(2, .int (x2 + (nI 1))), (0, .ref (ad p0)), (1, .int x1)]) hx hb dX9_leastAround_32 hl (k := 2) rfl rfl (by decide) rfl (fun ls hl => ?_)
          refine lv_goto (tgt := 4) hx hb dX9_leastAround_35 (by decide) ?_
          exact hK4 (x2 + (nI 1)) _ _ ls h hP hS (lv_sub hl [1, 2, 0] rfl)
        · replace h := gif_t h c5
          refine lv_iload_n hx hb dX9_leastAround_30 rfl (lv_at hl 2 rfl) ?_
          exact fw_ireti hx hb hr hlocks (congrArg (fun q => (q, z)) (Option.some.inj h)) hK hZ hP hS dX9_leastAround_31
  unfold f_X9_leastAround at h
  refine lv_iload_n hx hb dX9_leastAround_0 rfl (lv_at hl 1 rfl) ?_
  refine lv_iconst (v := (nI 1)) hx hb dX9_leastAround_1 (by decide) ?_
  refine lv_iadd hx hb dX9_leastAround_2 ?_
  refine lv_topi (fun y1 ey1 => ?_)
  replace h := gl_s h ey1
  refine lv_istore_n (lv' := [(2, .int y1), (0, .ref (ad p0)), (1, .int a1)]) hx hb dX9_leastAround_3 rfl hl (by decide) rfl (fun ls hl => ?_)
  exact j4 a1 gF y1 _ _ ls h hP hS (lv_sub hl [1, 2, 0] rfl)
theorem in_X9_hasPair_X9 : ∀ w ∈ wsX90, w ∈ wsX9_hasPair := fun w h => List.mem_cons_of_mem _ (List.mem_append_right _ (h))
theorem hdV_X9_hasPair : yX9_hasPair.cls = RX9 ∧ yX9_hasPair.cls ≠ "java/lang/invoke/MethodHandle" ∧ yX9_hasPair.cls ≠ "java/lang/invoke/VarHandle" ∧ (parseMethodDescriptor yX9_hasPair.desc).map (fun d => d.parameters.length) = some 1 := by decide +kernel
set_option maxHeartbeats 4000000 in
set_option maxRecDepth 100000 in
theorem k_X9_hasPair (l : Launch) (D : va_G) (cA : Nat → ClassId) (ad : Nat → Nat) (tw : Nat) (hG : gOk ad 315) (z : gS) (p0 : Nat) (hp0 : gC9 p0) (a1 : Int32) (res : Int32) (h : f_X9_hasPair p0 a1 z = some res) : gMi l yX9_hasPair wsX9_hasPair (gRm 0 0) D cA ad tw shX 315 [.ref (ad p0), .int a1] z (res, z) := by
  refine Met.ofW (cc := cX9_hasPair) (maxL := 4) (ret := (some .boolean)) (by decide) rfl ?_
  intro p e s m args below meth c s₁ B hml hv
  obtain ⟨rfl, hP, hK, hZ⟩ := hv
  have hx := B.exec
  have hb := B.bytes
  have hr := B.returns
  have hts := atoms_spec (ws := wsX9_hasPair) B.pre
  have hown : s.vm.findClass RX9 = some m.cls := findClass_of_methodNamed B.named
  have hlocks := B.notSynchronized
  have hS : va_S (gA ad 315) s.heap s.heap [] := va_S.rf
  have hl := lv_entry ([.ref (ad p0), .int a1]) (n := 4) (Nat.le_of_ble_eq_true rfl)
  rw [lg_entry_eq]
  generalize (lg_sl ([.ref (ad p0), .int a1]) ++ List.replicate (4 - (lg_sl ([.ref (ad p0), .int a1])).length) Slot.unset).toArray = ls at hl ⊢
  have hl : lv_has ls 4 [(0, .ref (ad p0)), (1, .int a1)] := hl
  have j9 : ∀ (x1 : Int32) (x2 : Int32) (K2 : Int32 → Option Int32) (hK2 : ∀ (x2' : Int32) (H : Heap) (locs : List Loc) (ls : Array Slot), K2 x2' = some res → va_P D vwCl (gw cA ad shX 315 z) H → va_S (gA ad 315) s.heap H locs → lv_has ls 4 [(0, .ref (ad p0)), (1, .int x1), (2, .int x2')] → W p l e (headSpec wsX9_hasPair (gRm 0 0)).room s m ([.ref (ad p0), .int a1] : List Value).toArray below meth c H locs 0 0 (MQ below (va_Qi (fun r u => (r, u) = (res, z)) (gPr D cA ad tw shX 315) (gA ad 315)) ([.ref (ad p0), .int a1] : List Value).toArray s 0 0 (gA ad 315)) (F0 m 2 ls [])) (n : Nat) (x3 : Int32) (H : Heap) (locs : List Loc) (ls : Array Slot), f_X9_hasPair_9 p0 z x1 x2 K2 n x3 = some res → va_P D vwCl (gw cA ad shX 315 z) H → va_S (gA ad 315) s.heap H locs → lv_has ls 4 [(0, .ref (ad p0)), (1, .int x1), (2, .int x2), (3, .int x3)] → W p l e (headSpec wsX9_hasPair (gRm 0 0)).room s m ([.ref (ad p0), .int a1] : List Value).toArray below meth c H locs 0 0 (MQ below (va_Qi (fun r u => (r, u) = (res, z)) (gPr D cA ad tw shX 315) (gA ad 315)) ([.ref (ad p0), .int a1] : List Value).toArray s 0 0 (gA ad 315)) (F0 m 9 ls []) := by
    intro x1 x2 K2 hK2 n
    induction n with
    | zero => intro x3 H locs ls h; exact (gno h).elim
    | succ n hK9 =>
      intro x3 H locs ls h hP hS hl
      replace h : f_X9_hasPair_9_b p0 z x1 x2 K2 (f_X9_hasPair_9 p0 z x1 x2 K2 n) x3 = some res := h
      unfold f_X9_hasPair_9_b at h
      refine lv_iload_n hx hb dX9_hasPair_9 rfl (lv_at hl 3 rfl) ?_
      refine lv_iload_n hx hb dX9_hasPair_10 rfl (lv_at hl 2 rfl) ?_
      refine lv_icmp_ge (tgt := 63) hx hb dX9_hasPair_11 (by decide) (fun c2 => ?_) (fun c2 => ?_)
      · replace h := gif_t h c2
        refine lv_iinc (v := x2 + (nI 1)) (lv' := [(2, .int (x2 + (nI 1))), (0, .ref (ad p0)), (1, .int x1), (3, .int x3)]) hx hb dX9_hasPair_63 hl (k := 2) rfl rfl (by decide) rfl (fun ls hl => ?_)
        refine lv_goto (tgt := 2) hx hb dX9_hasPair_66 (by decide) ?_
        exact hK2 (x2 + (nI 1)) _ _ ls h hP hS (lv_sub hl [1, 2, 0] rfl)
      · replace h := gif_f h c2
        refine lv_aload_n hx hb dX9_hasPair_14 rfl (lv_at hl 0 rfl) ?_
        refine fw_getr hx hb hts in_X9_hasPair_X9 hown hK hP hp0.1.1 hp0.1.2 rfl 8 (by decide) rfl (hts _ (List.mem_of_getElem? (i := 1) rfl)) rfl dX9_hasPair_15 ?_
        refine lv_iload_n hx hb dX9_hasPair_18 rfl (lv_at hl 2 rfl) ?_
        obtain ⟨h3, h⟩ := gg_s h
        refine fw_iald hx hb hK hP hp0.2.2.2.2.2.2.1 hp0.2.2.2.2.2.2.2 h3 dX9_hasPair_19 ?_
        refine lv_iload_n hx hb dX9_hasPair_20 rfl (lv_at hl 1 rfl) ?_
        refine lv_icmp_ne (tgt := 57) hx hb dX9_hasPair_21 (by decide) (fun c4 => ?_) (fun c4 => ?_)
        · replace h := gif_f h c4
          refine lv_iinc (v := x3 + (nI 1)) (lv' := [(3, .int (x3 + (nI 1))), (0, .ref (ad p0)), (1, .int x1), (2, .int x2)]) hx hb dX9_hasPair_57 hl (k := 3) rfl rfl (by decide) rfl (fun ls hl => ?_)
          refine lv_goto (tgt := 9) hx hb dX9_hasPair_60 (by decide) ?_
          exact hK9 (x3 + (nI 1)) _ _ ls h hP hS (lv_sub hl [1, 2, 3, 0] rfl)
        · replace h := gif_t h c4
          refine lv_aload_n hx hb dX9_hasPair_24 rfl (lv_at hl 0 rfl) ?_
          refine fw_getr hx hb hts in_X9_hasPair_X9 hown hK hP hp0.1.1 hp0.1.2 rfl 8 (by decide) rfl (hts _ (List.mem_of_getElem? (i := 1) rfl)) rfl dX9_hasPair_25 ?_
          refine lv_iload_n hx hb dX9_hasPair_28 rfl (lv_at hl 3 rfl) ?_
          obtain ⟨h5, h⟩ := gg_s h
          refine fw_iald hx hb hK hP hp0.2.2.2.2.2.2.1 hp0.2.2.2.2.2.2.2 h5 dX9_hasPair_29 ?_
          refine lv_iload_n hx hb dX9_hasPair_30 rfl (lv_at hl 1 rfl) ?_
          refine lv_icmp_ne (tgt := 57) hx hb dX9_hasPair_31 (by decide) (fun c6 => ?_) (fun c6 => ?_)
          · replace h := gif_f h c6
            refine lv_iinc (v := x3 + (nI 1)) (lv' := [(3, .int (x3 + (nI 1))), (0, .ref (ad p0)), (1, .int x1), (2, .int x2)]) hx hb dX9_hasPair_57 hl (k := 3) rfl rfl (by decide) rfl (fun ls hl => ?_)
            refine lv_goto (tgt := 9) hx hb dX9_hasPair_60 (by decide) ?_
            exact hK9 (x3 + (nI 1)) _ _ ls h hP hS (lv_sub hl [1, 2, 3, 0] rfl)
          · replace h := gif_t h c6
            refine lv_aload_n hx hb dX9_hasPair_34 rfl (lv_at hl 0 rfl) ?_
            refine fw_getr hx hb hts in_X9_hasPair_X9 hown hK hP hp0.1.1 hp0.1.2 rfl 0 (by decide) rfl (hts _ (List.mem_of_getElem? (i := 2) rfl)) rfl dX9_hasPair_35 ?_
            refine lv_aload_n hx hb dX9_hasPair_38 rfl (lv_at hl 0 rfl) ?_
            refine fw_getr hx hb hts in_X9_hasPair_X9 hown hK hP hp0.1.1 hp0.1.2 rfl 5 (by decide) rfl (hts _ (List.mem_of_getElem? (i := 3) rfl)) rfl dX9_hasPair_39 ?_
            refine lv_iload_n hx hb dX9_hasPair_42 rfl (lv_at hl 2 rfl) ?_
            obtain ⟨h7, h⟩ := gg_s h
            refine fw_iald hx hb hK hP hp0.2.2.2.1.1 hp0.2.2.2.1.2 h7 dX9_hasPair_43 ?_
            refine lv_aload_n hx hb dX9_hasPair_44 rfl (lv_at hl 0 rfl) ?_
            refine fw_getr hx hb hts in_X9_hasPair_X9 hown hK hP hp0.1.1 hp0.1.2 rfl 5 (by decide) rfl (hts _ (List.mem_of_getElem? (i := 3) rfl)) rfl dX9_hasPair_45 ?_
            refine lv_iload_n hx hb dX9_hasPair_48 rfl (lv_at hl 3 rfl) ?_
            obtain ⟨h8, h⟩ := gg_s h
            refine fw_iald hx hb hK hP hp0.2.2.2.1.1 hp0.2.2.2.1.2 h8 dX9_hasPair_49 ?_
            refine lv_ior hx hb dX9_hasPair_50 ?_
            obtain ⟨h9, h⟩ := gg_s h
            refine fw_zald hx hb hK hP hp0.2.1.1 hp0.2.1.2 h9 dX9_hasPair_51 ?_
            refine lv_if_eq (tgt := 57) hx hb dX9_hasPair_52 (by decide) (fun c10 => ?_) (fun c10 => ?_)
            · replace h := gif_t h c10
              refine lv_iinc (v := x3 + (nI 1)) (lv' := [(3, .int (x3 + (nI 1))), (0, .ref (ad p0)), (1, .int x1), (2, .int x2)]) hx hb dX9_hasPair_57 hl (k := 3) rfl rfl (by decide) rfl (fun ls hl => ?_)
              refine lv_goto (tgt := 9) hx hb dX9_hasPair_60 (by decide) ?_
              exact hK9 (x3 + (nI 1)) _ _ ls h hP hS (lv_sub hl [1, 2, 3, 0] rfl)
            · replace h := gif_f h c10
              refine lv_iconst (v := (nI 1)) hx hb dX9_hasPair_55 (by decide) ?_
              exact fw_iretz hx hb hr hlocks (by decide) (congrArg (fun q => (q, z)) (Option.some.inj h)) hK hZ hP hS dX9_hasPair_56
  have j2 : ∀ (x1 : Int32) (n : Nat) (x2 : Int32) (H : Heap) (locs : List Loc) (ls : Array Slot), f_X9_hasPair_2 p0 z x1 n x2 = some res → va_P D vwCl (gw cA ad shX 315 z) H → va_S (gA ad 315) s.heap H locs → lv_has ls 4 [(0, .ref (ad p0)), (1, .int x1), (2, .int x2)] → W p l e (headSpec wsX9_hasPair (gRm 0 0)).room s m ([.ref (ad p0), .int a1] : List Value).toArray below meth c H locs 0 0 (MQ below (va_Qi (fun r u => (r, u) = (res, z)) (gPr D cA ad tw shX 315) (gA ad 315)) ([.ref (ad p0), .int a1] : List Value).toArray s 0 0 (gA ad 315)) (F0 m 2 ls []) := by
    intro x1 n
    induction n with
    | zero => intro x2 H locs ls h; exact (gno h).elim
    | succ n hK2 =>
      intro x2 H locs ls h hP hS hl
      replace h : f_X9_hasPair_2_b p0 z x1 (f_X9_hasPair_2 p0 z x1 n) x2 = some res := h
      unfold f_X9_hasPair_2_b at h
      refine lv_iload_n hx hb dX9_hasPair_2 rfl (lv_at hl 2 rfl) ?_
      refine lv_iload_n hx hb dX9_hasPair_3 rfl (lv_at hl 1 rfl) ?_
      refine lv_icmp_ge (tgt := 69) hx hb dX9_hasPair_4 (by decide) (fun c1 => ?_) (fun c1 => ?_)
      · replace h := gif_t h c1
        refine lv_iconst (v := (nI 0)) hx hb dX9_hasPair_69 (by decide) ?_
        exact fw_iretz hx hb hr hlocks (by decide) (congrArg (fun q => (q, z)) (Option.some.inj h)) hK hZ hP hS dX9_hasPair_70
      · replace h := gif_f h c1
        refine lv_iconst (v := (nI 0)) hx hb dX9_hasPair_7 (by decide) ?_
        refine lv_istore_n (lv' := [(3, .int (nI 0)), (0, .ref (ad p0)), (1, .int x1), (2, .int x2)]) hx hb dX9_hasPair_8 rfl hl (by decide) rfl (fun ls hl => ?_)
        exact j9 x1 x2 _ hK2 gF (nI 0) _ _ ls h hP hS (lv_sub hl [1, 2, 3, 0] rfl)
  unfold f_X9_hasPair at h
  refine lv_iconst (v := (nI 0)) hx hb dX9_hasPair_0 (by decide) ?_
  refine lv_istore_n (lv' := [(2, .int (nI 0)), (0, .ref (ad p0)), (1, .int a1)]) hx hb dX9_hasPair_1 rfl hl (by decide) rfl (fun ls hl => ?_)
  exact j2 a1 gF (nI 0) _ _ ls h hP hS (lv_sub hl [1, 2, 0] rfl)
theorem in_X9_sortOf_X9 : ∀ w ∈ wsX90, w ∈ wsX9_sortOf := fun w h => List.mem_cons_of_mem _ (List.mem_append_right _ (h))
theorem hdV_X9_sortOf : yX9_sortOf.cls = RX9 ∧ yX9_sortOf.cls ≠ "java/lang/invoke/MethodHandle" ∧ yX9_sortOf.cls ≠ "java/lang/invoke/VarHandle" ∧ (parseMethodDescriptor yX9_sortOf.desc).map (fun d => d.parameters.length) = some 1 := by decide +kernel
set_option maxHeartbeats 4000000 in
set_option maxRecDepth 100000 in
theorem k_X9_sortOf (l : Launch) (D : va_G) (cA : Nat → ClassId) (ad : Nat → Nat) (tw : Nat) (hG : gOk ad 315) (z : gS) (p0 : Nat) (hp0 : gC9 p0) (a1 : Int32) (res : Int32) (h : f_X9_sortOf p0 a1 z = some res) : gMi l yX9_sortOf wsX9_sortOf (gRm 1 23) D cA ad tw shX 315 [.ref (ad p0), .int a1] z (res, z) := by
  refine Met.ofW (cc := cX9_sortOf) (maxL := 2) (ret := (some .int)) (by decide) rfl ?_
  intro p e s m args below meth c s₁ B hml hv
  obtain ⟨rfl, hP, hK, hZ⟩ := hv
  have hx := B.exec
  have hb := B.bytes
  have hr := B.returns
  have hts := atoms_spec (ws := wsX9_sortOf) B.pre
  have hown : s.vm.findClass RX9 = some m.cls := findClass_of_methodNamed B.named
  have hlocks := B.notSynchronized
  have hS : va_S (gA ad 315) s.heap s.heap [] := va_S.rf
  have hl := lv_entry ([.ref (ad p0), .int a1]) (n := 2) (Nat.le_of_ble_eq_true rfl)
  rw [lg_entry_eq]
  generalize (lg_sl ([.ref (ad p0), .int a1]) ++ List.replicate (2 - (lg_sl ([.ref (ad p0), .int a1])).length) Slot.unset).toArray = ls at hl ⊢
  have hl : lv_has ls 2 [(0, .ref (ad p0)), (1, .int a1)] := hl
  unfold f_X9_sortOf at h
  refine lv_aload_n hx hb dX9_sortOf_0 rfl (lv_at hl 0 rfl) ?_
  refine fw_getr hx hb hts in_X9_sortOf_X9 hown hK hP hp0.1.1 hp0.1.2 rfl 7 (by decide) rfl (hts _ (List.mem_of_getElem? (i := 1) rfl)) rfl dX9_sortOf_1 ?_
  refine lv_iload_n hx hb dX9_sortOf_4 rfl (lv_at hl 1 rfl) ?_
  obtain ⟨h1, h⟩ := gg_s h
  refine fw_iald hx hb hK hP hp0.2.2.2.2.2.1.1 hp0.2.2.2.2.2.1.2 h1 dX9_sortOf_5 ?_
  refine lv_iconst (v := (nI 2)) hx hb dX9_sortOf_6 (by decide) ?_
  refine lv_icmp_ge (tgt := 12) hx hb dX9_sortOf_7 (by decide) (fun c2 => ?_) (fun c2 => ?_)
  · replace h := gif_t h c2
    refine lv_aload_n hx hb dX9_sortOf_12 rfl (lv_at hl 0 rfl) ?_
    refine fw_getr hx hb hts in_X9_sortOf_X9 hown hK hP hp0.1.1 hp0.1.2 rfl 7 (by decide) rfl (hts _ (List.mem_of_getElem? (i := 1) rfl)) rfl dX9_sortOf_13 ?_
    refine lv_iload_n hx hb dX9_sortOf_16 rfl (lv_at hl 1 rfl) ?_
    obtain ⟨h3, h⟩ := gg_s h
    refine fw_iald hx hb hK hP hp0.2.2.2.2.2.1.1 hp0.2.2.2.2.2.1.2 h3 dX9_sortOf_17 ?_
    refine lv_iconst (v := (nI 2)) hx hb dX9_sortOf_18 (by decide) ?_
    refine lv_icmp_le (tgt := 34) hx hb dX9_sortOf_19 (by decide) (fun c4 => ?_) (fun c4 => ?_)
    · replace h := gif_t h c4
      refine lv_iconst (v := (nI 1)) hx hb dX9_sortOf_34 (by decide) ?_
      exact fw_ireti hx hb hr hlocks (congrArg (fun q => (q, z)) (Option.some.inj h)) hK hZ hP hS dX9_sortOf_35
    · replace h := gif_f h c4
      refine lv_aload_n hx hb dX9_sortOf_22 rfl (lv_at hl 0 rfl) ?_
      refine lv_iload_n hx hb dX9_sortOf_23 rfl (lv_at hl 1 rfl) ?_
      obtain ⟨q5, hq5, h⟩ := gb_s h
      refine fw_viR (As := [.int a1]) (rest := []) ⟨hx, hb, hml, hown, hts⟩ (k_X9_hasPair l D cA ad tw hG z p0 (hp0) a1 q5 hq5) (cwV 1 hts gX9_sortOf_X9_hasPair rfl rfl rfl hdV_X9_hasPair ⟨Nat.le_of_ble_eq_true rfl, Nat.le_of_ble_eq_true rfl⟩) (fw_preV hp0.1.1 hp0.1.2 rfl rfl hK hZ hP hS) rfl hl _ rfl (Nat.le_of_ble_eq_true rfl) hS dX9_sortOf_24 ⟨Nat.zero_le _, Nat.zero_le _⟩ (fun H locs hP hS => ?_)
      refine lv_if_eq (tgt := 34) hx hb dX9_sortOf_27 (by decide) (fun c6 => ?_) (fun c6 => ?_)
      · replace h := gif_t h c6
        refine lv_iconst (v := (nI 1)) hx hb dX9_sortOf_34 (by decide) ?_
        exact fw_ireti hx hb hr hlocks (congrArg (fun q => (q, z)) (Option.some.inj h)) hK hZ hP hS dX9_sortOf_35
      · replace h := gif_f h c6
        refine lv_iconst (v := (nI 2)) hx hb dX9_sortOf_30 (by decide) ?_
        refine lv_goto (tgt := 35) hx hb dX9_sortOf_31 (by decide) ?_
        exact fw_ireti hx hb hr hlocks (congrArg (fun q => (q, z)) (Option.some.inj h)) hK hZ hP hS dX9_sortOf_35
  · replace h := gif_f h c2
    refine lv_iconst (v := (nI 0)) hx hb dX9_sortOf_10 (by decide) ?_
    exact fw_ireti hx hb hr hlocks (congrArg (fun q => (q, z)) (Option.some.inj h)) hK hZ hP hS dX9_sortOf_11
theorem in_X9_make_X3 : ∀ w ∈ wsX30, w ∈ wsX9_make := fun w h => List.mem_cons_of_mem _ (List.mem_append_left _ (List.mem_append_right _ (h)))
theorem in_X9_make_X9 : ∀ w ∈ wsX90, w ∈ wsX9_make := fun w h => List.mem_cons_of_mem _ (List.mem_append_right _ (h))
theorem hdV_X9_make : yX9_make.cls = RX9 ∧ yX9_make.cls ≠ "java/lang/invoke/MethodHandle" ∧ yX9_make.cls ≠ "java/lang/invoke/VarHandle" ∧ (parseMethodDescriptor yX9_make.desc).map (fun d => d.parameters.length) = some 1 := by decide +kernel
set_option maxHeartbeats 4000000 in
set_option maxRecDepth 100000 in
theorem k_X9_make (l : Launch) (D : va_G) (cA : Nat → ClassId) (ad : Nat → Nat) (tw : Nat) (hG : gOk ad 315) (z : gS) (p0 : Nat) (hp0 : gC9 p0) (p1 : Nat) (hp1 : gC3 p1) (res : gS) (h : f_X9_make p0 p1 z = some res) : gMv l yX9_make wsX9_make (gRm 4 87) D cA ad tw shX 315 [.ref (ad p0), .ref (ad p1)] z res := by
  refine Met.ofW (cc := cX9_make) (maxL := 3) (ret := none) (by decide) rfl ?_
  intro p e s m args below meth c s₁ B hml hv
  obtain ⟨rfl, hP, hK, hZ⟩ := hv
  have hx := B.exec
  have hb := B.bytes
  have hr := B.returns
  have hts := atoms_spec (ws := wsX9_make) B.pre
  have hown : s.vm.findClass RX9 = some m.cls := findClass_of_methodNamed B.named
  have hlocks := B.notSynchronized
  have hS : va_S (gA ad 315) s.heap s.heap [] := va_S.rf
  have hl := lv_entry ([.ref (ad p0), .ref (ad p1)]) (n := 3) (Nat.le_of_ble_eq_true rfl)
  rw [lg_entry_eq]
  generalize (lg_sl ([.ref (ad p0), .ref (ad p1)]) ++ List.replicate (3 - (lg_sl ([.ref (ad p0), .ref (ad p1)])).length) Slot.unset).toArray = ls at hl ⊢
  have hl : lv_has ls 3 [(0, .ref (ad p0)), (1, .ref (ad p1))] := hl
  have j93 : ∀  (n : Nat) (x2 : Int32) (z : gS) (H : Heap) (locs : List Loc) (ls : Array Slot), f_X9_make_93 p0 p1 n x2 z = some res → va_P D vwCl (gw cA ad shX 315 z) H → va_S (gA ad 315) s.heap H locs → lv_has ls 3 [(0, .ref (ad p0)), (2, .int x2)] → W p l e (headSpec wsX9_make (gRm 4 87)).room s m ([.ref (ad p0), .ref (ad p1)] : List Value).toArray below meth c H locs 0 0 (MQ below (va_Qv (fun u => u = res) (gPr D cA ad tw shX 315) (gA ad 315)) ([.ref (ad p0), .ref (ad p1)] : List Value).toArray s 0 0 (gA ad 315)) (F0 m 93 ls []) := by
    intro n
    induction n with
    | zero => intro x2 z H locs ls h; exact (gno h).elim
    | succ n hK93 =>
      intro x2 z H locs ls h hP hS hl
      replace h : f_X9_make_93_b p0 p1 (f_X9_make_93 p0 p1 n) x2 z = some res := h
      unfold f_X9_make_93_b at h
      refine lv_iload_n hx hb dX9_make_93 rfl (lv_at hl 1 rfl) ?_
      refine lv_aload_n hx hb dX9_make_94 rfl (lv_at hl 0 rfl) ?_
      refine fw_geti hx hb hts in_X9_make_X9 hown hK hP hp0.1.1 hp0.1.2 rfl 4 (by decide) rfl (hts _ (List.mem_of_getElem? (i := 3) rfl)) rfl dX9_make_95 ?_
      refine lv_icmp_ge (tgt := 118) hx hb dX9_make_98 (by decide) (fun c17 => ?_) (fun c17 => ?_)
      · replace h := gif_t h c17
        exact fw_vret hx hb hr hlocks (Option.some.inj h) hK hZ hP hS dX9_make_118
      · replace h := gif_f h c17
        refine lv_aload_n hx hb dX9_make_101 rfl (lv_at hl 0 rfl) ?_
        refine fw_getr hx hb hts in_X9_make_X9 hown hK hP hp0.1.1 hp0.1.2 rfl 6 (by decide) rfl (hts _ (List.mem_of_getElem? (i := 6) rfl)) rfl dX9_make_102 ?_
        refine lv_iload_n hx hb dX9_make_105 rfl (lv_at hl 1 rfl) ?_
        refine lv_aload_n hx hb dX9_make_106 rfl (lv_at hl 0 rfl) ?_
        refine lv_iload_n hx hb dX9_make_107 rfl (lv_at hl 1 rfl) ?_
        obtain ⟨q18, hq18, h⟩ := gb_s h
        refine fw_viR (As := [.int x2]) (rest := [.int x2, .ref (ad (p0 + 4))]) ⟨hx, hb, hml, hown, hts⟩ (k_X9_sortOf l D cA ad tw hG z p0 (hp0) x2 q18 hq18) (cwV 1 hts gX9_make_X9_sortOf rfl rfl rfl hdV_X9_sortOf ⟨Nat.le_of_ble_eq_true rfl, Nat.le_of_ble_eq_true rfl⟩) (fw_preV hp0.1.1 hp0.1.2 rfl rfl hK hZ hP hS) rfl hl _ rfl (Nat.le_of_ble_eq_true rfl) hS dX9_make_108 ⟨Nat.zero_le _, Nat.zero_le _⟩ (fun H locs hP hS => ?_)
        obtain ⟨h19, h⟩ := gg_s h
        refine fw_iast hx hb hK hG hP hS hp0.2.2.2.2.1.1 hp0.2.2.2.2.1.2 h19 dX9_make_111 (fun z20 H locs ez20 hP hS => ?_)
        replace h := gl_s h ez20
        refine lv_iinc (v := x2 + (nI 1)) (lv' := [(2, .int (x2 + (nI 1))), (0, .ref (ad p0))]) hx hb dX9_make_112 hl (k := 1) rfl rfl (by decide) rfl (fun ls hl => ?_)
        refine lv_goto (tgt := 93) hx hb dX9_make_115 (by decide) ?_
        exact hK93 (x2 + (nI 1)) z20 _ _ ls h hP hS (lv_sub hl [1, 0] rfl)
  have j42 : ∀  (n : Nat) (x2 : Int32) (z : gS) (H : Heap) (locs : List Loc) (ls : Array Slot), f_X9_make_42 p0 p1 n x2 z = some res → va_P D vwCl (gw cA ad shX 315 z) H → va_S (gA ad 315) s.heap H locs → lv_has ls 3 [(0, .ref (ad p0)), (2, .int x2)] → W p l e (headSpec wsX9_make (gRm 4 87)).room s m ([.ref (ad p0), .ref (ad p1)] : List Value).toArray below meth c H locs 0 0 (MQ below (va_Qv (fun u => u = res) (gPr D cA ad tw shX 315) (gA ad 315)) ([.ref (ad p0), .ref (ad p1)] : List Value).toArray s 0 0 (gA ad 315)) (F0 m 42 ls []) := by
    intro n
    induction n with
    | zero => intro x2 z H locs ls h; exact (gno h).elim
    | succ n hK42 =>
      intro x2 z H locs ls h hP hS hl
      replace h : f_X9_make_42_b p0 p1 (f_X9_make_42 p0 p1 n) x2 z = some res := h
      unfold f_X9_make_42_b at h
      refine lv_iload_n hx hb dX9_make_42 rfl (lv_at hl 1 rfl) ?_
      refine lv_aload_n hx hb dX9_make_43 rfl (lv_at hl 0 rfl) ?_
      refine fw_geti hx hb hts in_X9_make_X9 hown hK hP hp0.1.1 hp0.1.2 rfl 4 (by decide) rfl (hts _ (List.mem_of_getElem? (i := 3) rfl)) rfl dX9_make_44 ?_
      refine lv_icmp_ge (tgt := 91) hx hb dX9_make_47 (by decide) (fun c7 => ?_) (fun c7 => ?_)
      · replace h := gif_t h c7
        refine lv_iconst (v := (nI 0)) hx hb dX9_make_91 (by decide) ?_
        refine lv_istore_n (lv' := [(2, .int (nI 0)), (0, .ref (ad p0))]) hx hb dX9_make_92 rfl hl (by decide) rfl (fun ls hl => ?_)
        exact j93  gF (nI 0) z _ _ ls h hP hS (lv_sub hl [1, 0] rfl)
      · replace h := gif_f h c7
        refine lv_aload_n hx hb dX9_make_50 rfl (lv_at hl 0 rfl) ?_
        refine fw_getr hx hb hts in_X9_make_X9 hown hK hP hp0.1.1 hp0.1.2 rfl 8 (by decide) rfl (hts _ (List.mem_of_getElem? (i := 5) rfl)) rfl dX9_make_51 ?_
        refine lv_iload_n hx hb dX9_make_54 rfl (lv_at hl 1 rfl) ?_
        refine lv_aload_n hx hb dX9_make_55 rfl (lv_at hl 0 rfl) ?_
        refine lv_iload_n hx hb dX9_make_56 rfl (lv_at hl 1 rfl) ?_
        obtain ⟨q8, hq8, h⟩ := gb_s h
        refine fw_viR (As := [.int x2]) (rest := [.int x2, .ref (ad (p0 + 6))]) ⟨hx, hb, hml, hown, hts⟩ (k_X9_leastAround l D cA ad tw hG z p0 (hp0) x2 q8 hq8) (cwV 1 hts gX9_make_X9_leastAround rfl rfl rfl hdV_X9_leastAround ⟨Nat.le_of_ble_eq_true rfl, Nat.le_of_ble_eq_true rfl⟩) (fw_preV hp0.1.1 hp0.1.2 rfl rfl hK hZ hP hS) rfl hl _ rfl (Nat.le_of_ble_eq_true rfl) hS dX9_make_57 ⟨Nat.zero_le _, Nat.zero_le _⟩ (fun H locs hP hS => ?_)
        obtain ⟨h9, h⟩ := gg_s h
        refine fw_iast hx hb hK hG hP hS hp0.2.2.2.2.2.2.1 hp0.2.2.2.2.2.2.2 h9 dX9_make_60 (fun z10 H locs ez10 hP hS => ?_)
        replace h := gl_s h ez10
        refine lv_aload_n hx hb dX9_make_61 rfl (lv_at hl 0 rfl) ?_
        refine fw_getr hx hb hts in_X9_make_X9 hown hK hP hp0.1.1 hp0.1.2 rfl 8 (by decide) rfl (hts _ (List.mem_of_getElem? (i := 5) rfl)) rfl dX9_make_62 ?_
        refine lv_iload_n hx hb dX9_make_65 rfl (lv_at hl 1 rfl) ?_
        obtain ⟨h11, h⟩ := gg_s h
        refine fw_iald hx hb hK hP hp0.2.2.2.2.2.2.1 hp0.2.2.2.2.2.2.2 h11 dX9_make_66 ?_
        refine lv_if_lt (tgt := 85) hx hb dX9_make_67 (by decide) (fun c12 => ?_) (fun c12 => ?_)
        · replace h := gif_t h c12
          refine lv_iinc (v := x2 + (nI 1)) (lv' := [(2, .int (x2 + (nI 1))), (0, .ref (ad p0))]) hx hb dX9_make_85 hl (k := 1) rfl rfl (by decide) rfl (fun ls hl => ?_)
          refine lv_goto (tgt := 42) hx hb dX9_make_88 (by decide) ?_
          exact hK42 (x2 + (nI 1)) z10 _ _ ls h hP hS (lv_sub hl [1, 0] rfl)
        · replace h := gif_f h c12
          refine lv_aload_n hx hb dX9_make_70 rfl (lv_at hl 0 rfl) ?_
          refine fw_getr hx hb hts in_X9_make_X9 hown hK hP hp0.1.1 hp0.1.2 rfl 7 (by decide) rfl (hts _ (List.mem_of_getElem? (i := 4) rfl)) rfl dX9_make_71 ?_
          refine lv_aload_n hx hb dX9_make_74 rfl (lv_at hl 0 rfl) ?_
          refine fw_getr hx hb hts in_X9_make_X9 hown hK hP hp0.1.1 hp0.1.2 rfl 8 (by decide) rfl (hts _ (List.mem_of_getElem? (i := 5) rfl)) rfl dX9_make_75 ?_
          refine lv_iload_n hx hb dX9_make_78 rfl (lv_at hl 1 rfl) ?_
          obtain ⟨h13, h⟩ := gg_s h
          refine fw_iald hx hb hK hP hp0.2.2.2.2.2.2.1 hp0.2.2.2.2.2.2.2 h13 dX9_make_79 ?_
          refine lv_dup2_11 hx hb dX9_make_80 rfl rfl ?_
          obtain ⟨h14, h⟩ := gg_s h
          refine fw_iald hx hb hK hP hp0.2.2.2.2.2.1.1 hp0.2.2.2.2.2.1.2 h14 dX9_make_81 ?_
          refine lv_iconst (v := (nI 1)) hx hb dX9_make_82 (by decide) ?_
          refine lv_iadd hx hb dX9_make_83 ?_
          obtain ⟨h15, h⟩ := gg_s h
          refine fw_iast hx hb hK hG hP hS hp0.2.2.2.2.2.1.1 hp0.2.2.2.2.2.1.2 h15 dX9_make_84 (fun z16 H locs ez16 hP hS => ?_)
          replace h := gl_s h ez16
          refine lv_iinc (v := x2 + (nI 1)) (lv' := [(2, .int (x2 + (nI 1))), (0, .ref (ad p0))]) hx hb dX9_make_85 hl (k := 1) rfl rfl (by decide) rfl (fun ls hl => ?_)
          refine lv_goto (tgt := 42) hx hb dX9_make_88 (by decide) ?_
          exact hK42 (x2 + (nI 1)) z16 _ _ ls h hP hS (lv_sub hl [1, 0] rfl)
  have j19 : ∀  (n : Nat) (x2 : Int32) (z : gS) (H : Heap) (locs : List Loc) (ls : Array Slot), f_X9_make_19 p0 p1 n x2 z = some res → va_P D vwCl (gw cA ad shX 315 z) H → va_S (gA ad 315) s.heap H locs → lv_has ls 3 [(0, .ref (ad p0)), (2, .int x2)] → W p l e (headSpec wsX9_make (gRm 4 87)).room s m ([.ref (ad p0), .ref (ad p1)] : List Value).toArray below meth c H locs 0 0 (MQ below (va_Qv (fun u => u = res) (gPr D cA ad tw shX 315) (gA ad 315)) ([.ref (ad p0), .ref (ad p1)] : List Value).toArray s 0 0 (gA ad 315)) (F0 m 19 ls []) := by
    intro n
    induction n with
    | zero => intro x2 z H locs ls h; exact (gno h).elim
    | succ n hK19 =>
      intro x2 z H locs ls h hP hS hl
      replace h : f_X9_make_19_b p0 p1 (f_X9_make_19 p0 p1 n) x2 z = some res := h
      unfold f_X9_make_19_b at h
      refine lv_iload_n hx hb dX9_make_19 rfl (lv_at hl 1 rfl) ?_
      refine lv_aload_n hx hb dX9_make_20 rfl (lv_at hl 0 rfl) ?_
      refine fw_geti hx hb hts in_X9_make_X9 hown hK hP hp0.1.1 hp0.1.2 rfl 4 (by decide) rfl (hts _ (List.mem_of_getElem? (i := 3) rfl)) rfl dX9_make_21 ?_
      refine lv_icmp_ge (tgt := 40) hx hb dX9_make_24 (by decide) (fun c4 => ?_) (fun c4 => ?_)
      · replace h := gif_t h c4
        refine lv_iconst (v := (nI 0)) hx hb dX9_make_40 (by decide) ?_
        refine lv_istore_n (lv' := [(2, .int (nI 0)), (0, .ref (ad p0))]) hx hb dX9_make_41 rfl hl (by decide) rfl (fun ls hl => ?_)
        exact j42  gF (nI 0) z _ _ ls h hP hS (lv_sub hl [1, 0] rfl)
      · replace h := gif_f h c4
        refine lv_aload_n hx hb dX9_make_27 rfl (lv_at hl 0 rfl) ?_
        refine fw_getr hx hb hts in_X9_make_X9 hown hK hP hp0.1.1 hp0.1.2 rfl 7 (by decide) rfl (hts _ (List.mem_of_getElem? (i := 4) rfl)) rfl dX9_make_28 ?_
        refine lv_iload_n hx hb dX9_make_31 rfl (lv_at hl 1 rfl) ?_
        refine lv_iconst (v := (nI 0)) hx hb dX9_make_32 (by decide) ?_
        obtain ⟨h5, h⟩ := gg_s h
        refine fw_iast hx hb hK hG hP hS hp0.2.2.2.2.2.1.1 hp0.2.2.2.2.2.1.2 h5 dX9_make_33 (fun z6 H locs ez6 hP hS => ?_)
        replace h := gl_s h ez6
        refine lv_iinc (v := x2 + (nI 1)) (lv' := [(2, .int (x2 + (nI 1))), (0, .ref (ad p0))]) hx hb dX9_make_34 hl (k := 1) rfl rfl (by decide) rfl (fun ls hl => ?_)
        refine lv_goto (tgt := 19) hx hb dX9_make_37 (by decide) ?_
        exact hK19 (x2 + (nI 1)) z6 _ _ ls h hP hS (lv_sub hl [1, 0] rfl)
  unfold f_X9_make at h
  refine lv_aload_n hx hb dX9_make_0 rfl (lv_at hl 0 rfl) ?_
  refine lv_aload_n hx hb dX9_make_1 rfl (lv_at hl 1 rfl) ?_
  refine fw_geti hx hb hts in_X9_make_X3 hown hK hP hp1.1.1 hp1.1.2 rfl 4 (by decide) rfl (hts _ (List.mem_of_getElem? (i := 1) rfl)) rfl dX9_make_2 ?_
  refine fw_put hx hb hts in_X9_make_X9 tyX9_ok nmX9 hown hK hG hP hS hp0.1.1 hp0.1.2 rfl 2 (by decide) rfl (hts _ (List.mem_of_getElem? (i := 2) rfl)) rfl rfl (ty := .int) rfl rfl rfl dX9_make_5 (fun z1 H locs ez1 hP hS => ?_)
  replace h := gl_s h ez1
  refine lv_aload_n hx hb dX9_make_8 rfl (lv_at hl 0 rfl) ?_
  refine lv_aload_n hx hb dX9_make_9 rfl (lv_at hl 1 rfl) ?_
  obtain ⟨q2, hq2, h⟩ := gb_s h
  refine fw_vv (As := [.ref (ad p1)]) (rest := []) ⟨hx, hb, hml, hown, hts⟩ (k_X9_findClusters l D cA ad tw hG z1 p0 (hp0) p1 (hp1) q2 hq2) (cwV 1 hts gX9_make_X9_findClusters rfl rfl rfl hdV_X9_findClusters ⟨Nat.le_of_ble_eq_true rfl, Nat.le_of_ble_eq_true rfl⟩) (fw_preV hp0.1.1 hp0.1.2 rfl rfl hK hZ hP hS) rfl hl _ rfl (Nat.le_of_ble_eq_true rfl) hS dX9_make_10 ⟨Nat.zero_le _, Nat.zero_le _⟩ (fun H locs hP hS => ?_)
  refine lv_aload_n hx hb dX9_make_13 rfl (lv_at hl 0 rfl) ?_
  obtain ⟨q3, hq3, h⟩ := gb_s h
  refine fw_vv (As := []) (rest := []) ⟨hx, hb, hml, hown, hts⟩ (k_X9_findKnots l D cA ad tw hG q2 p0 (hp0) q3 hq3) (cwV 0 hts gX9_make_X9_findKnots rfl rfl rfl hdV_X9_findKnots ⟨Nat.le_of_ble_eq_true rfl, Nat.le_of_ble_eq_true rfl⟩) (fw_preV hp0.1.1 hp0.1.2 rfl rfl hK hZ hP hS) rfl hl _ rfl (Nat.le_of_ble_eq_true rfl) hS dX9_make_14 ⟨Nat.zero_le _, Nat.zero_le _⟩ (fun H locs hP hS => ?_)
  refine lv_iconst (v := (nI 0)) hx hb dX9_make_17 (by decide) ?_
  refine lv_istore_n (lv' := [(2, .int (nI 0)), (0, .ref (ad p0)), (1, .ref (ad p1))]) hx hb dX9_make_18 rfl hl (by decide) rfl (fun ls hl => ?_)
  exact j19  gF (nI 0) q3 _ _ ls h hP hS (lv_sub hl [1, 0] rfl)
theorem in_X9_ofSort_X9 : ∀ w ∈ wsX90, w ∈ wsX9_ofSort := fun w h => List.mem_cons_of_mem _ (List.mem_append_right _ (h))
theorem hdV_X9_ofSort : yX9_ofSort.cls = RX9 ∧ yX9_ofSort.cls ≠ "java/lang/invoke/MethodHandle" ∧ yX9_ofSort.cls ≠ "java/lang/invoke/VarHandle" ∧ (parseMethodDescriptor yX9_ofSort.desc).map (fun d => d.parameters.length) = some 1 := by decide +kernel
set_option maxHeartbeats 4000000 in
set_option maxRecDepth 100000 in
theorem k_X9_ofSort (l : Launch) (D : va_G) (cA : Nat → ClassId) (ad : Nat → Nat) (tw : Nat) (hG : gOk ad 315) (z : gS) (p0 : Nat) (hp0 : gC9 p0) (a1 : Int32) (res : Int32) (h : f_X9_ofSort p0 a1 z = some res) : gMi l yX9_ofSort wsX9_ofSort (gRm 0 0) D cA ad tw shX 315 [.ref (ad p0), .int a1] z (res, z) := by
  refine Met.ofW (cc := cX9_ofSort) (maxL := 4) (ret := (some .int)) (by decide) rfl ?_
  intro p e s m args below meth c s₁ B hml hv
  obtain ⟨rfl, hP, hK, hZ⟩ := hv
  have hx := B.exec
  have hb := B.bytes
  have hr := B.returns
  have hts := atoms_spec (ws := wsX9_ofSort) B.pre
  have hown : s.vm.findClass RX9 = some m.cls := findClass_of_methodNamed B.named
  have hlocks := B.notSynchronized
  have hS : va_S (gA ad 315) s.heap s.heap [] := va_S.rf
  have hl := lv_entry ([.ref (ad p0), .int a1]) (n := 4) (Nat.le_of_ble_eq_true rfl)
  rw [lg_entry_eq]
  generalize (lg_sl ([.ref (ad p0), .int a1]) ++ List.replicate (4 - (lg_sl ([.ref (ad p0), .int a1])).length) Slot.unset).toArray = ls at hl ⊢
  have hl : lv_has ls 4 [(0, .ref (ad p0)), (1, .int a1)] := hl
  have j4 : ∀ (x1 : Int32) (n : Nat) (x2 : Int32) (x3 : Int32) (H : Heap) (locs : List Loc) (ls : Array Slot), f_X9_ofSort_4 p0 z x1 n x2 x3 = some res → va_P D vwCl (gw cA ad shX 315 z) H → va_S (gA ad 315) s.heap H locs → lv_has ls 4 [(0, .ref (ad p0)), (1, .int x1), (2, .int x2), (3, .int x3)] → W p l e (headSpec wsX9_ofSort (gRm 0 0)).room s m ([.ref (ad p0), .int a1] : List Value).toArray below meth c H locs 0 0 (MQ below (va_Qi (fun r u => (r, u) = (res, z)) (gPr D cA ad tw shX 315) (gA ad 315)) ([.ref (ad p0), .int a1] : List Value).toArray s 0 0 (gA ad 315)) (F0 m 4 ls []) := by
    intro x1 n
    induction n with
    | zero => intro x2 x3 H locs ls h; exact (gno h).elim
    | succ n hK4 =>
      intro x2 x3 H locs ls h hP hS hl
      replace h : f_X9_ofSort_4_b p0 z x1 (f_X9_ofSort_4 p0 z x1 n) x2 x3 = some res := h
      unfold f_X9_ofSort_4_b at h
      refine lv_iload_n hx hb dX9_ofSort_4 rfl (lv_at hl 3 rfl) ?_
      refine lv_aload_n hx hb dX9_ofSort_5 rfl (lv_at hl 0 rfl) ?_
      refine fw_geti hx hb hts in_X9_ofSort_X9 hown hK hP hp0.1.1 hp0.1.2 rfl 4 (by decide) rfl (hts _ (List.mem_of_getElem? (i := 1) rfl)) rfl dX9_ofSort_6 ?_
      refine lv_icmp_ge (tgt := 31) hx hb dX9_ofSort_9 (by decide) (fun c1 => ?_) (fun c1 => ?_)
      · replace h := gif_t h c1
        refine lv_iload_n hx hb dX9_ofSort_31 rfl (lv_at hl 2 rfl) ?_
        exact fw_ireti hx hb hr hlocks (congrArg (fun q => (q, z)) (Option.some.inj h)) hK hZ hP hS dX9_ofSort_32
      · replace h := gif_f h c1
        refine lv_aload_n hx hb dX9_ofSort_12 rfl (lv_at hl 0 rfl) ?_
        refine fw_getr hx hb hts in_X9_ofSort_X9 hown hK hP hp0.1.1 hp0.1.2 rfl 6 (by decide) rfl (hts _ (List.mem_of_getElem? (i := 2) rfl)) rfl dX9_ofSort_13 ?_
        refine lv_iload_n hx hb dX9_ofSort_16 rfl (lv_at hl 3 rfl) ?_
        obtain ⟨h2, h⟩ := gg_s h
        refine fw_iald hx hb hK hP hp0.2.2.2.2.1.1 hp0.2.2.2.2.1.2 h2 dX9_ofSort_17 ?_
        refine lv_iload_n hx hb dX9_ofSort_18 rfl (lv_at hl 1 rfl) ?_
        refine lv_icmp_ne (tgt := 25) hx hb dX9_ofSort_19 (by decide) (fun c3 => ?_) (fun c3 => ?_)
        · replace h := gif_f h c3
          refine lv_iinc (v := x3 + (nI 1)) (lv' := [(3, .int (x3 + (nI 1))), (0, .ref (ad p0)), (1, .int x1), (2, .int x2)]) hx hb dX9_ofSort_25 hl (k := 3) rfl rfl (by decide) rfl (fun ls hl => ?_)
          refine lv_goto (tgt := 4) hx hb dX9_ofSort_28 (by decide) ?_
          exact hK4 x2 (x3 + (nI 1)) _ _ ls h hP hS (lv_sub hl [1, 2, 3, 0] rfl)
        · replace h := gif_t h c3
          refine lv_iinc (v := x2 + (nI 1)) (lv' := [(2, .int (x2 + (nI 1))), (0, .ref (ad p0)), (1, .int x1), (3, .int x3)]) hx hb dX9_ofSort_22 hl (k := 2) rfl rfl (by decide) rfl (fun ls hl => ?_)
          refine lv_iinc (v := x3 + (nI 1)) (lv' := [(3, .int (x3 + (nI 1))), (2, .int (x2 + (nI 1))), (0, .ref (ad p0)), (1, .int x1)]) hx hb dX9_ofSort_25 hl (k := 3) rfl rfl (by decide) rfl (fun ls hl => ?_)
          refine lv_goto (tgt := 4) hx hb dX9_ofSort_28 (by decide) ?_
          exact hK4 (x2 + (nI 1)) (x3 + (nI 1)) _ _ ls h hP hS (lv_sub hl [2, 3, 1, 0] rfl)
  unfold f_X9_ofSort at h
  refine lv_iconst (v := (nI 0)) hx hb dX9_ofSort_0 (by decide) ?_
  refine lv_istore_n (lv' := [(2, .int (nI 0)), (0, .ref (ad p0)), (1, .int a1)]) hx hb dX9_ofSort_1 rfl hl (by decide) rfl (fun ls hl => ?_)
  refine lv_iconst (v := (nI 0)) hx hb dX9_ofSort_2 (by decide) ?_
  refine lv_istore_n (lv' := [(3, .int (nI 0)), (2, .int (nI 0)), (0, .ref (ad p0)), (1, .int a1)]) hx hb dX9_ofSort_3 rfl hl (by decide) rfl (fun ls hl => ?_)
  exact j4 a1 gF (nI 0) (nI 0) _ _ ls h hP hS (lv_sub hl [2, 3, 1, 0] rfl)
theorem in_X9_product_X9 : ∀ w ∈ wsX90, w ∈ wsX9_product := fun w h => List.mem_cons_of_mem _ (List.mem_append_right _ (h))
theorem hdV_X9_product : yX9_product.cls = RX9 ∧ yX9_product.cls ≠ "java/lang/invoke/MethodHandle" ∧ yX9_product.cls ≠ "java/lang/invoke/VarHandle" ∧ (parseMethodDescriptor yX9_product.desc).map (fun d => d.parameters.length) = some 0 := by decide +kernel
set_option maxHeartbeats 4000000 in
set_option maxRecDepth 100000 in
theorem k_X9_product (l : Launch) (D : va_G) (cA : Nat → ClassId) (ad : Nat → Nat) (tw : Nat) (hG : gOk ad 315) (z : gS) (p0 : Nat) (hp0 : gC9 p0) (res : Int64) (h : f_X9_product p0 z = some res) : gMl l yX9_product wsX9_product (gRm 0 0) D cA ad tw shX 315 [.ref (ad p0)] z (res, z) := by
  refine Met.ofW (cc := cX9_product) (maxL := 5) (ret := (some .long)) (by decide) rfl ?_
  intro p e s m args below meth c s₁ B hml hv
  obtain ⟨rfl, hP, hK, hZ⟩ := hv
  have hx := B.exec
  have hb := B.bytes
  have hr := B.returns
  have hts := atoms_spec (ws := wsX9_product) B.pre
  have hown : s.vm.findClass RX9 = some m.cls := findClass_of_methodNamed B.named
  have hlocks := B.notSynchronized
  have hS : va_S (gA ad 315) s.heap s.heap [] := va_S.rf
  have hl := lv_entry ([.ref (ad p0)]) (n := 5) (Nat.le_of_ble_eq_true rfl)
  rw [lg_entry_eq]
  generalize (lg_sl ([.ref (ad p0)]) ++ List.replicate (5 - (lg_sl ([.ref (ad p0)])).length) Slot.unset).toArray = ls at hl ⊢
  have hl : lv_has ls 5 [(0, .ref (ad p0))] := hl
  have j15 : ∀ (x3 : Int32) (K4 : Int64 → Int32 → Option Int64) (hK4 : ∀ (x1' : Int64) (x3' : Int32) (H : Heap) (locs : List Loc) (ls : Array Slot), K4 x1' x3' = some res → va_P D vwCl (gw cA ad shX 315 z) H → va_S (gA ad 315) s.heap H locs → lv_has ls 5 [(0, .ref (ad p0)), (1, .long x1'), (3, .int x3')] → W p l e (headSpec wsX9_product (gRm 0 0)).room s m ([.ref (ad p0)] : List Value).toArray below meth c H locs 0 0 (MQ below (va_Ql (fun r u => (r, u) = (res, z)) (gPr D cA ad tw shX 315) (gA ad 315)) ([.ref (ad p0)] : List Value).toArray s 0 0 (gA ad 315)) (F0 m 4 ls [])) (n : Nat) (x1 : Int64) (x4 : Int32) (H : Heap) (locs : List Loc) (ls : Array Slot), f_X9_product_15 p0 z x3 K4 n x1 x4 = some res → va_P D vwCl (gw cA ad shX 315 z) H → va_S (gA ad 315) s.heap H locs → lv_has ls 5 [(0, .ref (ad p0)), (1, .long x1), (3, .int x3), (4, .int x4)] → W p l e (headSpec wsX9_product (gRm 0 0)).room s m ([.ref (ad p0)] : List Value).toArray below meth c H locs 0 0 (MQ below (va_Ql (fun r u => (r, u) = (res, z)) (gPr D cA ad tw shX 315) (gA ad 315)) ([.ref (ad p0)] : List Value).toArray s 0 0 (gA ad 315)) (F0 m 15 ls []) := by
    intro x3 K4 hK4 n
    induction n with
    | zero => intro x1 x4 H locs ls h; exact (gno h).elim
    | succ n hK15 =>
      intro x1 x4 H locs ls h hP hS hl
      replace h : f_X9_product_15_b p0 z x3 K4 (f_X9_product_15 p0 z x3 K4 n) x1 x4 = some res := h
      unfold f_X9_product_15_b at h
      refine lv_iload hx hb dX9_product_15 (lv_at hl 3 rfl) ?_
      refine lv_aload_n hx hb dX9_product_17 rfl (lv_at hl 0 rfl) ?_
      refine fw_getr hx hb hts in_X9_product_X9 hown hK hP hp0.1.1 hp0.1.2 rfl 7 (by decide) rfl (hts _ (List.mem_of_getElem? (i := 2) rfl)) rfl dX9_product_18 ?_
      refine lv_iload_n hx hb dX9_product_21 rfl (lv_at hl 2 rfl) ?_
      obtain ⟨h2, h⟩ := gg_s h
      refine fw_iald hx hb hK hP hp0.2.2.2.2.2.1.1 hp0.2.2.2.2.2.1.2 h2 dX9_product_22 ?_
      refine lv_icmp_gt (tgt := 48) hx hb dX9_product_23 (by decide) (fun c3 => ?_) (fun c3 => ?_)
      · replace h := gif_t h c3
        refine lv_aload_n hx hb dX9_product_48 rfl (lv_at hl 0 rfl) ?_
        refine fw_getr hx hb hts in_X9_product_X9 hown hK hP hp0.1.1 hp0.1.2 rfl 6 (by decide) rfl (hts _ (List.mem_of_getElem? (i := 3) rfl)) rfl dX9_product_49 ?_
        refine lv_iload_n hx hb dX9_product_52 rfl (lv_at hl 2 rfl) ?_
        obtain ⟨h4, h⟩ := gg_s h
        refine fw_iald hx hb hK hP hp0.2.2.2.2.1.1 hp0.2.2.2.2.1.2 h4 dX9_product_53 ?_
        refine lv_iconst (v := (nI 2)) hx hb dX9_product_54 (by decide) ?_
        refine lv_icmp_ne (tgt := 64) hx hb dX9_product_55 (by decide) (fun c5 => ?_) (fun c5 => ?_)
        · replace h := gif_f h c5
          refine lv_iinc (v := x3 + (nI 1)) (lv' := [(3, .int (x3 + (nI 1))), (0, .ref (ad p0)), (1, .long x1), (4, .int x4)]) hx hb dX9_product_64 hl (k := 2) rfl rfl (by decide) rfl (fun ls hl => ?_)
          refine lv_goto (tgt := 4) hx hb dX9_product_67 (by decide) ?_
          exact hK4 x1 (x3 + (nI 1)) _ _ ls h hP hS (lv_sub hl [1, 2, 0] rfl)
        · replace h := gif_t h c5
          refine lv_lload_n hx hb dX9_product_58 rfl (lv_at hl 1 rfl) ?_
          refine lv_ldc2 (v := 2) hx hb hown (hts _ (List.mem_of_getElem? (i := 4) rfl)) dX9_product_59 ?_
          refine lv_lmul hx hb dX9_product_62 ?_
          refine lv_topl (fun y6 ey6 => ?_)
          replace h := gl_s h ey6
          refine lv_lstore_n (lv' := [(1, .long y6), (0, .ref (ad p0)), (3, .int x3), (4, .int x4)]) hx hb dX9_product_63 rfl hl (by decide) rfl (fun ls hl => ?_)
          refine lv_iinc (v := x3 + (nI 1)) (lv' := [(3, .int (x3 + (nI 1))), (1, .long y6), (0, .ref (ad p0)), (4, .int x4)]) hx hb dX9_product_64 hl (k := 2) rfl rfl (by decide) rfl (fun ls hl => ?_)
          refine lv_goto (tgt := 4) hx hb dX9_product_67 (by decide) ?_
          exact hK4 y6 (x3 + (nI 1)) _ _ ls h hP hS (lv_sub hl [2, 1, 0] rfl)
      · replace h := gif_f h c3
        refine lv_aload_n hx hb dX9_product_26 rfl (lv_at hl 0 rfl) ?_
        refine fw_getr hx hb hts in_X9_product_X9 hown hK hP hp0.1.1 hp0.1.2 rfl 6 (by decide) rfl (hts _ (List.mem_of_getElem? (i := 3) rfl)) rfl dX9_product_27 ?_
        refine lv_iload_n hx hb dX9_product_30 rfl (lv_at hl 2 rfl) ?_
        obtain ⟨h7, h⟩ := gg_s h
        refine fw_iald hx hb hK hP hp0.2.2.2.2.1.1 hp0.2.2.2.2.1.2 h7 dX9_product_31 ?_
        refine lv_iconst (v := (nI 1)) hx hb dX9_product_32 (by decide) ?_
        refine lv_icmp_ne (tgt := 48) hx hb dX9_product_33 (by decide) (fun c8 => ?_) (fun c8 => ?_)
        · replace h := gif_f h c8
          refine lv_aload_n hx hb dX9_product_48 rfl (lv_at hl 0 rfl) ?_
          refine fw_getr hx hb hts in_X9_product_X9 hown hK hP hp0.1.1 hp0.1.2 rfl 6 (by decide) rfl (hts _ (List.mem_of_getElem? (i := 3) rfl)) rfl dX9_product_49 ?_
          refine lv_iload_n hx hb dX9_product_52 rfl (lv_at hl 2 rfl) ?_
          obtain ⟨h9, h⟩ := gg_s h
          refine fw_iald hx hb hK hP hp0.2.2.2.2.1.1 hp0.2.2.2.2.1.2 h9 dX9_product_53 ?_
          refine lv_iconst (v := (nI 2)) hx hb dX9_product_54 (by decide) ?_
          refine lv_icmp_ne (tgt := 64) hx hb dX9_product_55 (by decide) (fun c10 => ?_) (fun c10 => ?_)
          · replace h := gif_f h c10
            refine lv_iinc (v := x3 + (nI 1)) (lv' := [(3, .int (x3 + (nI 1))), (0, .ref (ad p0)), (1, .long x1), (4, .int x4)]) hx hb dX9_product_64 hl (k := 2) rfl rfl (by decide) rfl (fun ls hl => ?_)
            refine lv_goto (tgt := 4) hx hb dX9_product_67 (by decide) ?_
            exact hK4 x1 (x3 + (nI 1)) _ _ ls h hP hS (lv_sub hl [1, 2, 0] rfl)
          · replace h := gif_t h c10
            refine lv_lload_n hx hb dX9_product_58 rfl (lv_at hl 1 rfl) ?_
            refine lv_ldc2 (v := 2) hx hb hown (hts _ (List.mem_of_getElem? (i := 4) rfl)) dX9_product_59 ?_
            refine lv_lmul hx hb dX9_product_62 ?_
            refine lv_topl (fun y11 ey11 => ?_)
            replace h := gl_s h ey11
            refine lv_lstore_n (lv' := [(1, .long y11), (0, .ref (ad p0)), (3, .int x3), (4, .int x4)]) hx hb dX9_product_63 rfl hl (by decide) rfl (fun ls hl => ?_)
            refine lv_iinc (v := x3 + (nI 1)) (lv' := [(3, .int (x3 + (nI 1))), (1, .long y11), (0, .ref (ad p0)), (4, .int x4)]) hx hb dX9_product_64 hl (k := 2) rfl rfl (by decide) rfl (fun ls hl => ?_)
            refine lv_goto (tgt := 4) hx hb dX9_product_67 (by decide) ?_
            exact hK4 y11 (x3 + (nI 1)) _ _ ls h hP hS (lv_sub hl [2, 1, 0] rfl)
        · replace h := gif_t h c8
          refine lv_lload_n hx hb dX9_product_36 rfl (lv_at hl 1 rfl) ?_
          refine lv_iload hx hb dX9_product_37 (lv_at hl 3 rfl) ?_
          refine lv_i2l (v := x4.toInt64) hx hb dX9_product_39 rfl ?_
          refine lv_lmul hx hb dX9_product_40 ?_
          refine lv_topl (fun y12 ey12 => ?_)
          replace h := gl_s h ey12
          refine lv_lstore_n (lv' := [(1, .long y12), (0, .ref (ad p0)), (3, .int x3), (4, .int x4)]) hx hb dX9_product_41 rfl hl (by decide) rfl (fun ls hl => ?_)
          refine lv_iinc (v := x4 + (nI 1)) (lv' := [(4, .int (x4 + (nI 1))), (1, .long y12), (0, .ref (ad p0)), (3, .int x3)]) hx hb dX9_product_42 hl (k := 3) rfl rfl (by decide) rfl (fun ls hl => ?_)
          refine lv_goto (tgt := 15) hx hb dX9_product_45 (by decide) ?_
          exact hK15 y12 (x4 + (nI 1)) _ _ ls h hP hS (lv_sub hl [2, 1, 3, 0] rfl)
  have j4 : ∀  (n : Nat) (x1 : Int64) (x3 : Int32) (H : Heap) (locs : List Loc) (ls : Array Slot), f_X9_product_4 p0 z n x1 x3 = some res → va_P D vwCl (gw cA ad shX 315 z) H → va_S (gA ad 315) s.heap H locs → lv_has ls 5 [(0, .ref (ad p0)), (1, .long x1), (3, .int x3)] → W p l e (headSpec wsX9_product (gRm 0 0)).room s m ([.ref (ad p0)] : List Value).toArray below meth c H locs 0 0 (MQ below (va_Ql (fun r u => (r, u) = (res, z)) (gPr D cA ad tw shX 315) (gA ad 315)) ([.ref (ad p0)] : List Value).toArray s 0 0 (gA ad 315)) (F0 m 4 ls []) := by
    intro n
    induction n with
    | zero => intro x1 x3 H locs ls h; exact (gno h).elim
    | succ n hK4 =>
      intro x1 x3 H locs ls h hP hS hl
      replace h : f_X9_product_4_b p0 z (f_X9_product_4 p0 z n) x1 x3 = some res := h
      unfold f_X9_product_4_b at h
      refine lv_iload_n hx hb dX9_product_4 rfl (lv_at hl 2 rfl) ?_
      refine lv_aload_n hx hb dX9_product_5 rfl (lv_at hl 0 rfl) ?_
      refine fw_geti hx hb hts in_X9_product_X9 hown hK hP hp0.1.1 hp0.1.2 rfl 4 (by decide) rfl (hts _ (List.mem_of_getElem? (i := 1) rfl)) rfl dX9_product_6 ?_
      refine lv_icmp_ge (tgt := 70) hx hb dX9_product_9 (by decide) (fun c1 => ?_) (fun c1 => ?_)
      · replace h := gif_t h c1
        refine lv_lload_n hx hb dX9_product_70 rfl (lv_at hl 1 rfl) ?_
        exact fw_lret hx hb hr hlocks (congrArg (fun q => (q, z)) (Option.some.inj h)) hK hZ hP hS dX9_product_71
      · replace h := gif_f h c1
        refine lv_iconst (v := (nI 2)) hx hb dX9_product_12 (by decide) ?_
        refine lv_istore (lv' := [(4, .int (nI 2)), (0, .ref (ad p0)), (1, .long x1), (3, .int x3)]) hx hb dX9_product_13 hl (by decide) rfl (fun ls hl => ?_)
        exact j15 x3 _ hK4 gF x1 (nI 2) _ _ ls h hP hS (lv_sub hl [1, 2, 3, 0] rfl)
  unfold f_X9_product at h
  refine lv_lconst (v := 1) hx hb dX9_product_0 (by decide) ?_
  refine lv_lstore_n (lv' := [(1, .long 1), (0, .ref (ad p0))]) hx hb dX9_product_1 rfl hl (by decide) rfl (fun ls hl => ?_)
  refine lv_iconst (v := (nI 0)) hx hb dX9_product_2 (by decide) ?_
  refine lv_istore_n (lv' := [(3, .int (nI 0)), (1, .long 1), (0, .ref (ad p0))]) hx hb dX9_product_3 rfl hl (by decide) rfl (fun ls hl => ?_)
  exact j4  gF 1 (nI 0) _ _ ls h hP hS (lv_sub hl [2, 1, 0] rfl)
