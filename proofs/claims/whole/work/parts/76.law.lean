theorem fl_cmp {x y : Int64} (h : x = y) : lg_cmp x y = 0 := by
  subst h
  simp [lg_cmp]
theorem law_next {p : Program} {l : Launch} {e : Env} {s : State} {m : MethodId} {below : List Frame} {meth : Method} {c : Code} {b L : Nat} {xs : Nat → Int32} {D : va_G} {cA : Nat → ClassId} {h1 h2 : Nat} {mc ms : Nat} {x3 : Int32} {z w : gS} {H : Heap} {locs : List Loc} {ls : Array Slot} (C0 : lw_At p s m meth c b L xs) (K : Int32 → gS → gS → Option Unit) (hK18 : ∀ (x3 : Int32) (z w : gS) (H : Heap) (locs : List Loc) (ls : Array Slot), K x3 z w = some () → va_P D vwCl (gw cA (fun k => h1 + k) shX 315 z) H → va_P D vwCl (gw cA (fun k => h2 + k) shM 22 w) H → va_S (gAL s) s.heap H locs → lv_has ls 4 [(3, .int x3), (0, .ref b), (1, .ref (h1 + 0)), (2, .ref (h2 + 0))] → W p l e room_1 s m #[Value.ref b] below meth c H locs mc ms (lw_Z below #[Value.ref b] s) (F0 m 18 ls [])) (h : K (x3 + (nI 4)) z w = some ()) (hP : va_P D vwCl (gw cA (fun k => h1 + k) shX 315 z) H) (hQ : va_P D vwCl (gw cA (fun k => h2 + k) shM 22 w) H) (hS : va_S (gAL s) s.heap H locs) (hl : lv_has ls 4 [(3, .int x3), (0, .ref b), (1, .ref (h1 + 0)), (2, .ref (h2 + 0))]) : W p l e room_1 s m #[Value.ref b] below meth c H locs mc ms (lw_Z below #[Value.ref b] s) (F0 m 1232 ls []) := by
  obtain ⟨hx, hb, hr, hml, hown, hts0, hX, hbl, hlocks, hgv⟩ := id C0
  have hb : c.code = cL_law := hb
  refine lv_iinc (v := x3 + (nI 4)) (lv' := [(3, .int (x3 + (nI 4))), (0, .ref b), (1, .ref (h1 + 0)), (2, .ref (h2 + 0))]) hx hb dL_law_1232 hl (k := 0) rfl rfl (by decide) rfl (fun ls hl => ?_)
  refine lv_goto (tgt := 18) hx hb dL_law_1235 (by decide) ?_
  exact hK18 _ z w H locs ls h hP hQ hS (lv_sub hl [0, 1, 2, 3] rfl)
set_option maxHeartbeats 4000000 in
set_option maxRecDepth 100000 in
theorem mlaw_0 {p : Program} {l : Launch} {e : Env} {s : State} {m : MethodId} {below : List Frame} {meth : Method} {c : Code} {b L : Nat} {xs : Nat → Int32} {D : va_G} {cA : Nat → ClassId} {h1 h2 tw mc ms : Nat} (C0 : lw_At p s m meth c b L xs) (hK : va_K D vwCl (gty cA) s) (hZ : gSt tw (gAL s) s s.heap) (hh1 : s.heap.size ≤ h1) (hh2 : h1 + 315 ≤ h2) (hmc : mc ≤ 600000) (hms : ms ≤ 7302250) (K : Int32 → gS → gS → Option Unit) (hK18 : ∀ (x3 : Int32) (z w : gS) (H : Heap) (locs : List Loc) (ls : Array Slot), K x3 z w = some () → va_P D vwCl (gw cA (fun k => h1 + k) shX 315 z) H → va_P D vwCl (gw cA (fun k => h2 + k) shM 22 w) H → va_S (gAL s) s.heap H locs → lv_has ls 4 [(3, .int x3), (0, .ref b), (1, .ref (h1 + 0)), (2, .ref (h2 + 0))] → W p l e room_1 s m #[Value.ref b] below meth c H locs mc ms (lw_Z below #[Value.ref b] s) (F0 m 18 ls [])) (x3 : Int32) (z w : gS) (H : Heap) (locs : List Loc) (ls : Array Slot) (h : f_law_0 xs L K x3 z w = some ()) (hP : va_P D vwCl (gw cA (fun k => h1 + k) shX 315 z) H) (hQ : va_P D vwCl (gw cA (fun k => h2 + k) shM 22 w) H) (hS : va_S (gAL s) s.heap H locs) (hl : lv_has ls 4 [(3, .int x3), (0, .ref b), (1, .ref (h1 + 0)), (2, .ref (h2 + 0))]) : W p l e room_1 s m #[Value.ref b] below meth c H locs mc ms (lw_Z below #[Value.ref b] s) (F0 m 204 ls []) := by
  obtain ⟨hx, hb, hr, hml, hown, hts0, hX, hbl, hlocks, hgv⟩ := id C0
  have hb : c.code = cL_law := hb
  have hts := hts0
  have hown : s.vm.findClass RL = some m.cls := hown
  have hbA : ¬ gAL s b := Nat.not_le.mpr hbl
  have hG1 : gOk (fun k => h1 + k) 315 := fun i j _ _ e => by have e : h1 + i = h1 + j := e; omega
  have hG2 : gOk (fun k => h2 + k) 22 := fun i j _ _ e => by have e : h2 + i = h2 + j := e; omega
  have hA1 : ∀ q, gA (fun k => h1 + k) 315 q → gAL s q := fun q h => by obtain ⟨k, _, rfl⟩ := h; show s.heap.size ≤ h1 + k; omega
  have hA2 : ∀ q, gA (fun k => h2 + k) 22 q → gAL s q := fun q h => by obtain ⟨k, _, rfl⟩ := h; show s.heap.size ≤ h2 + k; omega
  have j1232 := fun (x3 : Int32) (z w : gS) (H : Heap) (locs : List Loc) (ls : Array Slot) h hP hQ hS hl => law_next (x3 := x3) (z := z) (w := w) (H := H) (locs := locs) (ls := ls) C0 K hK18 h hP hQ hS hl
  have hd1 : ∀ (i : Nat) (q : Nat × va_E), (gw cA (fun k => h2 + k) shM 22 w)[i]? = some q → ¬ gA (fun k => h1 + k) 315 q.1 := fun i q hq h => by obtain ⟨k, hk, e⟩ := h; obtain ⟨h3, h4⟩ := gw_mem hq; have e : h2 + i = h1 + k := h4.symm.trans e; omega
  have hd2 : ∀ (z : gS) (i : Nat) (q : Nat × va_E), (gw cA (fun k => h1 + k) shX 315 z)[i]? = some q → ¬ gA (fun k => h2 + k) 22 q.1 := fun z i q hq h => by obtain ⟨k, hk, e⟩ := h; obtain ⟨h3, h4⟩ := gw_mem hq; have e : h1 + i = h2 + k := h4.symm.trans e; omega
  unfold f_law_0 at h
  refine lv_aload_n hx hb dL_law_204 rfl (lv_at hl 2 rfl) ?_
  refine lv_aload_n hx hb dL_law_205 rfl (lv_at hl 1 rfl) ?_
  refine lv_iload_n hx hb dL_law_206 rfl (lv_at hl 0 rfl) ?_
  refine lv_iconst (v := (nI 1)) hx hb dL_law_207 (by decide) ?_
  refine lv_iadd hx hb dL_law_208 ?_
  obtain ⟨hg1, h⟩ := gg_s h
  refine va_sld hx hb hX hbl hbA hS hg1 dL_law_209 ?_
  obtain ⟨q0, hq0, h⟩ := gb_s h
  refine fl_i (As := [.int (xs (x3 + (nI 1)).toNatClampNeg)]) (rest := []) ⟨hx, hb, hml, hown, hts⟩ (k_X10_grave l D cA (fun k => h1 + k) tw hG1 z (xs (x3 + (nI 1)).toNatClampNeg) q0 hq0) (cwV 1 hts gT_X10_grave rfl rfl rfl hdV_X10_grave ⟨Nat.le_of_ble_eq_true rfl, Nat.le_of_ble_eq_true rfl⟩) (fl_pre gF10.1.1 gF10.1.2 rfl rfl hK hZ hP hS hA1) hA1 hQ hd1 rfl hl _ rfl (Nat.le_of_ble_eq_true rfl) hS dL_law_210 ⟨hmc, hms⟩ (fun H locs hP hQ hS => ?_)
  refine lv_aload_n hx hb dL_law_213 rfl (lv_at hl 3 rfl) ?_
  refine lv_aload_n hx hb dL_law_214 rfl (lv_at hl 1 rfl) ?_
  refine lv_iload_n hx hb dL_law_215 rfl (lv_at hl 0 rfl) ?_
  refine lv_iconst (v := (nI 1)) hx hb dL_law_216 (by decide) ?_
  refine lv_iadd hx hb dL_law_217 ?_
  obtain ⟨hg2, h⟩ := gg_s h
  refine va_sld hx hb hX hbl hbA hS hg2 dL_law_218 ?_
  obtain ⟨q1, hq1, h⟩ := gb_s h
  refine fl_i (As := [.int (xs (x3 + (nI 1)).toNatClampNeg)]) (rest := [.int q0.1]) ⟨hx, hb, hml, hown, hts⟩ (k_X11_grave l D cA (fun k => h2 + k) tw hG2 w (xs (x3 + (nI 1)).toNatClampNeg) q1 hq1) (cwV 1 hts gT_X11_grave rfl rfl rfl hdV_X11_grave ⟨Nat.le_of_ble_eq_true rfl, Nat.le_of_ble_eq_true rfl⟩) (fl_pre gF11.1.1 gF11.1.2 rfl rfl hK hZ hQ hS hA2) hA2 hP (hd2 _) rfl hl _ rfl (Nat.le_of_ble_eq_true rfl) hS dL_law_219 ⟨hmc, hms⟩ (fun H locs hQ hP hS => ?_)
  refine lv_icmp_eq (tgt := 1232) hx hb dL_law_222 (by decide) (fun c1 => ?_) (fun c1 => (gno (gif_f h c1)).elim)
  replace h := gif_t h c1
  exact j1232 x3 q0.2 q1.2 H locs ls h hP hQ hS (lv_sub hl [0, 1, 2, 3] rfl)
set_option maxHeartbeats 4000000 in
set_option maxRecDepth 100000 in
theorem mlaw_1 {p : Program} {l : Launch} {e : Env} {s : State} {m : MethodId} {below : List Frame} {meth : Method} {c : Code} {b L : Nat} {xs : Nat → Int32} {D : va_G} {cA : Nat → ClassId} {h1 h2 tw mc ms : Nat} (C0 : lw_At p s m meth c b L xs) (hK : va_K D vwCl (gty cA) s) (hZ : gSt tw (gAL s) s s.heap) (hh1 : s.heap.size ≤ h1) (hh2 : h1 + 315 ≤ h2) (hmc : mc ≤ 600000) (hms : ms ≤ 7302250) (K : Int32 → gS → gS → Option Unit) (hK18 : ∀ (x3 : Int32) (z w : gS) (H : Heap) (locs : List Loc) (ls : Array Slot), K x3 z w = some () → va_P D vwCl (gw cA (fun k => h1 + k) shX 315 z) H → va_P D vwCl (gw cA (fun k => h2 + k) shM 22 w) H → va_S (gAL s) s.heap H locs → lv_has ls 4 [(3, .int x3), (0, .ref b), (1, .ref (h1 + 0)), (2, .ref (h2 + 0))] → W p l e room_1 s m #[Value.ref b] below meth c H locs mc ms (lw_Z below #[Value.ref b] s) (F0 m 18 ls [])) (x3 : Int32) (z w : gS) (H : Heap) (locs : List Loc) (ls : Array Slot) (h : f_law_1 xs L K x3 z w = some ()) (hP : va_P D vwCl (gw cA (fun k => h1 + k) shX 315 z) H) (hQ : va_P D vwCl (gw cA (fun k => h2 + k) shM 22 w) H) (hS : va_S (gAL s) s.heap H locs) (hl : lv_has ls 4 [(3, .int x3), (0, .ref b), (1, .ref (h1 + 0)), (2, .ref (h2 + 0))]) : W p l e room_1 s m #[Value.ref b] below meth c H locs mc ms (lw_Z below #[Value.ref b] s) (F0 m 227 ls []) := by
  obtain ⟨hx, hb, hr, hml, hown, hts0, hX, hbl, hlocks, hgv⟩ := id C0
  have hb : c.code = cL_law := hb
  have hts := hts0
  have hown : s.vm.findClass RL = some m.cls := hown
  have hbA : ¬ gAL s b := Nat.not_le.mpr hbl
  have hG1 : gOk (fun k => h1 + k) 315 := fun i j _ _ e => by have e : h1 + i = h1 + j := e; omega
  have hG2 : gOk (fun k => h2 + k) 22 := fun i j _ _ e => by have e : h2 + i = h2 + j := e; omega
  have hA1 : ∀ q, gA (fun k => h1 + k) 315 q → gAL s q := fun q h => by obtain ⟨k, _, rfl⟩ := h; show s.heap.size ≤ h1 + k; omega
  have hA2 : ∀ q, gA (fun k => h2 + k) 22 q → gAL s q := fun q h => by obtain ⟨k, _, rfl⟩ := h; show s.heap.size ≤ h2 + k; omega
  have j1232 := fun (x3 : Int32) (z w : gS) (H : Heap) (locs : List Loc) (ls : Array Slot) h hP hQ hS hl => law_next (x3 := x3) (z := z) (w := w) (H := H) (locs := locs) (ls := ls) C0 K hK18 h hP hQ hS hl
  have hd1 : ∀ (i : Nat) (q : Nat × va_E), (gw cA (fun k => h2 + k) shM 22 w)[i]? = some q → ¬ gA (fun k => h1 + k) 315 q.1 := fun i q hq h => by obtain ⟨k, hk, e⟩ := h; obtain ⟨h3, h4⟩ := gw_mem hq; have e : h2 + i = h1 + k := h4.symm.trans e; omega
  have hd2 : ∀ (z : gS) (i : Nat) (q : Nat × va_E), (gw cA (fun k => h1 + k) shX 315 z)[i]? = some q → ¬ gA (fun k => h2 + k) 22 q.1 := fun z i q hq h => by obtain ⟨k, hk, e⟩ := h; obtain ⟨h3, h4⟩ := gw_mem hq; have e : h1 + i = h2 + k := h4.symm.trans e; omega
  unfold f_law_1 at h
  refine lv_aload_n hx hb dL_law_227 rfl (lv_at hl 2 rfl) ?_
  refine lv_aload_n hx hb dL_law_228 rfl (lv_at hl 1 rfl) ?_
  refine lv_iload_n hx hb dL_law_229 rfl (lv_at hl 0 rfl) ?_
  refine lv_iconst (v := (nI 1)) hx hb dL_law_230 (by decide) ?_
  refine lv_iadd hx hb dL_law_231 ?_
  obtain ⟨hg1, h⟩ := gg_s h
  refine va_sld hx hb hX hbl hbA hS hg1 dL_law_232 ?_
  refine lv_aload_n hx hb dL_law_233 rfl (lv_at hl 1 rfl) ?_
  refine lv_iload_n hx hb dL_law_234 rfl (lv_at hl 0 rfl) ?_
  refine lv_iconst (v := (nI 2)) hx hb dL_law_235 (by decide) ?_
  refine lv_iadd hx hb dL_law_236 ?_
  obtain ⟨hg2, h⟩ := gg_s h
  refine va_sld hx hb hX hbl hbA hS hg2 dL_law_237 ?_
  refine lv_aload_n hx hb dL_law_238 rfl (lv_at hl 1 rfl) ?_
  refine lv_iload_n hx hb dL_law_239 rfl (lv_at hl 0 rfl) ?_
  refine lv_iconst (v := (nI 3)) hx hb dL_law_240 (by decide) ?_
  refine lv_iadd hx hb dL_law_241 ?_
  obtain ⟨hg3, h⟩ := gg_s h
  refine va_sld hx hb hX hbl hbA hS hg3 dL_law_242 ?_
  obtain ⟨q0, hq0, h⟩ := gb_s h
  refine fl_i (As := [.int (xs (x3 + (nI 1)).toNatClampNeg), .int (xs (x3 + (nI 2)).toNatClampNeg), .int (xs (x3 + (nI 3)).toNatClampNeg)]) (rest := []) ⟨hx, hb, hml, hown, hts⟩ (k_X10_has l D cA (fun k => h1 + k) tw hG1 z (xs (x3 + (nI 1)).toNatClampNeg) (xs (x3 + (nI 2)).toNatClampNeg) (xs (x3 + (nI 3)).toNatClampNeg) q0 hq0) (cwV 3 hts gT_X10_has rfl rfl rfl hdV_X10_has ⟨Nat.le_of_ble_eq_true rfl, Nat.le_of_ble_eq_true rfl⟩) (fl_pre gF10.1.1 gF10.1.2 rfl rfl hK hZ hP hS hA1) hA1 hQ hd1 rfl hl _ rfl (Nat.le_of_ble_eq_true rfl) hS dL_law_243 ⟨hmc, hms⟩ (fun H locs hP hQ hS => ?_)
  refine lv_aload_n hx hb dL_law_246 rfl (lv_at hl 3 rfl) ?_
  refine lv_aload_n hx hb dL_law_247 rfl (lv_at hl 1 rfl) ?_
  refine lv_iload_n hx hb dL_law_248 rfl (lv_at hl 0 rfl) ?_
  refine lv_iconst (v := (nI 1)) hx hb dL_law_249 (by decide) ?_
  refine lv_iadd hx hb dL_law_250 ?_
  obtain ⟨hg4, h⟩ := gg_s h
  refine va_sld hx hb hX hbl hbA hS hg4 dL_law_251 ?_
  refine lv_aload_n hx hb dL_law_252 rfl (lv_at hl 1 rfl) ?_
  refine lv_iload_n hx hb dL_law_253 rfl (lv_at hl 0 rfl) ?_
  refine lv_iconst (v := (nI 2)) hx hb dL_law_254 (by decide) ?_
  refine lv_iadd hx hb dL_law_255 ?_
  obtain ⟨hg5, h⟩ := gg_s h
  refine va_sld hx hb hX hbl hbA hS hg5 dL_law_256 ?_
  refine lv_aload_n hx hb dL_law_257 rfl (lv_at hl 1 rfl) ?_
  refine lv_iload_n hx hb dL_law_258 rfl (lv_at hl 0 rfl) ?_
  refine lv_iconst (v := (nI 3)) hx hb dL_law_259 (by decide) ?_
  refine lv_iadd hx hb dL_law_260 ?_
  obtain ⟨hg6, h⟩ := gg_s h
  refine va_sld hx hb hX hbl hbA hS hg6 dL_law_261 ?_
  obtain ⟨q1, hq1, h⟩ := gb_s h
  refine fl_i (As := [.int (xs (x3 + (nI 1)).toNatClampNeg), .int (xs (x3 + (nI 2)).toNatClampNeg), .int (xs (x3 + (nI 3)).toNatClampNeg)]) (rest := [.int q0.1]) ⟨hx, hb, hml, hown, hts⟩ (k_X11_has_ l D cA (fun k => h2 + k) tw hG2 w (xs (x3 + (nI 1)).toNatClampNeg) (xs (x3 + (nI 2)).toNatClampNeg) (xs (x3 + (nI 3)).toNatClampNeg) q1 hq1) (cwV 3 hts gT_X11_has_ rfl rfl rfl hdV_X11_has_ ⟨Nat.le_of_ble_eq_true rfl, Nat.le_of_ble_eq_true rfl⟩) (fl_pre gF11.1.1 gF11.1.2 rfl rfl hK hZ hQ hS hA2) hA2 hP (hd2 _) rfl hl _ rfl (Nat.le_of_ble_eq_true rfl) hS dL_law_262 ⟨hmc, hms⟩ (fun H locs hQ hP hS => ?_)
  refine lv_icmp_eq (tgt := 1232) hx hb dL_law_265 (by decide) (fun c1 => ?_) (fun c1 => (gno (gif_f h c1)).elim)
  replace h := gif_t h c1
  exact j1232 x3 q0.2 q1.2 H locs ls h hP hQ hS (lv_sub hl [0, 1, 2, 3] rfl)
set_option maxHeartbeats 4000000 in
set_option maxRecDepth 100000 in
theorem mlaw_2 {p : Program} {l : Launch} {e : Env} {s : State} {m : MethodId} {below : List Frame} {meth : Method} {c : Code} {b L : Nat} {xs : Nat → Int32} {D : va_G} {cA : Nat → ClassId} {h1 h2 tw mc ms : Nat} (C0 : lw_At p s m meth c b L xs) (hK : va_K D vwCl (gty cA) s) (hZ : gSt tw (gAL s) s s.heap) (hh1 : s.heap.size ≤ h1) (hh2 : h1 + 315 ≤ h2) (hmc : mc ≤ 600000) (hms : ms ≤ 7302250) (K : Int32 → gS → gS → Option Unit) (hK18 : ∀ (x3 : Int32) (z w : gS) (H : Heap) (locs : List Loc) (ls : Array Slot), K x3 z w = some () → va_P D vwCl (gw cA (fun k => h1 + k) shX 315 z) H → va_P D vwCl (gw cA (fun k => h2 + k) shM 22 w) H → va_S (gAL s) s.heap H locs → lv_has ls 4 [(3, .int x3), (0, .ref b), (1, .ref (h1 + 0)), (2, .ref (h2 + 0))] → W p l e room_1 s m #[Value.ref b] below meth c H locs mc ms (lw_Z below #[Value.ref b] s) (F0 m 18 ls [])) (x3 : Int32) (z w : gS) (H : Heap) (locs : List Loc) (ls : Array Slot) (h : f_law_2 xs L K x3 z w = some ()) (hP : va_P D vwCl (gw cA (fun k => h1 + k) shX 315 z) H) (hQ : va_P D vwCl (gw cA (fun k => h2 + k) shM 22 w) H) (hS : va_S (gAL s) s.heap H locs) (hl : lv_has ls 4 [(3, .int x3), (0, .ref b), (1, .ref (h1 + 0)), (2, .ref (h2 + 0))]) : W p l e room_1 s m #[Value.ref b] below meth c H locs mc ms (lw_Z below #[Value.ref b] s) (F0 m 270 ls []) := by
  obtain ⟨hx, hb, hr, hml, hown, hts0, hX, hbl, hlocks, hgv⟩ := id C0
  have hb : c.code = cL_law := hb
  have hts := hts0
  have hown : s.vm.findClass RL = some m.cls := hown
  have hbA : ¬ gAL s b := Nat.not_le.mpr hbl
  have hG1 : gOk (fun k => h1 + k) 315 := fun i j _ _ e => by have e : h1 + i = h1 + j := e; omega
  have hG2 : gOk (fun k => h2 + k) 22 := fun i j _ _ e => by have e : h2 + i = h2 + j := e; omega
  have hA1 : ∀ q, gA (fun k => h1 + k) 315 q → gAL s q := fun q h => by obtain ⟨k, _, rfl⟩ := h; show s.heap.size ≤ h1 + k; omega
  have hA2 : ∀ q, gA (fun k => h2 + k) 22 q → gAL s q := fun q h => by obtain ⟨k, _, rfl⟩ := h; show s.heap.size ≤ h2 + k; omega
  have j1232 := fun (x3 : Int32) (z w : gS) (H : Heap) (locs : List Loc) (ls : Array Slot) h hP hQ hS hl => law_next (x3 := x3) (z := z) (w := w) (H := H) (locs := locs) (ls := ls) C0 K hK18 h hP hQ hS hl
  have hd1 : ∀ (i : Nat) (q : Nat × va_E), (gw cA (fun k => h2 + k) shM 22 w)[i]? = some q → ¬ gA (fun k => h1 + k) 315 q.1 := fun i q hq h => by obtain ⟨k, hk, e⟩ := h; obtain ⟨h3, h4⟩ := gw_mem hq; have e : h2 + i = h1 + k := h4.symm.trans e; omega
  have hd2 : ∀ (z : gS) (i : Nat) (q : Nat × va_E), (gw cA (fun k => h1 + k) shX 315 z)[i]? = some q → ¬ gA (fun k => h2 + k) 22 q.1 := fun z i q hq h => by obtain ⟨k, hk, e⟩ := h; obtain ⟨h3, h4⟩ := gw_mem hq; have e : h1 + i = h2 + k := h4.symm.trans e; omega
  unfold f_law_2 at h
  refine lv_aload_n hx hb dL_law_270 rfl (lv_at hl 2 rfl) ?_
  refine lv_aload_n hx hb dL_law_271 rfl (lv_at hl 1 rfl) ?_
  refine lv_iload_n hx hb dL_law_272 rfl (lv_at hl 0 rfl) ?_
  refine lv_iconst (v := (nI 1)) hx hb dL_law_273 (by decide) ?_
  refine lv_iadd hx hb dL_law_274 ?_
  obtain ⟨hg1, h⟩ := gg_s h
  refine va_sld hx hb hX hbl hbA hS hg1 dL_law_275 ?_
  refine lv_aload_n hx hb dL_law_276 rfl (lv_at hl 1 rfl) ?_
  refine lv_iload_n hx hb dL_law_277 rfl (lv_at hl 0 rfl) ?_
  refine lv_iconst (v := (nI 2)) hx hb dL_law_278 (by decide) ?_
  refine lv_iadd hx hb dL_law_279 ?_
  obtain ⟨hg2, h⟩ := gg_s h
  refine va_sld hx hb hX hbl hbA hS hg2 dL_law_280 ?_
  obtain ⟨q0, hq0, h⟩ := gb_s h
  refine fl_iR (As := [.int (xs (x3 + (nI 1)).toNatClampNeg), .int (xs (x3 + (nI 2)).toNatClampNeg)]) (rest := []) ⟨hx, hb, hml, hown, hts⟩ (k_X10_of l D cA (fun k => h1 + k) tw hG1 z (xs (x3 + (nI 1)).toNatClampNeg) (xs (x3 + (nI 2)).toNatClampNeg) q0 hq0) (cwV 2 hts gT_X10_of rfl rfl rfl hdV_X10_of ⟨Nat.le_of_ble_eq_true rfl, Nat.le_of_ble_eq_true rfl⟩) (fl_pre gF10.1.1 gF10.1.2 rfl rfl hK hZ hP hS hA1) hA1 hQ hd1 rfl hl _ rfl (Nat.le_of_ble_eq_true rfl) hS dL_law_281 ⟨hmc, hms⟩ (fun H locs hP hQ hS => ?_)
  refine lv_aload_n hx hb dL_law_284 rfl (lv_at hl 3 rfl) ?_
  refine lv_aload_n hx hb dL_law_285 rfl (lv_at hl 1 rfl) ?_
  refine lv_iload_n hx hb dL_law_286 rfl (lv_at hl 0 rfl) ?_
  refine lv_iconst (v := (nI 1)) hx hb dL_law_287 (by decide) ?_
  refine lv_iadd hx hb dL_law_288 ?_
  obtain ⟨hg3, h⟩ := gg_s h
  refine va_sld hx hb hX hbl hbA hS hg3 dL_law_289 ?_
  refine lv_aload_n hx hb dL_law_290 rfl (lv_at hl 1 rfl) ?_
  refine lv_iload_n hx hb dL_law_291 rfl (lv_at hl 0 rfl) ?_
  refine lv_iconst (v := (nI 2)) hx hb dL_law_292 (by decide) ?_
  refine lv_iadd hx hb dL_law_293 ?_
  obtain ⟨hg4, h⟩ := gg_s h
  refine va_sld hx hb hX hbl hbA hS hg4 dL_law_294 ?_
  obtain ⟨q1, hq1, h⟩ := gb_s h
  refine fl_iR (As := [.int (xs (x3 + (nI 1)).toNatClampNeg), .int (xs (x3 + (nI 2)).toNatClampNeg)]) (rest := [.int q0]) ⟨hx, hb, hml, hown, hts⟩ (k_X11_of l D cA (fun k => h2 + k) tw hG2 w (xs (x3 + (nI 1)).toNatClampNeg) (xs (x3 + (nI 2)).toNatClampNeg) q1 hq1) (cwV 2 hts gT_X11_of rfl rfl rfl hdV_X11_of ⟨Nat.le_of_ble_eq_true rfl, Nat.le_of_ble_eq_true rfl⟩) (fl_pre gF11.1.1 gF11.1.2 rfl rfl hK hZ hQ hS hA2) hA2 hP (hd2 _) rfl hl _ rfl (Nat.le_of_ble_eq_true rfl) hS dL_law_295 ⟨hmc, hms⟩ (fun H locs hQ hP hS => ?_)
  refine lv_icmp_eq (tgt := 1232) hx hb dL_law_298 (by decide) (fun c1 => ?_) (fun c1 => (gno (gif_f h c1)).elim)
  replace h := gif_t h c1
  exact j1232 x3 z w H locs ls h hP hQ hS (lv_sub hl [0, 1, 2, 3] rfl)
set_option maxHeartbeats 4000000 in
set_option maxRecDepth 100000 in
theorem mlaw_3 {p : Program} {l : Launch} {e : Env} {s : State} {m : MethodId} {below : List Frame} {meth : Method} {c : Code} {b L : Nat} {xs : Nat → Int32} {D : va_G} {cA : Nat → ClassId} {h1 h2 tw mc ms : Nat} (C0 : lw_At p s m meth c b L xs) (hK : va_K D vwCl (gty cA) s) (hZ : gSt tw (gAL s) s s.heap) (hh1 : s.heap.size ≤ h1) (hh2 : h1 + 315 ≤ h2) (hmc : mc ≤ 600000) (hms : ms ≤ 7302250) (K : Int32 → gS → gS → Option Unit) (hK18 : ∀ (x3 : Int32) (z w : gS) (H : Heap) (locs : List Loc) (ls : Array Slot), K x3 z w = some () → va_P D vwCl (gw cA (fun k => h1 + k) shX 315 z) H → va_P D vwCl (gw cA (fun k => h2 + k) shM 22 w) H → va_S (gAL s) s.heap H locs → lv_has ls 4 [(3, .int x3), (0, .ref b), (1, .ref (h1 + 0)), (2, .ref (h2 + 0))] → W p l e room_1 s m #[Value.ref b] below meth c H locs mc ms (lw_Z below #[Value.ref b] s) (F0 m 18 ls [])) (x3 : Int32) (z w : gS) (H : Heap) (locs : List Loc) (ls : Array Slot) (h : f_law_3 xs L K x3 z w = some ()) (hP : va_P D vwCl (gw cA (fun k => h1 + k) shX 315 z) H) (hQ : va_P D vwCl (gw cA (fun k => h2 + k) shM 22 w) H) (hS : va_S (gAL s) s.heap H locs) (hl : lv_has ls 4 [(3, .int x3), (0, .ref b), (1, .ref (h1 + 0)), (2, .ref (h2 + 0))]) : W p l e room_1 s m #[Value.ref b] below meth c H locs mc ms (lw_Z below #[Value.ref b] s) (F0 m 303 ls []) := by
  obtain ⟨hx, hb, hr, hml, hown, hts0, hX, hbl, hlocks, hgv⟩ := id C0
  have hb : c.code = cL_law := hb
  have hts := hts0
  have hown : s.vm.findClass RL = some m.cls := hown
  have hbA : ¬ gAL s b := Nat.not_le.mpr hbl
  have hG1 : gOk (fun k => h1 + k) 315 := fun i j _ _ e => by have e : h1 + i = h1 + j := e; omega
  have hG2 : gOk (fun k => h2 + k) 22 := fun i j _ _ e => by have e : h2 + i = h2 + j := e; omega
  have hA1 : ∀ q, gA (fun k => h1 + k) 315 q → gAL s q := fun q h => by obtain ⟨k, _, rfl⟩ := h; show s.heap.size ≤ h1 + k; omega
  have hA2 : ∀ q, gA (fun k => h2 + k) 22 q → gAL s q := fun q h => by obtain ⟨k, _, rfl⟩ := h; show s.heap.size ≤ h2 + k; omega
  have j1232 := fun (x3 : Int32) (z w : gS) (H : Heap) (locs : List Loc) (ls : Array Slot) h hP hQ hS hl => law_next (x3 := x3) (z := z) (w := w) (H := H) (locs := locs) (ls := ls) C0 K hK18 h hP hQ hS hl
  have hd1 : ∀ (i : Nat) (q : Nat × va_E), (gw cA (fun k => h2 + k) shM 22 w)[i]? = some q → ¬ gA (fun k => h1 + k) 315 q.1 := fun i q hq h => by obtain ⟨k, hk, e⟩ := h; obtain ⟨h3, h4⟩ := gw_mem hq; have e : h2 + i = h1 + k := h4.symm.trans e; omega
  have hd2 : ∀ (z : gS) (i : Nat) (q : Nat × va_E), (gw cA (fun k => h1 + k) shX 315 z)[i]? = some q → ¬ gA (fun k => h2 + k) 22 q.1 := fun z i q hq h => by obtain ⟨k, hk, e⟩ := h; obtain ⟨h3, h4⟩ := gw_mem hq; have e : h1 + i = h2 + k := h4.symm.trans e; omega
  unfold f_law_3 at h
  refine lv_aload_n hx hb dL_law_303 rfl (lv_at hl 2 rfl) ?_
  refine lv_aload_n hx hb dL_law_304 rfl (lv_at hl 1 rfl) ?_
  refine lv_iload_n hx hb dL_law_305 rfl (lv_at hl 0 rfl) ?_
  refine lv_iconst (v := (nI 1)) hx hb dL_law_306 (by decide) ?_
  refine lv_iadd hx hb dL_law_307 ?_
  obtain ⟨hg1, h⟩ := gg_s h
  refine va_sld hx hb hX hbl hbA hS hg1 dL_law_308 ?_
  refine lv_aload_n hx hb dL_law_309 rfl (lv_at hl 1 rfl) ?_
  refine lv_iload_n hx hb dL_law_310 rfl (lv_at hl 0 rfl) ?_
  refine lv_iconst (v := (nI 2)) hx hb dL_law_311 (by decide) ?_
  refine lv_iadd hx hb dL_law_312 ?_
  obtain ⟨hg2, h⟩ := gg_s h
  refine va_sld hx hb hX hbl hbA hS hg2 dL_law_313 ?_
  obtain ⟨q0, hq0, h⟩ := gb_s h
  refine fl_iR (As := [.int (xs (x3 + (nI 1)).toNatClampNeg), .int (xs (x3 + (nI 2)).toNatClampNeg)]) (rest := []) ⟨hx, hb, hml, hown, hts⟩ (k_X10_type l D cA (fun k => h1 + k) tw hG1 z (xs (x3 + (nI 1)).toNatClampNeg) (xs (x3 + (nI 2)).toNatClampNeg) q0 hq0) (cwV 2 hts gT_X10_type rfl rfl rfl hdV_X10_type ⟨Nat.le_of_ble_eq_true rfl, Nat.le_of_ble_eq_true rfl⟩) (fl_pre gF10.1.1 gF10.1.2 rfl rfl hK hZ hP hS hA1) hA1 hQ hd1 rfl hl _ rfl (Nat.le_of_ble_eq_true rfl) hS dL_law_314 ⟨hmc, hms⟩ (fun H locs hP hQ hS => ?_)
  refine lv_aload_n hx hb dL_law_317 rfl (lv_at hl 3 rfl) ?_
  refine lv_aload_n hx hb dL_law_318 rfl (lv_at hl 1 rfl) ?_
  refine lv_iload_n hx hb dL_law_319 rfl (lv_at hl 0 rfl) ?_
  refine lv_iconst (v := (nI 1)) hx hb dL_law_320 (by decide) ?_
  refine lv_iadd hx hb dL_law_321 ?_
  obtain ⟨hg3, h⟩ := gg_s h
  refine va_sld hx hb hX hbl hbA hS hg3 dL_law_322 ?_
  refine lv_aload_n hx hb dL_law_323 rfl (lv_at hl 1 rfl) ?_
  refine lv_iload_n hx hb dL_law_324 rfl (lv_at hl 0 rfl) ?_
  refine lv_iconst (v := (nI 2)) hx hb dL_law_325 (by decide) ?_
  refine lv_iadd hx hb dL_law_326 ?_
  obtain ⟨hg4, h⟩ := gg_s h
  refine va_sld hx hb hX hbl hbA hS hg4 dL_law_327 ?_
  obtain ⟨q1, hq1, h⟩ := gb_s h
  refine fl_iR (As := [.int (xs (x3 + (nI 1)).toNatClampNeg), .int (xs (x3 + (nI 2)).toNatClampNeg)]) (rest := [.int q0]) ⟨hx, hb, hml, hown, hts⟩ (k_X11_type l D cA (fun k => h2 + k) tw hG2 w (xs (x3 + (nI 1)).toNatClampNeg) (xs (x3 + (nI 2)).toNatClampNeg) q1 hq1) (cwV 2 hts gT_X11_type rfl rfl rfl hdV_X11_type ⟨Nat.le_of_ble_eq_true rfl, Nat.le_of_ble_eq_true rfl⟩) (fl_pre gF11.1.1 gF11.1.2 rfl rfl hK hZ hQ hS hA2) hA2 hP (hd2 _) rfl hl _ rfl (Nat.le_of_ble_eq_true rfl) hS dL_law_328 ⟨hmc, hms⟩ (fun H locs hQ hP hS => ?_)
  refine lv_icmp_eq (tgt := 1232) hx hb dL_law_331 (by decide) (fun c1 => ?_) (fun c1 => (gno (gif_f h c1)).elim)
  replace h := gif_t h c1
  exact j1232 x3 z w H locs ls h hP hQ hS (lv_sub hl [0, 1, 2, 3] rfl)
set_option maxHeartbeats 4000000 in
set_option maxRecDepth 100000 in
theorem mlaw_4 {p : Program} {l : Launch} {e : Env} {s : State} {m : MethodId} {below : List Frame} {meth : Method} {c : Code} {b L : Nat} {xs : Nat → Int32} {D : va_G} {cA : Nat → ClassId} {h1 h2 tw mc ms : Nat} (C0 : lw_At p s m meth c b L xs) (hK : va_K D vwCl (gty cA) s) (hZ : gSt tw (gAL s) s s.heap) (hh1 : s.heap.size ≤ h1) (hh2 : h1 + 315 ≤ h2) (hmc : mc ≤ 600000) (hms : ms ≤ 7302250) (K : Int32 → gS → gS → Option Unit) (hK18 : ∀ (x3 : Int32) (z w : gS) (H : Heap) (locs : List Loc) (ls : Array Slot), K x3 z w = some () → va_P D vwCl (gw cA (fun k => h1 + k) shX 315 z) H → va_P D vwCl (gw cA (fun k => h2 + k) shM 22 w) H → va_S (gAL s) s.heap H locs → lv_has ls 4 [(3, .int x3), (0, .ref b), (1, .ref (h1 + 0)), (2, .ref (h2 + 0))] → W p l e room_1 s m #[Value.ref b] below meth c H locs mc ms (lw_Z below #[Value.ref b] s) (F0 m 18 ls [])) (x3 : Int32) (z w : gS) (H : Heap) (locs : List Loc) (ls : Array Slot) (h : f_law_4 xs L K x3 z w = some ()) (hP : va_P D vwCl (gw cA (fun k => h1 + k) shX 315 z) H) (hQ : va_P D vwCl (gw cA (fun k => h2 + k) shM 22 w) H) (hS : va_S (gAL s) s.heap H locs) (hl : lv_has ls 4 [(3, .int x3), (0, .ref b), (1, .ref (h1 + 0)), (2, .ref (h2 + 0))]) : W p l e room_1 s m #[Value.ref b] below meth c H locs mc ms (lw_Z below #[Value.ref b] s) (F0 m 336 ls []) := by
  obtain ⟨hx, hb, hr, hml, hown, hts0, hX, hbl, hlocks, hgv⟩ := id C0
  have hb : c.code = cL_law := hb
  have hts := hts0
  have hown : s.vm.findClass RL = some m.cls := hown
  have hbA : ¬ gAL s b := Nat.not_le.mpr hbl
  have hG1 : gOk (fun k => h1 + k) 315 := fun i j _ _ e => by have e : h1 + i = h1 + j := e; omega
  have hG2 : gOk (fun k => h2 + k) 22 := fun i j _ _ e => by have e : h2 + i = h2 + j := e; omega
  have hA1 : ∀ q, gA (fun k => h1 + k) 315 q → gAL s q := fun q h => by obtain ⟨k, _, rfl⟩ := h; show s.heap.size ≤ h1 + k; omega
  have hA2 : ∀ q, gA (fun k => h2 + k) 22 q → gAL s q := fun q h => by obtain ⟨k, _, rfl⟩ := h; show s.heap.size ≤ h2 + k; omega
  have j1232 := fun (x3 : Int32) (z w : gS) (H : Heap) (locs : List Loc) (ls : Array Slot) h hP hQ hS hl => law_next (x3 := x3) (z := z) (w := w) (H := H) (locs := locs) (ls := ls) C0 K hK18 h hP hQ hS hl
  have hd1 : ∀ (i : Nat) (q : Nat × va_E), (gw cA (fun k => h2 + k) shM 22 w)[i]? = some q → ¬ gA (fun k => h1 + k) 315 q.1 := fun i q hq h => by obtain ⟨k, hk, e⟩ := h; obtain ⟨h3, h4⟩ := gw_mem hq; have e : h2 + i = h1 + k := h4.symm.trans e; omega
  have hd2 : ∀ (z : gS) (i : Nat) (q : Nat × va_E), (gw cA (fun k => h1 + k) shX 315 z)[i]? = some q → ¬ gA (fun k => h2 + k) 22 q.1 := fun z i q hq h => by obtain ⟨k, hk, e⟩ := h; obtain ⟨h3, h4⟩ := gw_mem hq; have e : h1 + i = h2 + k := h4.symm.trans e; omega
  unfold f_law_4 at h
  refine lv_aload_n hx hb dL_law_336 rfl (lv_at hl 2 rfl) ?_
  refine lv_aload_n hx hb dL_law_337 rfl (lv_at hl 1 rfl) ?_
  refine lv_iload_n hx hb dL_law_338 rfl (lv_at hl 0 rfl) ?_
  refine lv_iconst (v := (nI 1)) hx hb dL_law_339 (by decide) ?_
  refine lv_iadd hx hb dL_law_340 ?_
  obtain ⟨hg1, h⟩ := gg_s h
  refine va_sld hx hb hX hbl hbA hS hg1 dL_law_341 ?_
  obtain ⟨q0, hq0, h⟩ := gb_s h
  refine fl_i (As := [.int (xs (x3 + (nI 1)).toNatClampNeg)]) (rest := []) ⟨hx, hb, hml, hown, hts⟩ (k_X10_drop l D cA (fun k => h1 + k) tw hG1 z (xs (x3 + (nI 1)).toNatClampNeg) q0 hq0) (cwV 1 hts gT_X10_drop rfl rfl rfl hdV_X10_drop ⟨Nat.le_of_ble_eq_true rfl, Nat.le_of_ble_eq_true rfl⟩) (fl_pre gF10.1.1 gF10.1.2 rfl rfl hK hZ hP hS hA1) hA1 hQ hd1 rfl hl _ rfl (Nat.le_of_ble_eq_true rfl) hS dL_law_342 ⟨hmc, hms⟩ (fun H locs hP hQ hS => ?_)
  refine lv_aload_n hx hb dL_law_345 rfl (lv_at hl 3 rfl) ?_
  refine lv_aload_n hx hb dL_law_346 rfl (lv_at hl 1 rfl) ?_
  refine lv_iload_n hx hb dL_law_347 rfl (lv_at hl 0 rfl) ?_
  refine lv_iconst (v := (nI 1)) hx hb dL_law_348 (by decide) ?_
  refine lv_iadd hx hb dL_law_349 ?_
  obtain ⟨hg2, h⟩ := gg_s h
  refine va_sld hx hb hX hbl hbA hS hg2 dL_law_350 ?_
  obtain ⟨q1, hq1, h⟩ := gb_s h
  refine fl_i (As := [.int (xs (x3 + (nI 1)).toNatClampNeg)]) (rest := [.int q0.1]) ⟨hx, hb, hml, hown, hts⟩ (k_X11_drop l D cA (fun k => h2 + k) tw hG2 w (xs (x3 + (nI 1)).toNatClampNeg) q1 hq1) (cwV 1 hts gT_X11_drop rfl rfl rfl hdV_X11_drop ⟨Nat.le_of_ble_eq_true rfl, Nat.le_of_ble_eq_true rfl⟩) (fl_pre gF11.1.1 gF11.1.2 rfl rfl hK hZ hQ hS hA2) hA2 hP (hd2 _) rfl hl _ rfl (Nat.le_of_ble_eq_true rfl) hS dL_law_351 ⟨hmc, hms⟩ (fun H locs hQ hP hS => ?_)
  refine lv_icmp_eq (tgt := 1232) hx hb dL_law_354 (by decide) (fun c1 => ?_) (fun c1 => (gno (gif_f h c1)).elim)
  replace h := gif_t h c1
  exact j1232 x3 q0.2 q1.2 H locs ls h hP hQ hS (lv_sub hl [0, 1, 2, 3] rfl)
set_option maxHeartbeats 4000000 in
set_option maxRecDepth 100000 in
theorem mlaw_5 {p : Program} {l : Launch} {e : Env} {s : State} {m : MethodId} {below : List Frame} {meth : Method} {c : Code} {b L : Nat} {xs : Nat → Int32} {D : va_G} {cA : Nat → ClassId} {h1 h2 tw mc ms : Nat} (C0 : lw_At p s m meth c b L xs) (hK : va_K D vwCl (gty cA) s) (hZ : gSt tw (gAL s) s s.heap) (hh1 : s.heap.size ≤ h1) (hh2 : h1 + 315 ≤ h2) (hmc : mc ≤ 600000) (hms : ms ≤ 7302250) (K : Int32 → gS → gS → Option Unit) (hK18 : ∀ (x3 : Int32) (z w : gS) (H : Heap) (locs : List Loc) (ls : Array Slot), K x3 z w = some () → va_P D vwCl (gw cA (fun k => h1 + k) shX 315 z) H → va_P D vwCl (gw cA (fun k => h2 + k) shM 22 w) H → va_S (gAL s) s.heap H locs → lv_has ls 4 [(3, .int x3), (0, .ref b), (1, .ref (h1 + 0)), (2, .ref (h2 + 0))] → W p l e room_1 s m #[Value.ref b] below meth c H locs mc ms (lw_Z below #[Value.ref b] s) (F0 m 18 ls [])) (x3 : Int32) (z w : gS) (H : Heap) (locs : List Loc) (ls : Array Slot) (h : f_law_5 xs L K x3 z w = some ()) (hP : va_P D vwCl (gw cA (fun k => h1 + k) shX 315 z) H) (hQ : va_P D vwCl (gw cA (fun k => h2 + k) shM 22 w) H) (hS : va_S (gAL s) s.heap H locs) (hl : lv_has ls 4 [(3, .int x3), (0, .ref b), (1, .ref (h1 + 0)), (2, .ref (h2 + 0))]) : W p l e room_1 s m #[Value.ref b] below meth c H locs mc ms (lw_Z below #[Value.ref b] s) (F0 m 359 ls []) := by
  obtain ⟨hx, hb, hr, hml, hown, hts0, hX, hbl, hlocks, hgv⟩ := id C0
  have hb : c.code = cL_law := hb
  have hts := hts0
  have hown : s.vm.findClass RL = some m.cls := hown
  have hbA : ¬ gAL s b := Nat.not_le.mpr hbl
  have hG1 : gOk (fun k => h1 + k) 315 := fun i j _ _ e => by have e : h1 + i = h1 + j := e; omega
  have hG2 : gOk (fun k => h2 + k) 22 := fun i j _ _ e => by have e : h2 + i = h2 + j := e; omega
  have hA1 : ∀ q, gA (fun k => h1 + k) 315 q → gAL s q := fun q h => by obtain ⟨k, _, rfl⟩ := h; show s.heap.size ≤ h1 + k; omega
  have hA2 : ∀ q, gA (fun k => h2 + k) 22 q → gAL s q := fun q h => by obtain ⟨k, _, rfl⟩ := h; show s.heap.size ≤ h2 + k; omega
  have j1232 := fun (x3 : Int32) (z w : gS) (H : Heap) (locs : List Loc) (ls : Array Slot) h hP hQ hS hl => law_next (x3 := x3) (z := z) (w := w) (H := H) (locs := locs) (ls := ls) C0 K hK18 h hP hQ hS hl
  have hd1 : ∀ (i : Nat) (q : Nat × va_E), (gw cA (fun k => h2 + k) shM 22 w)[i]? = some q → ¬ gA (fun k => h1 + k) 315 q.1 := fun i q hq h => by obtain ⟨k, hk, e⟩ := h; obtain ⟨h3, h4⟩ := gw_mem hq; have e : h2 + i = h1 + k := h4.symm.trans e; omega
  have hd2 : ∀ (z : gS) (i : Nat) (q : Nat × va_E), (gw cA (fun k => h1 + k) shX 315 z)[i]? = some q → ¬ gA (fun k => h2 + k) 22 q.1 := fun z i q hq h => by obtain ⟨k, hk, e⟩ := h; obtain ⟨h3, h4⟩ := gw_mem hq; have e : h1 + i = h2 + k := h4.symm.trans e; omega
  unfold f_law_5 at h
  refine lv_aload_n hx hb dL_law_359 rfl (lv_at hl 2 rfl) ?_
  refine lv_aload_n hx hb dL_law_360 rfl (lv_at hl 1 rfl) ?_
  refine lv_iload_n hx hb dL_law_361 rfl (lv_at hl 0 rfl) ?_
  refine lv_iconst (v := (nI 1)) hx hb dL_law_362 (by decide) ?_
  refine lv_iadd hx hb dL_law_363 ?_
  obtain ⟨hg1, h⟩ := gg_s h
  refine va_sld hx hb hX hbl hbA hS hg1 dL_law_364 ?_
  obtain ⟨q0, hq0, h⟩ := gb_s h
  refine fl_iR (As := [.int (xs (x3 + (nI 1)).toNatClampNeg)]) (rest := []) ⟨hx, hb, hml, hown, hts⟩ (k_X10_count l D cA (fun k => h1 + k) tw hG1 z (xs (x3 + (nI 1)).toNatClampNeg) q0 hq0) (cwV 1 hts gT_X10_count rfl rfl rfl hdV_X10_count ⟨Nat.le_of_ble_eq_true rfl, Nat.le_of_ble_eq_true rfl⟩) (fl_pre gF10.1.1 gF10.1.2 rfl rfl hK hZ hP hS hA1) hA1 hQ hd1 rfl hl _ rfl (Nat.le_of_ble_eq_true rfl) hS dL_law_365 ⟨hmc, hms⟩ (fun H locs hP hQ hS => ?_)
  refine lv_aload_n hx hb dL_law_368 rfl (lv_at hl 3 rfl) ?_
  refine lv_aload_n hx hb dL_law_369 rfl (lv_at hl 1 rfl) ?_
  refine lv_iload_n hx hb dL_law_370 rfl (lv_at hl 0 rfl) ?_
  refine lv_iconst (v := (nI 1)) hx hb dL_law_371 (by decide) ?_
  refine lv_iadd hx hb dL_law_372 ?_
  obtain ⟨hg2, h⟩ := gg_s h
  refine va_sld hx hb hX hbl hbA hS hg2 dL_law_373 ?_
  obtain ⟨q1, hq1, h⟩ := gb_s h
  refine fl_iR (As := [.int (xs (x3 + (nI 1)).toNatClampNeg)]) (rest := [.int q0]) ⟨hx, hb, hml, hown, hts⟩ (k_X11_count l D cA (fun k => h2 + k) tw hG2 w (xs (x3 + (nI 1)).toNatClampNeg) q1 hq1) (cwV 1 hts gT_X11_count rfl rfl rfl hdV_X11_count ⟨Nat.le_of_ble_eq_true rfl, Nat.le_of_ble_eq_true rfl⟩) (fl_pre gF11.1.1 gF11.1.2 rfl rfl hK hZ hQ hS hA2) hA2 hP (hd2 _) rfl hl _ rfl (Nat.le_of_ble_eq_true rfl) hS dL_law_374 ⟨hmc, hms⟩ (fun H locs hQ hP hS => ?_)
  refine lv_icmp_eq (tgt := 1232) hx hb dL_law_377 (by decide) (fun c1 => ?_) (fun c1 => (gno (gif_f h c1)).elim)
  replace h := gif_t h c1
  exact j1232 x3 z w H locs ls h hP hQ hS (lv_sub hl [0, 1, 2, 3] rfl)
set_option maxHeartbeats 4000000 in
set_option maxRecDepth 100000 in
theorem mlaw_6 {p : Program} {l : Launch} {e : Env} {s : State} {m : MethodId} {below : List Frame} {meth : Method} {c : Code} {b L : Nat} {xs : Nat → Int32} {D : va_G} {cA : Nat → ClassId} {h1 h2 tw mc ms : Nat} (C0 : lw_At p s m meth c b L xs) (hK : va_K D vwCl (gty cA) s) (hZ : gSt tw (gAL s) s s.heap) (hh1 : s.heap.size ≤ h1) (hh2 : h1 + 315 ≤ h2) (hmc : mc ≤ 600000) (hms : ms ≤ 7302250) (K : Int32 → gS → gS → Option Unit) (hK18 : ∀ (x3 : Int32) (z w : gS) (H : Heap) (locs : List Loc) (ls : Array Slot), K x3 z w = some () → va_P D vwCl (gw cA (fun k => h1 + k) shX 315 z) H → va_P D vwCl (gw cA (fun k => h2 + k) shM 22 w) H → va_S (gAL s) s.heap H locs → lv_has ls 4 [(3, .int x3), (0, .ref b), (1, .ref (h1 + 0)), (2, .ref (h2 + 0))] → W p l e room_1 s m #[Value.ref b] below meth c H locs mc ms (lw_Z below #[Value.ref b] s) (F0 m 18 ls [])) (x3 : Int32) (z w : gS) (H : Heap) (locs : List Loc) (ls : Array Slot) (h : f_law_6 xs L K x3 z w = some ()) (hP : va_P D vwCl (gw cA (fun k => h1 + k) shX 315 z) H) (hQ : va_P D vwCl (gw cA (fun k => h2 + k) shM 22 w) H) (hS : va_S (gAL s) s.heap H locs) (hl : lv_has ls 4 [(3, .int x3), (0, .ref b), (1, .ref (h1 + 0)), (2, .ref (h2 + 0))]) : W p l e room_1 s m #[Value.ref b] below meth c H locs mc ms (lw_Z below #[Value.ref b] s) (F0 m 382 ls []) := by
  obtain ⟨hx, hb, hr, hml, hown, hts0, hX, hbl, hlocks, hgv⟩ := id C0
  have hb : c.code = cL_law := hb
  have hts := hts0
  have hown : s.vm.findClass RL = some m.cls := hown
  have hbA : ¬ gAL s b := Nat.not_le.mpr hbl
  have hG1 : gOk (fun k => h1 + k) 315 := fun i j _ _ e => by have e : h1 + i = h1 + j := e; omega
  have hG2 : gOk (fun k => h2 + k) 22 := fun i j _ _ e => by have e : h2 + i = h2 + j := e; omega
  have hA1 : ∀ q, gA (fun k => h1 + k) 315 q → gAL s q := fun q h => by obtain ⟨k, _, rfl⟩ := h; show s.heap.size ≤ h1 + k; omega
  have hA2 : ∀ q, gA (fun k => h2 + k) 22 q → gAL s q := fun q h => by obtain ⟨k, _, rfl⟩ := h; show s.heap.size ≤ h2 + k; omega
  have j1232 := fun (x3 : Int32) (z w : gS) (H : Heap) (locs : List Loc) (ls : Array Slot) h hP hQ hS hl => law_next (x3 := x3) (z := z) (w := w) (H := H) (locs := locs) (ls := ls) C0 K hK18 h hP hQ hS hl
  have hd1 : ∀ (i : Nat) (q : Nat × va_E), (gw cA (fun k => h2 + k) shM 22 w)[i]? = some q → ¬ gA (fun k => h1 + k) 315 q.1 := fun i q hq h => by obtain ⟨k, hk, e⟩ := h; obtain ⟨h3, h4⟩ := gw_mem hq; have e : h2 + i = h1 + k := h4.symm.trans e; omega
  have hd2 : ∀ (z : gS) (i : Nat) (q : Nat × va_E), (gw cA (fun k => h1 + k) shX 315 z)[i]? = some q → ¬ gA (fun k => h2 + k) 22 q.1 := fun z i q hq h => by obtain ⟨k, hk, e⟩ := h; obtain ⟨h3, h4⟩ := gw_mem hq; have e : h1 + i = h2 + k := h4.symm.trans e; omega
  unfold f_law_6 at h
  refine lv_aload_n hx hb dL_law_382 rfl (lv_at hl 2 rfl) ?_
  refine lv_aload_n hx hb dL_law_383 rfl (lv_at hl 1 rfl) ?_
  refine lv_iload_n hx hb dL_law_384 rfl (lv_at hl 0 rfl) ?_
  refine lv_iconst (v := (nI 1)) hx hb dL_law_385 (by decide) ?_
  refine lv_iadd hx hb dL_law_386 ?_
  obtain ⟨hg1, h⟩ := gg_s h
  refine va_sld hx hb hX hbl hbA hS hg1 dL_law_387 ?_
  obtain ⟨q0, hq0, h⟩ := gb_s h
  refine fl_i (As := [.int (xs (x3 + (nI 1)).toNatClampNeg)]) (rest := []) ⟨hx, hb, hml, hown, hts⟩ (k_X10_orders l D cA (fun k => h1 + k) tw hG1 z (xs (x3 + (nI 1)).toNatClampNeg) q0 hq0) (cwV 1 hts gT_X10_orders rfl rfl rfl hdV_X10_orders ⟨Nat.le_of_ble_eq_true rfl, Nat.le_of_ble_eq_true rfl⟩) (fl_pre gF10.1.1 gF10.1.2 rfl rfl hK hZ hP hS hA1) hA1 hQ hd1 rfl hl _ rfl (Nat.le_of_ble_eq_true rfl) hS dL_law_388 ⟨hmc, hms⟩ (fun H locs hP hQ hS => ?_)
  refine lv_aload_n hx hb dL_law_391 rfl (lv_at hl 3 rfl) ?_
  refine lv_aload_n hx hb dL_law_392 rfl (lv_at hl 1 rfl) ?_
  refine lv_iload_n hx hb dL_law_393 rfl (lv_at hl 0 rfl) ?_
  refine lv_iconst (v := (nI 1)) hx hb dL_law_394 (by decide) ?_
  refine lv_iadd hx hb dL_law_395 ?_
  obtain ⟨hg2, h⟩ := gg_s h
  refine va_sld hx hb hX hbl hbA hS hg2 dL_law_396 ?_
  obtain ⟨q1, hq1, h⟩ := gb_s h
  refine fl_i (As := [.int (xs (x3 + (nI 1)).toNatClampNeg)]) (rest := [.int q0.1]) ⟨hx, hb, hml, hown, hts⟩ (k_X11_orders l D cA (fun k => h2 + k) tw hG2 w (xs (x3 + (nI 1)).toNatClampNeg) q1 hq1) (cwV 1 hts gT_X11_orders rfl rfl rfl hdV_X11_orders ⟨Nat.le_of_ble_eq_true rfl, Nat.le_of_ble_eq_true rfl⟩) (fl_pre gF11.1.1 gF11.1.2 rfl rfl hK hZ hQ hS hA2) hA2 hP (hd2 _) rfl hl _ rfl (Nat.le_of_ble_eq_true rfl) hS dL_law_397 ⟨hmc, hms⟩ (fun H locs hQ hP hS => ?_)
  refine lv_icmp_eq (tgt := 1232) hx hb dL_law_400 (by decide) (fun c1 => ?_) (fun c1 => (gno (gif_f h c1)).elim)
  replace h := gif_t h c1
  exact j1232 x3 q0.2 q1.2 H locs ls h hP hQ hS (lv_sub hl [0, 1, 2, 3] rfl)
set_option maxHeartbeats 4000000 in
set_option maxRecDepth 100000 in
theorem mlaw_7 {p : Program} {l : Launch} {e : Env} {s : State} {m : MethodId} {below : List Frame} {meth : Method} {c : Code} {b L : Nat} {xs : Nat → Int32} {D : va_G} {cA : Nat → ClassId} {h1 h2 tw mc ms : Nat} (C0 : lw_At p s m meth c b L xs) (hK : va_K D vwCl (gty cA) s) (hZ : gSt tw (gAL s) s s.heap) (hh1 : s.heap.size ≤ h1) (hh2 : h1 + 315 ≤ h2) (hmc : mc ≤ 600000) (hms : ms ≤ 7302250) (K : Int32 → gS → gS → Option Unit) (hK18 : ∀ (x3 : Int32) (z w : gS) (H : Heap) (locs : List Loc) (ls : Array Slot), K x3 z w = some () → va_P D vwCl (gw cA (fun k => h1 + k) shX 315 z) H → va_P D vwCl (gw cA (fun k => h2 + k) shM 22 w) H → va_S (gAL s) s.heap H locs → lv_has ls 4 [(3, .int x3), (0, .ref b), (1, .ref (h1 + 0)), (2, .ref (h2 + 0))] → W p l e room_1 s m #[Value.ref b] below meth c H locs mc ms (lw_Z below #[Value.ref b] s) (F0 m 18 ls [])) (x3 : Int32) (z w : gS) (H : Heap) (locs : List Loc) (ls : Array Slot) (h : f_law_7 xs L K x3 z w = some ()) (hP : va_P D vwCl (gw cA (fun k => h1 + k) shX 315 z) H) (hQ : va_P D vwCl (gw cA (fun k => h2 + k) shM 22 w) H) (hS : va_S (gAL s) s.heap H locs) (hl : lv_has ls 4 [(3, .int x3), (0, .ref b), (1, .ref (h1 + 0)), (2, .ref (h2 + 0))]) : W p l e room_1 s m #[Value.ref b] below meth c H locs mc ms (lw_Z below #[Value.ref b] s) (F0 m 405 ls []) := by
  obtain ⟨hx, hb, hr, hml, hown, hts0, hX, hbl, hlocks, hgv⟩ := id C0
  have hb : c.code = cL_law := hb
  have hts := hts0
  have hown : s.vm.findClass RL = some m.cls := hown
  have hbA : ¬ gAL s b := Nat.not_le.mpr hbl
  have hG1 : gOk (fun k => h1 + k) 315 := fun i j _ _ e => by have e : h1 + i = h1 + j := e; omega
  have hG2 : gOk (fun k => h2 + k) 22 := fun i j _ _ e => by have e : h2 + i = h2 + j := e; omega
  have hA1 : ∀ q, gA (fun k => h1 + k) 315 q → gAL s q := fun q h => by obtain ⟨k, _, rfl⟩ := h; show s.heap.size ≤ h1 + k; omega
  have hA2 : ∀ q, gA (fun k => h2 + k) 22 q → gAL s q := fun q h => by obtain ⟨k, _, rfl⟩ := h; show s.heap.size ≤ h2 + k; omega
  have j1232 := fun (x3 : Int32) (z w : gS) (H : Heap) (locs : List Loc) (ls : Array Slot) h hP hQ hS hl => law_next (x3 := x3) (z := z) (w := w) (H := H) (locs := locs) (ls := ls) C0 K hK18 h hP hQ hS hl
  have hd1 : ∀ (i : Nat) (q : Nat × va_E), (gw cA (fun k => h2 + k) shM 22 w)[i]? = some q → ¬ gA (fun k => h1 + k) 315 q.1 := fun i q hq h => by obtain ⟨k, hk, e⟩ := h; obtain ⟨h3, h4⟩ := gw_mem hq; have e : h2 + i = h1 + k := h4.symm.trans e; omega
  have hd2 : ∀ (z : gS) (i : Nat) (q : Nat × va_E), (gw cA (fun k => h1 + k) shX 315 z)[i]? = some q → ¬ gA (fun k => h2 + k) 22 q.1 := fun z i q hq h => by obtain ⟨k, hk, e⟩ := h; obtain ⟨h3, h4⟩ := gw_mem hq; have e : h1 + i = h2 + k := h4.symm.trans e; omega
  unfold f_law_7 at h
  refine lv_aload_n hx hb dL_law_405 rfl (lv_at hl 2 rfl) ?_
  refine lv_aload_n hx hb dL_law_406 rfl (lv_at hl 1 rfl) ?_
  refine lv_iload_n hx hb dL_law_407 rfl (lv_at hl 0 rfl) ?_
  refine lv_iconst (v := (nI 1)) hx hb dL_law_408 (by decide) ?_
  refine lv_iadd hx hb dL_law_409 ?_
  obtain ⟨hg1, h⟩ := gg_s h
  refine va_sld hx hb hX hbl hbA hS hg1 dL_law_410 ?_
  obtain ⟨q0, hq0, h⟩ := gb_s h
  refine fl_i (As := [.int (xs (x3 + (nI 1)).toNatClampNeg)]) (rest := []) ⟨hx, hb, hml, hown, hts⟩ (k_X10_gapless l D cA (fun k => h1 + k) tw hG1 z (xs (x3 + (nI 1)).toNatClampNeg) q0 hq0) (cwV 1 hts gT_X10_gapless rfl rfl rfl hdV_X10_gapless ⟨Nat.le_of_ble_eq_true rfl, Nat.le_of_ble_eq_true rfl⟩) (fl_pre gF10.1.1 gF10.1.2 rfl rfl hK hZ hP hS hA1) hA1 hQ hd1 rfl hl _ rfl (Nat.le_of_ble_eq_true rfl) hS dL_law_411 ⟨hmc, hms⟩ (fun H locs hP hQ hS => ?_)
  refine lv_aload_n hx hb dL_law_414 rfl (lv_at hl 3 rfl) ?_
  refine lv_aload_n hx hb dL_law_415 rfl (lv_at hl 1 rfl) ?_
  refine lv_iload_n hx hb dL_law_416 rfl (lv_at hl 0 rfl) ?_
  refine lv_iconst (v := (nI 1)) hx hb dL_law_417 (by decide) ?_
  refine lv_iadd hx hb dL_law_418 ?_
  obtain ⟨hg2, h⟩ := gg_s h
  refine va_sld hx hb hX hbl hbA hS hg2 dL_law_419 ?_
  obtain ⟨q1, hq1, h⟩ := gb_s h
  refine fl_i (As := [.int (xs (x3 + (nI 1)).toNatClampNeg)]) (rest := [.int q0.1]) ⟨hx, hb, hml, hown, hts⟩ (k_X11_gapless l D cA (fun k => h2 + k) tw hG2 w (xs (x3 + (nI 1)).toNatClampNeg) q1 hq1) (cwV 1 hts gT_X11_gapless rfl rfl rfl hdV_X11_gapless ⟨Nat.le_of_ble_eq_true rfl, Nat.le_of_ble_eq_true rfl⟩) (fl_pre gF11.1.1 gF11.1.2 rfl rfl hK hZ hQ hS hA2) hA2 hP (hd2 _) rfl hl _ rfl (Nat.le_of_ble_eq_true rfl) hS dL_law_420 ⟨hmc, hms⟩ (fun H locs hQ hP hS => ?_)
  refine lv_icmp_eq (tgt := 1232) hx hb dL_law_423 (by decide) (fun c1 => ?_) (fun c1 => (gno (gif_f h c1)).elim)
  replace h := gif_t h c1
  exact j1232 x3 q0.2 q1.2 H locs ls h hP hQ hS (lv_sub hl [0, 1, 2, 3] rfl)
set_option maxHeartbeats 4000000 in
set_option maxRecDepth 100000 in
theorem mlaw_8 {p : Program} {l : Launch} {e : Env} {s : State} {m : MethodId} {below : List Frame} {meth : Method} {c : Code} {b L : Nat} {xs : Nat → Int32} {D : va_G} {cA : Nat → ClassId} {h1 h2 tw mc ms : Nat} (C0 : lw_At p s m meth c b L xs) (hK : va_K D vwCl (gty cA) s) (hZ : gSt tw (gAL s) s s.heap) (hh1 : s.heap.size ≤ h1) (hh2 : h1 + 315 ≤ h2) (hmc : mc ≤ 600000) (hms : ms ≤ 7302250) (K : Int32 → gS → gS → Option Unit) (hK18 : ∀ (x3 : Int32) (z w : gS) (H : Heap) (locs : List Loc) (ls : Array Slot), K x3 z w = some () → va_P D vwCl (gw cA (fun k => h1 + k) shX 315 z) H → va_P D vwCl (gw cA (fun k => h2 + k) shM 22 w) H → va_S (gAL s) s.heap H locs → lv_has ls 4 [(3, .int x3), (0, .ref b), (1, .ref (h1 + 0)), (2, .ref (h2 + 0))] → W p l e room_1 s m #[Value.ref b] below meth c H locs mc ms (lw_Z below #[Value.ref b] s) (F0 m 18 ls [])) (x3 : Int32) (z w : gS) (H : Heap) (locs : List Loc) (ls : Array Slot) (h : f_law_8 xs L K x3 z w = some ()) (hP : va_P D vwCl (gw cA (fun k => h1 + k) shX 315 z) H) (hQ : va_P D vwCl (gw cA (fun k => h2 + k) shM 22 w) H) (hS : va_S (gAL s) s.heap H locs) (hl : lv_has ls 4 [(3, .int x3), (0, .ref b), (1, .ref (h1 + 0)), (2, .ref (h2 + 0))]) : W p l e room_1 s m #[Value.ref b] below meth c H locs mc ms (lw_Z below #[Value.ref b] s) (F0 m 428 ls []) := by
  obtain ⟨hx, hb, hr, hml, hown, hts0, hX, hbl, hlocks, hgv⟩ := id C0
  have hb : c.code = cL_law := hb
  have hts := hts0
  have hown : s.vm.findClass RL = some m.cls := hown
  have hbA : ¬ gAL s b := Nat.not_le.mpr hbl
  have hG1 : gOk (fun k => h1 + k) 315 := fun i j _ _ e => by have e : h1 + i = h1 + j := e; omega
  have hG2 : gOk (fun k => h2 + k) 22 := fun i j _ _ e => by have e : h2 + i = h2 + j := e; omega
  have hA1 : ∀ q, gA (fun k => h1 + k) 315 q → gAL s q := fun q h => by obtain ⟨k, _, rfl⟩ := h; show s.heap.size ≤ h1 + k; omega
  have hA2 : ∀ q, gA (fun k => h2 + k) 22 q → gAL s q := fun q h => by obtain ⟨k, _, rfl⟩ := h; show s.heap.size ≤ h2 + k; omega
  have j1232 := fun (x3 : Int32) (z w : gS) (H : Heap) (locs : List Loc) (ls : Array Slot) h hP hQ hS hl => law_next (x3 := x3) (z := z) (w := w) (H := H) (locs := locs) (ls := ls) C0 K hK18 h hP hQ hS hl
  have hd1 : ∀ (i : Nat) (q : Nat × va_E), (gw cA (fun k => h2 + k) shM 22 w)[i]? = some q → ¬ gA (fun k => h1 + k) 315 q.1 := fun i q hq h => by obtain ⟨k, hk, e⟩ := h; obtain ⟨h3, h4⟩ := gw_mem hq; have e : h2 + i = h1 + k := h4.symm.trans e; omega
  have hd2 : ∀ (z : gS) (i : Nat) (q : Nat × va_E), (gw cA (fun k => h1 + k) shX 315 z)[i]? = some q → ¬ gA (fun k => h2 + k) 22 q.1 := fun z i q hq h => by obtain ⟨k, hk, e⟩ := h; obtain ⟨h3, h4⟩ := gw_mem hq; have e : h1 + i = h2 + k := h4.symm.trans e; omega
  unfold f_law_8 at h
  refine lv_aload_n hx hb dL_law_428 rfl (lv_at hl 2 rfl) ?_
  refine lv_aload_n hx hb dL_law_429 rfl (lv_at hl 1 rfl) ?_
  refine lv_iload_n hx hb dL_law_430 rfl (lv_at hl 0 rfl) ?_
  refine lv_iconst (v := (nI 1)) hx hb dL_law_431 (by decide) ?_
  refine lv_iadd hx hb dL_law_432 ?_
  obtain ⟨hg1, h⟩ := gg_s h
  refine va_sld hx hb hX hbl hbA hS hg1 dL_law_433 ?_
  obtain ⟨q0, hq0, h⟩ := gb_s h
  refine fl_i (As := [.int (xs (x3 + (nI 1)).toNatClampNeg)]) (rest := []) ⟨hx, hb, hml, hown, hts⟩ (k_X10_fewest l D cA (fun k => h1 + k) tw hG1 z (xs (x3 + (nI 1)).toNatClampNeg) q0 hq0) (cwV 1 hts gT_X10_fewest rfl rfl rfl hdV_X10_fewest ⟨Nat.le_of_ble_eq_true rfl, Nat.le_of_ble_eq_true rfl⟩) (fl_pre gF10.1.1 gF10.1.2 rfl rfl hK hZ hP hS hA1) hA1 hQ hd1 rfl hl _ rfl (Nat.le_of_ble_eq_true rfl) hS dL_law_434 ⟨hmc, hms⟩ (fun H locs hP hQ hS => ?_)
  refine lv_aload_n hx hb dL_law_437 rfl (lv_at hl 3 rfl) ?_
  refine lv_aload_n hx hb dL_law_438 rfl (lv_at hl 1 rfl) ?_
  refine lv_iload_n hx hb dL_law_439 rfl (lv_at hl 0 rfl) ?_
  refine lv_iconst (v := (nI 1)) hx hb dL_law_440 (by decide) ?_
  refine lv_iadd hx hb dL_law_441 ?_
  obtain ⟨hg2, h⟩ := gg_s h
  refine va_sld hx hb hX hbl hbA hS hg2 dL_law_442 ?_
  obtain ⟨q1, hq1, h⟩ := gb_s h
  refine fl_i (As := [.int (xs (x3 + (nI 1)).toNatClampNeg)]) (rest := [.int q0.1]) ⟨hx, hb, hml, hown, hts⟩ (k_X11_fewest l D cA (fun k => h2 + k) tw hG2 w (xs (x3 + (nI 1)).toNatClampNeg) q1 hq1) (cwV 1 hts gT_X11_fewest rfl rfl rfl hdV_X11_fewest ⟨Nat.le_of_ble_eq_true rfl, Nat.le_of_ble_eq_true rfl⟩) (fl_pre gF11.1.1 gF11.1.2 rfl rfl hK hZ hQ hS hA2) hA2 hP (hd2 _) rfl hl _ rfl (Nat.le_of_ble_eq_true rfl) hS dL_law_443 ⟨hmc, hms⟩ (fun H locs hQ hP hS => ?_)
  refine lv_icmp_eq (tgt := 1232) hx hb dL_law_446 (by decide) (fun c1 => ?_) (fun c1 => (gno (gif_f h c1)).elim)
  replace h := gif_t h c1
  exact j1232 x3 q0.2 q1.2 H locs ls h hP hQ hS (lv_sub hl [0, 1, 2, 3] rfl)
set_option maxHeartbeats 4000000 in
set_option maxRecDepth 100000 in
theorem mlaw_9 {p : Program} {l : Launch} {e : Env} {s : State} {m : MethodId} {below : List Frame} {meth : Method} {c : Code} {b L : Nat} {xs : Nat → Int32} {D : va_G} {cA : Nat → ClassId} {h1 h2 tw mc ms : Nat} (C0 : lw_At p s m meth c b L xs) (hK : va_K D vwCl (gty cA) s) (hZ : gSt tw (gAL s) s s.heap) (hh1 : s.heap.size ≤ h1) (hh2 : h1 + 315 ≤ h2) (hmc : mc ≤ 600000) (hms : ms ≤ 7302250) (K : Int32 → gS → gS → Option Unit) (hK18 : ∀ (x3 : Int32) (z w : gS) (H : Heap) (locs : List Loc) (ls : Array Slot), K x3 z w = some () → va_P D vwCl (gw cA (fun k => h1 + k) shX 315 z) H → va_P D vwCl (gw cA (fun k => h2 + k) shM 22 w) H → va_S (gAL s) s.heap H locs → lv_has ls 4 [(3, .int x3), (0, .ref b), (1, .ref (h1 + 0)), (2, .ref (h2 + 0))] → W p l e room_1 s m #[Value.ref b] below meth c H locs mc ms (lw_Z below #[Value.ref b] s) (F0 m 18 ls [])) (x3 : Int32) (z w : gS) (H : Heap) (locs : List Loc) (ls : Array Slot) (h : f_law_9 xs L K x3 z w = some ()) (hP : va_P D vwCl (gw cA (fun k => h1 + k) shX 315 z) H) (hQ : va_P D vwCl (gw cA (fun k => h2 + k) shM 22 w) H) (hS : va_S (gAL s) s.heap H locs) (hl : lv_has ls 4 [(3, .int x3), (0, .ref b), (1, .ref (h1 + 0)), (2, .ref (h2 + 0))]) : W p l e room_1 s m #[Value.ref b] below meth c H locs mc ms (lw_Z below #[Value.ref b] s) (F0 m 451 ls []) := by
  obtain ⟨hx, hb, hr, hml, hown, hts0, hX, hbl, hlocks, hgv⟩ := id C0
  have hb : c.code = cL_law := hb
  have hts := hts0
  have hown : s.vm.findClass RL = some m.cls := hown
  have hbA : ¬ gAL s b := Nat.not_le.mpr hbl
  have hG1 : gOk (fun k => h1 + k) 315 := fun i j _ _ e => by have e : h1 + i = h1 + j := e; omega
  have hG2 : gOk (fun k => h2 + k) 22 := fun i j _ _ e => by have e : h2 + i = h2 + j := e; omega
  have hA1 : ∀ q, gA (fun k => h1 + k) 315 q → gAL s q := fun q h => by obtain ⟨k, _, rfl⟩ := h; show s.heap.size ≤ h1 + k; omega
  have hA2 : ∀ q, gA (fun k => h2 + k) 22 q → gAL s q := fun q h => by obtain ⟨k, _, rfl⟩ := h; show s.heap.size ≤ h2 + k; omega
  have j1232 := fun (x3 : Int32) (z w : gS) (H : Heap) (locs : List Loc) (ls : Array Slot) h hP hQ hS hl => law_next (x3 := x3) (z := z) (w := w) (H := H) (locs := locs) (ls := ls) C0 K hK18 h hP hQ hS hl
  have hd1 : ∀ (i : Nat) (q : Nat × va_E), (gw cA (fun k => h2 + k) shM 22 w)[i]? = some q → ¬ gA (fun k => h1 + k) 315 q.1 := fun i q hq h => by obtain ⟨k, hk, e⟩ := h; obtain ⟨h3, h4⟩ := gw_mem hq; have e : h2 + i = h1 + k := h4.symm.trans e; omega
  have hd2 : ∀ (z : gS) (i : Nat) (q : Nat × va_E), (gw cA (fun k => h1 + k) shX 315 z)[i]? = some q → ¬ gA (fun k => h2 + k) 22 q.1 := fun z i q hq h => by obtain ⟨k, hk, e⟩ := h; obtain ⟨h3, h4⟩ := gw_mem hq; have e : h1 + i = h2 + k := h4.symm.trans e; omega
  unfold f_law_9 at h
  refine lv_aload_n hx hb dL_law_451 rfl (lv_at hl 2 rfl) ?_
  refine lv_aload_n hx hb dL_law_452 rfl (lv_at hl 1 rfl) ?_
  refine lv_iload_n hx hb dL_law_453 rfl (lv_at hl 0 rfl) ?_
  refine lv_iconst (v := (nI 1)) hx hb dL_law_454 (by decide) ?_
  refine lv_iadd hx hb dL_law_455 ?_
  obtain ⟨hg1, h⟩ := gg_s h
  refine va_sld hx hb hX hbl hbA hS hg1 dL_law_456 ?_
  refine lv_aload_n hx hb dL_law_457 rfl (lv_at hl 1 rfl) ?_
  refine lv_iload_n hx hb dL_law_458 rfl (lv_at hl 0 rfl) ?_
  refine lv_iconst (v := (nI 2)) hx hb dL_law_459 (by decide) ?_
  refine lv_iadd hx hb dL_law_460 ?_
  obtain ⟨hg2, h⟩ := gg_s h
  refine va_sld hx hb hX hbl hbA hS hg2 dL_law_461 ?_
  refine lv_aload_n hx hb dL_law_462 rfl (lv_at hl 1 rfl) ?_
  refine lv_iload_n hx hb dL_law_463 rfl (lv_at hl 0 rfl) ?_
  refine lv_iconst (v := (nI 3)) hx hb dL_law_464 (by decide) ?_
  refine lv_iadd hx hb dL_law_465 ?_
  obtain ⟨hg3, h⟩ := gg_s h
  refine va_sld hx hb hX hbl hbA hS hg3 dL_law_466 ?_
  obtain ⟨q0, hq0, h⟩ := gb_s h
  refine fl_i (As := [.int (xs (x3 + (nI 1)).toNatClampNeg), .int (xs (x3 + (nI 2)).toNatClampNeg), .int (xs (x3 + (nI 3)).toNatClampNeg)]) (rest := []) ⟨hx, hb, hml, hown, hts⟩ (k_X10_ends l D cA (fun k => h1 + k) tw hG1 z (xs (x3 + (nI 1)).toNatClampNeg) (xs (x3 + (nI 2)).toNatClampNeg) (xs (x3 + (nI 3)).toNatClampNeg) q0 hq0) (cwV 3 hts gT_X10_ends rfl rfl rfl hdV_X10_ends ⟨Nat.le_of_ble_eq_true rfl, Nat.le_of_ble_eq_true rfl⟩) (fl_pre gF10.1.1 gF10.1.2 rfl rfl hK hZ hP hS hA1) hA1 hQ hd1 rfl hl _ rfl (Nat.le_of_ble_eq_true rfl) hS dL_law_467 ⟨hmc, hms⟩ (fun H locs hP hQ hS => ?_)
  refine lv_aload_n hx hb dL_law_470 rfl (lv_at hl 3 rfl) ?_
  refine lv_aload_n hx hb dL_law_471 rfl (lv_at hl 1 rfl) ?_
  refine lv_iload_n hx hb dL_law_472 rfl (lv_at hl 0 rfl) ?_
  refine lv_iconst (v := (nI 1)) hx hb dL_law_473 (by decide) ?_
  refine lv_iadd hx hb dL_law_474 ?_
  obtain ⟨hg4, h⟩ := gg_s h
  refine va_sld hx hb hX hbl hbA hS hg4 dL_law_475 ?_
  refine lv_aload_n hx hb dL_law_476 rfl (lv_at hl 1 rfl) ?_
  refine lv_iload_n hx hb dL_law_477 rfl (lv_at hl 0 rfl) ?_
  refine lv_iconst (v := (nI 2)) hx hb dL_law_478 (by decide) ?_
  refine lv_iadd hx hb dL_law_479 ?_
  obtain ⟨hg5, h⟩ := gg_s h
  refine va_sld hx hb hX hbl hbA hS hg5 dL_law_480 ?_
  refine lv_aload_n hx hb dL_law_481 rfl (lv_at hl 1 rfl) ?_
  refine lv_iload_n hx hb dL_law_482 rfl (lv_at hl 0 rfl) ?_
  refine lv_iconst (v := (nI 3)) hx hb dL_law_483 (by decide) ?_
  refine lv_iadd hx hb dL_law_484 ?_
  obtain ⟨hg6, h⟩ := gg_s h
  refine va_sld hx hb hX hbl hbA hS hg6 dL_law_485 ?_
  obtain ⟨q1, hq1, h⟩ := gb_s h
  refine fl_i (As := [.int (xs (x3 + (nI 1)).toNatClampNeg), .int (xs (x3 + (nI 2)).toNatClampNeg), .int (xs (x3 + (nI 3)).toNatClampNeg)]) (rest := [.int q0.1]) ⟨hx, hb, hml, hown, hts⟩ (k_X11_ends l D cA (fun k => h2 + k) tw hG2 w (xs (x3 + (nI 1)).toNatClampNeg) (xs (x3 + (nI 2)).toNatClampNeg) (xs (x3 + (nI 3)).toNatClampNeg) q1 hq1) (cwV 3 hts gT_X11_ends rfl rfl rfl hdV_X11_ends ⟨Nat.le_of_ble_eq_true rfl, Nat.le_of_ble_eq_true rfl⟩) (fl_pre gF11.1.1 gF11.1.2 rfl rfl hK hZ hQ hS hA2) hA2 hP (hd2 _) rfl hl _ rfl (Nat.le_of_ble_eq_true rfl) hS dL_law_486 ⟨hmc, hms⟩ (fun H locs hQ hP hS => ?_)
  refine lv_icmp_eq (tgt := 1232) hx hb dL_law_489 (by decide) (fun c1 => ?_) (fun c1 => (gno (gif_f h c1)).elim)
  replace h := gif_t h c1
  exact j1232 x3 q0.2 q1.2 H locs ls h hP hQ hS (lv_sub hl [0, 1, 2, 3] rfl)
set_option maxHeartbeats 4000000 in
set_option maxRecDepth 100000 in
theorem mlaw_10 {p : Program} {l : Launch} {e : Env} {s : State} {m : MethodId} {below : List Frame} {meth : Method} {c : Code} {b L : Nat} {xs : Nat → Int32} {D : va_G} {cA : Nat → ClassId} {h1 h2 tw mc ms : Nat} (C0 : lw_At p s m meth c b L xs) (hK : va_K D vwCl (gty cA) s) (hZ : gSt tw (gAL s) s s.heap) (hh1 : s.heap.size ≤ h1) (hh2 : h1 + 315 ≤ h2) (hmc : mc ≤ 600000) (hms : ms ≤ 7302250) (K : Int32 → gS → gS → Option Unit) (hK18 : ∀ (x3 : Int32) (z w : gS) (H : Heap) (locs : List Loc) (ls : Array Slot), K x3 z w = some () → va_P D vwCl (gw cA (fun k => h1 + k) shX 315 z) H → va_P D vwCl (gw cA (fun k => h2 + k) shM 22 w) H → va_S (gAL s) s.heap H locs → lv_has ls 4 [(3, .int x3), (0, .ref b), (1, .ref (h1 + 0)), (2, .ref (h2 + 0))] → W p l e room_1 s m #[Value.ref b] below meth c H locs mc ms (lw_Z below #[Value.ref b] s) (F0 m 18 ls [])) (x3 : Int32) (z w : gS) (H : Heap) (locs : List Loc) (ls : Array Slot) (h : f_law_10 xs L K x3 z w = some ()) (hP : va_P D vwCl (gw cA (fun k => h1 + k) shX 315 z) H) (hQ : va_P D vwCl (gw cA (fun k => h2 + k) shM 22 w) H) (hS : va_S (gAL s) s.heap H locs) (hl : lv_has ls 4 [(3, .int x3), (0, .ref b), (1, .ref (h1 + 0)), (2, .ref (h2 + 0))]) : W p l e room_1 s m #[Value.ref b] below meth c H locs mc ms (lw_Z below #[Value.ref b] s) (F0 m 494 ls []) := by
  obtain ⟨hx, hb, hr, hml, hown, hts0, hX, hbl, hlocks, hgv⟩ := id C0
  have hb : c.code = cL_law := hb
  have hts := hts0
  have hown : s.vm.findClass RL = some m.cls := hown
  have hbA : ¬ gAL s b := Nat.not_le.mpr hbl
  have hG1 : gOk (fun k => h1 + k) 315 := fun i j _ _ e => by have e : h1 + i = h1 + j := e; omega
  have hG2 : gOk (fun k => h2 + k) 22 := fun i j _ _ e => by have e : h2 + i = h2 + j := e; omega
  have hA1 : ∀ q, gA (fun k => h1 + k) 315 q → gAL s q := fun q h => by obtain ⟨k, _, rfl⟩ := h; show s.heap.size ≤ h1 + k; omega
  have hA2 : ∀ q, gA (fun k => h2 + k) 22 q → gAL s q := fun q h => by obtain ⟨k, _, rfl⟩ := h; show s.heap.size ≤ h2 + k; omega
  have j1232 := fun (x3 : Int32) (z w : gS) (H : Heap) (locs : List Loc) (ls : Array Slot) h hP hQ hS hl => law_next (x3 := x3) (z := z) (w := w) (H := H) (locs := locs) (ls := ls) C0 K hK18 h hP hQ hS hl
  have hd1 : ∀ (i : Nat) (q : Nat × va_E), (gw cA (fun k => h2 + k) shM 22 w)[i]? = some q → ¬ gA (fun k => h1 + k) 315 q.1 := fun i q hq h => by obtain ⟨k, hk, e⟩ := h; obtain ⟨h3, h4⟩ := gw_mem hq; have e : h2 + i = h1 + k := h4.symm.trans e; omega
  have hd2 : ∀ (z : gS) (i : Nat) (q : Nat × va_E), (gw cA (fun k => h1 + k) shX 315 z)[i]? = some q → ¬ gA (fun k => h2 + k) 22 q.1 := fun z i q hq h => by obtain ⟨k, hk, e⟩ := h; obtain ⟨h3, h4⟩ := gw_mem hq; have e : h1 + i = h2 + k := h4.symm.trans e; omega
  unfold f_law_10 at h
  refine lv_aload_n hx hb dL_law_494 rfl (lv_at hl 2 rfl) ?_
  obtain ⟨q0, hq0, h⟩ := gb_s h
  refine fl_i (As := []) (rest := []) ⟨hx, hb, hml, hown, hts⟩ (k_X10_clusters l D cA (fun k => h1 + k) tw hG1 z  q0 hq0) (cwV 0 hts gT_X10_clusters rfl rfl rfl hdV_X10_clusters ⟨Nat.le_of_ble_eq_true rfl, Nat.le_of_ble_eq_true rfl⟩) (fl_pre gF10.1.1 gF10.1.2 rfl rfl hK hZ hP hS hA1) hA1 hQ hd1 rfl hl _ rfl (Nat.le_of_ble_eq_true rfl) hS dL_law_495 ⟨hmc, hms⟩ (fun H locs hP hQ hS => ?_)
  refine lv_aload_n hx hb dL_law_498 rfl (lv_at hl 3 rfl) ?_
  obtain ⟨q1, hq1, h⟩ := gb_s h
  refine fl_i (As := []) (rest := [.int q0.1]) ⟨hx, hb, hml, hown, hts⟩ (k_X11_clusters l D cA (fun k => h2 + k) tw hG2 w  q1 hq1) (cwV 0 hts gT_X11_clusters rfl rfl rfl hdV_X11_clusters ⟨Nat.le_of_ble_eq_true rfl, Nat.le_of_ble_eq_true rfl⟩) (fl_pre gF11.1.1 gF11.1.2 rfl rfl hK hZ hQ hS hA2) hA2 hP (hd2 _) rfl hl _ rfl (Nat.le_of_ble_eq_true rfl) hS dL_law_499 ⟨hmc, hms⟩ (fun H locs hQ hP hS => ?_)
  refine lv_icmp_eq (tgt := 1232) hx hb dL_law_502 (by decide) (fun c1 => ?_) (fun c1 => (gno (gif_f h c1)).elim)
  replace h := gif_t h c1
  exact j1232 x3 q0.2 q1.2 H locs ls h hP hQ hS (lv_sub hl [0, 1, 2, 3] rfl)
set_option maxHeartbeats 4000000 in
set_option maxRecDepth 100000 in
theorem mlaw_11 {p : Program} {l : Launch} {e : Env} {s : State} {m : MethodId} {below : List Frame} {meth : Method} {c : Code} {b L : Nat} {xs : Nat → Int32} {D : va_G} {cA : Nat → ClassId} {h1 h2 tw mc ms : Nat} (C0 : lw_At p s m meth c b L xs) (hK : va_K D vwCl (gty cA) s) (hZ : gSt tw (gAL s) s s.heap) (hh1 : s.heap.size ≤ h1) (hh2 : h1 + 315 ≤ h2) (hmc : mc ≤ 600000) (hms : ms ≤ 7302250) (K : Int32 → gS → gS → Option Unit) (hK18 : ∀ (x3 : Int32) (z w : gS) (H : Heap) (locs : List Loc) (ls : Array Slot), K x3 z w = some () → va_P D vwCl (gw cA (fun k => h1 + k) shX 315 z) H → va_P D vwCl (gw cA (fun k => h2 + k) shM 22 w) H → va_S (gAL s) s.heap H locs → lv_has ls 4 [(3, .int x3), (0, .ref b), (1, .ref (h1 + 0)), (2, .ref (h2 + 0))] → W p l e room_1 s m #[Value.ref b] below meth c H locs mc ms (lw_Z below #[Value.ref b] s) (F0 m 18 ls [])) (x3 : Int32) (z w : gS) (H : Heap) (locs : List Loc) (ls : Array Slot) (h : f_law_11 xs L K x3 z w = some ()) (hP : va_P D vwCl (gw cA (fun k => h1 + k) shX 315 z) H) (hQ : va_P D vwCl (gw cA (fun k => h2 + k) shM 22 w) H) (hS : va_S (gAL s) s.heap H locs) (hl : lv_has ls 4 [(3, .int x3), (0, .ref b), (1, .ref (h1 + 0)), (2, .ref (h2 + 0))]) : W p l e room_1 s m #[Value.ref b] below meth c H locs mc ms (lw_Z below #[Value.ref b] s) (F0 m 507 ls []) := by
  obtain ⟨hx, hb, hr, hml, hown, hts0, hX, hbl, hlocks, hgv⟩ := id C0
  have hb : c.code = cL_law := hb
  have hts := hts0
  have hown : s.vm.findClass RL = some m.cls := hown
  have hbA : ¬ gAL s b := Nat.not_le.mpr hbl
  have hG1 : gOk (fun k => h1 + k) 315 := fun i j _ _ e => by have e : h1 + i = h1 + j := e; omega
  have hG2 : gOk (fun k => h2 + k) 22 := fun i j _ _ e => by have e : h2 + i = h2 + j := e; omega
  have hA1 : ∀ q, gA (fun k => h1 + k) 315 q → gAL s q := fun q h => by obtain ⟨k, _, rfl⟩ := h; show s.heap.size ≤ h1 + k; omega
  have hA2 : ∀ q, gA (fun k => h2 + k) 22 q → gAL s q := fun q h => by obtain ⟨k, _, rfl⟩ := h; show s.heap.size ≤ h2 + k; omega
  have j1232 := fun (x3 : Int32) (z w : gS) (H : Heap) (locs : List Loc) (ls : Array Slot) h hP hQ hS hl => law_next (x3 := x3) (z := z) (w := w) (H := H) (locs := locs) (ls := ls) C0 K hK18 h hP hQ hS hl
  have hd1 : ∀ (i : Nat) (q : Nat × va_E), (gw cA (fun k => h2 + k) shM 22 w)[i]? = some q → ¬ gA (fun k => h1 + k) 315 q.1 := fun i q hq h => by obtain ⟨k, hk, e⟩ := h; obtain ⟨h3, h4⟩ := gw_mem hq; have e : h2 + i = h1 + k := h4.symm.trans e; omega
  have hd2 : ∀ (z : gS) (i : Nat) (q : Nat × va_E), (gw cA (fun k => h1 + k) shX 315 z)[i]? = some q → ¬ gA (fun k => h2 + k) 22 q.1 := fun z i q hq h => by obtain ⟨k, hk, e⟩ := h; obtain ⟨h3, h4⟩ := gw_mem hq; have e : h1 + i = h2 + k := h4.symm.trans e; omega
  unfold f_law_11 at h
  refine lv_aload_n hx hb dL_law_507 rfl (lv_at hl 2 rfl) ?_
  refine lv_aload_n hx hb dL_law_508 rfl (lv_at hl 1 rfl) ?_
  refine lv_iload_n hx hb dL_law_509 rfl (lv_at hl 0 rfl) ?_
  refine lv_iconst (v := (nI 1)) hx hb dL_law_510 (by decide) ?_
  refine lv_iadd hx hb dL_law_511 ?_
  obtain ⟨hg1, h⟩ := gg_s h
  refine va_sld hx hb hX hbl hbA hS hg1 dL_law_512 ?_
  obtain ⟨q0, hq0, h⟩ := gb_s h
  refine fl_i (As := [.int (xs (x3 + (nI 1)).toNatClampNeg)]) (rest := []) ⟨hx, hb, hml, hown, hts⟩ (k_X10_knots l D cA (fun k => h1 + k) tw hG1 z (xs (x3 + (nI 1)).toNatClampNeg) q0 hq0) (cwV 1 hts gT_X10_knots rfl rfl rfl hdV_X10_knots ⟨Nat.le_of_ble_eq_true rfl, Nat.le_of_ble_eq_true rfl⟩) (fl_pre gF10.1.1 gF10.1.2 rfl rfl hK hZ hP hS hA1) hA1 hQ hd1 rfl hl _ rfl (Nat.le_of_ble_eq_true rfl) hS dL_law_513 ⟨hmc, hms⟩ (fun H locs hP hQ hS => ?_)
  refine lv_aload_n hx hb dL_law_516 rfl (lv_at hl 3 rfl) ?_
  refine lv_aload_n hx hb dL_law_517 rfl (lv_at hl 1 rfl) ?_
  refine lv_iload_n hx hb dL_law_518 rfl (lv_at hl 0 rfl) ?_
  refine lv_iconst (v := (nI 1)) hx hb dL_law_519 (by decide) ?_
  refine lv_iadd hx hb dL_law_520 ?_
  obtain ⟨hg2, h⟩ := gg_s h
  refine va_sld hx hb hX hbl hbA hS hg2 dL_law_521 ?_
  obtain ⟨q1, hq1, h⟩ := gb_s h
  refine fl_i (As := [.int (xs (x3 + (nI 1)).toNatClampNeg)]) (rest := [.int q0.1]) ⟨hx, hb, hml, hown, hts⟩ (k_X11_knots l D cA (fun k => h2 + k) tw hG2 w (xs (x3 + (nI 1)).toNatClampNeg) q1 hq1) (cwV 1 hts gT_X11_knots rfl rfl rfl hdV_X11_knots ⟨Nat.le_of_ble_eq_true rfl, Nat.le_of_ble_eq_true rfl⟩) (fl_pre gF11.1.1 gF11.1.2 rfl rfl hK hZ hQ hS hA2) hA2 hP (hd2 _) rfl hl _ rfl (Nat.le_of_ble_eq_true rfl) hS dL_law_522 ⟨hmc, hms⟩ (fun H locs hQ hP hS => ?_)
  refine lv_icmp_eq (tgt := 1232) hx hb dL_law_525 (by decide) (fun c1 => ?_) (fun c1 => (gno (gif_f h c1)).elim)
  replace h := gif_t h c1
  exact j1232 x3 q0.2 q1.2 H locs ls h hP hQ hS (lv_sub hl [0, 1, 2, 3] rfl)
set_option maxHeartbeats 4000000 in
set_option maxRecDepth 100000 in
theorem mlaw_12 {p : Program} {l : Launch} {e : Env} {s : State} {m : MethodId} {below : List Frame} {meth : Method} {c : Code} {b L : Nat} {xs : Nat → Int32} {D : va_G} {cA : Nat → ClassId} {h1 h2 tw mc ms : Nat} (C0 : lw_At p s m meth c b L xs) (hK : va_K D vwCl (gty cA) s) (hZ : gSt tw (gAL s) s s.heap) (hh1 : s.heap.size ≤ h1) (hh2 : h1 + 315 ≤ h2) (hmc : mc ≤ 600000) (hms : ms ≤ 7302250) (K : Int32 → gS → gS → Option Unit) (hK18 : ∀ (x3 : Int32) (z w : gS) (H : Heap) (locs : List Loc) (ls : Array Slot), K x3 z w = some () → va_P D vwCl (gw cA (fun k => h1 + k) shX 315 z) H → va_P D vwCl (gw cA (fun k => h2 + k) shM 22 w) H → va_S (gAL s) s.heap H locs → lv_has ls 4 [(3, .int x3), (0, .ref b), (1, .ref (h1 + 0)), (2, .ref (h2 + 0))] → W p l e room_1 s m #[Value.ref b] below meth c H locs mc ms (lw_Z below #[Value.ref b] s) (F0 m 18 ls [])) (x3 : Int32) (z w : gS) (H : Heap) (locs : List Loc) (ls : Array Slot) (h : f_law_12 xs L K x3 z w = some ()) (hP : va_P D vwCl (gw cA (fun k => h1 + k) shX 315 z) H) (hQ : va_P D vwCl (gw cA (fun k => h2 + k) shM 22 w) H) (hS : va_S (gAL s) s.heap H locs) (hl : lv_has ls 4 [(3, .int x3), (0, .ref b), (1, .ref (h1 + 0)), (2, .ref (h2 + 0))]) : W p l e room_1 s m #[Value.ref b] below meth c H locs mc ms (lw_Z below #[Value.ref b] s) (F0 m 530 ls []) := by
  obtain ⟨hx, hb, hr, hml, hown, hts0, hX, hbl, hlocks, hgv⟩ := id C0
  have hb : c.code = cL_law := hb
  have hts := hts0
  have hown : s.vm.findClass RL = some m.cls := hown
  have hbA : ¬ gAL s b := Nat.not_le.mpr hbl
  have hG1 : gOk (fun k => h1 + k) 315 := fun i j _ _ e => by have e : h1 + i = h1 + j := e; omega
  have hG2 : gOk (fun k => h2 + k) 22 := fun i j _ _ e => by have e : h2 + i = h2 + j := e; omega
  have hA1 : ∀ q, gA (fun k => h1 + k) 315 q → gAL s q := fun q h => by obtain ⟨k, _, rfl⟩ := h; show s.heap.size ≤ h1 + k; omega
  have hA2 : ∀ q, gA (fun k => h2 + k) 22 q → gAL s q := fun q h => by obtain ⟨k, _, rfl⟩ := h; show s.heap.size ≤ h2 + k; omega
  have j1232 := fun (x3 : Int32) (z w : gS) (H : Heap) (locs : List Loc) (ls : Array Slot) h hP hQ hS hl => law_next (x3 := x3) (z := z) (w := w) (H := H) (locs := locs) (ls := ls) C0 K hK18 h hP hQ hS hl
  have hd1 : ∀ (i : Nat) (q : Nat × va_E), (gw cA (fun k => h2 + k) shM 22 w)[i]? = some q → ¬ gA (fun k => h1 + k) 315 q.1 := fun i q hq h => by obtain ⟨k, hk, e⟩ := h; obtain ⟨h3, h4⟩ := gw_mem hq; have e : h2 + i = h1 + k := h4.symm.trans e; omega
  have hd2 : ∀ (z : gS) (i : Nat) (q : Nat × va_E), (gw cA (fun k => h1 + k) shX 315 z)[i]? = some q → ¬ gA (fun k => h2 + k) 22 q.1 := fun z i q hq h => by obtain ⟨k, hk, e⟩ := h; obtain ⟨h3, h4⟩ := gw_mem hq; have e : h1 + i = h2 + k := h4.symm.trans e; omega
  unfold f_law_12 at h
  refine lv_aload_n hx hb dL_law_530 rfl (lv_at hl 2 rfl) ?_
  refine lv_aload_n hx hb dL_law_531 rfl (lv_at hl 1 rfl) ?_
  refine lv_iload_n hx hb dL_law_532 rfl (lv_at hl 0 rfl) ?_
  refine lv_iconst (v := (nI 1)) hx hb dL_law_533 (by decide) ?_
  refine lv_iadd hx hb dL_law_534 ?_
  obtain ⟨hg1, h⟩ := gg_s h
  refine va_sld hx hb hX hbl hbA hS hg1 dL_law_535 ?_
  refine lv_aload_n hx hb dL_law_536 rfl (lv_at hl 1 rfl) ?_
  refine lv_iload_n hx hb dL_law_537 rfl (lv_at hl 0 rfl) ?_
  refine lv_iconst (v := (nI 2)) hx hb dL_law_538 (by decide) ?_
  refine lv_iadd hx hb dL_law_539 ?_
  obtain ⟨hg2, h⟩ := gg_s h
  refine va_sld hx hb hX hbl hbA hS hg2 dL_law_540 ?_
  obtain ⟨q0, hq0, h⟩ := gb_s h
  refine fl_i (As := [.int (xs (x3 + (nI 1)).toNatClampNeg), .int (xs (x3 + (nI 2)).toNatClampNeg)]) (rest := []) ⟨hx, hb, hml, hown, hts⟩ (k_X10_knot l D cA (fun k => h1 + k) tw hG1 z (xs (x3 + (nI 1)).toNatClampNeg) (xs (x3 + (nI 2)).toNatClampNeg) q0 hq0) (cwV 2 hts gT_X10_knot rfl rfl rfl hdV_X10_knot ⟨Nat.le_of_ble_eq_true rfl, Nat.le_of_ble_eq_true rfl⟩) (fl_pre gF10.1.1 gF10.1.2 rfl rfl hK hZ hP hS hA1) hA1 hQ hd1 rfl hl _ rfl (Nat.le_of_ble_eq_true rfl) hS dL_law_541 ⟨hmc, hms⟩ (fun H locs hP hQ hS => ?_)
  refine lv_aload_n hx hb dL_law_544 rfl (lv_at hl 3 rfl) ?_
  refine lv_aload_n hx hb dL_law_545 rfl (lv_at hl 1 rfl) ?_
  refine lv_iload_n hx hb dL_law_546 rfl (lv_at hl 0 rfl) ?_
  refine lv_iconst (v := (nI 1)) hx hb dL_law_547 (by decide) ?_
  refine lv_iadd hx hb dL_law_548 ?_
  obtain ⟨hg3, h⟩ := gg_s h
  refine va_sld hx hb hX hbl hbA hS hg3 dL_law_549 ?_
  refine lv_aload_n hx hb dL_law_550 rfl (lv_at hl 1 rfl) ?_
  refine lv_iload_n hx hb dL_law_551 rfl (lv_at hl 0 rfl) ?_
  refine lv_iconst (v := (nI 2)) hx hb dL_law_552 (by decide) ?_
  refine lv_iadd hx hb dL_law_553 ?_
  obtain ⟨hg4, h⟩ := gg_s h
  refine va_sld hx hb hX hbl hbA hS hg4 dL_law_554 ?_
  obtain ⟨q1, hq1, h⟩ := gb_s h
  refine fl_i (As := [.int (xs (x3 + (nI 1)).toNatClampNeg), .int (xs (x3 + (nI 2)).toNatClampNeg)]) (rest := [.int q0.1]) ⟨hx, hb, hml, hown, hts⟩ (k_X11_knot l D cA (fun k => h2 + k) tw hG2 w (xs (x3 + (nI 1)).toNatClampNeg) (xs (x3 + (nI 2)).toNatClampNeg) q1 hq1) (cwV 2 hts gT_X11_knot rfl rfl rfl hdV_X11_knot ⟨Nat.le_of_ble_eq_true rfl, Nat.le_of_ble_eq_true rfl⟩) (fl_pre gF11.1.1 gF11.1.2 rfl rfl hK hZ hQ hS hA2) hA2 hP (hd2 _) rfl hl _ rfl (Nat.le_of_ble_eq_true rfl) hS dL_law_555 ⟨hmc, hms⟩ (fun H locs hQ hP hS => ?_)
  refine lv_icmp_eq (tgt := 1232) hx hb dL_law_558 (by decide) (fun c1 => ?_) (fun c1 => (gno (gif_f h c1)).elim)
  replace h := gif_t h c1
  exact j1232 x3 q0.2 q1.2 H locs ls h hP hQ hS (lv_sub hl [0, 1, 2, 3] rfl)
set_option maxHeartbeats 4000000 in
set_option maxRecDepth 100000 in
theorem mlaw_13 {p : Program} {l : Launch} {e : Env} {s : State} {m : MethodId} {below : List Frame} {meth : Method} {c : Code} {b L : Nat} {xs : Nat → Int32} {D : va_G} {cA : Nat → ClassId} {h1 h2 tw mc ms : Nat} (C0 : lw_At p s m meth c b L xs) (hK : va_K D vwCl (gty cA) s) (hZ : gSt tw (gAL s) s s.heap) (hh1 : s.heap.size ≤ h1) (hh2 : h1 + 315 ≤ h2) (hmc : mc ≤ 600000) (hms : ms ≤ 7302250) (K : Int32 → gS → gS → Option Unit) (hK18 : ∀ (x3 : Int32) (z w : gS) (H : Heap) (locs : List Loc) (ls : Array Slot), K x3 z w = some () → va_P D vwCl (gw cA (fun k => h1 + k) shX 315 z) H → va_P D vwCl (gw cA (fun k => h2 + k) shM 22 w) H → va_S (gAL s) s.heap H locs → lv_has ls 4 [(3, .int x3), (0, .ref b), (1, .ref (h1 + 0)), (2, .ref (h2 + 0))] → W p l e room_1 s m #[Value.ref b] below meth c H locs mc ms (lw_Z below #[Value.ref b] s) (F0 m 18 ls [])) (x3 : Int32) (z w : gS) (H : Heap) (locs : List Loc) (ls : Array Slot) (h : f_law_13 xs L K x3 z w = some ()) (hP : va_P D vwCl (gw cA (fun k => h1 + k) shX 315 z) H) (hQ : va_P D vwCl (gw cA (fun k => h2 + k) shM 22 w) H) (hS : va_S (gAL s) s.heap H locs) (hl : lv_has ls 4 [(3, .int x3), (0, .ref b), (1, .ref (h1 + 0)), (2, .ref (h2 + 0))]) : W p l e room_1 s m #[Value.ref b] below meth c H locs mc ms (lw_Z below #[Value.ref b] s) (F0 m 563 ls []) := by
  obtain ⟨hx, hb, hr, hml, hown, hts0, hX, hbl, hlocks, hgv⟩ := id C0
  have hb : c.code = cL_law := hb
  have hts := hts0
  have hown : s.vm.findClass RL = some m.cls := hown
  have hbA : ¬ gAL s b := Nat.not_le.mpr hbl
  have hG1 : gOk (fun k => h1 + k) 315 := fun i j _ _ e => by have e : h1 + i = h1 + j := e; omega
  have hG2 : gOk (fun k => h2 + k) 22 := fun i j _ _ e => by have e : h2 + i = h2 + j := e; omega
  have hA1 : ∀ q, gA (fun k => h1 + k) 315 q → gAL s q := fun q h => by obtain ⟨k, _, rfl⟩ := h; show s.heap.size ≤ h1 + k; omega
  have hA2 : ∀ q, gA (fun k => h2 + k) 22 q → gAL s q := fun q h => by obtain ⟨k, _, rfl⟩ := h; show s.heap.size ≤ h2 + k; omega
  have j1232 := fun (x3 : Int32) (z w : gS) (H : Heap) (locs : List Loc) (ls : Array Slot) h hP hQ hS hl => law_next (x3 := x3) (z := z) (w := w) (H := H) (locs := locs) (ls := ls) C0 K hK18 h hP hQ hS hl
  have hd1 : ∀ (i : Nat) (q : Nat × va_E), (gw cA (fun k => h2 + k) shM 22 w)[i]? = some q → ¬ gA (fun k => h1 + k) 315 q.1 := fun i q hq h => by obtain ⟨k, hk, e⟩ := h; obtain ⟨h3, h4⟩ := gw_mem hq; have e : h2 + i = h1 + k := h4.symm.trans e; omega
  have hd2 : ∀ (z : gS) (i : Nat) (q : Nat × va_E), (gw cA (fun k => h1 + k) shX 315 z)[i]? = some q → ¬ gA (fun k => h2 + k) 22 q.1 := fun z i q hq h => by obtain ⟨k, hk, e⟩ := h; obtain ⟨h3, h4⟩ := gw_mem hq; have e : h1 + i = h2 + k := h4.symm.trans e; omega
  unfold f_law_13 at h
  refine lv_aload_n hx hb dL_law_563 rfl (lv_at hl 2 rfl) ?_
  obtain ⟨q0, hq0, h⟩ := gb_s h
  refine fl_l (As := []) (rest := []) ⟨hx, hb, hml, hown, hts⟩ (k_X10_told l D cA (fun k => h1 + k) tw hG1 z  q0 hq0) (cwV 0 hts gT_X10_told rfl rfl rfl hdV_X10_told ⟨Nat.le_of_ble_eq_true rfl, Nat.le_of_ble_eq_true rfl⟩) (fl_pre gF10.1.1 gF10.1.2 rfl rfl hK hZ hP hS hA1) hA1 hQ hd1 rfl hl _ rfl (Nat.le_of_ble_eq_true rfl) hS dL_law_564 ⟨hmc, hms⟩ (fun H locs hP hQ hS => ?_)
  refine lv_aload_n hx hb dL_law_567 rfl (lv_at hl 3 rfl) ?_
  obtain ⟨q1, hq1, h⟩ := gb_s h
  refine fl_l (As := []) (rest := [.long q0.1]) ⟨hx, hb, hml, hown, hts⟩ (k_X11_told l D cA (fun k => h2 + k) tw hG2 w  q1 hq1) (cwV 0 hts gT_X11_told rfl rfl rfl hdV_X11_told ⟨Nat.le_of_ble_eq_true rfl, Nat.le_of_ble_eq_true rfl⟩) (fl_pre gF11.1.1 gF11.1.2 rfl rfl hK hZ hQ hS hA2) hA2 hP (hd2 _) rfl hl _ rfl (Nat.le_of_ble_eq_true rfl) hS dL_law_568 ⟨hmc, hms⟩ (fun H locs hQ hP hS => ?_)
  by_cases c1 : q0.1 = q1.1
  case neg => exact (gno (gif_f h c1)).elim
  refine W.lcmp hx hb dL_law_571 ?_
  refine lv_if_eq (tgt := 1232) hx hb dL_law_572 (by decide) (fun _ => ?_) (fun c2 => absurd (fl_cmp c1) c2)
  replace h := gif_t h c1
  exact j1232 x3 q0.2 q1.2 H locs ls h hP hQ hS (lv_sub hl [0, 1, 2, 3] rfl)
set_option maxHeartbeats 4000000 in
set_option maxRecDepth 100000 in
theorem mlaw_14 {p : Program} {l : Launch} {e : Env} {s : State} {m : MethodId} {below : List Frame} {meth : Method} {c : Code} {b L : Nat} {xs : Nat → Int32} {D : va_G} {cA : Nat → ClassId} {h1 h2 tw mc ms : Nat} (C0 : lw_At p s m meth c b L xs) (hK : va_K D vwCl (gty cA) s) (hZ : gSt tw (gAL s) s s.heap) (hh1 : s.heap.size ≤ h1) (hh2 : h1 + 315 ≤ h2) (hmc : mc ≤ 600000) (hms : ms ≤ 7302250) (K : Int32 → gS → gS → Option Unit) (hK18 : ∀ (x3 : Int32) (z w : gS) (H : Heap) (locs : List Loc) (ls : Array Slot), K x3 z w = some () → va_P D vwCl (gw cA (fun k => h1 + k) shX 315 z) H → va_P D vwCl (gw cA (fun k => h2 + k) shM 22 w) H → va_S (gAL s) s.heap H locs → lv_has ls 4 [(3, .int x3), (0, .ref b), (1, .ref (h1 + 0)), (2, .ref (h2 + 0))] → W p l e room_1 s m #[Value.ref b] below meth c H locs mc ms (lw_Z below #[Value.ref b] s) (F0 m 18 ls [])) (x3 : Int32) (z w : gS) (H : Heap) (locs : List Loc) (ls : Array Slot) (h : f_law_14 xs L K x3 z w = some ()) (hP : va_P D vwCl (gw cA (fun k => h1 + k) shX 315 z) H) (hQ : va_P D vwCl (gw cA (fun k => h2 + k) shM 22 w) H) (hS : va_S (gAL s) s.heap H locs) (hl : lv_has ls 4 [(3, .int x3), (0, .ref b), (1, .ref (h1 + 0)), (2, .ref (h2 + 0))]) : W p l e room_1 s m #[Value.ref b] below meth c H locs mc ms (lw_Z below #[Value.ref b] s) (F0 m 577 ls []) := by
  obtain ⟨hx, hb, hr, hml, hown, hts0, hX, hbl, hlocks, hgv⟩ := id C0
  have hb : c.code = cL_law := hb
  have hts := hts0
  have hown : s.vm.findClass RL = some m.cls := hown
  have hbA : ¬ gAL s b := Nat.not_le.mpr hbl
  have hG1 : gOk (fun k => h1 + k) 315 := fun i j _ _ e => by have e : h1 + i = h1 + j := e; omega
  have hG2 : gOk (fun k => h2 + k) 22 := fun i j _ _ e => by have e : h2 + i = h2 + j := e; omega
  have hA1 : ∀ q, gA (fun k => h1 + k) 315 q → gAL s q := fun q h => by obtain ⟨k, _, rfl⟩ := h; show s.heap.size ≤ h1 + k; omega
  have hA2 : ∀ q, gA (fun k => h2 + k) 22 q → gAL s q := fun q h => by obtain ⟨k, _, rfl⟩ := h; show s.heap.size ≤ h2 + k; omega
  have j1232 := fun (x3 : Int32) (z w : gS) (H : Heap) (locs : List Loc) (ls : Array Slot) h hP hQ hS hl => law_next (x3 := x3) (z := z) (w := w) (H := H) (locs := locs) (ls := ls) C0 K hK18 h hP hQ hS hl
  have hd1 : ∀ (i : Nat) (q : Nat × va_E), (gw cA (fun k => h2 + k) shM 22 w)[i]? = some q → ¬ gA (fun k => h1 + k) 315 q.1 := fun i q hq h => by obtain ⟨k, hk, e⟩ := h; obtain ⟨h3, h4⟩ := gw_mem hq; have e : h2 + i = h1 + k := h4.symm.trans e; omega
  have hd2 : ∀ (z : gS) (i : Nat) (q : Nat × va_E), (gw cA (fun k => h1 + k) shX 315 z)[i]? = some q → ¬ gA (fun k => h2 + k) 22 q.1 := fun z i q hq h => by obtain ⟨k, hk, e⟩ := h; obtain ⟨h3, h4⟩ := gw_mem hq; have e : h1 + i = h2 + k := h4.symm.trans e; omega
  unfold f_law_14 at h
  refine lv_aload_n hx hb dL_law_577 rfl (lv_at hl 2 rfl) ?_
  refine lv_aload_n hx hb dL_law_578 rfl (lv_at hl 1 rfl) ?_
  refine lv_iload_n hx hb dL_law_579 rfl (lv_at hl 0 rfl) ?_
  refine lv_iconst (v := (nI 1)) hx hb dL_law_580 (by decide) ?_
  refine lv_iadd hx hb dL_law_581 ?_
  obtain ⟨hg1, h⟩ := gg_s h
  refine va_sld hx hb hX hbl hbA hS hg1 dL_law_582 ?_
  obtain ⟨q0, hq0, h⟩ := gb_s h
  refine fl_i (As := [.int (xs (x3 + (nI 1)).toNatClampNeg)]) (rest := []) ⟨hx, hb, hml, hown, hts⟩ (k_X10_spoils l D cA (fun k => h1 + k) tw hG1 z (xs (x3 + (nI 1)).toNatClampNeg) q0 hq0) (cwV 1 hts gT_X10_spoils rfl rfl rfl hdV_X10_spoils ⟨Nat.le_of_ble_eq_true rfl, Nat.le_of_ble_eq_true rfl⟩) (fl_pre gF10.1.1 gF10.1.2 rfl rfl hK hZ hP hS hA1) hA1 hQ hd1 rfl hl _ rfl (Nat.le_of_ble_eq_true rfl) hS dL_law_583 ⟨hmc, hms⟩ (fun H locs hP hQ hS => ?_)
  refine lv_aload_n hx hb dL_law_586 rfl (lv_at hl 3 rfl) ?_
  refine lv_aload_n hx hb dL_law_587 rfl (lv_at hl 1 rfl) ?_
  refine lv_iload_n hx hb dL_law_588 rfl (lv_at hl 0 rfl) ?_
  refine lv_iconst (v := (nI 1)) hx hb dL_law_589 (by decide) ?_
  refine lv_iadd hx hb dL_law_590 ?_
  obtain ⟨hg2, h⟩ := gg_s h
  refine va_sld hx hb hX hbl hbA hS hg2 dL_law_591 ?_
  obtain ⟨q1, hq1, h⟩ := gb_s h
  refine fl_i (As := [.int (xs (x3 + (nI 1)).toNatClampNeg)]) (rest := [.int q0.1]) ⟨hx, hb, hml, hown, hts⟩ (k_X11_spoils l D cA (fun k => h2 + k) tw hG2 w (xs (x3 + (nI 1)).toNatClampNeg) q1 hq1) (cwV 1 hts gT_X11_spoils rfl rfl rfl hdV_X11_spoils ⟨Nat.le_of_ble_eq_true rfl, Nat.le_of_ble_eq_true rfl⟩) (fl_pre gF11.1.1 gF11.1.2 rfl rfl hK hZ hQ hS hA2) hA2 hP (hd2 _) rfl hl _ rfl (Nat.le_of_ble_eq_true rfl) hS dL_law_592 ⟨hmc, hms⟩ (fun H locs hQ hP hS => ?_)
  refine lv_icmp_eq (tgt := 1232) hx hb dL_law_595 (by decide) (fun c1 => ?_) (fun c1 => (gno (gif_f h c1)).elim)
  replace h := gif_t h c1
  exact j1232 x3 q0.2 q1.2 H locs ls h hP hQ hS (lv_sub hl [0, 1, 2, 3] rfl)
set_option maxHeartbeats 4000000 in
set_option maxRecDepth 100000 in
theorem mlaw_15 {p : Program} {l : Launch} {e : Env} {s : State} {m : MethodId} {below : List Frame} {meth : Method} {c : Code} {b L : Nat} {xs : Nat → Int32} {D : va_G} {cA : Nat → ClassId} {h1 h2 tw mc ms : Nat} (C0 : lw_At p s m meth c b L xs) (hK : va_K D vwCl (gty cA) s) (hZ : gSt tw (gAL s) s s.heap) (hh1 : s.heap.size ≤ h1) (hh2 : h1 + 315 ≤ h2) (hmc : mc ≤ 600000) (hms : ms ≤ 7302250) (K : Int32 → gS → gS → Option Unit) (hK18 : ∀ (x3 : Int32) (z w : gS) (H : Heap) (locs : List Loc) (ls : Array Slot), K x3 z w = some () → va_P D vwCl (gw cA (fun k => h1 + k) shX 315 z) H → va_P D vwCl (gw cA (fun k => h2 + k) shM 22 w) H → va_S (gAL s) s.heap H locs → lv_has ls 4 [(3, .int x3), (0, .ref b), (1, .ref (h1 + 0)), (2, .ref (h2 + 0))] → W p l e room_1 s m #[Value.ref b] below meth c H locs mc ms (lw_Z below #[Value.ref b] s) (F0 m 18 ls [])) (x3 : Int32) (z w : gS) (H : Heap) (locs : List Loc) (ls : Array Slot) (h : f_law_15 xs L K x3 z w = some ()) (hP : va_P D vwCl (gw cA (fun k => h1 + k) shX 315 z) H) (hQ : va_P D vwCl (gw cA (fun k => h2 + k) shM 22 w) H) (hS : va_S (gAL s) s.heap H locs) (hl : lv_has ls 4 [(3, .int x3), (0, .ref b), (1, .ref (h1 + 0)), (2, .ref (h2 + 0))]) : W p l e room_1 s m #[Value.ref b] below meth c H locs mc ms (lw_Z below #[Value.ref b] s) (F0 m 600 ls []) := by
  obtain ⟨hx, hb, hr, hml, hown, hts0, hX, hbl, hlocks, hgv⟩ := id C0
  have hb : c.code = cL_law := hb
  have hts := hts0
  have hown : s.vm.findClass RL = some m.cls := hown
  have hbA : ¬ gAL s b := Nat.not_le.mpr hbl
  have hG1 : gOk (fun k => h1 + k) 315 := fun i j _ _ e => by have e : h1 + i = h1 + j := e; omega
  have hG2 : gOk (fun k => h2 + k) 22 := fun i j _ _ e => by have e : h2 + i = h2 + j := e; omega
  have hA1 : ∀ q, gA (fun k => h1 + k) 315 q → gAL s q := fun q h => by obtain ⟨k, _, rfl⟩ := h; show s.heap.size ≤ h1 + k; omega
  have hA2 : ∀ q, gA (fun k => h2 + k) 22 q → gAL s q := fun q h => by obtain ⟨k, _, rfl⟩ := h; show s.heap.size ≤ h2 + k; omega
  have j1232 := fun (x3 : Int32) (z w : gS) (H : Heap) (locs : List Loc) (ls : Array Slot) h hP hQ hS hl => law_next (x3 := x3) (z := z) (w := w) (H := H) (locs := locs) (ls := ls) C0 K hK18 h hP hQ hS hl
  have hd1 : ∀ (i : Nat) (q : Nat × va_E), (gw cA (fun k => h2 + k) shM 22 w)[i]? = some q → ¬ gA (fun k => h1 + k) 315 q.1 := fun i q hq h => by obtain ⟨k, hk, e⟩ := h; obtain ⟨h3, h4⟩ := gw_mem hq; have e : h2 + i = h1 + k := h4.symm.trans e; omega
  have hd2 : ∀ (z : gS) (i : Nat) (q : Nat × va_E), (gw cA (fun k => h1 + k) shX 315 z)[i]? = some q → ¬ gA (fun k => h2 + k) 22 q.1 := fun z i q hq h => by obtain ⟨k, hk, e⟩ := h; obtain ⟨h3, h4⟩ := gw_mem hq; have e : h1 + i = h2 + k := h4.symm.trans e; omega
  unfold f_law_15 at h
  refine lv_aload_n hx hb dL_law_600 rfl (lv_at hl 2 rfl) ?_
  refine lv_aload_n hx hb dL_law_601 rfl (lv_at hl 1 rfl) ?_
  refine lv_iload_n hx hb dL_law_602 rfl (lv_at hl 0 rfl) ?_
  refine lv_iconst (v := (nI 1)) hx hb dL_law_603 (by decide) ?_
  refine lv_iadd hx hb dL_law_604 ?_
  obtain ⟨hg1, h⟩ := gg_s h
  refine va_sld hx hb hX hbl hbA hS hg1 dL_law_605 ?_
  obtain ⟨q0, hq0, h⟩ := gb_s h
  refine fl_i (As := [.int (xs (x3 + (nI 1)).toNatClampNeg)]) (rest := []) ⟨hx, hb, hml, hown, hts⟩ (k_X10_gaps l D cA (fun k => h1 + k) tw hG1 z (xs (x3 + (nI 1)).toNatClampNeg) q0 hq0) (cwV 1 hts gT_X10_gaps rfl rfl rfl hdV_X10_gaps ⟨Nat.le_of_ble_eq_true rfl, Nat.le_of_ble_eq_true rfl⟩) (fl_pre gF10.1.1 gF10.1.2 rfl rfl hK hZ hP hS hA1) hA1 hQ hd1 rfl hl _ rfl (Nat.le_of_ble_eq_true rfl) hS dL_law_606 ⟨hmc, hms⟩ (fun H locs hP hQ hS => ?_)
  refine lv_aload_n hx hb dL_law_609 rfl (lv_at hl 3 rfl) ?_
  refine lv_aload_n hx hb dL_law_610 rfl (lv_at hl 1 rfl) ?_
  refine lv_iload_n hx hb dL_law_611 rfl (lv_at hl 0 rfl) ?_
  refine lv_iconst (v := (nI 1)) hx hb dL_law_612 (by decide) ?_
  refine lv_iadd hx hb dL_law_613 ?_
  obtain ⟨hg2, h⟩ := gg_s h
  refine va_sld hx hb hX hbl hbA hS hg2 dL_law_614 ?_
  obtain ⟨q1, hq1, h⟩ := gb_s h
  refine fl_i (As := [.int (xs (x3 + (nI 1)).toNatClampNeg)]) (rest := [.int q0.1]) ⟨hx, hb, hml, hown, hts⟩ (k_X11_gaps l D cA (fun k => h2 + k) tw hG2 w (xs (x3 + (nI 1)).toNatClampNeg) q1 hq1) (cwV 1 hts gT_X11_gaps rfl rfl rfl hdV_X11_gaps ⟨Nat.le_of_ble_eq_true rfl, Nat.le_of_ble_eq_true rfl⟩) (fl_pre gF11.1.1 gF11.1.2 rfl rfl hK hZ hQ hS hA2) hA2 hP (hd2 _) rfl hl _ rfl (Nat.le_of_ble_eq_true rfl) hS dL_law_615 ⟨hmc, hms⟩ (fun H locs hQ hP hS => ?_)
  refine lv_icmp_eq (tgt := 1232) hx hb dL_law_618 (by decide) (fun c1 => ?_) (fun c1 => (gno (gif_f h c1)).elim)
  replace h := gif_t h c1
  exact j1232 x3 q0.2 q1.2 H locs ls h hP hQ hS (lv_sub hl [0, 1, 2, 3] rfl)
set_option maxHeartbeats 4000000 in
set_option maxRecDepth 100000 in
theorem mlaw_16 {p : Program} {l : Launch} {e : Env} {s : State} {m : MethodId} {below : List Frame} {meth : Method} {c : Code} {b L : Nat} {xs : Nat → Int32} {D : va_G} {cA : Nat → ClassId} {h1 h2 tw mc ms : Nat} (C0 : lw_At p s m meth c b L xs) (hK : va_K D vwCl (gty cA) s) (hZ : gSt tw (gAL s) s s.heap) (hh1 : s.heap.size ≤ h1) (hh2 : h1 + 315 ≤ h2) (hmc : mc ≤ 600000) (hms : ms ≤ 7302250) (K : Int32 → gS → gS → Option Unit) (hK18 : ∀ (x3 : Int32) (z w : gS) (H : Heap) (locs : List Loc) (ls : Array Slot), K x3 z w = some () → va_P D vwCl (gw cA (fun k => h1 + k) shX 315 z) H → va_P D vwCl (gw cA (fun k => h2 + k) shM 22 w) H → va_S (gAL s) s.heap H locs → lv_has ls 4 [(3, .int x3), (0, .ref b), (1, .ref (h1 + 0)), (2, .ref (h2 + 0))] → W p l e room_1 s m #[Value.ref b] below meth c H locs mc ms (lw_Z below #[Value.ref b] s) (F0 m 18 ls [])) (x3 : Int32) (z w : gS) (H : Heap) (locs : List Loc) (ls : Array Slot) (h : f_law_16 xs L K x3 z w = some ()) (hP : va_P D vwCl (gw cA (fun k => h1 + k) shX 315 z) H) (hQ : va_P D vwCl (gw cA (fun k => h2 + k) shM 22 w) H) (hS : va_S (gAL s) s.heap H locs) (hl : lv_has ls 4 [(3, .int x3), (0, .ref b), (1, .ref (h1 + 0)), (2, .ref (h2 + 0))]) : W p l e room_1 s m #[Value.ref b] below meth c H locs mc ms (lw_Z below #[Value.ref b] s) (F0 m 623 ls []) := by
  obtain ⟨hx, hb, hr, hml, hown, hts0, hX, hbl, hlocks, hgv⟩ := id C0
  have hb : c.code = cL_law := hb
  have hts := hts0
  have hown : s.vm.findClass RL = some m.cls := hown
  have hbA : ¬ gAL s b := Nat.not_le.mpr hbl
  have hG1 : gOk (fun k => h1 + k) 315 := fun i j _ _ e => by have e : h1 + i = h1 + j := e; omega
  have hG2 : gOk (fun k => h2 + k) 22 := fun i j _ _ e => by have e : h2 + i = h2 + j := e; omega
  have hA1 : ∀ q, gA (fun k => h1 + k) 315 q → gAL s q := fun q h => by obtain ⟨k, _, rfl⟩ := h; show s.heap.size ≤ h1 + k; omega
  have hA2 : ∀ q, gA (fun k => h2 + k) 22 q → gAL s q := fun q h => by obtain ⟨k, _, rfl⟩ := h; show s.heap.size ≤ h2 + k; omega
  have j1232 := fun (x3 : Int32) (z w : gS) (H : Heap) (locs : List Loc) (ls : Array Slot) h hP hQ hS hl => law_next (x3 := x3) (z := z) (w := w) (H := H) (locs := locs) (ls := ls) C0 K hK18 h hP hQ hS hl
  have hd1 : ∀ (i : Nat) (q : Nat × va_E), (gw cA (fun k => h2 + k) shM 22 w)[i]? = some q → ¬ gA (fun k => h1 + k) 315 q.1 := fun i q hq h => by obtain ⟨k, hk, e⟩ := h; obtain ⟨h3, h4⟩ := gw_mem hq; have e : h2 + i = h1 + k := h4.symm.trans e; omega
  have hd2 : ∀ (z : gS) (i : Nat) (q : Nat × va_E), (gw cA (fun k => h1 + k) shX 315 z)[i]? = some q → ¬ gA (fun k => h2 + k) 22 q.1 := fun z i q hq h => by obtain ⟨k, hk, e⟩ := h; obtain ⟨h3, h4⟩ := gw_mem hq; have e : h1 + i = h2 + k := h4.symm.trans e; omega
  unfold f_law_16 at h
  refine lv_aload_n hx hb dL_law_623 rfl (lv_at hl 2 rfl) ?_
  refine lv_aload_n hx hb dL_law_624 rfl (lv_at hl 1 rfl) ?_
  refine lv_iload_n hx hb dL_law_625 rfl (lv_at hl 0 rfl) ?_
  refine lv_iconst (v := (nI 1)) hx hb dL_law_626 (by decide) ?_
  refine lv_iadd hx hb dL_law_627 ?_
  obtain ⟨hg1, h⟩ := gg_s h
  refine va_sld hx hb hX hbl hbA hS hg1 dL_law_628 ?_
  obtain ⟨q0, hq0, h⟩ := gb_s h
  refine fl_i (As := [.int (xs (x3 + (nI 1)).toNatClampNeg)]) (rest := []) ⟨hx, hb, hml, hown, hts⟩ (k_X10_runs l D cA (fun k => h1 + k) tw hG1 z (xs (x3 + (nI 1)).toNatClampNeg) q0 hq0) (cwV 1 hts gT_X10_runs rfl rfl rfl hdV_X10_runs ⟨Nat.le_of_ble_eq_true rfl, Nat.le_of_ble_eq_true rfl⟩) (fl_pre gF10.1.1 gF10.1.2 rfl rfl hK hZ hP hS hA1) hA1 hQ hd1 rfl hl _ rfl (Nat.le_of_ble_eq_true rfl) hS dL_law_629 ⟨hmc, hms⟩ (fun H locs hP hQ hS => ?_)
  refine lv_aload_n hx hb dL_law_632 rfl (lv_at hl 3 rfl) ?_
  refine lv_aload_n hx hb dL_law_633 rfl (lv_at hl 1 rfl) ?_
  refine lv_iload_n hx hb dL_law_634 rfl (lv_at hl 0 rfl) ?_
  refine lv_iconst (v := (nI 1)) hx hb dL_law_635 (by decide) ?_
  refine lv_iadd hx hb dL_law_636 ?_
  obtain ⟨hg2, h⟩ := gg_s h
  refine va_sld hx hb hX hbl hbA hS hg2 dL_law_637 ?_
  obtain ⟨q1, hq1, h⟩ := gb_s h
  refine fl_i (As := [.int (xs (x3 + (nI 1)).toNatClampNeg)]) (rest := [.int q0.1]) ⟨hx, hb, hml, hown, hts⟩ (k_X11_runs l D cA (fun k => h2 + k) tw hG2 w (xs (x3 + (nI 1)).toNatClampNeg) q1 hq1) (cwV 1 hts gT_X11_runs rfl rfl rfl hdV_X11_runs ⟨Nat.le_of_ble_eq_true rfl, Nat.le_of_ble_eq_true rfl⟩) (fl_pre gF11.1.1 gF11.1.2 rfl rfl hK hZ hQ hS hA2) hA2 hP (hd2 _) rfl hl _ rfl (Nat.le_of_ble_eq_true rfl) hS dL_law_638 ⟨hmc, hms⟩ (fun H locs hQ hP hS => ?_)
  refine lv_icmp_eq (tgt := 1232) hx hb dL_law_641 (by decide) (fun c1 => ?_) (fun c1 => (gno (gif_f h c1)).elim)
  replace h := gif_t h c1
  exact j1232 x3 q0.2 q1.2 H locs ls h hP hQ hS (lv_sub hl [0, 1, 2, 3] rfl)
set_option maxHeartbeats 4000000 in
set_option maxRecDepth 100000 in
theorem mlaw_17 {p : Program} {l : Launch} {e : Env} {s : State} {m : MethodId} {below : List Frame} {meth : Method} {c : Code} {b L : Nat} {xs : Nat → Int32} {D : va_G} {cA : Nat → ClassId} {h1 h2 tw mc ms : Nat} (C0 : lw_At p s m meth c b L xs) (hK : va_K D vwCl (gty cA) s) (hZ : gSt tw (gAL s) s s.heap) (hh1 : s.heap.size ≤ h1) (hh2 : h1 + 315 ≤ h2) (hmc : mc ≤ 600000) (hms : ms ≤ 7302250) (K : Int32 → gS → gS → Option Unit) (hK18 : ∀ (x3 : Int32) (z w : gS) (H : Heap) (locs : List Loc) (ls : Array Slot), K x3 z w = some () → va_P D vwCl (gw cA (fun k => h1 + k) shX 315 z) H → va_P D vwCl (gw cA (fun k => h2 + k) shM 22 w) H → va_S (gAL s) s.heap H locs → lv_has ls 4 [(3, .int x3), (0, .ref b), (1, .ref (h1 + 0)), (2, .ref (h2 + 0))] → W p l e room_1 s m #[Value.ref b] below meth c H locs mc ms (lw_Z below #[Value.ref b] s) (F0 m 18 ls [])) (x3 : Int32) (z w : gS) (H : Heap) (locs : List Loc) (ls : Array Slot) (h : f_law_17 xs L K x3 z w = some ()) (hP : va_P D vwCl (gw cA (fun k => h1 + k) shX 315 z) H) (hQ : va_P D vwCl (gw cA (fun k => h2 + k) shM 22 w) H) (hS : va_S (gAL s) s.heap H locs) (hl : lv_has ls 4 [(3, .int x3), (0, .ref b), (1, .ref (h1 + 0)), (2, .ref (h2 + 0))]) : W p l e room_1 s m #[Value.ref b] below meth c H locs mc ms (lw_Z below #[Value.ref b] s) (F0 m 646 ls []) := by
  obtain ⟨hx, hb, hr, hml, hown, hts0, hX, hbl, hlocks, hgv⟩ := id C0
  have hb : c.code = cL_law := hb
  have hts := hts0
  have hown : s.vm.findClass RL = some m.cls := hown
  have hbA : ¬ gAL s b := Nat.not_le.mpr hbl
  have hG1 : gOk (fun k => h1 + k) 315 := fun i j _ _ e => by have e : h1 + i = h1 + j := e; omega
  have hG2 : gOk (fun k => h2 + k) 22 := fun i j _ _ e => by have e : h2 + i = h2 + j := e; omega
  have hA1 : ∀ q, gA (fun k => h1 + k) 315 q → gAL s q := fun q h => by obtain ⟨k, _, rfl⟩ := h; show s.heap.size ≤ h1 + k; omega
  have hA2 : ∀ q, gA (fun k => h2 + k) 22 q → gAL s q := fun q h => by obtain ⟨k, _, rfl⟩ := h; show s.heap.size ≤ h2 + k; omega
  have j1232 := fun (x3 : Int32) (z w : gS) (H : Heap) (locs : List Loc) (ls : Array Slot) h hP hQ hS hl => law_next (x3 := x3) (z := z) (w := w) (H := H) (locs := locs) (ls := ls) C0 K hK18 h hP hQ hS hl
  have hd1 : ∀ (i : Nat) (q : Nat × va_E), (gw cA (fun k => h2 + k) shM 22 w)[i]? = some q → ¬ gA (fun k => h1 + k) 315 q.1 := fun i q hq h => by obtain ⟨k, hk, e⟩ := h; obtain ⟨h3, h4⟩ := gw_mem hq; have e : h2 + i = h1 + k := h4.symm.trans e; omega
  have hd2 : ∀ (z : gS) (i : Nat) (q : Nat × va_E), (gw cA (fun k => h1 + k) shX 315 z)[i]? = some q → ¬ gA (fun k => h2 + k) 22 q.1 := fun z i q hq h => by obtain ⟨k, hk, e⟩ := h; obtain ⟨h3, h4⟩ := gw_mem hq; have e : h1 + i = h2 + k := h4.symm.trans e; omega
  unfold f_law_17 at h
  refine lv_aload_n hx hb dL_law_646 rfl (lv_at hl 2 rfl) ?_
  refine lv_aload_n hx hb dL_law_647 rfl (lv_at hl 1 rfl) ?_
  refine lv_iload_n hx hb dL_law_648 rfl (lv_at hl 0 rfl) ?_
  refine lv_iconst (v := (nI 1)) hx hb dL_law_649 (by decide) ?_
  refine lv_iadd hx hb dL_law_650 ?_
  obtain ⟨hg1, h⟩ := gg_s h
  refine va_sld hx hb hX hbl hbA hS hg1 dL_law_651 ?_
  obtain ⟨q0, hq0, h⟩ := gb_s h
  refine fl_i (As := [.int (xs (x3 + (nI 1)).toNatClampNeg)]) (rest := []) ⟨hx, hb, hml, hown, hts⟩ (k_X10_kinship l D cA (fun k => h1 + k) tw hG1 z (xs (x3 + (nI 1)).toNatClampNeg) q0 hq0) (cwV 1 hts gT_X10_kinship rfl rfl rfl hdV_X10_kinship ⟨Nat.le_of_ble_eq_true rfl, Nat.le_of_ble_eq_true rfl⟩) (fl_pre gF10.1.1 gF10.1.2 rfl rfl hK hZ hP hS hA1) hA1 hQ hd1 rfl hl _ rfl (Nat.le_of_ble_eq_true rfl) hS dL_law_652 ⟨hmc, hms⟩ (fun H locs hP hQ hS => ?_)
  refine lv_aload_n hx hb dL_law_655 rfl (lv_at hl 3 rfl) ?_
  refine lv_aload_n hx hb dL_law_656 rfl (lv_at hl 1 rfl) ?_
  refine lv_iload_n hx hb dL_law_657 rfl (lv_at hl 0 rfl) ?_
  refine lv_iconst (v := (nI 1)) hx hb dL_law_658 (by decide) ?_
  refine lv_iadd hx hb dL_law_659 ?_
  obtain ⟨hg2, h⟩ := gg_s h
  refine va_sld hx hb hX hbl hbA hS hg2 dL_law_660 ?_
  obtain ⟨q1, hq1, h⟩ := gb_s h
  refine fl_i (As := [.int (xs (x3 + (nI 1)).toNatClampNeg)]) (rest := [.int q0.1]) ⟨hx, hb, hml, hown, hts⟩ (k_X11_kinship l D cA (fun k => h2 + k) tw hG2 w (xs (x3 + (nI 1)).toNatClampNeg) q1 hq1) (cwV 1 hts gT_X11_kinship rfl rfl rfl hdV_X11_kinship ⟨Nat.le_of_ble_eq_true rfl, Nat.le_of_ble_eq_true rfl⟩) (fl_pre gF11.1.1 gF11.1.2 rfl rfl hK hZ hQ hS hA2) hA2 hP (hd2 _) rfl hl _ rfl (Nat.le_of_ble_eq_true rfl) hS dL_law_661 ⟨hmc, hms⟩ (fun H locs hQ hP hS => ?_)
  refine lv_icmp_eq (tgt := 1232) hx hb dL_law_664 (by decide) (fun c1 => ?_) (fun c1 => (gno (gif_f h c1)).elim)
  replace h := gif_t h c1
  exact j1232 x3 q0.2 q1.2 H locs ls h hP hQ hS (lv_sub hl [0, 1, 2, 3] rfl)
set_option maxHeartbeats 4000000 in
set_option maxRecDepth 100000 in
theorem mlaw_18 {p : Program} {l : Launch} {e : Env} {s : State} {m : MethodId} {below : List Frame} {meth : Method} {c : Code} {b L : Nat} {xs : Nat → Int32} {D : va_G} {cA : Nat → ClassId} {h1 h2 tw mc ms : Nat} (C0 : lw_At p s m meth c b L xs) (hK : va_K D vwCl (gty cA) s) (hZ : gSt tw (gAL s) s s.heap) (hh1 : s.heap.size ≤ h1) (hh2 : h1 + 315 ≤ h2) (hmc : mc ≤ 600000) (hms : ms ≤ 7302250) (K : Int32 → gS → gS → Option Unit) (hK18 : ∀ (x3 : Int32) (z w : gS) (H : Heap) (locs : List Loc) (ls : Array Slot), K x3 z w = some () → va_P D vwCl (gw cA (fun k => h1 + k) shX 315 z) H → va_P D vwCl (gw cA (fun k => h2 + k) shM 22 w) H → va_S (gAL s) s.heap H locs → lv_has ls 4 [(3, .int x3), (0, .ref b), (1, .ref (h1 + 0)), (2, .ref (h2 + 0))] → W p l e room_1 s m #[Value.ref b] below meth c H locs mc ms (lw_Z below #[Value.ref b] s) (F0 m 18 ls [])) (x3 : Int32) (z w : gS) (H : Heap) (locs : List Loc) (ls : Array Slot) (h : f_law_18 xs L K x3 z w = some ()) (hP : va_P D vwCl (gw cA (fun k => h1 + k) shX 315 z) H) (hQ : va_P D vwCl (gw cA (fun k => h2 + k) shM 22 w) H) (hS : va_S (gAL s) s.heap H locs) (hl : lv_has ls 4 [(3, .int x3), (0, .ref b), (1, .ref (h1 + 0)), (2, .ref (h2 + 0))]) : W p l e room_1 s m #[Value.ref b] below meth c H locs mc ms (lw_Z below #[Value.ref b] s) (F0 m 669 ls []) := by
  obtain ⟨hx, hb, hr, hml, hown, hts0, hX, hbl, hlocks, hgv⟩ := id C0
  have hb : c.code = cL_law := hb
  have hts := hts0
  have hown : s.vm.findClass RL = some m.cls := hown
  have hbA : ¬ gAL s b := Nat.not_le.mpr hbl
  have hG1 : gOk (fun k => h1 + k) 315 := fun i j _ _ e => by have e : h1 + i = h1 + j := e; omega
  have hG2 : gOk (fun k => h2 + k) 22 := fun i j _ _ e => by have e : h2 + i = h2 + j := e; omega
  have hA1 : ∀ q, gA (fun k => h1 + k) 315 q → gAL s q := fun q h => by obtain ⟨k, _, rfl⟩ := h; show s.heap.size ≤ h1 + k; omega
  have hA2 : ∀ q, gA (fun k => h2 + k) 22 q → gAL s q := fun q h => by obtain ⟨k, _, rfl⟩ := h; show s.heap.size ≤ h2 + k; omega
  have j1232 := fun (x3 : Int32) (z w : gS) (H : Heap) (locs : List Loc) (ls : Array Slot) h hP hQ hS hl => law_next (x3 := x3) (z := z) (w := w) (H := H) (locs := locs) (ls := ls) C0 K hK18 h hP hQ hS hl
  have hd1 : ∀ (i : Nat) (q : Nat × va_E), (gw cA (fun k => h2 + k) shM 22 w)[i]? = some q → ¬ gA (fun k => h1 + k) 315 q.1 := fun i q hq h => by obtain ⟨k, hk, e⟩ := h; obtain ⟨h3, h4⟩ := gw_mem hq; have e : h2 + i = h1 + k := h4.symm.trans e; omega
  have hd2 : ∀ (z : gS) (i : Nat) (q : Nat × va_E), (gw cA (fun k => h1 + k) shX 315 z)[i]? = some q → ¬ gA (fun k => h2 + k) 22 q.1 := fun z i q hq h => by obtain ⟨k, hk, e⟩ := h; obtain ⟨h3, h4⟩ := gw_mem hq; have e : h1 + i = h2 + k := h4.symm.trans e; omega
  unfold f_law_18 at h
  refine lv_aload_n hx hb dL_law_669 rfl (lv_at hl 2 rfl) ?_
  refine lv_aload_n hx hb dL_law_670 rfl (lv_at hl 1 rfl) ?_
  refine lv_iload_n hx hb dL_law_671 rfl (lv_at hl 0 rfl) ?_
  refine lv_iconst (v := (nI 1)) hx hb dL_law_672 (by decide) ?_
  refine lv_iadd hx hb dL_law_673 ?_
  obtain ⟨hg1, h⟩ := gg_s h
  refine va_sld hx hb hX hbl hbA hS hg1 dL_law_674 ?_
  obtain ⟨q0, hq0, h⟩ := gb_s h
  refine fl_i (As := [.int (xs (x3 + (nI 1)).toNatClampNeg)]) (rest := []) ⟨hx, hb, hml, hown, hts⟩ (k_X10_kin l D cA (fun k => h1 + k) tw hG1 z (xs (x3 + (nI 1)).toNatClampNeg) q0 hq0) (cwV 1 hts gT_X10_kin rfl rfl rfl hdV_X10_kin ⟨Nat.le_of_ble_eq_true rfl, Nat.le_of_ble_eq_true rfl⟩) (fl_pre gF10.1.1 gF10.1.2 rfl rfl hK hZ hP hS hA1) hA1 hQ hd1 rfl hl _ rfl (Nat.le_of_ble_eq_true rfl) hS dL_law_675 ⟨hmc, hms⟩ (fun H locs hP hQ hS => ?_)
  refine lv_aload_n hx hb dL_law_678 rfl (lv_at hl 3 rfl) ?_
  refine lv_aload_n hx hb dL_law_679 rfl (lv_at hl 1 rfl) ?_
  refine lv_iload_n hx hb dL_law_680 rfl (lv_at hl 0 rfl) ?_
  refine lv_iconst (v := (nI 1)) hx hb dL_law_681 (by decide) ?_
  refine lv_iadd hx hb dL_law_682 ?_
  obtain ⟨hg2, h⟩ := gg_s h
  refine va_sld hx hb hX hbl hbA hS hg2 dL_law_683 ?_
  obtain ⟨q1, hq1, h⟩ := gb_s h
  refine fl_i (As := [.int (xs (x3 + (nI 1)).toNatClampNeg)]) (rest := [.int q0.1]) ⟨hx, hb, hml, hown, hts⟩ (k_X11_kin l D cA (fun k => h2 + k) tw hG2 w (xs (x3 + (nI 1)).toNatClampNeg) q1 hq1) (cwV 1 hts gT_X11_kin rfl rfl rfl hdV_X11_kin ⟨Nat.le_of_ble_eq_true rfl, Nat.le_of_ble_eq_true rfl⟩) (fl_pre gF11.1.1 gF11.1.2 rfl rfl hK hZ hQ hS hA2) hA2 hP (hd2 _) rfl hl _ rfl (Nat.le_of_ble_eq_true rfl) hS dL_law_684 ⟨hmc, hms⟩ (fun H locs hQ hP hS => ?_)
  refine lv_icmp_eq (tgt := 1232) hx hb dL_law_687 (by decide) (fun c1 => ?_) (fun c1 => (gno (gif_f h c1)).elim)
  replace h := gif_t h c1
  exact j1232 x3 q0.2 q1.2 H locs ls h hP hQ hS (lv_sub hl [0, 1, 2, 3] rfl)
set_option maxHeartbeats 4000000 in
set_option maxRecDepth 100000 in
theorem mlaw_19 {p : Program} {l : Launch} {e : Env} {s : State} {m : MethodId} {below : List Frame} {meth : Method} {c : Code} {b L : Nat} {xs : Nat → Int32} {D : va_G} {cA : Nat → ClassId} {h1 h2 tw mc ms : Nat} (C0 : lw_At p s m meth c b L xs) (hK : va_K D vwCl (gty cA) s) (hZ : gSt tw (gAL s) s s.heap) (hh1 : s.heap.size ≤ h1) (hh2 : h1 + 315 ≤ h2) (hmc : mc ≤ 600000) (hms : ms ≤ 7302250) (K : Int32 → gS → gS → Option Unit) (hK18 : ∀ (x3 : Int32) (z w : gS) (H : Heap) (locs : List Loc) (ls : Array Slot), K x3 z w = some () → va_P D vwCl (gw cA (fun k => h1 + k) shX 315 z) H → va_P D vwCl (gw cA (fun k => h2 + k) shM 22 w) H → va_S (gAL s) s.heap H locs → lv_has ls 4 [(3, .int x3), (0, .ref b), (1, .ref (h1 + 0)), (2, .ref (h2 + 0))] → W p l e room_1 s m #[Value.ref b] below meth c H locs mc ms (lw_Z below #[Value.ref b] s) (F0 m 18 ls [])) (x3 : Int32) (z w : gS) (H : Heap) (locs : List Loc) (ls : Array Slot) (h : f_law_19 xs L K x3 z w = some ()) (hP : va_P D vwCl (gw cA (fun k => h1 + k) shX 315 z) H) (hQ : va_P D vwCl (gw cA (fun k => h2 + k) shM 22 w) H) (hS : va_S (gAL s) s.heap H locs) (hl : lv_has ls 4 [(3, .int x3), (0, .ref b), (1, .ref (h1 + 0)), (2, .ref (h2 + 0))]) : W p l e room_1 s m #[Value.ref b] below meth c H locs mc ms (lw_Z below #[Value.ref b] s) (F0 m 692 ls []) := by
  obtain ⟨hx, hb, hr, hml, hown, hts0, hX, hbl, hlocks, hgv⟩ := id C0
  have hb : c.code = cL_law := hb
  have hts := hts0
  have hown : s.vm.findClass RL = some m.cls := hown
  have hbA : ¬ gAL s b := Nat.not_le.mpr hbl
  have hG1 : gOk (fun k => h1 + k) 315 := fun i j _ _ e => by have e : h1 + i = h1 + j := e; omega
  have hG2 : gOk (fun k => h2 + k) 22 := fun i j _ _ e => by have e : h2 + i = h2 + j := e; omega
  have hA1 : ∀ q, gA (fun k => h1 + k) 315 q → gAL s q := fun q h => by obtain ⟨k, _, rfl⟩ := h; show s.heap.size ≤ h1 + k; omega
  have hA2 : ∀ q, gA (fun k => h2 + k) 22 q → gAL s q := fun q h => by obtain ⟨k, _, rfl⟩ := h; show s.heap.size ≤ h2 + k; omega
  have j1232 := fun (x3 : Int32) (z w : gS) (H : Heap) (locs : List Loc) (ls : Array Slot) h hP hQ hS hl => law_next (x3 := x3) (z := z) (w := w) (H := H) (locs := locs) (ls := ls) C0 K hK18 h hP hQ hS hl
  have hd1 : ∀ (i : Nat) (q : Nat × va_E), (gw cA (fun k => h2 + k) shM 22 w)[i]? = some q → ¬ gA (fun k => h1 + k) 315 q.1 := fun i q hq h => by obtain ⟨k, hk, e⟩ := h; obtain ⟨h3, h4⟩ := gw_mem hq; have e : h2 + i = h1 + k := h4.symm.trans e; omega
  have hd2 : ∀ (z : gS) (i : Nat) (q : Nat × va_E), (gw cA (fun k => h1 + k) shX 315 z)[i]? = some q → ¬ gA (fun k => h2 + k) 22 q.1 := fun z i q hq h => by obtain ⟨k, hk, e⟩ := h; obtain ⟨h3, h4⟩ := gw_mem hq; have e : h1 + i = h2 + k := h4.symm.trans e; omega
  unfold f_law_19 at h
  refine lv_aload_n hx hb dL_law_692 rfl (lv_at hl 2 rfl) ?_
  refine lv_aload_n hx hb dL_law_693 rfl (lv_at hl 1 rfl) ?_
  refine lv_iload_n hx hb dL_law_694 rfl (lv_at hl 0 rfl) ?_
  refine lv_iconst (v := (nI 1)) hx hb dL_law_695 (by decide) ?_
  refine lv_iadd hx hb dL_law_696 ?_
  obtain ⟨hg1, h⟩ := gg_s h
  refine va_sld hx hb hX hbl hbA hS hg1 dL_law_697 ?_
  refine lv_aload_n hx hb dL_law_698 rfl (lv_at hl 1 rfl) ?_
  refine lv_iload_n hx hb dL_law_699 rfl (lv_at hl 0 rfl) ?_
  refine lv_iconst (v := (nI 2)) hx hb dL_law_700 (by decide) ?_
  refine lv_iadd hx hb dL_law_701 ?_
  obtain ⟨hg2, h⟩ := gg_s h
  refine va_sld hx hb hX hbl hbA hS hg2 dL_law_702 ?_
  obtain ⟨q0, hq0, h⟩ := gb_s h
  refine fl_iR (As := [.int (xs (x3 + (nI 1)).toNatClampNeg), .int (xs (x3 + (nI 2)).toNatClampNeg)]) (rest := []) ⟨hx, hb, hml, hown, hts⟩ (k_X10_shared l D cA (fun k => h1 + k) tw hG1 z (xs (x3 + (nI 1)).toNatClampNeg) (xs (x3 + (nI 2)).toNatClampNeg) q0 hq0) (cwV 2 hts gT_X10_shared rfl rfl rfl hdV_X10_shared ⟨Nat.le_of_ble_eq_true rfl, Nat.le_of_ble_eq_true rfl⟩) (fl_pre gF10.1.1 gF10.1.2 rfl rfl hK hZ hP hS hA1) hA1 hQ hd1 rfl hl _ rfl (Nat.le_of_ble_eq_true rfl) hS dL_law_703 ⟨hmc, hms⟩ (fun H locs hP hQ hS => ?_)
  refine lv_aload_n hx hb dL_law_706 rfl (lv_at hl 3 rfl) ?_
  refine lv_aload_n hx hb dL_law_707 rfl (lv_at hl 1 rfl) ?_
  refine lv_iload_n hx hb dL_law_708 rfl (lv_at hl 0 rfl) ?_
  refine lv_iconst (v := (nI 1)) hx hb dL_law_709 (by decide) ?_
  refine lv_iadd hx hb dL_law_710 ?_
  obtain ⟨hg3, h⟩ := gg_s h
  refine va_sld hx hb hX hbl hbA hS hg3 dL_law_711 ?_
  refine lv_aload_n hx hb dL_law_712 rfl (lv_at hl 1 rfl) ?_
  refine lv_iload_n hx hb dL_law_713 rfl (lv_at hl 0 rfl) ?_
  refine lv_iconst (v := (nI 2)) hx hb dL_law_714 (by decide) ?_
  refine lv_iadd hx hb dL_law_715 ?_
  obtain ⟨hg4, h⟩ := gg_s h
  refine va_sld hx hb hX hbl hbA hS hg4 dL_law_716 ?_
  obtain ⟨q1, hq1, h⟩ := gb_s h
  refine fl_iR (As := [.int (xs (x3 + (nI 1)).toNatClampNeg), .int (xs (x3 + (nI 2)).toNatClampNeg)]) (rest := [.int q0]) ⟨hx, hb, hml, hown, hts⟩ (k_X11_shared l D cA (fun k => h2 + k) tw hG2 w (xs (x3 + (nI 1)).toNatClampNeg) (xs (x3 + (nI 2)).toNatClampNeg) q1 hq1) (cwV 2 hts gT_X11_shared rfl rfl rfl hdV_X11_shared ⟨Nat.le_of_ble_eq_true rfl, Nat.le_of_ble_eq_true rfl⟩) (fl_pre gF11.1.1 gF11.1.2 rfl rfl hK hZ hQ hS hA2) hA2 hP (hd2 _) rfl hl _ rfl (Nat.le_of_ble_eq_true rfl) hS dL_law_717 ⟨hmc, hms⟩ (fun H locs hQ hP hS => ?_)
  refine lv_icmp_eq (tgt := 1232) hx hb dL_law_720 (by decide) (fun c1 => ?_) (fun c1 => (gno (gif_f h c1)).elim)
  replace h := gif_t h c1
  exact j1232 x3 z w H locs ls h hP hQ hS (lv_sub hl [0, 1, 2, 3] rfl)
set_option maxHeartbeats 4000000 in
set_option maxRecDepth 100000 in
theorem mlaw_20 {p : Program} {l : Launch} {e : Env} {s : State} {m : MethodId} {below : List Frame} {meth : Method} {c : Code} {b L : Nat} {xs : Nat → Int32} {D : va_G} {cA : Nat → ClassId} {h1 h2 tw mc ms : Nat} (C0 : lw_At p s m meth c b L xs) (hK : va_K D vwCl (gty cA) s) (hZ : gSt tw (gAL s) s s.heap) (hh1 : s.heap.size ≤ h1) (hh2 : h1 + 315 ≤ h2) (hmc : mc ≤ 600000) (hms : ms ≤ 7302250) (K : Int32 → gS → gS → Option Unit) (hK18 : ∀ (x3 : Int32) (z w : gS) (H : Heap) (locs : List Loc) (ls : Array Slot), K x3 z w = some () → va_P D vwCl (gw cA (fun k => h1 + k) shX 315 z) H → va_P D vwCl (gw cA (fun k => h2 + k) shM 22 w) H → va_S (gAL s) s.heap H locs → lv_has ls 4 [(3, .int x3), (0, .ref b), (1, .ref (h1 + 0)), (2, .ref (h2 + 0))] → W p l e room_1 s m #[Value.ref b] below meth c H locs mc ms (lw_Z below #[Value.ref b] s) (F0 m 18 ls [])) (x3 : Int32) (z w : gS) (H : Heap) (locs : List Loc) (ls : Array Slot) (h : f_law_20 xs L K x3 z w = some ()) (hP : va_P D vwCl (gw cA (fun k => h1 + k) shX 315 z) H) (hQ : va_P D vwCl (gw cA (fun k => h2 + k) shM 22 w) H) (hS : va_S (gAL s) s.heap H locs) (hl : lv_has ls 4 [(3, .int x3), (0, .ref b), (1, .ref (h1 + 0)), (2, .ref (h2 + 0))]) : W p l e room_1 s m #[Value.ref b] below meth c H locs mc ms (lw_Z below #[Value.ref b] s) (F0 m 725 ls []) := by
  obtain ⟨hx, hb, hr, hml, hown, hts0, hX, hbl, hlocks, hgv⟩ := id C0
  have hb : c.code = cL_law := hb
  have hts := hts0
  have hown : s.vm.findClass RL = some m.cls := hown
  have hbA : ¬ gAL s b := Nat.not_le.mpr hbl
  have hG1 : gOk (fun k => h1 + k) 315 := fun i j _ _ e => by have e : h1 + i = h1 + j := e; omega
  have hG2 : gOk (fun k => h2 + k) 22 := fun i j _ _ e => by have e : h2 + i = h2 + j := e; omega
  have hA1 : ∀ q, gA (fun k => h1 + k) 315 q → gAL s q := fun q h => by obtain ⟨k, _, rfl⟩ := h; show s.heap.size ≤ h1 + k; omega
  have hA2 : ∀ q, gA (fun k => h2 + k) 22 q → gAL s q := fun q h => by obtain ⟨k, _, rfl⟩ := h; show s.heap.size ≤ h2 + k; omega
  have j1232 := fun (x3 : Int32) (z w : gS) (H : Heap) (locs : List Loc) (ls : Array Slot) h hP hQ hS hl => law_next (x3 := x3) (z := z) (w := w) (H := H) (locs := locs) (ls := ls) C0 K hK18 h hP hQ hS hl
  have hd1 : ∀ (i : Nat) (q : Nat × va_E), (gw cA (fun k => h2 + k) shM 22 w)[i]? = some q → ¬ gA (fun k => h1 + k) 315 q.1 := fun i q hq h => by obtain ⟨k, hk, e⟩ := h; obtain ⟨h3, h4⟩ := gw_mem hq; have e : h2 + i = h1 + k := h4.symm.trans e; omega
  have hd2 : ∀ (z : gS) (i : Nat) (q : Nat × va_E), (gw cA (fun k => h1 + k) shX 315 z)[i]? = some q → ¬ gA (fun k => h2 + k) 22 q.1 := fun z i q hq h => by obtain ⟨k, hk, e⟩ := h; obtain ⟨h3, h4⟩ := gw_mem hq; have e : h1 + i = h2 + k := h4.symm.trans e; omega
  unfold f_law_20 at h
  refine lv_aload_n hx hb dL_law_725 rfl (lv_at hl 2 rfl) ?_
  refine lv_aload_n hx hb dL_law_726 rfl (lv_at hl 1 rfl) ?_
  refine lv_iload_n hx hb dL_law_727 rfl (lv_at hl 0 rfl) ?_
  refine lv_iconst (v := (nI 1)) hx hb dL_law_728 (by decide) ?_
  refine lv_iadd hx hb dL_law_729 ?_
  obtain ⟨hg1, h⟩ := gg_s h
  refine va_sld hx hb hX hbl hbA hS hg1 dL_law_730 ?_
  obtain ⟨q0, hq0, h⟩ := gb_s h
  refine fl_iR (As := [.int (xs (x3 + (nI 1)).toNatClampNeg)]) (rest := []) ⟨hx, hb, hml, hown, hts⟩ (k_X10_chain l D cA (fun k => h1 + k) tw hG1 z (xs (x3 + (nI 1)).toNatClampNeg) q0 hq0) (cwV 1 hts gT_X10_chain rfl rfl rfl hdV_X10_chain ⟨Nat.le_of_ble_eq_true rfl, Nat.le_of_ble_eq_true rfl⟩) (fl_pre gF10.1.1 gF10.1.2 rfl rfl hK hZ hP hS hA1) hA1 hQ hd1 rfl hl _ rfl (Nat.le_of_ble_eq_true rfl) hS dL_law_731 ⟨hmc, hms⟩ (fun H locs hP hQ hS => ?_)
  refine lv_aload_n hx hb dL_law_734 rfl (lv_at hl 3 rfl) ?_
  refine lv_aload_n hx hb dL_law_735 rfl (lv_at hl 1 rfl) ?_
  refine lv_iload_n hx hb dL_law_736 rfl (lv_at hl 0 rfl) ?_
  refine lv_iconst (v := (nI 1)) hx hb dL_law_737 (by decide) ?_
  refine lv_iadd hx hb dL_law_738 ?_
  obtain ⟨hg2, h⟩ := gg_s h
  refine va_sld hx hb hX hbl hbA hS hg2 dL_law_739 ?_
  obtain ⟨q1, hq1, h⟩ := gb_s h
  refine fl_iR (As := [.int (xs (x3 + (nI 1)).toNatClampNeg)]) (rest := [.int q0]) ⟨hx, hb, hml, hown, hts⟩ (k_X11_chain l D cA (fun k => h2 + k) tw hG2 w (xs (x3 + (nI 1)).toNatClampNeg) q1 hq1) (cwV 1 hts gT_X11_chain rfl rfl rfl hdV_X11_chain ⟨Nat.le_of_ble_eq_true rfl, Nat.le_of_ble_eq_true rfl⟩) (fl_pre gF11.1.1 gF11.1.2 rfl rfl hK hZ hQ hS hA2) hA2 hP (hd2 _) rfl hl _ rfl (Nat.le_of_ble_eq_true rfl) hS dL_law_740 ⟨hmc, hms⟩ (fun H locs hQ hP hS => ?_)
  refine lv_icmp_eq (tgt := 1232) hx hb dL_law_743 (by decide) (fun c1 => ?_) (fun c1 => (gno (gif_f h c1)).elim)
  replace h := gif_t h c1
  exact j1232 x3 z w H locs ls h hP hQ hS (lv_sub hl [0, 1, 2, 3] rfl)
set_option maxHeartbeats 4000000 in
set_option maxRecDepth 100000 in
theorem mlaw_21 {p : Program} {l : Launch} {e : Env} {s : State} {m : MethodId} {below : List Frame} {meth : Method} {c : Code} {b L : Nat} {xs : Nat → Int32} {D : va_G} {cA : Nat → ClassId} {h1 h2 tw mc ms : Nat} (C0 : lw_At p s m meth c b L xs) (hK : va_K D vwCl (gty cA) s) (hZ : gSt tw (gAL s) s s.heap) (hh1 : s.heap.size ≤ h1) (hh2 : h1 + 315 ≤ h2) (hmc : mc ≤ 600000) (hms : ms ≤ 7302250) (K : Int32 → gS → gS → Option Unit) (hK18 : ∀ (x3 : Int32) (z w : gS) (H : Heap) (locs : List Loc) (ls : Array Slot), K x3 z w = some () → va_P D vwCl (gw cA (fun k => h1 + k) shX 315 z) H → va_P D vwCl (gw cA (fun k => h2 + k) shM 22 w) H → va_S (gAL s) s.heap H locs → lv_has ls 4 [(3, .int x3), (0, .ref b), (1, .ref (h1 + 0)), (2, .ref (h2 + 0))] → W p l e room_1 s m #[Value.ref b] below meth c H locs mc ms (lw_Z below #[Value.ref b] s) (F0 m 18 ls [])) (x3 : Int32) (z w : gS) (H : Heap) (locs : List Loc) (ls : Array Slot) (h : f_law_21 xs L K x3 z w = some ()) (hP : va_P D vwCl (gw cA (fun k => h1 + k) shX 315 z) H) (hQ : va_P D vwCl (gw cA (fun k => h2 + k) shM 22 w) H) (hS : va_S (gAL s) s.heap H locs) (hl : lv_has ls 4 [(3, .int x3), (0, .ref b), (1, .ref (h1 + 0)), (2, .ref (h2 + 0))]) : W p l e room_1 s m #[Value.ref b] below meth c H locs mc ms (lw_Z below #[Value.ref b] s) (F0 m 748 ls []) := by
  obtain ⟨hx, hb, hr, hml, hown, hts0, hX, hbl, hlocks, hgv⟩ := id C0
  have hb : c.code = cL_law := hb
  have hts := hts0
  have hown : s.vm.findClass RL = some m.cls := hown
  have hbA : ¬ gAL s b := Nat.not_le.mpr hbl
  have hG1 : gOk (fun k => h1 + k) 315 := fun i j _ _ e => by have e : h1 + i = h1 + j := e; omega
  have hG2 : gOk (fun k => h2 + k) 22 := fun i j _ _ e => by have e : h2 + i = h2 + j := e; omega
  have hA1 : ∀ q, gA (fun k => h1 + k) 315 q → gAL s q := fun q h => by obtain ⟨k, _, rfl⟩ := h; show s.heap.size ≤ h1 + k; omega
  have hA2 : ∀ q, gA (fun k => h2 + k) 22 q → gAL s q := fun q h => by obtain ⟨k, _, rfl⟩ := h; show s.heap.size ≤ h2 + k; omega
  have j1232 := fun (x3 : Int32) (z w : gS) (H : Heap) (locs : List Loc) (ls : Array Slot) h hP hQ hS hl => law_next (x3 := x3) (z := z) (w := w) (H := H) (locs := locs) (ls := ls) C0 K hK18 h hP hQ hS hl
  have hd1 : ∀ (i : Nat) (q : Nat × va_E), (gw cA (fun k => h2 + k) shM 22 w)[i]? = some q → ¬ gA (fun k => h1 + k) 315 q.1 := fun i q hq h => by obtain ⟨k, hk, e⟩ := h; obtain ⟨h3, h4⟩ := gw_mem hq; have e : h2 + i = h1 + k := h4.symm.trans e; omega
  have hd2 : ∀ (z : gS) (i : Nat) (q : Nat × va_E), (gw cA (fun k => h1 + k) shX 315 z)[i]? = some q → ¬ gA (fun k => h2 + k) 22 q.1 := fun z i q hq h => by obtain ⟨k, hk, e⟩ := h; obtain ⟨h3, h4⟩ := gw_mem hq; have e : h1 + i = h2 + k := h4.symm.trans e; omega
  unfold f_law_21 at h
  refine lv_aload_n hx hb dL_law_748 rfl (lv_at hl 2 rfl) ?_
  refine lv_aload_n hx hb dL_law_749 rfl (lv_at hl 1 rfl) ?_
  refine lv_iload_n hx hb dL_law_750 rfl (lv_at hl 0 rfl) ?_
  refine lv_iconst (v := (nI 1)) hx hb dL_law_751 (by decide) ?_
  refine lv_iadd hx hb dL_law_752 ?_
  obtain ⟨hg1, h⟩ := gg_s h
  refine va_sld hx hb hX hbl hbA hS hg1 dL_law_753 ?_
  obtain ⟨q0, hq0, h⟩ := gb_s h
  refine fl_iR (As := [.int (xs (x3 + (nI 1)).toNatClampNeg)]) (rest := []) ⟨hx, hb, hml, hown, hts⟩ (k_X10_walk l D cA (fun k => h1 + k) tw hG1 z (xs (x3 + (nI 1)).toNatClampNeg) q0 hq0) (cwV 1 hts gT_X10_walk rfl rfl rfl hdV_X10_walk ⟨Nat.le_of_ble_eq_true rfl, Nat.le_of_ble_eq_true rfl⟩) (fl_pre gF10.1.1 gF10.1.2 rfl rfl hK hZ hP hS hA1) hA1 hQ hd1 rfl hl _ rfl (Nat.le_of_ble_eq_true rfl) hS dL_law_754 ⟨hmc, hms⟩ (fun H locs hP hQ hS => ?_)
  refine lv_aload_n hx hb dL_law_757 rfl (lv_at hl 3 rfl) ?_
  refine lv_aload_n hx hb dL_law_758 rfl (lv_at hl 1 rfl) ?_
  refine lv_iload_n hx hb dL_law_759 rfl (lv_at hl 0 rfl) ?_
  refine lv_iconst (v := (nI 1)) hx hb dL_law_760 (by decide) ?_
  refine lv_iadd hx hb dL_law_761 ?_
  obtain ⟨hg2, h⟩ := gg_s h
  refine va_sld hx hb hX hbl hbA hS hg2 dL_law_762 ?_
  obtain ⟨q1, hq1, h⟩ := gb_s h
  refine fl_iR (As := [.int (xs (x3 + (nI 1)).toNatClampNeg)]) (rest := [.int q0]) ⟨hx, hb, hml, hown, hts⟩ (k_X11_walk l D cA (fun k => h2 + k) tw hG2 w (xs (x3 + (nI 1)).toNatClampNeg) q1 hq1) (cwV 1 hts gT_X11_walk rfl rfl rfl hdV_X11_walk ⟨Nat.le_of_ble_eq_true rfl, Nat.le_of_ble_eq_true rfl⟩) (fl_pre gF11.1.1 gF11.1.2 rfl rfl hK hZ hQ hS hA2) hA2 hP (hd2 _) rfl hl _ rfl (Nat.le_of_ble_eq_true rfl) hS dL_law_763 ⟨hmc, hms⟩ (fun H locs hQ hP hS => ?_)
  refine lv_icmp_eq (tgt := 1232) hx hb dL_law_766 (by decide) (fun c1 => ?_) (fun c1 => (gno (gif_f h c1)).elim)
  replace h := gif_t h c1
  exact j1232 x3 z w H locs ls h hP hQ hS (lv_sub hl [0, 1, 2, 3] rfl)
set_option maxHeartbeats 4000000 in
set_option maxRecDepth 100000 in
theorem mlaw_22 {p : Program} {l : Launch} {e : Env} {s : State} {m : MethodId} {below : List Frame} {meth : Method} {c : Code} {b L : Nat} {xs : Nat → Int32} {D : va_G} {cA : Nat → ClassId} {h1 h2 tw mc ms : Nat} (C0 : lw_At p s m meth c b L xs) (hK : va_K D vwCl (gty cA) s) (hZ : gSt tw (gAL s) s s.heap) (hh1 : s.heap.size ≤ h1) (hh2 : h1 + 315 ≤ h2) (hmc : mc ≤ 600000) (hms : ms ≤ 7302250) (K : Int32 → gS → gS → Option Unit) (hK18 : ∀ (x3 : Int32) (z w : gS) (H : Heap) (locs : List Loc) (ls : Array Slot), K x3 z w = some () → va_P D vwCl (gw cA (fun k => h1 + k) shX 315 z) H → va_P D vwCl (gw cA (fun k => h2 + k) shM 22 w) H → va_S (gAL s) s.heap H locs → lv_has ls 4 [(3, .int x3), (0, .ref b), (1, .ref (h1 + 0)), (2, .ref (h2 + 0))] → W p l e room_1 s m #[Value.ref b] below meth c H locs mc ms (lw_Z below #[Value.ref b] s) (F0 m 18 ls [])) (x3 : Int32) (z w : gS) (H : Heap) (locs : List Loc) (ls : Array Slot) (h : f_law_22 xs L K x3 z w = some ()) (hP : va_P D vwCl (gw cA (fun k => h1 + k) shX 315 z) H) (hQ : va_P D vwCl (gw cA (fun k => h2 + k) shM 22 w) H) (hS : va_S (gAL s) s.heap H locs) (hl : lv_has ls 4 [(3, .int x3), (0, .ref b), (1, .ref (h1 + 0)), (2, .ref (h2 + 0))]) : W p l e room_1 s m #[Value.ref b] below meth c H locs mc ms (lw_Z below #[Value.ref b] s) (F0 m 771 ls []) := by
  obtain ⟨hx, hb, hr, hml, hown, hts0, hX, hbl, hlocks, hgv⟩ := id C0
  have hb : c.code = cL_law := hb
  have hts := hts0
  have hown : s.vm.findClass RL = some m.cls := hown
  have hbA : ¬ gAL s b := Nat.not_le.mpr hbl
  have hG1 : gOk (fun k => h1 + k) 315 := fun i j _ _ e => by have e : h1 + i = h1 + j := e; omega
  have hG2 : gOk (fun k => h2 + k) 22 := fun i j _ _ e => by have e : h2 + i = h2 + j := e; omega
  have hA1 : ∀ q, gA (fun k => h1 + k) 315 q → gAL s q := fun q h => by obtain ⟨k, _, rfl⟩ := h; show s.heap.size ≤ h1 + k; omega
  have hA2 : ∀ q, gA (fun k => h2 + k) 22 q → gAL s q := fun q h => by obtain ⟨k, _, rfl⟩ := h; show s.heap.size ≤ h2 + k; omega
  have j1232 := fun (x3 : Int32) (z w : gS) (H : Heap) (locs : List Loc) (ls : Array Slot) h hP hQ hS hl => law_next (x3 := x3) (z := z) (w := w) (H := H) (locs := locs) (ls := ls) C0 K hK18 h hP hQ hS hl
  have hd1 : ∀ (i : Nat) (q : Nat × va_E), (gw cA (fun k => h2 + k) shM 22 w)[i]? = some q → ¬ gA (fun k => h1 + k) 315 q.1 := fun i q hq h => by obtain ⟨k, hk, e⟩ := h; obtain ⟨h3, h4⟩ := gw_mem hq; have e : h2 + i = h1 + k := h4.symm.trans e; omega
  have hd2 : ∀ (z : gS) (i : Nat) (q : Nat × va_E), (gw cA (fun k => h1 + k) shX 315 z)[i]? = some q → ¬ gA (fun k => h2 + k) 22 q.1 := fun z i q hq h => by obtain ⟨k, hk, e⟩ := h; obtain ⟨h3, h4⟩ := gw_mem hq; have e : h1 + i = h2 + k := h4.symm.trans e; omega
  unfold f_law_22 at h
  refine lv_aload_n hx hb dL_law_771 rfl (lv_at hl 2 rfl) ?_
  refine lv_aload_n hx hb dL_law_772 rfl (lv_at hl 1 rfl) ?_
  refine lv_iload_n hx hb dL_law_773 rfl (lv_at hl 0 rfl) ?_
  refine lv_iconst (v := (nI 1)) hx hb dL_law_774 (by decide) ?_
  refine lv_iadd hx hb dL_law_775 ?_
  obtain ⟨hg1, h⟩ := gg_s h
  refine va_sld hx hb hX hbl hbA hS hg1 dL_law_776 ?_
  obtain ⟨q0, hq0, h⟩ := gb_s h
  refine fl_i (As := [.int (xs (x3 + (nI 1)).toNatClampNeg)]) (rest := []) ⟨hx, hb, hml, hown, hts⟩ (k_X10_turned l D cA (fun k => h1 + k) tw hG1 z (xs (x3 + (nI 1)).toNatClampNeg) q0 hq0) (cwV 1 hts gT_X10_turned rfl rfl rfl hdV_X10_turned ⟨Nat.le_of_ble_eq_true rfl, Nat.le_of_ble_eq_true rfl⟩) (fl_pre gF10.1.1 gF10.1.2 rfl rfl hK hZ hP hS hA1) hA1 hQ hd1 rfl hl _ rfl (Nat.le_of_ble_eq_true rfl) hS dL_law_777 ⟨hmc, hms⟩ (fun H locs hP hQ hS => ?_)
  refine lv_aload_n hx hb dL_law_780 rfl (lv_at hl 3 rfl) ?_
  refine lv_aload_n hx hb dL_law_781 rfl (lv_at hl 1 rfl) ?_
  refine lv_iload_n hx hb dL_law_782 rfl (lv_at hl 0 rfl) ?_
  refine lv_iconst (v := (nI 1)) hx hb dL_law_783 (by decide) ?_
  refine lv_iadd hx hb dL_law_784 ?_
  obtain ⟨hg2, h⟩ := gg_s h
  refine va_sld hx hb hX hbl hbA hS hg2 dL_law_785 ?_
  obtain ⟨q1, hq1, h⟩ := gb_s h
  refine fl_i (As := [.int (xs (x3 + (nI 1)).toNatClampNeg)]) (rest := [.int q0.1]) ⟨hx, hb, hml, hown, hts⟩ (k_X11_turned l D cA (fun k => h2 + k) tw hG2 w (xs (x3 + (nI 1)).toNatClampNeg) q1 hq1) (cwV 1 hts gT_X11_turned rfl rfl rfl hdV_X11_turned ⟨Nat.le_of_ble_eq_true rfl, Nat.le_of_ble_eq_true rfl⟩) (fl_pre gF11.1.1 gF11.1.2 rfl rfl hK hZ hQ hS hA2) hA2 hP (hd2 _) rfl hl _ rfl (Nat.le_of_ble_eq_true rfl) hS dL_law_786 ⟨hmc, hms⟩ (fun H locs hQ hP hS => ?_)
  refine lv_icmp_eq (tgt := 1232) hx hb dL_law_789 (by decide) (fun c1 => ?_) (fun c1 => (gno (gif_f h c1)).elim)
  replace h := gif_t h c1
  exact j1232 x3 q0.2 q1.2 H locs ls h hP hQ hS (lv_sub hl [0, 1, 2, 3] rfl)
set_option maxHeartbeats 4000000 in
set_option maxRecDepth 100000 in
theorem mlaw_23 {p : Program} {l : Launch} {e : Env} {s : State} {m : MethodId} {below : List Frame} {meth : Method} {c : Code} {b L : Nat} {xs : Nat → Int32} {D : va_G} {cA : Nat → ClassId} {h1 h2 tw mc ms : Nat} (C0 : lw_At p s m meth c b L xs) (hK : va_K D vwCl (gty cA) s) (hZ : gSt tw (gAL s) s s.heap) (hh1 : s.heap.size ≤ h1) (hh2 : h1 + 315 ≤ h2) (hmc : mc ≤ 600000) (hms : ms ≤ 7302250) (K : Int32 → gS → gS → Option Unit) (hK18 : ∀ (x3 : Int32) (z w : gS) (H : Heap) (locs : List Loc) (ls : Array Slot), K x3 z w = some () → va_P D vwCl (gw cA (fun k => h1 + k) shX 315 z) H → va_P D vwCl (gw cA (fun k => h2 + k) shM 22 w) H → va_S (gAL s) s.heap H locs → lv_has ls 4 [(3, .int x3), (0, .ref b), (1, .ref (h1 + 0)), (2, .ref (h2 + 0))] → W p l e room_1 s m #[Value.ref b] below meth c H locs mc ms (lw_Z below #[Value.ref b] s) (F0 m 18 ls [])) (x3 : Int32) (z w : gS) (H : Heap) (locs : List Loc) (ls : Array Slot) (h : f_law_23 xs L K x3 z w = some ()) (hP : va_P D vwCl (gw cA (fun k => h1 + k) shX 315 z) H) (hQ : va_P D vwCl (gw cA (fun k => h2 + k) shM 22 w) H) (hS : va_S (gAL s) s.heap H locs) (hl : lv_has ls 4 [(3, .int x3), (0, .ref b), (1, .ref (h1 + 0)), (2, .ref (h2 + 0))]) : W p l e room_1 s m #[Value.ref b] below meth c H locs mc ms (lw_Z below #[Value.ref b] s) (F0 m 794 ls []) := by
  obtain ⟨hx, hb, hr, hml, hown, hts0, hX, hbl, hlocks, hgv⟩ := id C0
  have hb : c.code = cL_law := hb
  have hts := hts0
  have hown : s.vm.findClass RL = some m.cls := hown
  have hbA : ¬ gAL s b := Nat.not_le.mpr hbl
  have hG1 : gOk (fun k => h1 + k) 315 := fun i j _ _ e => by have e : h1 + i = h1 + j := e; omega
  have hG2 : gOk (fun k => h2 + k) 22 := fun i j _ _ e => by have e : h2 + i = h2 + j := e; omega
  have hA1 : ∀ q, gA (fun k => h1 + k) 315 q → gAL s q := fun q h => by obtain ⟨k, _, rfl⟩ := h; show s.heap.size ≤ h1 + k; omega
  have hA2 : ∀ q, gA (fun k => h2 + k) 22 q → gAL s q := fun q h => by obtain ⟨k, _, rfl⟩ := h; show s.heap.size ≤ h2 + k; omega
  have j1232 := fun (x3 : Int32) (z w : gS) (H : Heap) (locs : List Loc) (ls : Array Slot) h hP hQ hS hl => law_next (x3 := x3) (z := z) (w := w) (H := H) (locs := locs) (ls := ls) C0 K hK18 h hP hQ hS hl
  have hd1 : ∀ (i : Nat) (q : Nat × va_E), (gw cA (fun k => h2 + k) shM 22 w)[i]? = some q → ¬ gA (fun k => h1 + k) 315 q.1 := fun i q hq h => by obtain ⟨k, hk, e⟩ := h; obtain ⟨h3, h4⟩ := gw_mem hq; have e : h2 + i = h1 + k := h4.symm.trans e; omega
  have hd2 : ∀ (z : gS) (i : Nat) (q : Nat × va_E), (gw cA (fun k => h1 + k) shX 315 z)[i]? = some q → ¬ gA (fun k => h2 + k) 22 q.1 := fun z i q hq h => by obtain ⟨k, hk, e⟩ := h; obtain ⟨h3, h4⟩ := gw_mem hq; have e : h1 + i = h2 + k := h4.symm.trans e; omega
  unfold f_law_23 at h
  refine lv_aload_n hx hb dL_law_794 rfl (lv_at hl 2 rfl) ?_
  refine lv_aload_n hx hb dL_law_795 rfl (lv_at hl 1 rfl) ?_
  refine lv_iload_n hx hb dL_law_796 rfl (lv_at hl 0 rfl) ?_
  refine lv_iconst (v := (nI 1)) hx hb dL_law_797 (by decide) ?_
  refine lv_iadd hx hb dL_law_798 ?_
  obtain ⟨hg1, h⟩ := gg_s h
  refine va_sld hx hb hX hbl hbA hS hg1 dL_law_799 ?_
  obtain ⟨q0, hq0, h⟩ := gb_s h
  refine fl_i (As := [.int (xs (x3 + (nI 1)).toNatClampNeg)]) (rest := []) ⟨hx, hb, hml, hown, hts⟩ (k_X10_rank l D cA (fun k => h1 + k) tw hG1 z (xs (x3 + (nI 1)).toNatClampNeg) q0 hq0) (cwV 1 hts gT_X10_rank rfl rfl rfl hdV_X10_rank ⟨Nat.le_of_ble_eq_true rfl, Nat.le_of_ble_eq_true rfl⟩) (fl_pre gF10.1.1 gF10.1.2 rfl rfl hK hZ hP hS hA1) hA1 hQ hd1 rfl hl _ rfl (Nat.le_of_ble_eq_true rfl) hS dL_law_800 ⟨hmc, hms⟩ (fun H locs hP hQ hS => ?_)
  refine lv_aload_n hx hb dL_law_803 rfl (lv_at hl 3 rfl) ?_
  refine lv_aload_n hx hb dL_law_804 rfl (lv_at hl 1 rfl) ?_
  refine lv_iload_n hx hb dL_law_805 rfl (lv_at hl 0 rfl) ?_
  refine lv_iconst (v := (nI 1)) hx hb dL_law_806 (by decide) ?_
  refine lv_iadd hx hb dL_law_807 ?_
  obtain ⟨hg2, h⟩ := gg_s h
  refine va_sld hx hb hX hbl hbA hS hg2 dL_law_808 ?_
  obtain ⟨q1, hq1, h⟩ := gb_s h
  refine fl_i (As := [.int (xs (x3 + (nI 1)).toNatClampNeg)]) (rest := [.int q0.1]) ⟨hx, hb, hml, hown, hts⟩ (k_X11_rank l D cA (fun k => h2 + k) tw hG2 w (xs (x3 + (nI 1)).toNatClampNeg) q1 hq1) (cwV 1 hts gT_X11_rank rfl rfl rfl hdV_X11_rank ⟨Nat.le_of_ble_eq_true rfl, Nat.le_of_ble_eq_true rfl⟩) (fl_pre gF11.1.1 gF11.1.2 rfl rfl hK hZ hQ hS hA2) hA2 hP (hd2 _) rfl hl _ rfl (Nat.le_of_ble_eq_true rfl) hS dL_law_809 ⟨hmc, hms⟩ (fun H locs hQ hP hS => ?_)
  refine lv_icmp_eq (tgt := 1232) hx hb dL_law_812 (by decide) (fun c1 => ?_) (fun c1 => (gno (gif_f h c1)).elim)
  replace h := gif_t h c1
  exact j1232 x3 q0.2 q1.2 H locs ls h hP hQ hS (lv_sub hl [0, 1, 2, 3] rfl)
set_option maxHeartbeats 4000000 in
set_option maxRecDepth 100000 in
theorem mlaw_24 {p : Program} {l : Launch} {e : Env} {s : State} {m : MethodId} {below : List Frame} {meth : Method} {c : Code} {b L : Nat} {xs : Nat → Int32} {D : va_G} {cA : Nat → ClassId} {h1 h2 tw mc ms : Nat} (C0 : lw_At p s m meth c b L xs) (hK : va_K D vwCl (gty cA) s) (hZ : gSt tw (gAL s) s s.heap) (hh1 : s.heap.size ≤ h1) (hh2 : h1 + 315 ≤ h2) (hmc : mc ≤ 600000) (hms : ms ≤ 7302250) (K : Int32 → gS → gS → Option Unit) (hK18 : ∀ (x3 : Int32) (z w : gS) (H : Heap) (locs : List Loc) (ls : Array Slot), K x3 z w = some () → va_P D vwCl (gw cA (fun k => h1 + k) shX 315 z) H → va_P D vwCl (gw cA (fun k => h2 + k) shM 22 w) H → va_S (gAL s) s.heap H locs → lv_has ls 4 [(3, .int x3), (0, .ref b), (1, .ref (h1 + 0)), (2, .ref (h2 + 0))] → W p l e room_1 s m #[Value.ref b] below meth c H locs mc ms (lw_Z below #[Value.ref b] s) (F0 m 18 ls [])) (x3 : Int32) (z w : gS) (H : Heap) (locs : List Loc) (ls : Array Slot) (h : f_law_24 xs L K x3 z w = some ()) (hP : va_P D vwCl (gw cA (fun k => h1 + k) shX 315 z) H) (hQ : va_P D vwCl (gw cA (fun k => h2 + k) shM 22 w) H) (hS : va_S (gAL s) s.heap H locs) (hl : lv_has ls 4 [(3, .int x3), (0, .ref b), (1, .ref (h1 + 0)), (2, .ref (h2 + 0))]) : W p l e room_1 s m #[Value.ref b] below meth c H locs mc ms (lw_Z below #[Value.ref b] s) (F0 m 817 ls []) := by
  obtain ⟨hx, hb, hr, hml, hown, hts0, hX, hbl, hlocks, hgv⟩ := id C0
  have hb : c.code = cL_law := hb
  have hts := hts0
  have hown : s.vm.findClass RL = some m.cls := hown
  have hbA : ¬ gAL s b := Nat.not_le.mpr hbl
  have hG1 : gOk (fun k => h1 + k) 315 := fun i j _ _ e => by have e : h1 + i = h1 + j := e; omega
  have hG2 : gOk (fun k => h2 + k) 22 := fun i j _ _ e => by have e : h2 + i = h2 + j := e; omega
  have hA1 : ∀ q, gA (fun k => h1 + k) 315 q → gAL s q := fun q h => by obtain ⟨k, _, rfl⟩ := h; show s.heap.size ≤ h1 + k; omega
  have hA2 : ∀ q, gA (fun k => h2 + k) 22 q → gAL s q := fun q h => by obtain ⟨k, _, rfl⟩ := h; show s.heap.size ≤ h2 + k; omega
  have j1232 := fun (x3 : Int32) (z w : gS) (H : Heap) (locs : List Loc) (ls : Array Slot) h hP hQ hS hl => law_next (x3 := x3) (z := z) (w := w) (H := H) (locs := locs) (ls := ls) C0 K hK18 h hP hQ hS hl
  have hd1 : ∀ (i : Nat) (q : Nat × va_E), (gw cA (fun k => h2 + k) shM 22 w)[i]? = some q → ¬ gA (fun k => h1 + k) 315 q.1 := fun i q hq h => by obtain ⟨k, hk, e⟩ := h; obtain ⟨h3, h4⟩ := gw_mem hq; have e : h2 + i = h1 + k := h4.symm.trans e; omega
  have hd2 : ∀ (z : gS) (i : Nat) (q : Nat × va_E), (gw cA (fun k => h1 + k) shX 315 z)[i]? = some q → ¬ gA (fun k => h2 + k) 22 q.1 := fun z i q hq h => by obtain ⟨k, hk, e⟩ := h; obtain ⟨h3, h4⟩ := gw_mem hq; have e : h1 + i = h2 + k := h4.symm.trans e; omega
  unfold f_law_24 at h
  refine lv_aload_n hx hb dL_law_817 rfl (lv_at hl 2 rfl) ?_
  refine lv_aload_n hx hb dL_law_818 rfl (lv_at hl 1 rfl) ?_
  refine lv_iload_n hx hb dL_law_819 rfl (lv_at hl 0 rfl) ?_
  refine lv_iconst (v := (nI 1)) hx hb dL_law_820 (by decide) ?_
  refine lv_iadd hx hb dL_law_821 ?_
  obtain ⟨hg1, h⟩ := gg_s h
  refine va_sld hx hb hX hbl hbA hS hg1 dL_law_822 ?_
  refine lv_aload_n hx hb dL_law_823 rfl (lv_at hl 1 rfl) ?_
  refine lv_iload_n hx hb dL_law_824 rfl (lv_at hl 0 rfl) ?_
  refine lv_iconst (v := (nI 2)) hx hb dL_law_825 (by decide) ?_
  refine lv_iadd hx hb dL_law_826 ?_
  obtain ⟨hg2, h⟩ := gg_s h
  refine va_sld hx hb hX hbl hbA hS hg2 dL_law_827 ?_
  refine lv_aload_n hx hb dL_law_828 rfl (lv_at hl 1 rfl) ?_
  refine lv_iload_n hx hb dL_law_829 rfl (lv_at hl 0 rfl) ?_
  refine lv_iconst (v := (nI 3)) hx hb dL_law_830 (by decide) ?_
  refine lv_iadd hx hb dL_law_831 ?_
  obtain ⟨hg3, h⟩ := gg_s h
  refine va_sld hx hb hX hbl hbA hS hg3 dL_law_832 ?_
  obtain ⟨q0, hq0, h⟩ := gb_s h
  refine fl_i (As := [.int (xs (x3 + (nI 1)).toNatClampNeg), .int (xs (x3 + (nI 2)).toNatClampNeg), .int (xs (x3 + (nI 3)).toNatClampNeg)]) (rest := []) ⟨hx, hb, hml, hown, hts⟩ (k_X10_swap l D cA (fun k => h1 + k) tw hG1 z (xs (x3 + (nI 1)).toNatClampNeg) (xs (x3 + (nI 2)).toNatClampNeg) (xs (x3 + (nI 3)).toNatClampNeg) q0 hq0) (cwV 3 hts gT_X10_swap rfl rfl rfl hdV_X10_swap ⟨Nat.le_of_ble_eq_true rfl, Nat.le_of_ble_eq_true rfl⟩) (fl_pre gF10.1.1 gF10.1.2 rfl rfl hK hZ hP hS hA1) hA1 hQ hd1 rfl hl _ rfl (Nat.le_of_ble_eq_true rfl) hS dL_law_833 ⟨hmc, hms⟩ (fun H locs hP hQ hS => ?_)
  refine lv_aload_n hx hb dL_law_836 rfl (lv_at hl 3 rfl) ?_
  refine lv_aload_n hx hb dL_law_837 rfl (lv_at hl 1 rfl) ?_
  refine lv_iload_n hx hb dL_law_838 rfl (lv_at hl 0 rfl) ?_
  refine lv_iconst (v := (nI 1)) hx hb dL_law_839 (by decide) ?_
  refine lv_iadd hx hb dL_law_840 ?_
  obtain ⟨hg4, h⟩ := gg_s h
  refine va_sld hx hb hX hbl hbA hS hg4 dL_law_841 ?_
  refine lv_aload_n hx hb dL_law_842 rfl (lv_at hl 1 rfl) ?_
  refine lv_iload_n hx hb dL_law_843 rfl (lv_at hl 0 rfl) ?_
  refine lv_iconst (v := (nI 2)) hx hb dL_law_844 (by decide) ?_
  refine lv_iadd hx hb dL_law_845 ?_
  obtain ⟨hg5, h⟩ := gg_s h
  refine va_sld hx hb hX hbl hbA hS hg5 dL_law_846 ?_
  refine lv_aload_n hx hb dL_law_847 rfl (lv_at hl 1 rfl) ?_
  refine lv_iload_n hx hb dL_law_848 rfl (lv_at hl 0 rfl) ?_
  refine lv_iconst (v := (nI 3)) hx hb dL_law_849 (by decide) ?_
  refine lv_iadd hx hb dL_law_850 ?_
  obtain ⟨hg6, h⟩ := gg_s h
  refine va_sld hx hb hX hbl hbA hS hg6 dL_law_851 ?_
  obtain ⟨q1, hq1, h⟩ := gb_s h
  refine fl_i (As := [.int (xs (x3 + (nI 1)).toNatClampNeg), .int (xs (x3 + (nI 2)).toNatClampNeg), .int (xs (x3 + (nI 3)).toNatClampNeg)]) (rest := [.int q0.1]) ⟨hx, hb, hml, hown, hts⟩ (k_X11_swap l D cA (fun k => h2 + k) tw hG2 w (xs (x3 + (nI 1)).toNatClampNeg) (xs (x3 + (nI 2)).toNatClampNeg) (xs (x3 + (nI 3)).toNatClampNeg) q1 hq1) (cwV 3 hts gT_X11_swap rfl rfl rfl hdV_X11_swap ⟨Nat.le_of_ble_eq_true rfl, Nat.le_of_ble_eq_true rfl⟩) (fl_pre gF11.1.1 gF11.1.2 rfl rfl hK hZ hQ hS hA2) hA2 hP (hd2 _) rfl hl _ rfl (Nat.le_of_ble_eq_true rfl) hS dL_law_852 ⟨hmc, hms⟩ (fun H locs hQ hP hS => ?_)
  refine lv_icmp_eq (tgt := 1232) hx hb dL_law_855 (by decide) (fun c1 => ?_) (fun c1 => (gno (gif_f h c1)).elim)
  replace h := gif_t h c1
  exact j1232 x3 q0.2 q1.2 H locs ls h hP hQ hS (lv_sub hl [0, 1, 2, 3] rfl)
set_option maxHeartbeats 4000000 in
set_option maxRecDepth 100000 in
theorem mlaw_25 {p : Program} {l : Launch} {e : Env} {s : State} {m : MethodId} {below : List Frame} {meth : Method} {c : Code} {b L : Nat} {xs : Nat → Int32} {D : va_G} {cA : Nat → ClassId} {h1 h2 tw mc ms : Nat} (C0 : lw_At p s m meth c b L xs) (hK : va_K D vwCl (gty cA) s) (hZ : gSt tw (gAL s) s s.heap) (hh1 : s.heap.size ≤ h1) (hh2 : h1 + 315 ≤ h2) (hmc : mc ≤ 600000) (hms : ms ≤ 7302250) (K : Int32 → gS → gS → Option Unit) (hK18 : ∀ (x3 : Int32) (z w : gS) (H : Heap) (locs : List Loc) (ls : Array Slot), K x3 z w = some () → va_P D vwCl (gw cA (fun k => h1 + k) shX 315 z) H → va_P D vwCl (gw cA (fun k => h2 + k) shM 22 w) H → va_S (gAL s) s.heap H locs → lv_has ls 4 [(3, .int x3), (0, .ref b), (1, .ref (h1 + 0)), (2, .ref (h2 + 0))] → W p l e room_1 s m #[Value.ref b] below meth c H locs mc ms (lw_Z below #[Value.ref b] s) (F0 m 18 ls [])) (x3 : Int32) (z w : gS) (H : Heap) (locs : List Loc) (ls : Array Slot) (h : f_law_25 xs L K x3 z w = some ()) (hP : va_P D vwCl (gw cA (fun k => h1 + k) shX 315 z) H) (hQ : va_P D vwCl (gw cA (fun k => h2 + k) shM 22 w) H) (hS : va_S (gAL s) s.heap H locs) (hl : lv_has ls 4 [(3, .int x3), (0, .ref b), (1, .ref (h1 + 0)), (2, .ref (h2 + 0))]) : W p l e room_1 s m #[Value.ref b] below meth c H locs mc ms (lw_Z below #[Value.ref b] s) (F0 m 860 ls []) := by
  obtain ⟨hx, hb, hr, hml, hown, hts0, hX, hbl, hlocks, hgv⟩ := id C0
  have hb : c.code = cL_law := hb
  have hts := hts0
  have hown : s.vm.findClass RL = some m.cls := hown
  have hbA : ¬ gAL s b := Nat.not_le.mpr hbl
  have hG1 : gOk (fun k => h1 + k) 315 := fun i j _ _ e => by have e : h1 + i = h1 + j := e; omega
  have hG2 : gOk (fun k => h2 + k) 22 := fun i j _ _ e => by have e : h2 + i = h2 + j := e; omega
  have hA1 : ∀ q, gA (fun k => h1 + k) 315 q → gAL s q := fun q h => by obtain ⟨k, _, rfl⟩ := h; show s.heap.size ≤ h1 + k; omega
  have hA2 : ∀ q, gA (fun k => h2 + k) 22 q → gAL s q := fun q h => by obtain ⟨k, _, rfl⟩ := h; show s.heap.size ≤ h2 + k; omega
  have j1232 := fun (x3 : Int32) (z w : gS) (H : Heap) (locs : List Loc) (ls : Array Slot) h hP hQ hS hl => law_next (x3 := x3) (z := z) (w := w) (H := H) (locs := locs) (ls := ls) C0 K hK18 h hP hQ hS hl
  have hd1 : ∀ (i : Nat) (q : Nat × va_E), (gw cA (fun k => h2 + k) shM 22 w)[i]? = some q → ¬ gA (fun k => h1 + k) 315 q.1 := fun i q hq h => by obtain ⟨k, hk, e⟩ := h; obtain ⟨h3, h4⟩ := gw_mem hq; have e : h2 + i = h1 + k := h4.symm.trans e; omega
  have hd2 : ∀ (z : gS) (i : Nat) (q : Nat × va_E), (gw cA (fun k => h1 + k) shX 315 z)[i]? = some q → ¬ gA (fun k => h2 + k) 22 q.1 := fun z i q hq h => by obtain ⟨k, hk, e⟩ := h; obtain ⟨h3, h4⟩ := gw_mem hq; have e : h1 + i = h2 + k := h4.symm.trans e; omega
  unfold f_law_25 at h
  refine lv_aload_n hx hb dL_law_860 rfl (lv_at hl 2 rfl) ?_
  refine lv_aload_n hx hb dL_law_861 rfl (lv_at hl 1 rfl) ?_
  refine lv_iload_n hx hb dL_law_862 rfl (lv_at hl 0 rfl) ?_
  refine lv_iconst (v := (nI 1)) hx hb dL_law_863 (by decide) ?_
  refine lv_iadd hx hb dL_law_864 ?_
  obtain ⟨hg1, h⟩ := gg_s h
  refine va_sld hx hb hX hbl hbA hS hg1 dL_law_865 ?_
  obtain ⟨q0, hq0, h⟩ := gb_s h
  refine fl_i (As := [.int (xs (x3 + (nI 1)).toNatClampNeg)]) (rest := []) ⟨hx, hb, hml, hown, hts⟩ (k_X10_feed l D cA (fun k => h1 + k) tw hG1 z (xs (x3 + (nI 1)).toNatClampNeg) q0 hq0) (cwV 1 hts gT_X10_feed rfl rfl rfl hdV_X10_feed ⟨Nat.le_of_ble_eq_true rfl, Nat.le_of_ble_eq_true rfl⟩) (fl_pre gF10.1.1 gF10.1.2 rfl rfl hK hZ hP hS hA1) hA1 hQ hd1 rfl hl _ rfl (Nat.le_of_ble_eq_true rfl) hS dL_law_866 ⟨hmc, hms⟩ (fun H locs hP hQ hS => ?_)
  refine lv_aload_n hx hb dL_law_869 rfl (lv_at hl 3 rfl) ?_
  refine lv_aload_n hx hb dL_law_870 rfl (lv_at hl 1 rfl) ?_
  refine lv_iload_n hx hb dL_law_871 rfl (lv_at hl 0 rfl) ?_
  refine lv_iconst (v := (nI 1)) hx hb dL_law_872 (by decide) ?_
  refine lv_iadd hx hb dL_law_873 ?_
  obtain ⟨hg2, h⟩ := gg_s h
  refine va_sld hx hb hX hbl hbA hS hg2 dL_law_874 ?_
  obtain ⟨q1, hq1, h⟩ := gb_s h
  refine fl_i (As := [.int (xs (x3 + (nI 1)).toNatClampNeg)]) (rest := [.int q0.1]) ⟨hx, hb, hml, hown, hts⟩ (k_X11_feed l D cA (fun k => h2 + k) tw hG2 w (xs (x3 + (nI 1)).toNatClampNeg) q1 hq1) (cwV 1 hts gT_X11_feed rfl rfl rfl hdV_X11_feed ⟨Nat.le_of_ble_eq_true rfl, Nat.le_of_ble_eq_true rfl⟩) (fl_pre gF11.1.1 gF11.1.2 rfl rfl hK hZ hQ hS hA2) hA2 hP (hd2 _) rfl hl _ rfl (Nat.le_of_ble_eq_true rfl) hS dL_law_875 ⟨hmc, hms⟩ (fun H locs hQ hP hS => ?_)
  refine lv_icmp_eq (tgt := 1232) hx hb dL_law_878 (by decide) (fun c1 => ?_) (fun c1 => (gno (gif_f h c1)).elim)
  replace h := gif_t h c1
  exact j1232 x3 q0.2 q1.2 H locs ls h hP hQ hS (lv_sub hl [0, 1, 2, 3] rfl)
set_option maxHeartbeats 4000000 in
set_option maxRecDepth 100000 in
theorem mlaw_26 {p : Program} {l : Launch} {e : Env} {s : State} {m : MethodId} {below : List Frame} {meth : Method} {c : Code} {b L : Nat} {xs : Nat → Int32} {D : va_G} {cA : Nat → ClassId} {h1 h2 tw mc ms : Nat} (C0 : lw_At p s m meth c b L xs) (hK : va_K D vwCl (gty cA) s) (hZ : gSt tw (gAL s) s s.heap) (hh1 : s.heap.size ≤ h1) (hh2 : h1 + 315 ≤ h2) (hmc : mc ≤ 600000) (hms : ms ≤ 7302250) (K : Int32 → gS → gS → Option Unit) (hK18 : ∀ (x3 : Int32) (z w : gS) (H : Heap) (locs : List Loc) (ls : Array Slot), K x3 z w = some () → va_P D vwCl (gw cA (fun k => h1 + k) shX 315 z) H → va_P D vwCl (gw cA (fun k => h2 + k) shM 22 w) H → va_S (gAL s) s.heap H locs → lv_has ls 4 [(3, .int x3), (0, .ref b), (1, .ref (h1 + 0)), (2, .ref (h2 + 0))] → W p l e room_1 s m #[Value.ref b] below meth c H locs mc ms (lw_Z below #[Value.ref b] s) (F0 m 18 ls [])) (x3 : Int32) (z w : gS) (H : Heap) (locs : List Loc) (ls : Array Slot) (h : f_law_26 xs L K x3 z w = some ()) (hP : va_P D vwCl (gw cA (fun k => h1 + k) shX 315 z) H) (hQ : va_P D vwCl (gw cA (fun k => h2 + k) shM 22 w) H) (hS : va_S (gAL s) s.heap H locs) (hl : lv_has ls 4 [(3, .int x3), (0, .ref b), (1, .ref (h1 + 0)), (2, .ref (h2 + 0))]) : W p l e room_1 s m #[Value.ref b] below meth c H locs mc ms (lw_Z below #[Value.ref b] s) (F0 m 883 ls []) := by
  obtain ⟨hx, hb, hr, hml, hown, hts0, hX, hbl, hlocks, hgv⟩ := id C0
  have hb : c.code = cL_law := hb
  have hts := hts0
  have hown : s.vm.findClass RL = some m.cls := hown
  have hbA : ¬ gAL s b := Nat.not_le.mpr hbl
  have hG1 : gOk (fun k => h1 + k) 315 := fun i j _ _ e => by have e : h1 + i = h1 + j := e; omega
  have hG2 : gOk (fun k => h2 + k) 22 := fun i j _ _ e => by have e : h2 + i = h2 + j := e; omega
  have hA1 : ∀ q, gA (fun k => h1 + k) 315 q → gAL s q := fun q h => by obtain ⟨k, _, rfl⟩ := h; show s.heap.size ≤ h1 + k; omega
  have hA2 : ∀ q, gA (fun k => h2 + k) 22 q → gAL s q := fun q h => by obtain ⟨k, _, rfl⟩ := h; show s.heap.size ≤ h2 + k; omega
  have j1232 := fun (x3 : Int32) (z w : gS) (H : Heap) (locs : List Loc) (ls : Array Slot) h hP hQ hS hl => law_next (x3 := x3) (z := z) (w := w) (H := H) (locs := locs) (ls := ls) C0 K hK18 h hP hQ hS hl
  have hd1 : ∀ (i : Nat) (q : Nat × va_E), (gw cA (fun k => h2 + k) shM 22 w)[i]? = some q → ¬ gA (fun k => h1 + k) 315 q.1 := fun i q hq h => by obtain ⟨k, hk, e⟩ := h; obtain ⟨h3, h4⟩ := gw_mem hq; have e : h2 + i = h1 + k := h4.symm.trans e; omega
  have hd2 : ∀ (z : gS) (i : Nat) (q : Nat × va_E), (gw cA (fun k => h1 + k) shX 315 z)[i]? = some q → ¬ gA (fun k => h2 + k) 22 q.1 := fun z i q hq h => by obtain ⟨k, hk, e⟩ := h; obtain ⟨h3, h4⟩ := gw_mem hq; have e : h1 + i = h2 + k := h4.symm.trans e; omega
  unfold f_law_26 at h
  refine lv_aload_n hx hb dL_law_883 rfl (lv_at hl 2 rfl) ?_
  obtain ⟨q0, hq0, h⟩ := gb_s h
  refine fl_i (As := []) (rest := []) ⟨hx, hb, hml, hown, hts⟩ (k_X10_read l D cA (fun k => h1 + k) tw hG1 z  q0 hq0) (cwV 0 hts gT_X10_read rfl rfl rfl hdV_X10_read ⟨Nat.le_of_ble_eq_true rfl, Nat.le_of_ble_eq_true rfl⟩) (fl_pre gF10.1.1 gF10.1.2 rfl rfl hK hZ hP hS hA1) hA1 hQ hd1 rfl hl _ rfl (Nat.le_of_ble_eq_true rfl) hS dL_law_884 ⟨hmc, hms⟩ (fun H locs hP hQ hS => ?_)
  refine lv_aload_n hx hb dL_law_887 rfl (lv_at hl 3 rfl) ?_
  obtain ⟨q1, hq1, h⟩ := gb_s h
  refine fl_i (As := []) (rest := [.int q0.1]) ⟨hx, hb, hml, hown, hts⟩ (k_X11_read l D cA (fun k => h2 + k) tw hG2 w  q1 hq1) (cwV 0 hts gT_X11_read rfl rfl rfl hdV_X11_read ⟨Nat.le_of_ble_eq_true rfl, Nat.le_of_ble_eq_true rfl⟩) (fl_pre gF11.1.1 gF11.1.2 rfl rfl hK hZ hQ hS hA2) hA2 hP (hd2 _) rfl hl _ rfl (Nat.le_of_ble_eq_true rfl) hS dL_law_888 ⟨hmc, hms⟩ (fun H locs hQ hP hS => ?_)
  refine lv_icmp_eq (tgt := 1232) hx hb dL_law_891 (by decide) (fun c1 => ?_) (fun c1 => (gno (gif_f h c1)).elim)
  replace h := gif_t h c1
  exact j1232 x3 q0.2 q1.2 H locs ls h hP hQ hS (lv_sub hl [0, 1, 2, 3] rfl)
set_option maxHeartbeats 4000000 in
set_option maxRecDepth 100000 in
theorem mlaw_27 {p : Program} {l : Launch} {e : Env} {s : State} {m : MethodId} {below : List Frame} {meth : Method} {c : Code} {b L : Nat} {xs : Nat → Int32} {D : va_G} {cA : Nat → ClassId} {h1 h2 tw mc ms : Nat} (C0 : lw_At p s m meth c b L xs) (hK : va_K D vwCl (gty cA) s) (hZ : gSt tw (gAL s) s s.heap) (hh1 : s.heap.size ≤ h1) (hh2 : h1 + 315 ≤ h2) (hmc : mc ≤ 600000) (hms : ms ≤ 7302250) (K : Int32 → gS → gS → Option Unit) (hK18 : ∀ (x3 : Int32) (z w : gS) (H : Heap) (locs : List Loc) (ls : Array Slot), K x3 z w = some () → va_P D vwCl (gw cA (fun k => h1 + k) shX 315 z) H → va_P D vwCl (gw cA (fun k => h2 + k) shM 22 w) H → va_S (gAL s) s.heap H locs → lv_has ls 4 [(3, .int x3), (0, .ref b), (1, .ref (h1 + 0)), (2, .ref (h2 + 0))] → W p l e room_1 s m #[Value.ref b] below meth c H locs mc ms (lw_Z below #[Value.ref b] s) (F0 m 18 ls [])) (x3 : Int32) (z w : gS) (H : Heap) (locs : List Loc) (ls : Array Slot) (h : f_law_27 xs L K x3 z w = some ()) (hP : va_P D vwCl (gw cA (fun k => h1 + k) shX 315 z) H) (hQ : va_P D vwCl (gw cA (fun k => h2 + k) shM 22 w) H) (hS : va_S (gAL s) s.heap H locs) (hl : lv_has ls 4 [(3, .int x3), (0, .ref b), (1, .ref (h1 + 0)), (2, .ref (h2 + 0))]) : W p l e room_1 s m #[Value.ref b] below meth c H locs mc ms (lw_Z below #[Value.ref b] s) (F0 m 896 ls []) := by
  obtain ⟨hx, hb, hr, hml, hown, hts0, hX, hbl, hlocks, hgv⟩ := id C0
  have hb : c.code = cL_law := hb
  have hts := hts0
  have hown : s.vm.findClass RL = some m.cls := hown
  have hbA : ¬ gAL s b := Nat.not_le.mpr hbl
  have hG1 : gOk (fun k => h1 + k) 315 := fun i j _ _ e => by have e : h1 + i = h1 + j := e; omega
  have hG2 : gOk (fun k => h2 + k) 22 := fun i j _ _ e => by have e : h2 + i = h2 + j := e; omega
  have hA1 : ∀ q, gA (fun k => h1 + k) 315 q → gAL s q := fun q h => by obtain ⟨k, _, rfl⟩ := h; show s.heap.size ≤ h1 + k; omega
  have hA2 : ∀ q, gA (fun k => h2 + k) 22 q → gAL s q := fun q h => by obtain ⟨k, _, rfl⟩ := h; show s.heap.size ≤ h2 + k; omega
  have j1232 := fun (x3 : Int32) (z w : gS) (H : Heap) (locs : List Loc) (ls : Array Slot) h hP hQ hS hl => law_next (x3 := x3) (z := z) (w := w) (H := H) (locs := locs) (ls := ls) C0 K hK18 h hP hQ hS hl
  have hd1 : ∀ (i : Nat) (q : Nat × va_E), (gw cA (fun k => h2 + k) shM 22 w)[i]? = some q → ¬ gA (fun k => h1 + k) 315 q.1 := fun i q hq h => by obtain ⟨k, hk, e⟩ := h; obtain ⟨h3, h4⟩ := gw_mem hq; have e : h2 + i = h1 + k := h4.symm.trans e; omega
  have hd2 : ∀ (z : gS) (i : Nat) (q : Nat × va_E), (gw cA (fun k => h1 + k) shX 315 z)[i]? = some q → ¬ gA (fun k => h2 + k) 22 q.1 := fun z i q hq h => by obtain ⟨k, hk, e⟩ := h; obtain ⟨h3, h4⟩ := gw_mem hq; have e : h1 + i = h2 + k := h4.symm.trans e; omega
  unfold f_law_27 at h
  refine lv_aload_n hx hb dL_law_896 rfl (lv_at hl 2 rfl) ?_
  obtain ⟨q0, hq0, h⟩ := gb_s h
  refine fl_i (As := []) (rest := []) ⟨hx, hb, hml, hown, hts⟩ (k_X10_spell l D cA (fun k => h1 + k) tw hG1 z  q0 hq0) (cwV 0 hts gT_X10_spell rfl rfl rfl hdV_X10_spell ⟨Nat.le_of_ble_eq_true rfl, Nat.le_of_ble_eq_true rfl⟩) (fl_pre gF10.1.1 gF10.1.2 rfl rfl hK hZ hP hS hA1) hA1 hQ hd1 rfl hl _ rfl (Nat.le_of_ble_eq_true rfl) hS dL_law_897 ⟨hmc, hms⟩ (fun H locs hP hQ hS => ?_)
  refine lv_aload_n hx hb dL_law_900 rfl (lv_at hl 3 rfl) ?_
  obtain ⟨q1, hq1, h⟩ := gb_s h
  refine fl_i (As := []) (rest := [.int q0.1]) ⟨hx, hb, hml, hown, hts⟩ (k_X11_spell l D cA (fun k => h2 + k) tw hG2 w  q1 hq1) (cwV 0 hts gT_X11_spell rfl rfl rfl hdV_X11_spell ⟨Nat.le_of_ble_eq_true rfl, Nat.le_of_ble_eq_true rfl⟩) (fl_pre gF11.1.1 gF11.1.2 rfl rfl hK hZ hQ hS hA2) hA2 hP (hd2 _) rfl hl _ rfl (Nat.le_of_ble_eq_true rfl) hS dL_law_901 ⟨hmc, hms⟩ (fun H locs hQ hP hS => ?_)
  refine lv_icmp_eq (tgt := 1232) hx hb dL_law_904 (by decide) (fun c1 => ?_) (fun c1 => (gno (gif_f h c1)).elim)
  replace h := gif_t h c1
  exact j1232 x3 q0.2 q1.2 H locs ls h hP hQ hS (lv_sub hl [0, 1, 2, 3] rfl)
set_option maxHeartbeats 4000000 in
set_option maxRecDepth 100000 in
theorem mlaw_28 {p : Program} {l : Launch} {e : Env} {s : State} {m : MethodId} {below : List Frame} {meth : Method} {c : Code} {b L : Nat} {xs : Nat → Int32} {D : va_G} {cA : Nat → ClassId} {h1 h2 tw mc ms : Nat} (C0 : lw_At p s m meth c b L xs) (hK : va_K D vwCl (gty cA) s) (hZ : gSt tw (gAL s) s s.heap) (hh1 : s.heap.size ≤ h1) (hh2 : h1 + 315 ≤ h2) (hmc : mc ≤ 600000) (hms : ms ≤ 7302250) (K : Int32 → gS → gS → Option Unit) (hK18 : ∀ (x3 : Int32) (z w : gS) (H : Heap) (locs : List Loc) (ls : Array Slot), K x3 z w = some () → va_P D vwCl (gw cA (fun k => h1 + k) shX 315 z) H → va_P D vwCl (gw cA (fun k => h2 + k) shM 22 w) H → va_S (gAL s) s.heap H locs → lv_has ls 4 [(3, .int x3), (0, .ref b), (1, .ref (h1 + 0)), (2, .ref (h2 + 0))] → W p l e room_1 s m #[Value.ref b] below meth c H locs mc ms (lw_Z below #[Value.ref b] s) (F0 m 18 ls [])) (x3 : Int32) (z w : gS) (H : Heap) (locs : List Loc) (ls : Array Slot) (h : f_law_28 xs L K x3 z w = some ()) (hP : va_P D vwCl (gw cA (fun k => h1 + k) shX 315 z) H) (hQ : va_P D vwCl (gw cA (fun k => h2 + k) shM 22 w) H) (hS : va_S (gAL s) s.heap H locs) (hl : lv_has ls 4 [(3, .int x3), (0, .ref b), (1, .ref (h1 + 0)), (2, .ref (h2 + 0))]) : W p l e room_1 s m #[Value.ref b] below meth c H locs mc ms (lw_Z below #[Value.ref b] s) (F0 m 909 ls []) := by
  obtain ⟨hx, hb, hr, hml, hown, hts0, hX, hbl, hlocks, hgv⟩ := id C0
  have hb : c.code = cL_law := hb
  have hts := hts0
  have hown : s.vm.findClass RL = some m.cls := hown
  have hbA : ¬ gAL s b := Nat.not_le.mpr hbl
  have hG1 : gOk (fun k => h1 + k) 315 := fun i j _ _ e => by have e : h1 + i = h1 + j := e; omega
  have hG2 : gOk (fun k => h2 + k) 22 := fun i j _ _ e => by have e : h2 + i = h2 + j := e; omega
  have hA1 : ∀ q, gA (fun k => h1 + k) 315 q → gAL s q := fun q h => by obtain ⟨k, _, rfl⟩ := h; show s.heap.size ≤ h1 + k; omega
  have hA2 : ∀ q, gA (fun k => h2 + k) 22 q → gAL s q := fun q h => by obtain ⟨k, _, rfl⟩ := h; show s.heap.size ≤ h2 + k; omega
  have j1232 := fun (x3 : Int32) (z w : gS) (H : Heap) (locs : List Loc) (ls : Array Slot) h hP hQ hS hl => law_next (x3 := x3) (z := z) (w := w) (H := H) (locs := locs) (ls := ls) C0 K hK18 h hP hQ hS hl
  have hd1 : ∀ (i : Nat) (q : Nat × va_E), (gw cA (fun k => h2 + k) shM 22 w)[i]? = some q → ¬ gA (fun k => h1 + k) 315 q.1 := fun i q hq h => by obtain ⟨k, hk, e⟩ := h; obtain ⟨h3, h4⟩ := gw_mem hq; have e : h2 + i = h1 + k := h4.symm.trans e; omega
  have hd2 : ∀ (z : gS) (i : Nat) (q : Nat × va_E), (gw cA (fun k => h1 + k) shX 315 z)[i]? = some q → ¬ gA (fun k => h2 + k) 22 q.1 := fun z i q hq h => by obtain ⟨k, hk, e⟩ := h; obtain ⟨h3, h4⟩ := gw_mem hq; have e : h1 + i = h2 + k := h4.symm.trans e; omega
  unfold f_law_28 at h
  refine lv_aload_n hx hb dL_law_909 rfl (lv_at hl 2 rfl) ?_
  refine lv_aload_n hx hb dL_law_910 rfl (lv_at hl 1 rfl) ?_
  refine lv_iload_n hx hb dL_law_911 rfl (lv_at hl 0 rfl) ?_
  refine lv_iconst (v := (nI 1)) hx hb dL_law_912 (by decide) ?_
  refine lv_iadd hx hb dL_law_913 ?_
  obtain ⟨hg1, h⟩ := gg_s h
  refine va_sld hx hb hX hbl hbA hS hg1 dL_law_914 ?_
  obtain ⟨q0, hq0, h⟩ := gb_s h
  refine fl_i (As := [.int (xs (x3 + (nI 1)).toNatClampNeg)]) (rest := []) ⟨hx, hb, hml, hown, hts⟩ (k_X10_paper l D cA (fun k => h1 + k) tw hG1 z (xs (x3 + (nI 1)).toNatClampNeg) q0 hq0) (cwV 1 hts gT_X10_paper rfl rfl rfl hdV_X10_paper ⟨Nat.le_of_ble_eq_true rfl, Nat.le_of_ble_eq_true rfl⟩) (fl_pre gF10.1.1 gF10.1.2 rfl rfl hK hZ hP hS hA1) hA1 hQ hd1 rfl hl _ rfl (Nat.le_of_ble_eq_true rfl) hS dL_law_915 ⟨hmc, hms⟩ (fun H locs hP hQ hS => ?_)
  refine lv_aload_n hx hb dL_law_918 rfl (lv_at hl 3 rfl) ?_
  refine lv_aload_n hx hb dL_law_919 rfl (lv_at hl 1 rfl) ?_
  refine lv_iload_n hx hb dL_law_920 rfl (lv_at hl 0 rfl) ?_
  refine lv_iconst (v := (nI 1)) hx hb dL_law_921 (by decide) ?_
  refine lv_iadd hx hb dL_law_922 ?_
  obtain ⟨hg2, h⟩ := gg_s h
  refine va_sld hx hb hX hbl hbA hS hg2 dL_law_923 ?_
  obtain ⟨q1, hq1, h⟩ := gb_s h
  refine fl_i (As := [.int (xs (x3 + (nI 1)).toNatClampNeg)]) (rest := [.int q0.1]) ⟨hx, hb, hml, hown, hts⟩ (k_X11_paper l D cA (fun k => h2 + k) tw hG2 w (xs (x3 + (nI 1)).toNatClampNeg) q1 hq1) (cwV 1 hts gT_X11_paper rfl rfl rfl hdV_X11_paper ⟨Nat.le_of_ble_eq_true rfl, Nat.le_of_ble_eq_true rfl⟩) (fl_pre gF11.1.1 gF11.1.2 rfl rfl hK hZ hQ hS hA2) hA2 hP (hd2 _) rfl hl _ rfl (Nat.le_of_ble_eq_true rfl) hS dL_law_924 ⟨hmc, hms⟩ (fun H locs hQ hP hS => ?_)
  refine lv_icmp_eq (tgt := 1232) hx hb dL_law_927 (by decide) (fun c1 => ?_) (fun c1 => (gno (gif_f h c1)).elim)
  replace h := gif_t h c1
  exact j1232 x3 q0.2 q1.2 H locs ls h hP hQ hS (lv_sub hl [0, 1, 2, 3] rfl)
set_option maxHeartbeats 4000000 in
set_option maxRecDepth 100000 in
theorem mlaw_29 {p : Program} {l : Launch} {e : Env} {s : State} {m : MethodId} {below : List Frame} {meth : Method} {c : Code} {b L : Nat} {xs : Nat → Int32} {D : va_G} {cA : Nat → ClassId} {h1 h2 tw mc ms : Nat} (C0 : lw_At p s m meth c b L xs) (hK : va_K D vwCl (gty cA) s) (hZ : gSt tw (gAL s) s s.heap) (hh1 : s.heap.size ≤ h1) (hh2 : h1 + 315 ≤ h2) (hmc : mc ≤ 600000) (hms : ms ≤ 7302250) (K : Int32 → gS → gS → Option Unit) (hK18 : ∀ (x3 : Int32) (z w : gS) (H : Heap) (locs : List Loc) (ls : Array Slot), K x3 z w = some () → va_P D vwCl (gw cA (fun k => h1 + k) shX 315 z) H → va_P D vwCl (gw cA (fun k => h2 + k) shM 22 w) H → va_S (gAL s) s.heap H locs → lv_has ls 4 [(3, .int x3), (0, .ref b), (1, .ref (h1 + 0)), (2, .ref (h2 + 0))] → W p l e room_1 s m #[Value.ref b] below meth c H locs mc ms (lw_Z below #[Value.ref b] s) (F0 m 18 ls [])) (x3 : Int32) (z w : gS) (H : Heap) (locs : List Loc) (ls : Array Slot) (h : f_law_29 xs L K x3 z w = some ()) (hP : va_P D vwCl (gw cA (fun k => h1 + k) shX 315 z) H) (hQ : va_P D vwCl (gw cA (fun k => h2 + k) shM 22 w) H) (hS : va_S (gAL s) s.heap H locs) (hl : lv_has ls 4 [(3, .int x3), (0, .ref b), (1, .ref (h1 + 0)), (2, .ref (h2 + 0))]) : W p l e room_1 s m #[Value.ref b] below meth c H locs mc ms (lw_Z below #[Value.ref b] s) (F0 m 932 ls []) := by
  obtain ⟨hx, hb, hr, hml, hown, hts0, hX, hbl, hlocks, hgv⟩ := id C0
  have hb : c.code = cL_law := hb
  have hts := hts0
  have hown : s.vm.findClass RL = some m.cls := hown
  have hbA : ¬ gAL s b := Nat.not_le.mpr hbl
  have hG1 : gOk (fun k => h1 + k) 315 := fun i j _ _ e => by have e : h1 + i = h1 + j := e; omega
  have hG2 : gOk (fun k => h2 + k) 22 := fun i j _ _ e => by have e : h2 + i = h2 + j := e; omega
  have hA1 : ∀ q, gA (fun k => h1 + k) 315 q → gAL s q := fun q h => by obtain ⟨k, _, rfl⟩ := h; show s.heap.size ≤ h1 + k; omega
  have hA2 : ∀ q, gA (fun k => h2 + k) 22 q → gAL s q := fun q h => by obtain ⟨k, _, rfl⟩ := h; show s.heap.size ≤ h2 + k; omega
  have j1232 := fun (x3 : Int32) (z w : gS) (H : Heap) (locs : List Loc) (ls : Array Slot) h hP hQ hS hl => law_next (x3 := x3) (z := z) (w := w) (H := H) (locs := locs) (ls := ls) C0 K hK18 h hP hQ hS hl
  have hd1 : ∀ (i : Nat) (q : Nat × va_E), (gw cA (fun k => h2 + k) shM 22 w)[i]? = some q → ¬ gA (fun k => h1 + k) 315 q.1 := fun i q hq h => by obtain ⟨k, hk, e⟩ := h; obtain ⟨h3, h4⟩ := gw_mem hq; have e : h2 + i = h1 + k := h4.symm.trans e; omega
  have hd2 : ∀ (z : gS) (i : Nat) (q : Nat × va_E), (gw cA (fun k => h1 + k) shX 315 z)[i]? = some q → ¬ gA (fun k => h2 + k) 22 q.1 := fun z i q hq h => by obtain ⟨k, hk, e⟩ := h; obtain ⟨h3, h4⟩ := gw_mem hq; have e : h1 + i = h2 + k := h4.symm.trans e; omega
  unfold f_law_29 at h
  refine lv_aload_n hx hb dL_law_932 rfl (lv_at hl 2 rfl) ?_
  refine lv_aload_n hx hb dL_law_933 rfl (lv_at hl 1 rfl) ?_
  refine lv_iload_n hx hb dL_law_934 rfl (lv_at hl 0 rfl) ?_
  refine lv_iconst (v := (nI 1)) hx hb dL_law_935 (by decide) ?_
  refine lv_iadd hx hb dL_law_936 ?_
  obtain ⟨hg1, h⟩ := gg_s h
  refine va_sld hx hb hX hbl hbA hS hg1 dL_law_937 ?_
  refine lv_aload_n hx hb dL_law_938 rfl (lv_at hl 1 rfl) ?_
  refine lv_iload_n hx hb dL_law_939 rfl (lv_at hl 0 rfl) ?_
  refine lv_iconst (v := (nI 2)) hx hb dL_law_940 (by decide) ?_
  refine lv_iadd hx hb dL_law_941 ?_
  obtain ⟨hg2, h⟩ := gg_s h
  refine va_sld hx hb hX hbl hbA hS hg2 dL_law_942 ?_
  obtain ⟨q0, hq0, h⟩ := gb_s h
  refine fl_i (As := [.int (xs (x3 + (nI 1)).toNatClampNeg), .int (xs (x3 + (nI 2)).toNatClampNeg)]) (rest := []) ⟨hx, hb, hml, hown, hts⟩ (k_X10_tray l D cA (fun k => h1 + k) tw hG1 z (xs (x3 + (nI 1)).toNatClampNeg) (xs (x3 + (nI 2)).toNatClampNeg) q0 hq0) (cwV 2 hts gT_X10_tray rfl rfl rfl hdV_X10_tray ⟨Nat.le_of_ble_eq_true rfl, Nat.le_of_ble_eq_true rfl⟩) (fl_pre gF10.1.1 gF10.1.2 rfl rfl hK hZ hP hS hA1) hA1 hQ hd1 rfl hl _ rfl (Nat.le_of_ble_eq_true rfl) hS dL_law_943 ⟨hmc, hms⟩ (fun H locs hP hQ hS => ?_)
  refine lv_aload_n hx hb dL_law_946 rfl (lv_at hl 3 rfl) ?_
  refine lv_aload_n hx hb dL_law_947 rfl (lv_at hl 1 rfl) ?_
  refine lv_iload_n hx hb dL_law_948 rfl (lv_at hl 0 rfl) ?_
  refine lv_iconst (v := (nI 1)) hx hb dL_law_949 (by decide) ?_
  refine lv_iadd hx hb dL_law_950 ?_
  obtain ⟨hg3, h⟩ := gg_s h
  refine va_sld hx hb hX hbl hbA hS hg3 dL_law_951 ?_
  refine lv_aload_n hx hb dL_law_952 rfl (lv_at hl 1 rfl) ?_
  refine lv_iload_n hx hb dL_law_953 rfl (lv_at hl 0 rfl) ?_
  refine lv_iconst (v := (nI 2)) hx hb dL_law_954 (by decide) ?_
  refine lv_iadd hx hb dL_law_955 ?_
  obtain ⟨hg4, h⟩ := gg_s h
  refine va_sld hx hb hX hbl hbA hS hg4 dL_law_956 ?_
  obtain ⟨q1, hq1, h⟩ := gb_s h
  refine fl_i (As := [.int (xs (x3 + (nI 1)).toNatClampNeg), .int (xs (x3 + (nI 2)).toNatClampNeg)]) (rest := [.int q0.1]) ⟨hx, hb, hml, hown, hts⟩ (k_X11_tray l D cA (fun k => h2 + k) tw hG2 w (xs (x3 + (nI 1)).toNatClampNeg) (xs (x3 + (nI 2)).toNatClampNeg) q1 hq1) (cwV 2 hts gT_X11_tray rfl rfl rfl hdV_X11_tray ⟨Nat.le_of_ble_eq_true rfl, Nat.le_of_ble_eq_true rfl⟩) (fl_pre gF11.1.1 gF11.1.2 rfl rfl hK hZ hQ hS hA2) hA2 hP (hd2 _) rfl hl _ rfl (Nat.le_of_ble_eq_true rfl) hS dL_law_957 ⟨hmc, hms⟩ (fun H locs hQ hP hS => ?_)
  refine lv_icmp_eq (tgt := 1232) hx hb dL_law_960 (by decide) (fun c1 => ?_) (fun c1 => (gno (gif_f h c1)).elim)
  replace h := gif_t h c1
  exact j1232 x3 q0.2 q1.2 H locs ls h hP hQ hS (lv_sub hl [0, 1, 2, 3] rfl)
set_option maxHeartbeats 4000000 in
set_option maxRecDepth 100000 in
theorem mlaw_30 {p : Program} {l : Launch} {e : Env} {s : State} {m : MethodId} {below : List Frame} {meth : Method} {c : Code} {b L : Nat} {xs : Nat → Int32} {D : va_G} {cA : Nat → ClassId} {h1 h2 tw mc ms : Nat} (C0 : lw_At p s m meth c b L xs) (hK : va_K D vwCl (gty cA) s) (hZ : gSt tw (gAL s) s s.heap) (hh1 : s.heap.size ≤ h1) (hh2 : h1 + 315 ≤ h2) (hmc : mc ≤ 600000) (hms : ms ≤ 7302250) (K : Int32 → gS → gS → Option Unit) (hK18 : ∀ (x3 : Int32) (z w : gS) (H : Heap) (locs : List Loc) (ls : Array Slot), K x3 z w = some () → va_P D vwCl (gw cA (fun k => h1 + k) shX 315 z) H → va_P D vwCl (gw cA (fun k => h2 + k) shM 22 w) H → va_S (gAL s) s.heap H locs → lv_has ls 4 [(3, .int x3), (0, .ref b), (1, .ref (h1 + 0)), (2, .ref (h2 + 0))] → W p l e room_1 s m #[Value.ref b] below meth c H locs mc ms (lw_Z below #[Value.ref b] s) (F0 m 18 ls [])) (x3 : Int32) (z w : gS) (H : Heap) (locs : List Loc) (ls : Array Slot) (h : f_law_30 xs L K x3 z w = some ()) (hP : va_P D vwCl (gw cA (fun k => h1 + k) shX 315 z) H) (hQ : va_P D vwCl (gw cA (fun k => h2 + k) shM 22 w) H) (hS : va_S (gAL s) s.heap H locs) (hl : lv_has ls 4 [(3, .int x3), (0, .ref b), (1, .ref (h1 + 0)), (2, .ref (h2 + 0))]) : W p l e room_1 s m #[Value.ref b] below meth c H locs mc ms (lw_Z below #[Value.ref b] s) (F0 m 965 ls []) := by
  obtain ⟨hx, hb, hr, hml, hown, hts0, hX, hbl, hlocks, hgv⟩ := id C0
  have hb : c.code = cL_law := hb
  have hts := hts0
  have hown : s.vm.findClass RL = some m.cls := hown
  have hbA : ¬ gAL s b := Nat.not_le.mpr hbl
  have hG1 : gOk (fun k => h1 + k) 315 := fun i j _ _ e => by have e : h1 + i = h1 + j := e; omega
  have hG2 : gOk (fun k => h2 + k) 22 := fun i j _ _ e => by have e : h2 + i = h2 + j := e; omega
  have hA1 : ∀ q, gA (fun k => h1 + k) 315 q → gAL s q := fun q h => by obtain ⟨k, _, rfl⟩ := h; show s.heap.size ≤ h1 + k; omega
  have hA2 : ∀ q, gA (fun k => h2 + k) 22 q → gAL s q := fun q h => by obtain ⟨k, _, rfl⟩ := h; show s.heap.size ≤ h2 + k; omega
  have j1232 := fun (x3 : Int32) (z w : gS) (H : Heap) (locs : List Loc) (ls : Array Slot) h hP hQ hS hl => law_next (x3 := x3) (z := z) (w := w) (H := H) (locs := locs) (ls := ls) C0 K hK18 h hP hQ hS hl
  have hd1 : ∀ (i : Nat) (q : Nat × va_E), (gw cA (fun k => h2 + k) shM 22 w)[i]? = some q → ¬ gA (fun k => h1 + k) 315 q.1 := fun i q hq h => by obtain ⟨k, hk, e⟩ := h; obtain ⟨h3, h4⟩ := gw_mem hq; have e : h2 + i = h1 + k := h4.symm.trans e; omega
  have hd2 : ∀ (z : gS) (i : Nat) (q : Nat × va_E), (gw cA (fun k => h1 + k) shX 315 z)[i]? = some q → ¬ gA (fun k => h2 + k) 22 q.1 := fun z i q hq h => by obtain ⟨k, hk, e⟩ := h; obtain ⟨h3, h4⟩ := gw_mem hq; have e : h1 + i = h2 + k := h4.symm.trans e; omega
  unfold f_law_30 at h
  refine lv_aload_n hx hb dL_law_965 rfl (lv_at hl 2 rfl) ?_
  refine lv_aload_n hx hb dL_law_966 rfl (lv_at hl 1 rfl) ?_
  refine lv_iload_n hx hb dL_law_967 rfl (lv_at hl 0 rfl) ?_
  refine lv_iconst (v := (nI 1)) hx hb dL_law_968 (by decide) ?_
  refine lv_iadd hx hb dL_law_969 ?_
  obtain ⟨hg1, h⟩ := gg_s h
  refine va_sld hx hb hX hbl hbA hS hg1 dL_law_970 ?_
  refine lv_aload_n hx hb dL_law_971 rfl (lv_at hl 1 rfl) ?_
  refine lv_iload_n hx hb dL_law_972 rfl (lv_at hl 0 rfl) ?_
  refine lv_iconst (v := (nI 2)) hx hb dL_law_973 (by decide) ?_
  refine lv_iadd hx hb dL_law_974 ?_
  obtain ⟨hg2, h⟩ := gg_s h
  refine va_sld hx hb hX hbl hbA hS hg2 dL_law_975 ?_
  obtain ⟨q0, hq0, h⟩ := gb_s h
  refine fl_i (As := [.int (xs (x3 + (nI 1)).toNatClampNeg), .int (xs (x3 + (nI 2)).toNatClampNeg)]) (rest := []) ⟨hx, hb, hml, hown, hts⟩ (k_X10_lay l D cA (fun k => h1 + k) tw hG1 z (xs (x3 + (nI 1)).toNatClampNeg) (xs (x3 + (nI 2)).toNatClampNeg) q0 hq0) (cwV 2 hts gT_X10_lay rfl rfl rfl hdV_X10_lay ⟨Nat.le_of_ble_eq_true rfl, Nat.le_of_ble_eq_true rfl⟩) (fl_pre gF10.1.1 gF10.1.2 rfl rfl hK hZ hP hS hA1) hA1 hQ hd1 rfl hl _ rfl (Nat.le_of_ble_eq_true rfl) hS dL_law_976 ⟨hmc, hms⟩ (fun H locs hP hQ hS => ?_)
  refine lv_aload_n hx hb dL_law_979 rfl (lv_at hl 3 rfl) ?_
  refine lv_aload_n hx hb dL_law_980 rfl (lv_at hl 1 rfl) ?_
  refine lv_iload_n hx hb dL_law_981 rfl (lv_at hl 0 rfl) ?_
  refine lv_iconst (v := (nI 1)) hx hb dL_law_982 (by decide) ?_
  refine lv_iadd hx hb dL_law_983 ?_
  obtain ⟨hg3, h⟩ := gg_s h
  refine va_sld hx hb hX hbl hbA hS hg3 dL_law_984 ?_
  refine lv_aload_n hx hb dL_law_985 rfl (lv_at hl 1 rfl) ?_
  refine lv_iload_n hx hb dL_law_986 rfl (lv_at hl 0 rfl) ?_
  refine lv_iconst (v := (nI 2)) hx hb dL_law_987 (by decide) ?_
  refine lv_iadd hx hb dL_law_988 ?_
  obtain ⟨hg4, h⟩ := gg_s h
  refine va_sld hx hb hX hbl hbA hS hg4 dL_law_989 ?_
  obtain ⟨q1, hq1, h⟩ := gb_s h
  refine fl_i (As := [.int (xs (x3 + (nI 1)).toNatClampNeg), .int (xs (x3 + (nI 2)).toNatClampNeg)]) (rest := [.int q0.1]) ⟨hx, hb, hml, hown, hts⟩ (k_X11_lay l D cA (fun k => h2 + k) tw hG2 w (xs (x3 + (nI 1)).toNatClampNeg) (xs (x3 + (nI 2)).toNatClampNeg) q1 hq1) (cwV 2 hts gT_X11_lay rfl rfl rfl hdV_X11_lay ⟨Nat.le_of_ble_eq_true rfl, Nat.le_of_ble_eq_true rfl⟩) (fl_pre gF11.1.1 gF11.1.2 rfl rfl hK hZ hQ hS hA2) hA2 hP (hd2 _) rfl hl _ rfl (Nat.le_of_ble_eq_true rfl) hS dL_law_990 ⟨hmc, hms⟩ (fun H locs hQ hP hS => ?_)
  refine lv_icmp_eq (tgt := 1232) hx hb dL_law_993 (by decide) (fun c1 => ?_) (fun c1 => (gno (gif_f h c1)).elim)
  replace h := gif_t h c1
  exact j1232 x3 q0.2 q1.2 H locs ls h hP hQ hS (lv_sub hl [0, 1, 2, 3] rfl)
set_option maxHeartbeats 4000000 in
set_option maxRecDepth 100000 in
theorem mlaw_31 {p : Program} {l : Launch} {e : Env} {s : State} {m : MethodId} {below : List Frame} {meth : Method} {c : Code} {b L : Nat} {xs : Nat → Int32} {D : va_G} {cA : Nat → ClassId} {h1 h2 tw mc ms : Nat} (C0 : lw_At p s m meth c b L xs) (hK : va_K D vwCl (gty cA) s) (hZ : gSt tw (gAL s) s s.heap) (hh1 : s.heap.size ≤ h1) (hh2 : h1 + 315 ≤ h2) (hmc : mc ≤ 600000) (hms : ms ≤ 7302250) (K : Int32 → gS → gS → Option Unit) (hK18 : ∀ (x3 : Int32) (z w : gS) (H : Heap) (locs : List Loc) (ls : Array Slot), K x3 z w = some () → va_P D vwCl (gw cA (fun k => h1 + k) shX 315 z) H → va_P D vwCl (gw cA (fun k => h2 + k) shM 22 w) H → va_S (gAL s) s.heap H locs → lv_has ls 4 [(3, .int x3), (0, .ref b), (1, .ref (h1 + 0)), (2, .ref (h2 + 0))] → W p l e room_1 s m #[Value.ref b] below meth c H locs mc ms (lw_Z below #[Value.ref b] s) (F0 m 18 ls [])) (x3 : Int32) (z w : gS) (H : Heap) (locs : List Loc) (ls : Array Slot) (h : f_law_31 xs L K x3 z w = some ()) (hP : va_P D vwCl (gw cA (fun k => h1 + k) shX 315 z) H) (hQ : va_P D vwCl (gw cA (fun k => h2 + k) shM 22 w) H) (hS : va_S (gAL s) s.heap H locs) (hl : lv_has ls 4 [(3, .int x3), (0, .ref b), (1, .ref (h1 + 0)), (2, .ref (h2 + 0))]) : W p l e room_1 s m #[Value.ref b] below meth c H locs mc ms (lw_Z below #[Value.ref b] s) (F0 m 998 ls []) := by
  obtain ⟨hx, hb, hr, hml, hown, hts0, hX, hbl, hlocks, hgv⟩ := id C0
  have hb : c.code = cL_law := hb
  have hts := hts0
  have hown : s.vm.findClass RL = some m.cls := hown
  have hbA : ¬ gAL s b := Nat.not_le.mpr hbl
  have hG1 : gOk (fun k => h1 + k) 315 := fun i j _ _ e => by have e : h1 + i = h1 + j := e; omega
  have hG2 : gOk (fun k => h2 + k) 22 := fun i j _ _ e => by have e : h2 + i = h2 + j := e; omega
  have hA1 : ∀ q, gA (fun k => h1 + k) 315 q → gAL s q := fun q h => by obtain ⟨k, _, rfl⟩ := h; show s.heap.size ≤ h1 + k; omega
  have hA2 : ∀ q, gA (fun k => h2 + k) 22 q → gAL s q := fun q h => by obtain ⟨k, _, rfl⟩ := h; show s.heap.size ≤ h2 + k; omega
  have j1232 := fun (x3 : Int32) (z w : gS) (H : Heap) (locs : List Loc) (ls : Array Slot) h hP hQ hS hl => law_next (x3 := x3) (z := z) (w := w) (H := H) (locs := locs) (ls := ls) C0 K hK18 h hP hQ hS hl
  have hd1 : ∀ (i : Nat) (q : Nat × va_E), (gw cA (fun k => h2 + k) shM 22 w)[i]? = some q → ¬ gA (fun k => h1 + k) 315 q.1 := fun i q hq h => by obtain ⟨k, hk, e⟩ := h; obtain ⟨h3, h4⟩ := gw_mem hq; have e : h2 + i = h1 + k := h4.symm.trans e; omega
  have hd2 : ∀ (z : gS) (i : Nat) (q : Nat × va_E), (gw cA (fun k => h1 + k) shX 315 z)[i]? = some q → ¬ gA (fun k => h2 + k) 22 q.1 := fun z i q hq h => by obtain ⟨k, hk, e⟩ := h; obtain ⟨h3, h4⟩ := gw_mem hq; have e : h1 + i = h2 + k := h4.symm.trans e; omega
  unfold f_law_31 at h
  refine lv_aload_n hx hb dL_law_998 rfl (lv_at hl 2 rfl) ?_
  refine lv_aload_n hx hb dL_law_999 rfl (lv_at hl 1 rfl) ?_
  refine lv_iload_n hx hb dL_law_1000 rfl (lv_at hl 0 rfl) ?_
  refine lv_iconst (v := (nI 1)) hx hb dL_law_1001 (by decide) ?_
  refine lv_iadd hx hb dL_law_1002 ?_
  obtain ⟨hg1, h⟩ := gg_s h
  refine va_sld hx hb hX hbl hbA hS hg1 dL_law_1003 ?_
  refine lv_aload_n hx hb dL_law_1004 rfl (lv_at hl 1 rfl) ?_
  refine lv_iload_n hx hb dL_law_1005 rfl (lv_at hl 0 rfl) ?_
  refine lv_iconst (v := (nI 2)) hx hb dL_law_1006 (by decide) ?_
  refine lv_iadd hx hb dL_law_1007 ?_
  obtain ⟨hg2, h⟩ := gg_s h
  refine va_sld hx hb hX hbl hbA hS hg2 dL_law_1008 ?_
  obtain ⟨q0, hq0, h⟩ := gb_s h
  refine fl_iR (As := [.int (xs (x3 + (nI 1)).toNatClampNeg), .int (xs (x3 + (nI 2)).toNatClampNeg)]) (rest := []) ⟨hx, hb, hml, hown, hts⟩ (k_X10_laid l D cA (fun k => h1 + k) tw hG1 z (xs (x3 + (nI 1)).toNatClampNeg) (xs (x3 + (nI 2)).toNatClampNeg) q0 hq0) (cwV 2 hts gT_X10_laid rfl rfl rfl hdV_X10_laid ⟨Nat.le_of_ble_eq_true rfl, Nat.le_of_ble_eq_true rfl⟩) (fl_pre gF10.1.1 gF10.1.2 rfl rfl hK hZ hP hS hA1) hA1 hQ hd1 rfl hl _ rfl (Nat.le_of_ble_eq_true rfl) hS dL_law_1009 ⟨hmc, hms⟩ (fun H locs hP hQ hS => ?_)
  refine lv_aload_n hx hb dL_law_1012 rfl (lv_at hl 3 rfl) ?_
  refine lv_aload_n hx hb dL_law_1013 rfl (lv_at hl 1 rfl) ?_
  refine lv_iload_n hx hb dL_law_1014 rfl (lv_at hl 0 rfl) ?_
  refine lv_iconst (v := (nI 1)) hx hb dL_law_1015 (by decide) ?_
  refine lv_iadd hx hb dL_law_1016 ?_
  obtain ⟨hg3, h⟩ := gg_s h
  refine va_sld hx hb hX hbl hbA hS hg3 dL_law_1017 ?_
  refine lv_aload_n hx hb dL_law_1018 rfl (lv_at hl 1 rfl) ?_
  refine lv_iload_n hx hb dL_law_1019 rfl (lv_at hl 0 rfl) ?_
  refine lv_iconst (v := (nI 2)) hx hb dL_law_1020 (by decide) ?_
  refine lv_iadd hx hb dL_law_1021 ?_
  obtain ⟨hg4, h⟩ := gg_s h
  refine va_sld hx hb hX hbl hbA hS hg4 dL_law_1022 ?_
  obtain ⟨q1, hq1, h⟩ := gb_s h
  refine fl_iR (As := [.int (xs (x3 + (nI 1)).toNatClampNeg), .int (xs (x3 + (nI 2)).toNatClampNeg)]) (rest := [.int q0]) ⟨hx, hb, hml, hown, hts⟩ (k_X11_laid l D cA (fun k => h2 + k) tw hG2 w (xs (x3 + (nI 1)).toNatClampNeg) (xs (x3 + (nI 2)).toNatClampNeg) q1 hq1) (cwV 2 hts gT_X11_laid rfl rfl rfl hdV_X11_laid ⟨Nat.le_of_ble_eq_true rfl, Nat.le_of_ble_eq_true rfl⟩) (fl_pre gF11.1.1 gF11.1.2 rfl rfl hK hZ hQ hS hA2) hA2 hP (hd2 _) rfl hl _ rfl (Nat.le_of_ble_eq_true rfl) hS dL_law_1023 ⟨hmc, hms⟩ (fun H locs hQ hP hS => ?_)
  refine lv_icmp_eq (tgt := 1232) hx hb dL_law_1026 (by decide) (fun c1 => ?_) (fun c1 => (gno (gif_f h c1)).elim)
  replace h := gif_t h c1
  exact j1232 x3 z w H locs ls h hP hQ hS (lv_sub hl [0, 1, 2, 3] rfl)
set_option maxHeartbeats 4000000 in
set_option maxRecDepth 100000 in
theorem mlaw_32 {p : Program} {l : Launch} {e : Env} {s : State} {m : MethodId} {below : List Frame} {meth : Method} {c : Code} {b L : Nat} {xs : Nat → Int32} {D : va_G} {cA : Nat → ClassId} {h1 h2 tw mc ms : Nat} (C0 : lw_At p s m meth c b L xs) (hK : va_K D vwCl (gty cA) s) (hZ : gSt tw (gAL s) s s.heap) (hh1 : s.heap.size ≤ h1) (hh2 : h1 + 315 ≤ h2) (hmc : mc ≤ 600000) (hms : ms ≤ 7302250) (K : Int32 → gS → gS → Option Unit) (hK18 : ∀ (x3 : Int32) (z w : gS) (H : Heap) (locs : List Loc) (ls : Array Slot), K x3 z w = some () → va_P D vwCl (gw cA (fun k => h1 + k) shX 315 z) H → va_P D vwCl (gw cA (fun k => h2 + k) shM 22 w) H → va_S (gAL s) s.heap H locs → lv_has ls 4 [(3, .int x3), (0, .ref b), (1, .ref (h1 + 0)), (2, .ref (h2 + 0))] → W p l e room_1 s m #[Value.ref b] below meth c H locs mc ms (lw_Z below #[Value.ref b] s) (F0 m 18 ls [])) (x3 : Int32) (z w : gS) (H : Heap) (locs : List Loc) (ls : Array Slot) (h : f_law_32 xs L K x3 z w = some ()) (hP : va_P D vwCl (gw cA (fun k => h1 + k) shX 315 z) H) (hQ : va_P D vwCl (gw cA (fun k => h2 + k) shM 22 w) H) (hS : va_S (gAL s) s.heap H locs) (hl : lv_has ls 4 [(3, .int x3), (0, .ref b), (1, .ref (h1 + 0)), (2, .ref (h2 + 0))]) : W p l e room_1 s m #[Value.ref b] below meth c H locs mc ms (lw_Z below #[Value.ref b] s) (F0 m 1031 ls []) := by
  obtain ⟨hx, hb, hr, hml, hown, hts0, hX, hbl, hlocks, hgv⟩ := id C0
  have hb : c.code = cL_law := hb
  have hts := hts0
  have hown : s.vm.findClass RL = some m.cls := hown
  have hbA : ¬ gAL s b := Nat.not_le.mpr hbl
  have hG1 : gOk (fun k => h1 + k) 315 := fun i j _ _ e => by have e : h1 + i = h1 + j := e; omega
  have hG2 : gOk (fun k => h2 + k) 22 := fun i j _ _ e => by have e : h2 + i = h2 + j := e; omega
  have hA1 : ∀ q, gA (fun k => h1 + k) 315 q → gAL s q := fun q h => by obtain ⟨k, _, rfl⟩ := h; show s.heap.size ≤ h1 + k; omega
  have hA2 : ∀ q, gA (fun k => h2 + k) 22 q → gAL s q := fun q h => by obtain ⟨k, _, rfl⟩ := h; show s.heap.size ≤ h2 + k; omega
  have j1232 := fun (x3 : Int32) (z w : gS) (H : Heap) (locs : List Loc) (ls : Array Slot) h hP hQ hS hl => law_next (x3 := x3) (z := z) (w := w) (H := H) (locs := locs) (ls := ls) C0 K hK18 h hP hQ hS hl
  have hd1 : ∀ (i : Nat) (q : Nat × va_E), (gw cA (fun k => h2 + k) shM 22 w)[i]? = some q → ¬ gA (fun k => h1 + k) 315 q.1 := fun i q hq h => by obtain ⟨k, hk, e⟩ := h; obtain ⟨h3, h4⟩ := gw_mem hq; have e : h2 + i = h1 + k := h4.symm.trans e; omega
  have hd2 : ∀ (z : gS) (i : Nat) (q : Nat × va_E), (gw cA (fun k => h1 + k) shX 315 z)[i]? = some q → ¬ gA (fun k => h2 + k) 22 q.1 := fun z i q hq h => by obtain ⟨k, hk, e⟩ := h; obtain ⟨h3, h4⟩ := gw_mem hq; have e : h1 + i = h2 + k := h4.symm.trans e; omega
  unfold f_law_32 at h
  refine lv_aload_n hx hb dL_law_1031 rfl (lv_at hl 2 rfl) ?_
  refine lv_aload_n hx hb dL_law_1032 rfl (lv_at hl 1 rfl) ?_
  refine lv_iload_n hx hb dL_law_1033 rfl (lv_at hl 0 rfl) ?_
  refine lv_iconst (v := (nI 1)) hx hb dL_law_1034 (by decide) ?_
  refine lv_iadd hx hb dL_law_1035 ?_
  obtain ⟨hg1, h⟩ := gg_s h
  refine va_sld hx hb hX hbl hbA hS hg1 dL_law_1036 ?_
  refine lv_aload_n hx hb dL_law_1037 rfl (lv_at hl 1 rfl) ?_
  refine lv_iload_n hx hb dL_law_1038 rfl (lv_at hl 0 rfl) ?_
  refine lv_iconst (v := (nI 2)) hx hb dL_law_1039 (by decide) ?_
  refine lv_iadd hx hb dL_law_1040 ?_
  obtain ⟨hg2, h⟩ := gg_s h
  refine va_sld hx hb hX hbl hbA hS hg2 dL_law_1041 ?_
  obtain ⟨q0, hq0, h⟩ := gb_s h
  refine fl_i (As := [.int (xs (x3 + (nI 1)).toNatClampNeg), .int (xs (x3 + (nI 2)).toNatClampNeg)]) (rest := []) ⟨hx, hb, hml, hown, hts⟩ (k_X10_list l D cA (fun k => h1 + k) tw hG1 z (xs (x3 + (nI 1)).toNatClampNeg) (xs (x3 + (nI 2)).toNatClampNeg) q0 hq0) (cwV 2 hts gT_X10_list rfl rfl rfl hdV_X10_list ⟨Nat.le_of_ble_eq_true rfl, Nat.le_of_ble_eq_true rfl⟩) (fl_pre gF10.1.1 gF10.1.2 rfl rfl hK hZ hP hS hA1) hA1 hQ hd1 rfl hl _ rfl (Nat.le_of_ble_eq_true rfl) hS dL_law_1042 ⟨hmc, hms⟩ (fun H locs hP hQ hS => ?_)
  refine lv_aload_n hx hb dL_law_1045 rfl (lv_at hl 3 rfl) ?_
  refine lv_aload_n hx hb dL_law_1046 rfl (lv_at hl 1 rfl) ?_
  refine lv_iload_n hx hb dL_law_1047 rfl (lv_at hl 0 rfl) ?_
  refine lv_iconst (v := (nI 1)) hx hb dL_law_1048 (by decide) ?_
  refine lv_iadd hx hb dL_law_1049 ?_
  obtain ⟨hg3, h⟩ := gg_s h
  refine va_sld hx hb hX hbl hbA hS hg3 dL_law_1050 ?_
  refine lv_aload_n hx hb dL_law_1051 rfl (lv_at hl 1 rfl) ?_
  refine lv_iload_n hx hb dL_law_1052 rfl (lv_at hl 0 rfl) ?_
  refine lv_iconst (v := (nI 2)) hx hb dL_law_1053 (by decide) ?_
  refine lv_iadd hx hb dL_law_1054 ?_
  obtain ⟨hg4, h⟩ := gg_s h
  refine va_sld hx hb hX hbl hbA hS hg4 dL_law_1055 ?_
  obtain ⟨q1, hq1, h⟩ := gb_s h
  refine fl_i (As := [.int (xs (x3 + (nI 1)).toNatClampNeg), .int (xs (x3 + (nI 2)).toNatClampNeg)]) (rest := [.int q0.1]) ⟨hx, hb, hml, hown, hts⟩ (k_X11_list l D cA (fun k => h2 + k) tw hG2 w (xs (x3 + (nI 1)).toNatClampNeg) (xs (x3 + (nI 2)).toNatClampNeg) q1 hq1) (cwV 2 hts gT_X11_list rfl rfl rfl hdV_X11_list ⟨Nat.le_of_ble_eq_true rfl, Nat.le_of_ble_eq_true rfl⟩) (fl_pre gF11.1.1 gF11.1.2 rfl rfl hK hZ hQ hS hA2) hA2 hP (hd2 _) rfl hl _ rfl (Nat.le_of_ble_eq_true rfl) hS dL_law_1056 ⟨hmc, hms⟩ (fun H locs hQ hP hS => ?_)
  refine lv_icmp_eq (tgt := 1232) hx hb dL_law_1059 (by decide) (fun c1 => ?_) (fun c1 => (gno (gif_f h c1)).elim)
  replace h := gif_t h c1
  exact j1232 x3 q0.2 q1.2 H locs ls h hP hQ hS (lv_sub hl [0, 1, 2, 3] rfl)
set_option maxHeartbeats 4000000 in
set_option maxRecDepth 100000 in
theorem mlaw_33 {p : Program} {l : Launch} {e : Env} {s : State} {m : MethodId} {below : List Frame} {meth : Method} {c : Code} {b L : Nat} {xs : Nat → Int32} {D : va_G} {cA : Nat → ClassId} {h1 h2 tw mc ms : Nat} (C0 : lw_At p s m meth c b L xs) (hK : va_K D vwCl (gty cA) s) (hZ : gSt tw (gAL s) s s.heap) (hh1 : s.heap.size ≤ h1) (hh2 : h1 + 315 ≤ h2) (hmc : mc ≤ 600000) (hms : ms ≤ 7302250) (K : Int32 → gS → gS → Option Unit) (hK18 : ∀ (x3 : Int32) (z w : gS) (H : Heap) (locs : List Loc) (ls : Array Slot), K x3 z w = some () → va_P D vwCl (gw cA (fun k => h1 + k) shX 315 z) H → va_P D vwCl (gw cA (fun k => h2 + k) shM 22 w) H → va_S (gAL s) s.heap H locs → lv_has ls 4 [(3, .int x3), (0, .ref b), (1, .ref (h1 + 0)), (2, .ref (h2 + 0))] → W p l e room_1 s m #[Value.ref b] below meth c H locs mc ms (lw_Z below #[Value.ref b] s) (F0 m 18 ls [])) (x3 : Int32) (z w : gS) (H : Heap) (locs : List Loc) (ls : Array Slot) (h : f_law_33 xs L K x3 z w = some ()) (hP : va_P D vwCl (gw cA (fun k => h1 + k) shX 315 z) H) (hQ : va_P D vwCl (gw cA (fun k => h2 + k) shM 22 w) H) (hS : va_S (gAL s) s.heap H locs) (hl : lv_has ls 4 [(3, .int x3), (0, .ref b), (1, .ref (h1 + 0)), (2, .ref (h2 + 0))]) : W p l e room_1 s m #[Value.ref b] below meth c H locs mc ms (lw_Z below #[Value.ref b] s) (F0 m 1064 ls []) := by
  obtain ⟨hx, hb, hr, hml, hown, hts0, hX, hbl, hlocks, hgv⟩ := id C0
  have hb : c.code = cL_law := hb
  have hts := hts0
  have hown : s.vm.findClass RL = some m.cls := hown
  have hbA : ¬ gAL s b := Nat.not_le.mpr hbl
  have hG1 : gOk (fun k => h1 + k) 315 := fun i j _ _ e => by have e : h1 + i = h1 + j := e; omega
  have hG2 : gOk (fun k => h2 + k) 22 := fun i j _ _ e => by have e : h2 + i = h2 + j := e; omega
  have hA1 : ∀ q, gA (fun k => h1 + k) 315 q → gAL s q := fun q h => by obtain ⟨k, _, rfl⟩ := h; show s.heap.size ≤ h1 + k; omega
  have hA2 : ∀ q, gA (fun k => h2 + k) 22 q → gAL s q := fun q h => by obtain ⟨k, _, rfl⟩ := h; show s.heap.size ≤ h2 + k; omega
  have j1232 := fun (x3 : Int32) (z w : gS) (H : Heap) (locs : List Loc) (ls : Array Slot) h hP hQ hS hl => law_next (x3 := x3) (z := z) (w := w) (H := H) (locs := locs) (ls := ls) C0 K hK18 h hP hQ hS hl
  have hd1 : ∀ (i : Nat) (q : Nat × va_E), (gw cA (fun k => h2 + k) shM 22 w)[i]? = some q → ¬ gA (fun k => h1 + k) 315 q.1 := fun i q hq h => by obtain ⟨k, hk, e⟩ := h; obtain ⟨h3, h4⟩ := gw_mem hq; have e : h2 + i = h1 + k := h4.symm.trans e; omega
  have hd2 : ∀ (z : gS) (i : Nat) (q : Nat × va_E), (gw cA (fun k => h1 + k) shX 315 z)[i]? = some q → ¬ gA (fun k => h2 + k) 22 q.1 := fun z i q hq h => by obtain ⟨k, hk, e⟩ := h; obtain ⟨h3, h4⟩ := gw_mem hq; have e : h1 + i = h2 + k := h4.symm.trans e; omega
  unfold f_law_33 at h
  refine lv_aload_n hx hb dL_law_1064 rfl (lv_at hl 2 rfl) ?_
  refine lv_aload_n hx hb dL_law_1065 rfl (lv_at hl 1 rfl) ?_
  refine lv_iload_n hx hb dL_law_1066 rfl (lv_at hl 0 rfl) ?_
  refine lv_iconst (v := (nI 1)) hx hb dL_law_1067 (by decide) ?_
  refine lv_iadd hx hb dL_law_1068 ?_
  obtain ⟨hg1, h⟩ := gg_s h
  refine va_sld hx hb hX hbl hbA hS hg1 dL_law_1069 ?_
  refine lv_aload_n hx hb dL_law_1070 rfl (lv_at hl 1 rfl) ?_
  refine lv_iload_n hx hb dL_law_1071 rfl (lv_at hl 0 rfl) ?_
  refine lv_iconst (v := (nI 2)) hx hb dL_law_1072 (by decide) ?_
  refine lv_iadd hx hb dL_law_1073 ?_
  obtain ⟨hg2, h⟩ := gg_s h
  refine va_sld hx hb hX hbl hbA hS hg2 dL_law_1074 ?_
  refine lv_aload_n hx hb dL_law_1075 rfl (lv_at hl 1 rfl) ?_
  refine lv_iload_n hx hb dL_law_1076 rfl (lv_at hl 0 rfl) ?_
  refine lv_iconst (v := (nI 3)) hx hb dL_law_1077 (by decide) ?_
  refine lv_iadd hx hb dL_law_1078 ?_
  obtain ⟨hg3, h⟩ := gg_s h
  refine va_sld hx hb hX hbl hbA hS hg3 dL_law_1079 ?_
  obtain ⟨q0, hq0, h⟩ := gb_s h
  refine fl_i (As := [.int (xs (x3 + (nI 1)).toNatClampNeg), .int (xs (x3 + (nI 2)).toNatClampNeg), .int (xs (x3 + (nI 3)).toNatClampNeg)]) (rest := []) ⟨hx, hb, hml, hown, hts⟩ (k_X10_put l D cA (fun k => h1 + k) tw hG1 z (xs (x3 + (nI 1)).toNatClampNeg) (xs (x3 + (nI 2)).toNatClampNeg) (xs (x3 + (nI 3)).toNatClampNeg) q0 hq0) (cwV 3 hts gT_X10_put rfl rfl rfl hdV_X10_put ⟨Nat.le_of_ble_eq_true rfl, Nat.le_of_ble_eq_true rfl⟩) (fl_pre gF10.1.1 gF10.1.2 rfl rfl hK hZ hP hS hA1) hA1 hQ hd1 rfl hl _ rfl (Nat.le_of_ble_eq_true rfl) hS dL_law_1080 ⟨hmc, hms⟩ (fun H locs hP hQ hS => ?_)
  refine lv_aload_n hx hb dL_law_1083 rfl (lv_at hl 3 rfl) ?_
  refine lv_aload_n hx hb dL_law_1084 rfl (lv_at hl 1 rfl) ?_
  refine lv_iload_n hx hb dL_law_1085 rfl (lv_at hl 0 rfl) ?_
  refine lv_iconst (v := (nI 1)) hx hb dL_law_1086 (by decide) ?_
  refine lv_iadd hx hb dL_law_1087 ?_
  obtain ⟨hg4, h⟩ := gg_s h
  refine va_sld hx hb hX hbl hbA hS hg4 dL_law_1088 ?_
  refine lv_aload_n hx hb dL_law_1089 rfl (lv_at hl 1 rfl) ?_
  refine lv_iload_n hx hb dL_law_1090 rfl (lv_at hl 0 rfl) ?_
  refine lv_iconst (v := (nI 2)) hx hb dL_law_1091 (by decide) ?_
  refine lv_iadd hx hb dL_law_1092 ?_
  obtain ⟨hg5, h⟩ := gg_s h
  refine va_sld hx hb hX hbl hbA hS hg5 dL_law_1093 ?_
  refine lv_aload_n hx hb dL_law_1094 rfl (lv_at hl 1 rfl) ?_
  refine lv_iload_n hx hb dL_law_1095 rfl (lv_at hl 0 rfl) ?_
  refine lv_iconst (v := (nI 3)) hx hb dL_law_1096 (by decide) ?_
  refine lv_iadd hx hb dL_law_1097 ?_
  obtain ⟨hg6, h⟩ := gg_s h
  refine va_sld hx hb hX hbl hbA hS hg6 dL_law_1098 ?_
  obtain ⟨q1, hq1, h⟩ := gb_s h
  refine fl_i (As := [.int (xs (x3 + (nI 1)).toNatClampNeg), .int (xs (x3 + (nI 2)).toNatClampNeg), .int (xs (x3 + (nI 3)).toNatClampNeg)]) (rest := [.int q0.1]) ⟨hx, hb, hml, hown, hts⟩ (k_X11_put l D cA (fun k => h2 + k) tw hG2 w (xs (x3 + (nI 1)).toNatClampNeg) (xs (x3 + (nI 2)).toNatClampNeg) (xs (x3 + (nI 3)).toNatClampNeg) q1 hq1) (cwV 3 hts gT_X11_put rfl rfl rfl hdV_X11_put ⟨Nat.le_of_ble_eq_true rfl, Nat.le_of_ble_eq_true rfl⟩) (fl_pre gF11.1.1 gF11.1.2 rfl rfl hK hZ hQ hS hA2) hA2 hP (hd2 _) rfl hl _ rfl (Nat.le_of_ble_eq_true rfl) hS dL_law_1099 ⟨hmc, hms⟩ (fun H locs hQ hP hS => ?_)
  refine lv_icmp_eq (tgt := 1232) hx hb dL_law_1102 (by decide) (fun c1 => ?_) (fun c1 => (gno (gif_f h c1)).elim)
  replace h := gif_t h c1
  exact j1232 x3 q0.2 q1.2 H locs ls h hP hQ hS (lv_sub hl [0, 1, 2, 3] rfl)
set_option maxHeartbeats 4000000 in
set_option maxRecDepth 100000 in
theorem mlaw_34 {p : Program} {l : Launch} {e : Env} {s : State} {m : MethodId} {below : List Frame} {meth : Method} {c : Code} {b L : Nat} {xs : Nat → Int32} {D : va_G} {cA : Nat → ClassId} {h1 h2 tw mc ms : Nat} (C0 : lw_At p s m meth c b L xs) (hK : va_K D vwCl (gty cA) s) (hZ : gSt tw (gAL s) s s.heap) (hh1 : s.heap.size ≤ h1) (hh2 : h1 + 315 ≤ h2) (hmc : mc ≤ 600000) (hms : ms ≤ 7302250) (K : Int32 → gS → gS → Option Unit) (hK18 : ∀ (x3 : Int32) (z w : gS) (H : Heap) (locs : List Loc) (ls : Array Slot), K x3 z w = some () → va_P D vwCl (gw cA (fun k => h1 + k) shX 315 z) H → va_P D vwCl (gw cA (fun k => h2 + k) shM 22 w) H → va_S (gAL s) s.heap H locs → lv_has ls 4 [(3, .int x3), (0, .ref b), (1, .ref (h1 + 0)), (2, .ref (h2 + 0))] → W p l e room_1 s m #[Value.ref b] below meth c H locs mc ms (lw_Z below #[Value.ref b] s) (F0 m 18 ls [])) (x3 : Int32) (z w : gS) (H : Heap) (locs : List Loc) (ls : Array Slot) (h : f_law_34 xs L K x3 z w = some ()) (hP : va_P D vwCl (gw cA (fun k => h1 + k) shX 315 z) H) (hQ : va_P D vwCl (gw cA (fun k => h2 + k) shM 22 w) H) (hS : va_S (gAL s) s.heap H locs) (hl : lv_has ls 4 [(3, .int x3), (0, .ref b), (1, .ref (h1 + 0)), (2, .ref (h2 + 0))]) : W p l e room_1 s m #[Value.ref b] below meth c H locs mc ms (lw_Z below #[Value.ref b] s) (F0 m 1107 ls []) := by
  obtain ⟨hx, hb, hr, hml, hown, hts0, hX, hbl, hlocks, hgv⟩ := id C0
  have hb : c.code = cL_law := hb
  have hts := hts0
  have hown : s.vm.findClass RL = some m.cls := hown
  have hbA : ¬ gAL s b := Nat.not_le.mpr hbl
  have hG1 : gOk (fun k => h1 + k) 315 := fun i j _ _ e => by have e : h1 + i = h1 + j := e; omega
  have hG2 : gOk (fun k => h2 + k) 22 := fun i j _ _ e => by have e : h2 + i = h2 + j := e; omega
  have hA1 : ∀ q, gA (fun k => h1 + k) 315 q → gAL s q := fun q h => by obtain ⟨k, _, rfl⟩ := h; show s.heap.size ≤ h1 + k; omega
  have hA2 : ∀ q, gA (fun k => h2 + k) 22 q → gAL s q := fun q h => by obtain ⟨k, _, rfl⟩ := h; show s.heap.size ≤ h2 + k; omega
  have j1232 := fun (x3 : Int32) (z w : gS) (H : Heap) (locs : List Loc) (ls : Array Slot) h hP hQ hS hl => law_next (x3 := x3) (z := z) (w := w) (H := H) (locs := locs) (ls := ls) C0 K hK18 h hP hQ hS hl
  have hd1 : ∀ (i : Nat) (q : Nat × va_E), (gw cA (fun k => h2 + k) shM 22 w)[i]? = some q → ¬ gA (fun k => h1 + k) 315 q.1 := fun i q hq h => by obtain ⟨k, hk, e⟩ := h; obtain ⟨h3, h4⟩ := gw_mem hq; have e : h2 + i = h1 + k := h4.symm.trans e; omega
  have hd2 : ∀ (z : gS) (i : Nat) (q : Nat × va_E), (gw cA (fun k => h1 + k) shX 315 z)[i]? = some q → ¬ gA (fun k => h2 + k) 22 q.1 := fun z i q hq h => by obtain ⟨k, hk, e⟩ := h; obtain ⟨h3, h4⟩ := gw_mem hq; have e : h1 + i = h2 + k := h4.symm.trans e; omega
  unfold f_law_34 at h
  refine lv_aload_n hx hb dL_law_1107 rfl (lv_at hl 2 rfl) ?_
  refine lv_aload_n hx hb dL_law_1108 rfl (lv_at hl 1 rfl) ?_
  refine lv_iload_n hx hb dL_law_1109 rfl (lv_at hl 0 rfl) ?_
  refine lv_iconst (v := (nI 1)) hx hb dL_law_1110 (by decide) ?_
  refine lv_iadd hx hb dL_law_1111 ?_
  obtain ⟨hg1, h⟩ := gg_s h
  refine va_sld hx hb hX hbl hbA hS hg1 dL_law_1112 ?_
  refine lv_aload_n hx hb dL_law_1113 rfl (lv_at hl 1 rfl) ?_
  refine lv_iload_n hx hb dL_law_1114 rfl (lv_at hl 0 rfl) ?_
  refine lv_iconst (v := (nI 2)) hx hb dL_law_1115 (by decide) ?_
  refine lv_iadd hx hb dL_law_1116 ?_
  obtain ⟨hg2, h⟩ := gg_s h
  refine va_sld hx hb hX hbl hbA hS hg2 dL_law_1117 ?_
  obtain ⟨q0, hq0, h⟩ := gb_s h
  refine fl_iR (As := [.int (xs (x3 + (nI 1)).toNatClampNeg), .int (xs (x3 + (nI 2)).toNatClampNeg)]) (rest := []) ⟨hx, hb, hml, hown, hts⟩ (k_X10_get l D cA (fun k => h1 + k) tw hG1 z (xs (x3 + (nI 1)).toNatClampNeg) (xs (x3 + (nI 2)).toNatClampNeg) q0 hq0) (cwV 2 hts gT_X10_get rfl rfl rfl hdV_X10_get ⟨Nat.le_of_ble_eq_true rfl, Nat.le_of_ble_eq_true rfl⟩) (fl_pre gF10.1.1 gF10.1.2 rfl rfl hK hZ hP hS hA1) hA1 hQ hd1 rfl hl _ rfl (Nat.le_of_ble_eq_true rfl) hS dL_law_1118 ⟨hmc, hms⟩ (fun H locs hP hQ hS => ?_)
  refine lv_aload_n hx hb dL_law_1121 rfl (lv_at hl 3 rfl) ?_
  refine lv_aload_n hx hb dL_law_1122 rfl (lv_at hl 1 rfl) ?_
  refine lv_iload_n hx hb dL_law_1123 rfl (lv_at hl 0 rfl) ?_
  refine lv_iconst (v := (nI 1)) hx hb dL_law_1124 (by decide) ?_
  refine lv_iadd hx hb dL_law_1125 ?_
  obtain ⟨hg3, h⟩ := gg_s h
  refine va_sld hx hb hX hbl hbA hS hg3 dL_law_1126 ?_
  refine lv_aload_n hx hb dL_law_1127 rfl (lv_at hl 1 rfl) ?_
  refine lv_iload_n hx hb dL_law_1128 rfl (lv_at hl 0 rfl) ?_
  refine lv_iconst (v := (nI 2)) hx hb dL_law_1129 (by decide) ?_
  refine lv_iadd hx hb dL_law_1130 ?_
  obtain ⟨hg4, h⟩ := gg_s h
  refine va_sld hx hb hX hbl hbA hS hg4 dL_law_1131 ?_
  obtain ⟨q1, hq1, h⟩ := gb_s h
  refine fl_iR (As := [.int (xs (x3 + (nI 1)).toNatClampNeg), .int (xs (x3 + (nI 2)).toNatClampNeg)]) (rest := [.int q0]) ⟨hx, hb, hml, hown, hts⟩ (k_X11_get l D cA (fun k => h2 + k) tw hG2 w (xs (x3 + (nI 1)).toNatClampNeg) (xs (x3 + (nI 2)).toNatClampNeg) q1 hq1) (cwV 2 hts gT_X11_get rfl rfl rfl hdV_X11_get ⟨Nat.le_of_ble_eq_true rfl, Nat.le_of_ble_eq_true rfl⟩) (fl_pre gF11.1.1 gF11.1.2 rfl rfl hK hZ hQ hS hA2) hA2 hP (hd2 _) rfl hl _ rfl (Nat.le_of_ble_eq_true rfl) hS dL_law_1132 ⟨hmc, hms⟩ (fun H locs hQ hP hS => ?_)
  refine lv_icmp_eq (tgt := 1232) hx hb dL_law_1135 (by decide) (fun c1 => ?_) (fun c1 => (gno (gif_f h c1)).elim)
  replace h := gif_t h c1
  exact j1232 x3 z w H locs ls h hP hQ hS (lv_sub hl [0, 1, 2, 3] rfl)
set_option maxHeartbeats 4000000 in
set_option maxRecDepth 100000 in
theorem mlaw_35 {p : Program} {l : Launch} {e : Env} {s : State} {m : MethodId} {below : List Frame} {meth : Method} {c : Code} {b L : Nat} {xs : Nat → Int32} {D : va_G} {cA : Nat → ClassId} {h1 h2 tw mc ms : Nat} (C0 : lw_At p s m meth c b L xs) (hK : va_K D vwCl (gty cA) s) (hZ : gSt tw (gAL s) s s.heap) (hh1 : s.heap.size ≤ h1) (hh2 : h1 + 315 ≤ h2) (hmc : mc ≤ 600000) (hms : ms ≤ 7302250) (K : Int32 → gS → gS → Option Unit) (hK18 : ∀ (x3 : Int32) (z w : gS) (H : Heap) (locs : List Loc) (ls : Array Slot), K x3 z w = some () → va_P D vwCl (gw cA (fun k => h1 + k) shX 315 z) H → va_P D vwCl (gw cA (fun k => h2 + k) shM 22 w) H → va_S (gAL s) s.heap H locs → lv_has ls 4 [(3, .int x3), (0, .ref b), (1, .ref (h1 + 0)), (2, .ref (h2 + 0))] → W p l e room_1 s m #[Value.ref b] below meth c H locs mc ms (lw_Z below #[Value.ref b] s) (F0 m 18 ls [])) (x3 : Int32) (z w : gS) (H : Heap) (locs : List Loc) (ls : Array Slot) (h : f_law_35 xs L K x3 z w = some ()) (hP : va_P D vwCl (gw cA (fun k => h1 + k) shX 315 z) H) (hQ : va_P D vwCl (gw cA (fun k => h2 + k) shM 22 w) H) (hS : va_S (gAL s) s.heap H locs) (hl : lv_has ls 4 [(3, .int x3), (0, .ref b), (1, .ref (h1 + 0)), (2, .ref (h2 + 0))]) : W p l e room_1 s m #[Value.ref b] below meth c H locs mc ms (lw_Z below #[Value.ref b] s) (F0 m 1140 ls []) := by
  obtain ⟨hx, hb, hr, hml, hown, hts0, hX, hbl, hlocks, hgv⟩ := id C0
  have hb : c.code = cL_law := hb
  have hts := hts0
  have hown : s.vm.findClass RL = some m.cls := hown
  have hbA : ¬ gAL s b := Nat.not_le.mpr hbl
  have hG1 : gOk (fun k => h1 + k) 315 := fun i j _ _ e => by have e : h1 + i = h1 + j := e; omega
  have hG2 : gOk (fun k => h2 + k) 22 := fun i j _ _ e => by have e : h2 + i = h2 + j := e; omega
  have hA1 : ∀ q, gA (fun k => h1 + k) 315 q → gAL s q := fun q h => by obtain ⟨k, _, rfl⟩ := h; show s.heap.size ≤ h1 + k; omega
  have hA2 : ∀ q, gA (fun k => h2 + k) 22 q → gAL s q := fun q h => by obtain ⟨k, _, rfl⟩ := h; show s.heap.size ≤ h2 + k; omega
  have j1232 := fun (x3 : Int32) (z w : gS) (H : Heap) (locs : List Loc) (ls : Array Slot) h hP hQ hS hl => law_next (x3 := x3) (z := z) (w := w) (H := H) (locs := locs) (ls := ls) C0 K hK18 h hP hQ hS hl
  have hd1 : ∀ (i : Nat) (q : Nat × va_E), (gw cA (fun k => h2 + k) shM 22 w)[i]? = some q → ¬ gA (fun k => h1 + k) 315 q.1 := fun i q hq h => by obtain ⟨k, hk, e⟩ := h; obtain ⟨h3, h4⟩ := gw_mem hq; have e : h2 + i = h1 + k := h4.symm.trans e; omega
  have hd2 : ∀ (z : gS) (i : Nat) (q : Nat × va_E), (gw cA (fun k => h1 + k) shX 315 z)[i]? = some q → ¬ gA (fun k => h2 + k) 22 q.1 := fun z i q hq h => by obtain ⟨k, hk, e⟩ := h; obtain ⟨h3, h4⟩ := gw_mem hq; have e : h1 + i = h2 + k := h4.symm.trans e; omega
  unfold f_law_35 at h
  refine lv_aload_n hx hb dL_law_1140 rfl (lv_at hl 2 rfl) ?_
  refine lv_aload_n hx hb dL_law_1141 rfl (lv_at hl 1 rfl) ?_
  refine lv_iload_n hx hb dL_law_1142 rfl (lv_at hl 0 rfl) ?_
  refine lv_iconst (v := (nI 1)) hx hb dL_law_1143 (by decide) ?_
  refine lv_iadd hx hb dL_law_1144 ?_
  obtain ⟨hg1, h⟩ := gg_s h
  refine va_sld hx hb hX hbl hbA hS hg1 dL_law_1145 ?_
  refine lv_aload_n hx hb dL_law_1146 rfl (lv_at hl 1 rfl) ?_
  refine lv_iload_n hx hb dL_law_1147 rfl (lv_at hl 0 rfl) ?_
  refine lv_iconst (v := (nI 2)) hx hb dL_law_1148 (by decide) ?_
  refine lv_iadd hx hb dL_law_1149 ?_
  obtain ⟨hg2, h⟩ := gg_s h
  refine va_sld hx hb hX hbl hbA hS hg2 dL_law_1150 ?_
  obtain ⟨q0, hq0, h⟩ := gb_s h
  refine fl_i (As := [.int (xs (x3 + (nI 1)).toNatClampNeg), .int (xs (x3 + (nI 2)).toNatClampNeg)]) (rest := []) ⟨hx, hb, hml, hown, hts⟩ (k_X10_fill l D cA (fun k => h1 + k) tw hG1 z (xs (x3 + (nI 1)).toNatClampNeg) (xs (x3 + (nI 2)).toNatClampNeg) q0 hq0) (cwV 2 hts gT_X10_fill rfl rfl rfl hdV_X10_fill ⟨Nat.le_of_ble_eq_true rfl, Nat.le_of_ble_eq_true rfl⟩) (fl_pre gF10.1.1 gF10.1.2 rfl rfl hK hZ hP hS hA1) hA1 hQ hd1 rfl hl _ rfl (Nat.le_of_ble_eq_true rfl) hS dL_law_1151 ⟨hmc, hms⟩ (fun H locs hP hQ hS => ?_)
  refine lv_aload_n hx hb dL_law_1154 rfl (lv_at hl 3 rfl) ?_
  refine lv_aload_n hx hb dL_law_1155 rfl (lv_at hl 1 rfl) ?_
  refine lv_iload_n hx hb dL_law_1156 rfl (lv_at hl 0 rfl) ?_
  refine lv_iconst (v := (nI 1)) hx hb dL_law_1157 (by decide) ?_
  refine lv_iadd hx hb dL_law_1158 ?_
  obtain ⟨hg3, h⟩ := gg_s h
  refine va_sld hx hb hX hbl hbA hS hg3 dL_law_1159 ?_
  refine lv_aload_n hx hb dL_law_1160 rfl (lv_at hl 1 rfl) ?_
  refine lv_iload_n hx hb dL_law_1161 rfl (lv_at hl 0 rfl) ?_
  refine lv_iconst (v := (nI 2)) hx hb dL_law_1162 (by decide) ?_
  refine lv_iadd hx hb dL_law_1163 ?_
  obtain ⟨hg4, h⟩ := gg_s h
  refine va_sld hx hb hX hbl hbA hS hg4 dL_law_1164 ?_
  obtain ⟨q1, hq1, h⟩ := gb_s h
  refine fl_i (As := [.int (xs (x3 + (nI 1)).toNatClampNeg), .int (xs (x3 + (nI 2)).toNatClampNeg)]) (rest := [.int q0.1]) ⟨hx, hb, hml, hown, hts⟩ (k_X11_fill l D cA (fun k => h2 + k) tw hG2 w (xs (x3 + (nI 1)).toNatClampNeg) (xs (x3 + (nI 2)).toNatClampNeg) q1 hq1) (cwV 2 hts gT_X11_fill rfl rfl rfl hdV_X11_fill ⟨Nat.le_of_ble_eq_true rfl, Nat.le_of_ble_eq_true rfl⟩) (fl_pre gF11.1.1 gF11.1.2 rfl rfl hK hZ hQ hS hA2) hA2 hP (hd2 _) rfl hl _ rfl (Nat.le_of_ble_eq_true rfl) hS dL_law_1165 ⟨hmc, hms⟩ (fun H locs hQ hP hS => ?_)
  refine lv_icmp_eq (tgt := 1232) hx hb dL_law_1168 (by decide) (fun c1 => ?_) (fun c1 => (gno (gif_f h c1)).elim)
  replace h := gif_t h c1
  exact j1232 x3 q0.2 q1.2 H locs ls h hP hQ hS (lv_sub hl [0, 1, 2, 3] rfl)
set_option maxHeartbeats 4000000 in
set_option maxRecDepth 100000 in
theorem mlaw_36 {p : Program} {l : Launch} {e : Env} {s : State} {m : MethodId} {below : List Frame} {meth : Method} {c : Code} {b L : Nat} {xs : Nat → Int32} {D : va_G} {cA : Nat → ClassId} {h1 h2 tw mc ms : Nat} (C0 : lw_At p s m meth c b L xs) (hK : va_K D vwCl (gty cA) s) (hZ : gSt tw (gAL s) s s.heap) (hh1 : s.heap.size ≤ h1) (hh2 : h1 + 315 ≤ h2) (hmc : mc ≤ 600000) (hms : ms ≤ 7302250) (K : Int32 → gS → gS → Option Unit) (hK18 : ∀ (x3 : Int32) (z w : gS) (H : Heap) (locs : List Loc) (ls : Array Slot), K x3 z w = some () → va_P D vwCl (gw cA (fun k => h1 + k) shX 315 z) H → va_P D vwCl (gw cA (fun k => h2 + k) shM 22 w) H → va_S (gAL s) s.heap H locs → lv_has ls 4 [(3, .int x3), (0, .ref b), (1, .ref (h1 + 0)), (2, .ref (h2 + 0))] → W p l e room_1 s m #[Value.ref b] below meth c H locs mc ms (lw_Z below #[Value.ref b] s) (F0 m 18 ls [])) (x3 : Int32) (z w : gS) (H : Heap) (locs : List Loc) (ls : Array Slot) (h : f_law_36 xs L K x3 z w = some ()) (hP : va_P D vwCl (gw cA (fun k => h1 + k) shX 315 z) H) (hQ : va_P D vwCl (gw cA (fun k => h2 + k) shM 22 w) H) (hS : va_S (gAL s) s.heap H locs) (hl : lv_has ls 4 [(3, .int x3), (0, .ref b), (1, .ref (h1 + 0)), (2, .ref (h2 + 0))]) : W p l e room_1 s m #[Value.ref b] below meth c H locs mc ms (lw_Z below #[Value.ref b] s) (F0 m 1173 ls []) := by
  obtain ⟨hx, hb, hr, hml, hown, hts0, hX, hbl, hlocks, hgv⟩ := id C0
  have hb : c.code = cL_law := hb
  have hts := hts0
  have hown : s.vm.findClass RL = some m.cls := hown
  have hbA : ¬ gAL s b := Nat.not_le.mpr hbl
  have hG1 : gOk (fun k => h1 + k) 315 := fun i j _ _ e => by have e : h1 + i = h1 + j := e; omega
  have hG2 : gOk (fun k => h2 + k) 22 := fun i j _ _ e => by have e : h2 + i = h2 + j := e; omega
  have hA1 : ∀ q, gA (fun k => h1 + k) 315 q → gAL s q := fun q h => by obtain ⟨k, _, rfl⟩ := h; show s.heap.size ≤ h1 + k; omega
  have hA2 : ∀ q, gA (fun k => h2 + k) 22 q → gAL s q := fun q h => by obtain ⟨k, _, rfl⟩ := h; show s.heap.size ≤ h2 + k; omega
  have j1232 := fun (x3 : Int32) (z w : gS) (H : Heap) (locs : List Loc) (ls : Array Slot) h hP hQ hS hl => law_next (x3 := x3) (z := z) (w := w) (H := H) (locs := locs) (ls := ls) C0 K hK18 h hP hQ hS hl
  have hd1 : ∀ (i : Nat) (q : Nat × va_E), (gw cA (fun k => h2 + k) shM 22 w)[i]? = some q → ¬ gA (fun k => h1 + k) 315 q.1 := fun i q hq h => by obtain ⟨k, hk, e⟩ := h; obtain ⟨h3, h4⟩ := gw_mem hq; have e : h2 + i = h1 + k := h4.symm.trans e; omega
  have hd2 : ∀ (z : gS) (i : Nat) (q : Nat × va_E), (gw cA (fun k => h1 + k) shX 315 z)[i]? = some q → ¬ gA (fun k => h2 + k) 22 q.1 := fun z i q hq h => by obtain ⟨k, hk, e⟩ := h; obtain ⟨h3, h4⟩ := gw_mem hq; have e : h1 + i = h2 + k := h4.symm.trans e; omega
  unfold f_law_36 at h
  refine lv_aload_n hx hb dL_law_1173 rfl (lv_at hl 2 rfl) ?_
  refine lv_aload_n hx hb dL_law_1174 rfl (lv_at hl 1 rfl) ?_
  refine lv_iload_n hx hb dL_law_1175 rfl (lv_at hl 0 rfl) ?_
  refine lv_iconst (v := (nI 1)) hx hb dL_law_1176 (by decide) ?_
  refine lv_iadd hx hb dL_law_1177 ?_
  obtain ⟨hg1, h⟩ := gg_s h
  refine va_sld hx hb hX hbl hbA hS hg1 dL_law_1178 ?_
  refine lv_aload_n hx hb dL_law_1179 rfl (lv_at hl 1 rfl) ?_
  refine lv_iload_n hx hb dL_law_1180 rfl (lv_at hl 0 rfl) ?_
  refine lv_iconst (v := (nI 2)) hx hb dL_law_1181 (by decide) ?_
  refine lv_iadd hx hb dL_law_1182 ?_
  obtain ⟨hg2, h⟩ := gg_s h
  refine va_sld hx hb hX hbl hbA hS hg2 dL_law_1183 ?_
  obtain ⟨q0, hq0, h⟩ := gb_s h
  refine fl_i (As := [.int (xs (x3 + (nI 1)).toNatClampNeg), .int (xs (x3 + (nI 2)).toNatClampNeg)]) (rest := []) ⟨hx, hb, hml, hown, hts⟩ (k_X10_judge l D cA (fun k => h1 + k) tw hG1 z (xs (x3 + (nI 1)).toNatClampNeg) (xs (x3 + (nI 2)).toNatClampNeg) q0 hq0) (cwV 2 hts gT_X10_judge rfl rfl rfl hdV_X10_judge ⟨Nat.le_of_ble_eq_true rfl, Nat.le_of_ble_eq_true rfl⟩) (fl_pre gF10.1.1 gF10.1.2 rfl rfl hK hZ hP hS hA1) hA1 hQ hd1 rfl hl _ rfl (Nat.le_of_ble_eq_true rfl) hS dL_law_1184 ⟨hmc, hms⟩ (fun H locs hP hQ hS => ?_)
  refine lv_aload_n hx hb dL_law_1187 rfl (lv_at hl 3 rfl) ?_
  refine lv_aload_n hx hb dL_law_1188 rfl (lv_at hl 1 rfl) ?_
  refine lv_iload_n hx hb dL_law_1189 rfl (lv_at hl 0 rfl) ?_
  refine lv_iconst (v := (nI 1)) hx hb dL_law_1190 (by decide) ?_
  refine lv_iadd hx hb dL_law_1191 ?_
  obtain ⟨hg3, h⟩ := gg_s h
  refine va_sld hx hb hX hbl hbA hS hg3 dL_law_1192 ?_
  refine lv_aload_n hx hb dL_law_1193 rfl (lv_at hl 1 rfl) ?_
  refine lv_iload_n hx hb dL_law_1194 rfl (lv_at hl 0 rfl) ?_
  refine lv_iconst (v := (nI 2)) hx hb dL_law_1195 (by decide) ?_
  refine lv_iadd hx hb dL_law_1196 ?_
  obtain ⟨hg4, h⟩ := gg_s h
  refine va_sld hx hb hX hbl hbA hS hg4 dL_law_1197 ?_
  obtain ⟨q1, hq1, h⟩ := gb_s h
  refine fl_i (As := [.int (xs (x3 + (nI 1)).toNatClampNeg), .int (xs (x3 + (nI 2)).toNatClampNeg)]) (rest := [.int q0.1]) ⟨hx, hb, hml, hown, hts⟩ (k_X11_judge l D cA (fun k => h2 + k) tw hG2 w (xs (x3 + (nI 1)).toNatClampNeg) (xs (x3 + (nI 2)).toNatClampNeg) q1 hq1) (cwV 2 hts gT_X11_judge rfl rfl rfl hdV_X11_judge ⟨Nat.le_of_ble_eq_true rfl, Nat.le_of_ble_eq_true rfl⟩) (fl_pre gF11.1.1 gF11.1.2 rfl rfl hK hZ hQ hS hA2) hA2 hP (hd2 _) rfl hl _ rfl (Nat.le_of_ble_eq_true rfl) hS dL_law_1198 ⟨hmc, hms⟩ (fun H locs hQ hP hS => ?_)
  refine lv_icmp_eq (tgt := 1232) hx hb dL_law_1201 (by decide) (fun c1 => ?_) (fun c1 => (gno (gif_f h c1)).elim)
  replace h := gif_t h c1
  exact j1232 x3 q0.2 q1.2 H locs ls h hP hQ hS (lv_sub hl [0, 1, 2, 3] rfl)
set_option maxHeartbeats 4000000 in
set_option maxRecDepth 100000 in
theorem mlaw_37 {p : Program} {l : Launch} {e : Env} {s : State} {m : MethodId} {below : List Frame} {meth : Method} {c : Code} {b L : Nat} {xs : Nat → Int32} {D : va_G} {cA : Nat → ClassId} {h1 h2 tw mc ms : Nat} (C0 : lw_At p s m meth c b L xs) (hK : va_K D vwCl (gty cA) s) (hZ : gSt tw (gAL s) s s.heap) (hh1 : s.heap.size ≤ h1) (hh2 : h1 + 315 ≤ h2) (hmc : mc ≤ 600000) (hms : ms ≤ 7302250) (K : Int32 → gS → gS → Option Unit) (hK18 : ∀ (x3 : Int32) (z w : gS) (H : Heap) (locs : List Loc) (ls : Array Slot), K x3 z w = some () → va_P D vwCl (gw cA (fun k => h1 + k) shX 315 z) H → va_P D vwCl (gw cA (fun k => h2 + k) shM 22 w) H → va_S (gAL s) s.heap H locs → lv_has ls 4 [(3, .int x3), (0, .ref b), (1, .ref (h1 + 0)), (2, .ref (h2 + 0))] → W p l e room_1 s m #[Value.ref b] below meth c H locs mc ms (lw_Z below #[Value.ref b] s) (F0 m 18 ls [])) (x3 : Int32) (z w : gS) (H : Heap) (locs : List Loc) (ls : Array Slot) (h : f_law_37 xs L K x3 z w = some ()) (hP : va_P D vwCl (gw cA (fun k => h1 + k) shX 315 z) H) (hQ : va_P D vwCl (gw cA (fun k => h2 + k) shM 22 w) H) (hS : va_S (gAL s) s.heap H locs) (hl : lv_has ls 4 [(3, .int x3), (0, .ref b), (1, .ref (h1 + 0)), (2, .ref (h2 + 0))]) : W p l e room_1 s m #[Value.ref b] below meth c H locs mc ms (lw_Z below #[Value.ref b] s) (F0 m 1206 ls []) := by
  obtain ⟨hx, hb, hr, hml, hown, hts0, hX, hbl, hlocks, hgv⟩ := id C0
  have hb : c.code = cL_law := hb
  have hts := hts0
  have hown : s.vm.findClass RL = some m.cls := hown
  have hbA : ¬ gAL s b := Nat.not_le.mpr hbl
  have hG1 : gOk (fun k => h1 + k) 315 := fun i j _ _ e => by have e : h1 + i = h1 + j := e; omega
  have hG2 : gOk (fun k => h2 + k) 22 := fun i j _ _ e => by have e : h2 + i = h2 + j := e; omega
  have hA1 : ∀ q, gA (fun k => h1 + k) 315 q → gAL s q := fun q h => by obtain ⟨k, _, rfl⟩ := h; show s.heap.size ≤ h1 + k; omega
  have hA2 : ∀ q, gA (fun k => h2 + k) 22 q → gAL s q := fun q h => by obtain ⟨k, _, rfl⟩ := h; show s.heap.size ≤ h2 + k; omega
  have j1232 := fun (x3 : Int32) (z w : gS) (H : Heap) (locs : List Loc) (ls : Array Slot) h hP hQ hS hl => law_next (x3 := x3) (z := z) (w := w) (H := H) (locs := locs) (ls := ls) C0 K hK18 h hP hQ hS hl
  have hd1 : ∀ (i : Nat) (q : Nat × va_E), (gw cA (fun k => h2 + k) shM 22 w)[i]? = some q → ¬ gA (fun k => h1 + k) 315 q.1 := fun i q hq h => by obtain ⟨k, hk, e⟩ := h; obtain ⟨h3, h4⟩ := gw_mem hq; have e : h2 + i = h1 + k := h4.symm.trans e; omega
  have hd2 : ∀ (z : gS) (i : Nat) (q : Nat × va_E), (gw cA (fun k => h1 + k) shX 315 z)[i]? = some q → ¬ gA (fun k => h2 + k) 22 q.1 := fun z i q hq h => by obtain ⟨k, hk, e⟩ := h; obtain ⟨h3, h4⟩ := gw_mem hq; have e : h1 + i = h2 + k := h4.symm.trans e; omega
  unfold f_law_37 at h
  refine lv_aload_n hx hb dL_law_1206 rfl (lv_at hl 2 rfl) ?_
  obtain ⟨q0, hq0, h⟩ := gb_s h
  refine fl_i (As := []) (rest := []) ⟨hx, hb, hml, hown, hts⟩ (k_X10_image l D cA (fun k => h1 + k) tw hG1 z  q0 hq0) (cwV 0 hts gT_X10_image rfl rfl rfl hdV_X10_image ⟨Nat.le_of_ble_eq_true rfl, Nat.le_of_ble_eq_true rfl⟩) (fl_pre gF10.1.1 gF10.1.2 rfl rfl hK hZ hP hS hA1) hA1 hQ hd1 rfl hl _ rfl (Nat.le_of_ble_eq_true rfl) hS dL_law_1207 ⟨hmc, hms⟩ (fun H locs hP hQ hS => ?_)
  refine lv_aload_n hx hb dL_law_1210 rfl (lv_at hl 3 rfl) ?_
  obtain ⟨q1, hq1, h⟩ := gb_s h
  refine fl_i (As := []) (rest := [.int q0.1]) ⟨hx, hb, hml, hown, hts⟩ (k_X11_image l D cA (fun k => h2 + k) tw hG2 w  q1 hq1) (cwV 0 hts gT_X11_image rfl rfl rfl hdV_X11_image ⟨Nat.le_of_ble_eq_true rfl, Nat.le_of_ble_eq_true rfl⟩) (fl_pre gF11.1.1 gF11.1.2 rfl rfl hK hZ hQ hS hA2) hA2 hP (hd2 _) rfl hl _ rfl (Nat.le_of_ble_eq_true rfl) hS dL_law_1211 ⟨hmc, hms⟩ (fun H locs hQ hP hS => ?_)
  refine lv_icmp_eq (tgt := 1232) hx hb dL_law_1214 (by decide) (fun c1 => ?_) (fun c1 => (gno (gif_f h c1)).elim)
  replace h := gif_t h c1
  exact j1232 x3 q0.2 q1.2 H locs ls h hP hQ hS (lv_sub hl [0, 1, 2, 3] rfl)
set_option maxHeartbeats 4000000 in
set_option maxRecDepth 100000 in
theorem mlaw_38 {p : Program} {l : Launch} {e : Env} {s : State} {m : MethodId} {below : List Frame} {meth : Method} {c : Code} {b L : Nat} {xs : Nat → Int32} {D : va_G} {cA : Nat → ClassId} {h1 h2 tw mc ms : Nat} (C0 : lw_At p s m meth c b L xs) (hK : va_K D vwCl (gty cA) s) (hZ : gSt tw (gAL s) s s.heap) (hh1 : s.heap.size ≤ h1) (hh2 : h1 + 315 ≤ h2) (hmc : mc ≤ 600000) (hms : ms ≤ 7302250) (K : Int32 → gS → gS → Option Unit) (hK18 : ∀ (x3 : Int32) (z w : gS) (H : Heap) (locs : List Loc) (ls : Array Slot), K x3 z w = some () → va_P D vwCl (gw cA (fun k => h1 + k) shX 315 z) H → va_P D vwCl (gw cA (fun k => h2 + k) shM 22 w) H → va_S (gAL s) s.heap H locs → lv_has ls 4 [(3, .int x3), (0, .ref b), (1, .ref (h1 + 0)), (2, .ref (h2 + 0))] → W p l e room_1 s m #[Value.ref b] below meth c H locs mc ms (lw_Z below #[Value.ref b] s) (F0 m 18 ls [])) (x3 : Int32) (z w : gS) (H : Heap) (locs : List Loc) (ls : Array Slot) (h : f_law_38 xs L K x3 z w = some ()) (hP : va_P D vwCl (gw cA (fun k => h1 + k) shX 315 z) H) (hQ : va_P D vwCl (gw cA (fun k => h2 + k) shM 22 w) H) (hS : va_S (gAL s) s.heap H locs) (hl : lv_has ls 4 [(3, .int x3), (0, .ref b), (1, .ref (h1 + 0)), (2, .ref (h2 + 0))]) : W p l e room_1 s m #[Value.ref b] below meth c H locs mc ms (lw_Z below #[Value.ref b] s) (F0 m 1219 ls []) := by
  obtain ⟨hx, hb, hr, hml, hown, hts0, hX, hbl, hlocks, hgv⟩ := id C0
  have hb : c.code = cL_law := hb
  have hts := hts0
  have hown : s.vm.findClass RL = some m.cls := hown
  have hbA : ¬ gAL s b := Nat.not_le.mpr hbl
  have hG1 : gOk (fun k => h1 + k) 315 := fun i j _ _ e => by have e : h1 + i = h1 + j := e; omega
  have hG2 : gOk (fun k => h2 + k) 22 := fun i j _ _ e => by have e : h2 + i = h2 + j := e; omega
  have hA1 : ∀ q, gA (fun k => h1 + k) 315 q → gAL s q := fun q h => by obtain ⟨k, _, rfl⟩ := h; show s.heap.size ≤ h1 + k; omega
  have hA2 : ∀ q, gA (fun k => h2 + k) 22 q → gAL s q := fun q h => by obtain ⟨k, _, rfl⟩ := h; show s.heap.size ≤ h2 + k; omega
  have j1232 := fun (x3 : Int32) (z w : gS) (H : Heap) (locs : List Loc) (ls : Array Slot) h hP hQ hS hl => law_next (x3 := x3) (z := z) (w := w) (H := H) (locs := locs) (ls := ls) C0 K hK18 h hP hQ hS hl
  have hd1 : ∀ (i : Nat) (q : Nat × va_E), (gw cA (fun k => h2 + k) shM 22 w)[i]? = some q → ¬ gA (fun k => h1 + k) 315 q.1 := fun i q hq h => by obtain ⟨k, hk, e⟩ := h; obtain ⟨h3, h4⟩ := gw_mem hq; have e : h2 + i = h1 + k := h4.symm.trans e; omega
  have hd2 : ∀ (z : gS) (i : Nat) (q : Nat × va_E), (gw cA (fun k => h1 + k) shX 315 z)[i]? = some q → ¬ gA (fun k => h2 + k) 22 q.1 := fun z i q hq h => by obtain ⟨k, hk, e⟩ := h; obtain ⟨h3, h4⟩ := gw_mem hq; have e : h1 + i = h2 + k := h4.symm.trans e; omega
  unfold f_law_38 at h
  refine lv_aload_n hx hb dL_law_1219 rfl (lv_at hl 2 rfl) ?_
  obtain ⟨q0, hq0, h⟩ := gb_s h
  refine fl_i (As := []) (rest := []) ⟨hx, hb, hml, hown, hts⟩ (k_X10_undo l D cA (fun k => h1 + k) tw hG1 z  q0 hq0) (cwV 0 hts gT_X10_undo rfl rfl rfl hdV_X10_undo ⟨Nat.le_of_ble_eq_true rfl, Nat.le_of_ble_eq_true rfl⟩) (fl_pre gF10.1.1 gF10.1.2 rfl rfl hK hZ hP hS hA1) hA1 hQ hd1 rfl hl _ rfl (Nat.le_of_ble_eq_true rfl) hS dL_law_1220 ⟨hmc, hms⟩ (fun H locs hP hQ hS => ?_)
  refine lv_aload_n hx hb dL_law_1223 rfl (lv_at hl 3 rfl) ?_
  obtain ⟨q1, hq1, h⟩ := gb_s h
  refine fl_i (As := []) (rest := [.int q0.1]) ⟨hx, hb, hml, hown, hts⟩ (k_X11_undo l D cA (fun k => h2 + k) tw hG2 w  q1 hq1) (cwV 0 hts gT_X11_undo rfl rfl rfl hdV_X11_undo ⟨Nat.le_of_ble_eq_true rfl, Nat.le_of_ble_eq_true rfl⟩) (fl_pre gF11.1.1 gF11.1.2 rfl rfl hK hZ hQ hS hA2) hA2 hP (hd2 _) rfl hl _ rfl (Nat.le_of_ble_eq_true rfl) hS dL_law_1224 ⟨hmc, hms⟩ (fun H locs hQ hP hS => ?_)
  refine lv_icmp_eq (tgt := 1232) hx hb dL_law_1227 (by decide) (fun c1 => ?_) (fun c1 => (gno (gif_f h c1)).elim)
  replace h := gif_t h c1
  exact j1232 x3 q0.2 q1.2 H locs ls h hP hQ hS (lv_sub hl [0, 1, 2, 3] rfl)
set_option maxHeartbeats 4000000 in
set_option maxRecDepth 100000 in
theorem law_loop {p : Program} {l : Launch} {e : Env} {s : State} {m : MethodId} {below : List Frame} {meth : Method} {c : Code} {b L : Nat} {xs : Nat → Int32} {D : va_G} {cA : Nat → ClassId} {h1 h2 tw mc ms : Nat} (C0 : lw_At p s m meth c b L xs) (hK : va_K D vwCl (gty cA) s) (hZ : gSt tw (gAL s) s s.heap) (hh1 : s.heap.size ≤ h1) (hh2 : h1 + 315 ≤ h2) (hmc : mc ≤ 600000) (hms : ms ≤ 7302250) : ∀ (n : Nat) (x3 : Int32) (z w : gS) (H : Heap) (locs : List Loc) (ls : Array Slot), f_law xs L n x3 z w = some () → va_P D vwCl (gw cA (fun k => h1 + k) shX 315 z) H → va_P D vwCl (gw cA (fun k => h2 + k) shM 22 w) H → va_S (gAL s) s.heap H locs → lv_has ls 4 [(3, .int x3), (0, .ref b), (1, .ref (h1 + 0)), (2, .ref (h2 + 0))] → W p l e room_1 s m #[Value.ref b] below meth c H locs mc ms (lw_Z below #[Value.ref b] s) (F0 m 18 ls []) := by
  obtain ⟨hx, hb, hr, hml, hown, hts0, hX, hbl, hlocks, hgv⟩ := id C0
  have hb : c.code = cL_law := hb
  have hts := hts0
  have hown : s.vm.findClass RL = some m.cls := hown
  have hbA : ¬ gAL s b := Nat.not_le.mpr hbl
  have hG1 : gOk (fun k => h1 + k) 315 := fun i j _ _ e => by have e : h1 + i = h1 + j := e; omega
  have hG2 : gOk (fun k => h2 + k) 22 := fun i j _ _ e => by have e : h2 + i = h2 + j := e; omega
  have hA1 : ∀ q, gA (fun k => h1 + k) 315 q → gAL s q := fun q h => by obtain ⟨k, _, rfl⟩ := h; show s.heap.size ≤ h1 + k; omega
  have hA2 : ∀ q, gA (fun k => h2 + k) 22 q → gAL s q := fun q h => by obtain ⟨k, _, rfl⟩ := h; show s.heap.size ≤ h2 + k; omega
  intro n
  induction n with
  | zero => intro x3 z w H locs ls h; exact (gno h).elim
  | succ n ih =>
    intro x3 z w H locs ls h hP hQ hS hl
    replace h : f_law_b xs L (f_law xs L n) x3 z w = some () := h
    unfold f_law_b at h
    refine lv_iload_n hx hb dL_law_18 rfl (lv_at hl 0 rfl) ?_
    refine lv_aload_n hx hb dL_law_19 rfl (lv_at hl 1 rfl) ?_
    refine va_slen hx hb hX hbl hbA hS dL_law_20 ?_
    refine lv_iconst (v := (nI 4)) hx hb dL_law_21 (by decide) ?_
    refine lv_isub hx hb dL_law_22 ?_
    refine lv_icmp_gt (tgt := 1238) hx hb dL_law_23 (by decide) (fun c1 => ?_) (fun c1 => ?_)
    · refine lv_iconst (v := 1) hx hb dL_law_1238 (by decide) ?_
      refine va_forget (fun q hq => hS.2.2 q hq) ?_
      refine W.widen (k := 600000) (n := 7302250) hmc hms ?_
      exact lw_ret hx hb hr hlocks dL_law_1239
    · replace h := gif_f h c1
      obtain ⟨hg, h⟩ := gg_s h
      refine lv_aload_n hx hb dL_law_26 rfl (lv_at hl 1 rfl) ?_
      refine lv_iload_n hx hb dL_law_27 rfl (lv_at hl 0 rfl) ?_
      refine va_sld hx hb hX hbl hbA hS hg dL_law_28 ?_
      refine lv_bipush (v := (nI 63)) hx hb dL_law_29 (by decide) ?_
      refine lv_iand hx hb dL_law_31 ?_
      refine lv_topi (fun y ey => ?_)
      replace h := gl_s h ey
      by_cases c2 : y = (nI 0)
      · replace h := gif_t h c2
        refine lv_tableIn (tgt := 204) hx hb dL_law_32 (by rw [c2]; decide) (by rw [c2]; decide) (by rw [c2]; rfl) (by decide) ?_
        exact mlaw_0 C0 hK hZ hh1 hh2 hmc hms (f_law xs L n) ih x3 z w H locs ls h hP hQ hS hl
      replace h := gif_f h c2
      by_cases c3 : y = (nI 1)
      · replace h := gif_t h c3
        refine lv_tableIn (tgt := 227) hx hb dL_law_32 (by rw [c3]; decide) (by rw [c3]; decide) (by rw [c3]; rfl) (by decide) ?_
        exact mlaw_1 C0 hK hZ hh1 hh2 hmc hms (f_law xs L n) ih x3 z w H locs ls h hP hQ hS hl
      replace h := gif_f h c3
      by_cases c4 : y = (nI 2)
      · replace h := gif_t h c4
        refine lv_tableIn (tgt := 270) hx hb dL_law_32 (by rw [c4]; decide) (by rw [c4]; decide) (by rw [c4]; rfl) (by decide) ?_
        exact mlaw_2 C0 hK hZ hh1 hh2 hmc hms (f_law xs L n) ih x3 z w H locs ls h hP hQ hS hl
      replace h := gif_f h c4
      by_cases c5 : y = (nI 3)
      · replace h := gif_t h c5
        refine lv_tableIn (tgt := 303) hx hb dL_law_32 (by rw [c5]; decide) (by rw [c5]; decide) (by rw [c5]; rfl) (by decide) ?_
        exact mlaw_3 C0 hK hZ hh1 hh2 hmc hms (f_law xs L n) ih x3 z w H locs ls h hP hQ hS hl
      replace h := gif_f h c5
      by_cases c6 : y = (nI 4)
      · replace h := gif_t h c6
        refine lv_tableIn (tgt := 336) hx hb dL_law_32 (by rw [c6]; decide) (by rw [c6]; decide) (by rw [c6]; rfl) (by decide) ?_
        exact mlaw_4 C0 hK hZ hh1 hh2 hmc hms (f_law xs L n) ih x3 z w H locs ls h hP hQ hS hl
      replace h := gif_f h c6
      by_cases c7 : y = (nI 5)
      · replace h := gif_t h c7
        refine lv_tableIn (tgt := 359) hx hb dL_law_32 (by rw [c7]; decide) (by rw [c7]; decide) (by rw [c7]; rfl) (by decide) ?_
        exact mlaw_5 C0 hK hZ hh1 hh2 hmc hms (f_law xs L n) ih x3 z w H locs ls h hP hQ hS hl
      replace h := gif_f h c7
      by_cases c8 : y = (nI 6)
      · replace h := gif_t h c8
        refine lv_tableIn (tgt := 382) hx hb dL_law_32 (by rw [c8]; decide) (by rw [c8]; decide) (by rw [c8]; rfl) (by decide) ?_
        exact mlaw_6 C0 hK hZ hh1 hh2 hmc hms (f_law xs L n) ih x3 z w H locs ls h hP hQ hS hl
      replace h := gif_f h c8
      by_cases c9 : y = (nI 7)
      · replace h := gif_t h c9
        refine lv_tableIn (tgt := 405) hx hb dL_law_32 (by rw [c9]; decide) (by rw [c9]; decide) (by rw [c9]; rfl) (by decide) ?_
        exact mlaw_7 C0 hK hZ hh1 hh2 hmc hms (f_law xs L n) ih x3 z w H locs ls h hP hQ hS hl
      replace h := gif_f h c9
      by_cases c10 : y = (nI 8)
      · replace h := gif_t h c10
        refine lv_tableIn (tgt := 428) hx hb dL_law_32 (by rw [c10]; decide) (by rw [c10]; decide) (by rw [c10]; rfl) (by decide) ?_
        exact mlaw_8 C0 hK hZ hh1 hh2 hmc hms (f_law xs L n) ih x3 z w H locs ls h hP hQ hS hl
      replace h := gif_f h c10
      by_cases c11 : y = (nI 9)
      · replace h := gif_t h c11
        refine lv_tableIn (tgt := 451) hx hb dL_law_32 (by rw [c11]; decide) (by rw [c11]; decide) (by rw [c11]; rfl) (by decide) ?_
        exact mlaw_9 C0 hK hZ hh1 hh2 hmc hms (f_law xs L n) ih x3 z w H locs ls h hP hQ hS hl
      replace h := gif_f h c11
      by_cases c12 : y = (nI 10)
      · replace h := gif_t h c12
        refine lv_tableIn (tgt := 494) hx hb dL_law_32 (by rw [c12]; decide) (by rw [c12]; decide) (by rw [c12]; rfl) (by decide) ?_
        exact mlaw_10 C0 hK hZ hh1 hh2 hmc hms (f_law xs L n) ih x3 z w H locs ls h hP hQ hS hl
      replace h := gif_f h c12
      by_cases c13 : y = (nI 11)
      · replace h := gif_t h c13
        refine lv_tableIn (tgt := 507) hx hb dL_law_32 (by rw [c13]; decide) (by rw [c13]; decide) (by rw [c13]; rfl) (by decide) ?_
        exact mlaw_11 C0 hK hZ hh1 hh2 hmc hms (f_law xs L n) ih x3 z w H locs ls h hP hQ hS hl
      replace h := gif_f h c13
      by_cases c14 : y = (nI 12)
      · replace h := gif_t h c14
        refine lv_tableIn (tgt := 530) hx hb dL_law_32 (by rw [c14]; decide) (by rw [c14]; decide) (by rw [c14]; rfl) (by decide) ?_
        exact mlaw_12 C0 hK hZ hh1 hh2 hmc hms (f_law xs L n) ih x3 z w H locs ls h hP hQ hS hl
      replace h := gif_f h c14
      by_cases c15 : y = (nI 13)
      · replace h := gif_t h c15
        refine lv_tableIn (tgt := 563) hx hb dL_law_32 (by rw [c15]; decide) (by rw [c15]; decide) (by rw [c15]; rfl) (by decide) ?_
        exact mlaw_13 C0 hK hZ hh1 hh2 hmc hms (f_law xs L n) ih x3 z w H locs ls h hP hQ hS hl
      replace h := gif_f h c15
      by_cases c16 : y = (nI 14)
      · replace h := gif_t h c16
        refine lv_tableIn (tgt := 577) hx hb dL_law_32 (by rw [c16]; decide) (by rw [c16]; decide) (by rw [c16]; rfl) (by decide) ?_
        exact mlaw_14 C0 hK hZ hh1 hh2 hmc hms (f_law xs L n) ih x3 z w H locs ls h hP hQ hS hl
      replace h := gif_f h c16
      by_cases c17 : y = (nI 15)
      · replace h := gif_t h c17
        refine lv_tableIn (tgt := 600) hx hb dL_law_32 (by rw [c17]; decide) (by rw [c17]; decide) (by rw [c17]; rfl) (by decide) ?_
        exact mlaw_15 C0 hK hZ hh1 hh2 hmc hms (f_law xs L n) ih x3 z w H locs ls h hP hQ hS hl
      replace h := gif_f h c17
      by_cases c18 : y = (nI 16)
      · replace h := gif_t h c18
        refine lv_tableIn (tgt := 623) hx hb dL_law_32 (by rw [c18]; decide) (by rw [c18]; decide) (by rw [c18]; rfl) (by decide) ?_
        exact mlaw_16 C0 hK hZ hh1 hh2 hmc hms (f_law xs L n) ih x3 z w H locs ls h hP hQ hS hl
      replace h := gif_f h c18
      by_cases c19 : y = (nI 17)
      · replace h := gif_t h c19
        refine lv_tableIn (tgt := 646) hx hb dL_law_32 (by rw [c19]; decide) (by rw [c19]; decide) (by rw [c19]; rfl) (by decide) ?_
        exact mlaw_17 C0 hK hZ hh1 hh2 hmc hms (f_law xs L n) ih x3 z w H locs ls h hP hQ hS hl
      replace h := gif_f h c19
      by_cases c20 : y = (nI 18)
      · replace h := gif_t h c20
        refine lv_tableIn (tgt := 669) hx hb dL_law_32 (by rw [c20]; decide) (by rw [c20]; decide) (by rw [c20]; rfl) (by decide) ?_
        exact mlaw_18 C0 hK hZ hh1 hh2 hmc hms (f_law xs L n) ih x3 z w H locs ls h hP hQ hS hl
      replace h := gif_f h c20
      by_cases c21 : y = (nI 19)
      · replace h := gif_t h c21
        refine lv_tableIn (tgt := 692) hx hb dL_law_32 (by rw [c21]; decide) (by rw [c21]; decide) (by rw [c21]; rfl) (by decide) ?_
        exact mlaw_19 C0 hK hZ hh1 hh2 hmc hms (f_law xs L n) ih x3 z w H locs ls h hP hQ hS hl
      replace h := gif_f h c21
      by_cases c22 : y = (nI 20)
      · replace h := gif_t h c22
        refine lv_tableIn (tgt := 725) hx hb dL_law_32 (by rw [c22]; decide) (by rw [c22]; decide) (by rw [c22]; rfl) (by decide) ?_
        exact mlaw_20 C0 hK hZ hh1 hh2 hmc hms (f_law xs L n) ih x3 z w H locs ls h hP hQ hS hl
      replace h := gif_f h c22
      by_cases c23 : y = (nI 21)
      · replace h := gif_t h c23
        refine lv_tableIn (tgt := 748) hx hb dL_law_32 (by rw [c23]; decide) (by rw [c23]; decide) (by rw [c23]; rfl) (by decide) ?_
        exact mlaw_21 C0 hK hZ hh1 hh2 hmc hms (f_law xs L n) ih x3 z w H locs ls h hP hQ hS hl
      replace h := gif_f h c23
      by_cases c24 : y = (nI 22)
      · replace h := gif_t h c24
        refine lv_tableIn (tgt := 771) hx hb dL_law_32 (by rw [c24]; decide) (by rw [c24]; decide) (by rw [c24]; rfl) (by decide) ?_
        exact mlaw_22 C0 hK hZ hh1 hh2 hmc hms (f_law xs L n) ih x3 z w H locs ls h hP hQ hS hl
      replace h := gif_f h c24
      by_cases c25 : y = (nI 23)
      · replace h := gif_t h c25
        refine lv_tableIn (tgt := 794) hx hb dL_law_32 (by rw [c25]; decide) (by rw [c25]; decide) (by rw [c25]; rfl) (by decide) ?_
        exact mlaw_23 C0 hK hZ hh1 hh2 hmc hms (f_law xs L n) ih x3 z w H locs ls h hP hQ hS hl
      replace h := gif_f h c25
      by_cases c26 : y = (nI 24)
      · replace h := gif_t h c26
        refine lv_tableIn (tgt := 817) hx hb dL_law_32 (by rw [c26]; decide) (by rw [c26]; decide) (by rw [c26]; rfl) (by decide) ?_
        exact mlaw_24 C0 hK hZ hh1 hh2 hmc hms (f_law xs L n) ih x3 z w H locs ls h hP hQ hS hl
      replace h := gif_f h c26
      by_cases c27 : y = (nI 25)
      · replace h := gif_t h c27
        refine lv_tableIn (tgt := 860) hx hb dL_law_32 (by rw [c27]; decide) (by rw [c27]; decide) (by rw [c27]; rfl) (by decide) ?_
        exact mlaw_25 C0 hK hZ hh1 hh2 hmc hms (f_law xs L n) ih x3 z w H locs ls h hP hQ hS hl
      replace h := gif_f h c27
      by_cases c28 : y = (nI 26)
      · replace h := gif_t h c28
        refine lv_tableIn (tgt := 883) hx hb dL_law_32 (by rw [c28]; decide) (by rw [c28]; decide) (by rw [c28]; rfl) (by decide) ?_
        exact mlaw_26 C0 hK hZ hh1 hh2 hmc hms (f_law xs L n) ih x3 z w H locs ls h hP hQ hS hl
      replace h := gif_f h c28
      by_cases c29 : y = (nI 27)
      · replace h := gif_t h c29
        refine lv_tableIn (tgt := 896) hx hb dL_law_32 (by rw [c29]; decide) (by rw [c29]; decide) (by rw [c29]; rfl) (by decide) ?_
        exact mlaw_27 C0 hK hZ hh1 hh2 hmc hms (f_law xs L n) ih x3 z w H locs ls h hP hQ hS hl
      replace h := gif_f h c29
      by_cases c30 : y = (nI 28)
      · replace h := gif_t h c30
        refine lv_tableIn (tgt := 909) hx hb dL_law_32 (by rw [c30]; decide) (by rw [c30]; decide) (by rw [c30]; rfl) (by decide) ?_
        exact mlaw_28 C0 hK hZ hh1 hh2 hmc hms (f_law xs L n) ih x3 z w H locs ls h hP hQ hS hl
      replace h := gif_f h c30
      by_cases c31 : y = (nI 29)
      · replace h := gif_t h c31
        refine lv_tableIn (tgt := 932) hx hb dL_law_32 (by rw [c31]; decide) (by rw [c31]; decide) (by rw [c31]; rfl) (by decide) ?_
        exact mlaw_29 C0 hK hZ hh1 hh2 hmc hms (f_law xs L n) ih x3 z w H locs ls h hP hQ hS hl
      replace h := gif_f h c31
      by_cases c32 : y = (nI 30)
      · replace h := gif_t h c32
        refine lv_tableIn (tgt := 965) hx hb dL_law_32 (by rw [c32]; decide) (by rw [c32]; decide) (by rw [c32]; rfl) (by decide) ?_
        exact mlaw_30 C0 hK hZ hh1 hh2 hmc hms (f_law xs L n) ih x3 z w H locs ls h hP hQ hS hl
      replace h := gif_f h c32
      by_cases c33 : y = (nI 31)
      · replace h := gif_t h c33
        refine lv_tableIn (tgt := 998) hx hb dL_law_32 (by rw [c33]; decide) (by rw [c33]; decide) (by rw [c33]; rfl) (by decide) ?_
        exact mlaw_31 C0 hK hZ hh1 hh2 hmc hms (f_law xs L n) ih x3 z w H locs ls h hP hQ hS hl
      replace h := gif_f h c33
      by_cases c34 : y = (nI 32)
      · replace h := gif_t h c34
        refine lv_tableIn (tgt := 1031) hx hb dL_law_32 (by rw [c34]; decide) (by rw [c34]; decide) (by rw [c34]; rfl) (by decide) ?_
        exact mlaw_32 C0 hK hZ hh1 hh2 hmc hms (f_law xs L n) ih x3 z w H locs ls h hP hQ hS hl
      replace h := gif_f h c34
      by_cases c35 : y = (nI 33)
      · replace h := gif_t h c35
        refine lv_tableIn (tgt := 1064) hx hb dL_law_32 (by rw [c35]; decide) (by rw [c35]; decide) (by rw [c35]; rfl) (by decide) ?_
        exact mlaw_33 C0 hK hZ hh1 hh2 hmc hms (f_law xs L n) ih x3 z w H locs ls h hP hQ hS hl
      replace h := gif_f h c35
      by_cases c36 : y = (nI 34)
      · replace h := gif_t h c36
        refine lv_tableIn (tgt := 1107) hx hb dL_law_32 (by rw [c36]; decide) (by rw [c36]; decide) (by rw [c36]; rfl) (by decide) ?_
        exact mlaw_34 C0 hK hZ hh1 hh2 hmc hms (f_law xs L n) ih x3 z w H locs ls h hP hQ hS hl
      replace h := gif_f h c36
      by_cases c37 : y = (nI 35)
      · replace h := gif_t h c37
        refine lv_tableIn (tgt := 1140) hx hb dL_law_32 (by rw [c37]; decide) (by rw [c37]; decide) (by rw [c37]; rfl) (by decide) ?_
        exact mlaw_35 C0 hK hZ hh1 hh2 hmc hms (f_law xs L n) ih x3 z w H locs ls h hP hQ hS hl
      replace h := gif_f h c37
      by_cases c38 : y = (nI 36)
      · replace h := gif_t h c38
        refine lv_tableIn (tgt := 1173) hx hb dL_law_32 (by rw [c38]; decide) (by rw [c38]; decide) (by rw [c38]; rfl) (by decide) ?_
        exact mlaw_36 C0 hK hZ hh1 hh2 hmc hms (f_law xs L n) ih x3 z w H locs ls h hP hQ hS hl
      replace h := gif_f h c38
      by_cases c39 : y = (nI 37)
      · replace h := gif_t h c39
        refine lv_tableIn (tgt := 1206) hx hb dL_law_32 (by rw [c39]; decide) (by rw [c39]; decide) (by rw [c39]; rfl) (by decide) ?_
        exact mlaw_37 C0 hK hZ hh1 hh2 hmc hms (f_law xs L n) ih x3 z w H locs ls h hP hQ hS hl
      replace h := gif_f h c39
      by_cases c40 : y = (nI 38)
      · replace h := gif_t h c40
        refine lv_tableIn (tgt := 1219) hx hb dL_law_32 (by rw [c40]; decide) (by rw [c40]; decide) (by rw [c40]; rfl) (by decide) ?_
        exact mlaw_38 C0 hK hZ hh1 hh2 hmc hms (f_law xs L n) ih x3 z w H locs ls h hP hQ hS hl
      replace h := gif_f h c40
      refine lv_tableOut (tgt := 1232) hx hb dL_law_32 (by have n2 := gne (w := 0) c2 rfl; have n3 := gne (w := 1) c3 rfl; have n4 := gne (w := 2) c4 rfl; have n5 := gne (w := 3) c5 rfl; have n6 := gne (w := 4) c6 rfl; have n7 := gne (w := 5) c7 rfl; have n8 := gne (w := 6) c8 rfl; have n9 := gne (w := 7) c9 rfl; have n10 := gne (w := 8) c10 rfl; have n11 := gne (w := 9) c11 rfl; have n12 := gne (w := 10) c12 rfl; have n13 := gne (w := 11) c13 rfl; have n14 := gne (w := 12) c14 rfl; have n15 := gne (w := 13) c15 rfl; have n16 := gne (w := 14) c16 rfl; have n17 := gne (w := 15) c17 rfl; have n18 := gne (w := 16) c18 rfl; have n19 := gne (w := 17) c19 rfl; have n20 := gne (w := 18) c20 rfl; have n21 := gne (w := 19) c21 rfl; have n22 := gne (w := 20) c22 rfl; have n23 := gne (w := 21) c23 rfl; have n24 := gne (w := 22) c24 rfl; have n25 := gne (w := 23) c25 rfl; have n26 := gne (w := 24) c26 rfl; have n27 := gne (w := 25) c27 rfl; have n28 := gne (w := 26) c28 rfl; have n29 := gne (w := 27) c29 rfl; have n30 := gne (w := 28) c30 rfl; have n31 := gne (w := 29) c31 rfl; have n32 := gne (w := 30) c32 rfl; have n33 := gne (w := 31) c33 rfl; have n34 := gne (w := 32) c34 rfl; have n35 := gne (w := 33) c35 rfl; have n36 := gne (w := 34) c36 rfl; have n37 := gne (w := 35) c37 rfl; have n38 := gne (w := 36) c38 rfl; have n39 := gne (w := 37) c39 rfl; have n40 := gne (w := 38) c40 rfl; omega) (by decide) ?_
      exact law_next C0 (f_law xs L n) ih h hP hQ hS hl
