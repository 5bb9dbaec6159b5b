/-! constructors: a world that grows. It lies from h0 on, place after place; ce says what stands at each place -/
def gx (h0 n : Nat) (ce : Nat → va_E) : va_W := (List.range n).map fun k => (h0 + k, ce k)
def up1 (ce : Nat → va_E) (k : Nat) (e : va_E) : Nat → va_E := fun j => if j = k then e else ce j
def gB (h0 : Nat) : Nat → Prop := fun q => h0 ≤ q
theorem gx_get {h0 n : Nat} {ce : Nat → va_E} {k : Nat} (hk : k < n) {e : va_E} (he : ce k = e) : (gx h0 n ce)[k]? = some (h0 + k, e) := by
  unfold gx
  rw [List.getElem?_map, List.getElem?_range hk, ← he]
  rfl
theorem gx_mem {h0 n : Nat} {ce : Nat → va_E} {k : Nat} {q : Nat × va_E} (h : (gx h0 n ce)[k]? = some q) : k < n ∧ q = (h0 + k, ce k) := by
  have hk : k < n := by
    have := (List.getElem?_eq_some_iff.mp h).1
    simpa [gx] using this
  rw [gx_get hk rfl] at h
  cases h
  exact ⟨hk, rfl⟩
theorem gx_D {h0 n : Nat} {ce : Nat → va_E} : va_D (gB h0) (gx h0 n ce) := by
  refine ⟨fun i j p q hi hj e => ?_, fun k q hk => ?_⟩
  · obtain ⟨h1, rfl⟩ := gx_mem hi
    obtain ⟨h3, rfl⟩ := gx_mem hj
    have : h0 + i = h0 + j := e
    omega
  · obtain ⟨h1, rfl⟩ := gx_mem hk
    exact Nat.le_add_right _ _
theorem gx_set {h0 n : Nat} {ce : Nat → va_E} {k : Nat} {e : va_E} (hk : k < n) : (gx h0 n ce).set k (h0 + k, e) = gx h0 n (up1 ce k e) := by
  apply List.ext_getElem?
  intro i
  by_cases hi : i = k
  · subst hi
    rw [List.getElem?_set_self (by simp [gx, hk]), gx_get hk (e := e) (by simp [up1])]
  · rw [List.getElem?_set_ne (Ne.symm hi)]
    by_cases hN : i < n
    · rw [gx_get hN rfl, gx_get hN (e := ce i) (by simp [up1, hi])]
    · rw [List.getElem?_eq_none (by simp [gx]; omega), List.getElem?_eq_none (by simp [gx]; omega)]
theorem gx_push {D : va_G} {cl : List vw_C} {h0 n : Nat} {ce : Nat → va_E} {e : va_E} {H H1 : Heap} (hP : va_P D cl (gx h0 n ce) H) (o1 : ∀ q, q < h0 + n → H1[q]? = H[q]?) (he : va_at D cl (h0 + n, e) H1) : va_P D cl (gx h0 (n + 1) (up1 ce n e)) H1 := by
  intro k q hk
  obtain ⟨h1, rfl⟩ := gx_mem hk
  by_cases hn : k = n
  · subst hn
    have : up1 ce k e k = e := by simp [up1]
    rw [this]
    exact he
  · have : up1 ce n e k = ce k := by simp [up1, hn]
    rw [this]
    exact (hP k (h0 + k, ce k) (gx_get (by omega) rfl)).kept (o1 (h0 + k) (by omega))
theorem gx_ext {D : va_G} {cl : List vw_C} {h0 n : Nat} {ce ce' : Nat → va_E} {H : Heap} (hP : va_P D cl (gx h0 n ce) H) (h : ∀ k, k < n → ce' k = ce k) : va_P D cl (gx h0 n ce') H := by
  intro k q hk
  obtain ⟨h1, rfl⟩ := gx_mem hk
  rw [h k h1]
  exact hP k _ (gx_get h1 rfl)
def gNest : List (Nat × MethodName) := [(13, yX5_init), (26, yX3_init), (36, yX6_init), (43, yX0_init), (50, yX9_init), (57, yX7_init), (64, yX4_init), (85, yX8_init), (86, yX1_init)]
/-- what the tables say beside the words -/
def gE (U : State) : Prop := va_AO RX8 U ∧ va_AO RX1 U ∧ (Cond.arrayOver (.array .int)).before #[] U = true ∧ ∀ q ∈ gNest, va_Nw (.methodLinkNest RX10 q.1 q.2 RX10) U
theorem gE_warm {s U : State} (hW : s.WarmedH U.vm) (h : gE s) : gE U := ⟨h.1.moved hW.alike, h.2.1.moved hW.alike, over_moved hW.alike h.2.2.1, fun q hq => (h.2.2.2 q hq).warmM hW⟩
theorem gE_call {U : State} {g : JFrame} {mk : MethodId} {a : Array Value} (h : gE U) : gE (U.calling g mk a) := ⟨h.1.moved (Vm.Alike.refl U.vm), h.2.1.moved (Vm.Alike.refl U.vm), over_moved (u := U) (E := U.calling g mk a) (Vm.Alike.refl U.vm) h.2.2.1, fun q hq => va_Nw.same rfl (rfl : U.vm = (U.calling g mk a).vm) (h.2.2.2 q hq)⟩
def gMc (l : Launch) (y : MethodName) (ws : List Cond) (rm : Room) (D : va_G) (cA : Nat → ClassId) (h0 : Nat) (as : List Value) (n : Nat) (ce : Nat → va_E) (n' : Nat) (ce' : Nat → va_E) (mc ms : Nat) : Prop :=
  Met l y ws rm (va_Pc as (fun U => U.heap.size = h0 + n ∧ va_P D vwCl (gx h0 n ce) U.heap ∧ va_K D vwCl (gty cA) U ∧ gE U)) (va_Qv (fun _ : Unit => True) (fun _ t => t.heap.size = h0 + n' ∧ va_P D vwCl (gx h0 n' ce') t.heap ∧ va_K D vwCl (gty cA) t) (gB h0)) mc ms (gB h0)
section FXR
variable {p : Program} {l : Launch} {e : Env} {R : Room} {s : State} {m : MethodId} {args : Array Value} {below : List Frame} {meth : Method} {c : Code} {H : Heap} {locs : List Loc} {Q : State → Prop}
variable {cc : ByteArray} {pc : Nat} {ls : Array Slot} {rest : List Value} {D : va_G} {cA : Nat → ClassId} {h0 n : Nat} {ce : Nat → va_E} {H0 : Heap} {cells slots : Nat}
theorem fx_S {H1 : Heap} {k : Nat} (hz : H.size = h0 + n) (hS : va_S (gB h0) H0 H locs) (z1 : H1.size = h0 + n + k) (o1 : ∀ q, q < h0 + n → H1[q]? = H[q]?) : va_S (gB h0) H0 H1 locs :=
  ⟨Nat.le_trans hS.1 (by omega), fun x h1 h2 => (o1 x (by have := hS.1; omega)).trans (hS.2.1 x h1 h2), hS.2.2⟩
theorem fx_new (hexec : p.tables.exec = Jvm.exec) (hb : c.code = cc) {own C : String} {T : u_T} {N ci index : Nat} {Ts : List Cond} (hts : ∀ w ∈ Ts, w.before args s = true) (hin : ∀ w ∈ u_ws C T N, w ∈ Ts) {ty : Nat → FieldType} (hty : ∀ k, k < N → parseFieldDescriptor (T k).2.2.1 = some (ty k)) (hown : s.vm.findClass own = some m.cls) (hcl : (Cond.classLink own index C).before args s = true) (hinst : (Cond.instantiable C N).before args s = true) (hini : (Cond.initialized C).before args s = true)
    (hK : va_K D vwCl (gty cA) s) (hz : H.size = h0 + n) (hP : va_P D vwCl (gx h0 n ce) H) (hS : va_S (gB h0) H0 H locs) (hc : vwCl[ci]? = some (C, T, N)) {fs : List Value} (hfs : ∀ j, j < N → defaultValue (ty j) = vp_V fs j) (hcells : cells + 1 ≤ R.cells) (hslots : slots + N ≤ R.slots) (hdg : decode cc pc = .ok (.new index, 3))
    (kk : ∀ (H1 : Heap), H1.size = h0 + (n + 1) → va_P D vwCl (gx h0 (n + 1) (up1 ce n (.inr (ci, fs)))) H1 → va_S (gB h0) H0 H1 locs →
      W p l e R s m args below meth c H1 locs (cells + 1) (slots + N) Q (F0 m (pc + 3) ls (.ref (h0 + n) :: rest))) : W p l e R s m args below meth c H locs cells slots Q (F0 m pc ls rest) := by
  have hKn := hK.1 ci _ hc
  refine W.newcK hexec hb hown hcl hinst hini rfl hdg hcells hslots hKn.2.1 hz fun H1 kC hkC e1 z1 o1 => ?_
  exact kk H1 (by omega) (gx_push hP o1 ⟨_, hc, (u_born ty hts hin hKn hkC e1 hty).to hfs⟩) (fx_S (k := 1) hz hS (by omega) o1)
theorem fx_newa (hexec : p.tables.exec = Jvm.exec) (hb : c.code = cc) {atype : ArrayType} {t : Nat} (hat : (atype = .int ∧ t = 0) ∨ (atype = .boolean ∧ t = 1)) (harr : (Cond.arrayClass (newarray.typeOf atype)).before args s = true)
    (hK : va_K D vwCl (gty cA) s) (hz : H.size = h0 + n) (hP : va_P D vwCl (gx h0 n ce) H) (hS : va_S (gB h0) H0 H locs) {x : Int32} {N : Nat} (hn : ¬ x < 0) (hN : x.toNatClampNeg = N) (hbytes : N * 4 ≤ 536870912) (hcells : cells + 1 ≤ R.cells) (hslots : slots + N ≤ R.slots) (hdg : decode cc pc = .ok (.newarray atype, 2))
    (kk : ∀ (H1 : Heap), H1.size = h0 + (n + 1) → va_P D vwCl (gx h0 (n + 1) (up1 ce n (.inl (cA t, N, .inl (fun _ => 0))))) H1 → va_S (gB h0) H0 H1 locs →
      W p l e R s m args below meth c H1 locs (cells + 1) (slots + N) Q (F0 m (pc + 2) ls (.ref (h0 + n) :: rest))) : W p l e R s m args below meth c H locs cells slots Q (F0 m pc ls (.int x :: rest)) := by
  rcases hat with ⟨rfl, rfl⟩ | ⟨rfl, rfl⟩
  · refine va_newaK hexec hb harr rfl hdg rfl hn hN (by show N * 4 ≤ _; exact hbytes) hcells hslots hz fun H1 cB e1 z1 o1 hAr hNm => ?_
    have hc : cB = cA 0 := by
      have h2 := (hK.2 0 (cA 0, .int) rfl).2
      exact Option.some.inj (hNm.symm.trans h2)
    subst hc
    exact kk H1 (by omega) (gx_push hP o1 e1) (fx_S (k := 1) hz hS (by omega) o1)
  · refine va_newaK hexec hb harr rfl hdg rfl hn hN (by show N * 1 ≤ _; omega) hcells hslots hz fun H1 cB e1 z1 o1 hAr hNm => ?_
    have hc : cB = cA 1 := by
      have h2 := (hK.2 1 (cA 1, .boolean) rfl).2
      exact Option.some.inj (hNm.symm.trans h2)
    subst hc
    exact kk H1 (by omega) (gx_push hP o1 e1) (fx_S (k := 1) hz hS (by omega) o1)
theorem fx_newq (hexec : p.tables.exec = Jvm.exec) (hb : c.code = cc) {own C : String} {index : Nat} (hown : s.vm.findClass own = some m.cls) (hclink : (Cond.classLink own index C).before args s = true) (hover : va_AO C s) {t : Nat} (ht : (gty cA)[t]? = some (cA t, .object C)) (hK : va_K D vwCl (gty cA) s) (hz : H.size = h0 + n) (hP : va_P D vwCl (gx h0 n ce) H) (hS : va_S (gB h0) H0 H locs)
    {x : Int32} {N : Nat} (hn : ¬ x < 0) (hN : x.toNatClampNeg = N) (hbytes : N * 4 ≤ 536870912) (hcells : cells + 1 ≤ R.cells) (hslots : slots + N ≤ R.slots) (hdg : decode cc pc = .ok (.anewarray index, 3))
    (kk : ∀ (H1 : Heap), H1.size = h0 + (n + 1) → va_P D vwCl (gx h0 (n + 1) (up1 ce n (.inl (cA t, N, .inr (.inr (.inr (.inr (fun _ => none)))))))) H1 → va_S (gB h0) H0 H1 locs →
      W p l e R s m args below meth c H1 locs (cells + 1) (slots + N) Q (F0 m (pc + 3) ls (.ref (h0 + n) :: rest))) : W p l e R s m args below meth c H locs cells slots Q (F0 m pc ls (.int x :: rest)) := by
  subst hN
  refine W.anew hexec hb hown hclink (va_AO.use hover) rfl hdg rfl hn hbytes hcells hslots fun cB kA comp f1 f2 f3 f4 => ?_
  generalize hH1 : H.push ({ cls := cB, slots := Array.replicate x.toNatClampNeg .null, vm := .none } : Cell) = H1
  have z1 : H1.size = H.size + 1 := by rw [← hH1, Array.size_push]
  have e1 : H1[H.size]? = some (arrV cB x.toNatClampNeg (fun _ => .null)) := by rw [← hH1, Array.getElem?_push_size, ← arrV_new]
  have o1 : ∀ q : Nat, q < h0 + n → H1[q]? = H[q]? := fun q hq => by rw [← hH1, Array.getElem?_push, if_neg (by omega)]
  have hc : cB = cA t := by
    obtain ⟨kA2, comp2, g1, g2, g3, g4⟩ := (hK.2 t _ ht).2
    exact Option.some.inj (f1.symm.trans g4)
  subst hc
  rw [hz] at e1
  have := kk H1 (by omega) (gx_push hP o1 (by
    show H1[h0 + n]? = some (vp_cell _ _)
    rw [vp_cell_q]
    exact e1)) (fx_S (k := 1) hz hS (by omega) o1)
  rw [← hz] at this
  exact this
theorem fx_putF (hexec : p.tables.exec = Jvm.exec) (hb : c.code = cc) {own ref C : String} {T : u_T} {N ci index : Nat} {Ts : List Cond} (hts : ∀ w ∈ Ts, w.before args s = true) (hin : ∀ w ∈ u_ws C T N, w ∈ Ts) {ty0 : Nat → FieldType} (hty : ∀ k, k < N → parseFieldDescriptor (T k).2.2.1 = some (ty0 k)) (hnm : ∀ a, a < N → ∀ b, b < N → a ≠ b → (T a).2.1 ≠ (T b).2.1) (hown : s.vm.findClass own = some m.cls) (hK : va_K D vwCl (gty cA) s) (hP : va_P D vwCl (gx h0 n ce) H) (hS : va_S (gB h0) H0 H locs) {k : Nat} (hkn : k < n) {fs : List Value} (he : ce k = .inr (ci, fs)) (hc : vwCl[ci]? = some (C, T, N)) (j : Nat) (hj : j < N) (hlink : (Cond.fieldLink own index ref (T j).2.1 (T j).2.2.1).before args s = true) (href : (T j).1 = ref) (hfin : (T j).2.2.2 = true) (hin2 : meth.name = "<init>") (hdecl : (T j).1 = own) {v : Value} (hn : narrow (ty0 j) v = v) (hfit : fits (ty0 j) v = true) (hl : j < fs.length) (hdg : decode cc pc = .ok (.putfield index, 3))
    (kk : ∀ (H1 : Heap) (locs1 : List Loc), H1.size = H.size → va_P D vwCl (gx h0 n (up1 ce k (.inr (ci, fs.set j v)))) H1 → va_S (gB h0) H0 H1 locs1 → W p l e R s m args below meth c H1 locs1 cells slots Q (F0 m (pc + 3) ls rest)) : W p l e R s m args below meth c H locs cells slots Q (F0 m pc ls (v :: .ref (h0 + k) :: rest)) := by
  subst href
  have hap := va_apart (own := own) hts hin ty0 hty hnm hK hc
  have he' := gx_get (h0 := h0) hkn he
  obtain ⟨r, h1, cell, q1, q2, q3, q4⟩ := hP k _ he'
  have hr : r = (C, T, N) := Option.some.inj (h1.symm.trans hc)
  subst hr
  obtain ⟨hSl, hfc, kC, hkC, hkind⟩ := hK.1 ci _ hc
  obtain ⟨cf, kf, fi, f, hi, hsl⟩ := hSl j hj
  have hlay := hts _ (hin _ (u_in_lay hj))
  unfold u_lay at hlay
  rw [if_pos hfin] at hlay
  have hst := (u_facts hfc hkC (u_lays hts hin hj) hi).1
  have hcf : m.cls = cf := by
    obtain ⟨_, _, c', _, _, _, -, -, hf', -, -, -, hown2, -⟩ := Cond.laysFinal_spec hlay
    have e1 : c' = cf := by have := hi.symm.trans hf'; simp at this; exact this.1.symm
    rw [hdecl] at hown2
    rw [← e1]; exact Option.some.inj (hown.symm.trans hown2)
  have h6 := u_fits hfc hkC hkind (Or.inr hlay) hi (hty j hj) hn hfit
  refine W.putFinK hexec hb hown hlink hi hst hcf hin2 (by rw [q2]; exact h6) q1 q3 (by rw [hsl]; exact k2_hasslot (q4 j hj)) rfl rfl hdg fun H' e1 e2 e3 => ?_
  rw [hsl] at e1 ⊢
  have w1 := hP.set gx_D he' (e := .inr (ci, fs.set j v)) ⟨_, hc, t_OB.to (V := updV (vp_V fs) j v) ⟨_, e1, q2, q3, t_set q4 hap hj v⟩ (fun j' _ => vp_updV_set hl v j')⟩ e3
  rw [gx_set hkn] at w1
  exact kk H' _ e2 w1 (hS.put e2 e3 (Nat.le_add_right _ _))
theorem fx_put (hexec : p.tables.exec = Jvm.exec) (hb : c.code = cc) {own ref C : String} {T : u_T} {N ci index : Nat} {Ts : List Cond} (hts : ∀ w ∈ Ts, w.before args s = true) (hin : ∀ w ∈ u_ws C T N, w ∈ Ts) {ty0 : Nat → FieldType} (hty : ∀ k, k < N → parseFieldDescriptor (T k).2.2.1 = some (ty0 k)) (hnm : ∀ a, a < N → ∀ b, b < N → a ≠ b → (T a).2.1 ≠ (T b).2.1) (hown : s.vm.findClass own = some m.cls) (hK : va_K D vwCl (gty cA) s) (hP : va_P D vwCl (gx h0 n ce) H) (hS : va_S (gB h0) H0 H locs) {k : Nat} (hkn : k < n) {fs : List Value} (he : ce k = .inr (ci, fs)) (hc : vwCl[ci]? = some (C, T, N)) (j : Nat) (hj : j < N) (hlink : (Cond.fieldLink own index ref (T j).2.1 (T j).2.2.1).before args s = true) (href : (T j).1 = ref) (hfin : (T j).2.2.2 = false) {v : Value} (hn : narrow (ty0 j) v = v) (hfit : fits (ty0 j) v = true) (hl : j < fs.length) (hdg : decode cc pc = .ok (.putfield index, 3))
    (kk : ∀ (H1 : Heap) (locs1 : List Loc), H1.size = H.size → va_P D vwCl (gx h0 n (up1 ce k (.inr (ci, fs.set j v)))) H1 → va_S (gB h0) H0 H1 locs1 → W p l e R s m args below meth c H1 locs1 cells slots Q (F0 m (pc + 3) ls rest)) : W p l e R s m args below meth c H locs cells slots Q (F0 m pc ls (v :: .ref (h0 + k) :: rest)) := by
  subst href
  have hap := va_apart (own := own) hts hin ty0 hty hnm hK hc
  have he' := gx_get (h0 := h0) hkn he
  obtain ⟨r, h1, cell, q1, q2, q3, q4⟩ := hP k _ he'
  have hr : r = (C, T, N) := Option.some.inj (h1.symm.trans hc)
  subst hr
  obtain ⟨hSl, hfc, kC, hkC, hkind⟩ := hK.1 ci _ hc
  obtain ⟨cf, kf, fi, f, hi, hsl⟩ := hSl j hj
  have hlay := hts _ (hin _ (u_in_lay hj))
  unfold u_lay at hlay
  rw [if_neg (by rw [hfin]; decide)] at hlay
  have hst := (u_facts hfc hkC (u_lays hts hin hj) hi).1
  have h6 := u_store hfc hkC hkind hlay hi (hty j hj) hn hfit
  refine W.putK hexec hb (f := f) ⟨hown, hlink, ⟨_, _, _, hi⟩, hst⟩ (by rw [q2]; exact h6) q1 q3 (by rw [hsl]; exact k2_hasslot (q4 j hj)) rfl rfl hdg fun H' e1 e2 e3 => ?_
  rw [hsl] at e1 ⊢
  have w1 := hP.set gx_D he' (e := .inr (ci, fs.set j v)) ⟨_, hc, t_OB.to (V := updV (vp_V fs) j v) ⟨_, e1, q2, q3, t_set q4 hap hj v⟩ (fun j' _ => vp_updV_set hl v j')⟩ e3
  rw [gx_set hkn] at w1
  exact kk H' _ e2 w1 (hS.put e2 e3 (Nat.le_add_right _ _))
theorem fx_getr (hexec : p.tables.exec = Jvm.exec) (hb : c.code = cc) {own ref C : String} {T : u_T} {N ci index : Nat} {Ts : List Cond} (hts : ∀ w ∈ Ts, w.before args s = true) (hin : ∀ w ∈ u_ws C T N, w ∈ Ts) (hown : s.vm.findClass own = some m.cls) (hK : va_K D vwCl (gty cA) s) (hP : va_P D vwCl (gx h0 n ce) H) {k : Nat} (hkn : k < n) {fs : List Value} (he : ce k = .inr (ci, fs)) (hc : vwCl[ci]? = some (C, T, N)) (j : Nat) (hj : j < N) {v : Value} (hv : fs[j]? = some v) (hlink : (Cond.fieldLink own index ref (T j).2.1 (T j).2.2.1).before args s = true) (href : (T j).1 = ref) (hdg : decode cc pc = .ok (.getfield index, 3))
    (kk : W p l e R s m args below meth c H locs cells slots Q (F0 m (pc + 3) ls (v :: rest))) : W p l e R s m args below meth c H locs cells slots Q (F0 m pc ls (.ref (h0 + k) :: rest)) := by
  subst href
  exact va_get hexec hb hts hin hown hK hP k (gx_get hkn he) hc j hj hlink (fun _ h => h) hv hdg kk
theorem fx_iast (hexec : p.tables.exec = Jvm.exec) (hb : c.code = cc) (hK : va_K D vwCl (gty cA) s) (hP : va_P D vwCl (gx h0 n ce) H) (hS : va_S (gB h0) H0 H locs) {k : Nat} (hkn : k < n) {N : Nat} {f : Nat → Int32} (he : ce k = .inl (cA 0, N, .inl f)) {i v : Int32} (hin : vp_in i N) (hdg : decode cc pc = .ok (.iastore, 1))
    (kk : ∀ (H1 : Heap) (locs1 : List Loc), H1.size = H.size → va_P D vwCl (gx h0 n (up1 ce k (.inl (cA 0, N, .inl (upd f i.toNatClampNeg v))))) H1 → va_S (gB h0) H0 H1 locs1 → W p l e R s m args below meth c H1 locs1 cells slots Q (F0 m (pc + 1) ls rest)) : W p l e R s m args below meth c H locs cells slots Q (F0 m pc ls (.int v :: .int i :: .ref (h0 + k) :: rest)) := by
  have he' := gx_get (h0 := h0) hkn he
  have ht : (gty cA)[0]? = some (cA 0, .int) := rfl
  refine W.iast hexec hb (hP k _ he') ((hK.2 0 _ ht).1 N (fun j => .int (f j))) (fun q => by cases q) (by show ¬ (i < 0 ∨ (arrV _ _ _).slots.size ≤ _); rw [arrV_size]; exact hin) rfl rfl hdg fun H1 e z oq => ?_
  have w1 := hP.set gx_D he' (e := .inl (cA 0, N, .inl (upd f i.toNatClampNeg v))) (by
    show H1[h0 + k]? = some (vp_cell _ _)
    rw [e, vp_cell_i, vp_cell_i, arrV_store]
    congr 2
    funext q
    by_cases hq : q = i.toNatClampNeg
    · subst hq
      simp [updV, upd]
    · simp [updV, upd, hq]) oq
  rw [gx_set hkn] at w1
  exact kk H1 _ z w1 (hS.put z oq (Nat.le_add_right _ _))
theorem fx_aast (hexec : p.tables.exec = Jvm.exec) (hb : c.code = cc) (hK : va_K D vwCl (gty cA) s) (hP : va_P D vwCl (gx h0 n ce) H) (hS : va_S (gB h0) H0 H locs) {k : Nat} (hkn : k < n) {t N : Nat} {f : Nat → Option Nat} (he : ce k = .inl (cA t, N, .inr (.inr (.inr (.inr f))))) {r : vw_C} (ht : (gty cA)[t]? = some (cA t, .object r.1)) {kv ci : Nat} {vs : List Value} (hkv : kv < n) (hv : ce kv = .inr (ci, vs)) (hc : vwCl[ci]? = some r) {i : Int32} (hin : vp_in i N) (hdg : decode cc pc = .ok (.aastore, 1))
    (kk : ∀ (H1 : Heap) (locs1 : List Loc), H1.size = H.size → va_P D vwCl (gx h0 n (up1 ce k (.inl (cA t, N, .inr (.inr (.inr (.inr (va_up f i.toNatClampNeg (some (h0 + kv))))))))))  H1 → va_S (gB h0) H0 H1 locs1 → W p l e R s m args below meth c H1 locs1 cells slots Q (F0 m (pc + 1) ls rest)) : W p l e R s m args below meth c H locs cells slots Q (F0 m pc ls (.ref (h0 + kv) :: .int i :: .ref (h0 + k) :: rest)) := by
  have hlt : i.toNatClampNeg < N := Nat.not_le.mp fun q => hin (Or.inr q)
  have hn0 : ¬ i < 0 := fun q => hin (Or.inl q)
  have he' := gx_get (h0 := h0) hkn he
  obtain ⟨r', hr', cellV, g1, g2, g3, -⟩ := hP kv _ (gx_get hkv hv)
  have hcls := (hK.1 ci r hc).2
  obtain ⟨kA, comp, k1, k2, k3, -⟩ := (hK.2 t _ ht).2
  have hcomp : comp = D.1 ci := Option.some.inj (k3.symm.trans hcls.1)
  subst hcomp
  obtain ⟨kC, hkC, -⟩ := hcls.2
  refine W.aast hexec hb (hP k _ he') (fun q h => by cases h) (fun h => by cases h) k1 k2 rfl hkC ⟨hn0, by show _ < (arrV _ _ _).slots.size; rw [arrV_size]; exact hlt⟩ g1 (fun q h => by rw [g3] at h; cases h) (by rw [g2]; exact hkC) (by rw [g2]; exact va_assign hcls) rfl rfl hdg fun H1 e z oq => ?_
  have w1 := hP.set gx_D he' (e := .inl (cA t, N, .inr (.inr (.inr (.inr (va_up f i.toNatClampNeg (some (h0 + kv)))))))) (by
    show H1[h0 + k]? = some (vp_cell _ _)
    rw [e, vp_cell_q, vp_cell_q, arrV_store]
    congr 2
    funext q
    by_cases hq : q = i.toNatClampNeg
    · subst hq
      simp [updV, va_up, va_rf]
    · simp [updV, va_up, hq]) oq
  rw [gx_set hkn] at w1
  exact kk H1 _ z w1 (hS.put z oq (Nat.le_add_right _ _))
theorem fx_vret (hexec : p.tables.exec = Jvm.exec) (hb : c.code = cc) (hr : meth.sig.returnType = none) (hlocks : meth.locks = false) (hz : H.size = h0 + n) (hK : va_K D vwCl (gty cA) s) {ce' : Nat → va_E} (hce : ∀ k, k < n → ce' k = ce k) (hP : va_P D vwCl (gx h0 n ce) H) (hS : va_S (gB h0) s.heap H locs) (hdg : decode cc pc = .ok (.return_, 1)) :
    W p l e R s m args below meth c H locs cells slots (MQ below (va_Qv (fun _ : Unit => True) (fun _ t => t.heap.size = h0 + n ∧ va_P D vwCl (gx h0 n ce') t.heap ∧ va_K D vwCl (gty cA) t) (gB h0)) args s cells slots (gB h0)) (F0 m pc ls []) :=
  W.vret hexec hb hr (fun t ht hW => ⟨⟨(), rfl, trivial, by rw [ht]; exact hz, by rw [ht]; exact gx_ext hP hce, va_K.moved hW.alike hK⟩, hS.F ht⟩) hS.2.2 hdg hlocks
theorem fx_call {y : MethodName} {bytes : ByteArray} {maxL nL index nA mc ms n' : Nat} {ws : List Cond} {rm : Room} {Ts : List Cond} {own : String} {As : List Value} {b : Addr} {ce' : Nat → va_E} {H0 : Heap} (S : CallFix p m c cc nL s args Ts own) (hM : gMc l y ws rm D cA h0 (.ref b :: As) n ce n' ce' mc ms) (cw : CallB R s args own index y bytes maxL none ws rm mc ms nA ∧ y.name = "<init>" ∧ (Cond.instanceMethod y).before args s = true) (hK : va_K D vwCl (gty cA) s) (hE : gE s) (hz : H.size = h0 + n) (hP : va_P D vwCl (gx h0 n ce) H) (hS : va_S (gB h0) H0 H locs) (hn : As.length = nA) {lv : List (Nat × Value)} (hl : lv_has ls nL lv) (st0 : List Value) (hst : st0 = As.reverse ++ .ref b :: rest) (hW : (rest.map fun v => v.category).sum ≤ 8) (hdg : decode cc pc = .ok (.invokespecial index, 3)) (hcs : cells + mc ≤ R.cells ∧ slots + ms ≤ R.slots)
    (kk : ∀ (H1 : Heap) (locs1 : List Loc), H1.size = h0 + n' → va_P D vwCl (gx h0 n' ce') H1 → va_S (gB h0) H0 H1 locs1 → W p l e R s m args below meth c H1 locs1 (cells + mc) (slots + ms) Q (F0 m (pc + 3) ls rest)) : W p l e R s m args below meth c H locs cells slots Q (F0 m pc ls st0) := by
  refine va_callv (va_runI (rest := rest) S hM cw ⟨fun a U g mk q => ⟨q.1, q.2.1, q.2.2.1, va_K.moved (u := U) (U := U.calling g mk a) (Vm.Alike.refl U.vm) q.2.2.2.1, gE_call q.2.2.2.2⟩, fun U hU hW => ⟨rfl, by rw [hU]; exact hz, by rw [hU]; exact hP, va_K.moved hW.alike hK, gE_warm hW hE⟩⟩ rfl hn hl.1 hst (lv_room hW) hdg hcs) hS (fun q _ h => h) (fun q h => h) (fun u t H1 locs1 ht hvm hw hB hz1 hk1 hS1 => ?_)
  exact kk H1 locs1 (by rw [← ht]; exact hB.1) (by rw [← ht]; exact hB.2.1) hS1
theorem fx_callN {y : MethodName} {bytes : ByteArray} {maxL nL index nA mc ms n' : Nat} {ws : List Cond} {rm : Room} {Ts : List Cond} {own : String} {As : List Value} {b : Addr} {ce' : Nat → va_E} {H0 : Heap} (S : CallFix p m c cc nL s args Ts own) (hM : gMc l y ws rm D cA h0 (.ref b :: As) n ce n' ce' mc ms) {host : String} (cw : va_CN R s args own index y host bytes maxL none ws rm mc ms nA ∧ y.name = "<init>" ∧ (Cond.instanceMethod y).before args s = true) (hK : va_K D vwCl (gty cA) s) (hE : gE s) (hz : H.size = h0 + n) (hP : va_P D vwCl (gx h0 n ce) H) (hS : va_S (gB h0) H0 H locs) (hn : As.length = nA) {lv : List (Nat × Value)} (hl : lv_has ls nL lv) (st0 : List Value) (hst : st0 = As.reverse ++ .ref b :: rest) (hW : (rest.map fun v => v.category).sum ≤ 8) (hdg : decode cc pc = .ok (.invokespecial index, 3)) (hcs : cells + mc ≤ R.cells ∧ slots + ms ≤ R.slots)
    (kk : ∀ (H1 : Heap) (locs1 : List Loc), H1.size = h0 + n' → va_P D vwCl (gx h0 n' ce') H1 → va_S (gB h0) H0 H1 locs1 → W p l e R s m args below meth c H1 locs1 (cells + mc) (slots + ms) Q (F0 m (pc + 3) ls rest)) : W p l e R s m args below meth c H locs cells slots Q (F0 m pc ls st0) := by
  refine va_callv (va_runIN (rest := rest) S hM cw ⟨fun a U g mk q => ⟨q.1, q.2.1, q.2.2.1, va_K.moved (u := U) (U := U.calling g mk a) (Vm.Alike.refl U.vm) q.2.2.2.1, gE_call q.2.2.2.2⟩, fun U hU hW => ⟨rfl, by rw [hU]; exact hz, by rw [hU]; exact hP, va_K.moved hW.alike hK, gE_warm hW hE⟩⟩ rfl hn hl.1 hst (lv_room hW) hdg hcs) hS (fun q _ h => h) (fun q h => h) (fun u t H1 locs1 ht hvm hw hB hz1 hk1 hS1 => ?_)
  exact kk H1 locs1 (by rw [← ht]; exact hB.1) (by rw [← ht]; exact hB.2.1) hS1
end FXR
