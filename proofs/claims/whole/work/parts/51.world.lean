/-! THE WORLD AS A FUNCTION. A layout 'sh' says what stands at each place (an object with its fields, or an array); 'ad' the address of a place; s0 : place → slot → number what the ints there are. -/
abbrev gSh : Type := (Nat × List (Option Nat)) ⊕ (Nat × Nat × Nat × Nat)
def gfs (ad : Nat → Nat) (f : Nat → Int32) (fl : List (Option Nat)) : List Value := (List.range fl.length).map fun j => match fl[j]? with
  | some (some q) => .ref (ad q)
  | _ => .int (f j)
def gce (cA : Nat → ClassId) (ad : Nat → Nat) (f : Nat → Int32) (x : gSh) : va_E := match x with
  | .inl (ci, fl) => .inr (ci, gfs ad f fl)
  | .inr (t, n, b, st) => if t < 2 then .inl (cA t, n, .inl f) else .inl (cA t, n, .inr (.inr (.inr (.inr (fun i => if i < n then some (ad (b + st * i)) else none)))))
def gw (cA : Nat → ClassId) (ad : Nat → Nat) (sh : Nat → gSh) (N : Nat) (z : gS) : va_W := (List.range N).map fun k => (ad k, gce cA ad (z k) (sh k))
def gA (ad : Nat → Nat) (N : Nat) : Nat → Prop := fun q => ∃ k, k < N ∧ q = ad k
def gty (cA : Nat → ClassId) : List (ClassId × FieldType) := [(cA 0, .int), (cA 1, .boolean), (cA 2, .array .int), (cA 3, .object "FindOrder$Tray"), (cA 4, .object "FindOrder$Items")]
def gSt (tw : Nat) (A : Nat → Prop) (U : State) (H : Heap) : Prop := va_Z "FindOrder$Names" "WORTH" "[I" (.ref tw) A U H ∧ va_T .int tw 6 (fun j => .int (gWo j)) A U H
def gPr (D : va_G) (cA : Nat → ClassId) (ad : Nat → Nat) (tw : Nat) (sh : Nat → gSh) (N : Nat) (z : gS) (U : State) : Prop :=
  va_P D vwCl (gw cA ad sh N z) U.heap ∧ va_K D vwCl (gty cA) U ∧ gSt tw (gA ad N) U U.heap
def gOk (ad : Nat → Nat) (N : Nat) : Prop := ∀ i j, i < N → j < N → ad i = ad j → i = j
abbrev gRm (fr lo : Nat) : Room := { frames := fr, cells := 0, slots := 0, locals := lo }
def gMi (l : Launch) (y : MethodName) (ws : List Cond) (rm : Room) (D : va_G) (cA : Nat → ClassId) (ad : Nat → Nat) (tw : Nat) (sh : Nat → gSh) (N : Nat) (as : List Value) (z : gS) (res : Int32 × gS) : Prop :=
  Met l y ws rm (va_Pc as (gPr D cA ad tw sh N z)) (va_Qi (fun r u => (r, u) = res) (gPr D cA ad tw sh N) (gA ad N)) 0 0 (gA ad N)
def gMl (l : Launch) (y : MethodName) (ws : List Cond) (rm : Room) (D : va_G) (cA : Nat → ClassId) (ad : Nat → Nat) (tw : Nat) (sh : Nat → gSh) (N : Nat) (as : List Value) (z : gS) (res : Int64 × gS) : Prop :=
  Met l y ws rm (va_Pc as (gPr D cA ad tw sh N z)) (va_Ql (fun r u => (r, u) = res) (gPr D cA ad tw sh N) (gA ad N)) 0 0 (gA ad N)
def gMv (l : Launch) (y : MethodName) (ws : List Cond) (rm : Room) (D : va_G) (cA : Nat → ClassId) (ad : Nat → Nat) (tw : Nat) (sh : Nat → gSh) (N : Nat) (as : List Value) (z : gS) (res : gS) : Prop :=
  Met l y ws rm (va_Pc as (gPr D cA ad tw sh N z)) (va_Qv (fun u => u = res) (gPr D cA ad tw sh N) (gA ad N)) 0 0 (gA ad N)
/-- the answer is the object at a place -/
def gMr (l : Launch) (y : MethodName) (ws : List Cond) (rm : Room) (D : va_G) (cA : Nat → ClassId) (ad : Nat → Nat) (tw : Nat) (sh : Nat → gSh) (N : Nat) (as : List Value) (z : gS) (k : Nat) (res : gS) : Prop :=
  Met l y ws rm (va_Pc as (gPr D cA ad tw sh N z)) (va_Qr (fun u => u = res) (fun u a t => a = ad k ∧ gPr D cA ad tw sh N u t) (gA ad N)) 0 0 (gA ad N)
theorem gne {x k : Int32} {w : Int} (h : ¬ x = k) (hk : k.toInt = w) : x.toInt ≠ w := fun e => h (Int32.toInt_inj.mp (e.trans hk.symm))
theorem gnar {v : Int32} (h : v = 0 ∨ v = 1) : narrow .boolean (.int v) = .int v := by
  rcases h with rfl | rfl <;> rfl
theorem gfit {v : Int32} (h : v = 0 ∨ v = 1) : fits .boolean (.int v) = true := by
  rcases h with rfl | rfl <;> rfl
theorem gvn {v : Int32} (h : v = 0 ∨ v = 1) : vp_nar .boolean v = v := by
  rcases h with rfl | rfl <;> rfl
/-! the world's list -/
theorem gw_get {cA : Nat → ClassId} {ad : Nat → Nat} {sh : Nat → gSh} {N : Nat} {z : gS} {k : Nat} (hk : k < N) {x : gSh} (hx : sh k = x) : (gw cA ad sh N z)[k]? = some (ad k, gce cA ad (z k) x) := by
  unfold gw
  rw [List.getElem?_map, List.getElem?_range hk, ← hx]
  rfl
theorem gw_set {cA : Nat → ClassId} {ad : Nat → Nat} {sh : Nat → gSh} {N : Nat} {z z' : gS} {k : Nat} (hk : k < N) {x : gSh} (hx : sh k = x) {e : va_E} (he : e = gce cA ad (z' k) x) (ho : ∀ a, a ≠ k → z' a = z a) : (gw cA ad sh N z).set k (ad k, e) = gw cA ad sh N z' := by
  apply List.ext_getElem?
  intro i
  subst he
  by_cases hi : i = k
  · subst hi
    rw [List.getElem?_set_self (by simp [gw, hk]), gw_get hk hx]
  · rw [List.getElem?_set_ne (Ne.symm hi)]
    by_cases hN : i < N
    · rw [gw_get hN rfl, gw_get hN rfl, ho i hi]
    · rw [List.getElem?_eq_none (by simp [gw]; omega), List.getElem?_eq_none (by simp [gw]; omega)]
theorem gw_mem {cA : Nat → ClassId} {ad : Nat → Nat} {sh : Nat → gSh} {N : Nat} {z : gS} {k : Nat} {q : Nat × va_E} (h : (gw cA ad sh N z)[k]? = some q) : k < N ∧ q.1 = ad k := by
  have hk : k < N := by
    have := (List.getElem?_eq_some_iff.mp h).1
    simpa [gw] using this
  rw [gw_get hk rfl] at h
  cases h
  exact ⟨hk, rfl⟩
theorem gw_D {cA : Nat → ClassId} {ad : Nat → Nat} {sh : Nat → gSh} {N : Nat} {z : gS} (hG : gOk ad N) : va_D (gA ad N) (gw cA ad sh N z) := by
  refine ⟨fun i j p q hi hj e => ?_, fun k q hk => ?_⟩
  · obtain ⟨h1, h2⟩ := gw_mem hi
    obtain ⟨h3, h4⟩ := gw_mem hj
    exact hG i j h1 h3 (by rw [← h2, ← h4, e])
  · obtain ⟨h1, h2⟩ := gw_mem hk
    exact ⟨k, h1, h2⟩
theorem gfs_len (ad : Nat → Nat) (f : Nat → Int32) (fl : List (Option Nat)) : (gfs ad f fl).length = fl.length := by simp [gfs]
theorem gfs_i {ad : Nat → Nat} {f : Nat → Int32} {fl : List (Option Nat)} {j : Nat} (h : fl[j]? = some none) : (gfs ad f fl)[j]? = some (.int (f j)) := by
  have hj := (List.getElem?_eq_some_iff.mp h).1
  unfold gfs
  rw [List.getElem?_map, List.getElem?_range hj]
  simp [h]
theorem gfs_r {ad : Nat → Nat} {f : Nat → Int32} {fl : List (Option Nat)} {j q : Nat} (h : fl[j]? = some (some q)) : (gfs ad f fl)[j]? = some (.ref (ad q)) := by
  have hj := (List.getElem?_eq_some_iff.mp h).1
  unfold gfs
  rw [List.getElem?_map, List.getElem?_range hj]
  simp [h]
theorem gfs_set {ad : Nat → Nat} {f : Nat → Int32} {fl : List (Option Nat)} {j : Nat} {v : Int32} (h : fl[j]? = some none) : (gfs ad f fl).set j (.int v) = gfs ad (fun b => if b = j then v else f b) fl := by
  have hj := (List.getElem?_eq_some_iff.mp h).1
  apply List.ext_getElem?
  intro i
  by_cases hi : i = j
  · subst hi
    rw [List.getElem?_set_self (by rw [gfs_len]; exact hj), gfs_i h]
    simp
  · rw [List.getElem?_set_ne (Ne.symm hi)]
    by_cases hN : i < fl.length
    · unfold gfs
      rw [List.getElem?_map, List.getElem?_map, List.getElem?_range hN]
      simp [hi]
    · rw [List.getElem?_eq_none (by rw [gfs_len]; omega), List.getElem?_eq_none (by rw [gfs_len]; omega)]
section GRW
variable {p : Program} {l : Launch} {e : Env} {R : Room} {s : State} {m : MethodId} {args : Array Value} {below : List Frame} {meth : Method} {c : Code} {H : Heap} {locs : List Loc} {Q : State → Prop}
variable {cc : ByteArray} {pc : Nat} {ls : Array Slot} {rest : List Value} {D : va_G} {cA : Nat → ClassId} {ad : Nat → Nat} {tw : Nat} {sh : Nat → gSh} {N : Nat} {z : gS} {H0 : Heap} {cells slots : Nat}
theorem fw_geti (hexec : p.tables.exec = Jvm.exec) (hb : c.code = cc) {own ref C : String} {T : u_T} {M ci index : Nat} {Ts : List Cond} (hts : ∀ w ∈ Ts, w.before args s = true) (hin : ∀ w ∈ u_ws C T M, w ∈ Ts) (hown : s.vm.findClass own = some m.cls) (hK : va_K D vwCl (gty cA) s) (hP : va_P D vwCl (gw cA ad sh N z) H) {k : Nat} (hk : k < N) {fl : List (Option Nat)} (hsh : sh k = .inl (ci, fl)) (hc : vwCl[ci]? = some (C, T, M)) (j : Nat) (hj : j < M) (hf : fl[j]? = some none) (hlink : (Cond.fieldLink own index ref (T j).2.1 (T j).2.2.1).before args s = true) (href : (T j).1 = ref) (hdg : decode cc pc = .ok (.getfield index, 3))
    (kk : W p l e R s m args below meth c H locs cells slots Q (F0 m (pc + 3) ls (.int (z k j) :: rest))) : W p l e R s m args below meth c H locs cells slots Q (F0 m pc ls (.ref (ad k) :: rest)) := by
  subst href
  exact va_get hexec hb hts hin hown hK hP k (gw_get hk hsh) hc j hj hlink (fun _ h => h) (gfs_i hf) hdg kk
theorem fw_getr (hexec : p.tables.exec = Jvm.exec) (hb : c.code = cc) {own ref C : String} {T : u_T} {M ci index : Nat} {Ts : List Cond} (hts : ∀ w ∈ Ts, w.before args s = true) (hin : ∀ w ∈ u_ws C T M, w ∈ Ts) (hown : s.vm.findClass own = some m.cls) (hK : va_K D vwCl (gty cA) s) (hP : va_P D vwCl (gw cA ad sh N z) H) {k : Nat} (hk : k < N) {fl : List (Option Nat)} (hsh : sh k = .inl (ci, fl)) (hc : vwCl[ci]? = some (C, T, M)) (j : Nat) (hj : j < M) {q : Nat} (hf : fl[j]? = some (some q)) (hlink : (Cond.fieldLink own index ref (T j).2.1 (T j).2.2.1).before args s = true) (href : (T j).1 = ref) (hdg : decode cc pc = .ok (.getfield index, 3))
    (kk : W p l e R s m args below meth c H locs cells slots Q (F0 m (pc + 3) ls (.ref (ad q) :: rest))) : W p l e R s m args below meth c H locs cells slots Q (F0 m pc ls (.ref (ad k) :: rest)) := by
  subst href
  exact va_get hexec hb hts hin hown hK hP k (gw_get hk hsh) hc j hj hlink (fun _ h => h) (gfs_r hf) hdg kk
theorem fw_put (hexec : p.tables.exec = Jvm.exec) (hb : c.code = cc) {own ref C : String} {T : u_T} {M ci index : Nat} {Ts : List Cond} (hts : ∀ w ∈ Ts, w.before args s = true) (hin : ∀ w ∈ u_ws C T M, w ∈ Ts) {ty0 : Nat → FieldType} (hty : ∀ k, k < M → parseFieldDescriptor (T k).2.2.1 = some (ty0 k)) (hnm : ∀ a, a < M → ∀ b, b < M → a ≠ b → (T a).2.1 ≠ (T b).2.1) (hown : s.vm.findClass own = some m.cls) (hK : va_K D vwCl (gty cA) s) (hG : gOk ad N) (hP : va_P D vwCl (gw cA ad sh N z) H) (hS : va_S (gA ad N) H0 H locs) {k : Nat} (hk : k < N) {fl : List (Option Nat)} (hsh : sh k = .inl (ci, fl)) (hc : vwCl[ci]? = some (C, T, M)) (j : Nat) (hj : j < M) (hf : fl[j]? = some none) (hlink : (Cond.fieldLink own index ref (T j).2.1 (T j).2.2.1).before args s = true) (href : (T j).1 = ref) (hfin : (T j).2.2.2 = false) {ty : FieldType} (hd : ty0 j = ty) {v : Int32} (hn : narrow ty (.int v) = .int v) (hfit : fits ty (.int v) = true) (hdg : decode cc pc = .ok (.putfield index, 3))
    (kk : ∀ (z' : gS) (H1 : Heap) (locs1 : List Loc), z' = gup z k j v → va_P D vwCl (gw cA ad sh N z') H1 → va_S (gA ad N) H0 H1 locs1 → W p l e R s m args below meth c H1 locs1 cells slots Q (F0 m (pc + 3) ls rest)) : W p l e R s m args below meth c H locs cells slots Q (F0 m pc ls (.int v :: .ref (ad k) :: rest)) := by
  subst href
  subst hd
  refine va_put hexec hb hts hin ty0 hty hnm hown hK hP (gw_D hG) hS k (gw_get hk hsh) hc j hj hlink (fun _ h => h) hfin (hty j hj) hn hfit (by rw [gfs_len]; exact (List.getElem?_eq_some_iff.mp hf).1) hdg fun H1 locs1 h1 h2 h3 => ?_
  rw [gw_set (z' := gup z k j v) hk hsh (by rw [gfs_set hf, gup_k]; rfl) (fun a ha => by funext b; simp [gup, ha])] at h1
  exact kk _ H1 locs1 rfl h1 h3
theorem fw_iald (hexec : p.tables.exec = Jvm.exec) (hb : c.code = cc) (hK : va_K D vwCl (gty cA) s) (hP : va_P D vwCl (gw cA ad sh N z) H) {k : Nat} (hk : k < N) {n x y : Nat} (hsh : sh k = .inr (0, n, x, y)) {i : Int32} (hin : vp_in i n) (hdg : decode cc pc = .ok (.iaload, 1))
    (kk : W p l e R s m args below meth c H locs cells slots Q (F0 m (pc + 1) ls (.int (z k i.toNatClampNeg) :: rest))) : W p l e R s m args below meth c H locs cells slots Q (F0 m pc ls (.int i :: .ref (ad k) :: rest)) :=
  va_iald hexec hb hK hP k 0 (gw_get hk hsh) rfl hin hdg kk
theorem fw_zald (hexec : p.tables.exec = Jvm.exec) (hb : c.code = cc) (hK : va_K D vwCl (gty cA) s) (hP : va_P D vwCl (gw cA ad sh N z) H) {k : Nat} (hk : k < N) {n x y : Nat} (hsh : sh k = .inr (1, n, x, y)) {i : Int32} (hin : vp_in i n) (hdg : decode cc pc = .ok (.baload, 1))
    (kk : W p l e R s m args below meth c H locs cells slots Q (F0 m (pc + 1) ls (.int (z k i.toNatClampNeg) :: rest))) : W p l e R s m args below meth c H locs cells slots Q (F0 m pc ls (.int i :: .ref (ad k) :: rest)) :=
  va_zald hexec hb hK hP k 1 (gw_get hk hsh) rfl hin hdg kk
theorem fw_iast (hexec : p.tables.exec = Jvm.exec) (hb : c.code = cc) (hK : va_K D vwCl (gty cA) s) (hG : gOk ad N) (hP : va_P D vwCl (gw cA ad sh N z) H) (hS : va_S (gA ad N) H0 H locs) {k : Nat} (hk : k < N) {n x y : Nat} (hsh : sh k = .inr (0, n, x, y)) {i v : Int32} (hin : vp_in i n) (hdg : decode cc pc = .ok (.iastore, 1))
    (kk : ∀ (z' : gS) (H1 : Heap) (locs1 : List Loc), z' = gup z k i.toNatClampNeg v → va_P D vwCl (gw cA ad sh N z') H1 → va_S (gA ad N) H0 H1 locs1 → W p l e R s m args below meth c H1 locs1 cells slots Q (F0 m (pc + 1) ls rest)) : W p l e R s m args below meth c H locs cells slots Q (F0 m pc ls (.int v :: .int i :: .ref (ad k) :: rest)) := by
  refine va_iast hexec hb hK hP (gw_D hG) hS k 0 (gw_get hk hsh) rfl hin hdg fun H1 locs1 h1 h2 h3 => ?_
  rw [gw_set (z' := gup z k i.toNatClampNeg v) hk hsh (by rw [gup_k]; rfl) (fun a ha => by funext b; simp [gup, ha])] at h1
  exact kk _ H1 locs1 rfl h1 h3
theorem fw_zast (hexec : p.tables.exec = Jvm.exec) (hb : c.code = cc) (hK : va_K D vwCl (gty cA) s) (hG : gOk ad N) (hP : va_P D vwCl (gw cA ad sh N z) H) (hS : va_S (gA ad N) H0 H locs) {k : Nat} (hk : k < N) {n x y : Nat} (hsh : sh k = .inr (1, n, x, y)) {i v : Int32} (hv : v = 0 ∨ v = 1) (hin : vp_in i n) (hdg : decode cc pc = .ok (.bastore, 1))
    (kk : ∀ (z' : gS) (H1 : Heap) (locs1 : List Loc), z' = gup z k i.toNatClampNeg v → va_P D vwCl (gw cA ad sh N z') H1 → va_S (gA ad N) H0 H1 locs1 → W p l e R s m args below meth c H1 locs1 cells slots Q (F0 m (pc + 1) ls rest)) : W p l e R s m args below meth c H locs cells slots Q (F0 m pc ls (.int v :: .int i :: .ref (ad k) :: rest)) := by
  refine va_zast hexec hb hK hP (gw_D hG) hS k 1 (gw_get hk hsh) rfl hin hdg fun H1 locs1 h1 h2 h3 => ?_
  rw [gvn hv, gw_set (z' := gup z k i.toNatClampNeg v) hk hsh (by rw [gup_k]; rfl) (fun a ha => by funext b; simp [gup, ha])] at h1
  exact kk _ H1 locs1 rfl h1 h3
theorem fw_qald (hexec : p.tables.exec = Jvm.exec) (hb : c.code = cc) (hK : va_K D vwCl (gty cA) s) (hP : va_P D vwCl (gw cA ad sh N z) H) {k : Nat} (hk : k < N) {t n x y : Nat} (hsh : sh k = .inr (t, n, x, y)) (ht : 2 < t ∧ t < 5) {i : Int32} (hin : vp_in i n) (hdg : decode cc pc = .ok (.aaload, 1))
    (kk : W p l e R s m args below meth c H locs cells slots Q (F0 m (pc + 1) ls (.ref (ad (x + y * i.toNatClampNeg)) :: rest))) : W p l e R s m args below meth c H locs cells slots Q (F0 m pc ls (.int i :: .ref (ad k) :: rest)) := by
  have hlt : i.toNatClampNeg < n := Nat.not_le.mp fun q => hin (Or.inr q)
  have hg := gw_get (cA := cA) (ad := ad) (z := z) hk hsh
  rw [gce, if_neg (by omega)] at hg
  have e1 : va_rf (if i.toNatClampNeg < n then some (ad (x + y * i.toNatClampNeg)) else none) = .ref (ad (x + y * i.toNatClampNeg)) := by rw [if_pos hlt]; rfl
  rcases (show t = 3 ∨ t = 4 by omega) with rfl | rfl
  · exact va_aldq hexec hb hK hP k 3 hg rfl hin hdg (by rw [e1]; exact kk)
  · exact va_aldq hexec hb hK hP k 4 hg rfl hin hdg (by rw [e1]; exact kk)
theorem fw_alen (hexec : p.tables.exec = Jvm.exec) (hb : c.code = cc) (hK : va_K D vwCl (gty cA) s) (hP : va_P D vwCl (gw cA ad sh N z) H) {k : Nat} (hk : k < N) {n x y : Nat} (hsh : sh k = .inr (0, n, x, y)) (hdg : decode cc pc = .ok (.arraylength, 1))
    (kk : W p l e R s m args below meth c H locs cells slots Q (F0 m (pc + 1) ls (.int (Int32.ofNat n) :: rest))) : W p l e R s m args below meth c H locs cells slots Q (F0 m pc ls (.ref (ad k) :: rest)) :=
  va_alen hexec hb hK hP k 0 (gw_get hk hsh) (ty := .int) rfl rfl hdg kk
theorem fw_rald (hexec : p.tables.exec = Jvm.exec) (hb : c.code = cc) (hK : va_K D vwCl (gty cA) s) (hP : va_P D vwCl (gw cA ad sh N z) H) {k : Nat} (hk : k < N) {n x y : Nat} (hsh : sh k = .inr (2, n, x, y)) {i : Int32} (hin : vp_in i n) (hdg : decode cc pc = .ok (.aaload, 1))
    (kk : W p l e R s m args below meth c H locs cells slots Q (F0 m (pc + 1) ls (.ref (ad (x + y * i.toNatClampNeg)) :: rest))) : W p l e R s m args below meth c H locs cells slots Q (F0 m pc ls (.int i :: .ref (ad k) :: rest)) := by
  have hlt : i.toNatClampNeg < n := Nat.not_le.mp fun q => hin (Or.inr q)
  have hg := gw_get (cA := cA) (ad := ad) (z := z) hk hsh
  rw [gce, if_neg (by omega)] at hg
  have e1 : va_rf (if i.toNatClampNeg < n then some (ad (x + y * i.toNatClampNeg)) else none) = .ref (ad (x + y * i.toNatClampNeg)) := by rw [if_pos hlt]; rfl
  have ht : (gty cA)[2]? = some (cA 2, .array .int) := rfl
  refine W.aald (v := va_rf (if i.toNatClampNeg < n then some (ad (x + y * i.toNatClampNeg)) else none)) (ty := .array .int) hexec hb (hP k _ hg) ((hK.2 2 _ ht).1 n (fun j => va_rf (if j < n then some (ad (x + y * j)) else none))) rfl (fun q => by cases q) (by show ¬ (i < 0 ∨ (arrV _ _ _).slots.size ≤ _); rw [arrV_size]; exact hin) (by show (arrV _ _ _).slots[_]? = _; rw [arrV_read _ _ hlt]) rfl rfl hdg ?_
  rw [e1]
  exact kk
theorem fw_copy (hexec : p.tables.exec = Jvm.exec) (hb : c.code = cc) (hml : c.maxLocals = ls.size) {own : String} {index : Nat} (hown : s.vm.findClass own = some m.cls) (hlink : (Cond.methodLink own index arraycopyName).before args s = true) (hnat : (Cond.native arraycopyName).before args s = true) (hstat : (Cond.static arraycopyName).before args s = true) (hini : (Cond.initialized "java/lang/System").before args s = true)
    (hK : va_K D vwCl (gty cA) s) (hG : gOk ad N) (hP : va_P D vwCl (gw cA ad sh N z) H) (hS : va_S (gA ad N) H0 H locs) {k0 k1 : Nat} (hk0 : k0 < N) {n0 x0 y0 : Nat} (hsh0 : sh k0 = .inr (0, n0, x0, y0)) (hk1 : k1 < N) {n1 x1 y1 : Nat} (hsh1 : sh k1 = .inr (0, n1, x1, y1))
    {sp dp n : Int32} (hg : ¬ sp < 0 ∧ ¬ dp < 0 ∧ ¬ n < 0 ∧ sp.toNatClampNeg + n.toNatClampNeg ≤ n0 ∧ dp.toNatClampNeg + n.toNatClampNeg ≤ n1)
    (hframes : 1 ≤ R.frames) (hlocals : (rest.map fun v => v.category).sum + (nativeFrameWords "java/lang/System" "arraycopy" 5 + 11) ≤ R.locals) (hdg : decode cc pc = .ok (.invokestatic index, 3))
    (kk : ∀ (z' : gS) (H1 : Heap) (locs1 : List Loc), z' = gcp z k0 k1 sp.toNatClampNeg dp.toNatClampNeg n.toNatClampNeg → va_P D vwCl (gw cA ad sh N z') H1 → va_S (gA ad N) H0 H1 locs1 → W p l e R s m args below meth c H1 locs1 cells slots Q (F0 m (pc + 3) ls rest)) : W p l e R s m args below meth c H locs cells slots Q (F0 m pc ls (.int n :: .int dp :: .ref (ad k1) :: .int sp :: .ref (ad k0) :: rest)) := by
  obtain ⟨h1, h2, h3, h4, h5⟩ := hg
  refine va_copyi hexec hb hml hown hlink hnat hstat hini hK hP (gw_D hG) hS k0 k1 0 0 (gw_get hk0 hsh0) (gw_get hk1 hsh1) (ty := .int) rfl rfl rfl h1 h2 h3 h4 h5 (fun i _ => rfl) hframes hlocals hdg ?_
  intro H1 locs1 q1 q2 q3
  rw [gw_set (z' := gcp z k0 k1 sp.toNatClampNeg dp.toNatClampNeg n.toNatClampNeg) hk1 hsh1 (by
    have e : gcp z k0 k1 sp.toNatClampNeg dp.toNatClampNeg n.toNatClampNeg k1 = va_cpy (z k0) (z k1) sp.toNatClampNeg dp.toNatClampNeg n.toNatClampNeg := by
      funext b
      simp [gcp, va_cpy]
    rw [e]
    rfl) (fun a ha => by funext b; simp [gcp, ha])] at q1
  exact kk _ H1 locs1 rfl q1 q3
theorem fw_gets (hexec : p.tables.exec = Jvm.exec) (hb : c.code = cc) (hZ : gSt tw (gA ad N) s s.heap) (hS : va_S (gA ad N) s.heap H locs) {own : String} {index : Nat} (hown : s.vm.findClass own = some m.cls) (hlink : (Cond.fieldLink own index "FindOrder$Names" "WORTH" "[I").before args s = true) (hdg : decode cc pc = .ok (.getstatic index, 3))
    (kk : W p l e R s m args below meth c H locs cells slots Q (F0 m (pc + 3) ls (.ref tw :: rest))) : W p l e R s m args below meth c H locs cells slots Q (F0 m pc ls rest) :=
  va_gets hexec hb hZ.1 hS hown hlink (fun _ h => h) hdg kk
theorem fw_wald (hexec : p.tables.exec = Jvm.exec) (hb : c.code = cc) (hZ : gSt tw (gA ad N) s s.heap) (hS : va_S (gA ad N) s.heap H locs) {i : Int32} (hin : vp_in i 6) (hdg : decode cc pc = .ok (.iaload, 1))
    (kk : W p l e R s m args below meth c H locs cells slots Q (F0 m (pc + 1) ls (.int (gWo i.toNatClampNeg) :: rest))) : W p l e R s m args below meth c H locs cells slots Q (F0 m pc ls (.int i :: .ref tw :: rest)) := by
  exact va_ti hexec hb hZ.2 hS hin rfl hdg kk
/-! ends -/
theorem fw_gSt {t : State} (hZ : gSt tw (gA ad N) s s.heap) (hS : va_S (gA ad N) s.heap H locs) (ht : t.heap = H) (hW : s.WarmedH t.vm) : gSt tw (gA ad N) t t.heap := by
  have hk : ∀ a : Nat, a < s.heap.size → ¬ gA ad N a → t.heap[a]? = s.heap[a]? := fun a h1 h2 => by rw [ht]; exact hS.2.1 a h1 h2
  exact ⟨(hZ.1.moved hW.alike).kept hk, (hZ.2.moved hW.alike).kept hk⟩
theorem fw_ireti (hexec : p.tables.exec = Jvm.exec) (hb : c.code = cc) (hr : meth.sig.returnType = some .int) (hlocks : meth.locks = false) {res : Int32 × gS} {v : Int32} (h : (v, z) = res) (hK : va_K D vwCl (gty cA) s) (hZ : gSt tw (gA ad N) s s.heap) (hP : va_P D vwCl (gw cA ad sh N z) H) (hS : va_S (gA ad N) s.heap H locs) (hdg : decode cc pc = .ok (.ireturn, 1)) :
    W p l e R s m args below meth c H locs cells slots (MQ below (va_Qi (fun r u => (r, u) = res) (gPr D cA ad tw sh N) (gA ad N)) args s cells slots (gA ad N)) (F0 m pc ls [.int v]) :=
  W.iret (v := v) hexec hb hr (fun t ht hW => ⟨⟨v, z, rfl, h, by rw [ht]; exact hP, va_K.moved hW.alike hK, fw_gSt hZ hS ht hW⟩, hS.F ht⟩) hS.2.2 hdg hlocks
theorem fw_iretz (hexec : p.tables.exec = Jvm.exec) (hb : c.code = cc) (hr : meth.sig.returnType = some .boolean) (hlocks : meth.locks = false) {res : Int32 × gS} {v : Int32} (hv : v = 0 ∨ v = 1) (h : (v, z) = res) (hK : va_K D vwCl (gty cA) s) (hZ : gSt tw (gA ad N) s s.heap) (hP : va_P D vwCl (gw cA ad sh N z) H) (hS : va_S (gA ad N) s.heap H locs) (hdg : decode cc pc = .ok (.ireturn, 1)) :
    W p l e R s m args below meth c H locs cells slots (MQ below (va_Qi (fun r u => (r, u) = res) (gPr D cA ad tw sh N) (gA ad N)) args s cells slots (gA ad N)) (F0 m pc ls [.int v]) :=
  W.zret (v := v) hexec hb hr (gnar hv) (fun t ht hW => ⟨⟨v, z, rfl, h, by rw [ht]; exact hP, va_K.moved hW.alike hK, fw_gSt hZ hS ht hW⟩, hS.F ht⟩) hS.2.2 hdg hlocks
theorem fw_lret (hexec : p.tables.exec = Jvm.exec) (hb : c.code = cc) (hr : meth.sig.returnType = some .long) (hlocks : meth.locks = false) {res : Int64 × gS} {v : Int64} (h : (v, z) = res) (hK : va_K D vwCl (gty cA) s) (hZ : gSt tw (gA ad N) s s.heap) (hP : va_P D vwCl (gw cA ad sh N z) H) (hS : va_S (gA ad N) s.heap H locs) (hdg : decode cc pc = .ok (.lreturn, 1)) :
    W p l e R s m args below meth c H locs cells slots (MQ below (va_Ql (fun r u => (r, u) = res) (gPr D cA ad tw sh N) (gA ad N)) args s cells slots (gA ad N)) (F0 m pc ls [.long v]) :=
  W.lret (v := v) hexec hb hr (fun t ht hW => ⟨⟨v, z, rfl, h, by rw [ht]; exact hP, va_K.moved hW.alike hK, fw_gSt hZ hS ht hW⟩, hS.F ht⟩) hS.2.2 hdg hlocks
theorem fw_vret (hexec : p.tables.exec = Jvm.exec) (hb : c.code = cc) (hr : meth.sig.returnType = none) (hlocks : meth.locks = false) {res : gS} (h : z = res) (hK : va_K D vwCl (gty cA) s) (hZ : gSt tw (gA ad N) s s.heap) (hP : va_P D vwCl (gw cA ad sh N z) H) (hS : va_S (gA ad N) s.heap H locs) (hdg : decode cc pc = .ok (.return_, 1)) :
    W p l e R s m args below meth c H locs cells slots (MQ below (va_Qv (fun u => u = res) (gPr D cA ad tw sh N) (gA ad N)) args s cells slots (gA ad N)) (F0 m pc ls []) :=
  W.vret hexec hb hr (fun t ht hW => ⟨⟨z, rfl, h, by rw [ht]; exact hP, va_K.moved hW.alike hK, fw_gSt hZ hS ht hW⟩, hS.F ht⟩) hS.2.2 hdg hlocks
theorem fw_aret (hexec : p.tables.exec = Jvm.exec) (hb : c.code = cc) {C : String} (hr : meth.sig.returnType = some (.object C)) (hlocks : meth.locks = false) {k : Nat} {res : gS} (h : z = res) (hK : va_K D vwCl (gty cA) s) (hZ : gSt tw (gA ad N) s s.heap) (hP : va_P D vwCl (gw cA ad sh N z) H) (hS : va_S (gA ad N) s.heap H locs) (hdg : decode cc pc = .ok (.areturn, 1)) :
    W p l e R s m args below meth c H locs cells slots (MQ below (va_Qr (fun u => u = res) (fun u a t => a = ad k ∧ gPr D cA ad tw sh N u t) (gA ad N)) args s cells slots (gA ad N)) (F0 m pc ls [.ref (ad k)]) :=
  W.aret (v := .ref (ad k)) hexec hb hr (Or.inl ⟨C, rfl⟩) (Or.inr ⟨_, rfl⟩) (fun t ht hW => ⟨⟨z, ad k, rfl, h, rfl, by rw [ht]; exact hP, va_K.moved hW.alike hK, fw_gSt hZ hS ht hW⟩, hS.F ht⟩) hS.2.2 hdg hlocks
/-! calls -/
theorem fw_blind {as : List Value} : FrameBlind (va_Pc as (gPr D cA ad tw sh N z)) := fun a U g mk q =>
  ⟨q.1, q.2.1, va_K.moved (u := U) (U := U.calling g mk a) (Vm.Alike.refl U.vm) q.2.2.1, va_Z.moved (u := U) (U := U.calling g mk a) (Vm.Alike.refl U.vm) q.2.2.2.1, va_T.moved (u := U) (U := U.calling g mk a) (Vm.Alike.refl U.vm) q.2.2.2.2⟩
theorem fw_pre {as : List Value} (hK : va_K D vwCl (gty cA) s) (hZ : gSt tw (gA ad N) s s.heap) (hP : va_P D vwCl (gw cA ad sh N z) H) (hS : va_S (gA ad N) s.heap H locs) : ∀ U : State, U.heap = H → s.WarmedH U.vm → va_Pc as (gPr D cA ad tw sh N z) as.toArray U := fun U hU hW =>
  ⟨rfl, by rw [hU]; exact hP, va_K.moved hW.alike hK, fw_gSt hZ hS hU hW⟩
variable {y : MethodName} {bytes : ByteArray} {maxL nL n index : Nat} {ret : Option FieldType} {ws : List Cond} {rm : Room} {Ts : List Cond} {own C : String} {As : List Value}
theorem fw_preV {k : Nat} (hk : k < N) {ci : Nat} {fl : List (Option Nat)} (hsh : sh k = .inl (ci, fl)) {q : vw_C} (hc : vwCl[ci]? = some q) (hC : q.1 = C) (hK : va_K D vwCl (gty cA) s) (hZ : gSt tw (gA ad N) s s.heap) (hP : va_P D vwCl (gw cA ad sh N z) H) (hS : va_S (gA ad N) s.heap H locs) : PreV s H C (ad k) (va_Pc (.ref (ad k) :: As) (gPr D cA ad tw sh N z)) As := by
  subst hC
  exact ⟨fw_blind, va_recv hK hP hc (gw_get hk hsh), fw_pre hK hZ hP hS⟩
theorem fw_vi (S : CallFix p m c cc nL s args Ts own) {res : Int32 × gS} {k : Nat} (hM : gMi l y ws rm D cA ad tw sh N (.ref (ad k) :: As) z res) (cw : CallW R s args own C index y bytes maxL ret ws rm 0 0 n) (hp : PreV s H C (ad k) (va_Pc (.ref (ad k) :: As) (gPr D cA ad tw sh N z)) As) (hn : As.length = n) {lv : List (Nat × Value)} (hl : lv_has ls nL lv) (st0 : List Value) (hst : st0 = As.reverse ++ .ref (ad k) :: rest) (hW : (rest.map fun v => v.category).sum ≤ 8) (hS : va_S (gA ad N) H0 H locs) (hdg : decode cc pc = .ok (.invokevirtual index, 3)) (hcs : cells ≤ R.cells ∧ slots ≤ R.slots)
    (kk : ∀ (H1 : Heap) (locs1 : List Loc), va_P D vwCl (gw cA ad sh N res.2) H1 → va_S (gA ad N) H0 H1 locs1 → W p l e R s m args below meth c H1 locs1 cells slots Q (F0 m (pc + 3) ls (.int res.1 :: rest))) : W p l e R s m args below meth c H locs cells slots Q (F0 m pc ls st0) := by
  refine va_calli (va_runV (rest := rest) S hM cw hp rfl hn hl.1 hst (lv_room hW) hdg hcs) hS (fun q _ h => h) (fun q h => h) (fun r u t H1 locs1 ht hvm hw hB hz1 hk1 hS1 => ?_)
  subst hw
  exact kk H1 locs1 (by rw [← ht]; exact hB.1) hS1
theorem fw_vl (S : CallFix p m c cc nL s args Ts own) {res : Int64 × gS} {k : Nat} (hM : gMl l y ws rm D cA ad tw sh N (.ref (ad k) :: As) z res) (cw : CallW R s args own C index y bytes maxL ret ws rm 0 0 n) (hp : PreV s H C (ad k) (va_Pc (.ref (ad k) :: As) (gPr D cA ad tw sh N z)) As) (hn : As.length = n) {lv : List (Nat × Value)} (hl : lv_has ls nL lv) (st0 : List Value) (hst : st0 = As.reverse ++ .ref (ad k) :: rest) (hW : (rest.map fun v => v.category).sum ≤ 8) (hS : va_S (gA ad N) H0 H locs) (hdg : decode cc pc = .ok (.invokevirtual index, 3)) (hcs : cells ≤ R.cells ∧ slots ≤ R.slots)
    (kk : ∀ (H1 : Heap) (locs1 : List Loc), va_P D vwCl (gw cA ad sh N res.2) H1 → va_S (gA ad N) H0 H1 locs1 → W p l e R s m args below meth c H1 locs1 cells slots Q (F0 m (pc + 3) ls (.long res.1 :: rest))) : W p l e R s m args below meth c H locs cells slots Q (F0 m pc ls st0) := by
  refine va_calll (va_runV (rest := rest) S hM cw hp rfl hn hl.1 hst (lv_room hW) hdg hcs) hS (fun q _ h => h) (fun q h => h) (fun r u t H1 locs1 ht hvm hw hB hz1 hk1 hS1 => ?_)
  subst hw
  exact kk H1 locs1 (by rw [← ht]; exact hB.1) hS1
theorem fw_vv (S : CallFix p m c cc nL s args Ts own) {res : gS} {k : Nat} (hM : gMv l y ws rm D cA ad tw sh N (.ref (ad k) :: As) z res) (cw : CallW R s args own C index y bytes maxL ret ws rm 0 0 n) (hp : PreV s H C (ad k) (va_Pc (.ref (ad k) :: As) (gPr D cA ad tw sh N z)) As) (hn : As.length = n) {lv : List (Nat × Value)} (hl : lv_has ls nL lv) (st0 : List Value) (hst : st0 = As.reverse ++ .ref (ad k) :: rest) (hW : (rest.map fun v => v.category).sum ≤ 8) (hS : va_S (gA ad N) H0 H locs) (hdg : decode cc pc = .ok (.invokevirtual index, 3)) (hcs : cells ≤ R.cells ∧ slots ≤ R.slots)
    (kk : ∀ (H1 : Heap) (locs1 : List Loc), va_P D vwCl (gw cA ad sh N res) H1 → va_S (gA ad N) H0 H1 locs1 → W p l e R s m args below meth c H1 locs1 cells slots Q (F0 m (pc + 3) ls rest)) : W p l e R s m args below meth c H locs cells slots Q (F0 m pc ls st0) := by
  refine va_callv (va_runV (rest := rest) S hM cw hp rfl hn hl.1 hst (lv_room hW) hdg hcs) hS (fun q _ h => h) (fun q h => h) (fun u t H1 locs1 ht hvm hw hB hz1 hk1 hS1 => ?_)
  subst hw
  exact kk H1 locs1 (by rw [← ht]; exact hB.1) hS1
theorem fw_vr (S : CallFix p m c cc nL s args Ts own) {res : gS} {k k2 : Nat} (hM : gMr l y ws rm D cA ad tw sh N (.ref (ad k) :: As) z k2 res) (cw : CallW R s args own C index y bytes maxL ret ws rm 0 0 n) (hp : PreV s H C (ad k) (va_Pc (.ref (ad k) :: As) (gPr D cA ad tw sh N z)) As) (hn : As.length = n) {lv : List (Nat × Value)} (hl : lv_has ls nL lv) (st0 : List Value) (hst : st0 = As.reverse ++ .ref (ad k) :: rest) (hW : (rest.map fun v => v.category).sum ≤ 8) (hS : va_S (gA ad N) H0 H locs) (hdg : decode cc pc = .ok (.invokevirtual index, 3)) (hcs : cells ≤ R.cells ∧ slots ≤ R.slots)
    (kk : ∀ (H1 : Heap) (locs1 : List Loc), va_P D vwCl (gw cA ad sh N res) H1 → va_S (gA ad N) H0 H1 locs1 → W p l e R s m args below meth c H1 locs1 cells slots Q (F0 m (pc + 3) ls (.ref (ad k2) :: rest))) : W p l e R s m args below meth c H locs cells slots Q (F0 m pc ls st0) := by
  refine va_callr (va_runV (rest := rest) S hM cw hp rfl hn hl.1 hst (lv_room hW) hdg hcs) hS (fun q _ h => h) (fun q h => h) (fun u a t H1 locs1 ht hvm hw hB hz1 hk1 hS1 => ?_)
  obtain ⟨ha, hB⟩ := hB
  subst hw
  subst ha
  exact kk H1 locs1 (by rw [← ht]; exact hB.1) hS1
theorem fw_si (S : CallFix p m c cc nL s args Ts own) {res : Int32 × gS} (hM : gMi l y ws rm D cA ad tw sh N As z res) (cw : CallB R s args own index y bytes maxL ret ws rm 0 0 n ∧ (Cond.static y).before args s = true) (hK : va_K D vwCl (gty cA) s) (hZ : gSt tw (gA ad N) s s.heap) (hP : va_P D vwCl (gw cA ad sh N z) H) (hn : As.length = n) {lv : List (Nat × Value)} (hl : lv_has ls nL lv) (st0 : List Value) (hst : st0 = As.reverse ++ rest) (hW : (rest.map fun v => v.category).sum ≤ 8) (hS : va_S (gA ad N) s.heap H locs) (hdg : decode cc pc = .ok (.invokestatic index, 3)) (hcs : cells ≤ R.cells ∧ slots ≤ R.slots)
    (kk : ∀ (H1 : Heap) (locs1 : List Loc), va_P D vwCl (gw cA ad sh N res.2) H1 → va_S (gA ad N) s.heap H1 locs1 → W p l e R s m args below meth c H1 locs1 cells slots Q (F0 m (pc + 3) ls (.int res.1 :: rest))) : W p l e R s m args below meth c H locs cells slots Q (F0 m pc ls st0) := by
  refine va_calli (va_runS (rest := rest) S hM cw ⟨fw_blind, fw_pre hK hZ hP hS⟩ rfl hn hl.1 hst (lv_room hW) hdg hcs) hS (fun q _ h => h) (fun q h => h) (fun r u t H1 locs1 ht hvm hw hB hz1 hk1 hS1 => ?_)
  subst hw
  exact kk H1 locs1 (by rw [← ht]; exact hB.1) hS1
theorem fw_sv (S : CallFix p m c cc nL s args Ts own) {res : gS} (hM : gMv l y ws rm D cA ad tw sh N As z res) (cw : CallB R s args own index y bytes maxL ret ws rm 0 0 n ∧ (Cond.static y).before args s = true) (hK : va_K D vwCl (gty cA) s) (hZ : gSt tw (gA ad N) s s.heap) (hP : va_P D vwCl (gw cA ad sh N z) H) (hn : As.length = n) {lv : List (Nat × Value)} (hl : lv_has ls nL lv) (st0 : List Value) (hst : st0 = As.reverse ++ rest) (hW : (rest.map fun v => v.category).sum ≤ 8) (hS : va_S (gA ad N) s.heap H locs) (hdg : decode cc pc = .ok (.invokestatic index, 3)) (hcs : cells ≤ R.cells ∧ slots ≤ R.slots)
    (kk : ∀ (H1 : Heap) (locs1 : List Loc), va_P D vwCl (gw cA ad sh N res) H1 → va_S (gA ad N) s.heap H1 locs1 → W p l e R s m args below meth c H1 locs1 cells slots Q (F0 m (pc + 3) ls rest)) : W p l e R s m args below meth c H locs cells slots Q (F0 m pc ls st0) := by
  refine va_callv (va_runS (rest := rest) S hM cw ⟨fw_blind, fw_pre hK hZ hP hS⟩ rfl hn hl.1 hst (lv_room hW) hdg hcs) hS (fun q _ h => h) (fun q h => h) (fun u t H1 locs1 ht hvm hw hB hz1 hk1 hS1 => ?_)
  subst hw
  exact kk H1 locs1 (by rw [← ht]; exact hB.1) hS1
theorem fw_viR (S : CallFix p m c cc nL s args Ts own) {res : Int32} {k : Nat} (hM : gMi l y ws rm D cA ad tw sh N (.ref (ad k) :: As) z (res, z)) (cw : CallW R s args own C index y bytes maxL ret ws rm 0 0 n) (hp : PreV s H C (ad k) (va_Pc (.ref (ad k) :: As) (gPr D cA ad tw sh N z)) As) (hn : As.length = n) {lv : List (Nat × Value)} (hl : lv_has ls nL lv) (st0 : List Value) (hst : st0 = As.reverse ++ .ref (ad k) :: rest) (hW : (rest.map fun v => v.category).sum ≤ 8) (hS : va_S (gA ad N) H0 H locs) (hdg : decode cc pc = .ok (.invokevirtual index, 3)) (hcs : cells ≤ R.cells ∧ slots ≤ R.slots)
    (kk : ∀ (H1 : Heap) (locs1 : List Loc), va_P D vwCl (gw cA ad sh N z) H1 → va_S (gA ad N) H0 H1 locs1 → W p l e R s m args below meth c H1 locs1 cells slots Q (F0 m (pc + 3) ls (.int res :: rest))) : W p l e R s m args below meth c H locs cells slots Q (F0 m pc ls st0) :=
  fw_vi S hM cw hp hn hl st0 hst hW hS hdg hcs kk
theorem fw_vlR (S : CallFix p m c cc nL s args Ts own) {res : Int64} {k : Nat} (hM : gMl l y ws rm D cA ad tw sh N (.ref (ad k) :: As) z (res, z)) (cw : CallW R s args own C index y bytes maxL ret ws rm 0 0 n) (hp : PreV s H C (ad k) (va_Pc (.ref (ad k) :: As) (gPr D cA ad tw sh N z)) As) (hn : As.length = n) {lv : List (Nat × Value)} (hl : lv_has ls nL lv) (st0 : List Value) (hst : st0 = As.reverse ++ .ref (ad k) :: rest) (hW : (rest.map fun v => v.category).sum ≤ 8) (hS : va_S (gA ad N) H0 H locs) (hdg : decode cc pc = .ok (.invokevirtual index, 3)) (hcs : cells ≤ R.cells ∧ slots ≤ R.slots)
    (kk : ∀ (H1 : Heap) (locs1 : List Loc), va_P D vwCl (gw cA ad sh N z) H1 → va_S (gA ad N) H0 H1 locs1 → W p l e R s m args below meth c H1 locs1 cells slots Q (F0 m (pc + 3) ls (.long res :: rest))) : W p l e R s m args below meth c H locs cells slots Q (F0 m pc ls st0) :=
  fw_vl S hM cw hp hn hl st0 hst hW hS hdg hcs kk
theorem fw_siR (S : CallFix p m c cc nL s args Ts own) {res : Int32} (hM : gMi l y ws rm D cA ad tw sh N As z (res, z)) (cw : CallB R s args own index y bytes maxL ret ws rm 0 0 n ∧ (Cond.static y).before args s = true) (hK : va_K D vwCl (gty cA) s) (hZ : gSt tw (gA ad N) s s.heap) (hP : va_P D vwCl (gw cA ad sh N z) H) (hn : As.length = n) {lv : List (Nat × Value)} (hl : lv_has ls nL lv) (st0 : List Value) (hst : st0 = As.reverse ++ rest) (hW : (rest.map fun v => v.category).sum ≤ 8) (hS : va_S (gA ad N) s.heap H locs) (hdg : decode cc pc = .ok (.invokestatic index, 3)) (hcs : cells ≤ R.cells ∧ slots ≤ R.slots)
    (kk : ∀ (H1 : Heap) (locs1 : List Loc), va_P D vwCl (gw cA ad sh N z) H1 → va_S (gA ad N) s.heap H1 locs1 → W p l e R s m args below meth c H1 locs1 cells slots Q (F0 m (pc + 3) ls (.int res :: rest))) : W p l e R s m args below meth c H locs cells slots Q (F0 m pc ls st0) :=
  fw_si S hM cw hK hZ hP hn hl st0 hst hW hS hdg hcs kk
end GRW
