/-! the pure side: states, steps, loops -/
abbrev gS : Type := Nat → Nat → Int32
def gup (z : gS) (k j : Nat) (v : Int32) : gS := fun a b => if a = k ∧ b = j then v else z a b
theorem gup_k {z : gS} {k j : Nat} {v : Int32} : gup z k j v k = upd (z k) j v := by
  funext b
  simp [gup, upd]
def gcp (z : gS) (q0 q1 sp dp n : Nat) : gS := fun a b => if a = q1 ∧ dp ≤ b ∧ b < dp + n then z q0 (sp + (b - dp)) else z a b
def gWo (j : Nat) : Int32 := match j with
  | 0 => 14348907
  | 1 => 531441
  | 2 => 19683
  | 3 => 729
  | 4 => 27
  | _ => 1
/-! pure steps -/
def gg {r : Type} (i : Int32) (n : Nat) (x : Option r) : Option r := if i < 0 ∨ n ≤ i.toNatClampNeg then none else x
def gz {r : Type} (v : Int32) (x : Option r) : Option r := if v = 0 ∨ v = 1 then x else none
def gn {r : Type} (v : Int32) (x : Option r) : Option r := if v = 0 then none else x
def gl {a r : Type} (e : a) (k : a → Option r) : Option r := k e
def gb {a r : Type} (o : Option a) (k : a → Option r) : Option r := o.bind k
def gc {r : Type} (sp dp n : Int32) (n0 n1 : Nat) (x : Option r) : Option r := if sp < 0 ∨ dp < 0 ∨ n < 0 ∨ n0 < sp.toNatClampNeg + n.toNatClampNeg ∨ n1 < dp.toNatClampNeg + n.toNatClampNeg then none else x
def gfix {a r : Type} (b : (a → Option r) → a → Option r) : Nat → a → Option r
  | 0, _ => none
  | n + 1, s => b (gfix b n) s
def gF : Nat := 100000
def gm1 : Int32 := -1
theorem gno {r : Type} {y : r} (h : (none : Option r) = some y) : False := by cases h
theorem gvl {i : Int32} {n : Nat} (h : vp_in i n) : i.toNatClampNeg < n := Nat.not_le.mp fun q => h (Or.inr q)
theorem gg_s {r : Type} {i : Int32} {n : Nat} {x : Option r} {y : r} (h : gg i n x = some y) : vp_in i n ∧ x = some y := by
  unfold gg at h
  split at h
  · cases h
  · rename_i q
    exact ⟨q, h⟩
theorem gz_s {r : Type} {v : Int32} {x : Option r} {y : r} (h : gz v x = some y) : (v = 0 ∨ v = 1) ∧ x = some y := by
  unfold gz at h
  split at h
  · rename_i q
    exact ⟨q, h⟩
  · cases h
theorem gn_s {r : Type} {v : Int32} {x : Option r} {y : r} (h : gn v x = some y) : ¬ v = 0 ∧ x = some y := by
  unfold gn at h
  split at h
  · cases h
  · rename_i q
    exact ⟨q, h⟩
theorem gl_s {a r : Type} {e : a} {k : a → Option r} {y : r} (h : gl e k = some y) {x : a} (hx : x = e) : k x = some y := by rw [hx]; exact h
theorem gb_s {a r : Type} {o : Option a} {k : a → Option r} {y : r} (h : gb o k = some y) : ∃ x, o = some x ∧ k x = some y := by
  cases o with
  | none => cases h
  | some x => exact ⟨x, rfl, h⟩
theorem gc_s {r : Type} {sp dp n : Int32} {n0 n1 : Nat} {x : Option r} {y : r} (h : gc sp dp n n0 n1 x = some y) : (¬ sp < 0 ∧ ¬ dp < 0 ∧ ¬ n < 0 ∧ sp.toNatClampNeg + n.toNatClampNeg ≤ n0 ∧ dp.toNatClampNeg + n.toNatClampNeg ≤ n1) ∧ x = some y := by
  unfold gc at h
  split at h
  · cases h
  · rename_i q
    simp only [not_or, Nat.not_lt] at q
    exact ⟨q, h⟩
theorem gif_t {r : Type} {c : Prop} [Decidable c] {x1 x2 : Option r} {y : r} (h : (if c then x1 else x2) = some y) (q : c) : x1 = some y := by rwa [if_pos q] at h
theorem gif_f {r : Type} {c : Prop} [Decidable c] {x1 x2 : Option r} {y : r} (h : (if c then x1 else x2) = some y) (q : ¬ c) : x2 = some y := by rwa [if_neg q] at h
