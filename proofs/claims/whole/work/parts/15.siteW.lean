/-! what changes a site -/
/-- all places but the four of the site at p are as they were -/
def Fr (z z' : gS) (p : Nat) : Prop := ∀ k, k < p ∨ p + 3 < k → z' k = z k
theorem Fr.rf {z : gS} {p : Nat} : Fr z z p := fun _ _ => rfl
theorem Fr.tr {z z1 z2 : gS} {p : Nat} (h1 : Fr z z1 p) (h2 : Fr z1 z2 p) : Fr z z2 p := fun k hk => (h2 k hk).trans (h1 k hk)
theorem Fr.up {z : gS} {p k j : Nat} {v : Int32} (h1 : p ≤ k) (h2 : k ≤ p + 3) : Fr z (gup z k j v) p := fun a ha => by
  funext b
  exact gup_n (Or.inl (by omega))
def dAdd (d : Dat) (a s : Nat) : Dat := (dg d + 1, dt d, fun i => if i = dg d then a else da d i, fun i => if i = dg d then s else ds d i, dn d)
def dSet (d : Dat) (g s : Nat) : Dat := (dg d, dt d, da d, fun i => if i = g then s else ds d i, dn d)
def dNew (d : Dat) (c : Nat) : Dat := (dg d, dt d + 1, da d, ds d, fun i => if i = dt d then c else dn d i)
def dDel (d : Dat) (g : Nat) : Dat := (dg d - 1, dt d, fun i => if i < g then da d i else da d (i + 1), fun i => if i < g then ds d i else ds d (i + 1), dn d)
theorem VD.add {d : Dat} (v : VD d) {a s : Nat} (hg : dg d < 7) (ha : a ≤ 999) (hs : s < 2 ^ dt d) : VD (dAdd d a s) := by
  obtain ⟨v1, v2, v3, v4, v5, v6⟩ := v
  refine ⟨by show dg d + 1 ≤ 7; omega, v2, fun i hi => ?_, fun i hi => ?_, v5, v6⟩
  · have hi : i < dg d + 1 := hi
    show (if i = dg d then a else da d i) ≤ 999
    split
    · exact ha
    · exact v3 i (by omega)
  · have hi : i < dg d + 1 := hi
    show (if i = dg d then s else ds d i) < 2 ^ dt d
    split
    · exact hs
    · exact v4 i (by omega)
theorem x_dig {z : gS} {p : Nat} {d : Dat} (h : SX z p d) (v : VD d) {a : Nat} (hg : dg d < 7) : ∃ z', f_X5_dig p (nI a) z = some (nI (dg d), z') ∧ SX z' p (dAdd d a 0) ∧ Fr z z' p := by
  refine ⟨gup (gup (gup z (p + 1) (dg d) (nI a)) (p + 2) (dg d) (nI 0)) p 0 (nI (dg d + 1)), ?_, ⟨?_, ?_, fun i hi => ?_, fun i hi => ?_, fun i hi => ?_⟩, ?_⟩
  · unfold f_X5_dig
    have e1 : gup z (p + 1) (dg d) (nI a) p 0 = nI (dg d) := by rw [gup_n (Or.inl (by omega)), h.1]
    have e2 : gup (gup z (p + 1) (dg d) (nI a)) (p + 2) (dg d) (nI 0) p 0 = nI (dg d) := by rw [gup_n (Or.inl (by omega)), e1]
    rw [h.1, q_iflt (by omega) (by omega), if_pos hg, q_gg hg (by omega), q_gl, nI_clamp (by omega), e1, q_gg hg (by omega), q_gl, nI_clamp (by omega), e2, q_gl, nI_add]
  · exact gup_s
  · rw [gup_n (Or.inr (by omega)), gup_n (Or.inl (by omega)), gup_n (Or.inl (by omega))]
    exact h.2.1
  · have hi : i < dg d + 1 := hi
    rw [gup_n (Or.inl (by omega)), gup_n (Or.inl (by omega))]
    show _ = nI (if i = dg d then a else da d i)
    by_cases e : i = dg d
    · rw [if_pos e, e, gup_s]
    · rw [if_neg e, gup_n (Or.inr e), h.2.2.1 i (by omega)]
  · have hi : i < dg d + 1 := hi
    rw [gup_n (Or.inl (by omega))]
    show _ = nI (if i = dg d then 0 else ds d i)
    by_cases e : i = dg d
    · rw [if_pos e, e, gup_s]
    · rw [if_neg e, gup_n (Or.inr e), gup_n (Or.inl (by omega)), h.2.2.2.1 i (by omega)]
  · rw [gup_n (Or.inl (by omega)), gup_n (Or.inl (by omega)), gup_n (Or.inl (by omega))]
    exact h.2.2.2.2 i hi
  · exact ((Fr.up (by omega) (by omega)).tr (Fr.up (by omega) (by omega))).tr (Fr.up (by omega) (by omega))
theorem x_dig_full {z : gS} {p : Nat} {d : Dat} (h : SX z p d) (v : VD d) {x : Int32} (hg : ¬ dg d < 7) : f_X5_dig p x z = some (gm1, z) := by
  have := v.1
  unfold f_X5_dig
  rw [h.1, q_iflt (by omega) (by omega), if_neg hg]
theorem SX.set {z : gS} {p : Nat} {d : Dat} (h : SX z p d) {i s : Nat} (hi : i < dg d) : SX (gup z (p + 2) i (nI s)) p (dSet d i s) := by
  refine ⟨?_, ?_, fun k hk => ?_, fun k hk => ?_, fun k hk => ?_⟩
  · rw [gup_n (Or.inl (by omega))]; exact h.1
  · rw [gup_n (Or.inl (by omega))]; exact h.2.1
  · rw [gup_n (Or.inl (by omega))]; exact h.2.2.1 k hk
  · show _ = nI (if k = i then s else ds d k)
    by_cases e : k = i
    · rw [if_pos e, e, gup_s]
    · rw [if_neg e, gup_n (Or.inr e)]; exact h.2.2.2.1 k hk
  · rw [gup_n (Or.inl (by omega))]; exact h.2.2.2.2 k hk
theorem VD.set {d : Dat} (v : VD d) {i s : Nat} (hs : s < 2 ^ dt d) : VD (dSet d i s) := by
  obtain ⟨v1, v2, v3, v4, v5, v6⟩ := v
  refine ⟨v1, v2, v3, fun k hk => ?_, v5, v6⟩
  show (if k = i then s else ds d k) < 2 ^ dt d
  split
  · exact hs
  · exact v4 k hk
def sp_mark (s j : Nat) (b : Bool) : Nat := if b then s ||| 2 ^ j else nd s (2 ^ j)
theorem sp_mark_lt {s j t : Nat} {b : Bool} (hs : s < 2 ^ t) (hj : j < t) : sp_mark s j b < 2 ^ t := by
  unfold sp_mark
  split
  · exact Nat.or_lt_two_pow hs (Nat.pow_lt_pow_right (by omega) hj)
  · exact nd_lt hs
theorem x_mark {z : gS} {p : Nat} {d : Dat} (h : SX z p d) (v : VD d) {i j : Nat} {b : Bool} (hi : i < dg d) (hj : j < dt d) : f_X5_mark p (nI i) (nI j) (nI b.toNat) z = some (nI 1, gup z (p + 2) i (nI (sp_mark (ds d i) j b))) := by
  have h1 := v.1
  have h2 := v.2.1
  unfold f_X5_mark sp_mark
  rw [x_holds h v hi, q_gb, q_if1, x_knows h v hj, q_gb, q_if1, q_ifb, q_gg (by omega) (by omega), q_gg (by omega) (by omega), q_gg (by omega) (by omega), q_gg (by omega) (by omega), nI_clamp (by omega), h.2.2.2.1 i hi, q_sh1 (by omega), q_nd, q_or, q_gl, q_gl]
  cases b <;> rfl
/-- the number of the type with a name; how many there are, if it is none's -/
def fnd (d : Dat) (c : Nat) : Nat := fst (fun k => decide (dn d k = c)) (dt d)
theorem SX.new {z : gS} {p : Nat} {d : Dat} (h : SX z p d) {c : Nat} : SX (gup (gup z (p + 3) (dt d) (nI c)) p 1 (nI (dt d + 1))) p (dNew d c) := by
  refine ⟨?_, gup_s, fun k hk => ?_, fun k hk => ?_, fun k hk => ?_⟩
  · rw [gup_n (Or.inr (by omega)), gup_n (Or.inl (by omega))]; exact h.1
  · rw [gup_n (Or.inl (by omega)), gup_n (Or.inl (by omega))]; exact h.2.2.1 k hk
  · rw [gup_n (Or.inl (by omega)), gup_n (Or.inl (by omega))]; exact h.2.2.2.1 k hk
  · have hk : k < dt d + 1 := hk
    rw [gup_n (Or.inl (by omega))]
    show _ = nI (if k = dt d then c else dn d k)
    by_cases e : k = dt d
    · rw [if_pos e, e, gup_s]
    · rw [if_neg e, gup_n (Or.inr e)]; exact h.2.2.2.2 k (by omega)
theorem x_named {z : gS} {p : Nat} {d : Dat} (h : SX z p d) (v : VD d) {c : Nat} (hc : c < 387420489) : f_X5_named p (nI c) z = some (if fnd d c < dt d then (nI (fnd d c), z) else if dt d < 8 then (nI (dt d), gup (gup z (p + 3) (dt d) (nI c)) p 1 (nI (dt d + 1))) else (gm1, z)) := by
  have h2 := v.2.1
  have hf := fst_le (fun k => decide (dn d k = c)) (dt d)
  unfold f_X5_named f_X5_named_2
  refine gfor0 (fun k => nI k) (e := fnd d c) (by unfold fnd; omega) (fun k rec hk => ?_) (fun rec => ?_)
  · show f_X5_named_2_b p z (nI c) (fun x2 => rec x2) (nI k) = rec (nI (k + 1))
    have hk2 : k < dt d := by unfold fnd at hk; omega
    have h3 := fst_f hk
    have h4 := v.n hk2
    simp only [decide_eq_false_iff_not] at h3
    unfold f_X5_named_2_b
    rw [h.2.1, if_neg (nI_ge hk2 (by omega)), q_gg (by omega) (by omega), nI_clamp (by omega), h.2.2.2.2 k hk2, q_ifeq (by omega) (by omega), if_neg h3, nI_add]
  · show f_X5_named_2_b p z (nI c) (fun x2 => rec x2) (nI (fnd d c)) = _
    unfold f_X5_named_2_b
    by_cases e : fnd d c < dt d
    · have h3 := fst_t (P := fun k => decide (dn d k = c)) e
      have h4 := v.n e
      simp only [decide_eq_true_eq] at h3
      change dn d (fnd d c) = c at h3
      rw [h.2.1, if_neg (nI_ge e (by omega)), q_gg (by omega) (by omega), nI_clamp (by omega), h.2.2.2.2 _ e, q_ifeq (by omega) (by omega), if_pos h3, if_pos e]
    · have e2 : fnd d c = dt d := by unfold fnd at *; omega
      rw [h.2.1, if_pos (nI_le (by omega) (by omega)), if_neg e, q_iflt (by omega) (by omega)]
      by_cases e3 : dt d < 8
      · have e1 : gup z (p + 3) (dt d) (nI c) p 1 = nI (dt d) := by rw [gup_n (Or.inl (by omega)), h.2.1]
        rw [if_pos e3, if_pos e3, q_gg e3 (by omega), q_gl, nI_clamp (by omega), e1, q_gl, nI_add]
      · rw [if_neg e3, if_neg e3]

theorem VD.new {d : Dat} (v : VD d) {c : Nat} (ht : dt d < 8) (hc : c < 387420489) (hf : ¬ fnd d c < dt d) : VD (dNew d c) := by
  obtain ⟨v1, v2, v3, v4, v5, v6⟩ := v
  have hn : ∀ k, k < dt d → dn d k ≠ c := fun k hk => by
    have e : fnd d c = dt d := by have := fst_le (fun k => decide (dn d k = c)) (dt d); unfold fnd at *; omega
    have h3 := fst_f (P := fun k => decide (dn d k = c)) (n := dt d) (i := k) (by unfold fnd at e; omega)
    simpa using h3
  refine ⟨v1, by show dt d + 1 ≤ 8; omega, v3, fun k hk => ?_, fun k hk => ?_, fun i j hi hj e => ?_⟩
  · have := v4 k hk
    show ds d k < 2 ^ (dt d + 1)
    rw [Nat.pow_succ]
    omega
  · have hk : k < dt d + 1 := hk
    show (if k = dt d then c else dn d k) < _
    split
    · exact hc
    · exact v5 k (by omega)
  · have hi : i < dt d + 1 := hi
    have hj : j < dt d + 1 := hj
    have e : (if i = dt d then c else dn d i) = if j = dt d then c else dn d j := e
    by_cases a : i = dt d <;> by_cases b : j = dt d
    · omega
    · rw [if_pos a, if_neg b] at e
      exact absurd e.symm (hn j (by omega))
    · rw [if_neg a, if_pos b] at e
      exact absurd e (hn i (by omega))
    · rw [if_neg a, if_neg b] at e
      exact v6 i j (by omega) (by omega) e
theorem VD.del {d : Dat} (v : VD d) {g : Nat} (hg : g < dg d) : VD (dDel d g) := by
  obtain ⟨v1, v2, v3, v4, v5, v6⟩ := v
  refine ⟨by show dg d - 1 ≤ 7; omega, v2, fun i hi => ?_, fun i hi => ?_, v5, v6⟩
  · have hi : i < dg d - 1 := hi
    show (if i < g then da d i else da d (i + 1)) ≤ 999
    split
    · exact v3 i (by omega)
    · exact v3 (i + 1) (by omega)
  · have hi : i < dg d - 1 := hi
    show (if i < g then ds d i else ds d (i + 1)) < 2 ^ dt d
    split
    · exact v4 i (by omega)
    · exact v4 (i + 1) (by omega)
/-- two rows shifted down by one from g on, j of it -/
def shf (z : gS) (p1 p2 g j : Nat) : gS := fun a b => if (a = p1 ∨ a = p2) ∧ g ≤ b ∧ b < g + j then z a (b + 1) else z a b
theorem shf_0 {z : gS} {p1 p2 g : Nat} : shf z p1 p2 g 0 = z := by
  funext a b
  unfold shf
  rw [if_neg (by omega)]
theorem shf_s {z : gS} {p1 p2 g j : Nat} (hp : p1 ≠ p2) : gup (gup (shf z p1 p2 g j) p1 (g + j) (shf z p1 p2 g j p1 (g + j + 1))) p2 (g + j) (gup (shf z p1 p2 g j) p1 (g + j) (shf z p1 p2 g j p1 (g + j + 1)) p2 (g + j + 1)) = shf z p1 p2 g (j + 1) := by
  have e1 : shf z p1 p2 g j p1 (g + j + 1) = z p1 (g + j + 1) := by unfold shf; rw [if_neg (by omega)]
  have e2 : gup (shf z p1 p2 g j) p1 (g + j) (z p1 (g + j + 1)) p2 (g + j + 1) = z p2 (g + j + 1) := by
    rw [gup_n (Or.inr (by omega))]
    unfold shf
    rw [if_neg (by omega)]
  rw [e1, e2]
  funext a b
  by_cases c1 : a = p2 ∧ b = g + j
  · obtain ⟨rfl, rfl⟩ := c1
    rw [gup_s]
    unfold shf
    rw [if_pos (by omega)]
  · rw [gup_n (by omega)]
    by_cases c2 : a = p1 ∧ b = g + j
    · obtain ⟨rfl, rfl⟩ := c2
      rw [gup_s]
      unfold shf
      rw [if_pos (by omega)]
    · rw [gup_n (by omega)]
      unfold shf
      by_cases c3 : (a = p1 ∨ a = p2) ∧ g ≤ b ∧ b < g + j
      · rw [if_pos c3, if_pos (by omega)]
      · rw [if_neg c3, if_neg (by omega)]
theorem x_remove {z : gS} {p : Nat} {d : Dat} (h : SX z p d) (v : VD d) {g : Nat} (hg : g < dg d) : f_X5_remove p (nI g) z = some (gup (shf z (p + 1) (p + 2) g (dg d - 1 - g)) p 0 (nI (dg d - 1))) := by
  have h1 := v.1
  have hp0 : ∀ j, shf z (p + 1) (p + 2) g j p 0 = nI (dg d) := fun j => by unfold shf; rw [if_neg (by omega), h.1]
  unfold f_X5_remove f_X5_remove_2
  rw [show (nI g, z) = ((fun j => (nI (g + j), shf z (p + 1) (p + 2) g j)) 0) by simp [shf_0]]
  refine gfor0 (fun j => (nI (g + j), shf z (p + 1) (p + 2) g j)) (e := dg d - 1 - g) (by omega) (fun j rec hj => ?_) (fun rec => ?_)
  · show f_X5_remove_2_b p (fun x2 z => rec (x2, z)) (nI (g + j)) (shf z (p + 1) (p + 2) g j) = rec (nI (g + (j + 1)), shf z (p + 1) (p + 2) g (j + 1))
    unfold f_X5_remove_2_b
    rw [hp0, nI_add, if_neg (nI_ge (by omega) (by omega)), q_gg (by omega) (by omega), q_gg (by omega) (by omega), nI_clamp (by omega), nI_clamp (by omega), q_gl, q_gg (by omega) (by omega), q_gg (by omega) (by omega), q_gl, shf_s (by omega)]
    rfl
  · show f_X5_remove_2_b p (fun x2 z => rec (x2, z)) (nI (g + (dg d - 1 - g))) (shf z (p + 1) (p + 2) g (dg d - 1 - g)) = _
    unfold f_X5_remove_2_b
    rw [hp0, nI_add, if_pos (nI_le (by omega) (by omega)), pk_sub (by omega), q_gl]
theorem x_removed {z : gS} {p : Nat} {d : Dat} (h : SX z p d) {g : Nat} (hg : g < dg d) : SX (gup (shf z (p + 1) (p + 2) g (dg d - 1 - g)) p 0 (nI (dg d - 1))) p (dDel d g) := by
  have key : ∀ (q : Nat) (f : Nat → Nat), (q = p + 1 ∨ q = p + 2) → (∀ i, i < dg d → z q i = nI (f i)) → ∀ i, i < dg d - 1 → gup (shf z (p + 1) (p + 2) g (dg d - 1 - g)) p 0 (nI (dg d - 1)) q i = nI (if i < g then f i else f (i + 1)) := fun q f hq hf i hi => by
    rw [gup_n (Or.inl (by omega))]
    unfold shf
    by_cases e : i < g
    · rw [if_neg (by omega), if_pos e, hf i (by omega)]
    · rw [if_pos (by omega), if_neg e, hf (i + 1) (by omega)]
  refine ⟨gup_s, ?_, fun i hi => key (p + 1) _ (Or.inl rfl) h.2.2.1 i hi, fun i hi => key (p + 2) _ (Or.inr rfl) h.2.2.2.1 i hi, fun i hi => ?_⟩
  · rw [gup_n (Or.inr (by omega))]
    unfold shf
    rw [if_neg (by omega)]
    exact h.2.1
  · rw [gup_n (Or.inl (by omega))]
    unfold shf
    rw [if_neg (by omega)]
    exact h.2.2.2.2 i hi
theorem Fr.sh {z : gS} {p g j : Nat} : Fr z (shf z (p + 1) (p + 2) g j) p := fun a ha => by
  funext b
  unfold shf
  rw [if_neg (by omega)]
theorem gcp_n {z : gS} {q0 q1 sp dp n a b : Nat} (h : a ≠ q1) : gcp z q0 q1 sp dp n a b = z a b := if_neg (by omega)
theorem gcp_s {z : gS} {q0 q1 n b : Nat} (h : b < n) : gcp z q0 q1 0 0 n q1 b = z q0 b := by
  unfold gcp
  rw [if_pos (by omega)]
  congr 1
  omega
theorem gc_0 {r : Type} {n : Nat} {x : Option r} (h : n < 2 ^ 31) : gc (nI 0) (nI 0) (nI n) n n x = x := by
  unfold gc
  rw [if_neg]
  rw [nI_clamp (by omega), nI_clamp (by omega)]
  have h0 := nI_pos (n := 0) (by omega)
  have h1 := nI_pos h
  simp only [not_or]
  exact ⟨h0, h0, h1, by omega, by omega⟩
theorem x_become {z : gS} {p q : Nat} {d : Dat} (hpq : q + 3 < p ∨ p + 3 < q) (h : SX z q d) (v : VD d) : ∃ z', f_X5_become p q z = some z' ∧ SX z' p d ∧ Fr z z' p := by
  have v1 := v.1
  have v2 := v.2.1
  have e0 : (nI 0).toNatClampNeg = 0 := by decide
  have e7 : (nI 7).toNatClampNeg = 7 := by decide
  have e8 : (nI 8).toNatClampNeg = 8 := by decide
  refine ⟨gcp (gcp (gcp (gup (gup z p 0 (z q 0)) p 1 (z q 1)) (q + 1) (p + 1) 0 0 7) (q + 2) (p + 2) 0 0 7) (q + 3) (p + 3) 0 0 8, ?_, ⟨?_, ?_, fun i hi => ?_, fun i hi => ?_, fun i hi => ?_⟩, fun a ha => ?_⟩
  · unfold f_X5_become
    rw [q_gl, q_gl, gc_0 (by omega), q_gl, gc_0 (by omega), q_gl, gc_0 (by omega), q_gl, e0, e7, e8, gup_n (Or.inl (by omega))]
  · rw [gcp_n (by omega), gcp_n (by omega), gcp_n (by omega), gup_n (Or.inr (by omega)), gup_s]
    exact h.1
  · rw [gcp_n (by omega), gcp_n (by omega), gcp_n (by omega), gup_s]
    exact h.2.1
  · rw [gcp_n (by omega), gcp_n (by omega), gcp_s (by omega), gup_n (Or.inl (by omega)), gup_n (Or.inl (by omega))]
    exact h.2.2.1 i hi
  · rw [gcp_n (by omega), gcp_s (by omega), gcp_n (by omega), gup_n (Or.inl (by omega)), gup_n (Or.inl (by omega))]
    exact h.2.2.2.1 i hi
  · rw [gcp_s (by omega), gcp_n (by omega), gcp_n (by omega), gup_n (Or.inl (by omega)), gup_n (Or.inl (by omega))]
    exact h.2.2.2.2 i hi
  · funext b
    rw [gcp_n (by omega), gcp_n (by omega), gcp_n (by omega), gup_n (Or.inl (by omega)), gup_n (Or.inl (by omega))]
