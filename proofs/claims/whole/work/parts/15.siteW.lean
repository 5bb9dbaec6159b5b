/-! what changes a site -/
/-- all places but the four of the site at p are as they were -/
def Fr (z z' : gS) (p : Nat) : Prop := ∀ k, k < p ∨ p + 3 < k → z' k = z k
theorem Fr.rf {z : gS} {p : Nat} : Fr z z p := fun _ _ => rfl
theorem Fr.tr {z z1 z2 : gS} {p : Nat} (h1 : Fr z z1 p) (h2 : Fr z1 z2 p) : Fr z z2 p := fun k hk => (h2 k hk).trans (h1 k hk)
theorem Fr.up {z : gS} {p k j : Nat} {v : Int32} (h1 : p ≤ k) (h2 : k ≤ p + 3) : Fr z (gup z k j v) p := fun a ha => by
  funext b
  exact gup_n (Or.inl (by omega))
def dAdd (d : Dat) (a s : Nat) : Dat := (dg d + 1, dt d, fun i => if i = dg d then a else da d i, fun i => if i = dg d then s else ds d i, dn d)
def dSet (d : Dat) (g s : Nat) : Dat := (dg d, dt d, da d, fun i => if i = g then s else ds d i, dn d)
def dNew (d : Dat) (c : Nat) : Dat := (dg d, dt d + 1, da d, ds d, fun i => if i = dt d then c else dn d i)
def dDel (d : Dat) (g : Nat) : Dat := (dg d - 1, dt d, fun i => if i < g then da d i else da d (i + 1), fun i => if i < g then ds d i else ds d (i + 1), dn d)
theorem VD.add {d : Dat} (v : VD d) {a s : Nat} (hg : dg d < 7) (ha : a ≤ 999) (hs : s < 2 ^ dt d) : VD (dAdd d a s) := by
  obtain ⟨v1, v2, v3, v4, v5, v6⟩ := v
  refine ⟨by show dg d + 1 ≤ 7; omega, v2, fun i hi => ?_, fun i hi => ?_, v5, v6⟩
  · have hi : i < dg d + 1 := hi
    show (if i = dg d then a else da d i) ≤ 999
    split
    · exact ha
    · exact v3 i (by omega)
  · have hi : i < dg d + 1 := hi
    show (if i = dg d then s else ds d i) < 2 ^ dt d
    split
    · exact hs
    · exact v4 i (by omega)
theorem x_dig {z : gS} {p : Nat} {d : Dat} (h : SX z p d) (v : VD d) {a : Nat} (hg : dg d < 7) : ∃ z', f_X5_dig p (nI a) z = some (nI (dg d), z') ∧ SX z' p (dAdd d a 0) ∧ Fr z z' p := by
  refine ⟨gup (gup (gup z (p + 1) (dg d) (nI a)) (p + 2) (dg d) (nI 0)) p 0 (nI (dg d + 1)), ?_, ⟨?_, ?_, fun i hi => ?_, fun i hi => ?_, fun i hi => ?_⟩, ?_⟩
  · unfold f_X5_dig
    have e1 : gup z (p + 1) (dg d) (nI a) p 0 = nI (dg d) := by rw [gup_n (Or.inl (by omega)), h.1]
    have e2 : gup (gup z (p + 1) (dg d) (nI a)) (p + 2) (dg d) (nI 0) p 0 = nI (dg d) := by rw [gup_n (Or.inl (by omega)), e1]
    rw [h.1, q_iflt (by omega) (by omega), if_pos hg, q_gg hg (by omega), q_gl, nI_clamp (by omega), e1, q_gg hg (by omega), q_gl, nI_clamp (by omega), e2, q_gl, nI_add]
  · exact gup_s
  · rw [gup_n (Or.inr (by omega)), gup_n (Or.inl (by omega)), gup_n (Or.inl (by omega))]
    exact h.2.1
  · have hi : i < dg d + 1 := hi
    rw [gup_n (Or.inl (by omega)), gup_n (Or.inl (by omega))]
    show _ = nI (if i = dg d then a else da d i)
    by_cases e : i = dg d
    · rw [if_pos e, e, gup_s]
    · rw [if_neg e, gup_n (Or.inr e), h.2.2.1 i (by omega)]
  · have hi : i < dg d + 1 := hi
    rw [gup_n (Or.inl (by omega))]
    show _ = nI (if i = dg d then 0 else ds d i)
    by_cases e : i = dg d
    · rw [if_pos e, e, gup_s]
    · rw [if_neg e, gup_n (Or.inr e), gup_n (Or.inl (by omega)), h.2.2.2.1 i (by omega)]
  · rw [gup_n (Or.inl (by omega)), gup_n (Or.inl (by omega)), gup_n (Or.inl (by omega))]
    exact h.2.2.2.2 i hi
  · exact ((Fr.up (by omega) (by omega)).tr (Fr.up (by omega) (by omega))).tr (Fr.up (by omega) (by omega))
theorem x_dig_full {z : gS} {p : Nat} {d : Dat} (h : SX z p d) (v : VD d) {x : Int32} (hg : ¬ dg d < 7) : f_X5_dig p x z = some (gm1, z) := by
  have := v.1
  unfold f_X5_dig
  rw [h.1, q_iflt (by omega) (by omega), if_neg hg]
theorem SX.set {z : gS} {p : Nat} {d : Dat} (h : SX z p d) {i s : Nat} (hi : i < dg d) : SX (gup z (p + 2) i (nI s)) p (dSet d i s) := by
  refine ⟨?_, ?_, fun k hk => ?_, fun k hk => ?_, fun k hk => ?_⟩
  · rw [gup_n (Or.inl (by omega))]; exact h.1
  · rw [gup_n (Or.inl (by omega))]; exact h.2.1
  · rw [gup_n (Or.inl (by omega))]; exact h.2.2.1 k hk
  · show _ = nI (if k = i then s else ds d k)
    by_cases e : k = i
    · rw [if_pos e, e, gup_s]
    · rw [if_neg e, gup_n (Or.inr e)]; exact h.2.2.2.1 k hk
  · rw [gup_n (Or.inl (by omega))]; exact h.2.2.2.2 k hk
theorem VD.set {d : Dat} (v : VD d) {i s : Nat} (hs : s < 2 ^ dt d) : VD (dSet d i s) := by
  obtain ⟨v1, v2, v3, v4, v5, v6⟩ := v
  refine ⟨v1, v2, v3, fun k hk => ?_, v5, v6⟩
  show (if k = i then s else ds d k) < 2 ^ dt d
  split
  · exact hs
  · exact v4 k hk
def sp_mark (s j : Nat) (b : Bool) : Nat := if b then s ||| 2 ^ j else nd s (2 ^ j)
theorem sp_mark_lt {s j t : Nat} {b : Bool} (hs : s < 2 ^ t) (hj : j < t) : sp_mark s j b < 2 ^ t := by
  unfold sp_mark
  split
  · exact Nat.or_lt_two_pow hs (Nat.pow_lt_pow_right (by omega) hj)
  · exact nd_lt hs
theorem x_mark {z : gS} {p : Nat} {d : Dat} (h : SX z p d) (v : VD d) {i j : Nat} {b : Bool} (hi : i < dg d) (hj : j < dt d) : f_X5_mark p (nI i) (nI j) (nI b.toNat) z = some (nI 1, gup z (p + 2) i (nI (sp_mark (ds d i) j b))) := by
  have h1 := v.1
  have h2 := v.2.1
  unfold f_X5_mark sp_mark
  rw [x_holds h v hi, q_gb, q_if1, x_knows h v hj, q_gb, q_if1, q_ifb, q_gg (by omega) (by omega), q_gg (by omega) (by omega), q_gg (by omega) (by omega), q_gg (by omega) (by omega), nI_clamp (by omega), h.2.2.2.1 i hi, q_sh1 (by omega), q_nd, q_or, q_gl, q_gl]
  cases b <;> rfl
