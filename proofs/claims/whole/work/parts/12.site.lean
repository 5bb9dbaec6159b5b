/-! the abstract site: graves, types, ages, sets, names -/
abbrev Dat : Type := Nat × Nat × (Nat → Nat) × (Nat → Nat) × (Nat → Nat)
def dg (d : Dat) : Nat := d.1
def dt (d : Dat) : Nat := d.2.1
def da (d : Dat) : Nat → Nat := d.2.2.1
def ds (d : Dat) : Nat → Nat := d.2.2.2.1
def dn (d : Dat) : Nat → Nat := d.2.2.2.2
/-- what holds of every site: names are distinct -/
def VD (d : Dat) : Prop := dg d ≤ 7 ∧ dt d ≤ 8 ∧ (∀ i, i < dg d → da d i ≤ 999) ∧ (∀ i, i < dg d → ds d i < 2 ^ dt d) ∧ (∀ i, i < dt d → dn d i < 387420489) ∧ ∀ i j, i < dt d → j < dt d → dn d i = dn d j → i = j
/-- the class's Site at place p, and the reference's -/
def SX (z : gS) (p : Nat) (d : Dat) : Prop := z p 0 = nI (dg d) ∧ z p 1 = nI (dt d) ∧ (∀ i, i < dg d → z (p + 1) i = nI (da d i)) ∧ (∀ i, i < dg d → z (p + 2) i = nI (ds d i)) ∧ ∀ i, i < dt d → z (p + 3) i = nI (dn d i)
def SM (w : gS) (d : Dat) : Prop := w 0 1 = nI (dg d) ∧ w 0 2 = nI (dt d) ∧ (∀ i, i < dg d → w 1 i = nI (da d i)) ∧ (∀ i, i < dg d → w 2 i = nI (ds d i)) ∧ ∀ i, i < dt d → w 3 i = nI (dn d i)
theorem VD.s {d : Dat} (v : VD d) {i : Nat} (h : i < dg d) : ds d i < 256 := by
  have h1 := v.2.2.2.1 i h
  have h2 : 2 ^ dt d ≤ 2 ^ 8 := Nat.pow_le_pow_right (by omega) v.2.1
  omega
theorem VD.a {d : Dat} (v : VD d) {i : Nat} (h : i < dg d) : da d i < 1000 := by have := v.2.2.1 i h; omega
theorem VD.n {d : Dat} (v : VD d) {i : Nat} (h : i < dt d) : dn d i < 387420489 := v.2.2.2.2.1 i h
theorem and_lt {a b n : Nat} (h : a < n) : a &&& b < n := Nat.lt_of_le_of_lt Nat.and_le_left h
theorem x_holds_n {z : gS} {p : Nat} {d : Dat} (h : SX z p d) {x : Int32} (hx : x < 0 ∨ nI (dg d) ≤ x) : f_X5_holds p x z = some (nI 0) := by
  unfold f_X5_holds
  rw [h.1]
  rcases hx with hx | hx
  · rw [if_pos hx]
  · rw [if_pos hx]; split <;> rfl
theorem x_holds {z : gS} {p : Nat} {d : Dat} (h : SX z p d) (v : VD d) {i : Nat} (hi : i < dg d) : f_X5_holds p (nI i) z = some (nI 1) := by
  have := v.1
  unfold f_X5_holds
  rw [h.1, if_neg (nI_pos (by omega)), if_neg (nI_ge hi (by omega))]
theorem x_holds_big {z : gS} {p : Nat} {d : Dat} (h : SX z p d) (v : VD d) {i : Nat} (hi : dg d ≤ i) (hb : i < 2 ^ 31) : f_X5_holds p (nI i) z = some (nI 0) := x_holds_n h (Or.inr (nI_le hi hb))
theorem x_knows_n {z : gS} {p : Nat} {d : Dat} (h : SX z p d) {x : Int32} (hx : x < 0 ∨ nI (dt d) ≤ x) : f_X5_knows p x z = some (nI 0) := by
  unfold f_X5_knows
  rw [h.2.1]
  rcases hx with hx | hx
  · rw [if_pos hx]
  · rw [if_pos hx]; split <;> rfl
theorem x_knows {z : gS} {p : Nat} {d : Dat} (h : SX z p d) (v : VD d) {i : Nat} (hi : i < dt d) : f_X5_knows p (nI i) z = some (nI 1) := by
  have := v.2.1
  unfold f_X5_knows
  rw [h.2.1, if_neg (nI_pos (by omega)), if_neg (nI_ge hi (by omega))]
theorem x_everybody {z : gS} {p : Nat} {d : Dat} (h : SX z p d) (v : VD d) : f_X5_everybody p z = some (nI (2 ^ dg d - 1)) := by
  have := v.1
  have hp : 1 ≤ 2 ^ dg d := Nat.one_le_two_pow
  unfold f_X5_everybody
  rw [h.1, q_sh1 (by omega), pk_sub hp]
theorem x_everything {z : gS} {p : Nat} {d : Dat} (h : SX z p d) (v : VD d) : f_X5_everything p z = some (nI (2 ^ dt d - 1)) := by
  have := v.2.1
  have hp : 1 ≤ 2 ^ dt d := Nat.one_le_two_pow
  unfold f_X5_everything
  rw [h.2.1, q_sh1 (by omega), pk_sub hp]
theorem x_owns {z : gS} {p : Nat} {d : Dat} (h : SX z p d) (v : VD d) {i j : Nat} (hi : i < dg d) (hj : j < 31) : f_X5_owns p (nI i) (nI j) z = some (nI ((ds d i).testBit j).toNat) := by
  have h1 := v.1
  have h2 := v.s hi
  unfold f_X5_owns
  rw [x_holds h v hi, q_gb, if_neg (show ¬ nI 1 = 0 by decide), q_gg (by omega) (by omega), nI_clamp (by omega), h.2.2.2.1 i hi, q_bit (by omega) (by omega)]
  cases (ds d i).testBit j <;> rfl
theorem x_common {z : gS} {p : Nat} {d : Dat} (h : SX z p d) (v : VD d) {i j : Nat} (hi : i < dg d) (hj : j < dg d) : f_X5_common p (nI i) (nI j) z = some (nI (pop (ds d i &&& ds d j))) := by
  have h1 := v.1
  have h2 := v.s hi
  unfold f_X5_common
  rw [x_holds h v hi, q_gb, if_neg (show ¬ nI 1 = 0 by decide), x_holds h v hj, q_gb, if_neg (show ¬ nI 1 = 0 by decide), q_gg (by omega) (by omega), q_gg (by omega) (by omega), nI_clamp (by omega), nI_clamp (by omega), h.2.2.2.1 i hi, h.2.2.2.1 j hj, q_and, q_bc (and_lt h2)]
  rfl
theorem pop_pos : ∀ a, a < 256 → (0 < pop a ↔ a ≠ 0) := by decide +kernel
def sp_peers (d : Dat) (i : Nat) : Nat := cntB (fun k => decide (ds d k = ds d i) && decide (da d k % 100 = da d i % 100)) (dg d)
def sp_friends (d : Dat) (i : Nat) : Nat := cntB (fun k => !decide (k = i) && !decide (ds d k &&& ds d i = 0)) (dg d)
def sp_bare (d : Dat) : Nat := cntB (fun k => decide (ds d k = 0)) (dg d)
def sp_owners (d : Dat) (j : Nat) : Nat := setB (fun k => (ds d k).testBit j) (dg d)
theorem x_peers {z : gS} {p : Nat} {d : Dat} (h : SX z p d) (v : VD d) {i : Nat} (hi : i < dg d) : f_X5_peers p (nI i) z = some (nI (sp_peers d i)) := by
  have h1 := v.1
  have h2 := v.s hi
  have h3 := v.a hi
  unfold f_X5_peers f_X5_peers_4 sp_peers
  refine gfor0 (fun k => (nI (cntB (fun k => decide (ds d k = ds d i) && decide (da d k % 100 = da d i % 100)) k), nI k)) (e := dg d) (by omega) (fun k rec hk => ?_) (fun rec => ?_)
  · have h4 := v.s hk
    have h5 := v.a hk
    show f_X5_peers_4_b p z (nI i) (fun x2 x3 => rec (x2, x3)) (nI (cntB _ k)) (nI k) = rec (nI (cntB _ k + _), nI (k + 1))
    unfold f_X5_peers_4_b
    rw [h.1, if_neg (nI_ge hk (by omega)), q_gg (by omega) (by omega), q_gg (by omega) (by omega), nI_clamp (by omega), nI_clamp (by omega), h.2.2.2.1 k hk, h.2.2.2.1 i hi, h.2.2.1 k hk, h.2.2.1 i hi, pk_rem (by omega) (by omega) (by omega), pk_rem (by omega) (by omega) (by omega), q_gg (by omega) (by omega), q_gg (by omega) (by omega), nI_add, nI_add]
    by_cases e : ds d k = ds d i
    · rw [if_pos (by rw [e])]
      by_cases e2 : da d k % 100 = da d i % 100
      · rw [if_pos (by rw [e2])]; simp [e, e2]
      · rw [if_neg (by rw [nI_eq (by omega) (by omega)]; exact e2)]; simp [e, e2]
    · rw [if_neg (by rw [nI_eq (by omega) (by omega)]; exact e)]; simp [e]
  · show f_X5_peers_4_b p z (nI i) (fun x2 x3 => rec (x2, x3)) (nI (cntB _ (dg d))) (nI (dg d)) = _
    unfold f_X5_peers_4_b
    rw [h.1, if_pos (nI_le (Nat.le_refl _) (by omega))]

theorem x_friends {z : gS} {p : Nat} {d : Dat} (h : SX z p d) (v : VD d) {i : Nat} (hi : i < dg d) : f_X5_friends p (nI i) z = some (nI (sp_friends d i)) := by
  have h1 := v.1
  have h2 := v.s hi
  unfold f_X5_friends f_X5_friends_4 sp_friends
  refine gfor0 (fun k => (nI (cntB (fun k => !decide (k = i) && !decide (ds d k &&& ds d i = 0)) k), nI k)) (e := dg d) (by omega) (fun k rec hk => ?_) (fun rec => ?_)
  · have h4 := v.s hk
    show f_X5_friends_4_b p z (nI i) (fun x2 x3 => rec (x2, x3)) (nI (cntB _ k)) (nI k) = rec (nI (cntB _ k + _), nI (k + 1))
    unfold f_X5_friends_4_b
    rw [h.1, if_neg (nI_ge hk (by omega)), nI_add, nI_add, x_common h v hk hi, q_gb]
    have h5 := pop_pos _ (and_lt (b := ds d i) h4)
    have h6 := pop_le (ds d k &&& ds d i)
    by_cases e : k = i
    · rw [if_pos (by rw [e])]; simp [e]
    · rw [if_neg (by rw [nI_eq (by omega) (by omega)]; exact e), q_ifle0 (by omega)]
      by_cases e2 : ds d k &&& ds d i = 0
      · rw [if_pos (by omega)]; simp [e2]
      · rw [if_neg (by omega)]; simp [e, e2]
  · show f_X5_friends_4_b p z (nI i) (fun x2 x3 => rec (x2, x3)) (nI (cntB _ (dg d))) (nI (dg d)) = _
    unfold f_X5_friends_4_b
    rw [h.1, if_pos (nI_le (Nat.le_refl _) (by omega))]
theorem x_bare {z : gS} {p : Nat} {d : Dat} (h : SX z p d) (v : VD d) : f_X5_bare p z = some (nI (sp_bare d)) := by
  have h1 := v.1
  unfold f_X5_bare f_X5_bare_4 sp_bare
  refine gfor0 (fun k => (nI (cntB (fun k => decide (ds d k = 0)) k), nI k)) (e := dg d) (by omega) (fun k rec hk => ?_) (fun rec => ?_)
  · have h4 := v.s hk
    show f_X5_bare_4_b p z (fun x2 x3 => rec (x2, x3)) (nI (cntB _ k)) (nI k) = rec (nI (cntB _ k + _), nI (k + 1))
    unfold f_X5_bare_4_b
    rw [h.1, if_neg (nI_ge hk (by omega)), nI_add, nI_add, q_gg (by omega) (by omega), nI_clamp (by omega), h.2.2.2.1 k hk, q_if0 (by omega)]
    by_cases e : ds d k = 0
    · rw [if_pos e]; simp [e]
    · rw [if_neg e]; simp [e]
  · show f_X5_bare_4_b p z (fun x2 x3 => rec (x2, x3)) (nI (cntB _ (dg d))) (nI (dg d)) = _
    unfold f_X5_bare_4_b
    rw [h.1, if_pos (nI_le (Nat.le_refl _) (by omega))]
theorem x_owners {z : gS} {p : Nat} {d : Dat} (h : SX z p d) (v : VD d) {j : Nat} (hj : j < 31) : f_X5_owners p (nI j) z = some (nI (sp_owners d j)) := by
  have h1 := v.1
  unfold f_X5_owners f_X5_owners_4 sp_owners
  refine gfor0 (fun k => (nI (setB (fun k => (ds d k).testBit j) k), nI k)) (e := dg d) (by omega) (fun k rec hk => ?_) (fun rec => ?_)
  · have h4 := v.s hk
    show f_X5_owners_4_b p z (nI j) (fun x2 x3 => rec (x2, x3)) (nI (setB _ k)) (nI k) = rec (nI (setB _ (k + 1)), nI (k + 1))
    unfold f_X5_owners_4_b
    rw [h.1, if_neg (nI_ge hk (by omega)), nI_add, x_owns h v hk hj, q_gb, q_ifb, q_sh1 (by omega), q_or]
    conv => rhs; unfold setB
    cases e : (ds d k).testBit j <;> rfl
  · show f_X5_owners_4_b p z (nI j) (fun x2 x3 => rec (x2, x3)) (nI (setB _ (dg d))) (nI (dg d)) = _
    unfold f_X5_owners_4_b
    rw [h.1, if_pos (nI_le (Nat.le_refl _) (by omega))]
