/-! names: six figures to the base 27 -/
def lt (c k : Nat) : Nat := c / 27 ^ (5 - k) % 27
theorem lt_lt (c k : Nat) : lt c k < 27 := Nat.mod_lt _ (by omega)
def lnF (c : Nat) : Nat → Nat → Nat
  | 0, k => k
  | r + 1, k => if lt c k = 0 then k else lnF c r (k + 1)
def ln (c : Nat) : Nat := lnF c 6 0
theorem lnF_s (c : Nat) : ∀ r k, k + r = 6 → (k ≤ lnF c r k ∧ lnF c r k ≤ 6) ∧ (∀ i, k ≤ i → i < lnF c r k → lt c i ≠ 0) ∧ (lnF c r k < 6 → lt c (lnF c r k) = 0)
  | 0, k, h => ⟨⟨Nat.le_refl _, by show k ≤ 6; omega⟩, fun i h1 h2 => by have h2 : i < k := h2; omega, fun h1 => by have h1 : k < 6 := h1; omega⟩
  | r + 1, k, h => by
    unfold lnF
    by_cases e : lt c k = 0
    · rw [if_pos e]
      exact ⟨⟨Nat.le_refl _, by omega⟩, fun i h1 h2 => by omega, fun _ => e⟩
    · rw [if_neg e]
      obtain ⟨⟨h1, h2⟩, h3, h4⟩ := lnF_s c r (k + 1) (by omega)
      refine ⟨⟨by omega, h2⟩, fun i g1 g2 => ?_, h4⟩
      by_cases q : i = k
      · rw [q]; exact e
      · exact h3 i (by omega) g2
theorem ln_le (c : Nat) : ln c ≤ 6 := (lnF_s c 6 0 rfl).1.2
theorem ln_ne (c : Nat) {i : Nat} (h : i < ln c) : lt c i ≠ 0 := (lnF_s c 6 0 rfl).2.1 i (Nat.zero_le _) h
theorem ln_0 (c : Nat) (h : ln c < 6) : lt c (ln c) = 0 := (lnF_s c 6 0 rfl).2.2 h
def sp_letter (c k : Nat) : Int32 := if lt c k = 0 then gm1 else nI (96 + lt c k)
theorem gWo_n : ∀ k, k < 6 → gWo k = nI (27 ^ (5 - k)) ∧ 0 < 27 ^ (5 - k) ∧ 27 ^ (5 - k) < 2 ^ 31 := by decide
theorem x_letter {z : gS} {c k : Nat} (hc : c < 387420489) (hk : k < 6) : f_X2_letter (nI c) (nI k) z = some (sp_letter c k) := by
  obtain ⟨h1, h2, h3⟩ := gWo_n k hk
  have h4 := lt_lt c k
  have h5 : c / 27 ^ (5 - k) < 2 ^ 31 := Nat.lt_of_le_of_lt (Nat.div_le_self _ _) (by omega)
  unfold f_X2_letter
  rw [q_iflt0 (by omega), q_iflt (by omega) (by omega), if_pos hk, q_gg hk (by omega), nI_clamp (by omega), h1, gn, if_neg (nI_ne0 h2 h3), pk_div (by omega) h2 h3, pk_rem h5 (by omega) (by omega), q_gl, q_if0 (by show lt c k < 2 ^ 31; omega), nI_add]
  unfold sp_letter
  change (if lt c k = 0 then some gm1 else some (nI (97 + lt c k) - nI 1)) = _
  by_cases e : lt c k = 0
  · rw [if_pos e, if_pos e]
  · rw [if_neg e, if_neg e, pk_sub (by omega)]
    show some (nI (97 + lt c k - 1)) = _
    rw [show 97 + lt c k - 1 = 96 + lt c k by omega]
theorem x_length {z : gS} {c : Nat} (hc : c < 387420489) : f_X2_length (nI c) z = some (nI (ln c)) := by
  have h6 := ln_le c
  unfold f_X2_length f_X2_length_4
  refine gfor0 (fun k => (nI k, nI k)) (e := ln c) (by omega) (fun k rec hk => ?_) (fun rec => ?_)
  · show f_X2_length_4_b z (nI c) (fun x1 x2 => rec (x1, x2)) (nI k) (nI k) = rec (nI (k + 1), nI (k + 1))
    have h1 := ln_ne c hk
    have h2 := lt_lt c k
    unfold f_X2_length_4_b
    rw [if_neg (nI_ge (show k < 6 by omega) (by omega)), x_letter hc (by omega), q_gb, nI_add]
    unfold sp_letter
    rw [if_neg h1, q_iflt0 (by omega)]
  · show f_X2_length_4_b z (nI c) (fun x1 x2 => rec (x1, x2)) (nI (ln c)) (nI (ln c)) = _
    unfold f_X2_length_4_b
    by_cases e : ln c < 6
    · rw [if_neg (nI_ge e (by omega)), x_letter hc e, q_gb]
      unfold sp_letter
      rw [if_pos (ln_0 c e), q_ifm]
    · rw [if_pos (nI_le (by omega) (by omega))]
theorem m_letterOf {w : gS} {c k : Nat} (hc : c < 387420489) (hk : k < 6) : f_X11_letterOf (nI c) (nI k) w = some (nI (lt c k)) := by
  unfold f_X11_letterOf f_X11_letterOf_4
  rw [show (nI c, nI k) = ((fun j => (nI (c / 27 ^ j), nI (k + j))) 0) by simp]
  refine gfor0 (fun j => (nI (c / 27 ^ j), nI (k + j))) (e := 5 - k) (by omega) (fun j rec hj => ?_) (fun rec => ?_)
  · show f_X11_letterOf_4_b w (fun x2 x3 => rec (x2, x3)) (nI (c / 27 ^ j)) (nI (k + j)) = rec (nI (c / 27 ^ (j + 1)), nI (k + (j + 1)))
    have h1 : c / 27 ^ j < 2 ^ 31 := Nat.lt_of_le_of_lt (Nat.div_le_self _ _) (by omega)
    unfold f_X11_letterOf_4_b
    rw [if_neg (nI_ge (by omega) (by omega)), pk_div h1 (by omega) (by omega), q_gl, nI_add, Nat.div_div_eq_div_mul, ← Nat.pow_succ]
    rfl
  · show f_X11_letterOf_4_b w (fun x2 x3 => rec (x2, x3)) (nI (c / 27 ^ (5 - k))) (nI (k + (5 - k))) = _
    have h1 : c / 27 ^ (5 - k) < 2 ^ 31 := Nat.lt_of_le_of_lt (Nat.div_le_self _ _) (by omega)
    unfold f_X11_letterOf_4_b
    rw [if_pos (nI_le (by omega) (by omega)), pk_rem h1 (by omega) (by omega)]
    rfl
theorem m_lettersOf {w : gS} {c : Nat} (hc : c < 387420489) : f_X11_lettersOf (nI c) w = some (nI (ln c)) := by
  have h6 := ln_le c
  unfold f_X11_lettersOf f_X11_lettersOf_2
  refine gfor0 (fun k => nI k) (e := ln c) (by omega) (fun k rec hk => ?_) (fun rec => ?_)
  · show f_X11_lettersOf_2_b w (nI c) (fun x1 => rec x1) (nI k) = rec (nI (k + 1))
    have h1 := ln_ne c hk
    have h2 := lt_lt c k
    unfold f_X11_lettersOf_2_b
    rw [if_neg (nI_ge (show k < 6 by omega) (by omega)), m_letterOf hc (by omega), q_gb, nI_add, q_ifle0 (by omega), if_neg h1]
  · show f_X11_lettersOf_2_b w (nI c) (fun x1 => rec x1) (nI (ln c)) = _
    unfold f_X11_lettersOf_2_b
    by_cases e : ln c < 6
    · rw [if_neg (nI_ge e (by omega)), m_letterOf hc e, q_gb, ln_0 c e]
      exact if_pos (by decide)
    · rw [if_pos (nI_le (by omega) (by omega))]
