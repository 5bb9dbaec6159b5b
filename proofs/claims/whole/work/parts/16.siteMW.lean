/-! what changes the reference's site -/
/-- all but the site's cells are as they were -/
def FrM (w w' : gS) : Prop := ∀ k j, ¬ (k = 1 ∨ k = 2 ∨ k = 3) → ¬ (k = 0 ∧ (j = 1 ∨ j = 2)) → w' k j = w k j
theorem FrM.rf {w : gS} : FrM w w := fun _ _ _ _ => rfl
theorem FrM.tr {w w1 w2 : gS} (h1 : FrM w w1) (h2 : FrM w1 w2) : FrM w w2 := fun k j a b => (h2 k j a b).trans (h1 k j a b)
theorem FrM.up {w : gS} {k j : Nat} {v : Int32} (h : (k = 1 ∨ k = 2 ∨ k = 3) ∨ (k = 0 ∧ (j = 1 ∨ j = 2))) : FrM w (gup w k j v) := fun a b h1 h2 => gup_n (by omega)
theorem FrM.sh {w : gS} {g j : Nat} : FrM w (shf w 1 2 g j) := fun a b h1 h2 => by unfold shf; rw [if_neg (by omega)]
theorem m_grave {w : gS} {d : Dat} (h : SM w d) (v : VD d) {a : Nat} (ha : a ≤ 999) (hg : dg d < 7) : ∃ w', f_X11_grave (nI a) w = some (nI (dg d), w') ∧ SM w' (dAdd d a 0) ∧ FrM w w' := by
  refine ⟨gup (gup (gup w 1 (dg d) (nI a)) 2 (dg d) (nI 0)) 0 1 (nI (dg d + 1)), ?_, ⟨gup_s, ?_, fun i hi => ?_, fun i hi => ?_, fun i hi => ?_⟩, ((FrM.up (by omega)).tr (FrM.up (by omega))).tr (FrM.up (by omega))⟩
  · unfold f_X11_grave
    have e1 : gup w 1 (dg d) (nI a) 0 1 = nI (dg d) := by rw [gup_n (by omega), h.1]
    have e2 : gup (gup w 1 (dg d) (nI a)) 2 (dg d) (nI 0) 0 1 = nI (dg d) := by rw [gup_n (by omega), e1]
    rw [m_in_nat ha (by omega), q_gb, q_if1, h.1, q_ifeq (by omega) (by omega), if_neg (by omega), q_gg hg (by omega), q_gl, nI_clamp (by omega), e1, q_gg hg (by omega), q_gl, nI_clamp (by omega), e2, q_gl, nI_add, gup_s, pk_sub (by omega)]
    rfl
  · rw [gup_n (by omega), gup_n (by omega), gup_n (by omega)]
    exact h.2.1
  · have hi : i < dg d + 1 := hi
    rw [gup_n (by omega), gup_n (by omega)]
    show _ = nI (if i = dg d then a else da d i)
    by_cases e : i = dg d
    · rw [if_pos e, e, gup_s]
    · rw [if_neg e, gup_n (Or.inr e), h.2.2.1 i (by omega)]
  · have hi : i < dg d + 1 := hi
    rw [gup_n (by omega)]
    show _ = nI (if i = dg d then 0 else ds d i)
    by_cases e : i = dg d
    · rw [if_pos e, e, gup_s]
    · rw [if_neg e, gup_n (Or.inr e), gup_n (by omega), h.2.2.2.1 i (by omega)]
  · rw [gup_n (by omega), gup_n (by omega), gup_n (by omega)]
    exact h.2.2.2.2 i hi
theorem m_grave_full {w : gS} {d : Dat} (h : SM w d) (v : VD d) {a : Nat} (ha : a ≤ 999) (hg : ¬ dg d < 7) : f_X11_grave (nI a) w = some ((-4), w) := by
  have := v.1
  unfold f_X11_grave
  rw [m_in_nat ha (by omega), q_gb, q_if1, h.1, q_ifeq (by omega) (by omega), if_pos (by omega)]
theorem m_drop_n {w : gS} {d : Dat} (h : SM w d) (v : VD d) {x : Int32} (hx : x < 0 ∨ nI (dg d) ≤ x) : f_X11_drop x w = some (gm1, w) := by
  unfold f_X11_drop
  rw [m_isGrave_n h v hx, q_gb, q_if00]
theorem m_drop {w : gS} {d : Dat} (h : SM w d) (v : VD d) {g : Nat} (hg : g < dg d) : ∃ w', f_X11_drop (nI g) w = some (nI (dg d - 1), w') ∧ SM w' (dDel d g) ∧ FrM w w' := by
  have h1 := v.1
  refine ⟨shf (gup w 0 1 (nI (dg d - 1))) 1 2 g (dg d - 1 - g), ?_, ?_, (FrM.up (by omega)).tr FrM.sh⟩
  · have hp0 : ∀ j, shf (gup w 0 1 (nI (dg d - 1))) 1 2 g j 0 1 = nI (dg d - 1) := fun j => by unfold shf; rw [if_neg (by omega), gup_s]
    unfold f_X11_drop
    rw [m_isGrave h v hg, q_gb, q_if1, h.1, pk_sub (by omega), q_gl]
    unfold f_X11_drop_22
    rw [show (nI g, gup w 0 1 (nI (dg d - 1))) = ((fun j => (nI (g + j), shf (gup w 0 1 (nI (dg d - 1))) 1 2 g j)) 0) by simp [shf_0]]
    refine gfor0 (fun j => (nI (g + j), shf (gup w 0 1 (nI (dg d - 1))) 1 2 g j)) (e := dg d - 1 - g) (by omega) (fun j rec hj => ?_) (fun rec => ?_)
    · show f_X11_drop_22_b (fun x2 z => rec (x2, z)) (nI (g + j)) (shf (gup w 0 1 (nI (dg d - 1))) 1 2 g j) = rec (nI (g + (j + 1)), shf (gup w 0 1 (nI (dg d - 1))) 1 2 g (j + 1))
      unfold f_X11_drop_22_b
      rw [hp0, nI_add, if_neg (nI_ge (by omega) (by omega)), q_gg (by omega) (by omega), q_gg (by omega) (by omega), nI_clamp (by omega), nI_clamp (by omega), q_gl, q_gg (by omega) (by omega), q_gg (by omega) (by omega), q_gl, shf_s (by omega)]
      rfl
    · show f_X11_drop_22_b (fun x2 z => rec (x2, z)) (nI (g + (dg d - 1 - g))) (shf (gup w 0 1 (nI (dg d - 1))) 1 2 g (dg d - 1 - g)) = _
      unfold f_X11_drop_22_b
      rw [hp0, if_pos (nI_le (by omega) (by omega))]
  · have key : ∀ (q : Nat) (f : Nat → Nat), (q = 1 ∨ q = 2) → (∀ i, i < dg d → w q i = nI (f i)) → ∀ i, i < dg d - 1 → shf (gup w 0 1 (nI (dg d - 1))) 1 2 g (dg d - 1 - g) q i = nI (if i < g then f i else f (i + 1)) := fun q f hq hf i hi => by
      unfold shf
      by_cases e : i < g
      · rw [if_neg (by omega), gup_n (by omega), if_pos e, hf i (by omega)]
      · rw [if_pos (by omega), gup_n (by omega), if_neg e, hf (i + 1) (by omega)]
    refine ⟨?_, ?_, fun i hi => key 1 _ (Or.inl rfl) h.2.2.1 i hi, fun i hi => key 2 _ (Or.inr rfl) h.2.2.2.1 i hi, fun i hi => ?_⟩
    · unfold shf
      rw [if_neg (by omega), gup_s]
      rfl
    · unfold shf
      rw [if_neg (by omega), gup_n (by omega)]
      exact h.2.1
    · unfold shf
      rw [if_neg (by omega), gup_n (by omega)]
      exact h.2.2.2.2 i hi
