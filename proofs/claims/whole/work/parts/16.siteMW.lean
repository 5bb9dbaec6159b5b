/-! what changes the reference's site -/
/-- all but the site's cells are as they were -/
def FrM (w w' : gS) : Prop := ∀ k j, ¬ (k = 1 ∨ k = 2 ∨ k = 3) → ¬ (k = 0 ∧ (j = 1 ∨ j = 2)) → w' k j = w k j
theorem FrM.rf {w : gS} : FrM w w := fun _ _ _ _ => rfl
theorem FrM.tr {w w1 w2 : gS} (h1 : FrM w w1) (h2 : FrM w1 w2) : FrM w w2 := fun k j a b => (h2 k j a b).trans (h1 k j a b)
theorem FrM.up {w : gS} {k j : Nat} {v : Int32} (h : (k = 1 ∨ k = 2 ∨ k = 3) ∨ (k = 0 ∧ (j = 1 ∨ j = 2))) : FrM w (gup w k j v) := fun a b h1 h2 => gup_n (by omega)
theorem FrM.sh {w : gS} {g j : Nat} : FrM w (shf w 1 2 g j) := fun a b h1 h2 => by unfold shf; rw [if_neg (by omega)]
theorem m_grave {w : gS} {d : Dat} (h : SM w d) (v : VD d) {a : Nat} (ha : a ≤ 999) (hg : dg d < 7) : ∃ w', f_X11_grave (nI a) w = some (nI (dg d), w') ∧ SM w' (dAdd d a 0) ∧ FrM w w' := by
  refine ⟨gup (gup (gup w 1 (dg d) (nI a)) 2 (dg d) (nI 0)) 0 1 (nI (dg d + 1)), ?_, ⟨gup_s, ?_, fun i hi => ?_, fun i hi => ?_, fun i hi => ?_⟩, ((FrM.up (by omega)).tr (FrM.up (by omega))).tr (FrM.up (by omega))⟩
  · unfold f_X11_grave
    have e1 : gup w 1 (dg d) (nI a) 0 1 = nI (dg d) := by rw [gup_n (by omega), h.1]
    have e2 : gup (gup w 1 (dg d) (nI a)) 2 (dg d) (nI 0) 0 1 = nI (dg d) := by rw [gup_n (by omega), e1]
    rw [m_in_nat ha (by omega), q_gb, q_if1, h.1, q_ifeq (by omega) (by omega), if_neg (by omega), q_gg hg (by omega), q_gl, nI_clamp (by omega), e1, q_gg hg (by omega), q_gl, nI_clamp (by omega), e2, q_gl, nI_add, gup_s, pk_sub (by omega)]
    rfl
  · rw [gup_n (by omega), gup_n (by omega), gup_n (by omega)]
    exact h.2.1
  · have hi : i < dg d + 1 := hi
    rw [gup_n (by omega), gup_n (by omega)]
    show _ = nI (if i = dg d then a else da d i)
    by_cases e : i = dg d
    · rw [if_pos e, e, gup_s]
    · rw [if_neg e, gup_n (Or.inr e), h.2.2.1 i (by omega)]
  · have hi : i < dg d + 1 := hi
    rw [gup_n (by omega)]
    show _ = nI (if i = dg d then 0 else ds d i)
    by_cases e : i = dg d
    · rw [if_pos e, e, gup_s]
    · rw [if_neg e, gup_n (Or.inr e), gup_n (by omega), h.2.2.2.1 i (by omega)]
  · rw [gup_n (by omega), gup_n (by omega), gup_n (by omega)]
    exact h.2.2.2.2 i hi
theorem m_grave_full {w : gS} {d : Dat} (h : SM w d) (v : VD d) {a : Nat} (ha : a ≤ 999) (hg : ¬ dg d < 7) : f_X11_grave (nI a) w = some ((-4), w) := by
  have := v.1
  unfold f_X11_grave
  rw [m_in_nat ha (by omega), q_gb, q_if1, h.1, q_ifeq (by omega) (by omega), if_pos (by omega)]
theorem m_drop_n {w : gS} {d : Dat} (h : SM w d) (v : VD d) {x : Int32} (hx : x < 0 ∨ nI (dg d) ≤ x) : f_X11_drop x w = some (gm1, w) := by
  unfold f_X11_drop
  rw [m_isGrave_n h v hx, q_gb, q_if00]
theorem m_drop {w : gS} {d : Dat} (h : SM w d) (v : VD d) {g : Nat} (hg : g < dg d) : ∃ w', f_X11_drop (nI g) w = some (nI (dg d - 1), w') ∧ SM w' (dDel d g) ∧ FrM w w' := by
  have h1 := v.1
  refine ⟨shf (gup w 0 1 (nI (dg d - 1))) 1 2 g (dg d - 1 - g), ?_, ?_, (FrM.up (by omega)).tr FrM.sh⟩
  · have hp0 : ∀ j, shf (gup w 0 1 (nI (dg d - 1))) 1 2 g j 0 1 = nI (dg d - 1) := fun j => by unfold shf; rw [if_neg (by omega), gup_s]
    unfold f_X11_drop
    rw [m_isGrave h v hg, q_gb, q_if1, h.1, pk_sub (by omega), q_gl]
    unfold f_X11_drop_22
    rw [show (nI g, gup w 0 1 (nI (dg d - 1))) = ((fun j => (nI (g + j), shf (gup w 0 1 (nI (dg d - 1))) 1 2 g j)) 0) by simp [shf_0]]
    refine gfor0 (fun j => (nI (g + j), shf (gup w 0 1 (nI (dg d - 1))) 1 2 g j)) (e := dg d - 1 - g) (by omega) (fun j rec hj => ?_) (fun rec => ?_)
    · show f_X11_drop_22_b (fun x2 z => rec (x2, z)) (nI (g + j)) (shf (gup w 0 1 (nI (dg d - 1))) 1 2 g j) = rec (nI (g + (j + 1)), shf (gup w 0 1 (nI (dg d - 1))) 1 2 g (j + 1))
      unfold f_X11_drop_22_b
      rw [hp0, nI_add, if_neg (nI_ge (by omega) (by omega)), q_gg (by omega) (by omega), q_gg (by omega) (by omega), nI_clamp (by omega), nI_clamp (by omega), q_gl, q_gg (by omega) (by omega), q_gg (by omega) (by omega), q_gl, shf_s (by omega)]
      rfl
    · show f_X11_drop_22_b (fun x2 z => rec (x2, z)) (nI (g + (dg d - 1 - g))) (shf (gup w 0 1 (nI (dg d - 1))) 1 2 g (dg d - 1 - g)) = _
      unfold f_X11_drop_22_b
      rw [hp0, if_pos (nI_le (by omega) (by omega))]
  · have key : ∀ (q : Nat) (f : Nat → Nat), (q = 1 ∨ q = 2) → (∀ i, i < dg d → w q i = nI (f i)) → ∀ i, i < dg d - 1 → shf (gup w 0 1 (nI (dg d - 1))) 1 2 g (dg d - 1 - g) q i = nI (if i < g then f i else f (i + 1)) := fun q f hq hf i hi => by
      unfold shf
      by_cases e : i < g
      · rw [if_neg (by omega), gup_n (by omega), if_pos e, hf i (by omega)]
      · rw [if_pos (by omega), gup_n (by omega), if_neg e, hf (i + 1) (by omega)]
    refine ⟨?_, ?_, fun i hi => key 1 _ (Or.inl rfl) h.2.2.1 i hi, fun i hi => key 2 _ (Or.inr rfl) h.2.2.2.1 i hi, fun i hi => ?_⟩
    · unfold shf
      rw [if_neg (by omega), gup_s]
      rfl
    · unfold shf
      rw [if_neg (by omega), gup_n (by omega)]
      exact h.2.1
    · unfold shf
      rw [if_neg (by omega), gup_n (by omega)]
      exact h.2.2.2.2 i hi
theorem m_typeOf {w : gS} {d : Dat} (h : SM w d) (v : VD d) {c : Nat} (hc : c < 387420489) : f_X11_typeOf (nI c) w = some (if fnd d c < dt d then (nI (fnd d c), w) else if dt d < 8 then (nI (dt d), gup (gup w 3 (dt d) (nI c)) 0 2 (nI (dt d + 1))) else (gm1, w)) := by
  have h2 := v.2.1
  have hf := fst_le (fun k => decide (dn d k = c)) (dt d)
  unfold f_X11_typeOf f_X11_typeOf_2
  refine gfor0 (fun k => nI k) (e := fnd d c) (by unfold fnd; omega) (fun k rec hk => ?_) (fun rec => ?_)
  · show f_X11_typeOf_2_b w (nI c) (fun x2 => rec x2) (nI k) = rec (nI (k + 1))
    have hk2 : k < dt d := by unfold fnd at hk; omega
    have h3 := fst_f hk
    have h4 := v.n hk2
    simp only [decide_eq_false_iff_not] at h3
    unfold f_X11_typeOf_2_b
    rw [h.2.1, if_neg (nI_ge hk2 (by omega)), q_gg (by omega) (by omega), nI_clamp (by omega), h.2.2.2.2 k hk2, q_ifeq (by omega) (by omega), if_neg h3, nI_add]
  · show f_X11_typeOf_2_b w (nI c) (fun x2 => rec x2) (nI (fnd d c)) = _
    unfold f_X11_typeOf_2_b
    by_cases e : fnd d c < dt d
    · have h3 := fst_t (P := fun k => decide (dn d k = c)) e
      have h4 := v.n e
      simp only [decide_eq_true_eq] at h3
      change dn d (fnd d c) = c at h3
      rw [h.2.1, if_neg (nI_ge e (by omega)), q_gg (by omega) (by omega), nI_clamp (by omega), h.2.2.2.2 _ e, q_ifeq (by omega) (by omega), if_pos h3, if_pos e]
    · have e2 : fnd d c = dt d := by unfold fnd at *; omega
      rw [h.2.1, if_pos (nI_le (by omega) (by omega)), if_neg e, q_ifeq (by omega) (by omega)]
      by_cases e3 : dt d < 8
      · have e1 : gup w 3 (dt d) (nI c) 0 2 = nI (dt d) := by rw [gup_n (by omega), h.2.1]
        rw [if_neg (by omega), if_pos e3, q_gg e3 (by omega), q_gl, nI_clamp (by omega), e1, q_gl, nI_add, gup_s, pk_sub (by omega)]
        rfl
      · rw [if_pos (by omega), if_neg e3]
theorem SM.new {w : gS} {d : Dat} (h : SM w d) {c : Nat} : SM (gup (gup w 3 (dt d) (nI c)) 0 2 (nI (dt d + 1))) (dNew d c) := by
  refine ⟨?_, gup_s, fun k hk => ?_, fun k hk => ?_, fun k hk => ?_⟩
  · rw [gup_n (by omega), gup_n (by omega)]; exact h.1
  · rw [gup_n (by omega), gup_n (by omega)]; exact h.2.2.1 k hk
  · rw [gup_n (by omega), gup_n (by omega)]; exact h.2.2.2.1 k hk
  · have hk : k < dt d + 1 := hk
    rw [gup_n (by omega)]
    show _ = nI (if k = dt d then c else dn d k)
    by_cases e : k = dt d
    · rw [if_pos e, e, gup_s]
    · rw [if_neg e, gup_n (Or.inr e)]; exact h.2.2.2.2 k (by omega)
theorem SM.set {w : gS} {d : Dat} (h : SM w d) {i s : Nat} : SM (gup w 2 i (nI s)) (dSet d i s) := by
  refine ⟨?_, ?_, fun k hk => ?_, fun k hk => ?_, fun k hk => ?_⟩
  · rw [gup_n (by omega)]; exact h.1
  · rw [gup_n (by omega)]; exact h.2.1
  · rw [gup_n (by omega)]; exact h.2.2.1 k hk
  · show _ = nI (if k = i then s else ds d k)
    by_cases e : k = i
    · rw [if_pos e, e, gup_s]
    · rw [if_neg e, gup_n (Or.inr e)]; exact h.2.2.2.1 k hk
  · rw [gup_n (by omega)]; exact h.2.2.2.2 k hk
theorem m_has_ {w : gS} {d : Dat} (h : SM w d) (v : VD d) {i j : Nat} {b : Bool} (hi : i < dg d) (hj : j < dt d) : f_X11_has_ (nI i) (nI j) (nI b.toNat) w = some (nI ((ds d i).testBit j).toNat, gup w 2 i (nI (sp_mark (ds d i) j b))) := by
  have h1 := v.1
  have h2 := v.2.1
  have h3 := v.s hi
  have hb : b.toNat ≤ 1 := by cases b <;> decide
  unfold f_X11_has_ sp_mark
  rw [m_isGrave h v hi, q_gb, q_if1, m_isType h v hj, q_gb, q_if1, m_in_nat hb (by omega), q_gb, q_if1, q_gg (by omega) (by omega), nI_clamp (by omega), h.2.2.2.1 i hi, q_bit (by omega) (by omega), q_gl, q_gg (by omega) (by omega), q_gg (by omega) (by omega), q_sh1 (by omega), q_nd, q_shb _ (by omega), q_or, q_gl]
  cases b
  · simp
  · have e : nd (ds d i) (2 ^ j) ||| 2 ^ j = ds d i ||| 2 ^ j := by
      apply Nat.eq_of_testBit_eq
      intro k
      rw [Nat.testBit_or, Nat.testBit_or, nd_bit]
      cases (ds d i).testBit k <;> cases (2 ^ j).testBit k <;> rfl
    simp [e]
