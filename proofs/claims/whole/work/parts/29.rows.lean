/-! rows, begun -/
/-- what is known of such a list -/
def OT (all n : Nat) (asc : List Nat) : Prop := all < 2 ^ 7 ∧ rm all 0 = n ∧ (oT all).head? = some asc ∧ chkL n (oT all) = true ∧ (oT all).length ≤ 5040 ∧ ∀ l ∈ oT all, l.length = n ∧ B7 l
theorem oT_b7 {all : Nat} : ∀ l ∈ oT all, l.length = rm all 0 ∧ B7 l := fun l hl => ⟨plm_len hl, by rw [plm_len hl]; exact rm_le _ _, plm_lt hl⟩
theorem OT.full {g : Nat} (hg : g < 8) : OT (2 ^ g - 1) g (List.range g) := by
  have h1 : 2 ^ g ≤ 2 ^ 7 := Nat.pow_le_pow_right (by omega) (by omega)
  have h0 : 0 < 2 ^ g := Nat.two_pow_pos g
  have hr := (rm_full g hg).1
  refine ⟨by omega, hr, ?_, ?_, ?_, fun l hl => ?_⟩
  · rw [oT_full hg]; exact hd_full g hg
  · rw [oT_full hg]
    by_cases e : g < 7
    · exact chk_a g e
    · have : g = 7 := by omega
      subst this
      exact chk_7
  · rw [oT_full hg]; exact ln_full g hg
  · have := oT_b7 l hl
    rw [hr] at this
    exact this
theorem OT.less {g w : Nat} (hg : g < 8) (hw : w < g) : OT (nd (2 ^ g - 1) (2 ^ w)) (g - 1) ((List.range g).filter (fun x => !decide (x = w))) := by
  have h1 : 2 ^ g ≤ 2 ^ 7 := Nat.pow_le_pow_right (by omega) (by omega)
  have h0 : 0 < 2 ^ g := Nat.two_pow_pos g
  have hr := (rm_full g hg).2 w hw
  refine ⟨nd_lt (by omega), hr, ?_, ?_, ?_, fun l hl => ?_⟩
  · rw [oT_less hg hw]; exact hd_less g hg w hw
  · rw [oT_less hg hw]; exact chk_w g hg w hw
  · rw [oT_less hg hw]; exact ln_less g hg w hw
  · have := oT_b7 l hl
    rw [hr] at this
    exact this
theorem OT.rs {all n : Nat} {asc : List Nat} (h : OT all n asc) {w : gS} (hw : RW w asc) : RS n (nI 1) w (oT all) := by
  obtain ⟨_, _, h1, h2, _, h3⟩ := h
  refine ⟨?_, h2, h3⟩
  cases e : oT all with
  | nil => rw [e] at h1; cases h1
  | cons l L =>
    rw [e] at h1
    simp at h1
    subst h1
    exact ⟨rfl, hw⟩
/-- only the row's cells change -/
def BF (w w' : gS) : Prop := ∀ a j, a ≠ 4 → ¬ (a = 0 ∧ (j = 7 ∨ j = 8)) → w' a j = w a j
theorem BF.rf {w : gS} : BF w w := fun _ _ _ _ => rfl
theorem BF.tr {w w1 w2 : gS} (h1 : BF w w1) (h2 : BF w1 w2) : BF w w2 := fun k j p q => (h2 k j p q).trans (h1 k j p q)
theorem BF.up {w : gS} {k j : Nat} {v : Int32} (h : k = 4 ∨ (k = 0 ∧ (j = 7 ∨ j = 8))) : BF w (gup w k j v) := fun a b hk hj => gup_n (by omega)
theorem BF.se {w w' : gS} (h : BF w w') : SE w w' := fun a b hk => h a b (by unfold Kp at hk; omega) (by unfold Kp at hk; omega)
/-- the first row -/
theorem m_begins {w : gS} {d : Dat} (h : SM w d) (v : VD d) {x : Int32} {ty : Int32} {P : Nat → Bool} (hx : ∀ k, k < 7 → (nI k = x ↔ P k = false)) : Ok (f_X11_begins x ty w) (fun w' => RW w' ((List.range (dg d)).filter P) ∧ w' 0 8 = ty ∧ BF w w') := by
  have v1 := v.1
  unfold f_X11_begins
  rw [q_gl]
  unfold f_X11_begins_7
  refine gforI0 (fun k s => s.1 = nI k ∧ RW s.2 ((List.range k).filter P) ∧ BF w s.2) (e := dg d) (by omega) ⟨rfl, ⟨by show gup w 0 7 (nI 0) 0 7 = _; rw [gup_s]; rfl, fun i hi => by simp at hi⟩, BF.up (by omega)⟩ (fun k rec s hk hi hr => ?_) (fun rec s hi => ?_)
  · obtain ⟨x3, y⟩ := s
    obtain ⟨g1, g2, g3⟩ := hi
    dsimp only at g1 g2 g3
    subst g1
    have hlen : ((List.range k).filter P).length ≤ k := by
      have := List.length_filter_le P (List.range k)
      rw [List.length_range] at this
      exact this
    show Ok (f_X11_begins_7_b x ty (fun x3 z => rec (x3, z)) (nI k) y) _
    unfold f_X11_begins_7_b
    rw [(h.se g3.se).1, if_neg (nI_ge hk (by omega)), nI_add]
    have hkx := hx k (by omega)
    cases c : P k
    · rw [if_pos (hkx.mpr c)]
      refine hr _ ⟨rfl, ?_, g3⟩
      rw [List.range_succ, List.filter_append, List.filter_cons, c]
      simpa using g2
    · rw [if_neg (fun q => by rw [hkx.mp q] at c; cases c), g2.1, q_gg (by omega) (by omega), nI_clamp (by omega), q_gl, gup_n (Or.inl (by omega)), g2.1, nI_add, q_gl]
      refine hr _ ⟨rfl, ?_, (g3.tr (BF.up (by omega))).tr (BF.up (by omega))⟩
      have e1 : (List.range (k + 1)).filter P = (List.range k).filter P ++ [k] := by
        rw [List.range_succ, List.filter_append, List.filter_cons, c]
        rfl
      rw [e1]
      refine ⟨?_, fun i hi => ?_⟩
      · dsimp only
        rw [gup_s, List.length_append]
        rfl
      · dsimp only
        rw [List.length_append] at hi
        have hi : i < ((List.range k).filter P).length + 1 := hi
        rw [gup_n (by omega)]
        by_cases q : i < ((List.range k).filter P).length
        · rw [gup_n (by omega), g2.2 i q, getD_l q]
        · have q2 : i = ((List.range k).filter P).length := by omega
          rw [q2, gup_s, getD_r (Nat.le_refl _), Nat.sub_self]
          rfl
  · obtain ⟨x3, y⟩ := s
    obtain ⟨g1, g2, g3⟩ := hi
    dsimp only at g1 g2 g3
    subst g1
    show Ok (f_X11_begins_7_b x ty (fun x3 z => rec (x3, z)) (nI (dg d)) y) _
    unfold f_X11_begins_7_b
    rw [(h.se g3.se).1, if_pos (nI_le (Nat.le_refl _) (by omega)), q_gl]
    refine Ok.i ⟨⟨?_, fun i hi => ?_⟩, gup_s, g3.tr (BF.up (by omega))⟩
    · rw [gup_n (by omega)]; exact g2.1
    · rw [gup_n (by omega)]; exact g2.2 i hi
theorem m_ty {w : gS} {d : Dat} (h : SM w d) (v : VD d) : (nI 1 <<< (w 0 2 &&& 31)) - nI 1 = nI (2 ^ dt d - 1) := by
  have v2 := v.2.1
  have h0 : 0 < 2 ^ dt d := Nat.two_pow_pos _
  rw [h.2.1, q_sh1 (by omega), pk_sub (by omega)]
theorem m_beginsAll {w : gS} {d : Dat} (h : SM w d) (v : VD d) : Ok (f_X11_beginsAll w) (fun w' => RW w' (List.range (dg d)) ∧ w' 0 8 = nI (2 ^ dt d - 1) ∧ BF w w') := by
  unfold f_X11_beginsAll
  rw [m_ty h v]
  refine (m_begins h v (P := fun _ => true) (fun k hk => ⟨fun q => absurd q (nI_ne_m1 (by omega)), fun q => by cases q⟩)).b (fun w' hw' => Ok.i ?_)
  rw [List.filter_eq_self.mpr (fun _ _ => rfl)] at hw'
  exact hw'
