/-! what two share; chains -/
theorem x_common_m1 {z : gS} {p : Nat} {d : Dat} (h : SX z p d) {x : Int32} : f_X5_common p gm1 x z = some (nI 0) := by
  unfold f_X5_common
  rw [x_holds_n h (Or.inl q_gm1), q_gb, q_if00]
theorem m_shared {w : gS} {d : Dat} (h : SM w d) (v : VD d) {i j : Nat} (hi : i < dg d) (hj : j < dg d) : f_X11_shared (nI i) (nI j) w = some (nI (pop (ds d i &&& ds d j))) := by
  have h1 := v.1
  have h2 := v.s hi
  unfold f_X11_shared
  rw [m_isGrave h v hi, q_gb, q_if1, m_isGrave h v hj, q_gb, q_if1, q_gg (by omega) (by omega), q_gg (by omega) (by omega), nI_clamp (by omega), nI_clamp (by omega), h.2.2.2.1 i hi, h.2.2.2.1 j hj, q_and, q_bits (and_lt h2)]
  rfl
theorem m_shared_n {w : gS} {d : Dat} (h : SM w d) (v : VD d) {x y : Int32} (hx : (x < 0 ∨ nI (dg d) ≤ x) ∨ ((∃ i, i < dg d ∧ x = nI i) ∧ (y < 0 ∨ nI (dg d) ≤ y))) : f_X11_shared x y w = some gm1 := by
  unfold f_X11_shared
  rcases hx with hx | ⟨⟨i, hi, rfl⟩, hy⟩
  · rw [m_isGrave_n h v hx, q_gb, q_if00]
  · rw [m_isGrave h v hi, q_gb, q_if1, m_isGrave_n h v hy, q_gb, q_if00]
