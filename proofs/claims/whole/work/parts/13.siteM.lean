/-! the reference's site -/
theorem m_in_y {x a b : Int32} {w : gS} (h1 : ¬ x < a) (h2 : ¬ b < x) : f_X11_in x a b w = some (nI 1) := by
  unfold f_X11_in
  rw [if_neg h1, if_neg h2]
theorem m_in_n {x a b : Int32} {w : gS} (h : x < a ∨ b < x) : f_X11_in x a b w = some (nI 0) := by
  unfold f_X11_in
  rcases h with h | h
  · rw [if_pos h]
  · rw [if_pos h]; split <;> rfl
theorem q_last {n : Nat} {x : Int32} (hn : n < 2 ^ 30) (h : nI n ≤ x) : nI n - nI 1 < x := by
  rw [Int32.lt_iff_toInt_lt, pk_sub_toInt hn (by omega)]
  rw [Int32.le_iff_toInt_le, nI_toInt (by omega)] at h
  omega
theorem m_in_out {x : Int32} {n : Nat} {w : gS} (hn : n < 2 ^ 30) (h : x < 0 ∨ nI n ≤ x) : f_X11_in x (nI 0) (nI n - nI 1) w = some (nI 0) := by
  refine m_in_n ?_
  rcases h with h | h
  · exact Or.inl h
  · exact Or.inr (q_last hn h)
theorem m_in_in {i n : Nat} {w : gS} (hi : i < n) (hn : n < 2 ^ 30) : f_X11_in (nI i) (nI 0) (nI n - nI 1) w = some (nI 1) := by
  rw [pk_sub (by omega)]
  exact m_in_y (nI_pos (by omega)) (nI_nlt (by omega) (by omega))
theorem m_in_nat {i m : Nat} {w : gS} (hi : i ≤ m) (hm : m < 2 ^ 31) : f_X11_in (nI i) (nI 0) (nI m) w = some (nI 1) := m_in_y (nI_pos (by omega)) (nI_nlt hi hm)
theorem m_in_big {x : Int32} {m : Nat} {w : gS} (h : x < 0 ∨ nI m < x) : f_X11_in x (nI 0) (nI m) w = some (nI 0) := m_in_n h
theorem m_isGrave_n {w : gS} {d : Dat} (h : SM w d) (v : VD d) {x : Int32} (hx : x < 0 ∨ nI (dg d) ≤ x) : f_X11_isGrave x w = some (nI 0) := by
  have := v.1
  unfold f_X11_isGrave
  rw [h.1, m_in_out (by omega) hx]
  rfl
theorem m_isGrave {w : gS} {d : Dat} (h : SM w d) (v : VD d) {i : Nat} (hi : i < dg d) : f_X11_isGrave (nI i) w = some (nI 1) := by
  have := v.1
  unfold f_X11_isGrave
  rw [h.1, m_in_in hi (by omega)]
  rfl
theorem m_isType_n {w : gS} {d : Dat} (h : SM w d) (v : VD d) {x : Int32} (hx : x < 0 ∨ nI (dt d) ≤ x) : f_X11_isType x w = some (nI 0) := by
  have := v.2.1
  unfold f_X11_isType
  rw [h.2.1, m_in_out (by omega) hx]
  rfl
theorem m_isType {w : gS} {d : Dat} (h : SM w d) (v : VD d) {i : Nat} (hi : i < dt d) : f_X11_isType (nI i) w = some (nI 1) := by
  have := v.2.1
  unfold f_X11_isType
  rw [h.2.1, m_in_in hi (by omega)]
  rfl
theorem m_has {w : gS} {a k : Nat} (ha : a < 2 ^ 31) (hk : k < 32) : f_X11_has (nI a) (nI k) w = some (nI (a.testBit k).toNat) := by
  unfold f_X11_has
  rw [q_bit ha hk]
  cases a.testBit k <;> rfl
theorem m_peers {w : gS} {d : Dat} (h : SM w d) (v : VD d) {i : Nat} (hi : i < dg d) : f_X11_peers (nI i) w = some (nI (sp_peers d i)) := by
  have h1 := v.1
  have h2 := v.s hi
  have h3 := v.a hi
  unfold f_X11_peers f_X11_peers_4 sp_peers
  refine gfor0 (fun k => (nI (cntB (fun k => decide (ds d k = ds d i) && decide (da d k % 100 = da d i % 100)) k), nI k)) (e := dg d) (by omega) (fun k rec hk => ?_) (fun rec => ?_)
  · have h4 := v.s hk
    have h5 := v.a hk
    show f_X11_peers_4_b w (nI i) (fun x2 x3 => rec (x2, x3)) (nI (cntB _ k)) (nI k) = rec (nI (cntB _ k + _), nI (k + 1))
    unfold f_X11_peers_4_b
    rw [h.1, if_neg (nI_ge hk (by omega)), q_gg (by omega) (by omega), q_gg (by omega) (by omega), nI_clamp (by omega), nI_clamp (by omega), h.2.2.2.1 k hk, h.2.2.2.1 i hi, h.2.2.1 k hk, h.2.2.1 i hi, pk_rem (by omega) (by omega) (by omega), pk_rem (by omega) (by omega) (by omega), q_gg (by omega) (by omega), q_gg (by omega) (by omega), nI_add, nI_add, nI_add, q_ifeq (by omega) (by omega), q_ifeq (by omega) (by omega), q_gl, q_gl]
    by_cases e : ds d k = ds d i
    · by_cases e2 : da d k % 100 = da d i % 100
      · simp [e, e2]
      · simp [e, e2]
    · simp [e]
  · show f_X11_peers_4_b w (nI i) (fun x2 x3 => rec (x2, x3)) (nI (cntB _ (dg d))) (nI (dg d)) = _
    unfold f_X11_peers_4_b
    rw [h.1, if_pos (nI_le (Nat.le_refl _) (by omega))]
theorem m_sharers {w : gS} {d : Dat} (h : SM w d) (v : VD d) {i : Nat} (hi : i < dg d) : f_X11_sharers (nI i) w = some (nI (sp_friends d i)) := by
  have h1 := v.1
  have h2 := v.s hi
  unfold f_X11_sharers f_X11_sharers_4 sp_friends
  refine gfor0 (fun k => (nI (cntB (fun k => !decide (k = i) && !decide (ds d k &&& ds d i = 0)) k), nI k)) (e := dg d) (by omega) (fun k rec hk => ?_) (fun rec => ?_)
  · have h4 := v.s hk
    have h5 := and_lt (b := ds d i) h4
    show f_X11_sharers_4_b w (nI i) (fun x2 x3 => rec (x2, x3)) (nI (cntB _ k)) (nI k) = rec (nI (cntB _ k + _), nI (k + 1))
    unfold f_X11_sharers_4_b
    rw [h.1, if_neg (nI_ge hk (by omega)), q_gg (by omega) (by omega), q_gg (by omega) (by omega), nI_clamp (by omega), nI_clamp (by omega), h.2.2.2.1 k hk, h.2.2.2.1 i hi, q_and, nI_add, nI_add, nI_add, q_ifeq (by omega) (by omega), q_if0 (by omega), q_gl, q_gl]
    by_cases e : k = i
    · simp [e]
    · by_cases e2 : ds d k &&& ds d i = 0
      · simp [e, e2]
      · simp [e, e2]
  · show f_X11_sharers_4_b w (nI i) (fun x2 x3 => rec (x2, x3)) (nI (cntB _ (dg d))) (nI (dg d)) = _
    unfold f_X11_sharers_4_b
    rw [h.1, if_pos (nI_le (Nat.le_refl _) (by omega))]
theorem m_bare {w : gS} {d : Dat} (h : SM w d) (v : VD d) : f_X11_bare w = some (nI (sp_bare d)) := by
  have h1 := v.1
  unfold f_X11_bare f_X11_bare_4 sp_bare
  refine gfor0 (fun k => (nI (cntB (fun k => decide (ds d k = 0)) k), nI k)) (e := dg d) (by omega) (fun k rec hk => ?_) (fun rec => ?_)
  · have h4 := v.s hk
    show f_X11_bare_4_b w (fun x2 x3 => rec (x2, x3)) (nI (cntB _ k)) (nI k) = rec (nI (cntB _ k + _), nI (k + 1))
    unfold f_X11_bare_4_b
    rw [h.1, if_neg (nI_ge hk (by omega)), nI_add, nI_add, nI_add, q_gg (by omega) (by omega), nI_clamp (by omega), h.2.2.2.1 k hk, q_if0 (by omega), q_gl, q_gl]
    by_cases e : ds d k = 0
    · simp [e]
    · simp [e]
  · show f_X11_bare_4_b w (fun x2 x3 => rec (x2, x3)) (nI (cntB _ (dg d))) (nI (dg d)) = _
    unfold f_X11_bare_4_b
    rw [h.1, if_pos (nI_le (Nat.le_refl _) (by omega))]
theorem q_shb {k : Nat} (b : Bool) (h : k < 31) : nI b.toNat <<< (nI k &&& 31) = nI (if b then 2 ^ k else 0) := by
  cases b
  · show nI 0 <<< _ = nI 0
    have := Nat.pow_lt_pow_right (a := 2) (by omega) (show k < 32 by omega)
    rw [pk_shlN (n := 0) _ k (q_cnt k (by omega)) (by omega), Nat.zero_mul]
  · exact q_sh1 h
theorem m_gravesWith {w : gS} {d : Dat} (h : SM w d) (v : VD d) {j : Nat} (hj : j < 31) : f_X11_gravesWith (nI j) w = some (nI (sp_owners d j)) := by
  have h1 := v.1
  unfold f_X11_gravesWith f_X11_gravesWith_4 sp_owners
  refine gfor0 (fun k => (nI (setB (fun k => (ds d k).testBit j) k), nI k)) (e := dg d) (by omega) (fun k rec hk => ?_) (fun rec => ?_)
  · have h4 := v.s hk
    show f_X11_gravesWith_4_b w (nI j) (fun x2 x3 => rec (x2, x3)) (nI (setB _ k)) (nI k) = rec (nI (setB _ (k + 1)), nI (k + 1))
    unfold f_X11_gravesWith_4_b
    rw [h.1, if_neg (nI_ge hk (by omega)), nI_add, q_gg (by omega) (by omega), nI_clamp (by omega), h.2.2.2.1 k hk, q_bit (by omega) (by omega), q_shb _ (by omega), q_or, q_gl]
    conv => rhs; unfold setB
    cases e : (ds d k).testBit j
    · simp
    · simp
  · show f_X11_gravesWith_4_b w (nI j) (fun x2 x3 => rec (x2, x3)) (nI (setB _ (dg d))) (nI (dg d)) = _
    unfold f_X11_gravesWith_4_b
    rw [h.1, if_pos (nI_le (Nat.le_refl _) (by omega))]
