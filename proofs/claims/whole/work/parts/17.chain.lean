/-! what two share; chains -/
theorem x_common_m1 {z : gS} {p : Nat} {d : Dat} (h : SX z p d) {x : Int32} : f_X5_common p gm1 x z = some (nI 0) := by
  unfold f_X5_common
  rw [x_holds_n h (Or.inl q_gm1), q_gb, q_if00]
theorem m_shared {w : gS} {d : Dat} (h : SM w d) (v : VD d) {i j : Nat} (hi : i < dg d) (hj : j < dg d) : f_X11_shared (nI i) (nI j) w = some (nI (pop (ds d i &&& ds d j))) := by
  have h1 := v.1
  have h2 := v.s hi
  unfold f_X11_shared
  rw [m_isGrave h v hi, q_gb, q_if1, m_isGrave h v hj, q_gb, q_if1, q_gg (by omega) (by omega), q_gg (by omega) (by omega), nI_clamp (by omega), nI_clamp (by omega), h.2.2.2.1 i hi, h.2.2.2.1 j hj, q_and, q_bits (and_lt h2)]
  rfl
theorem m_shared_n {w : gS} {d : Dat} (h : SM w d) (v : VD d) {x y : Int32} (hx : (x < 0 ∨ nI (dg d) ≤ x) ∨ ((∃ i, i < dg d ∧ x = nI i) ∧ (y < 0 ∨ nI (dg d) ≤ y))) : f_X11_shared x y w = some gm1 := by
  unfold f_X11_shared
  rcases hx with hx | ⟨⟨i, hi, rfl⟩, hy⟩
  · rw [m_isGrave_n h v hx, q_gb, q_if00]
  · rw [m_isGrave h v hi, q_gb, q_if1, m_isGrave_n h v hy, q_gb, q_if00]
def nO (o : Option Nat) : Int32 := match o with
  | none => gm1
  | some k => nI k
theorem nO_none : nO none = gm1 := rfl
theorem nO_some {b : Nat} : nO (some b) = nI b := rfl
/-- whether k is ahead of b behind l in a chain -/
def nearer (d : Dat) (l k b : Nat) : Bool := decide (pop (ds d b &&& ds d l) < pop (ds d k &&& ds d l)) || (decide (pop (ds d b &&& ds d l) = pop (ds d k &&& ds d l)) && decide (da d k < da d b))
def bstN (d : Dat) (l u : Nat) : Nat → Option Nat
  | 0 => none
  | k + 1 => if u.testBit k then bstN d l u k else match bstN d l u k with
    | none => some k
    | some b => if nearer d l k b then some k else some b
theorem bstN_lt (d : Dat) (l u : Nat) : ∀ k b, bstN d l u k = some b → b < k
  | 0, b, h => by cases h
  | k + 1, b, h => by
    unfold bstN at h
    split at h
    · exact Nat.lt_succ_of_lt (bstN_lt d l u k b h)
    · split at h
      · cases h; omega
      · rename_i c e
        have := bstN_lt d l u k c e
        split at h <;> cases h <;> omega
theorem x_isNearer {z : gS} {p : Nat} {d : Dat} (h : SX z p d) (v : VD d) {k b l : Nat} (hk : k < dg d) (hb : b < dg d) (hl : l < dg d) : f_X5_isNearer p (nI k) (nI b) (nI l) z = some (nI (nearer d l k b).toNat) := by
  have h1 := v.1
  have h3 := v.a hk
  have h4 := v.a hb
  have p1 := pop_le (ds d k &&& ds d l)
  have p2 := pop_le (ds d b &&& ds d l)
  unfold f_X5_isNearer nearer
  rw [x_common h v hk hl, q_gb, x_common h v hb hl, q_gb, q_gl]
  generalize pop (ds d k &&& ds d l) = x at *
  generalize pop (ds d b &&& ds d l) = y at *
  rw [q_gg (by omega) (by omega), q_gg (by omega) (by omega), nI_clamp (by omega), nI_clamp (by omega), h.2.2.1 k hk, h.2.2.1 b hb, q_ifle (by omega) (by omega)]
  rcases Nat.lt_trichotomy y x with c | c | c
  · rw [if_pos (by rw [pk_sub (by omega), q_0lt (by omega)]; omega)]
    simp [c]
  · subst c
    rw [if_neg (by rw [pk_sub (by omega), q_0lt (by omega)]; omega), if_pos (by rw [pk_sub (by omega), q_eq0 (by omega)]; omega)]
    by_cases e : da d b ≤ da d k
    · rw [if_pos e]; simp [show ¬ da d k < da d b by omega]
    · rw [if_neg e]; simp [show da d k < da d b by omega]
  · have hn : nI x - nI y < 0 := pk_sneg (by omega) c
    rw [if_neg (fun q => absurd (Int32.lt_trans hn q) (by simp)), if_neg (fun q => by rw [q] at hn; exact absurd hn (by decide))]
    simp [show ¬ y < x by omega, show ¬ y = x by omega]

theorem x_nearest {z : gS} {p : Nat} {d : Dat} (h : SX z p d) (v : VD d) {l u : Nat} (hl : l < dg d) (hu : u < 256) : f_X5_nearest p (nI l) (nI u) z = some (nO (bstN d l u (dg d))) := by
  have h1 := v.1
  unfold f_X5_nearest f_X5_nearest_5
  refine gfor0 (fun k => (nO (bstN d l u k), nI k)) (e := dg d) (by omega) (fun k rec hk => ?_) (fun rec => ?_)
  · show f_X5_nearest_5_b p z (nI l) (nI u) (fun x3 x4 => rec (x3, x4)) (nO (bstN d l u k)) (nI k) = rec (nO (bstN d l u (k + 1)), nI (k + 1))
    unfold f_X5_nearest_5_b
    rw [h.1, if_neg (nI_ge hk (by omega)), q_bit (by omega) (by omega), q_ifb, nI_add]
    cases e : u.testBit k
    · rw [if_neg (by decide)]
      cases e2 : bstN d l u k with
      | none =>
        have e3 : bstN d l u (k + 1) = some k := by unfold bstN; rw [e, e2]; rfl
        rw [e3, nO_none, q_ifm]
        rfl
      | some b =>
        have hb := bstN_lt d l u k b e2
        have e3 : bstN d l u (k + 1) = if nearer d l k b then some k else some b := by unfold bstN; rw [e, e2]; rfl
        rw [e3, nO_some, q_iflt0 (by omega), x_isNearer h v hk (by omega) hl, q_gb, q_ifb]
        cases nearer d l k b <;> rfl
    · have e3 : bstN d l u (k + 1) = bstN d l u k := by conv => lhs; unfold bstN
                                                        rw [e]; rfl
      rw [if_pos rfl, e3]
  · show f_X5_nearest_5_b p z (nI l) (nI u) (fun x3 x4 => rec (x3, x4)) (nO (bstN d l u (dg d))) (nI (dg d)) = _
    unfold f_X5_nearest_5_b
    rw [h.1, if_pos (nI_le (Nat.le_refl _) (by omega))]
theorem nI_ne_m1 {b : Nat} (h : b < 2 ^ 31) : ¬ nI b = gm1 := fun e => by
  have := nI_pos h
  rw [e] at this
  exact this q_gm1
theorem m_chain_in {w : gS} {d : Dat} (h : SM w d) (v : VD d) {l u : Nat} (hl : l < dg d) (hu : u < 256) {x2 : Int32} {K21 : Int32 → Int32 → Int32 → Option Int32} : f_X11_chain_35 w x2 (nI u) (nI l) K21 gF gm1 (nI 0) = K21 (((nI 10 * x2) + nO (bstN d l u (dg d))) + nI 1) (nI u ||| (nI 1 <<< (nO (bstN d l u (dg d)) &&& 31))) (nO (bstN d l u (dg d))) := by
  have h1 := v.1
  unfold f_X11_chain_35
  refine gfor0 (fun k => (nO (bstN d l u k), nI k)) (e := dg d) (by omega) (fun k rec hk => ?_) (fun rec => ?_)
  · show f_X11_chain_35_b w x2 (nI u) (nI l) K21 (fun x5 x6 => rec (x5, x6)) (nO (bstN d l u k)) (nI k) = rec (nO (bstN d l u (k + 1)), nI (k + 1))
    have h3 := v.a hk
    unfold f_X11_chain_35_b
    rw [h.1, if_neg (nI_ge hk (by omega)), m_has (by omega) (by omega), q_gb, q_ifb, nI_add]
    cases e : u.testBit k
    · rw [if_neg (by decide)]
      cases e2 : bstN d l u k with
      | none =>
        have e3 : bstN d l u (k + 1) = some k := by unfold bstN; rw [e, e2]; rfl
        rw [e3, nO_none, if_pos rfl]
        unfold f_X11_chain_83
        rw [q_if0lt (by omega), if_pos (by omega), nI_add]
        rfl
      | some b =>
        have hb := bstN_lt d l u k b e2
        have h4 := v.a (show b < dg d by omega)
        have e3 : bstN d l u (k + 1) = if nearer d l k b then some k else some b := by unfold bstN; rw [e, e2]; rfl
        rw [e3, nO_some, if_neg (nI_ne_m1 (by omega)), m_shared h v hl hk, q_gb, m_shared h v hl (by omega), q_gb]
        have p1 := pop_le (ds d k &&& ds d l)
        have p2 := pop_le (ds d b &&& ds d l)
        unfold f_X11_chain_83 nearer
        rw [Nat.and_comm (ds d l) (ds d k), Nat.and_comm (ds d l) (ds d b)]
        generalize pop (ds d k &&& ds d l) = x at *
        generalize pop (ds d b &&& ds d l) = y at *
        rw [q_gg (by omega) (by omega), q_gg (by omega) (by omega), nI_clamp (by omega), nI_clamp (by omega), h.2.2.1 k hk, h.2.2.1 b (by omega), q_ifle (by omega) (by omega), nI_add]
        rcases Nat.lt_trichotomy y x with c | c | c
        · rw [if_pos (by rw [pk_sub (by omega), q_0lt (by omega)]; omega)]
          simp [c, nO]
        · subst c
          rw [if_neg (by rw [pk_sub (by omega), q_0lt (by omega)]; omega), if_pos (by rw [pk_sub (by omega), q_eq0 (by omega)]; omega)]
          by_cases f : da d b ≤ da d k
          · rw [if_pos f]; simp [show ¬ da d k < da d b by omega, nO]
          · rw [if_neg f]; simp [show da d k < da d b by omega, nO]
        · have hn : nI x - nI y < 0 := pk_sneg (by omega) c
          rw [if_neg (fun q => absurd (Int32.lt_trans hn q) (by simp)), if_neg (fun q => by rw [q] at hn; exact absurd hn (by decide))]
          simp [show ¬ y < x by omega, show ¬ y = x by omega, nO]
    · have e3 : bstN d l u (k + 1) = bstN d l u k := by conv => lhs; unfold bstN
                                                        rw [e]; rfl
      rw [if_pos rfl, e3]
  · show f_X11_chain_35_b w x2 (nI u) (nI l) K21 (fun x5 x6 => rec (x5, x6)) (nO (bstN d l u (dg d))) (nI (dg d)) = _
    unfold f_X11_chain_35_b
    rw [h.1, if_pos (nI_le (Nat.le_refl _) (by omega)), q_gl, q_gl]
