/-! lists: the calls alike -/
theorem m_ls {t : Nat} {w : gS} (h : t < 3) : f_X11_isList (nI t) w = some (nI 1) := by
  unfold f_X11_isList
  rw [m_in_nat (show t ≤ 2 by omega) (by omega), q_gb]
  rfl
theorem m_ls_n {x : Int32} {w : gS} (h : x < 0 ∨ nI 3 ≤ x) : f_X11_isList x w = some (nI 0) := by
  unfold f_X11_isList
  rw [in_n (by omega) h, q_gb]
  rfl
theorem RelD.l1 {k : Nat} {z w z' w' : gS} {d : Dat} {n : Nat} {by_ : Nat → Nat} {E : List Nat} {l : Nat} (h : RelD k z w d n by_ E) (hk : k ≤ 512) (hl : l < 3) (hz : ∀ p, p < 309 + 2 * l ∨ 309 + 2 * l + 2 ≤ p → z' p = z p) (hw : ∀ p, p < 17 ∨ 19 ≤ p → w' p = w p) (h17 : ∀ i, i ≠ l → w' 17 i = w 17 i) (h18 : ∀ i, i < 30 * l ∨ 30 * l + 30 ≤ i → w' 18 i = w 18 i) (hL : LSR z' w' l) : RelD k z' w' d n by_ E := by
  have hE := h.E3 hk
  obtain ⟨_, _, _, _, _, _, a7, _⟩ := id h
  refine h.rs (fun p hp => hz p (by omega)) (fun p hp => hw p (by omega)) (fun s hs => (a7.2.1 s hs).f2 (by omega) (fun p h1 h2 => hz p (by omega)) (by rw [hw 13 (by omega)]) (by rw [hw 14 (by omega)]) (fun i hi => by rw [hw 15 (by omega)]) (fun i hi => by rw [hw 16 (by omega)])) (fun s hs => ?_)
  by_cases c : s = l
  · subst c; exact hL
  · exact (a7.2.2 s hs).f2 (fun p h1 h2 => hz p (by omega)) (h17 s c) (fun i hi => h18 _ (by omega))
theorem x_list0 {z : gS} {p : Nat} : Ok (f_X1_become_7 p gF (nI 0) z) (fun y => (∀ i, i < 30 → y (p + 1) i = nI 0) ∧ ∀ a, a ≠ p + 1 → y a = z a) := by
  unfold f_X1_become_7
  refine gforI0 (fun k s => s.1 = nI k ∧ (∀ i, i < k → s.2 (p + 1) i = nI 0) ∧ ∀ a, a ≠ p + 1 → s.2 a = z a) (e := 30) (by omega) ⟨rfl, fun i hi => absurd hi (by omega), fun _ _ => rfl⟩ (fun k rec s hk hi hr => ?_) (fun rec s hi => ?_)
  · obtain ⟨x, y⟩ := s
    obtain ⟨g1, g2, g3⟩ := hi
    dsimp only at g1 g2 g3
    subst g1
    show Ok (f_X1_become_7_b p (fun x2 z => rec (x2, z)) (nI k) y) _
    unfold f_X1_become_7_b
    rw [if_neg (nI_ge hk (by omega)), q_gg (by omega) (by omega), nI_clamp (by omega), q_gl, nI_add]
    refine hr _ ⟨rfl, fun i hi => ?_, fun a ha => by funext b; dsimp only; rw [gup_n (by omega)]; rw [g3 a ha]⟩
    dsimp only
    by_cases c : i = k
    · subst c; exact gup_s
    · rw [gup_n (Or.inr c)]; exact g2 i (by omega)
  · obtain ⟨x, y⟩ := s
    obtain ⟨g1, g2, g3⟩ := hi
    dsimp only at g1 g2 g3
    subst g1
    show Ok (f_X1_become_7_b p (fun x2 z => rec (x2, z)) (nI 30) y) _
    unfold f_X1_become_7_b
    rw [if_pos (nI_le (Nat.le_refl _) (by omega))]
    exact Ok.i ⟨g2, g3⟩
theorem m_list0 {w : gS} {l : Nat} (hl : l < 3) : Ok (f_X11_list_35 (nI l) gF (nI 0) w) (fun q => q.1 = nI 1 ∧ (∀ i, i < 30 → q.2 18 (30 * l + i) = nI 0) ∧ ∀ a j, a ≠ 18 ∨ j < 30 * l ∨ 30 * l + 30 ≤ j → q.2 a j = w a j) := by
  unfold f_X11_list_35
  refine gforI0 (fun k s => s.1 = nI k ∧ (∀ i, i < k → s.2 18 (30 * l + i) = nI 0) ∧ ∀ a j, a ≠ 18 ∨ j < 30 * l ∨ 30 * l + 30 ≤ j → s.2 a j = w a j) (e := 30) (by omega) ⟨rfl, fun i hi => absurd hi (by omega), fun _ _ _ => rfl⟩ (fun k rec s hk hi hr => ?_) (fun rec s hi => ?_)
  · obtain ⟨x, y⟩ := s
    obtain ⟨g1, g2, g3⟩ := hi
    dsimp only at g1 g2 g3
    subst g1
    show Ok (f_X11_list_35_b (nI l) (fun x2 z => rec (x2, z)) (nI k) y) _
    unfold f_X11_list_35_b
    rw [if_neg (nI_ge hk (by omega)), pk_mul, nI_add, q_gg (by omega) (by omega), nI_clamp (by omega), q_gl, nI_add]
    refine hr _ ⟨rfl, fun i hi => ?_, fun a j ha => by dsimp only; rw [gup_n (by omega)]; exact g3 a j ha⟩
    dsimp only
    by_cases c : i = k
    · subst c; exact gup_s
    · rw [gup_n (Or.inr (by omega))]; exact g2 i (by omega)
  · obtain ⟨x, y⟩ := s
    obtain ⟨g1, g2, g3⟩ := hi
    dsimp only at g1 g2 g3
    subst g1
    show Ok (f_X11_list_35_b (nI l) (fun x2 z => rec (x2, z)) (nI 30) y) _
    unfold f_X11_list_35_b
    rw [if_pos (nI_le (Nat.le_refl _) (by omega))]
    exact Ok.i ⟨rfl, g2, g3⟩
theorem ls_range {y : Int32} (h1 : y ≤ nI 30) (h2 : gm1 ≤ y) : y = gm1 ∨ ∃ s, s ≤ 30 ∧ y = nI s := by
  rcases ixs y (n := 31) (by omega) with hb | ⟨s, hs, rfl⟩
  · rcases hb with q | q
    · left
      rw [Int32.le_iff_toInt_le] at h2
      rw [Int32.lt_iff_toInt_lt] at q
      have e1 : gm1.toInt = -1 := by decide
      have e0 : (0 : Int32).toInt = 0 := by decide
      apply Int32.toInt.inj
      omega
    · exact absurd h1 (le_n (by omega) q)
  · exact Or.inr ⟨s, by omega, rfl⟩
theorem c_list {k : Nat} {z w : gS} (h : Rel k z w) (hk : k ≤ 512) (x y : Int32) : AL (k + 1) (f_X10_list x y z) (f_X11_list x y w) := by
  have h' := h
  obtain ⟨d, n, by_, E, hR⟩ := h'
  rcases ixs x (n := 3) (by omega) with hb | ⟨l, hl, rfl⟩
  · refine AL.z h (r := gm1) ?_ ?_
    · unfold f_X10_list
      rcases hb with q | q
      · rw [if_pos q]
      · rw [if_neg (ge_nn (by omega) q), if_neg (lt_n (by omega) q)]
    · unfold f_X11_list
      rw [m_ls_n hb, q_gb, q_if00]
  unfold f_X10_list f_X11_list
  rw [q_iflt0 (by omega), if_pos (nI_lt hl (by omega)), m_ls hl, q_gb, q_if1]
  by_cases c1 : y ≤ nI 30
  · rw [if_pos c1, if_pos c1]
    by_cases c2 : gm1 ≤ y
    · rw [if_pos c2, if_pos c2, q_gg (by omega) (by omega), q_gg (by omega) (by omega), nI_clamp (by omega), q_gl]
      unfold f_X1_become
      rw [q_gl]
      obtain ⟨z1, e1, f1, f2⟩ := x_list0 (z := gup z (309 + 2 * l) 0 y) (p := 309 + 2 * l)
      obtain ⟨w1, e2, m1, m2, m3⟩ := m_list0 (w := gup w 17 l y) hl
      rw [e1, q_gb, e2]
      refine ⟨nI 1, z1, w1.2, rfl, by rw [← m1], RelD.s (hR.l1 hk hl (fun p hp => by rw [f2 p (by omega)]; funext j; rw [gup_n (by omega)]) (fun p hp => by funext j; rw [m3 p j (by omega), gup_n (by omega)]) (fun i hi => by rw [m3 17 i (by omega), gup_n (by omega)]) (fun i hi => by rw [m3 18 i (by omega), gup_n (by omega)]) ⟨?_, ?_, fun i hi => ?_⟩)⟩
      · rw [m3 17 l (by omega), gup_s, f2 (309 + 2 * l) (by omega), gup_s]
      · rw [f2 (309 + 2 * l) (by omega), gup_s]
        exact ls_range c1 c2
      · rw [m2 i hi, f1 i hi]
    · rw [if_neg c2, if_neg c2]
      exact AL.z h rfl rfl
  · rw [if_neg c1, if_neg c1]
    exact AL.z h rfl rfl
theorem c_put {k : Nat} {z w : gS} (h : Rel k z w) (hk : k ≤ 512) (x y b : Int32) : AL (k + 1) (f_X10_put x y b z) (f_X11_put x y b w) := by
  have h' := h
  obtain ⟨d, n, by_, E, hR⟩ := h'
  obtain ⟨_, _, _, _, _, _, a7, _⟩ := id hR
  rcases ixs x (n := 3) (by omega) with hb | ⟨l, hl, rfl⟩
  · refine AL.z h (r := gm1) ?_ ?_
    · unfold f_X10_put
      rcases hb with q | q
      · rw [if_pos q]
      · rw [if_neg (ge_nn (by omega) q), if_neg (lt_n (by omega) q)]
    · unfold f_X11_put
      rw [m_ls_n hb, q_gb, q_if00]
  obtain ⟨l1, l2, l3⟩ := a7.2.2 l hl
  unfold f_X10_put f_X11_put f_X1_isMissing f_X1_reaches
  rw [q_iflt0 (by omega), if_pos (nI_lt hl (by omega)), m_ls hl, q_gb, q_if1, q_gg (by omega) (by omega), q_gg (by omega) (by omega), nI_clamp (by omega), l1]
  rcases l2 with e | ⟨s, hs, e⟩
  · rw [e, if_neg (show ¬ 0 ≤ gm1 by decide), q_gb, q_if1, if_neg (show ¬ 0 ≤ gm1 by decide)]
    exact AL.z h rfl rfl
  · rw [e, q_if0le (by omega), q_gb, q_if00, q_if0le (by omega), q_gg (by omega) (by omega)]
    rcases ixs y (n := s) (by omega) with hb | ⟨i, hi, rfl⟩
    · rw [m_in_out (by omega) hb, q_gb, q_if00]
      refine AL.z h (r := -12) ?_ rfl
      rcases hb with q | q
      · rw [if_pos q, q_gb, q_if00]
      · rw [if_neg (ge_nn (by omega) q), if_pos q, q_gb, q_if00]
    · rw [m_in_in hi (by omega), q_gb, q_if1, q_iflt0 (by omega), if_neg (nI_ge hi (by omega)), q_gb, q_if1, q_gg (by omega) (by omega), nI_clamp (by omega), q_gl, pk_mul, nI_add, q_gg (by omega) (by omega), nI_clamp (by omega), q_gl]
      refine ⟨nI 1, _, _, rfl, rfl, RelD.s (hR.l1 hk hl (fun p hp => by funext j; rw [gup_n (by omega)]) (fun p hp => by funext j; rw [gup_n (by omega)]) (fun i hi => by rw [gup_n (by omega)]) (fun j hj => by rw [gup_n (by omega)]) ⟨?_, ?_, fun j hj => ?_⟩)⟩
      · rw [gup_n (by omega), gup_n (by omega)]; exact l1
      · rw [gup_n (by omega)]; exact Or.inr ⟨s, hs, e⟩
      · by_cases c : j = i
        · subst c; rw [gup_s, gup_s]
        · rw [gup_n (Or.inr (by omega)), gup_n (Or.inr c)]; exact l3 j hj
theorem m_in_m1 {y : Int32} {w : gS} : f_X11_in y (nI 0) (gm1 - nI 1) w = some (nI 0) := by
  refine m_in_n ?_
  by_cases c : y < 0
  · exact Or.inl c
  · right
    rw [Int32.lt_iff_toInt_lt] at c ⊢
    have e1 : (gm1 - nI 1).toInt = -2 := by decide
    have e0 : (0 : Int32).toInt = 0 := by decide
    omega
theorem c_get {k : Nat} {z w : gS} (h : Rel k z w) (x y : Int32) : AE (f_X10_get x y z) (f_X11_get x y w) := by
  obtain ⟨d, n, by_, E, hR⟩ := h
  obtain ⟨_, _, _, _, _, _, a7, _⟩ := id hR
  rcases ixs x (n := 3) (by omega) with hb | ⟨l, hl, rfl⟩
  · refine ⟨-2000000000, ?_, ?_⟩
    · unfold f_X10_get
      rcases hb with q | q
      · rw [if_pos q]
      · rw [if_neg (ge_nn (by omega) q), if_pos q]
    · unfold f_X11_get
      rw [m_ls_n hb, q_gb, q_if00]
  obtain ⟨l1, l2, l3⟩ := a7.2.2 l hl
  unfold f_X10_get f_X11_get f_X1_reaches
  rw [q_iflt0 (by omega), if_neg (nI_ge hl (by omega)), m_ls hl, q_gb, q_if1, q_gg (by omega) (by omega), q_gg (by omega) (by omega), q_gg (by omega) (by omega), nI_clamp (by omega), l1]
  rcases l2 with e | ⟨s, hs, e⟩
  · rw [e, m_in_m1, q_gb, q_if00]
    refine ⟨-2000000000, ?_, rfl⟩
    by_cases c : y < 0
    · rw [if_pos c, q_gb, q_if00]
    · have : gm1 ≤ y := by
        rw [Int32.lt_iff_toInt_lt] at c
        rw [Int32.le_iff_toInt_le]
        have e1 : gm1.toInt = -1 := by decide
        have e0 : (0 : Int32).toInt = 0 := by decide
        omega
      rw [if_neg c, if_pos this, q_gb, q_if00]
  · rw [e]
    rcases ixs y (n := s) (by omega) with hb | ⟨i, hi, rfl⟩
    · rw [m_in_out (by omega) hb, q_gb, q_if00]
      refine ⟨-2000000000, ?_, rfl⟩
      rcases hb with q | q
      · rw [if_pos q, q_gb, q_if00]
      · rw [if_neg (ge_nn (by omega) q), if_pos q, q_gb, q_if00]
    · rw [m_in_in hi (by omega), q_gb, q_if1, q_iflt0 (by omega), if_neg (nI_ge hi (by omega)), q_gb, q_if1, q_gg (by omega) (by omega), nI_clamp (by omega), pk_mul, nI_add, q_gg (by omega) (by omega), nI_clamp (by omega), l3 i (by omega)]
      exact ⟨_, rfl, rfl⟩
