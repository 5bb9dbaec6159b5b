/-! fill: the calls alike -/
theorem sub_toInt {g a : Nat} (hg : g < 2 ^ 30) (ha : a < 2 ^ 31) : (nI g - nI a).toInt = (g : Int) - a := by
  rw [Int32.toInt_sub, nI_toInt (by omega), nI_toInt ha, Int.bmod_eq_of_le (by omega) (by omega)]
theorem sub_leI {g a k : Nat} (hg : g < 2 ^ 30) (ha : a < 2 ^ 31) (hk : k < 2 ^ 30) : nI g - nI a ≤ nI k ↔ g ≤ a + k := by
  rw [Int32.le_iff_toInt_le, sub_toInt hg ha, nI_toInt (by omega)]
  omega
theorem fillN {g a s : Nat} (hg : g < 2 ^ 30) (ha : a < 2 ^ 31) (hs : s ≤ 30) : (if nI 0 < (if nI g - nI a < nI s then nI g - nI a else nI s) then (if nI g - nI a < nI s then nI g - nI a else nI s) else nI 0) = nI (min s (g - a)) := by
  have hD := sub_toInt hg ha
  have h0 : (nI 0).toInt = 0 := by decide
  have hS : (nI s).toInt = s := nI_toInt (by omega)
  apply Int32.toInt.inj
  rw [nI_toInt (show min s (g - a) < 2 ^ 31 by omega)]
  by_cases c1 : nI g - nI a < nI s
  · rw [if_pos c1]
    rw [Int32.lt_iff_toInt_lt, hD, hS] at c1
    by_cases c2 : nI 0 < nI g - nI a
    · rw [if_pos c2]
      rw [Int32.lt_iff_toInt_lt, hD, h0] at c2
      rw [hD]; omega
    · rw [if_neg c2]
      rw [Int32.lt_iff_toInt_lt, hD, h0] at c2
      rw [h0]; omega
  · rw [if_neg c1]
    rw [Int32.lt_iff_toInt_lt, hD, hS] at c1
    by_cases c2 : nI 0 < nI s
    · rw [if_pos c2]
      rw [Int32.lt_iff_toInt_lt, hS, h0] at c2
      rw [hS]; omega
    · rw [if_neg c2]
      rw [Int32.lt_iff_toInt_lt, hS, h0] at c2
      rw [h0]; omega
theorem PP.fr {z z' : gS} {d : Dat} (h : PP z d) (hz : ∀ p, 13 ≤ p → p ≤ 17 → z' p = z p) : PP z' d := by
  unfold PP PK PS TWs at *
  rw [hz 15 (by omega) (by omega), hz 13 (by omega) (by omega), hz (13 + 1) (by omega) (by omega), hz (13 + 3) (by omega) (by omega), hz (13 + 4) (by omega) (by omega)]
  exact h
theorem x_fill {z : gS} {d : Dat} (v : VN d) (hP : PP z d) {a l c : Nat} (hc : c ≤ 30) (hac : a + c ≤ (gG d).length ∨ c = 0) : Ok (f_X10_fill_64 (nI a) (309 + 2 * l) (nI c) gF (nI 0) z) (fun q => q.1 = nI c ∧ (∀ i, i < c → q.2 (309 + 2 * l + 1) i = nI (dig 0 ((gG d).getD (a + i) []))) ∧ ∀ p j, p ≠ 309 + 2 * l + 1 ∨ c ≤ j → q.2 p j = z p j) := by
  have h5 := gG_5040 v
  unfold f_X10_fill_64
  refine gforI0 (fun k s => s.1 = nI k ∧ (∀ i, i < k → s.2 (309 + 2 * l + 1) i = nI (dig 0 ((gG d).getD (a + i) []))) ∧ ∀ p j, p ≠ 309 + 2 * l + 1 ∨ k ≤ j → s.2 p j = z p j) (e := c) (by omega) ⟨rfl, fun i hi => absurd hi (by omega), fun _ _ _ => rfl⟩ (fun k rec s hk hi hr => ?_) (fun rec s hi => ?_)
  · obtain ⟨x, y⟩ := s
    obtain ⟨g1, g2, g3⟩ := hi
    dsimp only at g1 g2 g3
    subst g1
    have hPy : PP y d := hP.fr (fun p h1 h2 => by funext j; exact g3 p j (by omega))
    show Ok (f_X10_fill_64_b (nI a) (309 + 2 * l) (nI c) (fun x2 z => rec (x2, z)) (nI k) y) _
    unfold f_X10_fill_64_b
    rw [if_neg (nI_ge hk (by omega)), nI_add, x_pick_g v hPy (show a + k < (gG d).length by omega), q_gb, q_gg (by omega) (by omega), nI_clamp (by omega), q_gl, nI_add]
    refine hr _ ⟨rfl, fun i hi => ?_, fun p j ha => by dsimp only; rw [gup_n (by omega)]; exact g3 p j (by omega)⟩
    dsimp only
    by_cases c : i = k
    · subst c; exact gup_s
    · rw [gup_n (Or.inr c)]; exact g2 i (by omega)
  · obtain ⟨x, y⟩ := s
    obtain ⟨g1, g2, g3⟩ := hi
    dsimp only at g1 g2 g3
    subst g1
    show Ok (f_X10_fill_64_b (nI a) (309 + 2 * l) (nI c) (fun x2 z => rec (x2, z)) (nI c) y) _
    unfold f_X10_fill_64_b
    rw [if_pos (nI_le (Nat.le_refl _) (by omega))]
    exact Ok.i ⟨rfl, g2, g3⟩
theorem m_fill {w : gS} {d : Dat} (v : VN d) (hF : FR w (gG d)) {a l s : Nat} (hl : l < 3) (hs : s ≤ 30) (ha : a < 2 ^ 31) (h17 : w 17 l = nI s) : Ok (f_X11_fill_34 (nI l) (nI a) gF (nI 0) w) (fun q => q.1 = nI (min s ((gG d).length - a)) ∧ (∀ i, i < min s ((gG d).length - a) → q.2 18 (30 * l + i) = nI (dig 0 ((gG d).getD (a + i) []))) ∧ ∀ p j, p ≠ 18 ∨ j < 30 * l ∨ 30 * l + min s ((gG d).length - a) ≤ j → q.2 p j = w p j) := by
  have h5 := gG_5040 v
  generalize hcc : min s ((gG d).length - a) = c
  unfold f_X11_fill_34
  refine gforI0 (fun k s => s.1 = nI k ∧ (∀ i, i < k → s.2 18 (30 * l + i) = nI (dig 0 ((gG d).getD (a + i) []))) ∧ ∀ p j, p ≠ 18 ∨ j < 30 * l ∨ 30 * l + k ≤ j → s.2 p j = w p j) (e := c) (by omega) ⟨rfl, fun i hi => absurd hi (by omega), fun _ _ _ => rfl⟩ (fun k rec s hk hi hr => ?_) (fun rec s hi => ?_)
  · obtain ⟨x, y⟩ := s
    obtain ⟨g1, g2, g3⟩ := hi
    dsimp only at g1 g2 g3
    subst g1
    show Ok (f_X11_fill_34_b (nI l) (nI a) (fun x2 z => rec (x2, z)) (nI k) y) _
    unfold f_X11_fill_34_b
    rw [q_gg (by omega) (by omega), nI_clamp (by omega), g3 17 l (by omega), h17, if_neg (nI_ge (by omega) (by omega)), g3 0 10 (by omega), hF.1, if_neg (fun q => by have := (sub_leI (by omega) ha (by omega)).mp q; omega), nI_add, q_gg (by omega) (by omega), pk_mul, nI_add, q_gg (by omega) (by omega), nI_clamp (by omega), nI_clamp (by omega), q_gl, nI_add, g3 5 (a + k) (by omega), hF.2 (a + k) (by omega)]
    refine hr _ ⟨rfl, fun i hi => ?_, fun p j ha => by dsimp only; rw [gup_n (by omega)]; exact g3 p j (by omega)⟩
    dsimp only
    by_cases c : i = k
    · subst c; exact gup_s
    · rw [gup_n (Or.inr (by omega))]; exact g2 i (by omega)
  · obtain ⟨x, y⟩ := s
    obtain ⟨g1, g2, g3⟩ := hi
    dsimp only at g1 g2 g3
    subst g1
    show Ok (f_X11_fill_34_b (nI l) (nI a) (fun x2 z => rec (x2, z)) (nI c) y) _
    unfold f_X11_fill_34_b
    rw [q_gg (by omega) (by omega), nI_clamp (by omega), g3 17 l (by omega), h17]
    by_cases e : s ≤ c
    · rw [if_pos (nI_le e (by omega))]
      exact Ok.i ⟨rfl, g2, g3⟩
    · rw [if_neg (nI_ge (show c < s by omega) (by omega)), g3 0 10 (by omega), hF.1, if_pos ((sub_leI (by omega) ha (by omega)).mpr (by omega))]
      exact Ok.i ⟨rfl, g2, g3⟩
theorem c_fill {k : Nat} {z w : gS} (h : Rel k z w) (hk : k < 512) (x y : Int32) : AL (k + 1) (f_X10_fill x y z) (f_X11_fill x y w) := by
  have h' := h
  obtain ⟨d, n, by_, E, hR⟩ := h'
  obtain ⟨v, hx, hm, _, _, _, a7, _⟩ := id hR
  have h5 := gG_5040 v
  rcases ixs x (n := 3) (by omega) with hb | ⟨l, hl, rfl⟩
  · refine AL.z h (r := gm1) ?_ ?_
    · unfold f_X10_fill
      rcases hb with q | q
      · rw [if_pos q]
      · rw [if_neg (ge_nn (by omega) q), if_neg (lt_n (by omega) q)]
    · unfold f_X11_fill
      rw [m_ls_n hb, q_gb, q_if00]
  obtain ⟨l1, l2, l3⟩ := a7.2.2 l hl
  unfold f_X10_fill f_X11_fill
  rw [q_iflt0 (by omega), if_pos (nI_lt hl (by omega)), m_ls hl, q_gb, q_if1]
  by_cases c0 : 0 ≤ y
  · have hy0 : ¬ y < 0 := by
      rw [Int32.le_iff_toInt_le] at c0
      rw [Int32.lt_iff_toInt_lt]
      omega
    obtain ⟨a, ha, rfl⟩ := nI_of hy0
    rw [if_pos c0, if_pos c0, q_gg (by omega) (by omega), q_gg (by omega) (by omega), nI_clamp (by omega), l1]
    unfold f_X1_isMissing
    rcases l2 with e | ⟨s, hs, e⟩
    · rw [e, if_neg (show ¬ 0 ≤ gm1 by decide), q_gb, q_if1, if_neg (show ¬ 0 ≤ gm1 by decide)]
      exact AL.z h rfl rfl
    · rw [e, q_if0le (by omega), q_gb, q_if00, q_if0le (by omega)]
      obtain ⟨z1, e1, y1, y2, y3, y4⟩ := x_readyPlan v hx hR.g
      obtain ⟨w1, e2, u1, u2⟩ := m_gap_g hm v
      have hz0 : z1 (309 + 2 * l) 0 = nI s := by rw [y3 _ _ (by omega)]; exact e
      have hw0 : w1 17 l = nI s := by rw [u2 17 l (by unfold Kp; omega), l1]; exact e
      rw [e1, q_gb, x_smooth_g v y4, q_gb, q_gl, hz0, fillN (by omega) ha hs, e2, q_gb]
      have hR1 := hR.k y3 y2 u2
      obtain ⟨q1, f1, p1, p2, p3⟩ := x_fill v y4 (a := a) (l := l) (c := min s ((gG d).length - a)) (by omega) (by omega)
      obtain ⟨q2, f2, r1, r2, r3⟩ := m_fill v u1 hl hs ha hw0
      obtain ⟨_, _, _, _, _, _, b7, _⟩ := id hR1
      obtain ⟨m1, m2, m3⟩ := b7.2.2 l hl
      refine ⟨nI (min s ((gG d).length - a)), q1.2, q2.2, by rw [f1, ← p1], by rw [f2, ← r1], d, n, by_, E, hR1.l1 (by omega) hl (fun p hp => by funext j; exact p3 p j (by omega)) (fun p hp => by funext j; exact r3 p j (by omega)) (fun i hi => r3 17 i (by omega)) (fun i hi => r3 18 i (by omega)) ⟨?_, ?_, fun i hi => ?_⟩⟩
      · rw [r3 17 l (by omega), p3 _ 0 (by omega)]; exact m1
      · rw [p3 _ 0 (by omega)]; exact m2
      · by_cases ci : i < min s ((gG d).length - a)
        · rw [r2 i ci, p2 i ci]
        · rw [r3 18 _ (by omega), p3 _ i (by omega)]; exact m3 i hi
  · rw [if_neg c0, if_neg c0]
    exact AL.z h rfl rfl
