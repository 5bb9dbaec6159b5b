/-! spoils: the calls alike -/
theorem setB256 {P : Nat → Bool} {k : Nat} (h : k ≤ 8) : setB P k < 256 := by
  have := setB_lt P k
  have : 2 ^ k ≤ 2 ^ 8 := Nat.pow_le_pow_right (by omega) h
  omega
theorem c_spoils {k : Nat} {z w : gS} (h : Rel k z w) (x : Int32) : AL (k + 1) (f_X10_spoils x z) (f_X11_spoils x w) := by
  have h' := h
  obtain ⟨d, n, by_, E, hR⟩ := h'
  have hR' := hR
  obtain ⟨v, hx, hm, hE, _⟩ := hR'
  have v1 := v.1.1
  have v2 := v.1.2.1
  have hT : setB (spT d) (dt d) < 256 := setB256 v2
  have hG : setB (spG d) (dg d) < 256 := setB256 (by omega)
  rcases ixs x (n := 3) (by omega) with hb | ⟨i, hi, rfl⟩
  · refine AL.z h (r := -2) ?_ ?_
    · unfold f_X10_spoils
      rcases hb with q | q
      · rw [if_pos q]
      · rw [if_neg (ge_nn (by omega) q), if_neg (le_n (by omega) q)]
    · unfold f_X11_spoils
      rw [in_n (by omega) hb, q_gb, q_if00]
  · have hsp : spo d (fullG d) (fullT d) = decide (mnF (gCo d) = 0) := any0 (fun l hl => by have := gp_40 (ty := fullT d) v.1 (fullG_lt v.1) hl; omega)
    have hmn := mnF_le (gCo d)
    have hif1 : ∀ {r : Type} {a b : r}, (if nI i = nI 1 then a else b) = if i = 1 then a else b := fun {r a b} => q_ifeq (by omega) (by omega)
    have hif2 : ∀ {r : Type} {a b : r}, (if nI i = nI 2 then a else b) = if i = 2 then a else b := fun {r a b} => q_ifeq (by omega) (by omega)
    have hif0 : ∀ {r : Type} {a b : r}, (if nI i = 0 then a else b) = if i = 0 then a else b := fun {r a b} => q_if0 (by omega)
    refine AL.g hR (r := if mnF (gCo d) = 0 then (if i = 2 then -5 else nI 0) else if i = 1 then nI (setB (spT d) (dt d)) else if i = 0 then nI (setB (spG d) (dg d)) else if setB (spG d) (dg d) = 0 then -5 else nI (low (setB (spG d) (dg d)))) ?_ ?_
    · unfold f_X10_spoils
      rw [q_iflt0 (by omega), if_pos (nI_le (show i ≤ 2 by omega) (by omega))]
      refine (x_readyPlan v hx hR.g).b (fun y hy => ?_)
      obtain ⟨y1, y2, y3, y4⟩ := hy
      have h0 := y2.1.2.1
      rw [x_least_g v y4, q_gb, q_if0 (by omega)]
      unfold f_X10_spoils_27
      rw [q_if1, q_if1, q_if00, q_if00, hif1, hif1, hif0]
      by_cases c : mnF (gCo d) = 0
      · rw [if_pos c, if_pos c]
        by_cases c1 : i = 1
        · rw [if_pos c1, if_neg (by omega)]; exact Ok.i ⟨rfl, y3, y2⟩
        · rw [if_neg c1]
          by_cases c0 : i = 0
          · rw [if_pos c0, if_neg (by omega)]; exact Ok.i ⟨rfl, y3, y2⟩
          · rw [if_neg c0, if_pos (show i = 2 by omega)]; exact Ok.i ⟨rfl, y3, y2⟩
      · rw [if_neg c, if_neg c]
        by_cases c1 : i = 1
        · rw [if_pos c1, if_pos c1]
          refine (x_spT y1 v h0).b (fun u hu => ?_)
          exact Ok.i ⟨hu.1, y3.tr hu.2.k, y2.fr hu.2⟩
        · rw [if_neg c1, if_neg c1]
          refine (x_spG y1 v h0).b (fun u hu => ?_)
          rw [hif0, hu.1, q_if0 (by omega)]
          by_cases c0 : i = 0
          · rw [if_pos c0, if_pos c0]; exact Ok.i ⟨rfl, y3.tr hu.2.k, y2.fr hu.2⟩
          · rw [if_neg c0, if_neg c0]
            by_cases cz : setB (spG d) (dg d) = 0
            · rw [if_pos cz, if_pos cz]; exact Ok.i ⟨rfl, y3.tr hu.2.k, y2.fr hu.2⟩
            · rw [if_neg cz, if_neg cz, q_tz hG (by omega), q_gb]; exact Ok.i ⟨rfl, y3.tr hu.2.k, y2.fr hu.2⟩
    · unfold f_X11_spoils
      rw [m_in_nat (show i ≤ 2 by omega) (by omega), q_gb, q_if1, m_ty hm v.1]
      refine (m_gapT hm v (ty := fullT d) (fullT_lt v)).b (fun u hu => ?_)
      rw [hu.1, q_ifb, hsp]
      by_cases c : mnF (gCo d) = 0
      · rw [if_pos (decide_eq_true c), if_pos c, hif2, q_ls (show 0 < 256 by omega), q_gb]
        by_cases c2 : i = 2
        · rw [if_pos c2, if_pos c2]; exact Ok.i ⟨rfl, hu.2⟩
        · rw [if_neg c2, if_neg c2]; exact Ok.i ⟨rfl, hu.2⟩
      · rw [if_neg (by rw [decide_eq_true_eq]; exact c), if_neg c]
        by_cases c1 : i = 1
        · subst c1
          rw [if_pos rfl]
          refine (m_spoilT (hm.se hu.2) v).b (fun y hy => ?_)
          rw [if_neg (show ¬ nI 1 = nI 2 by decide)]
          exact Ok.i ⟨hy.1, hu.2.tr hy.2⟩
        · rw [if_neg c1]
          refine (m_spoilG (hm.se hu.2) v c1 hi).b (fun y hy => ?_)
          rw [hif2, hy.1, q_ls hG, q_gb]
          by_cases c2 : i = 2
          · rw [if_pos c2, if_neg (show ¬ i = 0 by omega)]; exact Ok.i ⟨rfl, hu.2.tr hy.2⟩
          · rw [if_neg c2, if_pos (show i = 0 by omega)]; exact Ok.i ⟨rfl, hu.2.tr hy.2⟩
