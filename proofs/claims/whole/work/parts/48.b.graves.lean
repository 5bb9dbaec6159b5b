/-! graves and types: the calls alike -/
def AE {α : Type} (o1 o2 : Option α) : Prop := ∃ r, o1 = some r ∧ o2 = some r
theorem c_has {k : Nat} {z w : gS} (h : Rel k z w) (x y b : Int32) : AL (k + 1) (f_X10_has x y b z) (f_X11_has_ x y b w) := by
  have h' := h
  obtain ⟨d, n, by_, E, hR⟩ := h'
  have hR' := hR
  obtain ⟨v, hx, hm, hE, _⟩ := hR'
  have v1 := v.1.1
  have v2 := v.1.2.1
  rcases ixs x (n := dg d) (by omega) with hb | ⟨i, hi, rfl⟩
  · refine AL.z h (r := gm1) ?_ ?_
    · unfold f_X10_has; rw [x_holds_n hx hb, q_gb, q_if00]
    · unfold f_X11_has_; rw [m_isGrave_n hm v.1 hb, q_gb, q_if00]
  rcases ixs y (n := dt d) (by omega) with hb | ⟨j, hj, rfl⟩
  · refine AL.z h (r := gm1) ?_ ?_
    · unfold f_X10_has; rw [x_holds hx v.1 hi, q_gb, q_if1, x_knows_n hx hb, q_gb, q_if00]
    · unfold f_X11_has_; rw [m_isGrave hm v.1 hi, q_gb, q_if1, m_isType_n hm v.1 hb, q_gb, q_if00]
  rcases ixs b (n := 2) (by omega) with hb | ⟨c, hc, rfl⟩
  · refine AL.z h (r := -2) ?_ ?_
    · have e0 : ¬ b = 0 := by
        rcases hb with q | q
        · exact lt0_ne (m := 0) (by omega) q
        · exact ge_ne (m := 0) (by omega) (by omega) q
      have e1 : ¬ b = nI 1 := by
        rcases hb with q | q
        · exact lt0_ne (by omega) q
        · exact ge_ne (by omega) (by omega) q
      unfold f_X10_has
      rw [x_holds hx v.1 hi, q_gb, q_if1, x_knows hx v.1 hj, q_gb, q_if1, if_neg e0, if_neg e1]
    · unfold f_X11_has_
      rw [m_isGrave hm v.1 hi, q_gb, q_if1, m_isType hm v.1 hj, q_gb, q_if1, in_n (by omega) hb, q_gb, q_if00]
  · have hmk : ∀ bb : Bool, f_X5_mark 1 (nI i) (nI j) (nI bb.toNat) z = some (nI 1, gup z (1 + 2) i (nI (sp_mark (ds d i) j bb))) := fun bb => x_mark hx v.1 hi hj
    have hset := v.1.2.2.2.1 i hi
    have go : ∀ bb : Bool, f_X10_has (nI i) (nI j) (nI bb.toNat) z = some (nI ((ds d i).testBit j).toNat, gup (gup (gup (gup z (1 + 2) i (nI (sp_mark (ds d i) j bb))) 0 15 (nI 0)) 0 16 (nI 0)) 0 17 (nI 0)) := fun bb => by
      unfold f_X10_has f_X10_has_53
      rw [x_holds hx v.1 hi, q_gb, q_if1, x_knows hx v.1 hj, q_gb, q_if1, x_owns hx v.1 hi (by omega), q_gb]
      have m0 := hmk false
      have m1 := hmk true
      rw [show nI false.toNat = nI 0 from rfl] at m0
      rw [show nI true.toNat = nI 1 from rfl] at m1
      rw [m0, m1]
      cases bb
      · rw [show nI false.toNat = nI 0 from rfl, q_if00, q_01, q_01]
        cases (ds d i).testBit j
        · rfl
        · rfl
      · rw [show nI true.toNat = nI 1 from rfl, q_if1, q_11]
        cases (ds d i).testBit j
        · rfl
        · rfl
    obtain ⟨bb, hbb⟩ : ∃ bb : Bool, nI c = nI bb.toNat := by
      rcases Nat.lt_or_ge c 1 with q | q
      · exact ⟨false, by rw [show c = 0 by omega]; rfl⟩
      · exact ⟨true, by rw [show c = 1 by omega]; rfl⟩
    rw [hbb]
    have hfr : Fr z (gup z (1 + 2) i (nI (sp_mark (ds d i) j bb))) 1 := Fr.up (by omega) (by omega)
    obtain ⟨s1, s2, s3⟩ := siteCh hfr (hx.set hi)
    exact ⟨_, _, _, go bb, m_has_ hm v.1 hi hj, _, n, by_, E, hR.site (v.set (sp_mark_lt hset hj)) s1 hm.set hE s2 s3 (FrM.up (by omega))⟩
theorem c_of {k : Nat} {z w : gS} (h : Rel k z w) (x y : Int32) : AE (f_X10_of x y z) (f_X11_of x y w) := by
  obtain ⟨d, n, by_, E, v, hx, hm, _⟩ := h
  have v1 := v.1.1
  rcases ixs x (n := dg d) (by omega) with hb | ⟨i, hi, rfl⟩
  · refine ⟨gm1, ?_, ?_⟩
    · unfold f_X10_of; rw [x_holds_n hx hb, q_gb, q_if00]
    · unfold f_X11_of; rw [m_isGrave_n hm v.1 hb, q_gb, q_if00]
  unfold f_X10_of f_X11_of
  rw [x_holds hx v.1 hi, q_gb, q_if1, m_isGrave hm v.1 hi, q_gb, q_if1]
  by_cases c0 : y = nI 0
  · rw [if_pos c0, if_pos c0, q_gg (by omega) (by omega), q_gg (by omega) (by omega), nI_clamp (by omega), hx.2.2.1 i hi, hm.2.2.1 i hi]
    exact ⟨_, rfl, rfl⟩
  rw [if_neg c0, if_neg c0]
  by_cases c1 : y = nI 1
  · rw [if_pos c1, if_pos c1, q_gg (by omega) (by omega), q_gg (by omega) (by omega), nI_clamp (by omega), hx.2.2.2.1 i hi, hm.2.2.2.1 i hi]
    exact ⟨_, rfl, rfl⟩
  rw [if_neg c1, if_neg c1]
  by_cases c2 : y = nI 2
  · rw [if_pos c2, if_pos c2, x_peers hx v.1 hi, m_peers hm v.1 hi]
    exact ⟨_, rfl, rfl⟩
  rw [if_neg c2, if_neg c2]
  by_cases c3 : y = nI 3
  · rw [if_pos c3, if_pos c3, x_friends hx v.1 hi, m_sharers hm v.1 hi]
    exact ⟨_, rfl, rfl⟩
  rw [if_neg c3, if_neg c3]
  exact ⟨_, rfl, rfl⟩
theorem c_type {k : Nat} {z w : gS} (h : Rel k z w) (x y : Int32) : AE (f_X10_type x y z) (f_X11_type x y w) := by
  obtain ⟨d, n, by_, E, v, hx, hm, _⟩ := h
  have v2 := v.1.2.1
  rcases ixs x (n := dt d) (by omega) with hb | ⟨i, hi, rfl⟩
  · refine ⟨gm1, ?_, ?_⟩
    · unfold f_X10_type; rw [x_knows_n hx hb, q_gb, q_if00]
    · unfold f_X11_type; rw [m_isType_n hm v.1 hb, q_gb, q_if00]
  unfold f_X10_type f_X11_type
  rw [x_knows hx v.1 hi, q_gb, q_if1, m_isType hm v.1 hi, q_gb, q_if1]
  rcases ixs y (n := 8) (by omega) with hb | ⟨j, hj, rfl⟩
  · rw [in_n (by omega) hb, q_gb, q_if00]
    rcases hb with q | q
    · rw [if_pos q]; exact ⟨_, rfl, rfl⟩
    · rw [if_neg (ge_nn (by omega) q), if_neg (le_n (by omega) q)]; exact ⟨_, rfl, rfl⟩
  · have hn := v.1.n hi
    rw [q_iflt0 (by omega), if_pos (nI_le (show j ≤ 7 by omega) (by omega)), m_in_nat (show j ≤ 7 by omega) (by omega), q_gb, q_if1, q_if0 (by omega), q_if0 (by omega)]
    by_cases c0 : j = 0
    · rw [if_pos c0, if_pos c0, x_owners hx v.1 (by omega), m_gravesWith hm v.1 (by omega)]
      exact ⟨_, rfl, rfl⟩
    rw [if_neg c0, if_neg c0, q_gg (by omega) (by omega), nI_clamp (by omega), hx.2.2.2.2 i hi, hm.2.2.2.2 i hi, q_gl, q_ifeq (by omega) (by omega), q_ifeq (by omega) (by omega)]
    by_cases c1 : j = 1
    · rw [if_pos c1, if_pos c1, x_length hn, q_gg (by omega) (by omega), m_lettersOf hn]
      exact ⟨_, rfl, rfl⟩
    rw [if_neg c1, if_neg c1, pk_sub (by omega), x_letter hn (by omega), q_gg (by omega) (by omega), m_letterOf hn (by omega), q_gb, q_gb]
    have hl := lt_lt (dn d i) (j - 2)
    unfold sp_letter
    rw [q_if0 (by omega)]
    by_cases c : lt (dn d i) (j - 2) = 0
    · rw [if_pos c, if_pos c]
      exact ⟨_, rfl, rfl⟩
    · rw [if_neg c, if_neg c, nI_add, pk_sub (by omega), show 97 + lt (dn d i) (j - 2) - 1 = 96 + lt (dn d i) (j - 2) by omega]
      exact ⟨_, rfl, rfl⟩
theorem c_drop {k : Nat} {z w : gS} (h : Rel k z w) (x : Int32) : AL (k + 1) (f_X10_drop x z) (f_X11_drop x w) := by
  have h' := h
  obtain ⟨d, n, by_, E, hR⟩ := h'
  have hR' := hR
  obtain ⟨v, hx, hm, hE, _⟩ := hR'
  have v1 := v.1.1
  rcases ixs x (n := dg d) (by omega) with hb | ⟨i, hi, rfl⟩
  · refine AL.z h (r := gm1) ?_ (m_drop_n hm v.1 hb)
    unfold f_X10_drop; rw [x_holds_n hx hb, q_gb, q_if00]
  · obtain ⟨w1, f1, f2, f3⟩ := m_drop hm v.1 hi
    have hfr : Fr z (gup (shf z (1 + 1) (1 + 2) i (dg d - 1 - i)) 1 0 (nI (dg d - 1))) 1 := Fr.sh.tr (Fr.up (by omega) (by omega))
    obtain ⟨s1, s2, s3⟩ := siteCh hfr (x_removed hx hi)
    refine ⟨nI (dg d - 1), _, w1, ?_, f1, dDel d i, n, by_, E, hR.site ⟨v.1.del hi, v.2⟩ s1 f2 hE s2 s3 f3⟩
    unfold f_X10_drop
    rw [x_holds hx v.1 hi, q_gb, q_if1, x_remove hx v.1 hi, q_gb, x_siteChanged, q_gb, gup_n (by omega), gup_n (by omega), gup_n (by omega), gup_s]
theorem c_count {k : Nat} {z w : gS} (h : Rel k z w) (x : Int32) : AE (f_X10_count x z) (f_X11_count x w) := by
  obtain ⟨d, n, by_, E, v, hx, hm, _, _, _, _, ⟨_, t1, _, t2, _, t3⟩, _⟩ := h
  unfold f_X10_count f_X11_count
  rw [hx.1, hx.2.1, hm.1, hm.2.1, x_parts hx v.1, m_parts hm v.1, t1, t2, t3, x_bare hx v.1, m_bare hm v.1]
  by_cases c0 : x = nI 0
  · rw [if_pos c0]; exact ⟨_, rfl, rfl⟩
  rw [if_neg c0]
  by_cases c1 : x = nI 1
  · rw [if_pos c1]; exact ⟨_, rfl, rfl⟩
  rw [if_neg c1]
  by_cases c2 : x = nI 2
  · rw [if_pos c2]; exact ⟨_, rfl, rfl⟩
  rw [if_neg c2]
  by_cases c3 : x = nI 3
  · rw [if_pos c3]; exact ⟨_, rfl, rfl⟩
  rw [if_neg c3]
  by_cases c4 : x = nI 4
  · rw [if_pos c4]; exact ⟨_, rfl, rfl⟩
  rw [if_neg c4]
  by_cases c5 : x = nI 5
  · rw [if_pos c5]; exact ⟨_, rfl, rfl⟩
  rw [if_neg c5]
  exact ⟨_, rfl, rfl⟩
theorem c_shared {k : Nat} {z w : gS} (h : Rel k z w) (x y : Int32) : AE (f_X10_shared x y z) (f_X11_shared x y w) := by
  obtain ⟨d, n, by_, E, v, hx, hm, _⟩ := h
  have v1 := v.1.1
  rcases ixs x (n := dg d) (by omega) with hb | ⟨i, hi, rfl⟩
  · refine ⟨gm1, ?_, m_shared_n hm v.1 (Or.inl hb)⟩
    unfold f_X10_shared; rw [x_holds_n hx hb, q_gb, q_if00]
  rcases ixs y (n := dg d) (by omega) with hb | ⟨j, hj, rfl⟩
  · refine ⟨gm1, ?_, m_shared_n hm v.1 (Or.inr ⟨⟨i, hi, rfl⟩, hb⟩)⟩
    unfold f_X10_shared; rw [x_holds hx v.1 hi, q_gb, q_if1, x_holds_n hx hb, q_gb, q_if00]
  · refine ⟨nI (pop (ds d i &&& ds d j)), ?_, m_shared hm v.1 hi hj⟩
    unfold f_X10_shared; rw [x_holds hx v.1 hi, q_gb, q_if1, x_holds hx v.1 hj, q_gb, q_if1, x_common hx v.1 hi hj, q_gb]
theorem c_chain {k : Nat} {z w : gS} (h : Rel k z w) (x : Int32) : AE (f_X10_chain x z) (f_X11_chain x w) := by
  obtain ⟨d, n, by_, E, v, hx, hm, _⟩ := h
  have v1 := v.1.1
  rcases ixs x (n := dg d) (by omega) with hb | ⟨i, hi, rfl⟩
  · refine ⟨gm1, ?_, ?_⟩
    · unfold f_X10_chain; rw [x_holds_n hx hb, q_gb, q_if00]
    · unfold f_X11_chain; rw [m_isGrave_n hm v.1 hb, q_gb, q_if00]
  · have hr := (rm_full (dg d) (by omega)).1
    have h2 := rm_s (all := 2 ^ dg d - 1) (b := 0) (full_bit hi) (Nat.zero_testBit i) (by omega)
    rw [Nat.zero_or] at h2
    have hp : 2 ^ i < 2 ^ dg d := Nat.pow_lt_pow_right (by omega) hi
    refine ⟨nI (chF d (dg d - 1) i (2 ^ i) (i + 1)), ?_, ?_⟩
    · unfold f_X10_chain
      rw [x_holds hx v.1 hi, q_gb, q_if1, q_sh1 (by omega), q_gl, nI_add, q_gl]
      exact x_chain_27 hx v.1 (dg d - 1) i (2 ^ i) (i + 1) 1 gF (by omega) (q_gF (by omega)) hi (by omega) (by omega)
    · unfold f_X11_chain
      rw [m_isGrave hm v.1 hi, q_gb, q_if1, nI_add, q_gl, q_sh1 (by omega), q_gl]
      exact m_chain_21 hm v.1 (dg d - 1) i (2 ^ i) (i + 1) gF (q_gF (by omega)) hi (by omega) (by omega)
theorem c_walk {k : Nat} {z w : gS} (h : Rel k z w) (x : Int32) : AE (f_X10_walk x z) (f_X11_walk x w) := by
  obtain ⟨d, n, by_, E, v, hx, hm, _⟩ := h
  have v1 := v.1.1
  unfold f_X10_walk f_X11_walk
  rcases ixs x (n := 4) (by omega) with hb | ⟨i, hi, rfl⟩
  · rw [in_n (by omega) hb, q_gb, q_if00]
    rcases hb with q | q
    · rw [if_pos q]; exact ⟨_, rfl, rfl⟩
    · rw [if_neg (ge_nn (by omega) q), if_neg (le_n (by omega) q)]; exact ⟨_, rfl, rfl⟩
  · have hr := (rm_full (dg d) (by omega)).1
    rw [q_iflt0 (by omega), if_pos (nI_le (show i ≤ 3 by omega) (by omega)), m_in_nat (show i ≤ 3 by omega) (by omega), q_gb, q_if1]
    exact ⟨_, x_walk_19 hx v.1 (by omega) (dg d) 0 0 0 gF (by omega) (q_gF (by omega)) (Nat.zero_le _) hr, m_walk_19 hm v.1 (by omega) (dg d) 0 0 0 gF (by omega) (q_gF (by omega)) (Nat.zero_le _) hr⟩
