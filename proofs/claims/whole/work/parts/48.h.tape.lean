/-! the tape: the calls alike -/
theorem RelD.tp {k k' : Nat} {z w z' w' : gS} {d : Dat} {n n' : Nat} {by_ by' : Nat → Nat} {E : List Nat} (h : RelD k z w d n by_ E) (hk : 2 * E.length + n' ≤ k') (hz : ∀ p j, (p < 9 ∨ (13 ≤ p ∧ p ≤ 17) ∨ (p = 20 ∧ j = 0) ∨ (283 ≤ p ∧ p ≠ 290 ∧ p ≠ 291 ∧ p ≠ 296)) → z' p j = z p j) (hw : ∀ p j, ((p = 0 ∧ 33 ≤ j) ∨ 13 ≤ p) → w' p j = w p j) (hm : SM w' d) (ht : TPR z' w' n' by') : RelD k' z' w' d n' by' E := by
  have zr : ∀ p, p < 9 ∨ (13 ≤ p ∧ p ≤ 17) ∨ (283 ≤ p ∧ p ≠ 290 ∧ p ≠ 291 ∧ p ≠ 296) → z' p = z p := fun p hp => by funext j; exact hz p j (by omega)
  have r0 := zr 0 (by omega)
  obtain ⟨a1, a2, a3, a4, a5, a6, a7, a8, a9, a10, a11⟩ := h
  refine ⟨a1, a2.fr (zr _ (by omega)) (zr _ (by omega)) (zr _ (by omega)) (zr _ (by omega)), hm, a4, a5, hk, a7.fr (fun j _ => by rw [r0]) (fun p h1 h2 => zr p (by omega)) (fun p h1 => zr p (by omega)) (fun j hj => hw 0 j (by omega)) (fun p hp => by funext j; exact hw p j (by omega)) (fun _ q => q), ht, a9.fr (by rw [r0]) (hz 20 0 (by omega)) (fun p h1 h2 => zr p (by omega)), ?_, a11.fr (by rw [r0]) (zr 292 (by omega)) (zr 293 (by omega))⟩
  exact a10.fr (by rw [r0]) (fun p h1 h2 => zr p (by omega))
theorem c_feed {k : Nat} {z w : gS} (h : Rel k z w) (x : Int32) : AL (k + 1) (f_X10_feed x z) (f_X11_feed x w) := by
  have h' := h
  obtain ⟨d, n, by_, E, hR⟩ := h'
  have hR' := hR
  obtain ⟨v, hx, hm, hE, hW, hk, _, ⟨hb, t1, t2, t3, t4, t5⟩, _⟩ := hR'
  have hn := hb.1
  rcases ixs x (n := 128) (by omega) with hbx | ⟨a, ha, rfl⟩
  · refine AL.z h (r := -2) ?_ ?_
    · unfold f_X10_feed
      rcases hbx with q | q
      · rw [if_pos q]
      · rw [if_neg (ge_nn (by omega) q), if_neg (le_n (by omega) q)]
    · unfold f_X11_feed
      rw [in_n (by omega) hbx, q_gb, q_if00]
  · unfold f_X10_feed f_X11_feed f_X7_append
    rw [q_iflt0 (by omega), if_pos (nI_le (show a ≤ 127 by omega) (by omega)), m_in_nat (show a ≤ 127 by omega) (by omega), q_gb, q_if1, t1, t3, q_iflt (by omega) (by omega), q_ifeq (by omega) (by omega)]
    by_cases c : n < 100
    · rw [if_pos c, if_neg (by omega), q_gg (by omega) (by omega), q_gg (by omega) (by omega), nI_clamp (by omega), q_gl, q_gl, q_gl, q_gl, q_gb, q_if1]
      have e1 : gup z (290 + 1) n (nI a) 290 1 = nI n := by rw [gup_n (by omega)]; exact t1
      have e2 : gup w 8 n (nI a) 0 15 = nI n := by rw [gup_n (by omega)]; exact t3
      rw [e1, e2, nI_add]
      have hm2 : SM (gup (gup w 8 n (nI a)) 0 15 (nI (n + 1))) d := by
        refine SM.g0 ?_ (by omega)
        obtain ⟨m1, m2, m3, m4, m5⟩ := hm
        exact ⟨by rw [gup_n (by omega)]; exact m1, by rw [gup_n (by omega)]; exact m2, fun i hi => by rw [gup_n (by omega)]; exact m3 i hi, fun i hi => by rw [gup_n (by omega)]; exact m4 i hi, fun i hi => by rw [gup_n (by omega)]; exact m5 i hi⟩
      refine ⟨nI (n + 1), gup (gup z 291 n (nI a)) 290 1 (nI (n + 1)), gup (gup w 8 n (nI a)) 0 15 (nI (n + 1)), ?_, ?_, d, n + 1, fun i => if i = n then a else by_ i, E, hR.tp (by omega) (fun p j hp => by rw [gup_n (by omega), gup_n (by omega)]) (fun p j hp => by rw [gup_n (by omega), gup_n (by omega)]) hm2 ⟨⟨by omega, fun i hi => ?_⟩, gup_s, fun i hi => ?_, gup_s, fun i hi => ?_, ?_⟩⟩
      · show some (gup (gup z (290 + 1) n (nI a)) 290 1 (nI (n + 1)) 290 1, _) = _
        rw [gup_s]
      · rw [gup_s]
      · dsimp only
        split
        · omega
        · exact hb.2 i (by omega)
      · dsimp only
        rw [gup_n (by omega)]
        by_cases ci : i = n
        · subst ci; rw [if_pos rfl]; exact gup_s
        · rw [if_neg ci, gup_n (show (291 : Nat) ≠ 291 ∨ i ≠ n by omega)]; exact t2 i (by omega)
      · dsimp only
        rw [gup_n (by omega)]
        by_cases ci : i = n
        · subst ci; rw [if_pos rfl]; exact gup_s
        · rw [if_neg ci, gup_n (show (8 : Nat) ≠ 8 ∨ i ≠ n by omega)]; exact t4 i (by omega)
      · have f1 : gup (gup z 291 n (nI a)) 290 1 (nI (n + 1)) 0 13 = z 0 13 := by rw [gup_n (by omega), gup_n (by omega)]
        have f2 : gup (gup w 8 n (nI a)) 0 15 (nI (n + 1)) 0 16 = w 0 16 := by rw [gup_n (by omega), gup_n (by omega)]
        rw [f1, f2]; exact t5
    · rw [if_neg c, if_pos (by omega), q_gb, q_if00]
      exact AL.z h rfl rfl
theorem c_read {k : Nat} {z w : gS} (h : Rel k z w) : AL (k + 1) (f_X10_read z) (f_X11_read w) := by
  obtain ⟨d, n, by_, E, hR⟩ := h
  have hR' := hR
  obtain ⟨v, hx, hm, hE, hW, hk, hS, ⟨hb, t1, t2, t3, t4, t5⟩, hC, _⟩ := hR'
  obtain ⟨q1, e1, a1, a2, a3⟩ := x_read hb t1 t2 hx v
  obtain ⟨q2, e2, b1, b2, b3, b4⟩ := m_read hb t3 t4 hm v
  obtain ⟨r1, r2⟩ := rdO_ok hb v
  refine ⟨(rdO n by_ d).1, q1.2, q2.2, by rw [e1, ← a1], by rw [e2, ← b1], ?_⟩
  have hb0 : BT 0 by_ := ⟨by omega, fun i hi => absurd hi (by omega)⟩
  have hw : ∀ p j, ((p = 0 ∧ 33 ≤ j) ∨ 13 ≤ p) → q2.2 p j = w p j := fun p j hp => b3 p j (by omega)
  cases e : (rdO n by_ d).2 with
  | none =>
    rw [e] at a3 b4
    dsimp only at a3 b4
    refine ⟨d, 0, by_, E, hR.tp (by omega) (fun p j hp => a3 p j (by omega) (by omega)) hw b4.1 ⟨hb0, a2, fun i hi => absurd hi (by omega), b2, fun i hi => absurd hi (by omega), ?_⟩⟩
    rw [a3 0 13 (by omega) (by omega), b4.2]
    exact t5
  | some d' =>
    rw [e] at a3 b4
    dsimp only at a3 b4
    obtain ⟨c1, c2, W, c3, c4, c5⟩ := r2 d' e
    obtain ⟨x1, x2, x3, x4⟩ := a3
    have zr : ∀ p, (5 ≤ p ∧ p ≤ 8) ∨ (p = 15 ∨ p = 20) ∨ p = 291 ∨ 297 ≤ p → q1.2 p = z p := fun p hp => by funext j; exact x4 p j (by omega)
    refine ⟨d', 0, by_, E ++ W, c2, x1, b4.1, fun t ht => ?_, fun c hc => ?_, by rw [List.length_append]; omega, hS.fr (fun j hj => x4 0 j (by omega)) (fun p h1 h2 => zr p (by omega)) (fun p h1 => zr p (by omega)) (fun j hj => hw 0 j (by omega)) (fun p hp => by funext j; exact hw p j (by omega)) (fun c hc => List.mem_append_left _ hc), ⟨hb0, a2, fun i hi => absurd hi (by omega), b2, fun i hi => absurd hi (by omega), ?_⟩, ⟨by rw [zr 15 (by omega)]; exact hC.1, by rw [zr 20 (by omega)]; exact hC.2.1, Or.inl x3.1⟩, Or.inl x3.2.1, Or.inl x3.2.2⟩
    · rcases c5 t ht with ⟨i, hi, q⟩ | q
      · rw [← q]; exact List.mem_append_left _ (hE i hi)
      · exact List.mem_append_right _ q
    · rcases List.mem_append.mp hc with q | q
      · exact hW c q
      · exact c3 c q
    · rw [x2, b4.2, t5]
theorem x_readySheet {z : gS} {d : Dat} (v : VN d) (hx : SX z 1 d) (g : GG d z) : Ok (f_X10_readySheet z) (fun z' => GG d z' ∧ ZK2 z z' ∧ SB z' (pLn d (dg d))) := by
  have g' := g
  obtain ⟨g1, g2, g3⟩ := g'
  unfold f_X10_readySheet
  rcases g3 with e | ⟨e, hS⟩
  · rw [e, q_if00]
    refine (x_write v.1 v.2 hx).b (fun y hy => ?_)
    rw [q_gl]
    have yr : ∀ p j, ¬ (p = 292 ∨ p = 293) → ¬ (p = 0 ∧ j = 17) → gup y 0 17 (nI 1) p j = z p j := fun p j h1 h2 => by rw [gup_n (by omega), hy.2 p (by omega)]
    have yrow : ∀ p, 1 ≤ p → ¬ (p = 292 ∨ p = 293) → gup y 0 17 (nI 1) p = z p := fun p h1 h2 => by funext j; exact yr p j h2 (by omega)
    have hS : SB (gup y 0 17 (nI 1)) (pLn d (dg d)) := by
      have e2 : gup y 0 17 (nI 1) 292 = y 292 := by funext j; rw [gup_n (by omega)]
      have e3 : gup y 0 17 (nI 1) 293 = y 293 := by funext j; rw [gup_n (by omega)]
      have := hy.1
      unfold SB KK at *
      rw [e2, e3]
      exact this
    exact Ok.i ⟨⟨g1.fr (yr 0 15 (by omega) (by omega)) (yr 20 0 (by omega) (by omega)) (fun p h1 h2 => yrow p (by omega) (by omega)), g2.fr (yr 0 16 (by omega) (by omega)) (fun p h1 h2 => yrow p (by omega) (by omega)), Or.inr ⟨gup_s, hS⟩⟩, fun p j hp => yr p j (by omega) (by omega), hS⟩
  · rw [e, q_if1]
    exact Ok.i ⟨g, ZK2.rf, hS⟩
theorem c_spell {k : Nat} {z w : gS} (h : Rel k z w) : AL (k + 1) (f_X10_spell z) (f_X11_spell w) := by
  obtain ⟨d, n, by_, E, hR⟩ := h
  have hR' := hR
  obtain ⟨v, hx, hm, hE, _⟩ := hR'
  refine AL.g hR (r := nI (pLn d (dg d)).length) ?_ ?_
  · unfold f_X10_spell
    refine (x_readySheet v hx hR.g).b (fun y hy => ?_)
    exact Ok.i ⟨hy.2.2.1, hy.2.1, hy.1⟩
  · unfold f_X11_spell
    refine (m_papers v.1 hm).b (fun y hy => ?_)
    exact Ok.i ⟨hy.1.1, hy.2⟩
theorem c_paper {k : Nat} {z w : gS} (h : Rel k z w) (x : Int32) : AL (k + 1) (f_X10_paper x z) (f_X11_paper x w) := by
  obtain ⟨d, n, by_, E, hR⟩ := h
  have hR' := hR
  obtain ⟨v, hx, hm, hE, _⟩ := hR'
  have v1 := v.1.1
  have hl := pLn_len d (dg d)
  unfold f_X10_paper f_X11_paper
  rcases ixs x (n := (pLn d (dg d)).length) (by omega) with hb | ⟨i, hi, rfl⟩
  · refine AL.g hR (r := gm1) ?_ ?_
    · refine (x_readySheet v hx hR.g).b (fun y hy => ?_)
      rcases hb with q | q
      · rw [if_pos q]; exact Ok.i ⟨rfl, hy.2.1, hy.1⟩
      · rw [if_neg (ge_nn (by omega) q), hy.2.2.1, if_neg (lt_n (by omega) q)]; exact Ok.i ⟨rfl, hy.2.1, hy.1⟩
    · refine (m_papers v.1 hm).b (fun y hy => ?_)
      rw [hy.1.1, m_in_out (by omega) hb, q_gb, q_if00]
      exact Ok.i ⟨rfl, hy.2⟩
  · refine AL.g hR (r := nI ((pLn d (dg d)).getD i 0)) ?_ ?_
    · refine (x_readySheet v hx hR.g).b (fun y hy => ?_)
      rw [q_iflt0 (by omega), hy.2.2.1, if_pos (nI_lt hi (by omega)), q_gg (by omega) (by omega), nI_clamp (by omega), hy.2.2.2 i hi]
      exact Ok.i ⟨rfl, hy.2.1, hy.1⟩
    · refine (m_papers v.1 hm).b (fun y hy => ?_)
      rw [hy.1.1, m_in_in hi (by omega), q_gb, q_if1, q_gg (by omega) (by omega), nI_clamp (by omega), hy.1.2 i hi]
      exact Ok.i ⟨rfl, hy.2⟩
