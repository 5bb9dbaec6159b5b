/-! the class finds the clusters -/
theorem x_fc_58 {z : gS} {p p1 all A : Nat} {st : Nat → Nat} (hPK : PK z p1 all none none st) (hp : p1 + 4 < p) (ha : all < 2 ^ 7) (hs : ∀ g, g < 7 → st g < 2 ^ 8) (hA : A ≤ all) (hsub : nd A all = 0) (hCI : CI z p all (bs all (mfP all none none) (tol all st)) A 0) {K : Int32 → gS → Option gS} {P : gS → Prop} (hK : ∀ z', CI z' p all (bs all (mfP all none none) (tol all st)) (A + 1) 0 → Fn 7 z z' p → Ok (K (nI A + nI 1) z') P) : Ok (f_X9_findClusters_58 p p1 (nI A) K gF (nI 0) z) P := by
  have hm := mfP_hm all none none
  have hB : ∀ A g, bs all (mfP all none none) (tol all st) A g = true → g < 7 := fun A g h => (hm A g (bs_m h)).1
  have hB2 : ∀ A g, bs all (mfP all none none) (tol all st) A g = true → A.testBit g = false := fun A g h => (hm A g (bs_m h)).2.2
  unfold f_X9_findClusters_58
  refine gforI0 (fun k s => s.1 = nI k ∧ CI s.2 p all (bs all (mfP all none none) (tol all st)) A k ∧ Fn 7 z s.2 p) (e := 7) (by omega) ⟨rfl, hCI, Fn.rf⟩ (fun k rec s hk hi hr => ?_) (fun rec s hi => ?_)
  · obtain ⟨x3, y⟩ := s
    obtain ⟨g1, g2, g3⟩ := hi
    dsimp only at g1 g2 g3
    subst g1
    have hy := hPK.fn g3 (by omega)
    show Ok (f_X9_findClusters_58_b p p1 (nI A) K (fun x3 z => rec (x3, z)) (nI k) y) P
    unfold f_X9_findClusters_58_b
    rw [if_neg (nI_ge hk (by omega)), q_gg (by omega) (by omega), nI_clamp (by omega), nI_add]
    rcases g2.rc hB2 hA with ⟨e1, e2⟩ | ⟨e1, e2⟩
    · rw [e1, q_if1, x_isBest hy ha hsub hk hs (fun x q => by cases q) (fun x q => by cases q), q_gb, q_ifb]
      by_cases c : bs all (mfP all none none) (tol all st) A k = true
      · obtain ⟨q1, q2, q3⟩ := hm A k (bs_m c)
        have hsb := sub_or hsub q2
        have hole := sub_le hsb
        rw [if_pos c, q_sh1 (by omega), q_or, q_gg (by omega) (by omega), nI_clamp (by omega), q_gl]
        refine (x_partPassed (z := gup y (p + 2) (A ||| 2 ^ k) (nI 1)) ha (by rw [gup_n (by omega)]; exact g2.2.2) (by omega)).b (fun u hu => ?_)
        refine hr _ ⟨rfl, ⟨fun S hS => ?_, fun S hS => ?_, ?_⟩, fun a qa => ?_⟩
        · dsimp only
          by_cases hb : brkS all A k S
          · rw [(hu.1 S hS).1 hb]
            exact Or.inr ⟨rfl, fun q => q.2 A k (Or.inr ⟨rfl, by omega⟩) e2 c hb⟩
          · rw [(hu.1 S hS).2 hb, gup_n (by omega)]
            refine (g2.1 S hS).c (and_congr_right (fun _ => ⟨fun q A' g' h1 h2 h3 h4 => ?_, fun q A' g' h1 h2 h3 => q A' g' ?_ h2 h3⟩))
            · by_cases e : A' = A ∧ g' = k
              · obtain ⟨rfl, rfl⟩ := e
                exact hb h4
              · exact q A' g' (by unfold dnS at h1 ⊢; omega) h2 h3 h4
            · unfold dnS at h1 ⊢; omega
        · dsimp only
          rw [hu.2 (p + 2) (by omega)]
          by_cases e : S = A ||| 2 ^ k
          · rw [e, gup_s]
            exact Or.inl ⟨rfl, Or.inr ⟨A, k, Or.inr ⟨rfl, by omega⟩, e2, c, rfl⟩⟩
          · rw [gup_n (by omega)]
            refine (g2.2.1 S hS).c (or_congr_right ⟨?_, ?_⟩)
            · rintro ⟨A', g', h1, h2, h3, h4⟩
              exact ⟨A', g', by unfold dnS at h1 ⊢; omega, h2, h3, h4⟩
            · rintro ⟨A', g', h1, h2, h3, h4⟩
              refine ⟨A', g', ?_, h2, h3, h4⟩
              have : ¬ (A' = A ∧ g' = k) := fun q => e (by rw [← h4, q.1, q.2])
              unfold dnS at h1 ⊢
              omega
        · dsimp only
          rw [hu.2 p (by omega), gup_n (by omega)]
          exact g2.2.2
        · dsimp only
          rw [hu.2 a (by omega)]
          have : gup y (p + 2) (A ||| 2 ^ k) (nI 1) a = y a := by
            funext b
            rw [gup_n (by omega)]
          rw [this]
          exact g3 a qa
      · rw [if_neg c]
        exact hr _ ⟨rfl, g2.skip (fun q => c q.2), g3⟩
    · rw [e1, q_if00]
      exact hr _ ⟨rfl, g2.skip (fun q => e2 q.1), g3⟩
  · obtain ⟨x3, y⟩ := s
    obtain ⟨g1, g2, g3⟩ := hi
    dsimp only at g1 g2 g3
    subst g1
    show Ok (f_X9_findClusters_58_b p p1 (nI A) K (fun x3 z => rec (x3, z)) (nI 7) y) P
    unfold f_X9_findClusters_58_b
    rw [if_pos (nI_le (Nat.le_refl _) (by omega))]
    exact hK y (g2.next hB) g3
/-- the clusters stand in the class's tree -/
def CT (z : gS) (p all : Nat) (c : Nat → Bool) : Prop := z p 2 = nI all ∧ ∀ S, S ≤ all → z (p + 1) S = nI (c S).toNat
theorem x_fc_120 {z : gS} {p p1 all : Nat} {c : Nat → Bool} (ha : all < 2 ^ 7) (h : CT z p all c) (h3 : z p 3 = nI 0) (hc : c 0 = false) : Ok (f_X9_findClusters_120 p p1 gF (nI 1) z) (fun z' => CT z' p all c ∧ z' p 3 = nI (cntB c (all + 1)) ∧ Fn 7 z z' p) := by
  unfold f_X9_findClusters_120
  refine gforI0 (fun k s => s.1 = nI (k + 1) ∧ CT s.2 p all c ∧ s.2 p 3 = nI (cntB c (k + 1)) ∧ Fn 7 z s.2 p) (e := all) (by omega) ⟨rfl, h, ?_, Fn.rf⟩ (fun k rec s hk hi hr => ?_) (fun rec s hi => ?_)
  · show z p 3 = nI (0 + (c 0).toNat)
    rw [h3, hc]
    rfl
  · obtain ⟨x2, y⟩ := s
    obtain ⟨g1, g2, g3, g4⟩ := hi
    dsimp only at g1 g2 g3 g4
    subst g1
    show Ok (f_X9_findClusters_120_b p p1 (fun x2 z => rec (x2, z)) (nI (k + 1)) y) _
    unfold f_X9_findClusters_120_b
    rw [g2.1, if_neg (nI_nlt (show k + 1 ≤ all by omega) (by omega)), q_gg (by omega) (by omega), nI_clamp (by omega), g2.2 (k + 1) (by omega), q_ifb, g3, nI_add, nI_add, q_gl]
    have hs : cntB c (k + 1 + 1) = cntB c (k + 1) + (c (k + 1)).toNat := rfl
    cases e : c (k + 1)
    · rw [if_neg (by decide)]
      refine hr _ ⟨rfl, g2, ?_, g4⟩
      dsimp only
      rw [hs, e, g3]
      rfl
    · rw [if_pos rfl]
      refine hr _ ⟨rfl, ⟨?_, fun S hS => ?_⟩, ?_, g4.tr (Fn.up (by omega) (by omega))⟩
      · dsimp only; rw [gup_n (by omega)]; exact g2.1
      · dsimp only; rw [gup_n (by omega)]; exact g2.2 S hS
      · dsimp only; rw [gup_s, hs, e]; rfl
  · obtain ⟨x2, y⟩ := s
    obtain ⟨g1, g2, g3, g4⟩ := hi
    dsimp only at g1 g2 g3 g4
    subst g1
    show Ok (f_X9_findClusters_120_b p p1 (fun x2 z => rec (x2, z)) (nI (all + 1)) y) _
    unfold f_X9_findClusters_120_b
    rw [g2.1, if_pos (nI_lt (Nat.lt_succ_self _) (by omega))]
    exact Ok.i ⟨g2, g3, g4⟩
theorem wkR_sub {all : Nat} {mf : Nat → Nat → Bool} {tl : Nat → Nat → Nat} (hm : HM all mf) : ∀ (pre : List Nat) (A : Nat), wkR (bs all mf tl) pre A → nd A all = 0
  | [], A, h => by
    have h : A = 0 := h
    subst h
    exact nd0
  | g :: pre, A, h => by
    obtain ⟨A', h1, h2, rfl⟩ := h
    exact sub_or (wkR_sub hm pre A' h1) (hm A' g (bs_m h2)).2.1
theorem x_findClusters {z : gS} {p p1 n : Nat} {st : Nat → Nat} (hn : n ≤ 7) (hPK : PK z p1 (2 ^ n - 1) none none st) (hp : p1 + 4 < p) (hs : ∀ g, g < 7 → st g < 2 ^ 8) (h0 : mnF (csts (2 ^ n - 1) (mfP (2 ^ n - 1) none none) (tol (2 ^ n - 1) st) 0) = 0) (h2 : z p 2 = nI (2 ^ n - 1)) : Ok (f_X9_findClusters p p1 z) (fun z' => CT z' p (2 ^ n - 1) (lie (bl (2 ^ n - 1) (mfP (2 ^ n - 1) none none) (tol (2 ^ n - 1) st) 0)) ∧ z' p 3 = nI (cntB (lie (bl (2 ^ n - 1) (mfP (2 ^ n - 1) none none) (tol (2 ^ n - 1) st) 0)) (2 ^ n)) ∧ Fn 7 z z' p) := by
  have hf := full_lt hn
  have hpow : 0 < 2 ^ n := Nat.two_pow_pos n
  have hm := mfP_hm (2 ^ n - 1) none none
  unfold f_X9_findClusters f_X9_findClusters_2
  refine gforI0 (fun k s => s.1 = nI k ∧ s.2 p 2 = nI (2 ^ n - 1) ∧ (∀ S, S < k → s.2 (p + 1) S = nI (decide (S ≠ 0)).toNat ∧ s.2 (p + 2) S = nI (decide (S = 0)).toNat) ∧ Fn 7 z s.2 p) (e := 2 ^ n - 1 + 1) (by omega) ⟨rfl, h2, fun S hS => by omega, Fn.rf⟩ (fun k rec s hk hi hr => ?_) (fun rec s hi => ?_)
  · obtain ⟨x2, y⟩ := s
    obtain ⟨g1, g2, g3, g4⟩ := hi
    dsimp only at g1 g2 g3 g4
    subst g1
    have key : ∀ a b : Int32, a = nI (decide (k ≠ 0)).toNat → b = nI (decide (k = 0)).toNat → Ok (rec (nI (k + 1), gup (gup y (p + 1) k a) (p + 2) k b)) (fun z' => CT z' p (2 ^ n - 1) (lie (bl (2 ^ n - 1) (mfP (2 ^ n - 1) none none) (tol (2 ^ n - 1) st) 0)) ∧ z' p 3 = nI (cntB (lie (bl (2 ^ n - 1) (mfP (2 ^ n - 1) none none) (tol (2 ^ n - 1) st) 0)) (2 ^ n)) ∧ Fn 7 z z' p) := fun a b ha hb => by
      refine hr _ ⟨rfl, ?_, fun S hS => ?_, (g4.tr (Fn.up (by omega) (by omega))).tr (Fn.up (by omega) (by omega))⟩
      · dsimp only; rw [gup_n (by omega), gup_n (by omega)]; exact g2
      · dsimp only
        by_cases q : S = k
        · subst q; rw [gup_n (by omega), gup_s, gup_s]; exact ⟨ha, hb⟩
        · rw [gup_n (by omega), gup_n (by omega), gup_n (by omega), gup_n (by omega)]; exact g3 S (by omega)
    show Ok (f_X9_findClusters_2_b p p1 (fun x2 z => rec (x2, z)) (nI k) y) _
    unfold f_X9_findClusters_2_b
    rw [g2, if_neg (nI_nlt (show k ≤ 2 ^ n - 1 by omega) (by omega)), q_if0 (by omega), nI_clamp (by omega), nI_add]
    by_cases c : k = 0
    · rw [if_pos c, q_gg (by omega) (by omega), q_gl, q_if0 (by omega), if_pos c, q_gg (by omega) (by omega), q_gl]
      exact key _ _ (by rw [c]; rfl) (by rw [c]; rfl)
    · rw [if_neg c, q_gg (by omega) (by omega), q_gl, q_if0 (by omega), if_neg c, q_gg (by omega) (by omega), q_gl]
      exact key _ _ (by rw [decide_eq_true c]; rfl) (by rw [decide_eq_false c]; rfl)
  · obtain ⟨x2, y⟩ := s
    obtain ⟨g1, g2, g3, g4⟩ := hi
    dsimp only at g1 g2 g3 g4
    subst g1
    show Ok (f_X9_findClusters_2_b p p1 (fun x2 z => rec (x2, z)) (nI (2 ^ n - 1 + 1)) y) _
    unfold f_X9_findClusters_2_b
    rw [g2, if_pos (nI_lt (Nat.lt_succ_self _) (by omega))]
    have hCI : CI y p (2 ^ n - 1) (bs (2 ^ n - 1) (mfP (2 ^ n - 1) none none) (tol (2 ^ n - 1) st)) 0 0 := by
      have hno : ∀ A' g', ¬ dnS 0 0 A' g' := fun A' g' q => by unfold dnS at q; omega
      refine ⟨fun S hS => ?_, fun S hS => ?_, g2⟩
      · rw [(g3 S (by omega)).1]
        by_cases c : S = 0
        · rw [decide_eq_false (fun q => q c)]
          exact Or.inr ⟨rfl, fun q => q.1 c⟩
        · rw [decide_eq_true c]
          exact Or.inl ⟨rfl, c, fun A' g' q => absurd q (hno A' g')⟩
      · rw [(g3 S (by omega)).2]
        by_cases c : S = 0
        · rw [decide_eq_true c]
          exact Or.inl ⟨rfl, Or.inl c⟩
        · rw [decide_eq_false c]
          refine Or.inr ⟨rfl, ?_⟩
          rintro (q | ⟨A', g', q, _⟩)
          · exact c q
          · exact hno A' g' q
    unfold f_X9_findClusters_48
    refine gforI0 (fun k s => s.1 = nI k ∧ CI s.2 p (2 ^ n - 1) (bs (2 ^ n - 1) (mfP (2 ^ n - 1) none none) (tol (2 ^ n - 1) st)) k 0 ∧ Fn 7 z s.2 p) (e := 2 ^ n - 1 + 1) (by omega) ⟨rfl, hCI, g4⟩ (fun k rec s hk hi hr => ?_) (fun rec s hi => ?_)
    · obtain ⟨x2, u⟩ := s
      obtain ⟨k1, k2, k3⟩ := hi
      dsimp only at k1 k2 k3
      subst k1
      show Ok (f_X9_findClusters_48_b p p1 (fun x2 z => rec (x2, z)) (nI k) u) _
      unfold f_X9_findClusters_48_b
      rw [k2.2.2, if_neg (nI_nlt (show k ≤ 2 ^ n - 1 by omega) (by omega))]
      refine x_fc_58 (hPK.fn k3 (by omega)) hp hf hs (by omega) (full_sub (by omega)) k2 (fun z' h1 h2 => ?_)
      rw [nI_add]
      exact hr _ ⟨rfl, h1, k3.tr h2⟩
    · obtain ⟨x2, u⟩ := s
      obtain ⟨k1, k2, k3⟩ := hi
      dsimp only at k1 k2 k3
      subst k1
      show Ok (f_X9_findClusters_48_b p p1 (fun x2 z => rec (x2, z)) (nI (2 ^ n - 1 + 1)) u) _
      unfold f_X9_findClusters_48_b
      rw [k2.2.2, if_pos (nI_lt (Nat.lt_succ_self _) (by omega)), q_gl]
      have hct : CT u p (2 ^ n - 1) (lie (bl (2 ^ n - 1) (mfP (2 ^ n - 1) none none) (tol (2 ^ n - 1) st) 0)) := by
        refine ⟨k2.2.2, fun S hS => ((k2.1 S hS).c ?_).b⟩
        rw [← cl_iff hf h0]
        refine and_congr_right (fun _ => ⟨fun q A g h1 h2 => q A g (Or.inl ?_) h1 h2, fun q A g _ h1 h2 => q A g h1 h2⟩)
        obtain ⟨pre, hpre⟩ := h1
        have := sub_le (wkR_sub hm pre A hpre)
        omega
      have hup : Fn 7 u (gup u p 3 (nI 0)) p := Fn.up (by omega) (by omega)
      refine (x_fc_120 (z := gup u p 3 (nI 0)) hf ⟨?_, fun S hS => ?_⟩ gup_s ?_).m (fun z' h' => ⟨h'.1, ?_, (k3.tr hup).tr h'.2.2⟩)
      · rw [gup_n (by omega)]; exact hct.1
      · rw [gup_n (by omega)]; exact hct.2 S hS
      · rfl
      · rw [h'.2.1, show 2 ^ n - 1 + 1 = 2 ^ n by omega]
