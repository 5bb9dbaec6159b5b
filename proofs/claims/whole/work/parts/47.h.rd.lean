/-! read, by both -/
def rdO (n : Nat) (by_ : Nat → Nat) (d : Dat) : Int32 × Option Dat := match (prs n by_ 101 0).2 with
  | some p => ((-100) - nI p, none)
  | none => match apL d (prs n by_ 101 0).1 with
    | .inl d' => (nI (prs n by_ 101 0).1.length, some d')
    | .inr s => ((-300) - nI s, none)
def wds (L : List (Nat × St)) : List Nat := L.flatMap (fun x => x.2.2.2.2.2)
theorem prs_ok {n : Nat} {by_ : Nat → Nat} (hb : BT n by_) : ∀ f a, a ≤ n → n < a + f → (∀ p, (prs n by_ f a).2 = some p → p ≤ n) ∧ (∀ x ∈ (prs n by_ f a).1, x.1 ≤ n ∧ x.2 = stm n by_ x.1) ∧ (prs n by_ f a).1.length ≤ f ∧ 2 * (wds (prs n by_ f a).1).length ≤ n - a
  | 0, a, ha, hf => by omega
  | f + 1, a, ha, hf => by
    obtain ⟨s1, s2, s3, s4, s5⟩ := stm_ok hb ha
    rw [prs_s]
    cases c : (stm n by_ a).1
    · rw [if_neg (by decide)]
      exact ⟨fun p q => by cases q; exact s1, fun x hx => (by cases hx), Nat.zero_le _, Nat.zero_le _⟩
    · obtain ⟨s6, s7, s8, s9⟩ := s5 c
      rw [if_pos rfl]
      have one : ∀ x ∈ [(a, stm n by_ a)], x.1 ≤ n ∧ x.2 = stm n by_ x.1 := fun x hx => by
        simp at hx; subst hx; exact ⟨ha, rfl⟩
      have len1 : (wds [(a, stm n by_ a)]).length = (stm n by_ a).2.2.2.2.length := by unfold wds; simp
      by_cases c1 : (stm n by_ a).2.1 = n
      · rw [if_pos c1]
        refine ⟨fun p q => (by cases q), one, by show 1 ≤ f + 1; omega, ?_⟩
        rw [len1]
        omega
      · rw [if_neg c1]
        by_cases c2 : AT n by_ (stm n by_ a).2.1 59 = true
        · have := (AT_t c2).1
          rw [if_pos c2]
          obtain ⟨i1, i2, i3, i4⟩ := prs_ok hb f ((stm n by_ a).2.1 + 1) (by omega) (by omega)
          refine ⟨i1, fun x hx => ?_, by rw [List.length_cons]; omega, ?_⟩
          · rcases List.mem_cons.mp hx with rfl | hx
            · exact ⟨ha, rfl⟩
            · exact i2 x hx
          · show 2 * (wds ((a, stm n by_ a) :: _)).length ≤ _
            unfold wds at i4 ⊢
            rw [List.flatMap_cons, List.length_append]
            try dsimp only
            omega
        · rw [if_neg c2]
          refine ⟨fun p q => by cases q; exact s1, one, by show 1 ≤ f + 1; omega, ?_⟩
          rw [len1]
          omega
theorem apL_ok {n : Nat} {by_ : Nat → Nat} (hb : BT n by_) : ∀ (L : List (Nat × St)) (d : Dat), VN d → (∀ x ∈ L, x.1 ≤ n ∧ x.2 = stm n by_ x.1) → (∀ s, apL d L = .inr s → s ≤ n) ∧ ∀ d', apL d L = .inl d' → VN d' ∧ ∀ t, t < dt d' → (∃ i, i < dt d ∧ dn d i = dn d' t) ∨ dn d' t ∈ wds L
  | [], d, v, _ => ⟨fun s q => (by cases q), fun d' q => by cases q; exact ⟨v, fun t ht => Or.inl ⟨t, ht, rfl⟩⟩⟩
  | (a, r) :: L, d, v, h => by
    obtain ⟨h1, h2⟩ := h (a, r) (by simp)
    have h2 : r = stm n by_ a := h2
    have h1 : a ≤ n := h1
    subst h2
    obtain ⟨s1, s2, s3, s4, s5⟩ := stm_ok hb h1
    have hap : apL d ((a, stm n by_ a) :: L) = match rAp d (stm n by_ a) with | none => .inr a | some d' => apL d' L := rfl
    rw [hap]
    cases e : rAp d (stm n by_ a) with
    | none => exact ⟨fun s q => by cases q; exact h1, fun d' q => (by cases q)⟩
    | some d1 =>
      obtain ⟨v1, n1⟩ := rAp_v v s4 s3 e
      obtain ⟨i1, i2⟩ := apL_ok hb L d1 v1 (fun x hx => h x (List.mem_cons_of_mem _ hx))
      refine ⟨i1, fun d' q => ?_⟩
      obtain ⟨j1, j2⟩ := i2 d' q
      refine ⟨j1, fun t ht => ?_⟩
      have hw : wds ((a, stm n by_ a) :: L) = (stm n by_ a).2.2.2.2 ++ wds L := by unfold wds; rw [List.flatMap_cons]
      rw [hw, List.mem_append]
      rcases j2 t ht with ⟨i, k1, k2⟩ | q
      · rcases n1 i k1 with ⟨i', l1, l2⟩ | q
        · exact Or.inl ⟨i', l1, by rw [l2, k2]⟩
        · exact Or.inr (Or.inl (by rw [← k2]; exact q))
      · exact Or.inr (Or.inr q)
theorem wds_wo {n : Nat} {by_ : Nat → Nat} (hb : BT n by_) {L : List (Nat × St)} (h : ∀ x ∈ L, x.1 ≤ n ∧ x.2 = stm n by_ x.1) : WO (wds L) := fun c hc => by
  obtain ⟨x, hx, hc⟩ := List.mem_flatMap.mp hc
  obtain ⟨h1, h2⟩ := h x hx
  rw [h2] at hc
  exact (stm_ok hb h1).2.2.2.1 c hc
theorem rdO_ok {n : Nat} {by_ : Nat → Nat} (hb : BT n by_) {d : Dat} (v : VN d) : ((rdO n by_ d).2 = none → (rdO n by_ d).1 < 0) ∧ (∀ d', (rdO n by_ d).2 = some d' → ¬ (rdO n by_ d).1 < 0 ∧ VN d' ∧ ∃ W, WO W ∧ 2 * W.length ≤ n ∧ ∀ t, t < dt d' → (∃ i, i < dt d ∧ dn d i = dn d' t) ∨ dn d' t ∈ W) := by
  have hn := hb.1
  obtain ⟨p1, p2, p3, p4⟩ := prs_ok hb 101 0 (Nat.zero_le _) (by omega)
  unfold rdO
  cases e : (prs n by_ 101 0).2 with
  | some p =>
    have := p1 p e
    exact ⟨fun _ => neg_lt (k := 100) (by omega) (by omega) (by decide), fun d' q => (by cases q)⟩
  | none =>
    try dsimp only
    obtain ⟨a1, a2⟩ := apL_ok hb _ d v p2
    cases e2 : apL d (prs n by_ 101 0).1 with
    | inr s =>
      have := a1 s e2
      exact ⟨fun _ => neg_lt (k := 300) (by omega) (by omega) (by decide), fun d' q => (by cases q)⟩
    | inl d1 =>
      refine ⟨fun q => (by cases q), fun d' q => ?_⟩
      cases q
      obtain ⟨b1, b2⟩ := a2 d1 e2
      exact ⟨nI_pos (by omega), b1, wds (prs n by_ 101 0).1, wds_wo hb p2, by omega, b2⟩
theorem x_tellTo {n : Nat} {by_ : Nat → Nat} (hb : BT n by_) {z : gS} {d : Dat} (h1 : z 290 1 = nI n) (h2 : ∀ i, i < n → z 291 i = nI (by_ i)) (hx : SX z 9 d) (v : VN d) : Ok (f_X7_tellTo 290 9 z) (fun q => q.1 = (rdO n by_ d).1 ∧ q.2 290 1 = nI 0 ∧ (∀ p j, ¬ (9 ≤ p ∧ p ≤ 12) → p ≠ 290 → q.2 p j = z p j) ∧ ∀ d', (rdO n by_ d).2 = some d' → SX q.2 9 d') := by
  have hn := hb.1
  unfold f_X7_tellTo f_X7_statements
  rw [q_gl]
  have hT : TP (gup z 290 2 (nI 0)) n by_ 0 := ⟨by rw [gup_n (by omega)]; exact h1, gup_s, fun i hi => by rw [gup_n (by omega)]; exact h2 i hi⟩
  refine (x_stats hb (z0 := z) 101 0 0 none gF (gup z 290 2 (nI 0)) d (Nat.zero_le _) (by omega) (q_gF (by omega)) (by omega) (fun s q => by cases q) hT hx.t v (CF.up (by omega))).b (fun q hq => ?_)
  rw [q_gl]
  have hq2 := hq.2
  refine Ok.i ?_
  try dsimp only
  refine ⟨?_, gup_s, fun p j a b => ?_, fun d' hd => ?_⟩
  · unfold rdO
    cases e : (prs n by_ 101 0).2 with
    | some p => rw [e] at hq2; exact hq2
    | none =>
      rw [e] at hq2
      dsimp only at hq2 ⊢
      cases e2 : apL d (prs n by_ 101 0).1 with
      | inr s => rw [e2] at hq2; exact hq2
      | inl d1 => rw [e2] at hq2; rw [hq2.1, Nat.zero_add]
  · try dsimp only
    rw [gup_n (by omega), hq.1 p j a (by omega)]
  · unfold rdO at hd
    cases e : (prs n by_ 101 0).2 with
    | some p => rw [e] at hd; cases hd
    | none =>
      rw [e] at hd hq2
      dsimp only at hd hq2
      cases e2 : apL d (prs n by_ 101 0).1 with
      | inr s => rw [e2] at hd; cases hd
      | inl d1 =>
        rw [e2] at hd hq2
        cases hd
        exact hq2.2.t
/-- what may not change when the site does -/
def ZR (z z' : gS) : Prop := ∀ p j, ((p = 0 ∧ j = 14) ∨ (5 ≤ p ∧ p ≤ 8) ∨ (p = 15 ∨ p = 20) ∨ p = 291 ∨ 297 ≤ p) → z' p j = z p j
theorem x_siteChanged {z : gS} : f_X10_siteChanged z = some (gup (gup (gup z 0 15 (nI 0)) 0 16 (nI 0)) 0 17 (nI 0)) := rfl
theorem x_read {n : Nat} {by_ : Nat → Nat} (hb : BT n by_) {z : gS} {d : Dat} (h1 : z 290 1 = nI n) (h2 : ∀ i, i < n → z 291 i = nI (by_ i)) (hx : SX z 1 d) (v : VN d) : Ok (f_X10_read z) (fun q => q.1 = (rdO n by_ d).1 ∧ q.2 290 1 = nI 0 ∧ match (rdO n by_ d).2 with | none => ∀ p j, ¬ (9 ≤ p ∧ p ≤ 12) → p ≠ 290 → q.2 p j = z p j | some d' => SX q.2 1 d' ∧ q.2 0 13 = z 0 13 + nI 1 ∧ (q.2 0 15 = nI 0 ∧ q.2 0 16 = nI 0 ∧ q.2 0 17 = nI 0) ∧ ZR z q.2) := by
  unfold f_X10_read
  obtain ⟨y, y1, y2, y3⟩ := x_become (p := 9) (q := 1) (by omega) hx v.1
  rw [y1, q_gb]
  refine (x_tellTo hb (z := y) (by rw [y3 290 (by omega)]; exact h1) (fun i hi => by rw [y3 291 (by omega)]; exact h2 i hi) y2 v).b (fun q hq => ?_)
  obtain ⟨q1, q2, q3, q4⟩ := hq
  obtain ⟨r1, r2⟩ := rdO_ok hb v
  have qfr : ∀ p j, ¬ (9 ≤ p ∧ p ≤ 12) → p ≠ 290 → q.2 p j = z p j := fun p j a b => by rw [q3 p j a b, y3 p (by omega)]
  cases e : (rdO n by_ d).2 with
  | none =>
    rw [q1, if_pos (r1 e)]
    exact Ok.i ⟨rfl, q2, qfr⟩
  | some d' =>
    obtain ⟨s1, s2, _⟩ := r2 d' e
    rw [q1, if_neg s1]
    obtain ⟨u, u1, u2, u3⟩ := x_become (p := 1) (q := 9) (by omega) (q4 d' e) s2.1
    rw [u1, q_gb, q_gl, x_siteChanged, q_gb]
    refine Ok.i ?_
    try dsimp only
    refine ⟨rfl, ?_, ?_, ?_, ⟨?_, ?_, ?_⟩, fun p j hp => ?_⟩
    · rw [gup_n (by omega), gup_n (by omega), gup_n (by omega), gup_n (by omega), u3 290 (by omega)]; exact q2
    · exact u2.fr (by funext b; rw [gup_n (by omega), gup_n (by omega), gup_n (by omega), gup_n (by omega)]) (by funext b; rw [gup_n (by omega), gup_n (by omega), gup_n (by omega), gup_n (by omega)]) (by funext b; rw [gup_n (by omega), gup_n (by omega), gup_n (by omega), gup_n (by omega)]) (by funext b; rw [gup_n (by omega), gup_n (by omega), gup_n (by omega), gup_n (by omega)])
    · rw [gup_n (by omega), gup_n (by omega), gup_n (by omega), gup_s, u3 0 (by omega), qfr 0 13 (by omega) (by omega)]
    · rw [gup_n (by omega), gup_n (by omega), gup_s]
    · rw [gup_n (by omega), gup_s]
    · exact gup_s
    · try dsimp only
      rw [gup_n (by omega), gup_n (by omega), gup_n (by omega), gup_n (by omega), u3 p (by omega), qfr p j (by omega) (by omega)]
theorem SM.g0 {w : gS} {d : Dat} {j : Nat} {v : Int32} (h : SM w d) (hj : j ≠ 1 ∧ j ≠ 2) : SM (gup w 0 j v) d := by
  obtain ⟨h1, h2, h3, h4, h5⟩ := h
  exact ⟨by rw [gup_n (by omega)]; exact h1, by rw [gup_n (by omega)]; exact h2, fun i hi => by rw [gup_n (by omega)]; exact h3 i hi, fun i hi => by rw [gup_n (by omega)]; exact h4 i hi, fun i hi => by rw [gup_n (by omega)]; exact h5 i hi⟩
theorem m_copies {w : gS} {p0 n0 p1 n1 n : Nat} (h0 : n ≤ n0) (h1 : n ≤ n1) (hn : n < 1000) (hne : p0 ≠ p1) (h2 : n0 < 2 ^ 31) (h3 : n1 < 2 ^ 31) : Ok (f_X11_copies p0 n0 p1 n1 (nI n) w) (fun w' => (∀ i, i < n → w' p1 i = w p0 i) ∧ ∀ a b, ¬ (a = p1) → w' a b = w a b) := by
  unfold f_X11_copies f_X11_copies_2
  refine gforI0 (fun k s => s.1 = nI k ∧ (∀ i, i < k → s.2 p1 i = w p0 i) ∧ ∀ a b, ¬ (a = p1) → s.2 a b = w a b) (e := n) (by omega) ⟨rfl, fun i hi => by omega, fun _ _ _ => rfl⟩ (fun k rec s hk hi hr => ?_) (fun rec s hi => ?_)
  · obtain ⟨x3, y⟩ := s
    obtain ⟨g1, g2, g3⟩ := hi
    dsimp only at g1 g2 g3
    subst g1
    show Ok (f_X11_copies_2_b p0 n0 p1 n1 (nI n) (fun x3 z => rec (x3, z)) (nI k) y) _
    unfold f_X11_copies_2_b
    rw [if_neg (nI_ge hk (by omega)), q_gg (by omega) h2, q_gg (by omega) h3, nI_clamp (by omega), q_gl, nI_add]
    refine hr _ ⟨rfl, fun i hi => ?_, fun a b hab => ?_⟩
    · try dsimp only
      by_cases q : i = k
      · subst q; rw [gup_s, g3 p0 i hne]
      · rw [gup_n (by omega)]; exact g2 i (by omega)
    · try dsimp only
      rw [gup_n (by omega)]; exact g3 a b hab
  · obtain ⟨x3, y⟩ := s
    obtain ⟨g1, g2, g3⟩ := hi
    dsimp only at g1 g2 g3
    subst g1
    show Ok (f_X11_copies_2_b p0 n0 p1 n1 (nI n) (fun x3 z => rec (x3, z)) (nI n) y) _
    unfold f_X11_copies_2_b
    rw [if_pos (nI_le (Nat.le_refl _) (by omega))]
    exact Ok.i ⟨g2, g3⟩
/-- what a text may not change in the reference -/
def WR (w w' : gS) : Prop := ∀ p j, ((p = 0 ∧ 33 ≤ j) ∨ p = 8 ∨ 13 ≤ p) → w' p j = w p j
theorem m_read {n : Nat} {by_ : Nat → Nat} (hb : BT n by_) {w : gS} {d : Dat} (h1 : w 0 15 = nI n) (h2 : ∀ i, i < n → w 8 i = nI (by_ i)) (hM : SM w d) (v : VN d) : Ok (f_X11_read w) (fun q => q.1 = (rdO n by_ d).1 ∧ q.2 0 15 = nI 0 ∧ WR w q.2 ∧ match (rdO n by_ d).2 with | none => SM q.2 d ∧ q.2 0 16 = w 0 16 | some d' => SM q.2 d' ∧ q.2 0 16 = w 0 16 + nI 1) := by
  have hn := hb.1
  have v1 := v.1.1
  have v2 := v.1.2.1
  obtain ⟨p1, p2, p3, p4⟩ := prs_ok hb 101 0 (Nat.zero_le _) (by omega)
  obtain ⟨r1, r2⟩ := rdO_ok hb v
  have hT : MT (gup w 0 17 (nI 0)) n by_ 0 := ⟨by rw [gup_n (by omega)]; exact h1, gup_s, fun i hi => by rw [gup_n (by omega)]; exact h2 i hi⟩
  unfold f_X11_read
  have hg1 : Ok (f_X11_goesThrough (nI 0) w) (fun q => SF w q.2 ∧ q.1 = match (prs n by_ 101 0).2 with | some p => (-100) - nI p | none => nI (0 + (prs n by_ 101 0).1.length)) := by
    unfold f_X11_goesThrough
    rw [q_gl]
    exact m_gt1 hb 101 0 0 gF _ (Nat.zero_le _) (by omega) (q_gF (by omega)) hT (SF.up (by omega))
  refine hg1.b (fun q hq => ?_)
  obtain ⟨q1, q2⟩ := hq
  have qM := hM.sf q1
  cases e : (prs n by_ 101 0).2 with
  | some p =>
    have hrd : rdO n by_ d = ((-100) - nI p, none) := by unfold rdO; rw [e]
    rw [e] at q2
    dsimp only at q2
    have hlt : (-100 : Int32) - nI p < 0 := neg_lt (k := 100) (by omega) (by have := p1 p e; omega) (by decide)
    rw [q2, if_pos hlt, q_gl, hrd]
    refine Ok.i ?_
    try dsimp only
    refine ⟨rfl, gup_s, fun p j hp => ?_, qM.g0 (by omega), ?_⟩
    · rw [gup_n (by omega), q1 p j (by omega) (by omega)]
    · rw [gup_n (by omega), q1 0 16 (by omega) (by omega)]
  | none =>
    rw [e] at q2
    dsimp only at q2
    rw [Nat.zero_add] at q2
    rw [q2, q_iflt0 (by omega), q_gl, q_gl]
    refine (m_copies (w := q.2) (p0 := 1) (n0 := 7) (p1 := 10) (n1 := 7) (n := 7) (by omega) (by omega) (by omega) (by omega) (by omega) (by omega)).b (fun a ha => ?_)
    refine (m_copies (w := a) (p0 := 2) (n0 := 7) (p1 := 11) (n1 := 7) (n := 7) (by omega) (by omega) (by omega) (by omega) (by omega) (by omega)).b (fun b hb2 => ?_)
    have bfr : ∀ p j, p ≠ 10 → p ≠ 11 → b p j = q.2 p j := fun p j a1 a2 => by rw [hb2.2 p j a2, ha.2 p j a1]
    have b10 : ∀ i, i < 7 → b 10 i = q.2 1 i := fun i hi => by rw [hb2.2 10 i (by omega), ha.1 i hi]
    have b11 : ∀ i, i < 7 → b 11 i = q.2 2 i := fun i hi => by rw [hb2.1 i hi, ha.2 2 i (by omega)]
    have bM : SM b d := by
      obtain ⟨m1, m2, m3, m4, m5⟩ := qM
      exact ⟨by rw [bfr 0 1 (by omega) (by omega)]; exact m1, by rw [bfr 0 2 (by omega) (by omega)]; exact m2, fun i hi => by rw [bfr 1 i (by omega) (by omega)]; exact m3 i hi, fun i hi => by rw [bfr 2 i (by omega) (by omega)]; exact m4 i hi, fun i hi => by rw [bfr 3 i (by omega) (by omega)]; exact m5 i hi⟩
    have bT : MT (gup b 0 17 (nI 0)) n by_ 0 := ⟨by rw [gup_n (by omega), bfr 0 15 (by omega) (by omega), q1 0 15 (by omega) (by omega)]; exact h1, gup_s, fun i hi => by rw [gup_n (by omega), bfr 8 i (by omega) (by omega), q1 8 i (by omega) (by omega)]; exact h2 i hi⟩
    have hg2 : Ok (f_X11_goesThrough (nI 1) b) (fun r => SFM b r.2 ∧ NK d b r.2 ∧ match apL d (prs n by_ 101 0).1 with | .inl d' => r.1 = nI (0 + (prs n by_ 101 0).1.length) ∧ SM r.2 d' | .inr s => r.1 = (-300) - nI s) := by
      unfold f_X11_goesThrough
      rw [q_gl]
      exact m_gt2 hb 101 0 0 gF _ d (Nat.zero_le _) (by omega) (q_gF (by omega)) bT (bM.sf (SF.up (by omega))) v (SFM.sf (SF.up (by omega))) (fun t ht => gup_n (by omega)) (Nat.le_refl _) e
    refine hg2.b (fun r hr => ?_)
    obtain ⟨r3, r4, r5⟩ := hr
    have rfr : ∀ p j, p ≠ 9 → p ≠ 10 → p ≠ 11 → ¬ (p = 1 ∨ p = 2 ∨ p = 3) → ¬ (p = 0 ∧ (j = 1 ∨ j = 2 ∨ j = 17 ∨ j = 18 ∨ j = 19 ∨ j = 20 ∨ j = 22)) → r.2 p j = w p j := fun p j a1 a2 a3 a4 a5 => by rw [r3 p j a1 a4 a5, bfr p j a2 a3, q1 p j (by omega) a1]
    cases e2 : apL d (prs n by_ 101 0).1 with
    | inl d' =>
      have hrd : rdO n by_ d = (nI (prs n by_ 101 0).1.length, some d') := by unfold rdO; rw [e]; dsimp only; rw [e2]
      rw [e2] at r5
      obtain ⟨r6, r7⟩ := r5
      rw [Nat.zero_add] at r6
      rw [r6, q_if0le (by omega), q_gl, q_gl, hrd]
      refine Ok.i ?_
      try dsimp only
      refine ⟨rfl, gup_s, fun p j hp => ?_, (r7.g0 (by omega)).g0 (by omega), ?_⟩
      · rw [gup_n (by omega), gup_n (by omega), rfr p j (by omega) (by omega) (by omega) (by omega) (by omega)]
      · rw [gup_n (by omega), gup_s, rfr 0 16 (by omega) (by omega) (by omega) (by omega) (by omega)]
    | inr s =>
      have hrd : rdO n by_ d = ((-300) - nI s, none) := by unfold rdO; rw [e]; dsimp only; rw [e2]
      rw [e2] at r5
      dsimp only at r5
      have hs := (apL_ok hb _ d v p2).1 s e2
      have hlt : (-300 : Int32) - nI s < 0 := neg_lt (k := 300) (by omega) (by omega) (by decide)
      have hge : ¬ (0 : Int32) ≤ (-300 : Int32) - nI s := fun q => by
        rw [Int32.le_iff_toInt_le] at q
        rw [Int32.lt_iff_toInt_lt] at hlt
        omega
      rw [r5, if_neg hge, q_gl, q_gl]
      refine (m_copies (w := gup (gup r.2 0 1 (q.2 0 1)) 0 2 (q.2 0 2)) (p0 := 10) (n0 := 7) (p1 := 1) (n1 := 7) (n := 7) (by omega) (by omega) (by omega) (by omega) (by omega) (by omega)).b (fun t ht => ?_)
      refine (m_copies (w := t) (p0 := 11) (n0 := 7) (p1 := 2) (n1 := 7) (n := 7) (by omega) (by omega) (by omega) (by omega) (by omega) (by omega)).b (fun u hu => ?_)
      have ufr : ∀ p j, p ≠ 1 → p ≠ 2 → u p j = gup (gup r.2 0 1 (q.2 0 1)) 0 2 (q.2 0 2) p j := fun p j a1 a2 => by rw [hu.2 p j a2, ht.2 p j a1]
      obtain ⟨m1, m2, m3, m4, m5⟩ := qM
      rw [q_gl, hrd]
      refine Ok.i ?_
      try dsimp only
      refine ⟨rfl, gup_s, fun p j hp => ?_, ⟨?_, ?_, fun i hi => ?_, fun i hi => ?_, fun i hi => ?_⟩, ?_⟩
      · try dsimp only
        rw [gup_n (by omega), ufr p j (by omega) (by omega), gup_n (by omega), gup_n (by omega), rfr p j (by omega) (by omega) (by omega) (by omega) (by omega)]
      · rw [gup_n (by omega), ufr 0 1 (by omega) (by omega), gup_n (by omega), gup_s]; exact m1
      · rw [gup_n (by omega), ufr 0 2 (by omega) (by omega), gup_s]; exact m2
      · rw [gup_n (by omega), hu.2 1 i (by omega), ht.1 i (by omega), gup_n (by omega), gup_n (by omega), r3 10 i (by omega) (by omega) (by omega), b10 i (by omega)]; exact m3 i hi
      · rw [gup_n (by omega), hu.1 i (by omega), ht.2 11 i (by omega), gup_n (by omega), gup_n (by omega), r3 11 i (by omega) (by omega) (by omega), b11 i (by omega)]; exact m4 i hi
      · rw [gup_n (by omega), ufr 3 i (by omega) (by omega), gup_n (by omega), gup_n (by omega), r4 i hi, bfr 3 i (by omega) (by omega)]; exact m5 i hi
      · rw [gup_n (by omega), ufr 0 16 (by omega) (by omega), gup_n (by omega), gup_n (by omega), rfr 0 16 (by omega) (by omega) (by omega) (by omega) (by omega)]
