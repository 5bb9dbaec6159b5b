/-! told ends, by the reference -/
theorem flt1 {E : List Nat → Bool} {pre : List (List Nat)} {l : List Nat} : (pre ++ [l]).filter E = pre.filter E ++ (if E l then [l] else []) := by
  rw [List.filter_append, List.filter_cons]
  rfl
theorem cntP1 {E P : List Nat → Bool} {pre : List (List Nat)} {l : List Nat} (h : E l = true) : ((pre ++ [l]).filter E).countP P = (pre.filter E).countP P + (P l).toNat := by
  rw [flt1, if_pos h, List.countP_append, List.countP_cons, List.countP_nil]
  cases P l <;> rfl
theorem m_ends_62 {w : gS} {d : Dat} {all n ty x y : Nat} {asc : List Nat} (h0 : E0 w d all n ty) (ho : OT all n asc) (hw : RW w asc) (hn : n ≠ 0) (hx : x < 7) (hy : y < 7) {x3 : Int32} : Ok (f_X11_ends_62 (nI x) (nI y) x3 gF gm1 (nI 0) (nI 0) (nI 1) w) (fun q => (∃ a b c, MN (gpS d ty) ((oT all).filter (enE n x y)) a b c ∧ q.1 = if x3 = 0 then nI (((oT all).filter (enE n x y)).countP (fun l => decide (gpS d ty l = 0))) else if x3 = nI 1 then a else c) ∧ SE w q.2) := by
  unfold f_X11_ends_62
  refine gforL (fun L s => ∃ pre, EN w d all n ty pre L s.2.2.2.1 s.2.2.2.2 ∧ (∃ b, MN (gpS d ty) (pre.filter (enE n x y)) s.1 b s.2.2.1) ∧ s.2.1 = nI ((pre.filter (enE n x y)).countP (fun l => decide (gpS d ty l = 0)))) (fun l L rec s hi hr => ?_) (fun rec s hi => ?_) (oT all) gF _ h0.ln ⟨[], EN.s ho hw, ⟨nI 0, Or.inl ⟨rfl, rfl, rfl⟩⟩, rfl⟩
  · obtain ⟨x4, x5, x6, x7, z⟩ := s
    obtain ⟨pre, g1, ⟨b, g2⟩, g3⟩ := hi
    dsimp only at g1 g2 g3
    subst g3
    obtain ⟨e1, e2, e3, rfl, e5, e6, e7⟩ := g1.gn h0
    have hlen : l.length = n := (ho.2.2.2.2.2 l e3).1
    have hn7 := e6.1
    have hpre : ∀ l ∈ pre.filter (enE n x y), gpS d ty l < 1000 := fun a ha => by
      have := gp_40 (ty := ty) h0.2.1 h0.2.2.2.2.1 (show a ∈ oT all by rw [g1.1]; simp [(List.mem_filter.mp ha).1])
      omega
    have hd0 := e6.d (i := 0)
    have hd1 := e6.d (i := n - 1)
    have hskip : enE n x y l = false → Ok (gb (f_X11_goesOn z) fun q => rec (x4, nI ((pre.filter (enE n x y)).countP (fun l => decide (gpS d ty l = 0))), x6, q.1, q.2)) (fun q => (∃ a b c, MN (gpS d ty) ((oT all).filter (enE n x y)) a b c ∧ q.1 = if x3 = 0 then nI (((oT all).filter (enE n x y)).countP (fun l => decide (gpS d ty l = 0))) else if x3 = nI 1 then a else c) ∧ SE w q.2) := fun hE => by
      have e8 : (pre ++ [l]).filter (enE n x y) = pre.filter (enE n x y) := by rw [flt1, hE]; simp
      exact g1.go.b (fun q hq => hr _ ⟨pre ++ [l], hq.1, ⟨b, by rw [e8]; exact g2⟩, by rw [e8]⟩)
    have htake : enE n x y l = true → Ok (f_X11_ends_110 (nI x) (nI y) x3 x4 x6 (nI (gpS d ty l)) (fun x4 x5 x6 x7 z => rec (x4, x5, x6, x7, z)) (nI ((pre.filter (enE n x y)).countP (fun l => decide (gpS d ty l = 0)))) (nI (decide (gpS d ty l = 0)).toNat) z) (fun q => (∃ a b c, MN (gpS d ty) ((oT all).filter (enE n x y)) a b c ∧ q.1 = if x3 = 0 then nI (((oT all).filter (enE n x y)).countP (fun l => decide (gpS d ty l = 0))) else if x3 = nI 1 then a else c) ∧ SE w q.2) := fun hE => by
      have e8 : (pre ++ [l]).filter (enE n x y) = pre.filter (enE n x y) ++ [l] := by rw [flt1, hE]; simp
      have e9 := cntP1 (P := fun l => decide (gpS d ty l = 0)) (pre := pre) hE
      unfold f_X11_ends_110
      rw [nI_add, q_gl]
      rcases g2 with ⟨k1, k2, k3⟩ | ⟨k1, k2, k3, k4⟩
      · rw [if_pos k2, e2, q_gb]
        exact g1.go.b (fun q hq => hr _ ⟨pre ++ [l], hq.1, ⟨nI 1, by rw [e8]; exact MN.lt rfl (by omega) (Or.inl k1)⟩, by rw [e9]⟩)
      · have hmn := mnF_le ((pre.filter (enE n x y)).map (gpS d ty))
        rw [k2, if_neg (nI_ne_m1 (by omega)), q_ifle (by omega) (by omega)]
        rcases Nat.lt_trichotomy (gpS d ty l) (mnF ((pre.filter (enE n x y)).map (gpS d ty))) with c | c | c
        · rw [if_neg (by omega), e2, q_gb]
          exact g1.go.b (fun q hq => hr _ ⟨pre ++ [l], hq.1, ⟨nI 1, by rw [e8]; exact MN.lt rfl (by omega) (Or.inr c)⟩, by rw [e9]⟩)
        · rw [if_pos (by omega)]
          refine g1.go.b (fun q hq => hr _ ⟨pre ++ [l], hq.1, ⟨nI (wy ((pre.filter (enE n x y)).map (gpS d ty)) + 1), ?_⟩, by rw [e9]⟩)
          rw [e8]
          dsimp only
          rw [← c]
          exact MN.eq hpre rfl (by omega) k1 c k4
        · rw [if_pos (by omega)]
          refine g1.go.b (fun q hq => hr _ ⟨pre ++ [l], hq.1, ⟨nI (wy ((pre.filter (enE n x y)).map (gpS d ty))), ?_⟩, by rw [e9]⟩)
          rw [e8]
          exact MN.gt hpre rfl (by omega) k1 c k4
    show Ok (f_X11_ends_62_b (nI x) (nI y) x3 (fun x4 x5 x6 x7 z => rec (x4, x5, x6, x7, z)) x4 (nI ((pre.filter (enE n x y)).countP (fun l => decide (gpS d ty l = 0)))) x6 (nI 1) z) _
    unfold f_X11_ends_62_b
    rw [q_if1, q_gg (by omega) (by omega), nI_clamp (by omega), e7.2 0 (by omega), e7.1, pk_sub (by omega), hlen, q_gg (by omega) (by omega), nI_clamp (by omega), e7.2 (n - 1) (by omega), q_ifeq (by omega) (by omega), q_ifeq (by omega) (by omega), e1, q_gb, q_if0 (by omega)]
    by_cases c1 : l.getD 0 0 = x
    · rw [if_pos c1]
      by_cases c2 : l.getD (n - 1) 0 = y
      · rw [if_pos c2]
        have hE : enE n x y l = true := by unfold enE; rw [decide_eq_true c1, decide_eq_true c2]; rfl
        have := htake hE
        by_cases c3 : gpS d ty l = 0
        · rw [decide_eq_true c3] at this
          rw [if_pos c3]
          exact this
        · rw [decide_eq_false c3] at this
          rw [if_neg c3]
          exact this
      · rw [if_neg c2]
        exact hskip (by unfold enE; rw [decide_eq_false c2, Bool.and_false])
    · rw [if_neg c1]
      exact hskip (by unfold enE; rw [decide_eq_false c1, Bool.false_and])
  · obtain ⟨x4, x5, x6, x7, z⟩ := s
    obtain ⟨pre, g1, ⟨b, g2⟩, g3⟩ := hi
    dsimp only at g1 g2 g3
    subst g3
    obtain ⟨rfl, e⟩ := g1.fl0
    show Ok (f_X11_ends_62_b (nI x) (nI y) x3 (fun x4 x5 x6 x7 z => rec (x4, x5, x6, x7, z)) x4 (nI ((pre.filter (enE n x y)).countP (fun l => decide (gpS d ty l = 0)))) x6 (nI 0) z) _
    unfold f_X11_ends_62_b
    rw [q_if00]
    rw [← e] at g2 ⊢
    split
    · exact Ok.i ⟨⟨x4, b, x6, g2, rfl⟩, g1.se⟩
    · split
      · exact Ok.i ⟨⟨x4, b, x6, g2, rfl⟩, g1.se⟩
      · exact Ok.i ⟨⟨x4, b, x6, g2, rfl⟩, g1.se⟩
/-- there is an order with two told ends -/
theorem plm_in {all : Nat} {mf : Nat → Nat → Bool} (hmf : ∀ b g, g < 7 → all.testBit g = true → b.testBit g = false → mf b g = true) : ∀ (l : List Nat) (b : Nat), l.Nodup → (∀ x ∈ l, x < 7 ∧ all.testBit x = true ∧ b.testBit x = false) → l ∈ plm mf l.length b
  | [], b, _, _ => by show [] ∈ [[]]; simp
  | g :: l, b, hn, hl => by
    rw [List.nodup_cons] at hn
    obtain ⟨h1, h2, h3⟩ := hl g (by simp)
    refine plm_m.mpr ⟨g, l, h1, hmf b g h1 h2 h3, plm_in hmf l (b ||| 2 ^ g) hn.2 (fun x hx => ?_), rfl⟩
    obtain ⟨q1, q2, q3⟩ := hl x (List.mem_cons_of_mem g hx)
    refine ⟨q1, q2, ?_⟩
    rw [bt_or, q3]
    have : g ≠ x := fun e => hn.1 (by rw [e]; exact hx)
    simp [this]
theorem mfP_nn {all : Nat} : ∀ b g, g < 7 → all.testBit g = true → b.testBit g = false → mfP all none none b g = true := fun b g h1 h2 h3 => by
  unfold mfP
  simp [h1, h2, h3]
theorem oT_in {g : Nat} (hg : g < 8) {l : List Nat} (hl : l.length = g) (hn : l.Nodup) (hm : ∀ x ∈ l, x < g) : l ∈ oT (2 ^ g - 1) := by
  unfold oT
  rw [(rm_full g hg).1, ← hl]
  refine plm_in mfP_nn l 0 hn (fun x hx => ?_)
  have := hm x hx
  refine ⟨by omega, ?_, Nat.zero_testBit x⟩
  rw [Nat.testBit_two_pow_sub_one, hl]
  simp
  exact this
/-- a list with told ends -/
def eL (n x y : Nat) : List Nat := x :: ((List.range n).filter (fun k => !decide (k = x) && !decide (k = y)) ++ [y])
theorem eL_ok0 : ∀ n, n < 8 → ∀ x, x < n → ∀ y, y < n → (decide (x = y) || (decide ((eL n x y).length = n) && decide (List.Pairwise (fun a b => a ≠ b) (eL n x y)) && (eL n x y).all (fun k => decide (k < n)) && enE n x y (eL n x y))) = true := by decide +kernel
theorem eL_ok (n : Nat) (hn : n < 8) (x : Nat) (hx : x < n) (y : Nat) (hy : y < n) (hxy : x ≠ y) : (eL n x y).length = n ∧ (eL n x y).Nodup ∧ (∀ k ∈ eL n x y, k < n) ∧ enE n x y (eL n x y) = true := by
  have h := eL_ok0 n hn x hx y hy
  rw [decide_eq_false hxy, Bool.false_or] at h
  simp only [Bool.and_eq_true, decide_eq_true_eq, List.all_eq_true] at h
  exact ⟨h.1.1.1, h.1.1.2, h.1.2, h.2⟩
theorem flE_ne {n x y : Nat} (hn : n < 8) (hx : x < n) (hy : y < n) (hxy : n = 1 ↔ x = y) : (oT (2 ^ n - 1)).filter (enE n x y) ≠ [] := by
  intro e
  rw [List.filter_eq_nil_iff] at e
  by_cases c : x = y
  · have := hxy.mpr c
    subst this
    have hx0 : x = 0 := by omega
    have hy0 : y = 0 := by omega
    subst hx0
    subst hy0
    exact e [0] (oT_in (by omega) rfl (by simp) (by simp)) (by decide)
  · obtain ⟨h1, h2, h3, h4⟩ := eL_ok n hn x hx y hy c
    exact e _ (oT_in hn h1 h2 h3) h4
