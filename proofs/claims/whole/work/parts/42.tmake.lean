/-! the class's tree is made -/
theorem nO_lt0 {o : Option Nat} (ho : ∀ i, o = some i → i < 100) {r : Sort _} {x y : r} : (if nO o < 0 then x else y) = if o = none then x else y := by
  cases o with
  | none => rw [nO_none, q_ifm, if_pos rfl]
  | some i =>
    have := ho i rfl
    rw [nO_some, q_iflt0 (by omega), if_neg (by simp)]
theorem x_hasPair {z : gS} {p n k : Nat} {L : List Nat} {c : Nat → Bool} (h : KK z p 4 (p + 3) L) (hL : L.length ≤ 13) (h7 : ∀ x ∈ L, x < 2 ^ n) (hn7 : n ≤ 7) (hk : k < L.length) (hc : CT z p (2 ^ n - 1) c) (hp : ∀ i, i < L.length → z (p + 6) i = nO (abO L i)) : f_X9_hasPair p (nI k) z = some (nI (hpB c L k).toNat) := by
  have hf := full_lt hn7
  have hpos := Nat.two_pow_pos n
  have k9 : ∀ a, a < k → ∀ (K : Int32 → Option Int32) j b m, b + j = a → j < m → f_X9_hasPair_9 p z (nI k) (nI a) K m (nI b) = if (List.range' b j).any (fun b => decide (abO L a = some k) && decide (abO L b = some k) && c (L.getD a 0 ||| L.getD b 0)) then some (nI 1) else K (nI (a + 1)) := by
    intro a ha K j
    induction j with
    | zero =>
      intro b m hb hm
      obtain ⟨m, rfl⟩ : ∃ q, m = q + 1 := ⟨m - 1, by omega⟩
      show f_X9_hasPair_9_b p z (nI k) (nI a) K (fun x3 => f_X9_hasPair_9 p z (nI k) (nI a) K m x3) (nI b) = _
      unfold f_X9_hasPair_9_b
      rw [if_pos (nI_le (by omega) (by omega)), nI_add]
      rfl
    | succ j ih =>
      intro b m hb hm
      obtain ⟨m, rfl⟩ : ∃ q, m = q + 1 := ⟨m - 1, by omega⟩
      have x1 := h7 _ (getD_in (show a < L.length by omega))
      have x2 := h7 _ (getD_in (show b < L.length by omega))
      have x3 := Nat.or_lt_two_pow x1 x2
      show f_X9_hasPair_9_b p z (nI k) (nI a) K (fun x3 => f_X9_hasPair_9 p z (nI k) (nI a) K m x3) (nI b) = _
      unfold f_X9_hasPair_9_b
      rw [if_neg (nI_ge (show b < a by omega) (by omega)), q_gg (by omega) (by omega), nI_clamp (by omega), hp a (by omega), nO_eq (fun i hi => by have := abO_gt hi; omega) (by omega), q_gg (by omega) (by omega), nI_clamp (by omega), hp b (by omega), nO_eq (fun i hi => by have := abO_gt hi; omega) (by omega), q_gg (by omega) (by omega), q_gg (by omega) (by omega), h.2 a (by omega), h.2 b (by omega), q_or, q_gg (by omega) (by omega), nI_clamp (by omega), hc.2 _ (by omega), q_ifb, nI_add]
      try dsimp only
      rw [ih (b + 1) m (by omega) (by omega), List.range'_succ, List.any_cons]
      try dsimp only
      by_cases c1 : abO L a = some k
      · rw [if_pos c1, decide_eq_true c1]
        by_cases c2 : abO L b = some k
        · rw [if_pos c2, decide_eq_true c2, Bool.true_and, Bool.true_and]
          cases c3 : c (L.getD a 0 ||| L.getD b 0)
          · rw [if_neg (by decide), Bool.false_or]
          · rw [if_pos rfl, Bool.true_or, if_pos rfl]
        · rw [if_neg c2, decide_eq_false c2, Bool.true_and, Bool.false_and, Bool.false_or]
      · rw [if_neg c1, decide_eq_false c1, Bool.false_and, Bool.false_and, Bool.false_or]
  have k2 : ∀ j a m, a + j = k → j < m → f_X9_hasPair_2 p z (nI k) m (nI a) = some (nI ((List.range' a j).any (fun a => (List.range' 0 a).any (fun b => decide (abO L a = some k) && decide (abO L b = some k) && c (L.getD a 0 ||| L.getD b 0)))).toNat) := by
    intro j
    induction j with
    | zero =>
      intro a m ha hm
      obtain ⟨m, rfl⟩ : ∃ q, m = q + 1 := ⟨m - 1, by omega⟩
      show f_X9_hasPair_2_b p z (nI k) (fun x2 => f_X9_hasPair_2 p z (nI k) m x2) (nI a) = _
      unfold f_X9_hasPair_2_b
      rw [if_pos (nI_le (by omega) (by omega))]
      rfl
    | succ j ih =>
      intro a m ha hm
      obtain ⟨m, rfl⟩ : ∃ q, m = q + 1 := ⟨m - 1, by omega⟩
      show f_X9_hasPair_2_b p z (nI k) (fun x2 => f_X9_hasPair_2 p z (nI k) m x2) (nI a) = _
      unfold f_X9_hasPair_2_b
      rw [if_neg (nI_ge (show a < k by omega) (by omega)), k9 a (by omega) _ a 0 gF (by omega) (q_gF (by omega))]
      try dsimp only
      rw [ih (a + 1) m (by omega) (by omega), List.range'_succ, List.any_cons]
      try dsimp only
      cases (List.range' 0 a).any (fun b => decide (abO L a = some k) && decide (abO L b = some k) && c (L.getD a 0 ||| L.getD b 0))
      · rw [if_neg (by decide), Bool.false_or]
      · rw [if_pos rfl, Bool.true_or]
        rfl
  unfold f_X9_hasPair hpB
  exact k2 k 0 gF (by omega) (q_gF (by omega))
theorem x_sortOf {z : gS} {p n k : Nat} {L : List Nat} {c : Nat → Bool} (h : KK z p 4 (p + 3) L) (hL : L.length ≤ 13) (h7 : ∀ x ∈ L, x < 2 ^ n) (hn7 : n ≤ 7) (hk : k < L.length) (hc : CT z p (2 ^ n - 1) c) (hp : ∀ i, i < L.length → z (p + 6) i = nO (abO L i)) (hch : z (p + 5) k = nI (chN L k)) : f_X9_sortOf p (nI k) z = some (nI (soN c L k)) := by
  have hl := chN_le (L := L) (k := k)
  unfold f_X9_sortOf soN
  rw [q_gg (by omega) (by omega), nI_clamp (by omega), hch, q_ifle (by omega) (by omega), q_gg (by omega) (by omega), q_ifle (by omega) (by omega), x_hasPair h hL h7 hn7 hk hc hp, q_gb, q_ifb]
  by_cases c1 : chN L k < 2
  · rw [if_pos c1, if_neg (by omega)]
  · rw [if_neg c1, if_pos (by omega)]
    by_cases c2 : 2 < chN L k
    · rw [if_neg (by omega)]
      cases e : hpB c L k
      · rw [if_neg (by decide), if_neg (by simp)]
      · rw [if_pos rfl, if_pos ⟨c2, rfl⟩]
    · rw [if_pos (by omega), if_neg (fun q => c2 q.1)]
/-- all that the tree holds -/
def TK (z : gS) (p n : Nat) (c : Nat → Bool) : Prop := CT z p (2 ^ n - 1) c ∧ z p 3 = nI (cntB c (2 ^ n)) ∧ KK z p 4 (p + 3) (kL n c) ∧ ∀ k, k < (kL n c).length → z (p + 6) k = nO (abO (kL n c) k) ∧ z (p + 5) k = nI (chN (kL n c) k) ∧ z (p + 4) k = nI (soN c (kL n c) k)
/-- the parts of a tree that stay when its other rows are written -/
def TB (z : gS) (p n : Nat) (c : Nat → Bool) : Prop := CT z p (2 ^ n - 1) c ∧ z p 3 = nI (cntB c (2 ^ n)) ∧ KK z p 4 (p + 3) (kL n c)
theorem TB.up {z : gS} {p n k j : Nat} {c : Nat → Bool} {v : Int32} (h : TB z p n c) (hk : k = p + 4 ∨ k = p + 5 ∨ k = p + 6) : TB (gup z k j v) p n c := by
  obtain ⟨⟨h1, h2⟩, h3, h4, h5⟩ := h
  refine ⟨⟨?_, fun S hS => ?_⟩, ?_, ?_, fun i hi => ?_⟩
  · rw [gup_n (by omega)]; exact h1
  · rw [gup_n (by omega)]; exact h2 S hS
  · rw [gup_n (by omega)]; exact h3
  · rw [gup_n (by omega)]; exact h4
  · rw [gup_n (by omega)]; exact h5 i hi
theorem kL_lt {n : Nat} {c : Nat → Bool} : ∀ x ∈ kL n c, x < 2 ^ n := fun x hx => by
  obtain ⟨s, _, hs⟩ := List.mem_flatMap.mp hx
  rw [kLs_m] at hs
  exact hs.1.2
theorem x_make_93 {z : gS} {p p1 n : Nat} {c : Nat → Bool} (hn : n ≤ 7) (h : TB z p n c) (hp : ∀ i, i < (kL n c).length → z (p + 6) i = nO (abO (kL n c) i)) (hch : ∀ i, i < (kL n c).length → z (p + 5) i = nI (chN (kL n c) i)) : Ok (f_X9_make_93 p p1 gF (nI 0) z) (fun z' => TK z' p n c ∧ Fn 7 z z' p) := by
  have hL := kL_len (c := c) hn
  unfold f_X9_make_93
  refine gforI0 (fun k s => s.1 = nI k ∧ TB s.2 p n c ∧ (∀ i, i < (kL n c).length → s.2 (p + 6) i = nO (abO (kL n c) i)) ∧ (∀ i, i < (kL n c).length → s.2 (p + 5) i = nI (chN (kL n c) i)) ∧ (∀ i, i < k → s.2 (p + 4) i = nI (soN c (kL n c) i)) ∧ Fn 7 z s.2 p) (e := (kL n c).length) (by omega) ⟨rfl, h, hp, hch, fun i hi => by omega, Fn.rf⟩ (fun k rec s hk hi hr => ?_) (fun rec s hi => ?_)
  · obtain ⟨x2, y⟩ := s
    obtain ⟨g1, g2, g3, g4, g5, g6⟩ := hi
    dsimp only at g1 g2 g3 g4 g5 g6
    subst g1
    show Ok (f_X9_make_93_b p p1 (fun x2 z => rec (x2, z)) (nI k) y) _
    unfold f_X9_make_93_b
    rw [g2.2.2.1, if_neg (nI_ge hk (by omega)), x_sortOf g2.2.2 hL kL_lt hn hk g2.1 g3 (g4 k hk), q_gb, q_gg (by omega) (by omega), nI_clamp (by omega), q_gl, nI_add]
    refine hr _ ⟨rfl, g2.up (by omega), fun i hi => ?_, fun i hi => ?_, fun i hi => ?_, g6.tr (Fn.up (by omega) (by omega))⟩
    · dsimp only; rw [gup_n (by omega)]; exact g3 i hi
    · dsimp only; rw [gup_n (by omega)]; exact g4 i hi
    · dsimp only
      by_cases q : i = k
      · subst q; rw [gup_s]
      · rw [gup_n (by omega)]; exact g5 i (by omega)
  · obtain ⟨x2, y⟩ := s
    obtain ⟨g1, g2, g3, g4, g5, g6⟩ := hi
    dsimp only at g1 g2 g3 g4 g5 g6
    subst g1
    show Ok (f_X9_make_93_b p p1 (fun x2 z => rec (x2, z)) (nI (kL n c).length) y) _
    unfold f_X9_make_93_b
    rw [g2.2.2.1, if_pos (nI_le (Nat.le_refl _) (by omega))]
    exact Ok.i ⟨⟨g2.1, g2.2.1, g2.2.2, fun k hk => ⟨g3 k hk, g4 k hk, g5 k hk⟩⟩, g6⟩
theorem x_make_42 {z : gS} {p p1 n : Nat} {c : Nat → Bool} (hn : n ≤ 7) (h : TB z p n c) (hch : ∀ i, i < (kL n c).length → z (p + 5) i = nI 0) : Ok (f_X9_make_42 p p1 gF (nI 0) z) (fun z' => TK z' p n c ∧ Fn 7 z z' p) := by
  have hL := kL_len (c := c) hn
  have hpw : 2 ^ n ≤ 2 ^ 7 := Nat.pow_le_pow_right (by omega) hn
  have h128 : ∀ x ∈ kL n c, x < 128 := fun x hx => by have := kL_lt x hx; omega
  unfold f_X9_make_42
  refine gforI0 (fun k s => s.1 = nI k ∧ TB s.2 p n c ∧ (∀ i, i < k → s.2 (p + 6) i = nO (abO (kL n c) i)) ∧ (∀ i, i < (kL n c).length → s.2 (p + 5) i = nI (cntB (fun j => decide (abO (kL n c) j = some i)) k)) ∧ Fn 7 z s.2 p) (e := (kL n c).length) (by omega) ⟨rfl, h, fun i hi => by omega, hch, Fn.rf⟩ (fun k rec s hk hi hr => ?_) (fun rec s hi => ?_)
  · obtain ⟨x2, y⟩ := s
    obtain ⟨g1, g2, g3, g4, g5⟩ := hi
    dsimp only at g1 g2 g3 g4 g5
    subst g1
    have hcs : ∀ i, cntB (fun j => decide (abO (kL n c) j = some i)) (k + 1) = cntB (fun j => decide (abO (kL n c) j = some i)) k + (decide (abO (kL n c) k = some i)).toNat := fun i => rfl
    show Ok (f_X9_make_42_b p p1 (fun x2 z => rec (x2, z)) (nI k) y) _
    unfold f_X9_make_42_b
    rw [g2.2.2.1, if_neg (nI_ge hk (by omega)), x_leastAround g2.2.2 hL h128 hk, q_gb, q_gg (by omega) (by omega), nI_clamp (by omega), q_gl, gup_s, q_gg (by omega) (by omega), nO_lt0 (fun i hi => by have := abO_gt hi; omega), nI_add]
    have hpar : ∀ (u : gS), (∀ i, u (p + 6) i = gup y (p + 6) k (nO (abO (kL n c) k)) (p + 6) i) → ∀ i, i < k + 1 → u (p + 6) i = nO (abO (kL n c) i) := fun u hu i hi => by
      rw [hu i]
      by_cases q : i = k
      · subst q; rw [gup_s]
      · rw [gup_n (by omega)]; exact g3 i (by omega)
    cases e : abO (kL n c) k with
    | none =>
      rw [if_pos rfl]
      refine hr _ ⟨rfl, g2.up (by omega), ?_, fun i hi => ?_, g5.tr (Fn.up (by omega) (by omega))⟩
      · exact hpar _ (fun i => by rw [e])
      · dsimp only
        rw [gup_n (by omega), g4 i hi, hcs, e]
        rfl
    | some q =>
      have hq := abO_gt e
      rw [if_neg (by simp), q_gg (by omega) (by omega), nO_some, q_gg (by omega) (by omega), q_gg (by omega) (by omega), nI_clamp (by omega), gup_n (by omega), g4 q hq.2, nI_add, q_gl]
      refine hr _ ⟨rfl, (g2.up (by omega)).up (by omega), ?_, fun i hi => ?_, (g5.tr (Fn.up (by omega) (by omega))).tr (Fn.up (by omega) (by omega))⟩
      · exact hpar _ (fun i => by dsimp only; rw [gup_n (by omega), e]; rfl)
      · dsimp only
        rw [hcs, e]
        by_cases c1 : i = q
        · subst c1
          rw [gup_s, decide_eq_true rfl]
          rfl
        · rw [gup_n (by omega), gup_n (by omega), g4 i hi, decide_eq_false (by simp; omega)]
          rfl
  · obtain ⟨x2, y⟩ := s
    obtain ⟨g1, g2, g3, g4, g5⟩ := hi
    dsimp only at g1 g2 g3 g4 g5
    subst g1
    show Ok (f_X9_make_42_b p p1 (fun x2 z => rec (x2, z)) (nI (kL n c).length) y) _
    unfold f_X9_make_42_b
    rw [g2.2.2.1, if_pos (nI_le (Nat.le_refl _) (by omega))]
    exact (x_make_93 hn g2 g3 g4).m (fun z' h' => ⟨h'.1, g5.tr h'.2⟩)
theorem x_tree {z : gS} {p p1 n : Nat} {st : Nat → Nat} (hn : n ≤ 7) (hPK : PK z p1 (2 ^ n - 1) none none st) (hp : p1 + 4 < p) (hs : ∀ g, g < 7 → st g < 2 ^ 8) (h0 : mnF (csts (2 ^ n - 1) (mfP (2 ^ n - 1) none none) (tol (2 ^ n - 1) st) 0) = 0) : Ok (f_X9_make p p1 z) (fun z' => TK z' p n (lie (bl (2 ^ n - 1) (mfP (2 ^ n - 1) none none) (tol (2 ^ n - 1) st) 0)) ∧ Fn 7 z z' p) := by
  unfold f_X9_make
  rw [hPK.1.1, q_gl]
  have hu : Fn 7 z (gup z p 2 (nI (2 ^ n - 1))) p := Fn.up (by omega) (by omega)
  refine (x_findClusters hn (hPK.fn hu (by omega)) hp hs h0 gup_s).b (fun y hy => ?_)
  generalize lie (bl (2 ^ n - 1) (mfP (2 ^ n - 1) none none) (tol (2 ^ n - 1) st) 0) = c at *
  have hL := kL_len (c := c) hn
  refine (x_findKnots hn hy.1).b (fun u hk => ?_)
  have hTB : TB u p n c := by
    refine ⟨⟨?_, fun S hS => ?_⟩, ?_, hk.1⟩
    · rw [hk.2 p 2 (by omega) (by omega)]; exact hy.1.1
    · rw [hk.2 (p + 1) S (by omega) (by omega)]; exact hy.1.2 S hS
    · rw [hk.2 p 3 (by omega) (by omega)]; exact hy.2.1
  have hF : Fn 7 z u p := hu.tr (hy.2.2.tr (fun a ha => by funext j; exact hk.2 a j (by omega) (by omega)))
  unfold f_X9_make_19
  refine gforI0 (fun k s => s.1 = nI k ∧ TB s.2 p n c ∧ (∀ i, i < k → s.2 (p + 5) i = nI 0) ∧ Fn 7 z s.2 p) (e := (kL n c).length) (by omega) ⟨rfl, hTB, fun i hi => by omega, hF⟩ (fun k rec s hk hi hr => ?_) (fun rec s hi => ?_)
  · obtain ⟨x2, y⟩ := s
    obtain ⟨g1, g2, g3, g4⟩ := hi
    dsimp only at g1 g2 g3 g4
    subst g1
    show Ok (f_X9_make_19_b p p1 (fun x2 z => rec (x2, z)) (nI k) y) _
    unfold f_X9_make_19_b
    rw [g2.2.2.1, if_neg (nI_ge hk (by omega)), q_gg (by omega) (by omega), nI_clamp (by omega), q_gl, nI_add]
    refine hr _ ⟨rfl, g2.up (by omega), fun i hi => ?_, g4.tr (Fn.up (by omega) (by omega))⟩
    dsimp only
    by_cases q : i = k
    · subst q; rw [gup_s]
    · rw [gup_n (by omega)]; exact g3 i (by omega)
  · obtain ⟨x2, y⟩ := s
    obtain ⟨g1, g2, g3, g4⟩ := hi
    dsimp only at g1 g2 g3 g4
    subst g1
    show Ok (f_X9_make_19_b p p1 (fun x2 z => rec (x2, z)) (nI (kL n c).length) y) _
    unfold f_X9_make_19_b
    rw [g2.2.2.1, if_pos (nI_le (Nat.le_refl _) (by omega))]
    exact (x_make_42 hn g2 g3).m (fun z' h' => ⟨h'.1, g4.tr h'.2⟩)
/-! what a tree is asked -/
def soC (c : Nat → Bool) (L : List Nat) (s : Nat) : Nat := cntB (fun k => decide (soN c L k = s)) L.length
theorem soN_le {c : Nat → Bool} {L : List Nat} {k : Nat} : soN c L k ≤ 2 := by
  unfold soN
  split
  · omega
  · split <;> omega
theorem x_ofSort {z : gS} {p n s : Nat} {c : Nat → Bool} (hn : n ≤ 7) (h : TK z p n c) (hs : s ≤ 2) : f_X9_ofSort p (nI s) z = some (nI (soC c (kL n c) s)) := by
  have hL := kL_len (c := c) hn
  unfold f_X9_ofSort f_X9_ofSort_4 soC
  refine gfor0 (fun t => (nI (cntB (fun k => decide (soN c (kL n c) k = s)) t), nI t)) (e := (kL n c).length) (by omega) (fun t rec ht => ?_) (fun rec => ?_)
  · have hle := soN_le (c := c) (L := kL n c) (k := t)
    show f_X9_ofSort_4_b p z (nI s) (fun x2 x3 => rec (x2, x3)) (nI (cntB _ t)) (nI t) = rec (nI (cntB _ t + _), nI (t + 1))
    unfold f_X9_ofSort_4_b
    rw [h.2.2.1.1, if_neg (nI_ge ht (by omega)), q_gg (by omega) (by omega), nI_clamp (by omega), (h.2.2.2 t ht).2.2, q_ifeq (by omega) (by omega), nI_add, nI_add]
    dsimp only
    by_cases e : soN c (kL n c) t = s
    · rw [if_pos e, decide_eq_true e]; rfl
    · rw [if_neg e, decide_eq_false e]; rfl
  · show f_X9_ofSort_4_b p z (nI s) (fun x2 x3 => rec (x2, x3)) (nI (cntB _ (kL n c).length)) (nI (kL n c).length) = _
    unfold f_X9_ofSort_4_b
    rw [h.2.2.1.1, if_pos (nI_le (Nat.le_refl _) (by omega))]
theorem m_knotsOf {w : gS} {n s : Nat} {L : List Nat} {c : Nat → Bool} (h : KK w 0 13 7 L) (hL : L.length ≤ 13) (hn : L.Nodup) (h7 : ∀ x ∈ L, x < 2 ^ n) (hn7 : n ≤ 7) (hc : CM w n c) (hs : s ≤ 2) : f_X11_knotsOf (nI s) w = some (nI (soC c L s)) := by
  unfold f_X11_knotsOf f_X11_knotsOf_4 soC
  refine gfor0 (fun t => (nI (cntB (fun k => decide (soN c L k = s)) t), nI t)) (e := L.length) (by omega) (fun t rec ht => ?_) (fun rec => ?_)
  · have hle := soN_le (c := c) (L := L) (k := t)
    show f_X11_knotsOf_4_b w (nI s) (fun x2 x3 => rec (x2, x3)) (nI (cntB _ t)) (nI t) = rec (nI (cntB _ t + _), nI (t + 1))
    unfold f_X11_knotsOf_4_b
    rw [h.1, if_neg (nI_ge ht (by omega)), m_sortOf h hL hn h7 hn7 ht hc, q_gb, q_ifeq (by omega) (by omega), nI_add, nI_add, nI_add, q_gl, q_gl]
    dsimp only
    by_cases e : soN c L t = s
    · rw [if_pos e, decide_eq_true e]; rfl
    · rw [if_neg e, decide_eq_false e]; rfl
  · show f_X11_knotsOf_4_b w (nI s) (fun x2 x3 => rec (x2, x3)) (nI (cntB _ L.length)) (nI L.length) = _
    unfold f_X11_knotsOf_4_b
    rw [h.1, if_pos (nI_le (Nat.le_refl _) (by omega))]
theorem m_clusters_18 {w : gS} {d : Dat} (hM : SM w d) (v : VD d) {c : Nat → Bool} (h : CM w (dg d) c) (h0 : c 0 = false) : f_X11_clusters_18 w gF (nI 0) (nI 1) = some (nI (cntB c (2 ^ dg d)), w) := by
  have hn := v.1
  have hf := full_lt hn
  have hpos := Nat.two_pow_pos (dg d)
  unfold f_X11_clusters_18
  rw [show (nI 0, nI 1) = ((fun t => (nI (cntB c (t + 1)), nI (t + 1))) 0) by
    dsimp only
    congr 2
    show 0 = 0 + (c 0).toNat
    rw [h0]
    rfl]
  refine gfor0 (fun t => (nI (cntB c (t + 1)), nI (t + 1))) (e := 2 ^ dg d - 1) (by omega) (fun t rec ht => ?_) (fun rec => ?_)
  · show f_X11_clusters_18_b w (fun x1 x2 => rec (x1, x2)) (nI (cntB c (t + 1))) (nI (t + 1)) = rec (nI (cntB c (t + 1) + (c (t + 1)).toNat), nI (t + 1 + 1))
    unfold f_X11_clusters_18_b
    rw [m_all hM v, q_gb, if_neg (nI_nlt (show t + 1 ≤ 2 ^ dg d - 1 by omega) (by omega)), h _ (by omega), q_gb, q_ifb, nI_add, nI_add, nI_add, q_gl, q_gl]
    cases c (t + 1)
    · rfl
    · rfl
  · show f_X11_clusters_18_b w (fun x1 x2 => rec (x1, x2)) (nI (cntB c (2 ^ dg d - 1 + 1))) (nI (2 ^ dg d - 1 + 1)) = _
    unfold f_X11_clusters_18_b
    rw [m_all hM v, q_gb, if_pos (nI_lt (Nat.lt_succ_self _) (by omega)), show 2 ^ dg d - 1 + 1 = 2 ^ dg d by omega]
/-- a knot's factor -/
def facN : Nat → Nat
  | 0 => 1
  | n + 1 => (n + 1) * facN n
def knF (c : Nat → Bool) (L : List Nat) (k : Nat) : Nat := if soN c L k = 2 then 2 else if soN c L k = 1 then facN (chN L k) else 1
def prN (c : Nat → Bool) (L : List Nat) : Nat → Nat
  | 0 => 1
  | k + 1 => prN c L k * knF c L k
theorem x_product {z : gS} {p n : Nat} {c : Nat → Bool} (hn : n ≤ 7) (h : TK z p n c) : f_X9_product p z = some (lN (prN c (kL n c) (kL n c).length)) := by
  have hL := kL_len (c := c) hn
  have e2 : (2 : Int64) = lN 2 := by decide
  unfold f_X9_product f_X9_product_4
  rw [show ((1 : Int64), nI 0) = ((fun t => (lN (prN c (kL n c) t), nI t)) 0) by dsimp only; congr 1]
  refine gfor0 (fun t => (lN (prN c (kL n c) t), nI t)) (e := (kL n c).length) (by omega) (fun t rec ht => ?_) (fun rec => ?_)
  · have hle := soN_le (c := c) (L := kL n c) (k := t)
    have hch := chN_le (L := kL n c) (k := t)
    have hz := h.2.2.2 t ht
    show f_X9_product_4_b p z (fun x1 x3 => rec (x1, x3)) (lN (prN c (kL n c) t)) (nI t) = rec (lN (prN c (kL n c) t * knF c (kL n c) t), nI (t + 1))
    unfold f_X9_product_4_b
    rw [h.2.2.1.1, if_neg (nI_ge ht (by omega))]
    obtain ⟨m0, hm0⟩ := gF_n
    have hex : ∀ (x1 : Int64) (k m : Nat), chN (kL n c) t < k → k < 100 → f_X9_product_15 p z (nI t) (fun x1 x3 => rec (x1, x3)) (m + 1) x1 (nI k) = rec (if soN c (kL n c) t = 2 then x1 * lN 2 else x1, nI (t + 1)) := fun x1 k m hk hk2 => by
      show f_X9_product_15_b p z (nI t) (fun x1 x3 => rec (x1, x3)) (fun x1 x4 => f_X9_product_15 p z (nI t) (fun x1 x3 => rec (x1, x3)) m x1 x4) x1 (nI k) = _
      unfold f_X9_product_15_b
      rw [q_gg (by omega) (by omega), nI_clamp (by omega), hz.2.1, if_pos (nI_lt hk (by omega)), q_gg (by omega) (by omega), hz.2.2, q_ifeq (by omega) (by omega), nI_add, q_gl, e2]
      by_cases e : soN c (kL n c) t = 2
      · rw [if_pos e, if_pos e]
      · rw [if_neg e, if_neg e]
    by_cases c1 : soN c (kL n c) t = 1
    · have key : ∀ j k m a, k + j = chN (kL n c) t + 1 → 2 ≤ k → j < m → f_X9_product_15 p z (nI t) (fun x1 x3 => rec (x1, x3)) m (lN (a * facN (k - 1))) (nI k) = rec (lN (a * facN (k - 1 + j)), nI (t + 1)) := by
        intro j
        induction j with
        | zero =>
          intro k m a hk hk2 hm
          obtain ⟨m, rfl⟩ : ∃ q, m = q + 1 := ⟨m - 1, by omega⟩
          rw [hex _ k m (by omega) (by omega), if_neg (by omega)]
          rfl
        | succ j ih =>
          intro k m a hk hk2 hm
          obtain ⟨m, rfl⟩ : ∃ q, m = q + 1 := ⟨m - 1, by omega⟩
          obtain ⟨i, rfl⟩ : ∃ i, k = i + 1 := ⟨k - 1, by omega⟩
          show f_X9_product_15_b p z (nI t) (fun x1 x3 => rec (x1, x3)) (fun x1 x4 => f_X9_product_15 p z (nI t) (fun x1 x3 => rec (x1, x3)) m x1 x4) (lN (a * facN (i + 1 - 1))) (nI (i + 1)) = _
          unfold f_X9_product_15_b
          rw [q_gg (by omega) (by omega), nI_clamp (by omega), hz.2.1, if_neg (nI_nlt (show i + 1 ≤ chN (kL n c) t by omega) (by omega)), q_gg (by omega) (by omega), hz.2.2, q_ifeq (by omega) (by omega), if_pos c1, nI_l (by omega), lN_mul, q_gl, nI_add]
          have := ih (i + 1 + 1) m a (by omega) (by omega) (by omega)
          rw [show i + 1 + 1 - 1 = i + 1 by omega] at this
          rw [show a * facN (i + 1 - 1) * (i + 1) = a * facN (i + 1) by
            show a * facN i * (i + 1) = a * ((i + 1) * facN i)
            rw [Nat.mul_assoc, Nat.mul_comm (facN i)]]
          dsimp only
          rw [show i + 1 - 1 + (j + 1) = i + 1 + j by omega]
          exact this
      have hk1 : knF c (kL n c) t = facN (chN (kL n c) t) := by unfold knF; rw [if_neg (by omega), if_pos c1]
      have h2c : 2 ≤ chN (kL n c) t := by
        apply Classical.byContradiction
        intro q
        unfold soN at c1
        rw [if_pos (by omega)] at c1
        cases c1
      have := key (chN (kL n c) t - 1) 2 gF (prN c (kL n c) t) (by omega) (by omega) (q_gF (by omega))
      rw [show 2 - 1 = 1 by omega, show facN 1 = 1 by decide, Nat.mul_one, show 1 + (chN (kL n c) t - 1) = chN (kL n c) t by omega] at this
      rw [this, hk1]
    · by_cases c3 : chN (kL n c) t < 2
      · have c4 : soN c (kL n c) t = 0 := by unfold soN; rw [if_pos c3]
        rw [hm0, hex _ 2 m0 c3 (by omega), if_neg (by omega)]
        unfold knF
        rw [if_neg (by omega), if_neg c1, Nat.mul_one]
      · have c4 : soN c (kL n c) t = 2 := by unfold soN at c1 ⊢; rw [if_neg c3] at c1 ⊢; split at c1 <;> simp_all
        rw [hm0]
        show f_X9_product_15_b p z (nI t) (fun x1 x3 => rec (x1, x3)) (fun x1 x4 => f_X9_product_15 p z (nI t) (fun x1 x3 => rec (x1, x3)) m0 x1 x4) (lN (prN c (kL n c) t)) (nI 2) = _
        unfold f_X9_product_15_b
        rw [q_gg (by omega) (by omega), nI_clamp (by omega), hz.2.1, if_neg (nI_nlt (show 2 ≤ chN (kL n c) t by omega) (by omega)), q_gg (by omega) (by omega), hz.2.2, q_ifeq (by omega) (by omega), if_neg c1, q_gg (by omega) (by omega), q_ifeq (by omega) (by omega), if_pos c4, e2, lN_mul, q_gl, nI_add]
        unfold knF
        rw [if_pos c4]
  · show f_X9_product_4_b p z (fun x1 x3 => rec (x1, x3)) (lN (prN c (kL n c) (kL n c).length)) (nI (kL n c).length) = _
    unfold f_X9_product_4_b
    rw [h.2.2.1.1, if_pos (nI_le (Nat.le_refl _) (by omega))]
theorem m_told_15 {w : gS} {n : Nat} {L : List Nat} {c : Nat → Bool} (h : KK w 0 13 7 L) (hL : L.length ≤ 13) (hn : L.Nodup) (h7 : ∀ x ∈ L, x < 2 ^ n) (hn7 : n ≤ 7) (hc : CM w n c) : f_X11_told_15 w gF 1 (nI 0) = some (lN (prN c L L.length), w) := by
  have e2 : (2 : Int64) = lN 2 := by decide
  have e1 : (1 : Int64) = lN 1 := by decide
  have hpw : 2 ^ n ≤ 2 ^ 7 := Nat.pow_le_pow_right (by omega) hn7
  have h128 : ∀ x ∈ L, x < 128 := fun x hx => by have := h7 x hx; omega
  unfold f_X11_told_15
  rw [show ((1 : Int64), nI 0) = ((fun t => (lN (prN c L t), nI t)) 0) by dsimp only; congr 1]
  refine gfor0 (fun t => (lN (prN c L t), nI t)) (e := L.length) (by omega) (fun t rec ht => ?_) (fun rec => ?_)
  · have hle := soN_le (c := c) (L := L) (k := t)
    have hch := chN_le (L := L) (k := t)
    show f_X11_told_15_b w (fun x1 x3 => rec (x1, x3)) (lN (prN c L t)) (nI t) = rec (lN (prN c L t * knF c L t), nI (t + 1))
    unfold f_X11_told_15_b
    rw [h.1, if_neg (nI_ge ht (by omega)), m_sortOf h hL hn h7 hn7 ht hc, q_gb, q_ifeq (by omega) (by omega), e2, e1, lN_mul, lN_mul, Nat.mul_one, q_gl, q_gl, m_childrenOf h hL hn h128 ht, q_gb, q_gb]
    obtain ⟨m0, hm0⟩ := gF_n
    have hex : ∀ (s : Nat), s ≠ 1 → s ≤ 2 → ∀ (x1 : Int64), f_X11_told_53 w (nI t) (nI s) (fun x1 x3 => rec (x1, x3)) gF x1 (nI (chN L t)) = rec (x1, nI (t + 1)) := fun s hs hs2 x1 => by
      rw [hm0]
      show f_X11_told_53_b w (nI t) (nI s) (fun x1 x3 => rec (x1, x3)) (fun x1 x5 => f_X11_told_53 w (nI t) (nI s) (fun x1 x3 => rec (x1, x3)) m0 x1 x5) x1 (nI (chN L t)) = _
      unfold f_X11_told_53_b
      rw [nI_add, q_ifeq (by omega) (by omega), if_neg hs]
      split <;> rfl
    by_cases c2 : soN c L t = 2
    · rw [if_pos c2, hex _ (by omega) hle]
      unfold knF
      rw [if_pos c2]
    · rw [if_neg c2]
      by_cases c1 : soN c L t = 1
      · have key : ∀ k m a, k ≤ chN L t → k < m → f_X11_told_53 w (nI t) (nI 1) (fun x1 x3 => rec (x1, x3)) m (lN a) (nI k) = rec (lN (a * facN k), nI (t + 1)) := by
          intro k
          induction k with
          | zero =>
            intro m a hk hm
            obtain ⟨m, rfl⟩ : ∃ q, m = q + 1 := ⟨m - 1, by omega⟩
            show f_X11_told_53_b w (nI t) (nI 1) (fun x1 x3 => rec (x1, x3)) (fun x1 x5 => f_X11_told_53 w (nI t) (nI 1) (fun x1 x3 => rec (x1, x3)) m x1 x5) (lN a) (nI 0) = _
            unfold f_X11_told_53_b
            rw [if_pos (nI_le (by omega) (by omega)), nI_add]
            show _ = rec (lN (a * 1), _)
            rw [Nat.mul_one]
          | succ k ih =>
            intro m a hk hm
            obtain ⟨m, rfl⟩ : ∃ q, m = q + 1 := ⟨m - 1, by omega⟩
            show f_X11_told_53_b w (nI t) (nI 1) (fun x1 x3 => rec (x1, x3)) (fun x1 x5 => f_X11_told_53 w (nI t) (nI 1) (fun x1 x3 => rec (x1, x3)) m x1 x5) (lN a) (nI (k + 1)) = _
            unfold f_X11_told_53_b
            rw [q_ifle (by omega) (by omega), nI_add, if_pos rfl, nI_l (by omega), lN_mul, q_gl, q_pred (by omega)]
            by_cases q : k = 0
            · subst q
              rw [if_pos (by omega)]
              show _ = rec (lN (a * 1), _)
              rw [Nat.mul_one]
            · rw [if_neg (by omega)]
              dsimp only
              rw [show k + 1 - 1 = k by omega, ih m (a * (k + 1)) (by omega) (by omega), Nat.mul_assoc]
              rfl
        rw [c1, key _ gF _ (Nat.le_refl _) (q_gF (by omega))]
        unfold knF
        rw [if_neg c2, if_pos c1]
      · rw [hex _ c1 hle]
        unfold knF
        rw [if_neg c2, if_neg c1, Nat.mul_one]
  · show f_X11_told_15_b w (fun x1 x3 => rec (x1, x3)) (lN (prN c L L.length)) (nI L.length) = _
    unfold f_X11_told_15_b
    rw [h.1, if_pos (nI_le (Nat.le_refl _) (by omega))]
