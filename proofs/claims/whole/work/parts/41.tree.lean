/-! the tree, by both -/
/-- a row of numbers and how many -/
def KK (z : gS) (pn jn pr : Nat) (L : List Nat) : Prop := z pn jn = nI L.length ∧ ∀ i, i < L.length → z pr i = nI (L.getD i 0)
theorem KK.add {z : gS} {pn jn pr g : Nat} {L : List Nat} (h : KK z pn jn pr L) (hp : pr ≠ pn) : KK (gup (gup z pr L.length (nI g)) pn jn (nI (L.length + 1))) pn jn pr (L ++ [g]) := by
  refine ⟨?_, fun i hi => ?_⟩
  · rw [gup_s, List.length_append]; rfl
  · rw [List.length_append] at hi
    have hi : i < L.length + 1 := hi
    rw [gup_n (by omega)]
    by_cases q : i < L.length
    · rw [gup_n (by omega), h.2 i q, getD_l q]
    · have q2 : i = L.length := by omega
      rw [q2, gup_s, getD_r (Nat.le_refl _), Nat.sub_self]
      rfl
theorem flt_s {P : Nat → Bool} {t : Nat} : (List.range' 1 (t + 1)).filter P = (List.range' 1 t).filter P ++ (if P (t + 1) then [t + 1] else []) := by
  rw [List.range'_1_concat, List.filter_append, List.filter_cons, show 1 + t = t + 1 by omega]
  rfl
theorem fm_s {F : Nat → List Nat} {t : Nat} : (List.range' 1 (t + 1)).flatMap F = (List.range' 1 t).flatMap F ++ F (t + 1) := by
  rw [List.range'_1_concat, List.flatMap_append, show 1 + t = t + 1 by omega]
  simp
theorem x_findKnots {z : gS} {p n : Nat} {c : Nat → Bool} (hn : n ≤ 7) (h : CT z p (2 ^ n - 1) c) : Ok (f_X9_findKnots p z) (fun z' => KK z' p 4 (p + 3) (kL n c) ∧ ∀ a j, a ≠ p + 3 → ¬ (a = p ∧ j = 4) → z' a j = z a j) := by
  have hf := full_lt hn
  have hpos := Nat.two_pow_pos n
  unfold f_X9_findKnots
  rw [q_gl]
  unfold f_X9_findKnots_7
  refine gforI0 (fun k s => s.1 = nI (k + 1) ∧ KK s.2 p 4 (p + 3) ((List.range' 1 k).flatMap (kLs n c)) ∧ ∀ a j, a ≠ p + 3 → ¬ (a = p ∧ j = 4) → s.2 a j = z a j) (e := 7) (by omega) ⟨rfl, ⟨gup_s, fun i hi => by cases hi⟩, fun a j h1 h2 => gup_n (by omega)⟩ (fun k rec s hk hi hr => ?_) (fun rec s hi => ?_)
  · obtain ⟨x1, y⟩ := s
    obtain ⟨g1, g2, g3⟩ := hi
    dsimp only at g1 g2 g3
    subst g1
    show Ok (f_X9_findKnots_7_b p (fun x1 z => rec (x1, z)) (nI (k + 1)) y) _
    unfold f_X9_findKnots_7_b
    rw [if_neg (nI_nlt (show k + 1 ≤ 7 by omega) (by omega))]
    unfold f_X9_findKnots_15
    refine gforI0 (fun t s => s.1 = nI (t + 1) ∧ KK s.2 p 4 (p + 3) ((List.range' 1 k).flatMap (kLs n c) ++ (List.range' 1 t).filter (kP n c (k + 1))) ∧ ∀ a j, a ≠ p + 3 → ¬ (a = p ∧ j = 4) → s.2 a j = z a j) (e := 2 ^ n - 1) (by omega) ⟨rfl, by show KK y p 4 (p + 3) (_ ++ []); rw [List.append_nil]; exact g2, g3⟩ (fun t rec2 s ht hi hr2 => ?_) (fun rec2 s hi => ?_)
    · obtain ⟨x2, u⟩ := s
      obtain ⟨k1, k2, k3⟩ := hi
      dsimp only at k1 k2 k3
      subst k1
      have hu : CT u p (2 ^ n - 1) c := ⟨by rw [k3 p 2 (by omega) (by omega)]; exact h.1, fun S hS => by rw [k3 (p + 1) S (by omega) (by omega)]; exact h.2 S hS⟩
      have hpre := kL_pre (c := c) hn hk (show t + 1 ≤ 2 ^ n - 1 by omega)
      have hpp := pop_le (t + 1)
      show Ok (f_X9_findKnots_15_b p (nI (k + 1)) (fun x1 z => rec (x1, z)) (fun x2 z => rec2 (x2, z)) (nI (t + 1)) u) _
      unfold f_X9_findKnots_15_b
      rw [hu.1, if_neg (nI_nlt (show t + 1 ≤ 2 ^ n - 1 by omega) (by omega)), q_bc (by omega), q_gb, q_ifeq (by omega) (by omega), x_isKnot hn hu (by omega), q_gb, q_ifb, nI_add]
      have hskip : kP n c (k + 1) (t + 1) = false → Ok (rec2 (nI (t + 1 + 1), u)) (fun z' => KK z' p 4 (p + 3) (kL n c) ∧ ∀ a j, a ≠ p + 3 → ¬ (a = p ∧ j = 4) → z' a j = z a j) := fun hP => by
        refine hr2 _ ⟨rfl, ?_, k3⟩
        rw [flt_s, hP, if_neg (by decide), List.append_nil]
        exact k2
      by_cases c1 : pop (t + 1) = k + 1
      · rw [if_pos c1]
        cases c2 : kn n c (t + 1)
        · rw [if_neg (by decide)]
          exact hskip (by unfold kP; rw [c2, Bool.and_false])
        · have hP : kP n c (k + 1) (t + 1) = true := by unfold kP; rw [c2, decide_eq_true c1]; rfl
          rw [flt_s, hP, if_pos rfl, List.length_append] at hpre
          have hpre : ((List.range' 1 k).flatMap (kLs n c)).length + (((List.range' 1 t).filter (kP n c (k + 1))).length + 1) ≤ 13 := hpre
          have hlen : ((List.range' 1 k).flatMap (kLs n c) ++ (List.range' 1 t).filter (kP n c (k + 1))).length < 13 := by
            rw [List.length_append]
            omega
          rw [if_pos rfl, k2.1, if_neg (nI_ge hlen (by omega)), q_gg hlen (by omega), nI_clamp (by omega), q_gl, gup_n (by omega), k2.1, nI_add, q_gl]
          refine hr2 _ ⟨rfl, ?_, fun a j h1 h2 => ?_⟩
          · rw [flt_s, hP, if_pos rfl, ← List.append_assoc]
            exact k2.add (by omega)
          · dsimp only
            rw [gup_n (by omega), gup_n (by omega), k3 a j h1 h2]
      · rw [if_neg c1]
        exact hskip (by unfold kP; rw [decide_eq_false c1, Bool.false_and])
    · obtain ⟨x2, u⟩ := s
      obtain ⟨k1, k2, k3⟩ := hi
      dsimp only at k1 k2 k3
      subst k1
      show Ok (f_X9_findKnots_15_b p (nI (k + 1)) (fun x1 z => rec (x1, z)) (fun x2 z => rec2 (x2, z)) (nI (2 ^ n - 1 + 1)) u) _
      unfold f_X9_findKnots_15_b
      rw [k3 p 2 (by omega) (by omega), h.1, if_pos (nI_lt (Nat.lt_succ_self _) (by omega)), nI_add]
      refine hr _ ⟨rfl, ?_, k3⟩
      rw [fm_s]
      exact k2
  · obtain ⟨x1, y⟩ := s
    obtain ⟨g1, g2, g3⟩ := hi
    dsimp only at g1 g2 g3
    subst g1
    show Ok (f_X9_findKnots_7_b p (fun x1 z => rec (x1, z)) (nI (7 + 1)) y) _
    unfold f_X9_findKnots_7_b
    rw [if_pos (nI_lt (by omega) (by omega))]
    exact Ok.i ⟨g2, g3⟩
theorem LF.cm {w : gS} {d : Dat} (v : VD d) {G : List (List Nat)} (hG : ∀ l ∈ G, l ∈ oT (2 ^ dg d - 1)) (h0 : G ≠ []) (hl : G.length ≤ 5040) (hF : LF w G) : CM w (dg d) (lie G) := fun S hS => m_isCluster (by have := v.1; omega) hG h0 hl hF hS
theorem LF.fr {w w' : gS} {G : List (List Nat)} (h : LF w G) (e6 : w' 6 = w 6) (e0 : w' 0 10 = w 0 10) : LF w' G := by
  unfold LF
  rw [e6, e0]
  exact h
theorem m_tells_20 {w : gS} {d : Dat} (hM : SM w d) (v : VD d) {G : List (List Nat)} (hG : ∀ l ∈ G, l ∈ oT (2 ^ dg d - 1)) (h0 : G ≠ []) (hl : G.length ≤ 5040) (hF : LF w G) (h13 : w 0 13 = nI 0) : Ok (f_X11_tellsKnots_20 gF (nI 1) w) (fun q => q.1 = nI 1 ∧ KK q.2 0 13 7 (kL (dg d) (lie G)) ∧ LF q.2 G ∧ SE w q.2) := by
  have hn := v.1
  have hf := full_lt hn
  have hpos := Nat.two_pow_pos (dg d)
  unfold f_X11_tellsKnots_20
  refine gforI0 (fun k s => s.1 = nI (k + 1) ∧ KK s.2 0 13 7 ((List.range' 1 k).flatMap (kLs (dg d) (lie G))) ∧ LF s.2 G ∧ SE w s.2) (e := dg d) (by omega) ⟨rfl, ⟨h13, fun i hi => by cases hi⟩, hF, SE.rf⟩ (fun k rec s hk hi hr => ?_) (fun rec s hi => ?_)
  · obtain ⟨x1, y⟩ := s
    obtain ⟨g1, g2, g3, g4⟩ := hi
    dsimp only at g1 g2 g3 g4
    subst g1
    show Ok (f_X11_tellsKnots_20_b (fun x1 z => rec (x1, z)) (nI (k + 1)) y) _
    unfold f_X11_tellsKnots_20_b
    rw [(hM.se g4).1, if_neg (nI_nlt (show k + 1 ≤ dg d by omega) (by omega))]
    unfold f_X11_tellsKnots_30
    refine gforI0 (fun t s => s.1 = nI (t + 1) ∧ KK s.2 0 13 7 ((List.range' 1 k).flatMap (kLs (dg d) (lie G)) ++ (List.range' 1 t).filter (kP (dg d) (lie G) (k + 1))) ∧ LF s.2 G ∧ SE w s.2) (e := 2 ^ dg d - 1) (by omega) ⟨rfl, by show KK y 0 13 7 (_ ++ []); rw [List.append_nil]; exact g2, g3, g4⟩ (fun t rec2 s ht hi hr2 => ?_) (fun rec2 s hi => ?_)
    · obtain ⟨x2, u⟩ := s
      obtain ⟨k1, k2, k3, k4⟩ := hi
      dsimp only at k1 k2 k3 k4
      subst k1
      have hu := hM.se k4
      have hpre := kL_pre (c := lie G) hn (show k < 7 by omega) (show t + 1 ≤ 2 ^ dg d - 1 by omega)
      have hpp := pop_le (t + 1)
      show Ok (f_X11_tellsKnots_30_b (nI (k + 1)) (fun x1 z => rec (x1, z)) (fun x2 z => rec2 (x2, z)) (nI (t + 1)) u) _
      unfold f_X11_tellsKnots_30_b
      rw [m_all hu v, q_gb, if_neg (nI_nlt (show t + 1 ≤ 2 ^ dg d - 1 by omega) (by omega)), q_bits (by omega), q_gb, q_ifeq (by omega) (by omega), m_isKnot hu v (k3.cm v hG h0 hl) (by omega), q_gb, q_ifb, nI_add]
      have hskip : kP (dg d) (lie G) (k + 1) (t + 1) = false → Ok (rec2 (nI (t + 1 + 1), u)) (fun q => q.1 = nI 1 ∧ KK q.2 0 13 7 (kL (dg d) (lie G)) ∧ LF q.2 G ∧ SE w q.2) := fun hP => by
        refine hr2 _ ⟨rfl, ?_, k3, k4⟩
        rw [flt_s, hP, if_neg (by decide), List.append_nil]
        exact k2
      by_cases c1 : pop (t + 1) = k + 1
      · rw [if_pos c1]
        cases c2 : kn (dg d) (lie G) (t + 1)
        · rw [if_neg (by decide)]
          exact hskip (by unfold kP; rw [c2, Bool.and_false])
        · have hP : kP (dg d) (lie G) (k + 1) (t + 1) = true := by unfold kP; rw [c2, decide_eq_true c1]; rfl
          rw [flt_s, hP, if_pos rfl, List.length_append] at hpre
          have hpre : ((List.range' 1 k).flatMap (kLs (dg d) (lie G))).length + (((List.range' 1 t).filter (kP (dg d) (lie G) (k + 1))).length + 1) ≤ 13 := hpre
          have hlen : ((List.range' 1 k).flatMap (kLs (dg d) (lie G)) ++ (List.range' 1 t).filter (kP (dg d) (lie G) (k + 1))).length < 13 := by
            rw [List.length_append]
            omega
          rw [if_pos rfl, k2.1, q_gg (by omega) (by omega), nI_clamp (by omega), q_gl, gup_n (by omega), k2.1, nI_add, q_gl]
          refine hr2 _ ⟨rfl, ?_, k3.fr ?_ ?_, (k4.tr (SE.up (by unfold Kp; omega))).tr (SE.up (by unfold Kp; omega))⟩
          · rw [flt_s, hP, if_pos rfl, ← List.append_assoc]
            exact k2.add (by omega)
          · funext b
            dsimp only
            rw [gup_n (by omega), gup_n (by omega)]
          · dsimp only
            rw [gup_n (by omega), gup_n (by omega)]
      · rw [if_neg c1]
        exact hskip (by unfold kP; rw [decide_eq_false c1, Bool.false_and])
    · obtain ⟨x2, u⟩ := s
      obtain ⟨k1, k2, k3, k4⟩ := hi
      dsimp only at k1 k2 k3 k4
      subst k1
      show Ok (f_X11_tellsKnots_30_b (nI (k + 1)) (fun x1 z => rec (x1, z)) (fun x2 z => rec2 (x2, z)) (nI (2 ^ dg d - 1 + 1)) u) _
      unfold f_X11_tellsKnots_30_b
      rw [m_all (hM.se k4) v, q_gb, if_pos (nI_lt (Nat.lt_succ_self _) (by omega)), nI_add]
      refine hr _ ⟨rfl, ?_, k3, k4⟩
      rw [fm_s]
      exact k2
  · obtain ⟨x1, y⟩ := s
    obtain ⟨g1, g2, g3, g4⟩ := hi
    dsimp only at g1 g2 g3 g4
    subst g1
    show Ok (f_X11_tellsKnots_20_b (fun x1 z => rec (x1, z)) (nI (dg d + 1)) y) _
    unfold f_X11_tellsKnots_20_b
    rw [(hM.se g4).1, if_pos (nI_lt (Nat.lt_succ_self _) (by omega))]
    rw [← kL_n hn] at g2
    exact Ok.i ⟨rfl, g2, g3, g4⟩
theorem m_tellsKnots {w : gS} {d : Dat} (h : SM w d) (v : VD d) : Ok (f_X11_tellsKnots w) (fun q => SE w q.2 ∧ ((gls d (2 ^ dt d - 1) (oT (2 ^ dg d - 1)) = [] ∧ q.1 = nI 0) ∨ (gls d (2 ^ dt d - 1) (oT (2 ^ dg d - 1)) ≠ [] ∧ q.1 = nI 1 ∧ KK q.2 0 13 7 (kL (dg d) (lie (gls d (2 ^ dt d - 1) (oT (2 ^ dg d - 1))))) ∧ LF q.2 (gls d (2 ^ dt d - 1) (oT (2 ^ dg d - 1)))))) := by
  have v1 := v.1
  have ho := OT.full (g := dg d) (by omega)
  have hlen := gls_len (d := d) (ty := 2 ^ dt d - 1) ho
  unfold f_X11_tellsKnots
  refine (m_lies h v).b (fun y hy => ?_)
  have hs : SE y (gup y 0 13 (nI 0)) := SE.up (by unfold Kp; omega)
  have hF : LF (gup y 0 13 (nI 0)) (gls d (2 ^ dt d - 1) (oT (2 ^ dg d - 1))) := hy.1.fr (by funext b; rw [gup_n (by omega)]) (by rw [gup_n (by omega)])
  rw [q_gl, hF.1, q_if0 (by omega)]
  by_cases c : gls d (2 ^ dt d - 1) (oT (2 ^ dg d - 1)) = []
  · rw [if_pos (by rw [c]; rfl)]
    exact Ok.i ⟨hy.2.tr hs, Or.inl ⟨c, rfl⟩⟩
  · rw [if_neg (by have := List.length_pos_iff.mpr c; omega)]
    exact (m_tells_20 (h.se (hy.2.tr hs)) v (fun l hl => gls_in hl) c hlen hF gup_s).m (fun q hq => ⟨(hy.2.tr hs).tr hq.2.2.2, Or.inr ⟨c, hq.1, hq.2.1, hq.2.2.1⟩⟩)
/-! above, children, sorts -/
def abO (L : List Nat) (k : Nat) : Option Nat := (List.range' (k + 1) (L.length - (k + 1))).find? (fun i => decide (nd (L.getD k 0) (L.getD i 0) = 0))
theorem abO_gt {L : List Nat} {k i : Nat} (h : abO L k = some i) : k < i ∧ i < L.length := by
  have h1 := List.mem_of_find?_eq_some h
  have h2 := List.mem_range'_1.mp h1
  omega
theorem x_leastAround {z : gS} {p k : Nat} {L : List Nat} (h : KK z p 4 (p + 3) L) (hL : L.length ≤ 13) (h7 : ∀ x ∈ L, x < 128) (hk : k < L.length) : f_X9_leastAround p (nI k) z = some (nO (abO L k)) := by
  unfold f_X9_leastAround
  rw [nI_add, q_gl]
  have hxk := h7 _ (getD_in hk)
  have key : ∀ j i m, i + j = L.length → k < i → j < m → f_X9_leastAround_4 p z (nI k) m (nI i) = some (nO ((List.range' i j).find? (fun i => decide (nd (L.getD k 0) (L.getD i 0) = 0)))) := by
    intro j
    induction j with
    | zero =>
      intro i m hi hki hm
      obtain ⟨m, rfl⟩ : ∃ q, m = q + 1 := ⟨m - 1, by omega⟩
      show f_X9_leastAround_4_b p z (nI k) (fun x2 => f_X9_leastAround_4 p z (nI k) m x2) (nI i) = _
      unfold f_X9_leastAround_4_b
      rw [h.1, if_pos (nI_le (by omega) (by omega))]
      rfl
    | succ j ih =>
      intro i m hi hki hm
      obtain ⟨m, rfl⟩ : ∃ q, m = q + 1 := ⟨m - 1, by omega⟩
      have hl := nd_le (L.getD k 0) (L.getD i 0)
      show f_X9_leastAround_4_b p z (nI k) (fun x2 => f_X9_leastAround_4 p z (nI k) m x2) (nI i) = _
      unfold f_X9_leastAround_4_b
      rw [h.1, if_neg (nI_ge (show i < L.length by omega) (by omega)), q_gg (by omega) (by omega), q_gg (by omega) (by omega), nI_clamp (by omega), nI_clamp (by omega), h.2 k hk, h.2 i (by omega), q_nd, q_if0 (by omega), nI_add]
      dsimp only
      rw [ih (i + 1) m (by omega) (by omega) (by omega), List.range'_succ, List.find?_cons]
      by_cases c : nd (L.getD k 0) (L.getD i 0) = 0
      · rw [if_pos c, decide_eq_true c]; rfl
      · rw [if_neg c, decide_eq_false c]
  exact key _ (k + 1) gF (by omega) (by omega) (q_gF (by omega))
def nO5 (o : Option Nat) : Int32 := match o with
  | none => -5
  | some k => nI k
theorem nd_inj {L : List Nat} (hn : L.Nodup) {i k : Nat} (hi : i < L.length) (hk : k < L.length) (h : i ≠ k) : L.getD i 0 ≠ L.getD k 0 := by
  rw [List.getD_eq_getElem?_getD, List.getD_eq_getElem?_getD, List.getElem?_eq_getElem hi, List.getElem?_eq_getElem hk]
  intro e
  have e : L[i] = L[k] := e
  rcases Nat.lt_or_gt_of_ne h with q | q
  · exact List.pairwise_iff_getElem.mp hn i k hi hk q e
  · exact List.pairwise_iff_getElem.mp hn k i hk hi q e.symm
theorem m_above {w : gS} {k : Nat} {L : List Nat} (h : KK w 0 13 7 L) (hL : L.length ≤ 13) (hn : L.Nodup) (h7 : ∀ x ∈ L, x < 128) (hk : k < L.length) : f_X11_above (nI k) w = some (nO5 (abO L k)) := by
  unfold f_X11_above
  rw [nI_add, q_gl]
  have hxk := h7 _ (getD_in hk)
  have key : ∀ j i m, i + j = L.length → k < i → j < m → f_X11_above_4 w (nI k) m (nI i) = some (nO5 ((List.range' i j).find? (fun i => decide (nd (L.getD k 0) (L.getD i 0) = 0)))) := by
    intro j
    induction j with
    | zero =>
      intro i m hi hki hm
      obtain ⟨m, rfl⟩ : ∃ q, m = q + 1 := ⟨m - 1, by omega⟩
      show f_X11_above_4_b w (nI k) (fun x2 => f_X11_above_4 w (nI k) m x2) (nI i) = _
      unfold f_X11_above_4_b
      rw [h.1, if_pos (nI_le (by omega) (by omega))]
      rfl
    | succ j ih =>
      intro i m hi hki hm
      obtain ⟨m, rfl⟩ : ∃ q, m = q + 1 := ⟨m - 1, by omega⟩
      have hl := nd_le (L.getD k 0) (L.getD i 0)
      have hxi := h7 _ (getD_in (show i < L.length by omega))
      have hne := nd_inj hn (show i < L.length by omega) hk (by omega)
      show f_X11_above_4_b w (nI k) (fun x2 => f_X11_above_4 w (nI k) m x2) (nI i) = _
      unfold f_X11_above_4_b
      rw [h.1, if_neg (nI_ge (show i < L.length by omega) (by omega)), q_gg (by omega) (by omega), q_gg (by omega) (by omega), nI_clamp (by omega), nI_clamp (by omega), h.2 k hk, h.2 i (by omega), q_ifeq (by omega) (by omega), if_neg hne, q_gg (by omega) (by omega), q_gg (by omega) (by omega), q_nd, q_if0 (by omega), nI_add]
      dsimp only
      rw [ih (i + 1) m (by omega) (by omega) (by omega), List.range'_succ, List.find?_cons]
      by_cases c : nd (L.getD k 0) (L.getD i 0) = 0
      · rw [if_pos c, decide_eq_true c]; rfl
      · rw [if_neg c, decide_eq_false c]
  exact key _ (k + 1) gF (by omega) (by omega) (q_gF (by omega))
def chN (L : List Nat) (k : Nat) : Nat := cntB (fun i => decide (abO L i = some k)) L.length
theorem chN_k {L : List Nat} {k : Nat} (hk : k < L.length) : chN L k = cntB (fun i => decide (abO L i = some k)) k := by
  have : L.length = k + (L.length - k) := by omega
  unfold chN
  rw [this, cntB_add]
  have : ∀ m, cntB (fun i => decide (abO L (k + i) = some k)) m = 0 := fun m => by
    induction m with
    | zero => rfl
    | succ m ih =>
      show cntB _ m + (decide (abO L (k + m) = some k)).toNat = 0
      rw [ih, decide_eq_false (fun q => by have := abO_gt q; omega)]
      rfl
  rw [this, Nat.add_zero]
theorem chN_le {L : List Nat} {k : Nat} : chN L k ≤ L.length := cntB_le _ _
def hpB (c : Nat → Bool) (L : List Nat) (k : Nat) : Bool := (List.range' 0 k).any (fun a => (List.range' 0 a).any (fun b => decide (abO L a = some k) && decide (abO L b = some k) && c (L.getD a 0 ||| L.getD b 0)))
def soN (c : Nat → Bool) (L : List Nat) (k : Nat) : Nat := if chN L k < 2 then 0 else if 2 < chN L k ∧ hpB c L k = true then 2 else 1
theorem nO5_eq {o : Option Nat} {k : Nat} (ho : ∀ i, o = some i → i < 100) (hk : k < 100) {r : Sort _} {x y : r} : (if nO5 o = nI k then x else y) = if o = some k then x else y := by
  cases o with
  | none =>
    rw [if_neg, if_neg (by simp)]
    intro q
    have : (-5 : Int32) < 0 := by decide
    have q : (-5 : Int32) = nI k := q
    rw [q] at this
    exact nI_pos (by omega) this
  | some i =>
    have := ho i rfl
    show (if nI i = nI k then x else y) = _
    rw [q_ifeq (by omega) (by omega)]
    by_cases e : i = k
    · rw [if_pos e, if_pos (by rw [e])]
    · rw [if_neg e, if_neg (by simpa using e)]
theorem nO_eq {o : Option Nat} {k : Nat} (ho : ∀ i, o = some i → i < 100) (hk : k < 100) {r : Sort _} {x y : r} : (if nO o = nI k then x else y) = if o = some k then x else y := by
  cases o with
  | none =>
    rw [if_neg, if_neg (by simp)]
    intro q
    exact nI_ne_m1 (by omega) q.symm
  | some i =>
    have := ho i rfl
    show (if nI i = nI k then x else y) = _
    rw [q_ifeq (by omega) (by omega)]
    by_cases e : i = k
    · rw [if_pos e, if_pos (by rw [e])]
    · rw [if_neg e, if_neg (by simpa using e)]
theorem m_childrenOf {w : gS} {k : Nat} {L : List Nat} (h : KK w 0 13 7 L) (hL : L.length ≤ 13) (hn : L.Nodup) (h7 : ∀ x ∈ L, x < 128) (hk : k < L.length) : f_X11_childrenOf (nI k) w = some (nI (chN L k)) := by
  rw [chN_k hk]
  unfold f_X11_childrenOf f_X11_childrenOf_4
  refine gfor0 (fun t => (nI (cntB (fun i => decide (abO L i = some k)) t), nI t)) (e := k) (by omega) (fun t rec ht => ?_) (fun rec => ?_)
  · show f_X11_childrenOf_4_b w (nI k) (fun x2 x3 => rec (x2, x3)) (nI (cntB _ t)) (nI t) = rec (nI (cntB _ t + _), nI (t + 1))
    unfold f_X11_childrenOf_4_b
    rw [if_neg (nI_ge ht (by omega)), m_above h hL hn h7 (by omega), q_gb, nO5_eq (fun i hi => by have := abO_gt hi; omega) (by omega), nI_add, nI_add, nI_add, q_gl, q_gl]
    dsimp only
    by_cases c : abO L t = some k
    · rw [if_pos c, decide_eq_true c]; rfl
    · rw [if_neg c, decide_eq_false c]; rfl
  · show f_X11_childrenOf_4_b w (nI k) (fun x2 x3 => rec (x2, x3)) (nI (cntB _ k)) (nI k) = _
    unfold f_X11_childrenOf_4_b
    rw [if_pos (nI_le (Nat.le_refl _) (by omega))]
theorem m_sortOf {w : gS} {n k : Nat} {L : List Nat} {c : Nat → Bool} (h : KK w 0 13 7 L) (hL : L.length ≤ 13) (hn : L.Nodup) (h7 : ∀ x ∈ L, x < 2 ^ n) (hn7 : n ≤ 7) (hk : k < L.length) (hc : CM w n c) : f_X11_sortOf (nI k) w = some (nI (soN c L k)) := by
  have hf := full_lt hn7
  have hpos := Nat.two_pow_pos n
  have h128 : ∀ x ∈ L, x < 128 := fun x hx => by have := h7 x hx; omega
  have hch := chN_le (L := L) (k := k)
  have k32 : ∀ a, a < k → ∀ (K : Int32 → Option Int32) j b m, b + j = a → j < m → f_X11_sortOf_32 w (nI k) (nI a) K m (nI b) = if (List.range' b j).any (fun b => decide (abO L a = some k) && decide (abO L b = some k) && c (L.getD a 0 ||| L.getD b 0)) then some (nI 2) else K (nI (a + 1)) := by
    intro a ha K j
    induction j with
    | zero =>
      intro b m hb hm
      obtain ⟨m, rfl⟩ : ∃ q, m = q + 1 := ⟨m - 1, by omega⟩
      show f_X11_sortOf_32_b w (nI k) (nI a) K (fun x4 => f_X11_sortOf_32 w (nI k) (nI a) K m x4) (nI b) = _
      unfold f_X11_sortOf_32_b
      rw [if_pos (nI_le (by omega) (by omega)), nI_add]
      rfl
    | succ j ih =>
      intro b m hb hm
      obtain ⟨m, rfl⟩ : ∃ q, m = q + 1 := ⟨m - 1, by omega⟩
      have x1 := h7 _ (getD_in (show a < L.length by omega))
      have x2 := h7 _ (getD_in (show b < L.length by omega))
      have x3 := Nat.or_lt_two_pow x1 x2
      show f_X11_sortOf_32_b w (nI k) (nI a) K (fun x4 => f_X11_sortOf_32 w (nI k) (nI a) K m x4) (nI b) = _
      unfold f_X11_sortOf_32_b
      rw [if_neg (nI_ge (show b < a by omega) (by omega)), m_above h hL hn h128 (by omega), q_gb, nO5_eq (fun i hi => by have := abO_gt hi; omega) (by omega), m_above h hL hn h128 (by omega), q_gb, nO5_eq (fun i hi => by have := abO_gt hi; omega) (by omega), q_gg (by omega) (by omega), q_gg (by omega) (by omega), nI_clamp (by omega), nI_clamp (by omega), h.2 a (by omega), h.2 b (by omega), q_or, hc _ (by omega), q_gb, q_ifb, nI_add]
      dsimp only
      rw [ih (b + 1) m (by omega) (by omega), List.range'_succ, List.any_cons]
      try dsimp only
      by_cases c1 : abO L a = some k
      · rw [if_pos c1, decide_eq_true c1]
        by_cases c2 : abO L b = some k
        · rw [if_pos c2, decide_eq_true c2, Bool.true_and, Bool.true_and]
          cases c3 : c (L.getD a 0 ||| L.getD b 0)
          · rw [if_neg (by decide), Bool.false_or]
          · rw [if_pos rfl, Bool.true_or, if_pos rfl]
        · rw [if_neg c2, decide_eq_false c2, Bool.true_and, Bool.false_and, Bool.false_or]
      · rw [if_neg c1, decide_eq_false c1, Bool.false_and, Bool.false_and, Bool.false_or]
  have k24 : ∀ j a m, a + j = k → j < m → f_X11_sortOf_24 w (nI k) m (nI a) = some (nI (if (List.range' a j).any (fun a => (List.range' 0 a).any (fun b => decide (abO L a = some k) && decide (abO L b = some k) && c (L.getD a 0 ||| L.getD b 0))) then 2 else 1)) := by
    intro j
    induction j with
    | zero =>
      intro a m ha hm
      obtain ⟨m, rfl⟩ : ∃ q, m = q + 1 := ⟨m - 1, by omega⟩
      show f_X11_sortOf_24_b w (nI k) (fun x3 => f_X11_sortOf_24 w (nI k) m x3) (nI a) = _
      unfold f_X11_sortOf_24_b
      rw [if_pos (nI_le (by omega) (by omega))]
      rfl
    | succ j ih =>
      intro a m ha hm
      obtain ⟨m, rfl⟩ : ∃ q, m = q + 1 := ⟨m - 1, by omega⟩
      show f_X11_sortOf_24_b w (nI k) (fun x3 => f_X11_sortOf_24 w (nI k) m x3) (nI a) = _
      unfold f_X11_sortOf_24_b
      rw [if_neg (nI_ge (show a < k by omega) (by omega)), k32 a (by omega) _ a 0 gF (by omega) (q_gF (by omega))]
      try dsimp only
      rw [ih (a + 1) m (by omega) (by omega), List.range'_succ, List.any_cons]
      cases (List.range' 0 a).any (fun b => decide (abO L a = some k) && decide (abO L b = some k) && c (L.getD a 0 ||| L.getD b 0))
      · rw [if_neg (by decide), Bool.false_or]
      · rw [if_pos rfl, Bool.true_or, if_pos rfl]
  unfold f_X11_sortOf soN
  rw [m_childrenOf h hL hn h128 hk, q_gb, q_ifle (by omega) (by omega), q_ifle (by omega) (by omega), k24 k 0 gF (by omega) (q_gF (by omega))]
  by_cases c1 : chN L k < 2
  · rw [if_pos c1, if_neg (by omega), if_neg (by omega)]
  · rw [if_neg c1]
    by_cases c2 : 2 < chN L k
    · rw [if_pos (by omega)]
      unfold hpB
      cases (List.range' 0 k).any (fun a => (List.range' 0 a).any (fun b => decide (abO L a = some k) && decide (abO L b = some k) && c (L.getD a 0 ||| L.getD b 0)))
      · rw [if_neg (by decide), if_neg (by simp)]
      · rw [if_pos rfl, if_pos ⟨c2, rfl⟩]
    · rw [if_neg (by omega), if_pos (by omega), if_neg (fun q => c2 q.1)]
