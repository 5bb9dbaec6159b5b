/-! what the reference finds over all rows -/
theorem in_lt {d : Dat} {all : Nat} (v : VD d) (ha : all < 2 ^ dg d) {l : List Nat} (hl : l ∈ oT all) : ∀ x ∈ l, x < dg d := fun x hx => by
  have ha7 : all < 2 ^ 7 := Nat.lt_of_lt_of_le ha (Nat.pow_le_pow_right (by omega) v.1)
  rw [plm_mem (mfP_hm all none none) ha7 _ 0 l rfl nd0 hl] at hx
  apply Nat.lt_of_not_le
  intro q
  rw [bit_hi ha q] at hx
  cases hx.1
theorem gp_40 {d : Dat} {all ty : Nat} (v : VD d) (ha : all < 2 ^ dg d) {l : List Nat} (hl : l ∈ oT all) : gpS d ty l ≤ 40 := by
  have ha7 : all < 2 ^ 7 := Nat.lt_of_lt_of_le ha (Nat.pow_le_pow_right (by omega) v.1)
  rw [← cst_gpS v (mfP_hm all none none) ha hl]
  exact csts_40 (mfP_hm all none none) ha7 _ (List.mem_map.mpr ⟨l, hl, rfl⟩)
/-- what a loop over all rows holds -/
def EN (w : gS) (d : Dat) (all n ty : Nat) (pre L : List (List Nat)) (fl : Int32) (y : gS) : Prop := oT all = pre ++ L ∧ RS n fl y L ∧ (∀ a, a ≠ 4 → a ≠ 5 → a ≠ 6 → ∀ j, (a, j) ≠ (0, 10) → y a j = w a j)
def E0 (w : gS) (d : Dat) (all n ty : Nat) : Prop := SM w d ∧ VD d ∧ w 0 8 = nI ty ∧ ty < 256 ∧ all < 2 ^ dg d ∧ (oT all).length ≤ 5040
theorem EN.sm {w : gS} {d : Dat} {all n ty : Nat} {pre L : List (List Nat)} {fl : Int32} {y : gS} (h0 : E0 w d all n ty) (h : EN w d all n ty pre L fl y) : SM y d ∧ y 0 8 = nI ty := by
  obtain ⟨⟨h1, h2, h3, h4, h5⟩, _, h6, _⟩ := h0
  have e := h.2.2
  refine ⟨⟨?_, ?_, fun i hi => ?_, fun i hi => ?_, fun i hi => ?_⟩, ?_⟩
  · rw [e 0 (by omega) (by omega) (by omega) 1 (by simp)]; exact h1
  · rw [e 0 (by omega) (by omega) (by omega) 2 (by simp)]; exact h2
  · rw [e 1 (by omega) (by omega) (by omega) i (by simp)]; exact h3 i hi
  · rw [e 2 (by omega) (by omega) (by omega) i (by simp)]; exact h4 i hi
  · rw [e 3 (by omega) (by omega) (by omega) i (by simp)]; exact h5 i hi
  · rw [e 0 (by omega) (by omega) (by omega) 8 (by simp)]; exact h6
theorem EN.gn {w : gS} {d : Dat} {all n ty : Nat} {pre L : List (List Nat)} {l : List Nat} {fl : Int32} {y : gS} (h0 : E0 w d all n ty) (h : EN w d all n ty pre (l :: L) fl y) : f_X11_gapsNow y = some (nI (gpS d ty l)) ∧ f_X11_digits y = some (nI (dig 0 l)) ∧ l ∈ oT all ∧ fl = nI 1 ∧ gpS d ty l ≤ 40 ∧ B7 l ∧ RW y l := by
  obtain ⟨s1, s2⟩ := h.sm h0
  have hl : l ∈ oT all := by rw [h.1]; simp
  obtain ⟨q1, q2, q3⟩ := h.2.1
  have hb := (q3 l (by simp)).2
  exact ⟨m_gapsNow s1 h0.2.1 q1.2 hb (in_lt h0.2.1 h0.2.2.2.2.1 hl) s2 h0.2.2.2.1, m_digits q1.2 hb, hl, q1.1, gp_40 h0.2.1 h0.2.2.2.2.1 hl, hb, q1.2⟩
theorem EN.go {w : gS} {d : Dat} {all n ty : Nat} {pre L : List (List Nat)} {l : List Nat} {fl : Int32} {y : gS} (h : EN w d all n ty pre (l :: L) fl y) : Ok (f_X11_goesOn y) (fun q => EN w d all n ty (pre ++ [l]) L q.1 q.2 ∧ ∀ a, a ≠ 4 → q.2 a = y a) := by
  refine h.2.1.n.m (fun q hq => ⟨⟨?_, hq.1, fun a h1 h2 h3 j hj => ?_⟩, hq.2⟩)
  · rw [h.1]; simp
  · rw [hq.2 a h1]
    exact h.2.2 a h1 h2 h3 j hj
theorem EN.fl0 {w : gS} {d : Dat} {all n ty : Nat} {pre : List (List Nat)} {fl : Int32} {y : gS} (h : EN w d all n ty pre [] fl y) : fl = nI 0 ∧ oT all = pre := ⟨h.2.1.1, by rw [h.1]; simp⟩
theorem EN.se {w : gS} {d : Dat} {all n ty : Nat} {pre L : List (List Nat)} {fl : Int32} {y : gS} (h : EN w d all n ty pre L fl y) : SE w y := fun a j hk => by
  unfold Kp at hk
  exact h.2.2 a (by omega) (by omega) (by omega) j (by intro q; cases q; omega)
theorem EN.s {w : gS} {d : Dat} {all n ty : Nat} {asc : List Nat} (ho : OT all n asc) (hw : RW w asc) : EN w d all n ty [] (oT all) (nI 1) w := ⟨rfl, ho.rs hw, fun _ _ _ _ _ _ => rfl⟩
theorem E0.ln {w : gS} {d : Dat} {all n ty : Nat} (h : E0 w d all n ty) : (oT all).length < gF := q_gF (by have := h.2.2.2.2.2; omega)
theorem m_orders_21 {w : gS} {d : Dat} {all n ty m : Nat} {asc : List Nat} (h0 : E0 w d all n ty) (ho : OT all n asc) (hw : RW w asc) (hm : m < 100) : Ok (f_X11_orders_21 (nI m) gF (nI 0) (nI 1) w) (fun q => q.1 = nI ((oT all).countP (fun l => decide (gpS d ty l < m + 1))) ∧ SE w q.2) := by
  unfold f_X11_orders_21
  refine gforL (fun L s => ∃ pre, EN w d all n ty pre L s.2.1 s.2.2 ∧ s.1 = nI (pre.countP (fun l => decide (gpS d ty l < m + 1)))) (fun l L rec s hi hr => ?_) (fun rec s hi => ?_) (oT all) gF _ h0.ln ⟨[], EN.s ho hw, rfl⟩
  · obtain ⟨x2, x3, y⟩ := s
    obtain ⟨pre, g1, g2⟩ := hi
    dsimp only at g1 g2
    subst g2
    obtain ⟨e1, e2, e3, rfl, e5, e6, e7⟩ := g1.gn h0
    show Ok (f_X11_orders_21_b (nI m) (fun x2 x3 z => rec (x2, x3, z)) (nI (pre.countP _)) (nI 1) y) _
    unfold f_X11_orders_21_b
    rw [q_if1, e1, q_gb, q_iflt (by omega) (by omega), nI_add, nI_add, q_gl, q_gl]
    have hc : (pre ++ [l]).countP (fun l => decide (gpS d ty l < m + 1)) = pre.countP (fun l => decide (gpS d ty l < m + 1)) + (if m < gpS d ty l then 0 else 1) := by
      rw [List.countP_append, List.countP_cons, List.countP_nil]
      by_cases c : m < gpS d ty l
      · rw [if_pos c, if_neg (by simp; omega)]
      · rw [if_neg c, if_pos (by simp; omega)]
    by_cases c : m < gpS d ty l
    · rw [if_pos c] at hc ⊢
      exact g1.go.b (fun q hq => hr _ ⟨pre ++ [l], hq.1, by rw [hc]⟩)
    · rw [if_neg c] at hc ⊢
      exact g1.go.b (fun q hq => hr _ ⟨pre ++ [l], hq.1, by rw [hc]⟩)
  · obtain ⟨x2, x3, y⟩ := s
    obtain ⟨pre, g1, g2⟩ := hi
    dsimp only at g1 g2
    subst g2
    obtain ⟨rfl, e⟩ := g1.fl0
    show Ok (f_X11_orders_21_b (nI m) (fun x2 x3 z => rec (x2, x3, z)) (nI (pre.countP _)) (nI 0) y) _
    unfold f_X11_orders_21_b
    rw [q_if00, e]
    exact Ok.i ⟨rfl, g1.se⟩
/-- the gapless ones -/
def gls (d : Dat) (ty : Nat) (T : List (List Nat)) : List (List Nat) := T.filter (fun l => decide (gpS d ty l = 0))
theorem gls_s {d : Dat} {ty : Nat} {pre : List (List Nat)} {l : List Nat} : gls d ty (pre ++ [l]) = gls d ty pre ++ (if gpS d ty l = 0 then [l] else []) := by
  unfold gls
  rw [List.filter_append, List.filter_cons]
  by_cases c : gpS d ty l = 0
  · rw [if_pos c, if_pos (by simp [c])]; rfl
  · rw [if_neg c, if_neg (by simp [c])]; rfl
/-- the array of the gapless ones -/
def FR (w : gS) (G : List (List Nat)) : Prop := w 0 10 = nI G.length ∧ ∀ i, i < G.length → w 5 i = nI (dig 0 (G.getD i []))
theorem m_gaplessOnes_11 {w : gS} {d : Dat} {all n ty : Nat} {asc : List Nat} (h0 : E0 w d all n ty) (ho : OT all n asc) (hw : RW w asc) (h10 : w 0 10 = nI 0) : Ok (f_X11_gaplessOnes_11 gF (nI 1) w) (fun y => FR y (gls d ty (oT all)) ∧ SE w y) := by
  unfold f_X11_gaplessOnes_11
  refine gforL (fun L s => ∃ pre, EN w d all n ty pre L s.1 s.2 ∧ FR s.2 (gls d ty pre)) (fun l L rec s hi hr => ?_) (fun rec s hi => ?_) (oT all) gF _ h0.ln ⟨[], EN.s ho hw, h10, fun i hi => by cases hi⟩
  · obtain ⟨x1, y⟩ := s
    obtain ⟨pre, g1, g2⟩ := hi
    dsimp only at g1 g2
    obtain ⟨e1, e2, e3, rfl, e5, e6, e7⟩ := g1.gn h0
    have hlen : (gls d ty pre).length + (L.length + 1) ≤ 5040 := by
      have h1 := h0.2.2.2.2.2
      rw [g1.1, List.length_append, List.length_cons] at h1
      have h2 := List.length_filter_le (fun l => decide (gpS d ty l = 0)) pre
      unfold gls
      omega
    show Ok (f_X11_gaplessOnes_11_b (fun x1 z => rec (x1, z)) (nI 1) y) _
    unfold f_X11_gaplessOnes_11_b
    rw [q_if1, e1, q_gb, q_if0 (by omega)]
    by_cases c : gpS d ty l = 0
    · rw [if_pos c, e2, q_gb, g2.1, q_gg (by omega) (by omega), nI_clamp (by omega), q_gl, gup_n (Or.inl (by omega)), g2.1, nI_add, q_gl]
      have g3 : EN w d all n ty pre (l :: L) (nI 1) (gup (gup y 5 (gls d ty pre).length (nI (dig 0 l))) 0 10 (nI ((gls d ty pre).length + 1))) := by
        obtain ⟨k1, ⟨⟨k2, k3, k4⟩, k5, k6⟩, k7⟩ := g1
        refine ⟨k1, ⟨⟨rfl, ?_, fun i hi => ?_⟩, k5, k6⟩, fun a h1 h2 h3 j hj => ?_⟩
        · rw [gup_n (by omega), gup_n (by omega)]; exact k3
        · rw [gup_n (by omega), gup_n (by omega)]; exact k4 i hi
        · rw [gup_n (by simp at hj; omega), gup_n (by omega)]; exact k7 a h1 h2 h3 j hj
      refine g3.go.b (fun q hq => hr _ ⟨pre ++ [l], hq.1, ?_, fun i hi => ?_⟩)
      · dsimp only
        rw [hq.2 0 (by omega), gup_s, gls_s, if_pos c, List.length_append]
        rfl
      · dsimp only
        rw [gls_s, if_pos c, List.length_append] at hi
        have hi : i < (gls d ty pre).length + 1 := hi
        rw [hq.2 5 (by omega), gup_n (by omega), gls_s, if_pos c]
        by_cases q5 : i < (gls d ty pre).length
        · rw [gup_n (by omega), g2.2 i q5, getD_l q5]
        · have q2 : i = (gls d ty pre).length := by omega
          rw [q2, gup_s, getD_r (Nat.le_refl _), Nat.sub_self]
          rfl
    · rw [if_neg c]
      have e8 : gls d ty (pre ++ [l]) = gls d ty pre := by rw [gls_s, if_neg c, List.append_nil]
      refine g1.go.b (fun q hq => hr _ ⟨pre ++ [l], hq.1, ?_⟩)
      rw [e8]
      dsimp only
      unfold FR
      rw [hq.2 0 (by omega), hq.2 5 (by omega)]
      exact g2
  · obtain ⟨x1, y⟩ := s
    obtain ⟨pre, g1, g2⟩ := hi
    dsimp only at g1 g2
    obtain ⟨rfl, e⟩ := g1.fl0
    show Ok (f_X11_gaplessOnes_11_b (fun x1 z => rec (x1, z)) (nI 0) y) _
    unfold f_X11_gaplessOnes_11_b
    rw [q_if00, e]
    exact Ok.i ⟨g2, g1.se⟩
theorem E0.mk {w w' : gS} {d : Dat} (h : SM w d) (v : VD d) (hs : SE w w') (h8 : w' 0 8 = nI (2 ^ dt d - 1)) : E0 w' d (2 ^ dg d - 1) (dg d) (2 ^ dt d - 1) := by
  have v1 := v.1
  have v2 := v.2.1
  have ho := OT.full (g := dg d) (by omega)
  have hp : 2 ^ dt d ≤ 2 ^ 8 := Nat.pow_le_pow_right (by omega) v2
  have hp0 : 0 < 2 ^ dt d := Nat.two_pow_pos _
  have hq0 : 0 < 2 ^ dg d := Nat.two_pow_pos _
  exact ⟨h.se hs, v, h8, by omega, by omega, ho.2.2.2.2.1⟩
theorem m_gaplessOnes {w : gS} {d : Dat} (h : SM w d) (v : VD d) : Ok (f_X11_gaplessOnes w) (fun y => FR y (gls d (2 ^ dt d - 1) (oT (2 ^ dg d - 1))) ∧ SE w y) := by
  have v1 := v.1
  have ho := OT.full (g := dg d) (by omega)
  unfold f_X11_gaplessOnes
  rw [q_gl]
  have hs : SE w (gup w 0 10 (nI 0)) := SE.up (by unfold Kp; omega)
  refine (m_beginsAll (h.se hs) v).b (fun y hy => ?_)
  refine (m_gaplessOnes_11 (E0.mk h v (hs.tr hy.2.2.se) hy.2.1) ho hy.1 ?_).m (fun y' h' => ⟨h'.1, (hs.tr hy.2.2.se).tr h'.2⟩)
  rw [hy.2.2 0 10 (by omega) (by omega), gup_s]
theorem m_orders {w : gS} {d : Dat} {m : Nat} (h : SM w d) (v : VD d) (hm : m ≤ 60) : Ok (f_X11_orders (nI m) w) (fun q => q.1 = nI ((oT (2 ^ dg d - 1)).countP (fun l => decide (gpS d (2 ^ dt d - 1) l < m + 1))) ∧ SE w q.2) := by
  have v1 := v.1
  have ho := OT.full (g := dg d) (by omega)
  unfold f_X11_orders
  rw [m_in_nat hm (by omega), q_gb, q_if1]
  refine (m_beginsAll h v).b (fun y hy => ?_)
  exact (m_orders_21 (E0.mk h v hy.2.2.se hy.2.1) ho hy.1 (by omega)).m (fun y' h' => ⟨h'.1, hy.2.2.se.tr h'.2⟩)
/-! the fewest -/
theorem mn1 {A : List Nat} {c : Nat} (hc : c < 1000) : mnF (A ++ [c]) = min (mnF A) c := by
  rw [mnF_app]
  show min (mnF A) (min c 1000) = _
  omega
theorem wy1_lt {A : List Nat} {c : Nat} (hc : c < mnF A) : wy (A ++ [c]) = 1 := by
  have := mnF_le A
  unfold wy
  rw [mn1 (by omega), Nat.min_eq_right (by omega), List.count_append, cnt_lo hc]
  simp
theorem wy1_eq {A : List Nat} {c : Nat} (hc : c = mnF A) (h : c < 1000) : wy (A ++ [c]) = wy A + 1 := by
  unfold wy
  rw [mn1 h, Nat.min_eq_left (by omega), List.count_append, hc]
  simp
theorem wy1_gt {A : List Nat} {c : Nat} (hc : mnF A < c) (h : c < 1000) : wy (A ++ [c]) = wy A := by
  unfold wy
  rw [mn1 h, Nat.min_eq_left (by omega), List.count_append]
  have : [c].count (mnF A) = 0 := by
    rw [List.count_eq_zero]
    simp
    omega
  omega
/-- the first that is so -/
def fd (P : List Nat → Bool) (T : List (List Nat)) : Nat := dig 0 ((T.filter P).getD 0 [])
theorem fd_old {P : List Nat → Bool} {T : List (List Nat)} {l : List Nat} (h : T.filter P ≠ []) : fd P (T ++ [l]) = fd P T := by
  unfold fd
  rw [List.filter_append, getD_l (by have := List.length_pos_iff.mpr h; omega)]
theorem fd_new {P : List Nat → Bool} {T : List (List Nat)} {l : List Nat} (h : T.filter P = []) (hl : P l = true) : fd P (T ++ [l]) = dig 0 l := by
  unfold fd
  rw [List.filter_append, h, List.filter_cons, hl]
  rfl
/-- what the loop for the fewest holds -/
def MN (gp : List Nat → Nat) (T : List (List Nat)) (x2 x3 x4 : Int32) : Prop := (T = [] ∧ x2 = gm1 ∧ x3 = nI 0) ∨ (T ≠ [] ∧ x2 = nI (mnF (T.map gp)) ∧ x3 = nI (wy (T.map gp)) ∧ x4 = nI (fd (fun l => decide (gp l = mnF (T.map gp))) T))
theorem fl_ne {gp : List Nat → Nat} {T : List (List Nat)} (hT : T ≠ []) (h : ∀ l ∈ T, gp l < 1000) : T.filter (fun l => decide (gp l = mnF (T.map gp))) ≠ [] := by
  intro e
  rw [List.filter_eq_nil_iff] at e
  obtain ⟨l, h1, h2⟩ := List.mem_map.mp (mnF_in (l := T.map gp) (by simpa using hT) (fun a ha => by
    obtain ⟨x, hx, rfl⟩ := List.mem_map.mp ha
    exact h x hx))
  exact e l h1 (by simpa using h2)
theorem MN.lt {gp : List Nat → Nat} {T : List (List Nat)} {l : List Nat} {c : Nat} (hc : gp l = c) (h9 : c < 1000) (hT : T = [] ∨ c < mnF (T.map gp)) : MN gp (T ++ [l]) (nI c) (nI 1) (nI (dig 0 l)) := by
  have hlt : c < mnF (T.map gp) := by
    rcases hT with rfl | h
    · exact h9
    · exact h
  refine Or.inr ⟨by simp, ?_, ?_, ?_⟩
  · rw [List.map_append, List.map_cons, List.map_nil, hc, mn1 h9, Nat.min_eq_right (by omega)]
  · rw [List.map_append, List.map_cons, List.map_nil, hc, wy1_lt hlt]
  · rw [fd_new]
    · rw [List.map_append, List.map_cons, List.map_nil, hc, mn1 h9, Nat.min_eq_right (by omega), List.filter_eq_nil_iff]
      intro x hx
      have := mnF_m (List.mem_map.mpr ⟨x, hx, rfl⟩ : gp x ∈ T.map gp)
      simp
      omega
    · rw [List.map_append, List.map_cons, List.map_nil, hc, mn1 h9, Nat.min_eq_right (by omega), decide_eq_true rfl]
theorem MN.eq {gp : List Nat → Nat} {T : List (List Nat)} {l : List Nat} {c : Nat} {x4 : Int32} (h : ∀ l ∈ T, gp l < 1000) (hc : gp l = c) (h9 : c < 1000) (hT : T ≠ []) (he : c = mnF (T.map gp)) (hx : x4 = nI (fd (fun l => decide (gp l = mnF (T.map gp))) T)) : MN gp (T ++ [l]) (nI c) (nI (wy (T.map gp) + 1)) x4 := by
  refine Or.inr ⟨by simp, ?_, ?_, ?_⟩
  · rw [List.map_append, List.map_cons, List.map_nil, hc, mn1 h9, ← he, Nat.min_self]
  · rw [List.map_append, List.map_cons, List.map_nil, hc, wy1_eq he h9]
  · rw [List.map_append, List.map_cons, List.map_nil, hc, mn1 h9, Nat.min_eq_left (by omega), fd_old (fl_ne hT h), hx]
theorem MN.gt {gp : List Nat → Nat} {T : List (List Nat)} {l : List Nat} {c : Nat} {x4 : Int32} (h : ∀ l ∈ T, gp l < 1000) (hc : gp l = c) (h9 : c < 1000) (hT : T ≠ []) (he : mnF (T.map gp) < c) (hx : x4 = nI (fd (fun l => decide (gp l = mnF (T.map gp))) T)) : MN gp (T ++ [l]) (nI (mnF (T.map gp))) (nI (wy (T.map gp))) x4 := by
  refine Or.inr ⟨by simp, ?_, ?_, ?_⟩
  · rw [List.map_append, List.map_cons, List.map_nil, hc, mn1 h9, Nat.min_eq_left (by omega)]
  · rw [List.map_append, List.map_cons, List.map_nil, hc, wy1_gt he h9]
  · rw [List.map_append, List.map_cons, List.map_nil, hc, mn1 h9, Nat.min_eq_left (by omega), fd_old (fl_ne hT h), hx]
theorem m_fewest_26 {w : gS} {d : Dat} {all n ty : Nat} {asc : List Nat} (h0 : E0 w d all n ty) (ho : OT all n asc) (hw : RW w asc) {x1 : Int32} : Ok (f_X11_fewest_26 x1 gF gm1 (nI 0) (nI 0) (nI 1) w) (fun q => (∃ a b c, MN (gpS d ty) (oT all) a b c ∧ q.1 = if x1 = 0 then a else if x1 = nI 1 then b else c) ∧ SE w q.2) := by
  unfold f_X11_fewest_26
  refine gforL (fun L s => ∃ pre, EN w d all n ty pre L s.2.2.2.1 s.2.2.2.2 ∧ MN (gpS d ty) pre s.1 s.2.1 s.2.2.1) (fun l L rec s hi hr => ?_) (fun rec s hi => ?_) (oT all) gF _ h0.ln ⟨[], EN.s ho hw, Or.inl ⟨rfl, rfl, rfl⟩⟩
  · obtain ⟨x2, x3, x4, x5, y⟩ := s
    obtain ⟨pre, g1, g2⟩ := hi
    dsimp only at g1 g2
    obtain ⟨e1, e2, e3, rfl, e5, e6, e7⟩ := g1.gn h0
    have hpre : ∀ l ∈ pre, gpS d ty l < 1000 := fun x hx => by
      have := gp_40 (ty := ty) h0.2.1 h0.2.2.2.2.1 (show x ∈ oT all by rw [g1.1]; simp [hx])
      omega
    have key : (pre = [] ∨ gpS d ty l < mnF (pre.map (gpS d ty))) → Ok (f_X11_fewest_48 x1 (nI (gpS d ty l)) (fun x2 x3 x4 x5 z => rec (x2, x3, x4, x5, z)) y) (fun q => (∃ a b c, MN (gpS d ty) (oT all) a b c ∧ q.1 = if x1 = 0 then a else if x1 = nI 1 then b else c) ∧ SE w q.2) := fun hc => by
      unfold f_X11_fewest_48
      rw [e2, q_gb, if_pos rfl, nI_add, q_gl]
      exact g1.go.b (fun q hq => hr _ ⟨pre ++ [l], hq.1, MN.lt rfl (by omega) hc⟩)
    show Ok (f_X11_fewest_26_b x1 (fun x2 x3 x4 x5 z => rec (x2, x3, x4, x5, z)) x2 x3 x4 (nI 1) y) _
    unfold f_X11_fewest_26_b
    rw [q_if1, e1, q_gb]
    rcases g2 with ⟨k1, k2, k3⟩ | ⟨k1, k2, k3, k4⟩
    · rw [if_pos k2]
      exact key (Or.inl k1)
    · have hmn := mnF_le (pre.map (gpS d ty))
      rw [k2, if_neg (nI_ne_m1 (by omega)), q_ifle (by omega) (by omega), q_ifeq (by omega) (by omega), k3, nI_add, nI_add, q_gl, q_gl]
      rcases Nat.lt_trichotomy (gpS d ty l) (mnF (pre.map (gpS d ty))) with c | c | c
      · rw [if_neg (by omega)]
        exact key (Or.inr c)
      · rw [if_pos (by omega), if_pos c]
        refine g1.go.b (fun q hq => hr _ ⟨pre ++ [l], hq.1, ?_⟩)
        rw [← c]
        exact MN.eq hpre rfl (by omega) k1 c k4
      · rw [if_pos (by omega), if_neg (by omega)]
        exact g1.go.b (fun q hq => hr _ ⟨pre ++ [l], hq.1, MN.gt hpre rfl (by omega) k1 c k4⟩)
  · obtain ⟨x2, x3, x4, x5, y⟩ := s
    obtain ⟨pre, g1, g2⟩ := hi
    dsimp only at g1 g2
    obtain ⟨rfl, e⟩ := g1.fl0
    show Ok (f_X11_fewest_26_b x1 (fun x2 x3 x4 x5 z => rec (x2, x3, x4, x5, z)) x2 x3 x4 (nI 0) y) _
    unfold f_X11_fewest_26_b
    rw [q_if00]
    rw [← e] at g2
    split
    · exact Ok.i ⟨⟨x2, x3, x4, g2, rfl⟩, g1.se⟩
    · split
      · exact Ok.i ⟨⟨x2, x3, x4, g2, rfl⟩, g1.se⟩
      · exact Ok.i ⟨⟨x2, x3, x4, g2, rfl⟩, g1.se⟩
theorem m_isGaplessBy_8 {w : gS} {d : Dat} {all n ty : Nat} {asc : List Nat} (h0 : E0 w d all n ty) (ho : OT all n asc) (hw : RW w asc) : Ok (f_X11_isGaplessBy_8 gF (nI 1) w) (fun q => q.1 = nI ((oT all).any (fun l => decide (gpS d ty l = 0))).toNat ∧ SE w q.2) := by
  unfold f_X11_isGaplessBy_8
  refine gforL (fun L s => ∃ pre, EN w d all n ty pre L s.1 s.2 ∧ pre.any (fun l => decide (gpS d ty l = 0)) = false) (fun l L rec s hi hr => ?_) (fun rec s hi => ?_) (oT all) gF _ h0.ln ⟨[], EN.s ho hw, rfl⟩
  · obtain ⟨x1, y⟩ := s
    obtain ⟨pre, g1, g2⟩ := hi
    dsimp only at g1 g2
    obtain ⟨e1, e2, e3, rfl, e5, e6, e7⟩ := g1.gn h0
    show Ok (f_X11_isGaplessBy_8_b (fun x1 z => rec (x1, z)) (nI 1) y) _
    unfold f_X11_isGaplessBy_8_b
    rw [q_if1, e1, q_gb, q_if0 (by omega)]
    by_cases c : gpS d ty l = 0
    · rw [if_pos c]
      refine Ok.i ⟨?_, g1.se⟩
      rw [show (oT all).any (fun l => decide (gpS d ty l = 0)) = true from List.any_eq_true.mpr ⟨l, e3, by simpa using c⟩]
      rfl
    · rw [if_neg c]
      refine g1.go.b (fun q hq => hr _ ⟨pre ++ [l], hq.1, ?_⟩)
      rw [List.any_append, g2]
      simpa using c
  · obtain ⟨x1, y⟩ := s
    obtain ⟨pre, g1, g2⟩ := hi
    dsimp only at g1 g2
    obtain ⟨rfl, e⟩ := g1.fl0
    show Ok (f_X11_isGaplessBy_8_b (fun x1 z => rec (x1, z)) (nI 0) y) _
    unfold f_X11_isGaplessBy_8_b
    rw [q_if00, e, g2]
    exact Ok.i ⟨rfl, g1.se⟩
