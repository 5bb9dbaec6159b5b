/-! what spoils -/
theorem any0 {d : Dat} {ty : Nat} {T : List (List Nat)} (hl : ∀ l ∈ T, gpS d ty l < 1000) : T.any (fun l => decide (gpS d ty l = 0)) = decide (mnF (T.map (gpS d ty)) = 0) := by
  by_cases c : mnF (T.map (gpS d ty)) = 0
  · rw [decide_eq_true c]
    have := gls_ne c hl
    unfold gls at this
    rw [List.any_eq_true]
    obtain ⟨l, h1⟩ := List.exists_mem_of_ne_nil _ this
    exact ⟨l, (List.mem_filter.mp h1).1, (List.mem_filter.mp h1).2⟩
  · rw [decide_eq_false c]
    have := gls_nil c
    unfold gls at this
    rw [List.any_eq_false]
    intro l hl' q
    have : l ∈ T.filter (fun l => decide (gpS d ty l = 0)) := List.mem_filter.mpr ⟨hl', q⟩
    rw [‹T.filter _ = []›] at this
    cases this
def spo (d : Dat) (all ty : Nat) : Bool := (oT all).any (fun l => decide (gpS d ty l = 0))
def spT (d : Dat) (t : Nat) : Bool := spo d (fullG d) (nd (fullT d) (2 ^ t))
def spG (d : Dat) (g : Nat) : Bool := spo d (nd (fullG d) (2 ^ g)) (fullT d)
theorem x_spo {z : gS} {d : Dat} (hx : SX z 1 d) (v : VN d) (h0 : z 20 0 = nI 0) {all ty : Nat} (ha : all < 2 ^ dg d) : Ok (f_X3_make 18 1 (nI all) (nI ty) gm1 gm1 z) (fun y => ZE z y ∧ SX y 1 d ∧ y 20 0 = nI 0 ∧ ∃ m, f_X3_least 18 y = some (nI m) ∧ m < 2000 ∧ (m = 0 ↔ spo d all ty = true)) := by
  have v1 := v.1.1
  have hp : 2 ^ dg d ≤ 2 ^ 7 := Nat.pow_le_pow_right (by omega) v1
  refine (x_make (p := 18) (p1 := 1) (f := none) (l := none) hx v.1 (by omega) (show all < 2 ^ 7 by omega) FBn FBn h0).m (fun y hy => ?_)
  obtain ⟨y1, y2⟩ := hy
  have hz := ZE.trial y2 y1 h0
  have hm : csts all (mfP all none none) (tol all (stT d ty)) 0 = (oT all).map (gpS d ty) := csts_T v.1 (mfP_hm _ none none) ha
  have hle := x_least y1
  rw [hm] at hle
  have := mnF_le ((oT all).map (gpS d ty))
  refine ⟨hz, hx.fr (y2 1 (by omega)) (y2 (1 + 1) (by omega)) (y2 (1 + 2) (by omega)) (y2 (1 + 3) (by omega)), by rw [hz 20 0 (by omega)]; exact h0, _, hle, by omega, ?_⟩
  unfold spo
  rw [any0 (fun l hl => by have := gp_40 (ty := ty) v.1 ha hl; omega), decide_eq_true_eq]
theorem x_spT {z : gS} {d : Dat} (hx : SX z 1 d) (v : VN d) (h0 : z 20 0 = nI 0) : Ok (f_X10_spoilingTypes z) (fun q => q.1 = nI (setB (spT d) (dt d)) ∧ ZE z q.2) := by
  have v2 := v.1.2.1
  unfold f_X10_spoilingTypes f_X10_spoilingTypes_4
  refine gforI0 (fun k s => s.1 = nI (setB (spT d) k) ∧ s.2.1 = nI k ∧ ZE z s.2.2 ∧ SX s.2.2 1 d ∧ s.2.2 20 0 = nI 0) (e := dt d) (by omega) ⟨rfl, rfl, ZE.rf, hx, h0⟩ (fun k rec s hk hi hr => ?_) (fun rec s hi => ?_)
  · obtain ⟨x1, x2, y⟩ := s
    obtain ⟨g1, g2, g3, g4, g5⟩ := hi
    dsimp only at g1 g2 g3 g4 g5
    subst g1 g2
    show Ok (f_X10_spoilingTypes_4_b (fun x1 x2 z => rec (x1, x2, z)) (nI (setB (spT d) k)) (nI k) y) _
    unfold f_X10_spoilingTypes_4_b
    rw [g4.2.1, if_neg (nI_ge hk (by omega)), x_everybody g4 v.1, q_gb, x_everything g4 v.1, q_gb, q_sh1 (by omega), q_nd]
    refine (x_spo (all := fullG d) (ty := nd (fullT d) (2 ^ k)) g4 v g5 (fullG_lt v.1)).b (fun u hu => ?_)
    obtain ⟨u1, u2, u3, m, u4, u5, u6⟩ := hu
    rw [u4, q_gb, q_if0 (by omega), q_or, q_gl, nI_add]
    by_cases c : m = 0
    · rw [if_pos c]
      refine hr _ ⟨?_, rfl, g3.tr u1, u2, u3⟩
      dsimp only
      conv => rhs; unfold setB
      rw [if_pos (show spT d k = true from u6.mp c)]
    · rw [if_neg c]
      refine hr _ ⟨?_, rfl, g3.tr u1, u2, u3⟩
      dsimp only
      conv => rhs; unfold setB
      rw [if_neg (show ¬ spT d k = true from fun q => c (u6.mpr q))]
  · obtain ⟨x1, x2, y⟩ := s
    obtain ⟨g1, g2, g3, g4, g5⟩ := hi
    dsimp only at g1 g2 g3 g4 g5
    subst g1 g2
    show Ok (f_X10_spoilingTypes_4_b (fun x1 x2 z => rec (x1, x2, z)) (nI (setB (spT d) (dt d))) (nI (dt d)) y) _
    unfold f_X10_spoilingTypes_4_b
    rw [g4.2.1, if_pos (nI_le (Nat.le_refl _) (by omega))]
    exact Ok.i ⟨rfl, g3⟩
theorem x_spG {z : gS} {d : Dat} (hx : SX z 1 d) (v : VN d) (h0 : z 20 0 = nI 0) : Ok (f_X10_spoilingGraves z) (fun q => q.1 = nI (setB (spG d) (dg d)) ∧ ZE z q.2) := by
  have v1 := v.1.1
  unfold f_X10_spoilingGraves f_X10_spoilingGraves_4
  refine gforI0 (fun k s => s.1 = nI (setB (spG d) k) ∧ s.2.1 = nI k ∧ ZE z s.2.2 ∧ SX s.2.2 1 d ∧ s.2.2 20 0 = nI 0) (e := dg d) (by omega) ⟨rfl, rfl, ZE.rf, hx, h0⟩ (fun k rec s hk hi hr => ?_) (fun rec s hi => ?_)
  · obtain ⟨x1, x2, y⟩ := s
    obtain ⟨g1, g2, g3, g4, g5⟩ := hi
    dsimp only at g1 g2 g3 g4 g5
    subst g1 g2
    show Ok (f_X10_spoilingGraves_4_b (fun x1 x2 z => rec (x1, x2, z)) (nI (setB (spG d) k)) (nI k) y) _
    unfold f_X10_spoilingGraves_4_b
    rw [g4.1, if_neg (nI_ge hk (by omega)), x_everybody g4 v.1, q_gb, x_everything g4 v.1, q_gb, q_sh1 (by omega), q_nd]
    refine (x_spo (all := nd (fullG d) (2 ^ k)) (ty := fullT d) g4 v g5 (nd_lt (fullG_lt v.1))).b (fun u hu => ?_)
    obtain ⟨u1, u2, u3, m, u4, u5, u6⟩ := hu
    rw [u4, q_gb, q_if0 (by omega), q_or, q_gl, nI_add]
    by_cases c : m = 0
    · rw [if_pos c]
      refine hr _ ⟨?_, rfl, g3.tr u1, u2, u3⟩
      dsimp only
      conv => rhs; unfold setB
      rw [if_pos (show spG d k = true from u6.mp c)]
    · rw [if_neg c]
      refine hr _ ⟨?_, rfl, g3.tr u1, u2, u3⟩
      dsimp only
      conv => rhs; unfold setB
      rw [if_neg (show ¬ spG d k = true from fun q => c (u6.mpr q))]
  · obtain ⟨x1, x2, y⟩ := s
    obtain ⟨g1, g2, g3, g4, g5⟩ := hi
    dsimp only at g1 g2 g3 g4 g5
    subst g1 g2
    show Ok (f_X10_spoilingGraves_4_b (fun x1 x2 z => rec (x1, x2, z)) (nI (setB (spG d) (dg d))) (nI (dg d)) y) _
    unfold f_X10_spoilingGraves_4_b
    rw [g4.1, if_pos (nI_le (Nat.le_refl _) (by omega))]
    exact Ok.i ⟨rfl, g3⟩
theorem m_gapT {w : gS} {d : Dat} (hm : SM w d) (v : VN d) {ty : Nat} (ht : ty < 256) : Ok (f_X11_isGaplessBy gm1 (nI ty) w) (fun q => q.1 = nI (spo d (fullG d) ty).toNat ∧ SE w q.2) := by
  have ho := OT.full (g := dg d) (by have := v.1.1; omega)
  unfold f_X11_isGaplessBy
  refine (m_begins hm v.1 (P := fun _ => true) (fun k hk => ⟨fun q => absurd q (nI_ne_m1 (by omega)), fun q => by cases q⟩)).b (fun y hy => ?_)
  rw [List.filter_eq_self.mpr (fun _ _ => rfl)] at hy
  exact (m_isGaplessBy_8 ⟨hm.se hy.2.2.se, v.1, hy.2.1, ht, fullG_lt v.1, ho.2.2.2.2.1⟩ ho hy.1).m (fun q hq => ⟨hq.1, hy.2.2.se.tr hq.2⟩)
theorem m_gapG {w : gS} {d : Dat} (hm : SM w d) (v : VN d) {g : Nat} (hg : g < dg d) : Ok (f_X11_isGaplessBy (nI g) (nI (fullT d)) w) (fun q => q.1 = nI (spG d g).toNat ∧ SE w q.2) := by
  have v1 := v.1.1
  have ho := OT.less (g := dg d) (w := g) (by omega) hg
  unfold f_X11_isGaplessBy
  refine (m_begins hm v.1 (P := fun x => !decide (x = g)) (fun k hk => ?_)).b (fun y hy => ?_)
  · rw [nI_eq (by omega) (by omega)]; simp
  exact (m_isGaplessBy_8 ⟨hm.se hy.2.2.se, v.1, hy.2.1, fullT_lt v, nd_lt (fullG_lt v.1), ho.2.2.2.2.1⟩ ho hy.1).m (fun q hq => ⟨hq.1, hy.2.2.se.tr hq.2⟩)
theorem m_spoilT {w : gS} {d : Dat} (hm : SM w d) (v : VN d) : Ok (f_X11_spoilers (nI 1) w) (fun q => q.1 = nI (setB (spT d) (dt d)) ∧ SE w q.2) := by
  have v2 := v.1.2.1
  unfold f_X11_spoilers f_X11_spoilers_4
  refine gforI0 (fun k s => s.1 = nI (setB (spT d) k) ∧ s.2.1 = nI k ∧ SE w s.2.2) (e := dt d) (by omega) ⟨rfl, rfl, SE.rf⟩ (fun k rec s hk hi hr => ?_) (fun rec s hi => ?_)
  · obtain ⟨x1, x2, y⟩ := s
    obtain ⟨g1, g2, g3⟩ := hi
    dsimp only at g1 g2 g3
    subst g1 g2
    have hy := hm.se g3
    show Ok (f_X11_spoilers_4_b (nI 1) (fun x1 x2 z => rec (x1, x2, z)) (nI (setB (spT d) k)) (nI k) y) _
    unfold f_X11_spoilers_4_b f_X11_spoilers_21
    rw [if_pos (show nI 1 = nI 1 from rfl), hy.2.1, if_neg (nI_ge hk (by omega)), if_pos (show nI 1 = nI 1 from rfl), ← hy.2.1, m_ty hy v.1, q_sh1 (by omega), q_nd]
    refine (m_gapT hy v (ty := nd (fullT d) (2 ^ k)) (nd_lt (fullT_lt v))).b (fun u hu => ?_)
    rw [hu.1, q_ifb, q_or, q_or, q_gl, q_gl, nI_add, Nat.or_zero]
    by_cases c : spT d k = true
    · rw [if_pos (show spo d (fullG d) (nd (fullT d) (2 ^ k)) = true from c)]
      refine hr _ ⟨?_, rfl, g3.tr hu.2⟩
      dsimp only
      conv => rhs; unfold setB
      rw [if_pos c]
    · rw [if_neg (show ¬ spo d (fullG d) (nd (fullT d) (2 ^ k)) = true from c)]
      refine hr _ ⟨?_, rfl, g3.tr hu.2⟩
      dsimp only
      conv => rhs; unfold setB
      rw [if_neg c]
  · obtain ⟨x1, x2, y⟩ := s
    obtain ⟨g1, g2, g3⟩ := hi
    dsimp only at g1 g2 g3
    subst g1 g2
    have hy := hm.se g3
    show Ok (f_X11_spoilers_4_b (nI 1) (fun x1 x2 z => rec (x1, x2, z)) (nI (setB (spT d) (dt d))) (nI (dt d)) y) _
    unfold f_X11_spoilers_4_b f_X11_spoilers_21
    rw [if_pos (show nI 1 = nI 1 from rfl), hy.2.1, if_pos (nI_le (Nat.le_refl _) (by omega))]
    exact Ok.i ⟨rfl, g3⟩
theorem m_spoilG {w : gS} {d : Dat} (hm : SM w d) (v : VN d) {i : Nat} (hi1 : i ≠ 1) (hi3 : i < 3) : Ok (f_X11_spoilers (nI i) w) (fun q => q.1 = nI (setB (spG d) (dg d)) ∧ SE w q.2) := by
  have v1 := v.1.1
  have hne : ¬ nI i = nI 1 := fun q => hi1 ((nI_eq (by omega) (by omega)).mp q)
  unfold f_X11_spoilers f_X11_spoilers_4
  refine gforI0 (fun k s => s.1 = nI (setB (spG d) k) ∧ s.2.1 = nI k ∧ SE w s.2.2) (e := dg d) (by omega) ⟨rfl, rfl, SE.rf⟩ (fun k rec s hk hi hr => ?_) (fun rec s hi => ?_)
  · obtain ⟨x1, x2, y⟩ := s
    obtain ⟨g1, g2, g3⟩ := hi
    dsimp only at g1 g2 g3
    subst g1 g2
    have hy := hm.se g3
    show Ok (f_X11_spoilers_4_b (nI i) (fun x1 x2 z => rec (x1, x2, z)) (nI (setB (spG d) k)) (nI k) y) _
    unfold f_X11_spoilers_4_b f_X11_spoilers_21
    rw [if_neg hne, hy.1, if_neg (nI_ge hk (by omega)), if_neg hne, m_ty hy v.1, q_sh1 (by omega)]
    refine (m_gapG hy v hk).b (fun u hu => ?_)
    rw [hu.1, q_ifb, q_or, q_or, q_gl, q_gl, nI_add, Nat.or_zero]
    by_cases c : spG d k = true
    · rw [if_pos c]
      refine hr _ ⟨?_, rfl, g3.tr hu.2⟩
      dsimp only
      conv => rhs; unfold setB
      rw [if_pos c]
    · rw [if_neg c]
      refine hr _ ⟨?_, rfl, g3.tr hu.2⟩
      dsimp only
      conv => rhs; unfold setB
      rw [if_neg c]
  · obtain ⟨x1, x2, y⟩ := s
    obtain ⟨g1, g2, g3⟩ := hi
    dsimp only at g1 g2 g3
    subst g1 g2
    have hy := hm.se g3
    show Ok (f_X11_spoilers_4_b (nI i) (fun x1 x2 z => rec (x1, x2, z)) (nI (setB (spG d) (dg d))) (nI (dg d)) y) _
    unfold f_X11_spoilers_4_b f_X11_spoilers_21
    rw [if_neg hne, hy.1, if_pos (nI_le (Nat.le_refl _) (by omega))]
    exact Ok.i ⟨rfl, g3⟩
theorem q_ls0 : ∀ a, a < 256 → f_X11_least (nI a) (fun _ _ => 0) = some (if a = 0 then -5 else nI (low a)) := by decide +kernel
theorem q_ls {a : Nat} (h : a < 256) (z : gS) : f_X11_least (nI a) z = some (if a = 0 then -5 else nI (low a)) := q_ls0 a h
