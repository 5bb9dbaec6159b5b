/-! a plan is made; what it is asked -/
def Fn (n : Nat) (z z' : gS) (p : Nat) : Prop := ∀ k, k < p ∨ p + n ≤ k → z' k = z k
theorem Fn.rf {n : Nat} {z : gS} {p : Nat} : Fn n z z p := fun _ _ => rfl
theorem Fn.tr {n : Nat} {z z1 z2 : gS} {p : Nat} (h1 : Fn n z z1 p) (h2 : Fn n z1 z2 p) : Fn n z z2 p := fun k hk => (h2 k hk).trans (h1 k hk)
theorem Fn.up {n : Nat} {z : gS} {p k j : Nat} {v : Int32} (h1 : p ≤ k) (h2 : k < p + n) : Fn n z (gup z k j v) p := fun a ha => by
  funext b
  exact gup_n (Or.inl (by omega))
theorem SX.fr {z z' : gS} {p : Nat} {d : Dat} (h : SX z p d) (e0 : z' p = z p) (e1 : z' (p + 1) = z (p + 1)) (e2 : z' (p + 2) = z (p + 2)) (e3 : z' (p + 3) = z (p + 3)) : SX z' p d := by
  unfold SX
  rw [e0, e1, e2, e3]
  exact h
theorem SX.fn {n : Nat} {z z' : gS} {p q : Nat} {d : Dat} (h : SX z p d) (hf : Fn n z z' q) (hp : p + 3 < q ∨ q + n ≤ p) : SX z' p d := h.fr (hf _ (by omega)) (hf _ (by omega)) (hf _ (by omega)) (hf _ (by omega))
def dI : Nat → Int32
  | 0 => gm1
  | n + 1 => nI n
theorem dI_s (n : Nat) : dI (n + 1) + gm1 = dI n := by
  cases n with
  | zero => decide
  | succ n => exact pk_m1 n
theorem dI_0 {r : Sort _} {x y : r} : (if dI 0 < 0 then x else y) = x := q_ifm
theorem dI_p {n : Nat} (h : n < 2 ^ 31) {r : Sort _} {x y : r} : (if dI (n + 1) < 0 then x else y) = y := q_iflt0 h
theorem PS.up {z : gS} {p all k j : Nat} {f l : Option Nat} {st : Nat → Nat} {v : Int32} (h : PS z p all f l st) (hk : k = p + 3 ∨ k = p + 4) : PS (gup z k j v) p all f l st := by
  obtain ⟨h1, h2, h3, h4, h5⟩ := h
  refine ⟨?_, ?_, ?_, fun g hg => ?_, fun b hb => ?_⟩
  · rw [gup_n (Or.inl (by omega))]; exact h1
  · rw [gup_n (Or.inl (by omega))]; exact h2
  · rw [gup_n (Or.inl (by omega))]; exact h3
  · rw [gup_n (Or.inl (by omega))]; exact h4 g hg
  · rw [gup_n (Or.inl (by omega))]; exact h5 b hb
def PK (z : gS) (p all : Nat) (f l : Option Nat) (st : Nat → Nat) : Prop := PS z p all f l st ∧ TWs z p all f l st 0
theorem x_make_116 {z : gS} {p p1 all : Nat} {f l : Option Nat} {st : Nat → Nat} (h : PS z p all f l st) (ha : all < 2 ^ 7) (hs : ∀ g, g < 7 → st g < 2 ^ 8) (hf : FB f) (hl : FB l) : Ok (f_X3_make_116 p p1 gF (nI all) z) (fun z' => PK z' p all f l st ∧ Fn 5 z z' p) := by
  unfold f_X3_make_116
  refine gforI0 (fun k s => s.1 = dI (all + 1 - k) ∧ PS s.2 p all f l st ∧ TWs s.2 p all f l st (all + 1 - k) ∧ Fn 5 z s.2 p) (e := all + 1) (by omega) ⟨rfl, h, fun b hb hn => ?_, Fn.rf⟩ (fun k rec s hk hi hr => ?_) (fun rec s hi => ?_)
  · have := sub_le hn
    omega
  · obtain ⟨x6, y⟩ := s
    obtain ⟨h1, h2, h3, h4⟩ := hi
    dsimp only at h1 h2 h3 h4
    subst h1
    obtain ⟨m, hm⟩ : ∃ m, all + 1 - k = m + 1 := ⟨all - k, by omega⟩
    show Ok (f_X3_make_116_b p p1 (fun x6 z => rec (x6, z)) (dI (all + 1 - k)) y) _
    unfold f_X3_make_116_b
    rw [hm] at h3 ⊢
    rw [dI_p (by omega), dI_s, h2.1]
    show Ok (if nI m &&& (nI all ^^^ gm1) = 0 then _ else _) _
    have hnd : nd m all ≤ m := nd_le _ _
    rw [q_nd, q_if0 (by omega)]
    have hm2 : all + 1 - (k + 1) = m := by omega
    by_cases e : nd m all = 0
    · rw [if_pos e]
      show Ok (gb (f_X3_settle p (nI m) y) _) _
      rw [x_settle h2 ha e hs hf hl h3, q_gb]
      refine hr _ ⟨by rw [hm2], (h2.up (Or.inl rfl)).up (Or.inr rfl), fun b hb hn => ?_, (h4.tr (Fn.up (by omega) (by omega))).tr (Fn.up (by omega) (by omega))⟩
      dsimp only
      rw [hm2] at hb
      by_cases q : b = m
      · subst q
        rw [gup_n (Or.inl (by omega)), gup_s, gup_s]
        exact ⟨rfl, rfl⟩
      · rw [gup_n (Or.inl (by omega)), gup_n (Or.inr q), gup_n (Or.inr q), gup_n (Or.inl (by omega))]
        exact h3 b (by omega) hn
    · rw [if_neg e]
      refine hr _ ⟨by rw [hm2], h2, fun b hb hn => ?_, h4⟩
      rw [hm2] at hb
      by_cases q : b = m
      · subst q; exact absurd hn e
      · exact h3 b (by omega) hn
  · obtain ⟨x6, y⟩ := s
    obtain ⟨h1, h2, h3, h4⟩ := hi
    dsimp only at h1 h2 h3 h4
    subst h1
    show Ok (f_X3_make_116_b p p1 (fun x6 z => rec (x6, z)) (dI (all + 1 - (all + 1))) y) _
    unfold f_X3_make_116_b
    rw [show all + 1 - (all + 1) = 0 by omega] at h3 ⊢
    rw [dI_0]
    exact Ok.i ⟨⟨h2, h3⟩, h4⟩
/-- the site's sets, with the types that count -/
def stT (d : Dat) (ty : Nat) (g : Nat) : Nat := if g < dg d then ds d g &&& ty else 0
theorem stT_lt {d : Dat} (v : VD d) {ty g : Nat} : stT d ty g < 2 ^ 8 := by
  unfold stT
  split
  · rename_i h
    exact and_lt (v.s h)
  · omega
theorem x_make_65 {z : gS} {p p1 all : Nat} {f l : Option Nat} {st : Nat → Nat} (h1 : z p 4 = nI all) (h2 : z p 5 = nO f) (h3 : z p 6 = nO l) (h4 : ∀ g, g < 7 → z (p + 1) g = nI (st g)) (h5 : z (p + 2) 0 = nI 0) (ha : all < 2 ^ 7) (hs : ∀ g, g < 7 → st g < 2 ^ 8) (hf : FB f) (hl : FB l) : Ok (f_X3_make_65 p p1 gF (nI 1) z) (fun z' => PK z' p all f l st ∧ Fn 5 z z' p) := by
  unfold f_X3_make_65
  refine gforI0 (fun k s => s.1 = nI (k + 1) ∧ (s.2 p 4 = nI all ∧ s.2 p 5 = nO f ∧ s.2 p 6 = nO l) ∧ (∀ g, g < 7 → s.2 (p + 1) g = nI (st g)) ∧ (∀ b, b ≤ k → s.2 (p + 2) b = nI (sn st b)) ∧ Fn 5 z s.2 p) (e := all) (by omega) ⟨rfl, ⟨h1, h2, h3⟩, h4, fun b hb => ?_, Fn.rf⟩ (fun k rec s hk hi hr => ?_) (fun rec s hi => ?_)
  · have : b = 0 := by omega
    subst this
    dsimp only
    rw [h5]
    congr 1
  · obtain ⟨x6, y⟩ := s
    obtain ⟨g1, ⟨g2, g3, g4⟩, g5, g6, g7⟩ := hi
    dsimp only at g1 g2 g3 g4 g5 g6 g7
    subst g1
    obtain ⟨l1, l2, _⟩ := low_s (k + 1) (by omega) (by omega)
    show Ok (f_X3_make_65_b p p1 (fun x6 z => rec (x6, z)) (nI (k + 1)) y) _
    unfold f_X3_make_65_b
    rw [g2, if_neg (nI_nlt (show k + 1 ≤ all by omega) (by omega)), pk_sub (by omega), q_and, q_tz (by omega) (by omega), q_gb, q_gg (by omega) (by omega), q_gg (by omega) (by omega), q_gg (by omega) (by omega), nI_clamp (by omega), nI_clamp (by omega), nI_clamp (by omega), q_gl, g6 _ (by omega), g5 _ l1, q_or, nI_add, ← sn_s (by omega) (by omega)]
    refine hr _ ⟨rfl, ⟨?_, ?_, ?_⟩, fun g hg => ?_, fun b hb => ?_, g7.tr (Fn.up (by omega) (by omega))⟩
    · dsimp only; rw [gup_n (Or.inl (by omega))]; exact g2
    · dsimp only; rw [gup_n (Or.inl (by omega))]; exact g3
    · dsimp only; rw [gup_n (Or.inl (by omega))]; exact g4
    · dsimp only; rw [gup_n (Or.inl (by omega))]; exact g5 g hg
    · dsimp only
      by_cases q : b = k + 1
      · subst q; rw [gup_s]
      · rw [gup_n (Or.inr q)]; exact g6 b (by omega)
  · obtain ⟨x6, y⟩ := s
    obtain ⟨g1, ⟨g2, g3, g4⟩, g5, g6, g7⟩ := hi
    dsimp only at g1 g2 g3 g4 g5 g6 g7
    subst g1
    show Ok (f_X3_make_65_b p p1 (fun x6 z => rec (x6, z)) (nI (all + 1)) y) _
    unfold f_X3_make_65_b
    rw [g2, if_pos (nI_lt (Nat.lt_succ_self _) (by omega)), q_gl]
    exact (x_make_116 ⟨g2, g3, g4, g5, g6⟩ ha hs hf hl).m (fun y hy => ⟨hy.1, g7.tr hy.2⟩)
theorem x_make {z : gS} {p p1 all ty : Nat} {f l : Option Nat} {d : Dat} (h : SX z p1 d) (v : VD d) (hp : p1 + 3 < p ∨ p + 5 ≤ p1) (ha : all < 2 ^ 7) (hf : FB f) (hl : FB l) (h0 : z (p + 2) 0 = nI 0) : Ok (f_X3_make p p1 (nI all) (nI ty) (nO f) (nO l) z) (fun z' => PK z' p all f l (stT d ty) ∧ Fn 5 z z' p) := by
  have v1 := v.1
  unfold f_X3_make
  rw [q_gl, q_gl, q_gl]
  have hF : Fn 5 z (gup (gup (gup z p 4 (nI all)) p 5 (nO f)) p 6 (nO l)) p := ((Fn.up (by omega) (by omega)).tr (Fn.up (by omega) (by omega))).tr (Fn.up (by omega) (by omega))
  have e4 : gup (gup (gup z p 4 (nI all)) p 5 (nO f)) p 6 (nO l) p 4 = nI all := by rw [gup_n (Or.inr (by omega)), gup_n (Or.inr (by omega)), gup_s]
  have e5 : gup (gup (gup z p 4 (nI all)) p 5 (nO f)) p 6 (nO l) p 5 = nO f := by rw [gup_n (Or.inr (by omega)), gup_s]
  have e6 : gup (gup (gup z p 4 (nI all)) p 5 (nO f)) p 6 (nO l) p 6 = nO l := gup_s
  have e0 : gup (gup (gup z p 4 (nI all)) p 5 (nO f)) p 6 (nO l) (p + 2) 0 = nI 0 := by rw [gup_n (Or.inl (by omega)), gup_n (Or.inl (by omega)), gup_n (Or.inl (by omega))]; exact h0
  unfold f_X3_make_20
  refine gforI0 (fun k s => s.1 = nI k ∧ (s.2 p 4 = nI all ∧ s.2 p 5 = nO f ∧ s.2 p 6 = nO l ∧ s.2 (p + 2) 0 = nI 0) ∧ (∀ g, g < k → s.2 (p + 1) g = nI (stT d ty g)) ∧ Fn 5 z s.2 p) (e := 7) (by omega) ⟨rfl, ⟨e4, e5, e6, e0⟩, fun g hg => by omega, hF⟩ (fun k rec s hk hi hr => ?_) (fun rec s hi => ?_)
  · obtain ⟨x6, y⟩ := s
    obtain ⟨g1, ⟨g2, g3, g4, g5⟩, g6, g7⟩ := hi
    dsimp only at g1 g2 g3 g4 g5 g6 g7
    subst g1
    have hy : SX y p1 d := h.fn g7 hp
    show Ok (f_X3_make_20_b p p1 (nI ty) (fun x6 z => rec (x6, z)) (nI k) y) _
    unfold f_X3_make_20_b
    rw [if_neg (nI_ge hk (by omega)), q_gg (by omega) (by omega), q_gg (by omega) (by omega), nI_clamp (by omega), nI_add]
    have key : ∀ w : Int32, w = nI (stT d ty k) → Ok (rec (nI (k + 1), gup y (p + 1) k w)) (fun z' => PK z' p all f l (stT d ty) ∧ Fn 5 z z' p) := fun w hw => by
      refine hr _ ⟨rfl, ⟨?_, ?_, ?_, ?_⟩, fun g hg => ?_, g7.tr (Fn.up (by omega) (by omega))⟩
      · dsimp only; rw [gup_n (Or.inl (by omega))]; exact g2
      · dsimp only; rw [gup_n (Or.inl (by omega))]; exact g3
      · dsimp only; rw [gup_n (Or.inl (by omega))]; exact g4
      · dsimp only; rw [gup_n (Or.inl (by omega))]; exact g5
      · dsimp only
        by_cases q : g = k
        · subst q; rw [gup_s, hw]
        · rw [gup_n (Or.inr q)]; exact g6 g (by omega)
    by_cases e : k < dg d
    · rw [x_holds hy v e, q_gb, q_if1, q_gg (by omega) (by omega), q_gl, hy.2.2.2.1 k e, q_and]
      exact key _ (by unfold stT; rw [if_pos e])
    · rw [x_holds_big hy v (by omega) (by omega), q_gb, q_if00, q_gl]
      exact key _ (by unfold stT; rw [if_neg e])
  · obtain ⟨x6, y⟩ := s
    obtain ⟨g1, ⟨g2, g3, g4, g5⟩, g6, g7⟩ := hi
    dsimp only at g1 g2 g3 g4 g5 g6 g7
    subst g1
    show Ok (f_X3_make_20_b p p1 (nI ty) (fun x6 z => rec (x6, z)) (nI 7) y) _
    unfold f_X3_make_20_b
    rw [if_pos (nI_le (Nat.le_refl _) (by omega))]
    exact (x_make_65 g2 g3 g4 g6 g5 ha (fun g _ => stT_lt v) hf hl).m (fun y hy => ⟨hy.1, g7.tr hy.2⟩)
