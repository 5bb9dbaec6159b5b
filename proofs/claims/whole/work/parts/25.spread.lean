/-! how many orders have so many gaps -/
theorem cnt_shl {l : List Nat} {t m : Nat} (h : m < t) : (l.map (t + ·)).count m = 0 := by
  rw [List.count_eq_zero]
  intro hm
  obtain ⟨a, _, h2⟩ := List.mem_map.mp hm
  omega
/-- row x3 with row x6 put to it, t places up, k of it -/
def adr (z : gS) (x3 x6 t k : Nat) : gS := fun a j => if a = x3 ∧ t ≤ j ∧ j < t + k then z a j + z x6 (j - t) else z a j
theorem adr_0 {z : gS} {x3 x6 t : Nat} : adr z x3 x6 t 0 = z := by
  funext a j
  unfold adr
  rw [if_neg (by omega)]
theorem adr_s {z : gS} {x3 x6 t k : Nat} (h : x6 ≠ x3) : gup (adr z x3 x6 t k) x3 (t + k) (adr z x3 x6 t k x3 (t + k) + adr z x3 x6 t k x6 k) = adr z x3 x6 t (k + 1) := by
  have e1 : adr z x3 x6 t k x3 (t + k) = z x3 (t + k) := by unfold adr; rw [if_neg (by omega)]
  have e2 : adr z x3 x6 t k x6 k = z x6 k := by unfold adr; rw [if_neg (by omega)]
  rw [e1, e2]
  funext a j
  by_cases c : a = x3 ∧ j = t + k
  · obtain ⟨rfl, rfl⟩ := c
    rw [gup_s]
    unfold adr
    rw [if_pos (by omega), show t + k - t = k by omega]
  · rw [gup_n (by omega)]
    unfold adr
    by_cases q : a = x3 ∧ t ≤ j ∧ j < t + k
    · rw [if_pos q, if_pos (by omega)]
    · rw [if_neg q, if_neg (by omega)]
theorem x_sp_86 {z : gS} {p0 p1 x3 x6 t : Nat} {x2 x4 : Int32} {K : Int32 → gS → Option gS} (h : x6 ≠ x3) (ht : t ≤ 41) : f_X6_settle_86 p0 p1 x2 x3 x4 (nI t) x6 K gF (nI t) z = K (x4 + nI 1) (adr z x3 x6 t (41 - t)) := by
  unfold f_X6_settle_86
  rw [show (nI t, z) = ((fun k => (nI (t + k), adr z x3 x6 t k)) 0) by simp [adr_0]]
  refine gfor0 (fun k => (nI (t + k), adr z x3 x6 t k)) (e := 41 - t) (by omega) (fun k rec hk => ?_) (fun rec => ?_)
  · show f_X6_settle_86_b p0 p1 x2 x3 x4 (nI t) x6 K (fun x7 z => rec (x7, z)) (nI (t + k)) (adr z x3 x6 t k) = rec (nI (t + (k + 1)), adr z x3 x6 t (k + 1))
    unfold f_X6_settle_86_b
    rw [if_neg (nI_nlt (show t + k ≤ 40 by omega) (by omega)), pk_sub (by omega), show t + k - t = k by omega, q_gg (by omega) (by omega), q_gg (by omega) (by omega), q_gg (by omega) (by omega), nI_clamp (by omega), nI_clamp (by omega), q_gl, adr_s h, nI_add]
    rfl
  · show f_X6_settle_86_b p0 p1 x2 x3 x4 (nI t) x6 K (fun x7 z => rec (x7, z)) (nI (t + (41 - t))) (adr z x3 x6 t (41 - t)) = _
    unfold f_X6_settle_86_b
    rw [if_pos (nI_lt (show 40 < t + (41 - t) by omega) (by omega))]
/-- the row of a set tells how often each cost comes -/
def SW (z : gS) (p0 : Nat) (L : List Nat) (b : Nat) : Prop := ∀ j, j < 41 → z (p0 + 2 + 1 * b) j = nI (L.count j)
theorem PK.fn {z z' : gS} {p all q n : Nat} {f l : Option Nat} {st : Nat → Nat} (h : PK z p all f l st) (hf : Fn n z z' q) (hp : p + 4 < q ∨ q + n ≤ p) : PK z' p all f l st := by
  unfold PK PS TWs
  rw [hf p (by omega), hf (p + 1) (by omega), hf (p + 2) (by omega), hf (p + 3) (by omega), hf (p + 4) (by omega)]
  exact h
theorem x_sp_43 {z : gS} {p0 p1 all b : Nat} {f l : Option Nat} {st : Nat → Nat} (h : PK z p1 all f l st) (hp : p1 + 4 < p0) (ha : all < 2 ^ 7) (hb : nd b all = 0) (hs : ∀ g, g < 7 → st g < 2 ^ 8) (hf : FB f) (hl : FB l) (hw : ∀ b', b < b' → nd b' all = 0 → SW z p0 (csts all (mfP all f l) (tol all st) b') b') (h0 : SW z p0 (agC all (mfP all f l) (tol all st) b 0) b) : Ok (f_X6_settle_43 p0 p1 (nI b) (p0 + 2 + 1 * b) gF (nI 0) z) (fun z' => SW z' p0 (csts all (mfP all f l) (tol all st) b) b ∧ Fn 1 z z' (p0 + 2 + 1 * b)) := by
  have hle := sub_le hb
  have hm := mfP_hm all f l
  have htl := tol_le all st
  unfold f_X6_settle_43
  refine gforI0 (fun k s => s.1 = nI k ∧ SW s.2 p0 (agC all (mfP all f l) (tol all st) b k) b ∧ Fn 1 z s.2 (p0 + 2 + 1 * b)) (e := 7) (by omega) ⟨rfl, h0, Fn.rf⟩ (fun k rec s hk hi hr => ?_) (fun rec s hi => ?_)
  · obtain ⟨x4, y⟩ := s
    obtain ⟨g1, g2, g3⟩ := hi
    dsimp only at g1 g2 g3
    subst g1
    have hy : PK y p1 all f l st := h.fn g3 (by omega)
    show Ok (f_X6_settle_43_b p0 p1 (nI b) (p0 + 2 + 1 * b) (fun x4 z => rec (x4, z)) (nI k) y) _
    unfold f_X6_settle_43_b
    rw [if_neg (nI_ge hk (by omega)), x_mayFollow hy.1 ha (by omega) hk hf hl, q_gb, q_ifb, nI_add]
    by_cases e : mfP all f l b k = true
    · obtain ⟨_, e2, e3⟩ := hm b k e
      have hor := or_gt e3
      have hsb := sub_or hb e2
      have hole := sub_le hsb
      have htk := htl b k
      have hsg : sgC all (mfP all f l) (tol all st) b k = (csts all (mfP all f l) (tol all st) (b ||| 2 ^ k)).map (tol all st b k + ·) := if_pos e
      rw [if_pos e, x_toll hy.1 ha hle hk hs, q_gb, q_sh1 (by omega), q_or, q_gg (by omega) (by omega), nI_clamp (by omega), x_sp_86 (by omega) (by omega), nI_add]
      refine hr _ ⟨rfl, fun j hj => ?_, fun a q => ?_⟩
      · have h3 : y (p0 + 2 + 1 * (b ||| 2 ^ k)) = z (p0 + 2 + 1 * (b ||| 2 ^ k)) := g3 _ (by omega)
        show adr y (p0 + 2 + 1 * b) (p0 + 2 + 1 * (b ||| 2 ^ k)) (tol all st b k) (41 - tol all st b k) (p0 + 2 + 1 * b) j = _
        unfold adr
        rw [agC_s, List.count_append, hsg, h3, g2 j hj]
        by_cases c : tol all st b k ≤ j
        · rw [if_pos (by omega), hw _ hor hsb _ (by omega), nI_add]
          congr 2
          rw [← cnt_sh (t := tol all st b k), show tol all st b k + (j - tol all st b k) = j by omega]
        · rw [if_neg (by omega), cnt_shl (by omega), Nat.add_zero]
      · dsimp only
        funext j
        unfold adr
        rw [if_neg (by omega), g3 a q]
    · have hsg : sgC all (mfP all f l) (tol all st) b k = [] := if_neg e
      rw [if_neg e]
      refine hr _ ⟨rfl, ?_, g3⟩
      rw [agC_s, hsg, List.append_nil]
      exact g2
  · obtain ⟨x4, y⟩ := s
    obtain ⟨g1, g2, g3⟩ := hi
    dsimp only at g1 g2 g3
    subst g1
    show Ok (f_X6_settle_43_b p0 p1 (nI b) (p0 + 2 + 1 * b) (fun x4 z => rec (x4, z)) (nI 7) y) _
    unfold f_X6_settle_43_b
    rw [if_pos (nI_le (Nat.le_refl _) (by omega))]
    rw [agC_7 ha hm hb] at g2
    exact Ok.i ⟨g2, g3⟩
theorem x_sp_settle {z : gS} {p0 p1 all b : Nat} {f l : Option Nat} {st : Nat → Nat} (h : PK z p1 all f l st) (hp : p1 + 4 < p0) (ha : all < 2 ^ 7) (hb : nd b all = 0) (hs : ∀ g, g < 7 → st g < 2 ^ 8) (hf : FB f) (hl : FB l) (hw : ∀ b', b < b' → nd b' all = 0 → SW z p0 (csts all (mfP all f l) (tol all st) b') b') : Ok (f_X6_settle p0 p1 (nI b) z) (fun z' => SW z' p0 (csts all (mfP all f l) (tol all st) b) b ∧ Fn 1 z z' (p0 + 2 + 1 * b)) := by
  have hle := sub_le hb
  unfold f_X6_settle
  rw [q_gg (by omega) (by omega), nI_clamp (by omega)]
  unfold f_X6_settle_10
  refine gforI0 (fun k s => s.1 = nI k ∧ (∀ j, j < k → s.2 (p0 + 2 + 1 * b) j = nI 0) ∧ Fn 1 z s.2 (p0 + 2 + 1 * b)) (e := 41) (by omega) ⟨rfl, fun j hj => by omega, Fn.rf⟩ (fun k rec s hk hi hr => ?_) (fun rec s hi => ?_)
  · obtain ⟨x4, y⟩ := s
    obtain ⟨g1, g2, g3⟩ := hi
    dsimp only at g1 g2 g3
    subst g1
    show Ok (f_X6_settle_10_b p0 p1 (nI b) (p0 + 2 + 1 * b) (fun x4 z => rec (x4, z)) (nI k) y) _
    unfold f_X6_settle_10_b
    rw [if_neg (nI_nlt (show k ≤ 40 by omega) (by omega)), q_gg (by omega) (by omega), nI_clamp (by omega), q_gl, nI_add]
    refine hr _ ⟨rfl, fun j hj => ?_, g3.tr (Fn.up (by omega) (by omega))⟩
    dsimp only
    by_cases q : j = k
    · subst q; rw [gup_s]
    · rw [gup_n (Or.inr q)]; exact g2 j (by omega)
  · obtain ⟨x4, y⟩ := s
    obtain ⟨g1, g2, g3⟩ := hi
    dsimp only at g1 g2 g3
    subst g1
    have hy : PK y p1 all f l st := h.fn g3 (by omega)
    have hwy : ∀ b', b < b' → nd b' all = 0 → SW y p0 (csts all (mfP all f l) (tol all st) b') b' := fun b' q1 q2 j hj => by
      rw [g3 _ (by omega)]
      exact hw b' q1 q2 j hj
    show Ok (f_X6_settle_10_b p0 p1 (nI b) (p0 + 2 + 1 * b) (fun x4 z => rec (x4, z)) (nI 41) y) _
    unfold f_X6_settle_10_b
    rw [if_pos (nI_lt (show 40 < 41 by omega) (by omega)), hy.1.1, q_ifeq (by omega) (by omega)]
    by_cases e : b = all
    · rw [if_pos e, q_gg (by omega) (by omega), q_gl, nI_clamp (by omega)]
      have hF : Fn 1 y (gup y (p0 + 2 + 1 * b) 0 (nI 1)) (p0 + 2 + 1 * b) := Fn.up (by omega) (by omega)
      have e0 : agC all (mfP all f l) (tol all st) b 0 = [0] := by unfold agC; rw [if_pos e]; rfl
      refine (x_sp_43 (hy.fn hF (by omega)) hp ha hb hs hf hl (fun b' q1 q2 j hj => ?_) ?_).m (fun z' h' => ⟨h'.1, (g3.tr hF).tr h'.2⟩)
      · rw [hF _ (by omega)]
        exact hwy b' q1 q2 j hj
      · rw [e0]
        intro j hj
        by_cases q : j = 0
        · subst q; rw [gup_s]; rfl
        · rw [gup_n (Or.inr q), g2 j hj]
          congr 1
          rw [List.count_singleton]
          simp [Ne.symm q]
    · rw [if_neg e]
      have e0 : agC all (mfP all f l) (tol all st) b 0 = [] := by unfold agC; rw [if_neg e]; rfl
      refine (x_sp_43 hy hp ha hb hs hf hl hwy ?_).m (fun z' h' => ⟨h'.1, g3.tr h'.2⟩)
      rw [e0]
      intro j hj
      rw [g2 j hj]
      rfl
theorem cntLe {L : List Nat} : ∀ k, L.countP (fun c => decide (c < k + 1)) = L.countP (fun c => decide (c < k)) + L.count k := by
  intro k
  induction L with
  | nil => rfl
  | cons a L ih =>
    rw [List.countP_cons, List.countP_cons, List.count_cons, ih]
    rcases Nat.lt_trichotomy a k with c | c | c
    · simp [show a < k + 1 by omega, c, show ¬ a = k by omega]; omega
    · subst c; simp; omega
    · simp [show ¬ a < k + 1 by omega, show ¬ a < k by omega, show ¬ a = k by omega]
theorem x_within_26 {z : gS} {p0 p1 m : Nat} {L : List Nat} (h : SW z p0 L 0) (hm : m < 100) : f_X6_within_26 p0 p1 z (nI m) gF (nI 0) (nI 0) = some (nI (L.countP (fun c => decide (c < min (m + 1) 41))), z) := by
  unfold f_X6_within_26
  rw [show (nI 0, nI 0) = ((fun k => (nI (L.countP (fun c => decide (c < k))), nI k)) 0) by simp]
  refine gfor0 (fun k => (nI (L.countP (fun c => decide (c < k))), nI k)) (e := min (m + 1) 41) (by omega) (fun k rec hk => ?_) (fun rec => ?_)
  · show f_X6_within_26_b p0 p1 z (nI m) (fun x3 x4 => rec (x3, x4)) (nI (L.countP (fun c => decide (c < k)))) (nI k) = rec (nI (L.countP (fun c => decide (c < k + 1))), nI (k + 1))
    unfold f_X6_within_26_b
    rw [if_neg (nI_nlt (show k ≤ 40 by omega) (by omega)), if_neg (nI_nlt (show k ≤ m by omega) (by omega)), q_gg (by omega) (by omega), q_gg (by omega) (by omega), nI_clamp (by omega), nI_clamp (by omega), h k (by omega), nI_add, nI_add, q_gl, cntLe]
  · show f_X6_within_26_b p0 p1 z (nI m) (fun x3 x4 => rec (x3, x4)) (nI (L.countP (fun c => decide (c < min (m + 1) 41)))) (nI (min (m + 1) 41)) = _
    unfold f_X6_within_26_b
    by_cases c : m < 40
    · rw [if_neg (nI_nlt (show min (m + 1) 41 ≤ 40 by omega) (by omega)), if_pos (nI_lt (show m < min (m + 1) 41 by omega) (by omega))]
    · rw [if_pos (nI_lt (show 40 < min (m + 1) 41 by omega) (by omega))]
theorem x_within {z : gS} {p0 p1 all m : Nat} {f l : Option Nat} {st : Nat → Nat} (h : PK z p1 all f l st) (hp : p1 + 4 < p0) (ha : all < 2 ^ 7) (hfull : ∀ b, b ≤ all → nd b all = 0) (hs : ∀ g, g < 7 → st g < 2 ^ 8) (hf : FB f) (hl : FB l) (hm : m < 100) : Ok (f_X6_within p0 p1 (nI m) z) (fun r => r.1 = nI ((csts all (mfP all f l) (tol all st) 0).countP (fun c => decide (c < min (m + 1) 41))) ∧ Fn 130 z r.2 p0) := by
  unfold f_X6_within f_X6_within_5
  rw [h.1.1, q_gl]
  refine gforI0 (fun k s => s.1 = dI (all + 1 - k) ∧ (∀ b, all + 1 - k ≤ b → nd b all = 0 → SW s.2 p0 (csts all (mfP all f l) (tol all st) b) b) ∧ Fn 130 z s.2 p0) (e := all + 1) (by omega) ⟨rfl, fun b hb hn => ?_, Fn.rf⟩ (fun k rec s hk hi hr => ?_) (fun rec s hi => ?_)
  · have := sub_le hn
    omega
  · obtain ⟨x3, y⟩ := s
    obtain ⟨g1, g2, g3⟩ := hi
    dsimp only at g1 g2 g3
    subst g1
    obtain ⟨q, hq⟩ : ∃ q, all + 1 - k = q + 1 := ⟨all - k, by omega⟩
    rw [hq] at g2
    show Ok (f_X6_within_5_b p0 p1 (nI m) (fun x3 z => rec (x3, z)) (dI (all + 1 - k)) y) _
    unfold f_X6_within_5_b
    rw [hq, dI_p (by omega), dI_s]
    refine (x_sp_settle (h.fn g3 (by omega)) hp ha (hfull q (by omega)) hs hf hl (fun b' q1 q2 => g2 b' (by omega) q2)).b (fun z' h' => ?_)
    refine hr _ ⟨by dsimp only; rw [show all + 1 - (k + 1) = q by omega], fun b hb hn j hj => ?_, ?_⟩
    · dsimp only
      by_cases c : b = q
      · subst c; exact h'.1 j hj
      · rw [h'.2 _ (by omega)]
        exact g2 b (by omega) hn j hj
    · intro a qa
      dsimp only
      rw [h'.2 a (by omega)]
      exact g3 a qa
  · obtain ⟨x3, y⟩ := s
    obtain ⟨g1, g2, g3⟩ := hi
    dsimp only at g1 g2 g3
    subst g1
    show Ok (f_X6_within_5_b p0 p1 (nI m) (fun x3 z => rec (x3, z)) (dI (all + 1 - (all + 1))) y) _
    unfold f_X6_within_5_b
    rw [show all + 1 - (all + 1) = 0 by omega, dI_0, x_within_26 (g2 0 (by omega) nd0) hm]
    exact Ok.i ⟨rfl, g3⟩
/-! no order has more than 40 gaps -/
theorem sn_0 (st : Nat → Nat) : sn st 0 = 0 := by
  apply Nat.eq_of_testBit_eq
  intro j
  apply bool_ext
  rw [sn_bit]
  simp
theorem nd_z (a : Nat) : nd 0 a = 0 := by unfold nd; simp
theorem pop_0 : pop 0 = 0 := by decide
theorem tol_0 {all : Nat} {st : Nat → Nat} {g : Nat} : tol all st 0 g = 0 := by
  unfold tol
  rw [sn_0, Nat.zero_and, nd_z, pop_0]
theorem tol_z {all b g : Nat} {st : Nat → Nat} (h : b ||| 2 ^ g = all) : tol all st b g = 0 := by
  have e : nd (nd all b) (2 ^ g) = 0 := by
    rw [nd_0]
    intro i hi
    rw [nd_bit] at hi
    rw [← h, bt_or] at hi
    rw [Nat.testBit_two_pow]
    cases c : b.testBit i <;> simp_all
  unfold tol
  rw [e, sn_0, Nat.and_zero, nd_z, pop_0]
theorem cst_l {all : Nat} {mf : Nat → Nat → Bool} {st : Nat → Nat} (hm : HM all mf) (ha : all < 2 ^ 7) : ∀ n b l, rm all b = n + 1 → nd b all = 0 → l ∈ plm mf (n + 1) b → cst (tol all st) b l ≤ 8 * n
  | 0, b, l, hn, hb, hl => by
    obtain ⟨g, r, h1, h2, h3, rfl⟩ := plm_m.mp hl
    obtain ⟨_, h4, h5⟩ := hm b g h2
    have e := rm_0 ha (sub_or hb h4) (by have := rm_s h4 h5 h1; omega)
    have h3 : r ∈ [[]] := h3
    simp at h3
    subst h3
    show tol all st b g + 0 ≤ _
    rw [tol_z e]
    omega
  | n + 1, b, l, hn, hb, hl => by
    obtain ⟨g, r, h1, h2, h3, rfl⟩ := plm_m.mp hl
    obtain ⟨_, h4, h5⟩ := hm b g h2
    have := cst_l (st := st) hm ha n (b ||| 2 ^ g) r (by have := rm_s h4 h5 h1; omega) (sub_or hb h4) h3
    have := tol_le all st b g
    show tol all st b g + cst (tol all st) (b ||| 2 ^ g) r ≤ _
    omega
theorem csts_40 {all : Nat} {mf : Nat → Nat → Bool} {st : Nat → Nat} (hm : HM all mf) (ha : all < 2 ^ 7) : ∀ c ∈ csts all mf (tol all st) 0, c ≤ 40 := by
  intro c hc
  obtain ⟨l, h1, rfl⟩ := List.mem_map.mp hc
  have h7 := rm_le all 0
  rcases e : rm all 0 with _ | n
  · rw [e] at h1
    have h1 : l ∈ [[]] := h1
    simp at h1
    subst h1
    exact Nat.zero_le _
  · rw [e] at h1
    obtain ⟨g, r, g1, g2, g3, rfl⟩ := plm_m.mp h1
    obtain ⟨_, h4, h5⟩ := hm 0 g g2
    have hr := rm_s h4 h5 g1
    show tol all st 0 g + cst (tol all st) (0 ||| 2 ^ g) r ≤ 40
    rw [tol_0]
    rcases n with _ | n
    · have g3 : r ∈ [[]] := g3
      simp at g3
      subst g3
      exact Nat.zero_le _
    · have := cst_l (st := st) hm ha n (0 ||| 2 ^ g) r (by omega) (sub_or nd0 h4) g3
      omega
