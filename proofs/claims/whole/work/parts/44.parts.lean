/-! parts -/
def shB (d : Dat) (a b : Nat) : Bool := decide (ds d a &&& ds d b ≠ 0)
/-- one step: all that share with one of a set -/
def nxP (d : Dat) (S : Nat) : Nat := S ||| setB (fun k => (List.range (dg d)).any (fun b => S.testBit b && shB d k b)) (dg d)
def itP (d : Dat) (g : Nat) : Nat → Nat
  | 0 => 2 ^ g
  | i + 1 => nxP d (itP d g i)
theorem nxP_bit {d : Dat} {S i : Nat} : (nxP d S).testBit i = true ↔ S.testBit i = true ∨ (i < dg d ∧ ∃ b, b < dg d ∧ S.testBit b = true ∧ shB d i b = true) := by
  unfold nxP
  rw [Nat.testBit_or, Bool.or_eq_true, setB_bit, Bool.and_eq_true, decide_eq_true_eq, List.any_eq_true]
  refine or_congr_right (and_congr_right (fun _ => ?_))
  constructor
  · rintro ⟨b, h1, h2⟩
    rw [Bool.and_eq_true] at h2
    exact ⟨b, List.mem_range.mp h1, h2⟩
  · rintro ⟨b, h1, h2⟩
    exact ⟨b, List.mem_range.mpr h1, by rw [Bool.and_eq_true]; exact h2⟩
theorem itP_lt {d : Dat} {g : Nat} (hg : g < dg d) : ∀ i, itP d g i < 2 ^ dg d
  | 0 => Nat.pow_lt_pow_right (by omega) hg
  | i + 1 => Nat.or_lt_two_pow (itP_lt hg i) (setB_lt _ _)
theorem rm_mono {all a b : Nat} (h : nd a b = 0) : rm all b ≤ rm all a := by
  have : ∀ n, cntB (fun g => all.testBit g && !b.testBit g) n ≤ cntB (fun g => all.testBit g && !a.testBit g) n := fun n => by
    induction n with
    | zero => exact Nat.le_refl _
    | succ n ih =>
      show cntB _ n + (all.testBit n && !b.testBit n).toNat ≤ cntB _ n + (all.testBit n && !a.testBit n).toNat
      have h1 := nd_0.mp h n
      have : (all.testBit n && !b.testBit n).toNat ≤ (all.testBit n && !a.testBit n).toNat := by
        cases e1 : all.testBit n
        · exact Nat.le_refl _
        · cases e2 : a.testBit n
          · cases b.testBit n <;> decide
          · rw [h1 e2]; decide
      omega
  exact this 7
theorem rm_lt {all a b i : Nat} (h : nd a b = 0) (h1 : all.testBit i = true) (h2 : a.testBit i = false) (h3 : b.testBit i = true) (hi : i < 7) : rm all b < rm all a := by
  have e := rm_s h1 h2 hi
  have : nd (a ||| 2 ^ i) b = 0 := by
    rw [nd_0]
    intro x hx
    rw [bt_or, Bool.or_eq_true] at hx
    rcases hx with hx | hx
    · exact nd_0.mp h x hx
    · simp at hx; subst hx; exact h3
  have := rm_mono (all := all) this
  omega
theorem nx_sub {d : Dat} {S : Nat} : nd S (nxP d S) = 0 := by
  rw [nd_0]
  intro i hi
  rw [nxP_bit]
  exact Or.inl hi
theorem it_st {d : Dat} {g : Nat} (hn : dg d ≤ 7) (hg : g < dg d) : ∀ i, itP d g (i + 1) = itP d g i ∨ rm (2 ^ dg d - 1) (itP d g i) + i + 1 ≤ dg d
  | 0 => by
    right
    have h1 := (rm_full (dg d) (by omega)).1
    have h2 := rm_s (all := 2 ^ dg d - 1) (b := 0) (full_bit hg) (Nat.zero_testBit g) (by omega)
    rw [Nat.zero_or] at h2
    show rm _ (2 ^ g) + 0 + 1 ≤ _
    omega
  | i + 1 => by
    rcases it_st hn hg i with h | h
    · left
      show nxP d (itP d g (i + 1)) = nxP d (itP d g i)
      rw [h]
    · by_cases e : itP d g (i + 1) = itP d g i
      · left
        show nxP d (itP d g (i + 1)) = nxP d (itP d g i)
        rw [e]
      · right
        have hex : ∃ x, (itP d g (i + 1)).testBit x = true ∧ (itP d g i).testBit x = false := by
          apply Classical.byContradiction
          intro hc
          apply e
          apply Nat.eq_of_testBit_eq
          intro x
          apply bool_ext
          refine ⟨fun q => ?_, fun q => nd_0.mp nx_sub x q⟩
          cases e2 : (itP d g i).testBit x
          · exact absurd ⟨x, q, e2⟩ hc
          · rfl
        obtain ⟨x, x1, x2⟩ := hex
        have hx : x < dg d := by
          apply Nat.lt_of_not_le
          intro q
          rw [bit_hi (itP_lt hg (i + 1)) q] at x1
          cases x1
        have := rm_lt (all := 2 ^ dg d - 1) (a := itP d g i) (b := itP d g (i + 1)) nx_sub (full_bit hx) x2 x1 (by omega)
        omega
/-- the part of one -/
def ptP (d : Dat) (g : Nat) : Nat := itP d g (dg d)
theorem pt_st {d : Dat} {g : Nat} (hn : dg d ≤ 7) (hg : g < dg d) : nxP d (ptP d g) = ptP d g := by
  rcases it_st hn hg (dg d) with h | h
  · exact h
  · omega
theorem it_eq {d : Dat} {g i : Nat} (h : itP d g (i + 1) = itP d g i) : ∀ j, itP d g (i + j) = itP d g i
  | 0 => rfl
  | j + 1 => by
    show nxP d (itP d g (i + j)) = _
    rw [it_eq h j]
    exact h
theorem it_pt {d : Dat} {g i : Nat} (hn : dg d ≤ 7) (hg : g < dg d) (h : itP d g (i + 1) = itP d g i) : itP d g i = ptP d g := by
  rcases Nat.le_total i (dg d) with q | q
  · have := it_eq h (dg d - i)
    rw [show i + (dg d - i) = dg d by omega] at this
    exact this.symm
  · have := it_eq (i := dg d) (pt_st hn hg) (i - dg d)
    rw [show dg d + (i - dg d) = i by omega] at this
    exact this
/-! the reference's -/
theorem m_partOf_62 {w : gS} {d : Dat} (h : SM w d) (v : VD d) {S : Nat} (hS : S < 2 ^ dg d) {x3 : Int32} {K : Int32 → Int32 → Option Int32} : f_X11_partOf_62 w x3 (nI (unB (ds d) S (dg d))) K gF (nI S) (nI 0) = K (nI (nxP d S)) x3 := by
  have v1 := v.1
  have hu : unB (ds d) S (dg d) < 2 ^ 8 := by
    have : ∀ n, n ≤ dg d → unB (ds d) S n < 2 ^ 8 := fun n => by
      induction n with
      | zero => intro _; show (0 : Nat) < 2 ^ 8; omega
      | succ n ih =>
        intro hn
        have h1 := ih (by omega)
        unfold unB
        split
        · exact Nat.or_lt_two_pow h1 (v.s (by omega))
        · exact h1
    exact this _ (Nat.le_refl _)
  have hP : ∀ k, k < dg d → (ds d k &&& unB (ds d) S (dg d) = 0 ↔ (List.range (dg d)).any (fun b => S.testBit b && shB d k b) = false) := fun k hk => by
    rw [← Bool.not_eq_true, ← Decidable.not_iff_not]
    rw [Decidable.not_not, List.any_eq_true]
    show ds d k &&& unB (ds d) S (dg d) ≠ 0 ↔ _
    rw [and_ne]
    constructor
    · rintro ⟨i, i1, i2⟩
      obtain ⟨b, b1, b2, b3⟩ := unB_bit.mp i2
      refine ⟨b, List.mem_range.mpr b1, ?_⟩
      rw [b2, Bool.true_and]
      unfold shB
      rw [decide_eq_true_eq, and_ne]
      exact ⟨i, i1, b3⟩
    · rintro ⟨b, b1, b2⟩
      rw [Bool.and_eq_true] at b2
      unfold shB at b2
      rw [decide_eq_true_eq, and_ne] at b2
      obtain ⟨b2, i, i1, i2⟩ := b2
      exact ⟨i, i1, unB_bit.mpr ⟨b, List.mem_range.mp b1, b2, i2⟩⟩
  unfold f_X11_partOf_62 nxP
  rw [show (nI S, nI 0) = ((fun k => (nI (S ||| setB (fun k => (List.range (dg d)).any (fun b => S.testBit b && shB d k b)) k), nI k)) 0) by
    dsimp only
    unfold setB
    rw [Nat.or_zero]]
  refine gfor0 (fun k => (nI (S ||| setB (fun k => (List.range (dg d)).any (fun b => S.testBit b && shB d k b)) k), nI k)) (e := dg d) (by omega) (fun k rec hk => ?_) (fun rec => ?_)
  · have hl := and_lt (a := ds d k) (b := unB (ds d) S (dg d)) (n := 256) (v.s hk)
    show f_X11_partOf_62_b w x3 (nI (unB (ds d) S (dg d))) K (fun x2 x5 => rec (x2, x5)) (nI (S ||| setB _ k)) (nI k) = rec (nI (S ||| setB _ (k + 1)), nI (k + 1))
    unfold f_X11_partOf_62_b
    rw [h.1, if_neg (nI_ge hk (by omega)), q_gg (by omega) (by omega), nI_clamp (by omega), h.2.2.2.1 k hk, q_and, q_if0 (by omega), q_or, Nat.or_zero, q_gl, q_sh1 (by omega), q_or, q_gl, nI_add]
    conv => rhs; unfold setB
    cases c : (List.range (dg d)).any (fun b => S.testBit b && shB d k b)
    · rw [if_pos ((hP k hk).mpr c), if_neg (by decide)]
    · rw [if_neg (fun q => by rw [(hP k hk).mp q] at c; cases c), if_pos rfl, Nat.or_assoc]
  · show f_X11_partOf_62_b w x3 (nI (unB (ds d) S (dg d))) K (fun x2 x5 => rec (x2, x5)) (nI (S ||| setB _ (dg d))) (nI (dg d)) = _
    unfold f_X11_partOf_62_b
    rw [h.1, if_pos (nI_le (Nat.le_refl _) (by omega))]
theorem m_partOf_19 {w : gS} {d : Dat} (h : SM w d) (v : VD d) {S : Nat} (hS : S < 2 ^ dg d) {K : Int32 → Int32 → Option Int32} : f_X11_partOf_19 w (nI S) (nI S) K gF (nI 0) (nI 0) = K (nI (nxP d S)) (nI S) := by
  have v1 := v.1
  have hp : 2 ^ dg d ≤ 2 ^ 7 := Nat.pow_le_pow_right (by omega) v1
  unfold f_X11_partOf_19
  refine gfor0 (fun k => (nI (unB (ds d) S k), nI k)) (e := dg d) (by omega) (fun k rec hk => ?_) (fun rec => ?_)
  · show f_X11_partOf_19_b w (nI S) (nI S) K (fun x4 x5 => rec (x4, x5)) (nI (unB (ds d) S k)) (nI k) = rec (nI (unB (ds d) S (k + 1)), nI (k + 1))
    unfold f_X11_partOf_19_b
    rw [h.1, if_neg (nI_ge hk (by omega)), m_has (by omega) (by omega), q_gb, q_ifb, q_or, Nat.or_zero, q_gl, q_gg (by omega) (by omega), nI_clamp (by omega), h.2.2.2.1 k hk, q_or, q_gl, nI_add]
    conv => rhs; unfold unB
    cases S.testBit k <;> rfl
  · show f_X11_partOf_19_b w (nI S) (nI S) K (fun x4 x5 => rec (x4, x5)) (nI (unB (ds d) S (dg d))) (nI (dg d)) = _
    unfold f_X11_partOf_19_b
    rw [h.1, if_pos (nI_le (Nat.le_refl _) (by omega))]
    exact m_partOf_62 h v hS
theorem m_partOf {w : gS} {d : Dat} (h : SM w d) (v : VD d) {g : Nat} (hg : g < dg d) : f_X11_partOf (nI g) w = some (nI (ptP d g)) := by
  have v1 := v.1
  have hp : 2 ^ dg d ≤ 2 ^ 7 := Nat.pow_le_pow_right (by omega) v1
  have key : ∀ j i m, i + j = dg d + 1 → j < m → f_X11_partOf_6 w m (nI (itP d g (i + 1))) (nI (itP d g i)) = some (nI (ptP d g)) := by
    intro j
    induction j with
    | zero =>
      intro i m hi hm
      obtain ⟨m, rfl⟩ : ∃ q, m = q + 1 := ⟨m - 1, by omega⟩
      have hs : itP d g (dg d + 1) = itP d g (dg d) := pt_st v1 hg
      have hs2 : itP d g (i + 1) = itP d g i := by
        rw [show i = dg d + 1 by omega]
        show nxP d (itP d g (dg d + 1)) = nxP d (itP d g (dg d))
        rw [hs]
      show f_X11_partOf_6_b w (fun x2 x3 => f_X11_partOf_6 w m x2 x3) (nI (itP d g (i + 1))) (nI (itP d g i)) = _
      unfold f_X11_partOf_6_b
      rw [if_pos (by rw [hs2]), hs2, it_pt v1 hg hs2]
    | succ j ih =>
      intro i m hi hm
      obtain ⟨m, rfl⟩ : ∃ q, m = q + 1 := ⟨m - 1, by omega⟩
      have l1 := itP_lt hg i
      have l2 := itP_lt hg (i + 1)
      show f_X11_partOf_6_b w (fun x2 x3 => f_X11_partOf_6 w m x2 x3) (nI (itP d g (i + 1))) (nI (itP d g i)) = _
      unfold f_X11_partOf_6_b
      rw [q_ifeq (by omega) (by omega)]
      by_cases e : itP d g (i + 1) = itP d g i
      · rw [if_pos e, e, it_pt v1 hg e]
      · rw [if_neg e, m_partOf_19 h v l2]
        exact ih (i + 1) m (by omega) (by omega)
  have h0 : 0 < 2 ^ g := Nat.two_pow_pos g
  have l0 := itP_lt hg 0
  unfold f_X11_partOf
  rw [q_sh1 (by omega), q_gl]
  obtain ⟨m, hm⟩ := gF_n
  rw [hm]
  show f_X11_partOf_6_b w (fun x2 x3 => f_X11_partOf_6 w m x2 x3) (nI (2 ^ g)) (nI 0) = _
  have l00 : 2 ^ g < 2 ^ dg d := l0
  unfold f_X11_partOf_6_b
  rw [q_ifeq (by omega) (by omega), if_neg (by omega), m_partOf_19 h v l00]
  exact key (dg d + 1) 0 m (by omega) (by unfold gF at hm; omega)
/-! the class's -/
theorem x_sharesWithin {z : gS} {p : Nat} {d : Dat} (h : SX z p d) (v : VD d) {g S : Nat} (hg : g < dg d) (hS : S < 2 ^ dg d) : f_X5_sharesWithin p (nI g) (nI S) z = some (nI ((List.range' 0 (dg d)).any (fun b => S.testBit b && shB d g b)).toNat) := by
  have v1 := v.1
  have hp : 2 ^ dg d ≤ 2 ^ 7 := Nat.pow_le_pow_right (by omega) v1
  have key : ∀ j k m, k + j = dg d → j < m → f_X5_sharesWithin_2 p z (nI g) (nI S) m (nI k) = some (nI ((List.range' k j).any (fun b => S.testBit b && shB d g b)).toNat) := by
    intro j
    induction j with
    | zero =>
      intro k m hk hm
      obtain ⟨m, rfl⟩ : ∃ q, m = q + 1 := ⟨m - 1, by omega⟩
      show f_X5_sharesWithin_2_b p z (nI g) (nI S) (fun x3 => f_X5_sharesWithin_2 p z (nI g) (nI S) m x3) (nI k) = _
      unfold f_X5_sharesWithin_2_b
      rw [h.1, if_pos (nI_le (by omega) (by omega))]
      rfl
    | succ j ih =>
      intro k m hk hm
      obtain ⟨m, rfl⟩ : ∃ q, m = q + 1 := ⟨m - 1, by omega⟩
      have hpp := pop_le (ds d g &&& ds d k)
      have hpo := pop_pos _ (and_lt (b := ds d k) (v.s hg))
      show f_X5_sharesWithin_2_b p z (nI g) (nI S) (fun x3 => f_X5_sharesWithin_2 p z (nI g) (nI S) m x3) (nI k) = _
      unfold f_X5_sharesWithin_2_b
      rw [h.1, if_neg (nI_ge (show k < dg d by omega) (by omega)), q_bit (by omega) (by omega), q_ifb, x_common h v hg (by omega), q_gb, q_ifle0 (by omega), nI_add]
      try dsimp only
      rw [ih (k + 1) m (by omega) (by omega), List.range'_succ, List.any_cons]
      cases e : S.testBit k
      · rw [if_neg (by decide), Bool.false_and, Bool.false_or]
      · rw [if_pos rfl, Bool.true_and]
        unfold shB
        by_cases c : ds d g &&& ds d k = 0
        · rw [if_pos (by omega), decide_eq_false (by simp [c]), Bool.false_or]
        · rw [if_neg (by omega), decide_eq_true c, Bool.true_or]
          rfl
  exact key (dg d) 0 gF (by omega) (q_gF (by omega))
/-- a round goes at least one step on, and stays within the part -/
theorem x_partOf_17 {z : gS} {p : Nat} {d : Dat} (h : SX z p d) (v : VD d) {g : Nat} (hg : g < dg d) {x3 : Int32} {K : Int32 → Int32 → Option Int32} {P : Int32 → Prop} {S i : Nat} (hS : S < 2 ^ dg d) (h1 : nd (itP d g i) S = 0) (h2 : nd S (ptP d g) = 0) (hK : ∀ S', S' < 2 ^ dg d → nd (itP d g (i + 1)) S' = 0 → nd S' (ptP d g) = 0 → Ok (K (nI S') (x3 + nI 1)) P) : Ok (f_X5_partOf_17 p z x3 K gF (nI S) (nI 0)) P := by
  have v1 := v.1
  have hp : 2 ^ dg d ≤ 2 ^ 7 := Nat.pow_le_pow_right (by omega) v1
  unfold f_X5_partOf_17
  refine gforI0 (fun k s => s.2 = nI k ∧ ∃ T, s.1 = nI T ∧ T < 2 ^ dg d ∧ nd S T = 0 ∧ nd T (ptP d g) = 0 ∧ ∀ x, x < k → (∃ b, b < dg d ∧ S.testBit b = true ∧ shB d x b = true) → T.testBit x = true) (e := dg d) (by omega) ⟨rfl, S, rfl, hS, nd_0.mpr (fun _ q => q), h2, fun x hx => by omega⟩ (fun k rec s hk hi hr => ?_) (fun rec s hi => ?_)
  · obtain ⟨x2, x4⟩ := s
    obtain ⟨g1, T, g2, g3, g4, g5, g6⟩ := hi
    dsimp only at g1 g2
    subst g1
    subst g2
    show Ok (f_X5_partOf_17_b p z x3 K (fun x2 x4 => rec (x2, x4)) (nI T) (nI k)) P
    unfold f_X5_partOf_17_b
    rw [h.1, if_neg (nI_ge hk (by omega)), x_sharesWithin h v hk g3, q_gb, q_ifb, q_sh1 (by omega), q_or, q_gl, nI_add]
    cases c : (List.range' 0 (dg d)).any (fun b => T.testBit b && shB d k b)
    · rw [if_neg (by decide)]
      refine hr _ ⟨rfl, T, rfl, g3, g4, g5, fun x hx hb => ?_⟩
      by_cases q : x = k
      · exfalso
        subst q
        obtain ⟨b, b1, b2, b3⟩ := hb
        have : (List.range' 0 (dg d)).any (fun b => T.testBit b && shB d x b) = true := by
          rw [List.any_eq_true]
          refine ⟨b, by rw [List.mem_range'_1]; omega, ?_⟩
          rw [nd_0.mp g4 b b2, b3]
          rfl
        rw [c] at this
        cases this
      · exact g6 x (by omega) hb
    · rw [if_pos rfl]
      obtain ⟨b, b1, b2⟩ := List.any_eq_true.mp c
      rw [Bool.and_eq_true] at b2
      have hb := (List.mem_range'_1.mp b1).2
      refine hr _ ⟨rfl, T ||| 2 ^ k, rfl, Nat.or_lt_two_pow g3 (Nat.pow_lt_pow_right (by omega) hk), ?_, ?_, fun x hx hb => ?_⟩
      · rw [nd_0] at g4 ⊢
        intro x hx
        rw [bt_or, g4 x hx]
        rfl
      · rw [nd_0] at g5 ⊢
        intro x hx
        rw [bt_or, Bool.or_eq_true] at hx
        rcases hx with hx | hx
        · exact g5 x hx
        · simp at hx
          subst hx
          rw [← pt_st v1 hg, nxP_bit]
          exact Or.inr ⟨hk, b, by omega, g5 b b2.1, b2.2⟩
      · rw [bt_or]
        by_cases q : x = k
        · subst q; simp
        · rw [g6 x (by omega) hb]; rfl
  · obtain ⟨x2, x4⟩ := s
    obtain ⟨g1, T, g2, g3, g4, g5, g6⟩ := hi
    dsimp only at g1 g2
    subst g1
    subst g2
    show Ok (f_X5_partOf_17_b p z x3 K (fun x2 x4 => rec (x2, x4)) (nI T) (nI (dg d))) P
    unfold f_X5_partOf_17_b
    rw [h.1, if_pos (nI_le (Nat.le_refl _) (by omega))]
    refine hK T g3 ?_ g5
    rw [nd_0]
    intro x hx
    have hx : (nxP d (itP d g i)).testBit x = true := hx
    rw [nxP_bit] at hx
    rcases hx with hx | ⟨x1, b, b1, b2, b3⟩
    · exact nd_0.mp g4 x (nd_0.mp h1 x hx)
    · exact g6 x x1 ⟨b, b1, nd_0.mp h1 b b2, b3⟩
theorem nd_anti {a b : Nat} (h1 : nd a b = 0) (h2 : nd b a = 0) : a = b := by
  apply Nat.eq_of_testBit_eq
  intro i
  apply bool_ext
  exact ⟨nd_0.mp h1 i, nd_0.mp h2 i⟩
theorem it_sub {d : Dat} {g : Nat} : ∀ j i, nd (itP d g i) (itP d g (i + j)) = 0
  | 0, i => nd_0.mpr (fun _ q => q)
  | j + 1, i => by
    rw [nd_0]
    intro x hx
    exact nd_0.mp nx_sub x (nd_0.mp (it_sub j i) x hx)
theorem x_partOf {z : gS} {p : Nat} {d : Dat} (h : SX z p d) (v : VD d) {g : Nat} (hg : g < dg d) : f_X5_partOf p (nI g) z = some (nI (ptP d g)) := by
  have v1 := v.1
  have hp : 2 ^ dg d ≤ 2 ^ 7 := Nat.pow_le_pow_right (by omega) v1
  have key : Ok (f_X5_partOf_6 p z gF (nI (2 ^ g)) (nI 0)) (fun x => x = nI (ptP d g)) := by
    unfold f_X5_partOf_6
    refine gforI0 (fun k s => s.2 = nI k ∧ ∃ S, s.1 = nI S ∧ S < 2 ^ dg d ∧ nd (itP d g k) S = 0 ∧ nd S (ptP d g) = 0) (e := dg d) (by omega) ⟨rfl, 2 ^ g, rfl, itP_lt hg 0, nd_0.mpr (fun _ q => q), ?_⟩ (fun k rec s hk hi hr => ?_) (fun rec s hi => ?_)
    · have := it_sub (d := d) (g := g) (dg d) 0
      rw [Nat.zero_add] at this
      exact this
    · obtain ⟨x2, x3⟩ := s
      obtain ⟨g1, S, g2, g3, g4, g5⟩ := hi
      dsimp only at g1 g2
      subst g1
      subst g2
      show Ok (f_X5_partOf_6_b p z (fun x2 x3 => rec (x2, x3)) (nI S) (nI k)) _
      unfold f_X5_partOf_6_b
      rw [h.1, if_neg (nI_ge hk (by omega))]
      refine x_partOf_17 h v hg g3 g4 g5 (fun S' q1 q2 q3 => ?_)
      rw [nI_add]
      exact hr _ ⟨rfl, S', rfl, q1, q2, q3⟩
    · obtain ⟨x2, x3⟩ := s
      obtain ⟨g1, S, g2, g3, g4, g5⟩ := hi
      dsimp only at g1 g2
      subst g1
      subst g2
      show Ok (f_X5_partOf_6_b p z (fun x2 x3 => rec (x2, x3)) (nI S) (nI (dg d))) _
      unfold f_X5_partOf_6_b
      rw [h.1, if_pos (nI_le (Nat.le_refl _) (by omega))]
      exact Ok.i (by rw [nd_anti g5 g4])
  unfold f_X5_partOf
  rw [q_sh1 (by omega), q_gl]
  obtain ⟨x, h1, rfl⟩ := key
  exact h1
def ptF (d : Dat) : Nat → Nat × Nat
  | 0 => (0, 0)
  | k + 1 => if (ptF d k).1.testBit k then ptF d k else ((ptF d k).1 ||| ptP d k, (ptF d k).2 + 1)
theorem ptF_lt {d : Dat} : ∀ k, k ≤ dg d → (ptF d k).1 < 2 ^ dg d
  | 0, _ => Nat.two_pow_pos _
  | k + 1, h => by
    have := ptF_lt (d := d) k (by omega)
    unfold ptF
    split
    · exact this
    · exact Nat.or_lt_two_pow this (itP_lt (by omega) _)
theorem x_parts {z : gS} {p : Nat} {d : Dat} (h : SX z p d) (v : VD d) : f_X5_parts p z = some (nI (ptF d (dg d)).2) := by
  have v1 := v.1
  have hp : 2 ^ dg d ≤ 2 ^ 7 := Nat.pow_le_pow_right (by omega) v1
  unfold f_X5_parts f_X5_parts_6
  refine gfor0 (fun k => (nI (ptF d k).1, nI (ptF d k).2, nI k)) (e := dg d) (by omega) (fun k rec hk => ?_) (fun rec => ?_)
  · have hl := ptF_lt k (Nat.le_of_lt hk)
    show f_X5_parts_6_b p z (fun x1 x2 x3 => rec (x1, x2, x3)) (nI (ptF d k).1) (nI (ptF d k).2) (nI k) = rec (nI (ptF d (k + 1)).1, nI (ptF d (k + 1)).2, nI (k + 1))
    unfold f_X5_parts_6_b
    rw [h.1, if_neg (nI_ge hk (by omega)), q_bit (by omega) (by omega), q_ifb, x_partOf h v hk, q_gb, q_or, q_gl, nI_add, nI_add]
    conv => rhs; unfold ptF
    cases (ptF d k).1.testBit k <;> rfl
  · show f_X5_parts_6_b p z (fun x1 x2 x3 => rec (x1, x2, x3)) (nI (ptF d (dg d)).1) (nI (ptF d (dg d)).2) (nI (dg d)) = _
    unfold f_X5_parts_6_b
    rw [h.1, if_pos (nI_le (Nat.le_refl _) (by omega))]
theorem m_parts {w : gS} {d : Dat} (h : SM w d) (v : VD d) : f_X11_parts w = some (nI (ptF d (dg d)).2) := by
  have v1 := v.1
  have hp : 2 ^ dg d ≤ 2 ^ 7 := Nat.pow_le_pow_right (by omega) v1
  unfold f_X11_parts f_X11_parts_6
  refine gfor0 (fun k => (nI (ptF d k).1, nI (ptF d k).2, nI k)) (e := dg d) (by omega) (fun k rec hk => ?_) (fun rec => ?_)
  · have hl := ptF_lt k (Nat.le_of_lt hk)
    show f_X11_parts_6_b w (fun x1 x2 x3 => rec (x1, x2, x3)) (nI (ptF d k).1) (nI (ptF d k).2) (nI k) = rec (nI (ptF d (k + 1)).1, nI (ptF d (k + 1)).2, nI (k + 1))
    unfold f_X11_parts_6_b
    rw [h.1, if_neg (nI_ge hk (by omega)), m_has (by omega) (by omega), q_gb, q_ifb, m_partOf h v hk, q_gb, q_or, q_gl, nI_add, nI_add]
    conv => rhs; unfold ptF
    cases (ptF d k).1.testBit k <;> rfl
  · show f_X11_parts_6_b w (fun x1 x2 x3 => rec (x1, x2, x3)) (nI (ptF d (dg d)).1) (nI (ptF d (dg d)).2) (nI (dg d)) = _
    unfold f_X11_parts_6_b
    rw [h.1, if_pos (nI_le (Nat.le_refl _) (by omega))]
