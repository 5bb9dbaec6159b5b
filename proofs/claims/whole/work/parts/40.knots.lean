/-! knots: how many at most -/
def crs (a b : Nat) : Prop := a &&& b ≠ 0 ∧ nd a b ≠ 0 ∧ nd b a ≠ 0
theorem nd_ne {a b : Nat} : nd a b ≠ 0 ↔ ∃ i, a.testBit i = true ∧ b.testBit i = false := by
  constructor
  · intro h
    apply Classical.byContradiction
    intro hc
    apply h
    rw [nd_0]
    intro i hi
    cases e : b.testBit i
    · exact absurd ⟨i, hi, e⟩ hc
    · rfl
  · rintro ⟨i, h1, h2⟩ h
    have := nd_0.mp h i h1
    rw [h2] at this
    cases this
theorem cntB_add (P : Nat → Bool) (a : Nat) : ∀ b, cntB P (a + b) = cntB P a + cntB (fun i => P (a + i)) b
  | 0 => rfl
  | b + 1 => by
    show cntB P (a + b) + (P (a + b)).toNat = cntB P a + (cntB (fun i => P (a + i)) b + (P (a + b)).toNat)
    rw [cntB_add P a b]
    omega
theorem cntB_one {P : Nat → Bool} : ∀ {n : Nat}, (∀ i j, i < n → j < n → P i = true → P j = true → i = j) → cntB P n ≤ 1 := by
  intro n
  induction n with
  | zero => intro _; exact Nat.zero_le _
  | succ n ih =>
    intro h
    show cntB P n + (P n).toNat ≤ 1
    cases e : P n
    · have := ih (fun i j hi hj => h i j (by omega) (by omega))
      simpa using this
    · have h0 : cntB P n = 0 := by
        have : ∀ k, k ≤ n → cntB P k = 0 := fun k => by
          induction k with
          | zero => intro _; rfl
          | succ k ihk =>
            intro hk
            show cntB P k + (P k).toNat = 0
            rw [ihk (by omega)]
            cases e2 : P k
            · rfl
            · have := h k n (by omega) (by omega) e2 e
              omega
        exact this n (Nat.le_refl _)
      rw [h0]
      decide
theorem cntB_or3 {P Q R : Nat → Bool} {x : Nat} : ∀ n, (∀ i, i < n → (P i).toNat ≤ (Q i).toNat + (R i).toNat) → cntB P n ≤ cntB Q n + cntB R n
  | 0, _ => Nat.le_refl _
  | n + 1, h => by
    show cntB P n + (P n).toNat ≤ (cntB Q n + (Q n).toNat) + (cntB R n + (R n).toNat)
    have h1 := cntB_or3 (P := P) (Q := Q) (R := R) (x := x) n (fun i hi => h i (by omega))
    have h2 := h n (by omega)
    omega
theorem hi_b {k S i : Nat} (hS : S < 2 ^ k) : (2 ^ k + S).testBit i = if i < k then S.testBit i else decide (i = k) := by
  by_cases c : i < k
  · rw [if_pos c, Nat.testBit_two_pow_add_gt c]
  · rw [if_neg c]
    by_cases e : i = k
    · subst e
      rw [Nat.testBit_two_pow_add_eq, bit_hi hS (Nat.le_refl _)]
      simp
    · have : 2 ^ k + S < 2 ^ i := by
        have h1 : 2 ^ (k + 1) ≤ 2 ^ i := Nat.pow_le_pow_right (by omega) (by omega)
        rw [Nat.pow_succ] at h1
        omega
      rw [Nat.testBit_lt_two_pow this, decide_eq_false e]
theorem lam : ∀ (k : Nat) (P : Nat → Bool), P 0 = false → (∀ A B, A < 2 ^ k → B < 2 ^ k → P A = true → P B = true → ¬ crs A B) → cntB P (2 ^ k) ≤ 2 * k - 1
  | 0, P, h0, _ => by
    show 0 + (P 0).toNat ≤ 0
    rw [h0]
    decide
  | k + 1, P, h0, hl => by
    have hpow : 2 ^ (k + 1) = 2 ^ k + 2 ^ k := by rw [Nat.pow_succ]; omega
    have hpos : 0 < 2 ^ k := Nat.two_pow_pos k
    have hp0 : cntB P (2 ^ (k + 1)) = cntB P (2 ^ k) + cntB (fun S => P (2 ^ k + S)) (2 ^ k) := by rw [hpow, cntB_add]
    have hsum : ∀ n, n ≤ 2 ^ k → cntB P n + cntB (fun S => P (2 ^ k + S)) n ≤ cntB (fun S => !decide (S = 0) && (P S || P (2 ^ k + S))) n + cntB (fun S => !decide (S = 0) && (P S && P (2 ^ k + S))) n + cntB (fun S => decide (S = 0)) n := fun n => by
      induction n with
      | zero => intro _; exact Nat.le_refl _
      | succ n ih =>
        intro hn
        have := ih (by omega)
        show cntB P n + (P n).toNat + (cntB _ n + (P (2 ^ k + n)).toNat) ≤ (cntB _ n + (!decide (n = 0) && (P n || P (2 ^ k + n))).toNat) + (cntB _ n + (!decide (n = 0) && (P n && P (2 ^ k + n))).toNat) + (cntB _ n + (decide (n = 0)).toNat)
        have h3 : (P n).toNat + (P (2 ^ k + n)).toNat ≤ (!decide (n = 0) && (P n || P (2 ^ k + n))).toNat + (!decide (n = 0) && (P n && P (2 ^ k + n))).toNat + (decide (n = 0)).toNat := by
          by_cases e : n = 0
          · subst e
            rw [h0]
            cases P (2 ^ k + 0) <;> decide
          · rw [decide_eq_false e]
            cases P n <;> cases P (2 ^ k + n) <;> decide
        omega
    have h1 := hsum (2 ^ k) (Nat.le_refl _)
    have h2 : cntB (fun S => decide (S = 0)) (2 ^ k) ≤ 1 := cntB_one (fun i j _ _ hi hj => by simp at hi hj; omega)
    have hbits : ∀ {S i}, S < 2 ^ k → S.testBit i = true → i < k := fun {S i} hS hi => by
      apply Nat.lt_of_not_le
      intro q
      rw [bit_hi hS q] at hi
      cases hi
    have h3 : cntB (fun S => !decide (S = 0) && (P S && P (2 ^ k + S))) (2 ^ k) ≤ 1 := by
      refine cntB_one (fun S T hS hT h4 h5 => ?_)
      simp only [Bool.and_eq_true, Bool.not_eq_true', decide_eq_false_iff_not] at h4 h5
      have main : ∀ S T, S < 2 ^ k → T < 2 ^ k → S ≠ 0 → P (2 ^ k + S) = true → P T = true → nd (2 ^ k + S) (2 ^ k + T) = 0 → S = T := fun S T hS hT hS0 q1 q2 q3 => by
        apply Classical.byContradiction
        intro hne
        have hsub : ∀ i, S.testBit i = true → T.testBit i = true := fun i hi => by
          have hik := hbits hS hi
          have := nd_0.mp q3 i (by rw [hi_b hS, if_pos hik]; exact hi)
          rw [hi_b hT, if_pos hik] at this
          exact this
        have hex : ∃ i, T.testBit i = true ∧ S.testBit i = false := by
          apply Classical.byContradiction
          intro hc
          apply hne
          apply Nat.eq_of_testBit_eq
          intro i
          apply bool_ext
          refine ⟨hsub i, fun q => ?_⟩
          cases e : S.testBit i
          · exact absurd ⟨i, q, e⟩ hc
          · rfl
        obtain ⟨i, i1, i2⟩ := hex
        have hj : ∃ j, S.testBit j = true := by
          apply Classical.byContradiction
          intro hc
          apply hS0
          apply Nat.eq_of_testBit_eq
          intro j
          rw [Nat.zero_testBit]
          cases e : S.testBit j
          · rfl
          · exact absurd ⟨j, e⟩ hc
        obtain ⟨j, hj⟩ := hj
        have hjk := hbits hS hj
        refine hl (2 ^ k + S) T (by omega) (by omega) q1 q2 ⟨?_, ?_, ?_⟩
        · rw [and_ne]
          exact ⟨j, by rw [hi_b hS, if_pos hjk]; exact hj, hsub j hj⟩
        · rw [nd_ne]
          refine ⟨k, by rw [hi_b hS, if_neg (by omega)]; simp, bit_hi hT (Nat.le_refl _)⟩
        · rw [nd_ne]
          have hik := hbits hT i1
          exact ⟨i, i1, by rw [hi_b hS, if_pos hik]; exact i2⟩
      have hx := hl (2 ^ k + S) (2 ^ k + T) (by omega) (by omega) h4.2.2 h5.2.2
      have hint : (2 ^ k + S) &&& (2 ^ k + T) ≠ 0 := by
        rw [and_ne]
        exact ⟨k, by rw [hi_b hS, if_neg (by omega)]; simp, by rw [hi_b hT, if_neg (by omega)]; simp⟩
      by_cases e1 : nd (2 ^ k + S) (2 ^ k + T) = 0
      · exact main S T hS hT h4.1 h4.2.2 h5.2.1 e1
      · by_cases e2 : nd (2 ^ k + T) (2 ^ k + S) = 0
        · exact (main T S hT hS h5.1 h5.2.2 h4.2.1 e2).symm
        · exact absurd ⟨hint, e1, e2⟩ hx
    have h4 := lam k (fun S => !decide (S = 0) && (P S || P (2 ^ k + S))) (by simp) (fun A B hA hB q1 q2 q3 => by
      simp only [Bool.and_eq_true, Bool.or_eq_true] at q1 q2
      obtain ⟨c1, c2, c3⟩ := q3
      rw [and_ne] at c1
      rw [nd_ne] at c2 c3
      obtain ⟨i1, a1, b1⟩ := c1
      obtain ⟨i2, a2, b2⟩ := c2
      obtain ⟨i3, a3, b3⟩ := c3
      have k1 := hbits hA a1
      have k2 := hbits hA a2
      have k3 := hbits hB a3
      have eA : ∃ A', A' < 2 ^ (k + 1) ∧ P A' = true ∧ ∀ i, i < k → A'.testBit i = A.testBit i := by
        rcases q1.2 with q | q
        · exact ⟨A, by omega, q, fun _ _ => rfl⟩
        · exact ⟨2 ^ k + A, by omega, q, fun i hi => by rw [hi_b hA, if_pos hi]⟩
      have eB : ∃ B', B' < 2 ^ (k + 1) ∧ P B' = true ∧ ∀ i, i < k → B'.testBit i = B.testBit i := by
        rcases q2.2 with q | q
        · exact ⟨B, by omega, q, fun _ _ => rfl⟩
        · exact ⟨2 ^ k + B, by omega, q, fun i hi => by rw [hi_b hB, if_pos hi]⟩
      obtain ⟨A', x1, x2, x3⟩ := eA
      obtain ⟨B', y1, y2, y3⟩ := eB
      refine hl A' B' x1 y1 x2 y2 ⟨?_, ?_, ?_⟩
      · rw [and_ne]; exact ⟨i1, by rw [x3 i1 k1]; exact a1, by rw [y3 i1 k1]; exact b1⟩
      · rw [nd_ne]; exact ⟨i2, by rw [x3 i2 k2]; exact a2, by rw [y3 i2 k2]; exact b2⟩
      · rw [nd_ne]; exact ⟨i3, by rw [y3 i3 k3]; exact a3, by rw [x3 i3 k3]; exact b3⟩)
    rw [hp0]
    by_cases ek : k = 0
    · subst ek
      have e1 : cntB P (2 ^ 0) = (P 0).toNat := by show 0 + _ = _; rw [Nat.zero_add]
      have e2 : cntB (fun S => P (2 ^ 0 + S)) (2 ^ 0) = (P 1).toNat := by show 0 + _ = _; rw [Nat.zero_add]
      rw [e1, e2, h0]
      cases P 1 <;> decide
    · omega
def kn (n : Nat) (c : Nat → Bool) (S : Nat) : Bool := c S && (List.range' 1 (2 ^ n - 1)).all (fun o => !(c o && decide (S &&& o ≠ 0) && decide (nd S o ≠ 0) && decide (nd o S ≠ 0)))
theorem kn_lam {n : Nat} {c : Nat → Bool} {A B : Nat} (hB : B < 2 ^ n) (hA : kn n c A = true) (hB2 : kn n c B = true) : ¬ crs A B := by
  rintro ⟨h1, h2, h3⟩
  unfold kn at hA hB2
  rw [Bool.and_eq_true, List.all_eq_true] at hA hB2
  have hB0 : B ≠ 0 := fun q => h1 (by rw [q, Nat.and_zero])
  have := hA.2 B (List.mem_range'_1.mpr (by omega))
  rw [hB2.1] at this
  simp [h1, h2, h3] at this
def kP (n : Nat) (c : Nat → Bool) (s S : Nat) : Bool := decide (pop S = s) && kn n c S
def kLs (n : Nat) (c : Nat → Bool) (s : Nat) : List Nat := (List.range' 1 (2 ^ n - 1)).filter (kP n c s)
def kL (n : Nat) (c : Nat → Bool) : List Nat := (List.range' 1 7).flatMap (kLs n c)
theorem cntB_fl (P : Nat → Bool) : ∀ k, ((List.range k).filter P).length = cntB P k
  | 0 => rfl
  | k + 1 => by
    rw [List.range_succ, List.filter_append, List.length_append, cntB_fl P k, List.filter_cons]
    show cntB P k + _ = cntB P k + _
    cases P k <;> rfl
theorem kLs_nd {n s : Nat} {c : Nat → Bool} : (kLs n c s).Nodup := List.Pairwise.filter _ List.nodup_range'
theorem kLs_m {n s S : Nat} {c : Nat → Bool} : S ∈ kLs n c s ↔ (1 ≤ S ∧ S < 2 ^ n) ∧ pop S = s ∧ kn n c S = true := by
  have := Nat.two_pow_pos n
  unfold kLs kP
  rw [List.mem_filter, List.mem_range'_1, Bool.and_eq_true, decide_eq_true_eq]
  constructor
  · rintro ⟨h1, h2⟩; exact ⟨by omega, h2⟩
  · rintro ⟨h1, h2⟩; exact ⟨by omega, h2⟩
theorem kL_nd {n : Nat} {c : Nat → Bool} : (kL n c).Nodup := by
  unfold kL
  show List.Pairwise _ _
  rw [List.pairwise_flatMap]
  refine ⟨fun s _ => kLs_nd, ?_⟩
  refine (List.nodup_range' (s := 1) (n := 7) (step := 1)).imp (fun {s t} hst x hx y hy e => ?_)
  rw [kLs_m] at hx hy
  exact hst (by rw [← hx.2.1, ← hy.2.1, e])
theorem kL_len {n : Nat} {c : Nat → Bool} (hn : n ≤ 7) : (kL n c).length ≤ 13 := by
  have h1 : (kL n c).length ≤ ((List.range (2 ^ n)).filter (fun S => !decide (S = 0) && kn n c S)).length := by
    refine List.Nodup.length_le_of_subset kL_nd (fun S hS => ?_)
    obtain ⟨s, _, hs⟩ := List.mem_flatMap.mp hS
    rw [kLs_m] at hs
    refine List.mem_filter.mpr ⟨List.mem_range.mpr hs.1.2, ?_⟩
    rw [hs.2.2]
    simp
    omega
  rw [cntB_fl] at h1
  have h2 := lam n (fun S => !decide (S = 0) && kn n c S) (by simp) (fun A B _ hB q1 q2 => by
    simp only [Bool.and_eq_true] at q1 q2
    exact kn_lam hB q1.2 q2.2)
  omega
theorem pop_le_n : ∀ n, n < 8 → ∀ S, S < 2 ^ n → pop S ≤ n := by decide +kernel
theorem kLs_hi {n s : Nat} {c : Nat → Bool} (hn : n ≤ 7) (hs : n < s) : kLs n c s = [] := by
  unfold kLs
  rw [List.filter_eq_nil_iff]
  intro S hS q
  have hS2 := List.mem_range'_1.mp hS
  have := pop_le_n n (by omega) S (by omega)
  unfold kP at q
  simp at q
  omega
theorem kL_n {n : Nat} {c : Nat → Bool} (hn : n ≤ 7) : kL n c = (List.range' 1 n).flatMap (kLs n c) := by
  have h : List.range' 1 7 = List.range' 1 n ++ List.range' (1 + n) (7 - n) := by
    rw [List.range'_append_1]
    congr 1
    omega
  unfold kL
  rw [h, List.flatMap_append]
  have : (List.range' (1 + n) (7 - n)).flatMap (kLs n c) = [] := by
    rw [List.flatMap_eq_nil_iff]
    intro s hs
    exact kLs_hi hn (by have := List.mem_range'_1.mp hs; omega)
  rw [this, List.append_nil]
theorem kL_pre {n s t : Nat} {c : Nat → Bool} (hn : n ≤ 7) (hs : s < 7) (ht : t ≤ 2 ^ n - 1) : ((List.range' 1 s).flatMap (kLs n c)).length + ((List.range' 1 t).filter (kP n c (s + 1))).length ≤ 13 := by
  have h1 := kL_len (c := c) hn
  have h : List.range' 1 7 = List.range' 1 s ++ ((s + 1) :: List.range' (s + 2) (6 - s)) := by
    have : List.range' (1 + s) (7 - s) = (s + 1) :: List.range' (s + 2) (6 - s) := by
      rw [show 7 - s = (6 - s) + 1 by omega, List.range'_succ]
      congr 1
      · omega
      · congr 1; omega
    rw [← this, List.range'_append_1]
    congr 1
    omega
  unfold kL at h1
  rw [h, List.flatMap_append, List.flatMap_cons, List.length_append, List.length_append] at h1
  have h2 : ((List.range' 1 t).filter (kP n c (s + 1))).length ≤ (kLs n c (s + 1)).length := by
    unfold kLs
    have : List.range' 1 (2 ^ n - 1) = List.range' 1 t ++ List.range' (1 + t) (2 ^ n - 1 - t) := by
      rw [List.range'_append_1]
      congr 1
      omega
    rw [this, List.filter_append, List.length_append]
    omega
  omega
/-! both find the knots -/
theorem x_isKnot {z : gS} {p n S : Nat} {c : Nat → Bool} (hn : n ≤ 7) (h : CT z p (2 ^ n - 1) c) (hS : S ≤ 2 ^ n - 1) : f_X9_isKnot p (nI S) z = some (nI (kn n c S).toNat) := by
  have hf := full_lt hn
  have hpos := Nat.two_pow_pos n
  unfold f_X9_isKnot kn
  rw [q_gg (by omega) (by omega), nI_clamp (by omega), h.2 S hS, q_ifb]
  cases e : c S
  · rfl
  · rw [if_pos rfl, Bool.true_and]
    have key : ∀ j k m, k + j = 2 ^ n → 0 < k → j < m → f_X9_isKnot_13 p z (nI S) m (nI k) = some (nI ((List.range' k j).all (fun o => !(c o && decide (S &&& o ≠ 0) && decide (nd S o ≠ 0) && decide (nd o S ≠ 0)))).toNat) := by
      intro j
      induction j with
      | zero =>
        intro k m hk h0 hm
        obtain ⟨m, rfl⟩ : ∃ q, m = q + 1 := ⟨m - 1, by omega⟩
        show f_X9_isKnot_13_b p z (nI S) (fun x2 => f_X9_isKnot_13 p z (nI S) m x2) (nI k) = _
        unfold f_X9_isKnot_13_b
        rw [h.1, if_pos (nI_lt (by omega) (by omega))]
        rfl
      | succ j ih =>
        intro k m hk h0 hm
        obtain ⟨m, rfl⟩ : ∃ q, m = q + 1 := ⟨m - 1, by omega⟩
        have hl1 := and_lt (a := S) (b := k) (n := 128) (by omega)
        have hl2 := nd_le S k
        have hl3 := nd_le k S
        show f_X9_isKnot_13_b p z (nI S) (fun x2 => f_X9_isKnot_13 p z (nI S) m x2) (nI k) = _
        unfold f_X9_isKnot_13_b
        rw [h.1, if_neg (nI_nlt (show k ≤ 2 ^ n - 1 by omega) (by omega)), q_gg (by omega) (by omega), nI_clamp (by omega), h.2 k (by omega), q_ifb, q_and, q_nd, q_nd, q_if0 (by omega), q_if0 (by omega), q_if0 (by omega), nI_add]
        dsimp only
        rw [ih (k + 1) m (by omega) (by omega) (by omega), List.range'_succ, List.all_cons]
        cases e2 : c k
        · simp
        · by_cases c1 : S &&& k = 0
          · simp [c1]
          · by_cases c2 : nd S k = 0
            · simp [c1, c2]
            · by_cases c3 : nd k S = 0
              · simp [c1, c2, c3]
              · simp [c1, c2, c3]
    exact key (2 ^ n - 1) 1 gF (by omega) (by omega) (q_gF (by omega))
theorem m_all {w : gS} {d : Dat} (h : SM w d) (v : VD d) : f_X11_all w = some (nI (2 ^ dg d - 1)) := by
  have v1 := v.1
  have hpos := Nat.two_pow_pos (dg d)
  unfold f_X11_all
  rw [h.1, q_sh1 (by omega), pk_sub (by omega)]
/-- the clusters stand in the reference's array -/
def CM (w : gS) (n : Nat) (c : Nat → Bool) : Prop := ∀ S, S ≤ 2 ^ n - 1 → f_X11_isCluster (nI S) w = some (nI (c S).toNat)
theorem m_isKnot {w : gS} {d : Dat} (hM : SM w d) (v : VD d) {S : Nat} {c : Nat → Bool} (h : CM w (dg d) c) (hS : S ≤ 2 ^ dg d - 1) : f_X11_isKnot (nI S) w = some (nI (kn (dg d) c S).toNat) := by
  have hn := v.1
  have hf := full_lt hn
  have hpos := Nat.two_pow_pos (dg d)
  unfold f_X11_isKnot kn
  rw [h S hS, q_gb, q_ifb]
  cases e : c S
  · rfl
  · rw [if_pos rfl, Bool.true_and]
    have key : ∀ j k m, k + j = 2 ^ dg d → 0 < k → j < m → f_X11_isKnot_12 w (nI S) m (nI k) = some (nI ((List.range' k j).all (fun o => !(c o && decide (S &&& o ≠ 0) && decide (nd S o ≠ 0) && decide (nd o S ≠ 0)))).toNat) := by
      intro j
      induction j with
      | zero =>
        intro k m hk h0 hm
        obtain ⟨m, rfl⟩ : ∃ q, m = q + 1 := ⟨m - 1, by omega⟩
        show f_X11_isKnot_12_b w (nI S) (fun x2 => f_X11_isKnot_12 w (nI S) m x2) (nI k) = _
        unfold f_X11_isKnot_12_b
        rw [m_all hM v, q_gb, if_pos (nI_lt (by omega) (by omega))]
        rfl
      | succ j ih =>
        intro k m hk h0 hm
        obtain ⟨m, rfl⟩ : ∃ q, m = q + 1 := ⟨m - 1, by omega⟩
        have hl1 := and_lt (a := k) (b := S) (n := 128) (by omega)
        have hl2 := nd_le S k
        have hl3 := nd_le k S
        show f_X11_isKnot_12_b w (nI S) (fun x2 => f_X11_isKnot_12 w (nI S) m x2) (nI k) = _
        unfold f_X11_isKnot_12_b
        rw [m_all hM v, q_gb, if_neg (nI_nlt (show k ≤ 2 ^ dg d - 1 by omega) (by omega)), h k (by omega), q_gb, q_ifb, q_and, q_nd, q_nd, q_if0 (by omega), q_if0 (by omega), q_if0 (by omega), nI_add]
        dsimp only
        rw [ih (k + 1) m (by omega) (by omega) (by omega), List.range'_succ, List.all_cons, Nat.and_comm k S]
        cases e2 : c k
        · simp
        · by_cases c1 : S &&& k = 0
          · simp [c1]
          · by_cases c2 : nd S k = 0
            · simp [c1, c2]
            · by_cases c3 : nd k S = 0
              · simp [c1, c2, c3]
              · simp [c1, c2, c3]
    exact key (2 ^ dg d - 1) 1 gF (by omega) (by omega) (q_gF (by omega))
