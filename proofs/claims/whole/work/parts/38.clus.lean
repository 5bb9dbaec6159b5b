/-! clusters, by the class -/
theorem and_ne {a b : Nat} : a &&& b ≠ 0 ↔ ∃ i, a.testBit i = true ∧ b.testBit i = true := by
  constructor
  · intro h
    apply Classical.byContradiction
    intro hc
    apply h
    apply Nat.eq_of_testBit_eq
    intro i
    rw [Nat.testBit_and, Nat.zero_testBit]
    cases e1 : a.testBit i
    · rfl
    · cases e2 : b.testBit i
      · rfl
      · exact absurd ⟨i, e1, e2⟩ hc
  · rintro ⟨i, h1, h2⟩ h
    have : (a &&& b).testBit i = true := by rw [Nat.testBit_and, h1, h2]; rfl
    rw [h, Nat.zero_testBit] at this
    cases this
def wkR (B : Nat → Nat → Bool) : List Nat → Nat → Prop
  | [], S => S = 0
  | g :: pre, S => ∃ A, wkR B pre A ∧ B A g = true ∧ A ||| 2 ^ g = S
/-- a set that stands ahead in one of the best orders -/
def rch (B : Nat → Nat → Bool) (S : Nat) : Prop := ∃ pre, wkR B pre S
theorem rch_0 {B : Nat → Nat → Bool} : rch B 0 := ⟨[], rfl⟩
theorem rch_s {B : Nat → Nat → Bool} {S : Nat} : rch B S ↔ S = 0 ∨ ∃ A g, rch B A ∧ B A g = true ∧ A ||| 2 ^ g = S := by
  constructor
  · rintro ⟨pre, h⟩
    cases pre with
    | nil => exact Or.inl h
    | cons g pre =>
      obtain ⟨A, h1, h2, h3⟩ := h
      exact Or.inr ⟨A, g, ⟨pre, h1⟩, h2, h3⟩
  · rintro (rfl | ⟨A, g, ⟨pre, h1⟩, h2, h3⟩)
    · exact rch_0
    · exact ⟨g :: pre, A, h1, h2, h3⟩
/-- a step parts a set that it passes by -/
def brkS (all A g S : Nat) : Prop := S &&& 2 ^ g = 0 ∧ S &&& A ≠ 0 ∧ S &&& nd (nd all A) (2 ^ g) ≠ 0
theorem bs_m {all : Nat} {mf : Nat → Nat → Bool} {tl : Nat → Nat → Nat} {b g : Nat} (h : bs all mf tl b g = true) : mf b g = true := by unfold bs at h; simp at h; exact h.1
theorem bs_e {all : Nat} {mf : Nat → Nat → Bool} {tl : Nat → Nat → Nat} {b g : Nat} (h : bs all mf tl b g = true) : tl b g + mnF (csts all mf tl (b ||| 2 ^ g)) = mnF (csts all mf tl b) := by unfold bs at h; simp at h; exact h.2
theorem bl_c {all : Nat} {mf : Nat → Nat → Bool} {tl : Nat → Nat → Nat} (hm : HM all mf) (ht : ∀ b g, tl b g ≤ 8) {b g : Nat} {l : List Nat} (hb : bs all mf tl b g = true) : g :: l ∈ bl all mf tl b ↔ l ∈ bl all mf tl (b ||| 2 ^ g) := by
  obtain ⟨h1, h2, h3⟩ := hm b g (bs_m hb)
  have hr := rm_s h2 h3 h1
  rw [bl_s hm ht (by omega), List.mem_flatMap]
  constructor
  · rintro ⟨k, _, hk⟩
    unfold sgB at hk
    split at hk
    · obtain ⟨t, ht, e⟩ := List.mem_map.mp hk
      cases e
      exact ht
    · cases hk
  · intro h
    refine ⟨g, List.mem_range.mpr h1, ?_⟩
    unfold sgB
    rw [if_pos hb]
    exact List.mem_map.mpr ⟨l, h, rfl⟩
theorem bl_h {all : Nat} {mf : Nat → Nat → Bool} {tl : Nat → Nat → Nat} (hm : HM all mf) (ht : ∀ b g, tl b g ≤ 8) {b g : Nat} {l : List Nat} (h : g :: l ∈ bl all mf tl b) : bs all mf tl b g = true := by
  have hlen := plm_len (bl_m h)
  rw [List.length_cons] at hlen
  rw [bl_s hm ht (by omega), List.mem_flatMap] at h
  obtain ⟨k, _, hk⟩ := h
  unfold sgB at hk
  split at hk
  · rename_i q
    obtain ⟨t, ht, e⟩ := List.mem_map.mp hk
    cases e
    exact q
  · cases hk
theorem wkR_bl {all : Nat} {mf : Nat → Nat → Bool} {tl : Nat → Nat → Nat} (hm : HM all mf) (ht : ∀ b g, tl b g ≤ 8) : ∀ (pre : List Nat) (A : Nat) (l : List Nat), wkR (bs all mf tl) pre A → l ∈ bl all mf tl A → pre.reverse ++ l ∈ bl all mf tl 0
  | [], A, l, h, hl => by
    have h : A = 0 := h
    subst h
    exact hl
  | g :: pre, A, l, h, hl => by
    obtain ⟨A', h1, h2, rfl⟩ := h
    have := wkR_bl hm ht pre A' (g :: l) h1 ((bl_c hm ht h2).mpr hl)
    rw [List.reverse_cons, List.append_assoc]
    exact this
theorem wkR_mem {B : Nat → Nat → Bool} : ∀ (pre : List Nat) (A x : Nat), wkR B pre A → (A.testBit x = true ↔ x ∈ pre)
  | [], A, x, h => by
    have h : A = 0 := h
    subst h
    simp
  | g :: pre, A, x, h => by
    obtain ⟨A', h1, _, rfl⟩ := h
    rw [bt_or, Bool.or_eq_true, wkR_mem pre A' x h1, List.mem_cons]
    simp
    constructor
    · rintro (h | h)
      · exact Or.inr h
      · exact Or.inl h.symm
    · rintro (h | h)
      · exact Or.inr h.symm
      · exact Or.inl h
theorem rch_z {all : Nat} {mf : Nat → Nat → Bool} {tl : Nat → Nat → Nat} (h0 : mnF (csts all mf tl 0) = 0) : ∀ (pre : List Nat) (A : Nat), wkR (bs all mf tl) pre A → mnF (csts all mf tl A) = 0
  | [], A, h => by
    have h : A = 0 := h
    subst h
    exact h0
  | g :: pre, A, h => by
    obtain ⟨A', h1, h2, rfl⟩ := h
    have i1 := rch_z h0 pre A' h1
    have i2 := bs_e h2
    omega
theorem bl_ne {all : Nat} {mf : Nat → Nat → Bool} {tl : Nat → Nat → Nat} (ht : ∀ b g, tl b g ≤ 8) {b : Nat} (h : mnF (csts all mf tl b) = 0) : ∃ l, l ∈ bl all mf tl b := by
  have h1 : csts all mf tl b ≠ [] := fun q => by rw [q] at h; cases h
  have h2 := mnF_in h1 (fun a ha => Nat.lt_trans (csts_lt ht a ha) (by omega))
  generalize hM : mnF (csts all mf tl b) = M at *
  obtain ⟨l, h3, h4⟩ := List.mem_map.mp h2
  refine ⟨l, List.mem_filter.mpr ⟨h3, ?_⟩⟩
  rw [hM]
  simpa using h4
theorem gpG_pos {h : Nat → Bool} {g : Nat} {r : List Nat} (hg : h g = false) (hr : r.any h = true) : ∀ (p : List Nat) (m : Bool), (m || p.any h) = true → gpG h (p ++ g :: r) m ≠ 0
  | [], m, hm => by
    have : m = true := by simpa using hm
    subst this
    show gpG h (g :: r) true ≠ 0
    rw [gpG_s, hg, if_neg (by decide), hr]
    show 1 + _ ≠ 0
    omega
  | a :: p, m, hm => by
    show gpG h (a :: (p ++ g :: r)) m ≠ 0
    rw [gpG_s]
    cases c : h a
    · rw [if_neg (by decide)]
      have := gpG_pos hg hr p m (by simpa [c] using hm)
      omega
    · rw [if_pos rfl]
      exact gpG_pos hg hr p true rfl
/-- a set is never parted just where it lies together in each of the best -/
theorem cl_iff {all : Nat} {st : Nat → Nat} (ha : all < 2 ^ 7) (h0 : mnF (csts all (mfP all none none) (tol all st) 0) = 0) {S : Nat} : (S ≠ 0 ∧ ∀ A g, rch (bs all (mfP all none none) (tol all st)) A → bs all (mfP all none none) (tol all st) A g = true → ¬ brkS all A g S) ↔ lie (bl all (mfP all none none) (tol all st) 0) S = true := by
  have hm := mfP_hm all none none
  have ht := tol_le all st
  unfold lie
  rw [Bool.and_eq_true, decide_eq_true_eq, List.all_eq_true]
  refine and_congr_right (fun hS => ?_)
  constructor
  · intro h l hl
    rw [decide_eq_true_eq]
    have key : ∀ (l : List Nat) (b : Nat) (m : Bool), l ∈ bl all (mfP all none none) (tol all st) b → nd b all = 0 → rch (bs all (mfP all none none) (tol all st)) b → (m = true ↔ S &&& b ≠ 0) → gpG (fun x => S.testBit x) l m = 0 := fun l => by
      induction l with
      | nil => intro b m _ _ _ _; rfl
      | cons g r ih =>
        intro b m hl hb hr hmm
        have hbs := bl_h hm ht hl
        have hl2 := (bl_c hm ht hbs).mp hl
        obtain ⟨q1, q2, q3⟩ := hm b g (bs_m hbs)
        have hsb := sub_or hb q2
        have hr2 : rch (bs all (mfP all none none) (tol all st)) (b ||| 2 ^ g) := rch_s.mpr (Or.inr ⟨b, g, hr, hbs, rfl⟩)
        have hn := h b g hr hbs
        rw [gpG_s]
        try dsimp only
        cases c : S.testBit g
        · rw [if_neg (show ¬ false = true by decide), ih (b ||| 2 ^ g) m hl2 hsb hr2 (by
            rw [hmm, and_ne, and_ne]
            constructor
            · rintro ⟨i, i1, i2⟩
              exact ⟨i, i1, by rw [bt_or, i2]; rfl⟩
            · rintro ⟨i, i1, i2⟩
              rw [bt_or, Bool.or_eq_true] at i2
              rcases i2 with i2 | i2
              · exact ⟨i, i1, i2⟩
              · simp at i2; subst i2; rw [c] at i1; cases i1)]
          cases e1 : m
          · rfl
          · cases e2 : r.any (fun x => S.testBit x)
            · rfl
            · exfalso
              apply hn
              refine ⟨by rw [and_2p, c]; rfl, hmm.mp e1, ?_⟩
              obtain ⟨x, x1, x2⟩ := List.any_eq_true.mp e2
              rw [plm_mem hm ha _ _ r rfl hsb (bl_m hl2), bt_or] at x1
              rw [and_ne]
              refine ⟨x, x2, ?_⟩
              rw [nd_bit, nd_bit, Nat.testBit_two_pow]
              revert x1
              cases all.testBit x <;> cases b.testBit x <;> simp
        · rw [if_pos rfl]
          refine ih (b ||| 2 ^ g) true hl2 hsb hr2 ⟨fun _ => ?_, fun _ => rfl⟩
          rw [and_ne]
          exact ⟨g, c, by rw [bt_or]; simp⟩
    exact key l 0 false hl nd0 rch_0 ⟨fun q => (by cases q), fun q => absurd (Nat.and_zero S) q⟩
  · intro h A g ⟨pre, hpre⟩ hbs hbrk
    obtain ⟨b1, b2, b3⟩ := hbrk
    obtain ⟨q1, q2, q3⟩ := hm A g (bs_m hbs)
    have hA0 := rch_z h0 pre A hpre
    have hA1 : mnF (csts all (mfP all none none) (tol all st) (A ||| 2 ^ g)) = 0 := by have := bs_e hbs; omega
    obtain ⟨r, hr⟩ := bl_ne ht hA1
    have hl := wkR_bl hm ht pre A (g :: r) hpre ((bl_c hm ht hbs).mpr hr)
    have := h _ hl
    rw [decide_eq_true_eq] at this
    have hA : nd A all = 0 := by
      rw [nd_0]
      intro i hi
      have hmem := plm_mem hm ha _ 0 _ rfl nd0 (bl_m hl) i
      rw [wkR_mem pre A i hpre] at hi
      exact (hmem.mp (by simp [hi])).1
    have hsb := sub_or hA q2
    refine gpG_pos (h := fun x => S.testBit x) ?_ ?_ pre.reverse false ?_ this
    · rw [and_2p] at b1
      cases c : S.testBit g
      · rfl
      · rw [c] at b1
        have := Nat.two_pow_pos g
        simp at b1
    · rw [and_ne] at b3
      obtain ⟨i, i1, i2⟩ := b3
      refine List.any_eq_true.mpr ⟨i, ?_, i1⟩
      rw [plm_mem hm ha _ _ r rfl hsb (bl_m hr), bt_or]
      rw [nd_bit, nd_bit, Nat.testBit_two_pow] at i2
      revert i2
      cases all.testBit i <;> cases A.testBit i <;> simp
    · rw [and_ne] at b2
      obtain ⟨i, i1, i2⟩ := b2
      rw [wkR_mem pre A i hpre] at i2
      rw [Bool.false_or]
      exact List.any_eq_true.mpr ⟨i, by simpa using i2, i1⟩
/-! the loops -/
def TV (x : Int32) (P : Prop) : Prop := (x = nI 1 ∧ P) ∨ (x = nI 0 ∧ ¬ P)
theorem TV.c {x : Int32} {P Q : Prop} (h : TV x P) (e : P ↔ Q) : TV x Q := by
  rcases h with ⟨h1, h2⟩ | ⟨h1, h2⟩
  · exact Or.inl ⟨h1, e.mp h2⟩
  · exact Or.inr ⟨h1, fun q => h2 (e.mpr q)⟩
theorem TV.b {x : Int32} {b : Bool} (h : TV x (b = true)) : x = nI b.toNat := by
  rcases h with ⟨h1, h2⟩ | ⟨h1, h2⟩
  · rw [h1, h2]; rfl
  · rw [Bool.not_eq_true] at h2; rw [h1, h2]; rfl
theorem x_partPassed {z : gS} {p all A g : Nat} (hall : all < 2 ^ 7) (h2 : z p 2 = nI all) (hA : A < 2 ^ 7) : Ok (f_X9_partPassed p (nI A) (nI (2 ^ g)) z) (fun z' => (∀ S, S ≤ all → (brkS all A g S → z' (p + 1) S = nI 0) ∧ (¬ brkS all A g S → z' (p + 1) S = z (p + 1) S)) ∧ ∀ a, a ≠ p + 1 → z' a = z a) := by
  unfold f_X9_partPassed
  rw [h2, q_nd, q_nd, q_gl]
  unfold f_X9_partPassed_16
  refine gforI0 (fun k s => s.1 = nI (k + 1) ∧ (∀ S, S ≤ all → (brkS all A g S → S ≤ k → s.2 (p + 1) S = nI 0) ∧ (¬ (brkS all A g S ∧ S ≤ k) → s.2 (p + 1) S = z (p + 1) S)) ∧ ∀ a, a ≠ p + 1 → s.2 a = z a) (e := all) (by omega) ⟨rfl, fun S hS => ⟨fun h1 h2 => ?_, fun _ => rfl⟩, fun _ _ => rfl⟩ (fun k rec s hk hi hr => ?_) (fun rec s hi => ?_)
  · have : S = 0 := by omega
    subst this
    exact absurd (Nat.zero_and A) h1.2.1
  · obtain ⟨x4, y⟩ := s
    obtain ⟨g1, g2, g3⟩ := hi
    dsimp only at g1 g2 g3
    subst g1
    show Ok (f_X9_partPassed_16_b p (nI A) (nI (2 ^ g)) (nI (nd (nd all A) (2 ^ g))) (fun x4 z => rec (x4, z)) (nI (k + 1)) y) _
    unfold f_X9_partPassed_16_b
    have hl1 := and_lt (a := k + 1) (b := 2 ^ g) (n := 128) (by omega)
    have hl2 := and_lt (a := k + 1) (b := A) (n := 128) (by omega)
    have hl3 := and_lt (a := k + 1) (b := nd (nd all A) (2 ^ g)) (n := 128) (by omega)
    rw [g3 p (by omega), h2, if_neg (nI_nlt (show k + 1 ≤ all by omega) (by omega)), q_and, q_and, q_and, q_if0 (by omega), q_if0 (by omega), q_if0 (by omega), nI_add]
    have hno : ¬ brkS all A g (k + 1) → Ok (rec (nI (k + 1 + 1), y)) (fun z' => (∀ S, S ≤ all → (brkS all A g S → z' (p + 1) S = nI 0) ∧ (¬ brkS all A g S → z' (p + 1) S = z (p + 1) S)) ∧ ∀ a, a ≠ p + 1 → z' a = z a) := fun hn => by
      refine hr _ ⟨rfl, fun S hS => ⟨fun q1 q2 => ?_, fun q => ?_⟩, g3⟩
      · have : S ≠ k + 1 := fun e => hn (by rw [← e]; exact q1)
        exact (g2 S hS).1 q1 (by omega)
      · exact (g2 S hS).2 (fun q3 => q ⟨q3.1, by omega⟩)
    by_cases c1 : (k + 1) &&& 2 ^ g = 0
    · rw [if_pos c1]
      by_cases c2 : (k + 1) &&& A = 0
      · rw [if_pos c2]
        exact hno (fun q => q.2.1 c2)
      · rw [if_neg c2]
        by_cases c3 : (k + 1) &&& nd (nd all A) (2 ^ g) = 0
        · rw [if_pos c3]
          exact hno (fun q => q.2.2 c3)
        · rw [if_neg c3, q_gg (by omega) (by omega), nI_clamp (by omega), q_gl]
          refine hr _ ⟨rfl, fun S hS => ⟨fun q1 q2 => ?_, fun q => ?_⟩, fun a qa => ?_⟩
          · dsimp only
            by_cases e : S = k + 1
            · rw [e, gup_s]
            · rw [gup_n (Or.inr e)]
              exact (g2 S hS).1 q1 (by omega)
          · dsimp only
            have e : S ≠ k + 1 := fun e => q ⟨by rw [e]; exact ⟨c1, c2, c3⟩, by omega⟩
            rw [gup_n (Or.inr e)]
            exact (g2 S hS).2 (fun q3 => q ⟨q3.1, by omega⟩)
          · dsimp only
            funext b
            rw [gup_n (Or.inl qa), g3 a qa]
    · rw [if_neg c1]
      exact hno (fun q => c1 q.1)
  · obtain ⟨x4, y⟩ := s
    obtain ⟨g1, g2, g3⟩ := hi
    dsimp only at g1 g2 g3
    subst g1
    show Ok (f_X9_partPassed_16_b p (nI A) (nI (2 ^ g)) (nI (nd (nd all A) (2 ^ g))) (fun x4 z => rec (x4, z)) (nI (all + 1)) y) _
    unfold f_X9_partPassed_16_b
    rw [g3 p (by omega), h2, if_pos (nI_lt (Nat.lt_succ_self _) (by omega))]
    exact Ok.i ⟨fun S hS => ⟨fun q => (g2 S hS).1 q hS, fun q => (g2 S hS).2 (fun q3 => q q3.1)⟩, g3⟩
def dnS (A g A' g' : Nat) : Prop := A' < A ∨ (A' = A ∧ g' < g)
/-- what is known when the steps ahead of (A, g) are gone through -/
def CI (z : gS) (p all : Nat) (B : Nat → Nat → Bool) (A g : Nat) : Prop := (∀ S, S ≤ all → TV (z (p + 1) S) (S ≠ 0 ∧ ∀ A' g', dnS A g A' g' → rch B A' → B A' g' = true → ¬ brkS all A' g' S)) ∧ (∀ S, S ≤ all → TV (z (p + 2) S) (S = 0 ∨ ∃ A' g', dnS A g A' g' ∧ rch B A' ∧ B A' g' = true ∧ A' ||| 2 ^ g' = S)) ∧ z p 2 = nI all
theorem CI.skip {z : gS} {p all : Nat} {B : Nat → Nat → Bool} {A g : Nat} (h : CI z p all B A g) (hn : ¬ (rch B A ∧ B A g = true)) : CI z p all B A (g + 1) := by
  have key : ∀ A' g', rch B A' → B A' g' = true → (dnS A (g + 1) A' g' ↔ dnS A g A' g') := fun A' g' h1 h2 => by
    unfold dnS
    constructor
    · rintro (q | ⟨rfl, q⟩)
      · exact Or.inl q
      · refine Or.inr ⟨rfl, ?_⟩
        have : g' ≠ g := fun e => hn (by rw [← e]; exact ⟨h1, h2⟩)
        omega
    · rintro (q | ⟨rfl, q⟩)
      · exact Or.inl q
      · exact Or.inr ⟨rfl, by omega⟩
  refine ⟨fun S hS => (h.1 S hS).c (and_congr_right (fun _ => ?_)), fun S hS => (h.2.1 S hS).c (or_congr_right ?_), h.2.2⟩
  · constructor
    · intro q A' g' h1 h2 h3
      exact q A' g' ((key A' g' h2 h3).mp h1) h2 h3
    · intro q A' g' h1 h2 h3
      exact q A' g' ((key A' g' h2 h3).mpr h1) h2 h3
  · constructor
    · rintro ⟨A', g', h1, h2, h3, h4⟩
      exact ⟨A', g', (key A' g' h2 h3).mpr h1, h2, h3, h4⟩
    · rintro ⟨A', g', h1, h2, h3, h4⟩
      exact ⟨A', g', (key A' g' h2 h3).mp h1, h2, h3, h4⟩
theorem CI.next {z : gS} {p all : Nat} {B : Nat → Nat → Bool} {A : Nat} (h : CI z p all B A 7) (hB : ∀ A g, B A g = true → g < 7) : CI z p all B (A + 1) 0 := by
  have key : ∀ A' g', B A' g' = true → (dnS (A + 1) 0 A' g' ↔ dnS A 7 A' g') := fun A' g' h2 => by
    have := hB A' g' h2
    unfold dnS
    omega
  refine ⟨fun S hS => (h.1 S hS).c (and_congr_right (fun _ => ?_)), fun S hS => (h.2.1 S hS).c (or_congr_right ?_), h.2.2⟩
  · constructor
    · intro q A' g' h1 h2 h3
      exact q A' g' ((key A' g' h3).mp h1) h2 h3
    · intro q A' g' h1 h2 h3
      exact q A' g' ((key A' g' h3).mpr h1) h2 h3
  · constructor
    · rintro ⟨A', g', h1, h2, h3, h4⟩
      exact ⟨A', g', (key A' g' h3).mpr h1, h2, h3, h4⟩
    · rintro ⟨A', g', h1, h2, h3, h4⟩
      exact ⟨A', g', (key A' g' h3).mp h1, h2, h3, h4⟩
/-- whether A is reached is known when its turn comes -/
theorem CI.rc {z : gS} {p all : Nat} {B : Nat → Nat → Bool} {A g : Nat} (h : CI z p all B A g) (hB : ∀ A g, B A g = true → A.testBit g = false) (hA : A ≤ all) : TV (z (p + 2) A) (rch B A) := by
  refine (h.2.1 A hA).c ?_
  rw [rch_s]
  refine or_congr_right ⟨?_, ?_⟩
  · rintro ⟨A', g', _, h2, h3, h4⟩
    exact ⟨A', g', h2, h3, h4⟩
  · rintro ⟨A', g', h2, h3, h4⟩
    have := or_gt (hB A' g' h3)
    exact ⟨A', g', Or.inl (by omega), h2, h3, h4⟩
