/-! texts: figures and letters on the tape -/
def runL (P : Nat → Bool) (a : Nat) : Nat → Nat
  | 0 => 0
  | f + 1 => if P a then runL P (a + 1) f + 1 else 0
theorem runL_s (P : Nat → Bool) (a f : Nat) : runL P a (f + 1) = if P a then runL P (a + 1) f + 1 else 0 := rfl
theorem runL_le (P : Nat → Bool) : ∀ f a, runL P a f ≤ f
  | 0, a => Nat.le_refl _
  | f + 1, a => by
    have := runL_le P f (a + 1)
    rw [runL_s]
    split <;> omega
theorem runL_t {P : Nat → Bool} : ∀ {f a i}, i < runL P a f → P (a + i) = true
  | 0, a, i, h => by
    have h : i < 0 := h
    omega
  | f + 1, a, i, h => by
    rw [runL_s] at h
    split at h
    · rename_i q
      cases i with
      | zero => exact q
      | succ i =>
        have := runL_t (P := P) (f := f) (a := a + 1) (i := i) (by omega)
        rw [show a + (i + 1) = a + 1 + i by omega]
        exact this
    · omega
theorem runL_f {P : Nat → Bool} : ∀ {f a}, runL P a f < f → P (a + runL P a f) = false
  | 0, a, h => by
    have h : runL P a 0 < 0 := h
    omega
  | f + 1, a, h => by
    rw [runL_s] at h ⊢
    by_cases q : P a = true
    · rw [if_pos q] at h ⊢
      have := runL_f (P := P) (f := f) (a := a + 1) (by omega)
      rw [show a + (runL P (a + 1) f + 1) = a + 1 + runL P (a + 1) f by omega]
      exact this
    · rw [if_neg q]
      simpa using q
def hI (n : Nat) (by_ : Nat → Nat) (a : Nat) : Int32 := if a < n then nI (by_ a) else gm1
def LTb (n : Nat) (by_ : Nat → Nat) (a : Nat) : Bool := decide (a < n) && (decide (97 ≤ by_ a) && decide (by_ a ≤ 122))
def DGb (n : Nat) (by_ : Nat → Nat) (a : Nat) : Bool := decide (a < n) && (decide (48 ≤ by_ a) && decide (by_ a ≤ 57))
def BT (n : Nat) (by_ : Nat → Nat) : Prop := n ≤ 100 ∧ ∀ i, i < n → by_ i < 128
/-- whether a byte stands at a place -/
def AT (n : Nat) (by_ : Nat → Nat) (a c : Nat) : Bool := decide (a < n) && decide (by_ a = c)
theorem hI_eq {n : Nat} {by_ : Nat → Nat} (hb : BT n by_) {a c : Nat} (hc : c < 128) {r : Sort _} {x y : r} : (if hI n by_ a = nI c then x else y) = if AT n by_ a c = true then x else y := by
  unfold hI AT
  by_cases e : a < n
  · have := hb.2 a e
    rw [if_pos e, decide_eq_true e, Bool.true_and, q_ifeq (by omega) (by omega)]
    by_cases q : by_ a = c
    · rw [if_pos q, if_pos (by simpa using q)]
    · rw [if_neg q, if_neg (by simpa using q)]
  · rw [if_neg e, decide_eq_false e, if_neg (fun q => nI_ne_m1 (by omega) q.symm), if_neg (by simp)]
def LVw (by_ : Nat → Nat) (a : Nat) : Nat → Nat
  | 0 => 0
  | k + 1 => 27 * LVw by_ a k + (by_ (a + k) - 96)
def NVw (by_ : Nat → Nat) (a : Nat) : Nat → Nat
  | 0 => 0
  | k + 1 => 10 * NVw by_ a k + (by_ (a + k) - 48)
def nlW (n : Nat) (by_ : Nat → Nat) (a : Nat) : Nat := runL (LTb n by_) a 6
def word (n : Nat) (by_ : Nat → Nat) (a : Nat) : Nat := LVw by_ a (nlW n by_ a) * 27 ^ (6 - nlW n by_ a)
theorem LT_t {n : Nat} {by_ : Nat → Nat} {a : Nat} (h : LTb n by_ a = true) : a < n ∧ 97 ≤ by_ a ∧ by_ a ≤ 122 := by
  unfold LTb at h
  simp only [Bool.and_eq_true, decide_eq_true_eq] at h
  exact ⟨h.1, h.2.1, h.2.2⟩
theorem DG_t {n : Nat} {by_ : Nat → Nat} {a : Nat} (h : DGb n by_ a = true) : a < n ∧ 48 ≤ by_ a ∧ by_ a ≤ 57 := by
  unfold DGb at h
  simp only [Bool.and_eq_true, decide_eq_true_eq] at h
  exact ⟨h.1, h.2.1, h.2.2⟩
theorem LVw_lt {n : Nat} {by_ : Nat → Nat} {a : Nat} : ∀ k, k ≤ nlW n by_ a → LVw by_ a k < 27 ^ k
  | 0, _ => by show (0 : Nat) < 1; omega
  | k + 1, h => by
    have h1 := LVw_lt (n := n) (by_ := by_) (a := a) k (by omega)
    obtain ⟨_, h2, h3⟩ := LT_t (runL_t (show k < runL (LTb n by_) a 6 by unfold nlW at h; omega))
    show 27 * LVw by_ a k + (by_ (a + k) - 96) < 27 ^ (k + 1)
    rw [Nat.pow_succ]
    omega
theorem LVw_pos {n : Nat} {by_ : Nat → Nat} {a : Nat} : ∀ k, 0 < k → k ≤ nlW n by_ a → 0 < LVw by_ a k
  | 0, h0, _ => by omega
  | k + 1, _, h => by
    obtain ⟨_, h2, h3⟩ := LT_t (runL_t (show k < runL (LTb n by_) a 6 by unfold nlW at h; omega))
    show 0 < 27 * LVw by_ a k + (by_ (a + k) - 96)
    omega
theorem nlW_le (n : Nat) (by_ : Nat → Nat) (a : Nat) : nlW n by_ a ≤ 6 := runL_le _ _ _
theorem word_lt {n : Nat} {by_ : Nat → Nat} {a : Nat} : word n by_ a < 387420489 := by
  have h1 := LVw_lt (n := n) (by_ := by_) (a := a) (nlW n by_ a) (Nat.le_refl _)
  have h2 := nlW_le n by_ a
  have h3 : LVw by_ a (nlW n by_ a) * 27 ^ (6 - nlW n by_ a) < 27 ^ (nlW n by_ a) * 27 ^ (6 - nlW n by_ a) := Nat.mul_lt_mul_of_pos_right h1 (Nat.pow_pos (by omega))
  rw [← Nat.pow_add, show nlW n by_ a + (6 - nlW n by_ a) = 6 by omega] at h3
  exact h3
theorem word_pos {n : Nat} {by_ : Nat → Nat} {a : Nat} (h : nlW n by_ a ≠ 0) : 0 < word n by_ a := Nat.mul_pos (LVw_pos _ (by omega) (Nat.le_refl _)) (Nat.pow_pos (by omega))
theorem NVw_lt {n f : Nat} {by_ : Nat → Nat} {a : Nat} : ∀ k, k ≤ runL (DGb n by_) a f → NVw by_ a k < 10 ^ k
  | 0, _ => by show (0 : Nat) < 1; omega
  | k + 1, h => by
    have h1 := NVw_lt (n := n) (f := f) (by_ := by_) (a := a) k (by omega)
    obtain ⟨_, h2, h3⟩ := DG_t (runL_t (show k < runL (DGb n by_) a f by omega))
    show 10 * NVw by_ a k + (by_ (a + k) - 48) < 10 ^ (k + 1)
    rw [Nat.pow_succ]
    omega
theorem run_n {n : Nat} {P : Nat → Bool} (hP : ∀ a, P a = true → a < n) {f a : Nat} (ha : a ≤ n) : a + runL P a f ≤ n := by
  by_cases e : runL P a f = 0
  · omega
  · have := hP _ (runL_t (show runL P a f - 1 < runL P a f by omega))
    omega
/-! the class's tape -/
def TP (z : gS) (n : Nat) (by_ : Nat → Nat) (a : Nat) : Prop := z 290 1 = nI n ∧ z 290 2 = nI a ∧ ∀ i, i < n → z 291 i = nI (by_ i)
theorem x_here {z : gS} {n a : Nat} {by_ : Nat → Nat} (h : TP z n by_ a) (hb : BT n by_) (ha : a ≤ 100) : f_X7_here 290 z = some (hI n by_ a) := by
  have h1 := hb.1
  unfold f_X7_here hI
  rw [h.2.1, h.1, q_iflt0 (by omega), q_ifle (by omega) (by omega)]
  by_cases e : a < n
  · rw [if_neg (by omega), if_pos e, q_gg (by omega) (by omega), nI_clamp (by omega), h.2.2 a e]
  · rw [if_pos (by omega), if_neg e]
theorem x_isLetter {z : gS} {n a : Nat} {by_ : Nat → Nat} (hb : BT n by_) : f_X7_isLetter (hI n by_ a) z = some (nI (LTb n by_ a).toNat) := by
  unfold f_X7_isLetter hI LTb
  by_cases e : a < n
  · have := hb.2 a e
    rw [if_pos e, decide_eq_true e, Bool.true_and, q_iflt (by omega) (by omega), q_iflt (by omega) (by omega)]
    by_cases c1 : by_ a < 97
    · rw [if_pos c1, decide_eq_false (by omega), Bool.false_and]; rfl
    · rw [if_neg c1, decide_eq_true (show 97 ≤ by_ a by omega), Bool.true_and]
      by_cases c2 : 122 < by_ a
      · rw [if_pos c2, decide_eq_false (by omega)]; rfl
      · rw [if_neg c2, decide_eq_true (show by_ a ≤ 122 by omega)]; rfl
  · rw [if_neg e, decide_eq_false e, Bool.false_and]
    exact if_pos (by decide)
theorem x_figures {z : gS} {n a m : Nat} {by_ : Nat → Nat} (h : TP z n by_ a) (hb : BT n by_) (ha : a ≤ n) (hm : m ≤ 3) : Ok (f_X7_figures 290 (nI m) z) (fun q => q.1 = nI (decide (0 < runL (DGb n by_) a m)).toNat ∧ TP q.2 n by_ (a + runL (DGb n by_) a m) ∧ q.2 290 3 = nI (NVw by_ a (runL (DGb n by_) a m)) ∧ ∀ p j, ¬ (p = 290 ∧ (j = 2 ∨ j = 3)) → q.2 p j = z p j) := by
  have hn := hb.1
  have hle := runL_le (DGb n by_) m a
  have hrn := run_n (n := n) (P := DGb n by_) (fun a q => (DG_t q).1) (f := m) ha
  have hT : TP (gup z 290 3 (nI 0)) n by_ a := ⟨by rw [gup_n (by omega)]; exact h.1, by rw [gup_n (by omega)]; exact h.2.1, fun i hi => by rw [gup_n (by omega)]; exact h.2.2 i hi⟩
  unfold f_X7_figures
  rw [h.2.1, q_gl, q_gl]
  unfold f_X7_figures_12
  refine gforI0 (fun k s => s.1 = nI k ∧ TP s.2 n by_ (a + k) ∧ s.2 290 3 = nI (NVw by_ a k) ∧ ∀ p j, ¬ (p = 290 ∧ (j = 2 ∨ j = 3)) → s.2 p j = z p j) (e := runL (DGb n by_) a m) (by omega) ⟨rfl, hT, (by show gup z 290 3 (nI 0) 290 3 = _; rw [gup_s]; rfl), fun p j q => gup_n (by omega)⟩ (fun k rec s hk hi hr => ?_) (fun rec s hi => ?_)
  · obtain ⟨x3, y⟩ := s
    obtain ⟨g1, g2, g3, g4⟩ := hi
    dsimp only at g1 g2 g3 g4
    subst g1
    obtain ⟨d1, d2, d3⟩ := DG_t (runL_t hk)
    show Ok (f_X7_figures_12_b 290 (nI m) (nI a) (fun x3 z => rec (x3, z)) (nI k) y) _
    unfold f_X7_figures_12_b
    have hh : hI n by_ (a + k) = nI (by_ (a + k)) := if_pos d1
    rw [if_neg (nI_ge (show k < m by omega) (by omega)), x_here g2 hb (by omega), q_gb, q_gb, q_gb, hh, if_neg (nI_nlt d2 (by omega)), if_neg (nI_nlt d3 (by omega)), g3, pk_mul, nI_add, pk_sub (by omega), q_gl, gup_n (by omega), g2.2.1, nI_add, q_gl, nI_add]
    refine hr _ ⟨rfl, ⟨?_, ?_, fun i hi => ?_⟩, ?_, fun p j q => ?_⟩
    · dsimp only; rw [gup_n (by omega), gup_n (by omega)]; exact g2.1
    · dsimp only; rw [gup_s]; rfl
    · dsimp only; rw [gup_n (by omega), gup_n (by omega)]; exact g2.2.2 i hi
    · dsimp only
      rw [gup_n (by omega), gup_s]
      show _ = nI (10 * NVw by_ a k + (by_ (a + k) - 48))
      congr 1
      omega
    · dsimp only; rw [gup_n (by omega), gup_n (by omega)]; exact g4 p j q
  · obtain ⟨x3, y⟩ := s
    obtain ⟨g1, g2, g3, g4⟩ := hi
    dsimp only at g1 g2 g3 g4
    subst g1
    have fin : (if y 290 2 ≤ nI a then (some (nI 0, y)) else (some (nI 1, y)) : Option (Int32 × gS)) = some (nI (decide (0 < runL (DGb n by_) a m)).toNat, y) := by
      rw [g2.2.1, q_ifle (by omega) (by omega)]
      by_cases c : runL (DGb n by_) a m = 0
      · rw [if_pos (by omega), decide_eq_false (by omega)]; rfl
      · rw [if_neg (by omega), decide_eq_true (by omega)]; rfl
    show Ok (f_X7_figures_12_b 290 (nI m) (nI a) (fun x3 z => rec (x3, z)) (nI (runL (DGb n by_) a m)) y) _
    unfold f_X7_figures_12_b
    rw [fin, q_ifle (by omega) (by omega), x_here g2 hb (by omega), q_gb, q_gb]
    by_cases c : m ≤ runL (DGb n by_) a m
    · rw [if_pos c]
      exact Ok.i ⟨rfl, g2, g3, g4⟩
    · rw [if_neg c]
      have hf := runL_f (P := DGb n by_) (f := m) (a := a) (by omega)
      unfold DGb at hf
      by_cases e : a + runL (DGb n by_) a m < n
      · have hh : hI n by_ (a + runL (DGb n by_) a m) = nI (by_ (a + runL (DGb n by_) a m)) := if_pos e
        have hbb := hb.2 _ e
        unfold DGb at hh hbb e
        rw [decide_eq_true e, Bool.true_and] at hf
        unfold DGb
        rw [hh, q_iflt (by omega) (by omega), q_iflt (by omega) (by omega)]
        by_cases c1 : by_ (a + runL (fun a => decide (a < n) && (decide (48 ≤ by_ a) && decide (by_ a ≤ 57))) a m) < 48
        · rw [if_pos c1]
          exact Ok.i ⟨rfl, g2, g3, g4⟩
        · rw [if_neg c1]
          have c2 : 57 < by_ (a + runL (fun a => decide (a < n) && (decide (48 ≤ by_ a) && decide (by_ a ≤ 57))) a m) := by
            rw [decide_eq_true (by omega), Bool.true_and, decide_eq_false_iff_not] at hf
            omega
          rw [if_pos c2]
          exact Ok.i ⟨rfl, g2, g3, g4⟩
      · have hh : hI n by_ (a + runL (DGb n by_) a m) = gm1 := if_neg e
        rw [hh, if_pos (by decide)]
        exact Ok.i ⟨rfl, g2, g3, g4⟩
theorem x_letters {z : gS} {n a : Nat} {by_ : Nat → Nat} (h : TP z n by_ a) (hb : BT n by_) (ha : a ≤ n) : Ok (f_X7_letters 290 z) (fun q => q.1 = nI (decide (0 < nlW n by_ a)).toNat ∧ TP q.2 n by_ (a + nlW n by_ a) ∧ q.2 290 4 = nI (word n by_ a) ∧ ∀ p j, ¬ (p = 290 ∧ (j = 2 ∨ j = 4)) → q.2 p j = z p j) := by
  have hn := hb.1
  have hle := nlW_le n by_ a
  have hrn := run_n (n := n) (P := LTb n by_) (fun a q => (LT_t q).1) (f := 6) ha
  have hrn : a + nlW n by_ a ≤ n := hrn
  have hT : TP (gup z 290 4 (nI 0)) n by_ a := ⟨by rw [gup_n (by omega)]; exact h.1, by rw [gup_n (by omega)]; exact h.2.1, fun i hi => by rw [gup_n (by omega)]; exact h.2.2 i hi⟩
  unfold f_X7_letters
  rw [h.2.1, q_gl, q_gl]
  unfold f_X7_letters_12
  refine gforI0 (fun k s => s.1 = nI k ∧ TP s.2 n by_ (a + min k (nlW n by_ a)) ∧ s.2 290 4 = nI (LVw by_ a (min k (nlW n by_ a)) * 27 ^ (k - min k (nlW n by_ a))) ∧ ∀ p j, ¬ (p = 290 ∧ (j = 2 ∨ j = 4)) → s.2 p j = z p j) (e := 6) (by omega) ⟨rfl, by rw [Nat.zero_min]; exact hT, by dsimp only; rw [Nat.zero_min, gup_s]; rfl, fun p j q => gup_n (by omega)⟩ (fun k rec s hk hi hr => ?_) (fun rec s hi => ?_)
  · obtain ⟨x2, y⟩ := s
    obtain ⟨g1, g2, g3, g4⟩ := hi
    dsimp only at g1 g2 g3 g4
    subst g1
    show Ok (f_X7_letters_12_b 290 (nI a) (fun x2 z => rec (x2, z)) (nI k) y) _
    unfold f_X7_letters_12_b
    rw [if_neg (nI_ge hk (by omega)), g3, pk_mul, q_gl, gup_n (by omega), g2.2.1, nI_add, q_ifeq (by omega) (by omega), nI_add]
    have hy2 : TP (gup y 290 4 (nI (LVw by_ a (min k (nlW n by_ a)) * 27 ^ (k - min k (nlW n by_ a)) * 27))) n by_ (a + min k (nlW n by_ a)) := ⟨by rw [gup_n (by omega)]; exact g2.1, by rw [gup_n (by omega)]; exact g2.2.1, fun i hi => by rw [gup_n (by omega)]; exact g2.2.2 i hi⟩
    have hskip : nlW n by_ a ≤ k → Ok (rec (nI (k + 1), gup y 290 4 (nI (LVw by_ a (min k (nlW n by_ a)) * 27 ^ (k - min k (nlW n by_ a)) * 27)))) (fun q => q.1 = nI (decide (0 < nlW n by_ a)).toNat ∧ TP q.2 n by_ (a + nlW n by_ a) ∧ q.2 290 4 = nI (word n by_ a) ∧ ∀ p j, ¬ (p = 290 ∧ (j = 2 ∨ j = 4)) → q.2 p j = z p j) := fun hc => by
      refine hr _ ⟨rfl, ?_, ?_, fun p j q => ?_⟩
      · rw [show min (k + 1) (nlW n by_ a) = min k (nlW n by_ a) by omega]
        exact hy2
      · dsimp only
        rw [gup_s, show min (k + 1) (nlW n by_ a) = min k (nlW n by_ a) by omega, show k + 1 - min k (nlW n by_ a) = (k - min k (nlW n by_ a)) + 1 by omega, Nat.pow_succ, Nat.mul_assoc]
      · dsimp only; rw [gup_n (by omega)]; exact g4 p j q
    by_cases c : k ≤ nlW n by_ a
    · rw [if_pos (by omega), x_here hy2 hb (by omega), q_gb, q_gb, x_isLetter hb, q_gb, q_ifb, show min k (nlW n by_ a) = k by omega]
      by_cases c2 : k < nlW n by_ a
      · have hL := runL_t (P := LTb n by_) (f := 6) (a := a) (i := k) c2
        obtain ⟨d1, d2, d3⟩ := LT_t hL
        have hh : hI n by_ (a + k) = nI (by_ (a + k)) := if_pos d1
        rw [hL, if_pos rfl, hh, gup_s, pk_sub (by omega), nI_add, nI_add, q_gl, gup_n (by omega), gup_n (by omega), g2.2.1, nI_add, q_gl, show k - k = 0 by omega, Nat.pow_zero, Nat.mul_one, show min k (nlW n by_ a) = k by omega]
        refine hr _ ⟨rfl, ⟨?_, ?_, fun i hi => ?_⟩, ?_, fun p j q => ?_⟩
        · dsimp only; rw [gup_n (by omega), gup_n (by omega), gup_n (by omega)]; exact g2.1
        · dsimp only; rw [gup_s, show min (k + 1) (nlW n by_ a) = k + 1 by omega]; rfl
        · dsimp only; rw [gup_n (by omega), gup_n (by omega), gup_n (by omega)]; exact g2.2.2 i hi
        · dsimp only
          rw [gup_n (by omega), gup_s, show min (k + 1) (nlW n by_ a) = k + 1 by omega, show k + 1 - (k + 1) = 0 by omega, Nat.pow_zero, Nat.mul_one]
          show _ = nI (27 * LVw by_ a k + (by_ (a + k) - 96))
          congr 1
          omega
        · dsimp only; rw [gup_n (by omega), gup_n (by omega), gup_n (by omega)]; exact g4 p j q
      · have hf := runL_f (P := LTb n by_) (f := 6) (a := a) (show nlW n by_ a < 6 by omega)
        have hf : LTb n by_ (a + nlW n by_ a) = false := hf
        rw [show a + k = a + nlW n by_ a by omega, hf, if_neg (by decide)]
        have := hskip (by omega)
        rw [show min k (nlW n by_ a) = k by omega] at this
        exact this
    · rw [if_neg (by omega)]
      exact hskip (by omega)
  · obtain ⟨x2, y⟩ := s
    obtain ⟨g1, g2, g3, g4⟩ := hi
    dsimp only at g1 g2 g3 g4
    subst g1
    rw [show min 6 (nlW n by_ a) = nlW n by_ a by omega] at g2 g3
    show Ok (f_X7_letters_12_b 290 (nI a) (fun x2 z => rec (x2, z)) (nI 6) y) _
    unfold f_X7_letters_12_b
    rw [if_pos (nI_le (Nat.le_refl _) (by omega)), g2.2.1, q_ifle (by omega) (by omega)]
    by_cases c : nlW n by_ a = 0
    · rw [if_pos (by omega), decide_eq_false (by omega)]
      exact Ok.i ⟨rfl, g2, g3, g4⟩
    · rw [if_neg (by omega), decide_eq_true (by omega)]
      exact Ok.i ⟨rfl, g2, g3, g4⟩
