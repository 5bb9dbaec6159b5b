/-! a statement is read, by the reference -/
def nmOk (n : Nat) (by_ : Nat → Nat) (a : Nat) : Bool := !decide (nlW n by_ a = 0) && !LTb n by_ (a + nlW n by_ a)
/-- names with commas between: the words, the place behind, whether all is right -/
def nms (n : Nat) (by_ : Nat → Nat) : Nat → Nat → List Nat × Nat × Bool
  | _, 0 => ([], 0, false)
  | a, f + 1 => if nmOk n by_ a then (if AT n by_ (a + nlW n by_ a) 44 then (word n by_ a :: (nms n by_ (a + nlW n by_ a + 1) f).1, (nms n by_ (a + nlW n by_ a + 1) f).2) else ([word n by_ a], a + nlW n by_ a, true)) else ([], a + nlW n by_ a, false)
theorem nms_s (n : Nat) (by_ : Nat → Nat) (a f : Nat) : nms n by_ a (f + 1) = if nmOk n by_ a then (if AT n by_ (a + nlW n by_ a) 44 then (word n by_ a :: (nms n by_ (a + nlW n by_ a + 1) f).1, (nms n by_ (a + nlW n by_ a + 1) f).2) else ([word n by_ a], a + nlW n by_ a, true)) else ([], a + nlW n by_ a, false) := rfl
/-- right?, the place behind or of the fault, sort (0 a grave, 1 +, 2 -), number, words -/
def stm (n : Nat) (by_ : Nat → Nat) (a : Nat) : Bool × Nat × Nat × Nat × List Nat :=
  if AT n by_ a 43 || AT n by_ a 45 then
    (if runL (DGb n by_) (a + 1) 1 = 0 then (false, a + 1, 0, 0, [])
     else if nmOk n by_ (a + 2) then (true, a + 2 + nlW n by_ (a + 2), (if AT n by_ a 43 then 1 else 2), NVw by_ (a + 1) 1, [word n by_ (a + 2)])
     else (false, a + 2 + nlW n by_ (a + 2), 0, 0, []))
  else
    (if runL (DGb n by_) a 3 = 0 then (false, a, 0, 0, [])
     else if AT n by_ (a + runL (DGb n by_) a 3) 58 then
       (if LTb n by_ (a + runL (DGb n by_) a 3 + 1) then ((nms n by_ (a + runL (DGb n by_) a 3 + 1) 101).2.2, (nms n by_ (a + runL (DGb n by_) a 3 + 1) 101).2.1, 0, NVw by_ a (runL (DGb n by_) a 3), (nms n by_ (a + runL (DGb n by_) a 3 + 1) 101).1)
        else (true, a + runL (DGb n by_) a 3 + 1, 0, NVw by_ a (runL (DGb n by_) a 3), []))
     else (false, a + runL (DGb n by_) a 3, 0, 0, []))
def MT (w : gS) (n : Nat) (by_ : Nat → Nat) (a : Nat) : Prop := w 0 15 = nI n ∧ w 0 17 = nI a ∧ ∀ i, i < n → w 8 i = nI (by_ i)
theorem m_here {w : gS} {n a : Nat} {by_ : Nat → Nat} (h : MT w n by_ a) (hb : BT n by_) (ha : a ≤ 100) : f_X11_here w = some (hI n by_ a) := by
  have h1 := hb.1
  unfold f_X11_here hI
  rw [h.2.1, h.1, q_ifle (by omega) (by omega)]
  by_cases e : a < n
  · rw [if_neg (by omega), if_pos e, q_gg (by omega) (by omega), nI_clamp (by omega), h.2.2 a e]
  · rw [if_pos (by omega), if_neg e]
theorem m_inR {n a lo hi : Nat} {by_ : Nat → Nat} (hb : BT n by_) (hlo : lo < 128) (hhi : hi < 128) (w : gS) : (gb (f_X11_in (hI n by_ a) (nI lo) (nI hi) w) fun q1 => gz q1 (some q1)) = some (nI (decide (a < n) && (decide (lo ≤ by_ a) && decide (by_ a ≤ hi))).toNat) := by
  unfold f_X11_in hI
  by_cases e : a < n
  · have := hb.2 a e
    rw [if_pos e, decide_eq_true e, Bool.true_and, q_iflt (by omega) (by omega), q_iflt (by omega) (by omega)]
    by_cases c1 : by_ a < lo
    · rw [if_pos c1, decide_eq_false (by omega), Bool.false_and]; rfl
    · rw [if_neg c1, decide_eq_true (show lo ≤ by_ a by omega), Bool.true_and]
      by_cases c2 : hi < by_ a
      · rw [if_pos c2, decide_eq_false (by omega)]; rfl
      · rw [if_neg c2, decide_eq_true (show by_ a ≤ hi by omega)]; rfl
  · rw [if_neg e, decide_eq_false e, Bool.false_and]
    have : gm1 < nI lo := by
      rw [Int32.lt_iff_toInt_lt, nI_toInt (by omega)]
      have : gm1.toInt = -1 := by decide
      omega
    rw [if_pos this]
    rfl
theorem m_isLetter {n a : Nat} {by_ : Nat → Nat} (hb : BT n by_) (w : gS) : f_X11_isLetter (hI n by_ a) w = some (nI (LTb n by_ a).toNat) := m_inR hb (by omega) (by omega) w
theorem m_isDigit {n a : Nat} {by_ : Nat → Nat} (hb : BT n by_) (w : gS) : f_X11_isDigit (hI n by_ a) w = some (nI (DGb n by_ a).toNat) := m_inR hb (by omega) (by omega) w
theorem MT.up {w : gS} {n a k j : Nat} {by_ : Nat → Nat} {v : Int32} (h : MT w n by_ a) (hk : (k = 0 ∧ j ≠ 15 ∧ j ≠ 17) ∨ k = 9) : MT (gup w k j v) n by_ a := ⟨by rw [gup_n (by omega)]; exact h.1, by rw [gup_n (by omega)]; exact h.2.1, fun i hi => by rw [gup_n (by omega)]; exact h.2.2 i hi⟩
theorem MT.at {w : gS} {n a b : Nat} {by_ : Nat → Nat} (h : MT w n by_ a) : MT (gup w 0 17 (nI b)) n by_ b := ⟨by rw [gup_n (by omega)]; exact h.1, gup_s, fun i hi => by rw [gup_n (by omega)]; exact h.2.2 i hi⟩
/-- cells that reading figures and names may change -/
def FD (w w' : gS) (c : Nat → Prop) : Prop := ∀ p j, ¬ (p = 0 ∧ (j = 17 ∨ j = 18 ∨ c j)) → ¬ p = 9 → w' p j = w p j
theorem m_digits_ {w : gS} {n a m : Nat} {by_ : Nat → Nat} (h : MT w n by_ a) (hb : BT n by_) (ha : a ≤ n) (hm : m ≤ 3) : Ok (f_X11_digits_ (nI m) w) (fun w' => MT w' n by_ (a + runL (DGb n by_) a m) ∧ w' 0 20 = nI (NVw by_ a (runL (DGb n by_) a m)) ∧ w' 0 18 = nI (decide (runL (DGb n by_) a m = 0)).toNat ∧ ∀ p j, ¬ (p = 0 ∧ (j = 17 ∨ j = 18 ∨ j = 20)) → w' p j = w p j) := by
  have hn := hb.1
  have hle := runL_le (DGb n by_) m a
  have hrn := run_n (n := n) (P := DGb n by_) (fun a q => (DG_t q).1) (f := m) ha
  unfold f_X11_digits_
  rw [q_gl]
  unfold f_X11_digits__7
  refine gforI0 (fun k s => s.1 = nI k ∧ MT s.2 n by_ (a + k) ∧ s.2 0 20 = nI (NVw by_ a k) ∧ ∀ p j, ¬ (p = 0 ∧ (j = 17 ∨ j = 18 ∨ j = 20)) → s.2 p j = w p j) (e := runL (DGb n by_) a m) (by omega) ⟨rfl, h.up (by omega), (by show gup w 0 20 (nI 0) 0 20 = _; rw [gup_s]; rfl), fun p j q => gup_n (by omega)⟩ (fun k rec s hk hi hr => ?_) (fun rec s hi => ?_)
  · obtain ⟨x2, y⟩ := s
    obtain ⟨g1, g2, g3, g4⟩ := hi
    dsimp only at g1 g2 g3 g4
    subst g1
    have hD := runL_t hk
    obtain ⟨d1, d2, d3⟩ := DG_t hD
    have hh : hI n by_ (a + k) = nI (by_ (a + k)) := if_pos d1
    show Ok (f_X11_digits__7_b (nI m) (fun x2 z => rec (x2, z)) (nI k) y) _
    unfold f_X11_digits__7_b
    rw [if_neg (nI_ge (show k < m by omega) (by omega)), m_here g2 hb (by omega), q_gb, q_gb, m_isDigit hb, q_gb, q_ifb, hD, if_pos rfl, hh, g3, pk_mul, nI_add, pk_sub (by omega), q_gl, gup_n (by omega), g2.2.1, nI_add, q_gl, nI_add]
    refine hr _ ⟨rfl, ?_, ?_, fun p j q => ?_⟩
    · exact (g2.up (by omega)).at
    · dsimp only
      rw [gup_n (by omega), gup_s]
      show _ = nI (10 * NVw by_ a k + (by_ (a + k) - 48))
      congr 1
      omega
    · dsimp only; rw [gup_n (by omega), gup_n (by omega)]; exact g4 p j q
  · obtain ⟨x2, y⟩ := s
    obtain ⟨g1, g2, g3, g4⟩ := hi
    dsimp only at g1 g2 g3 g4
    subst g1
    have fin : Ok (if nI (runL (DGb n by_) a m) = 0 then gl (gup y 0 18 (nI 1)) fun z5 => some z5 else gl (gup y 0 18 (nI 0)) fun z4 => some z4) (fun w' => MT w' n by_ (a + runL (DGb n by_) a m) ∧ w' 0 20 = nI (NVw by_ a (runL (DGb n by_) a m)) ∧ w' 0 18 = nI (decide (runL (DGb n by_) a m = 0)).toNat ∧ ∀ p j, ¬ (p = 0 ∧ (j = 17 ∨ j = 18 ∨ j = 20)) → w' p j = w p j) := by
      rw [q_if0 (by omega), q_gl, q_gl]
      by_cases c : runL (DGb n by_) a m = 0
      · rw [if_pos c]
        refine Ok.i ⟨g2.up (by omega), ?_, ?_, fun p j q => ?_⟩
        · rw [gup_n (by omega)]; exact g3
        · rw [gup_s, decide_eq_true c]; rfl
        · rw [gup_n (by omega)]; exact g4 p j q
      · rw [if_neg c]
        refine Ok.i ⟨g2.up (by omega), ?_, ?_, fun p j q => ?_⟩
        · rw [gup_n (by omega)]; exact g3
        · rw [gup_s, decide_eq_false c]; rfl
        · rw [gup_n (by omega)]; exact g4 p j q
    show Ok (f_X11_digits__7_b (nI m) (fun x2 z => rec (x2, z)) (nI (runL (DGb n by_) a m)) y) _
    unfold f_X11_digits__7_b
    rw [q_ifle (by omega) (by omega), m_here g2 hb (by omega), q_gb, m_isDigit hb, q_gb, q_ifb]
    by_cases c : m ≤ runL (DGb n by_) a m
    · rw [if_pos c]
      exact fin
    · rw [if_neg c, runL_f (P := DGb n by_) (f := m) (a := a) (by omega), if_neg (by decide)]
      exact fin
theorem m_name_71 {w : gS} {n a v k : Nat} {by_ : Nat → Nat} {T : List Nat} (hk : k ≤ 6) (h : MT w n by_ a) (hT : KK w 0 22 9 T) (hl : T.length < 100) : Ok (f_X11_name_71 w gF (nI v) (nI k)) (fun w' => MT w' n by_ a ∧ KK w' 0 22 9 (T ++ [v * 27 ^ (6 - k)]) ∧ ∀ p j, ¬ (p = 0 ∧ j = 22) → ¬ p = 9 → w' p j = w p j) := by
  have key : ∀ j k v m, k + j = 6 → j < m → Ok (f_X11_name_71 w m (nI v) (nI k)) (fun w' => MT w' n by_ a ∧ KK w' 0 22 9 (T ++ [v * 27 ^ j]) ∧ ∀ p j, ¬ (p = 0 ∧ j = 22) → ¬ p = 9 → w' p j = w p j) := by
    intro j
    induction j with
    | zero =>
      intro k v m hk hm
      obtain ⟨m, rfl⟩ : ∃ q, m = q + 1 := ⟨m - 1, by omega⟩
      show Ok (f_X11_name_71_b w (fun x1 x2 => f_X11_name_71 w m x1 x2) (nI v) (nI k)) _
      unfold f_X11_name_71_b
      rw [if_pos (nI_le (by omega) (by omega)), hT.1, q_gg hl (by omega), nI_clamp (by omega), q_gl, gup_n (by omega), hT.1, nI_add, q_gl]
      refine Ok.i ⟨(h.up (by omega)).up (by omega), ?_, fun p j h1 h2 => ?_⟩
      · rw [Nat.pow_zero, Nat.mul_one]
        exact hT.add (by omega)
      · rw [gup_n (by omega), gup_n (by omega)]
    | succ j ih =>
      intro k v m hk hm
      obtain ⟨m, rfl⟩ : ∃ q, m = q + 1 := ⟨m - 1, by omega⟩
      show Ok (f_X11_name_71_b w (fun x1 x2 => f_X11_name_71 w m x1 x2) (nI v) (nI k)) _
      unfold f_X11_name_71_b
      rw [if_neg (nI_ge (show k < 6 by omega) (by omega)), pk_mul, q_gl, nI_add]
      have := ih (k + 1) (v * 27) m (by omega) (by omega)
      rw [Nat.mul_assoc, Nat.mul_comm 27, ← Nat.pow_succ] at this
      exact this
  exact key (6 - k) k v gF (by omega) (q_gF (by omega))
theorem m_name {w : gS} {n a : Nat} {by_ : Nat → Nat} {T : List Nat} (h : MT w n by_ a) (hb : BT n by_) (ha : a ≤ n) (hT : KK w 0 22 9 T) (hl : T.length < 100) (h18 : w 0 18 = nI 0) : Ok (f_X11_name w) (fun w' => MT w' n by_ (a + nlW n by_ a) ∧ (nmOk n by_ a = true → w' 0 18 = nI 0 ∧ KK w' 0 22 9 (T ++ [word n by_ a])) ∧ (nmOk n by_ a = false → w' 0 18 = nI 1) ∧ ∀ p j, ¬ (p = 0 ∧ (j = 17 ∨ j = 18 ∨ j = 22)) → ¬ p = 9 → w' p j = w p j) := by
  have hn := hb.1
  have hle := nlW_le n by_ a
  have hrn := run_n (n := n) (P := LTb n by_) (fun a q => (LT_t q).1) (f := 6) ha
  have hrn : a + nlW n by_ a ≤ n := hrn
  unfold f_X11_name f_X11_name_4
  refine gforI0 (fun k s => s.1 = nI (LVw by_ a k) ∧ s.2.1 = nI k ∧ MT s.2.2 n by_ (a + k) ∧ ∀ p j, ¬ (p = 0 ∧ j = 17) → s.2.2 p j = w p j) (e := nlW n by_ a) (by omega) ⟨rfl, rfl, h, fun _ _ _ => rfl⟩ (fun k rec s hk hi hr => ?_) (fun rec s hi => ?_)
  · obtain ⟨x1, x2, y⟩ := s
    obtain ⟨g1, g2, g3, g4⟩ := hi
    dsimp only at g1 g2 g3 g4
    subst g1
    subst g2
    have hL := runL_t (P := LTb n by_) (f := 6) (a := a) (i := k) hk
    obtain ⟨d1, d2, d3⟩ := LT_t hL
    have hh : hI n by_ (a + k) = nI (by_ (a + k)) := if_pos d1
    show Ok (f_X11_name_4_b (fun x1 x2 z => rec (x1, x2, z)) (nI (LVw by_ a k)) (nI k) y) _
    unfold f_X11_name_4_b
    rw [if_neg (nI_ge (show k < 6 by omega) (by omega))]
    simp only [m_here g3 hb (show a + k ≤ 100 by omega), q_gb, m_isLetter hb, q_ifb, hL, if_true]
    rw [hh, pk_mul, nI_add, pk_sub (by omega), nI_add, q_gl, g3.2.1, nI_add, q_gl, nI_add]
    refine hr _ ⟨?_, rfl, g3.at, fun p j q => ?_⟩
    · dsimp only
      show _ = nI (27 * LVw by_ a k + (by_ (a + k) - 96))
      congr 1
      omega
    · dsimp only; rw [gup_n (by omega)]; exact g4 p j q
  · obtain ⟨x1, x2, y⟩ := s
    obtain ⟨g1, g2, g3, g4⟩ := hi
    dsimp only at g1 g2 g3 g4
    subst g1
    subst g2
    have hTy : KK y 0 22 9 T := ⟨by rw [g4 0 22 (by omega)]; exact hT.1, fun i hi => by rw [g4 9 i (by omega)]; exact hT.2 i hi⟩
    have hok : nlW n by_ a ≠ 0 → LTb n by_ (a + nlW n by_ a) = false → Ok (f_X11_name_71 y gF (nI (LVw by_ a (nlW n by_ a))) (nI (nlW n by_ a))) (fun w' => MT w' n by_ (a + nlW n by_ a) ∧ (nmOk n by_ a = true → w' 0 18 = nI 0 ∧ KK w' 0 22 9 (T ++ [word n by_ a])) ∧ (nmOk n by_ a = false → w' 0 18 = nI 1) ∧ ∀ p j, ¬ (p = 0 ∧ (j = 17 ∨ j = 18 ∨ j = 22)) → ¬ p = 9 → w' p j = w p j) := fun c1 c2 => by
      have hO : nmOk n by_ a = true := by unfold nmOk; rw [c2, decide_eq_false c1]; rfl
      refine (m_name_71 hle g3 hTy hl).m (fun w' h' => ⟨h'.1, fun _ => ⟨?_, h'.2.1⟩, fun q => by rw [hO] at q; (cases q), fun p j h1 h2 => ?_⟩)
      · rw [h'.2.2 0 18 (by omega) (by omega), g4 0 18 (by omega), h18]
      · rw [h'.2.2 p j (by omega) h2, g4 p j (by omega)]
    have hbad : nmOk n by_ a = false → Ok (gl (gup y 0 18 (nI 1)) fun z3 => some z3) (fun w' => MT w' n by_ (a + nlW n by_ a) ∧ (nmOk n by_ a = true → w' 0 18 = nI 0 ∧ KK w' 0 22 9 (T ++ [word n by_ a])) ∧ (nmOk n by_ a = false → w' 0 18 = nI 1) ∧ ∀ p j, ¬ (p = 0 ∧ (j = 17 ∨ j = 18 ∨ j = 22)) → ¬ p = 9 → w' p j = w p j) := fun c => by
      rw [q_gl]
      refine Ok.i ⟨g3.up (by omega), fun q => by rw [c] at q; (cases q), fun _ => gup_s, fun p j h1 h2 => ?_⟩
      rw [gup_n (by omega), g4 p j (by omega)]
    show Ok (f_X11_name_4_b (fun x1 x2 z => rec (x1, x2, z)) (nI (LVw by_ a (nlW n by_ a))) (nI (nlW n by_ a)) y) _
    unfold f_X11_name_4_b
    simp only [m_here g3 hb (show a + nlW n by_ a ≤ 100 by omega), q_gb, m_isLetter hb, q_ifb, q_if0 (show nlW n by_ a < 2 ^ 31 by omega)]
    rw [q_ifle (by omega) (by omega)]
    by_cases c6 : 6 ≤ nlW n by_ a
    · rw [if_pos c6, if_neg (by omega)]
      cases c : LTb n by_ (a + nlW n by_ a)
      · rw [if_neg (by decide)]
        exact hok (by omega) c
      · rw [if_pos rfl]
        exact hbad (by unfold nmOk; rw [c]; simp)
    · have hf : LTb n by_ (a + nlW n by_ a) = false := runL_f (P := LTb n by_) (f := 6) (a := a) (show nlW n by_ a < 6 by omega)
      rw [if_neg c6, hf, if_neg (show ¬ false = true by decide), if_neg (show ¬ false = true by decide)]
      by_cases c0 : nlW n by_ a = 0
      · rw [if_pos c0]
        exact hbad (by unfold nmOk; rw [c0]; rfl)
      · rw [if_neg c0]
        exact hok c0 hf
