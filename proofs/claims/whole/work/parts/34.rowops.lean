/-! what is asked of a row, by both -/
def RX (z : gS) (n : Nat) (l : List Nat) : Prop := l.length = n ∧ ∀ j, j < n → z 296 j = nI (l.getD j 0)
theorem full_bit {n t : Nat} (h : t < n) : (2 ^ n - 1).testBit t = true := by rw [Nat.testBit_two_pow_sub_one]; simp [h]
theorem x_rowGapsOf {z : gS} {d : Dat} (h : SX z 1 d) (v : VD d) {l : List Nat} (hr : RX z (dg d) l) (hg : ∀ x ∈ l, x < dg d) {t : Nat} (ht : t < 8) : f_X10_rowGapsOf (nI t) z = some (nI (gpT (ds d) t l)) := by
  have v1 := v.1
  have key : ∀ j i sm op (met : Bool) m, i + j = dg d → j < m → (met = false → op = 0) → f_X10_rowGapsOf_10 z (nI t) m (nI sm) (nI op) (nI met.toNat) (nI i) = some (nI (sm + (if (l.drop i).any (fun x => (ds d x).testBit t) then op else 0) + gpG (fun x => (ds d x).testBit t) (l.drop i) met)) := by
    intro j
    induction j with
    | zero =>
      intro i sm op met m hi hm ho
      obtain ⟨m, rfl⟩ : ∃ k, m = k + 1 := ⟨m - 1, by omega⟩
      show f_X10_rowGapsOf_10_b z (nI t) (fun x2 x3 x4 x5 => f_X10_rowGapsOf_10 z (nI t) m x2 x3 x4 x5) (nI sm) (nI op) (nI met.toNat) (nI i) = _
      unfold f_X10_rowGapsOf_10_b
      rw [h.1, if_pos (nI_le (by omega) (by omega)), List.drop_of_length_le (by have := hr.1; omega)]
      rfl
    | succ j ih =>
      intro i sm op met m hi hm ho
      obtain ⟨m, rfl⟩ : ∃ k, m = k + 1 := ⟨m - 1, by omega⟩
      have hil : i < l.length := by have := hr.1; omega
      have hx : l.getD i 0 ∈ l := by
        rw [List.getD_eq_getElem?_getD, List.getElem?_eq_getElem hil]
        exact List.getElem_mem hil
      have hxg := hg _ hx
      show f_X10_rowGapsOf_10_b z (nI t) (fun x2 x3 x4 x5 => f_X10_rowGapsOf_10 z (nI t) m x2 x3 x4 x5) (nI sm) (nI op) (nI met.toNat) (nI i) = _
      unfold f_X10_rowGapsOf_10_b
      rw [h.1, if_neg (nI_ge (show i < dg d by omega) (by omega)), q_gg (by omega) (by omega), nI_clamp (by omega), hr.2 i (by omega), x_owns h v hxg (by omega), q_gb, q_ifb, nI_add, nI_add, nI_add, q_gl, getD_drop hil, gpG_s]
      try dsimp only
      generalize hgx : l.getD i 0 = g at *
      have ea : (g :: l.drop (i + 1)).any (fun x => (ds d x).testBit t) = ((ds d g).testBit t || (l.drop (i + 1)).any (fun x => (ds d x).testBit t)) := rfl
      rw [ea]
      cases c : (ds d g).testBit t
      · rw [if_neg (show ¬ false = true by decide), if_neg (show ¬ false = true by decide), Bool.false_or]
        cases met with
        | false =>
          have ho := ho rfl
          subst ho
          have := ih (i + 1) sm 0 false m (by omega) (by omega) (fun _ => rfl)
          rw [show nI (false.toNat) = nI 0 from rfl] at this ⊢
          rw [q_if00, this]
          simp
        | true =>
          have := ih (i + 1) sm (op + 1) true m (by omega) (by omega) (fun q => by cases q)
          rw [show nI (true.toNat) = nI 1 from rfl] at this ⊢
          rw [q_if1, this]
          congr 2
          cases (l.drop (i + 1)).any (fun x => (ds d x).testBit t)
          · simp
          · simp
            omega
      · have := ih (i + 1) (sm + op) 0 true m (by omega) (by omega) (fun _ => rfl)
        rw [if_pos rfl, if_pos rfl, Bool.true_or, if_pos rfl]
        rw [show nI (true.toNat) = nI 1 from rfl] at this
        rw [this]
        simp
  unfold f_X10_rowGapsOf
  have := key (dg d) 0 0 0 false gF (by omega) (q_gF (by omega)) (fun _ => rfl)
  rw [show nI (false.toNat) = nI 0 from rfl] at this
  rw [this]
  simp [gpT]
theorem x_rowGaps {z : gS} {d : Dat} (h : SX z 1 d) (v : VD d) {l : List Nat} (hr : RX z (dg d) l) (hg : ∀ x ∈ l, x < dg d) : f_X10_rowGaps z = some (nI (gpS d (2 ^ dt d - 1) l)) := by
  have v2 := v.2.1
  unfold f_X10_rowGaps f_X10_rowGaps_4 gpS
  refine gfor0 (fun k => (nI (sumN (fun t => if (2 ^ dt d - 1).testBit t then gpT (ds d) t l else 0) k), nI k)) (e := dt d) (by omega) (fun k rec hk => ?_) (fun rec => ?_)
  · show f_X10_rowGaps_4_b z (fun x1 x2 => rec (x1, x2)) (nI (sumN _ k)) (nI k) = rec (nI (sumN _ k + _), nI (k + 1))
    unfold f_X10_rowGaps_4_b
    rw [h.2.1, if_neg (nI_ge hk (by omega)), x_rowGapsOf h v hr hg (by omega), q_gb, nI_add, nI_add, q_gl]
    dsimp only
    rw [full_bit hk, if_pos rfl]
  · show f_X10_rowGaps_4_b z (fun x1 x2 => rec (x1, x2)) (nI (sumN _ (dt d))) (nI (dt d)) = _
    unfold f_X10_rowGaps_4_b
    rw [h.2.1, if_pos (nI_le (Nat.le_refl _) (by omega))]
theorem gpT_lt {s : Nat → Nat} {t : Nat} {l : List Nat} : gpT s t l ≤ l.length := by
  have : ∀ (h : Nat → Bool) (l : List Nat) (m : Bool), gpG h l m ≤ l.length := fun h l => by
    induction l with
    | nil => intro m; exact Nat.le_refl _
    | cons g l ih =>
      intro m
      rw [gpG_s, List.length_cons]
      split
      · have := ih true; omega
      · have := ih m
        have h2 : (m && l.any h).toNat ≤ 1 := by cases (m && l.any h) <;> decide
        omega
  exact this _ _ _
theorem x_runs_15 {z : gS} {d : Dat} (h : SX z 1 d) (v : VD d) {l : List Nat} (hr : RX z (dg d) l) (hg : ∀ x ∈ l, x < dg d) : f_X10_runs_15 z gF (nI 0) (nI 0) = some (nI (setB (fun t => decide (gpT (ds d) t l = 0)) (dt d)), z) := by
  have v1 := v.1
  have v2 := v.2.1
  unfold f_X10_runs_15
  refine gfor0 (fun k => (nI (setB (fun t => decide (gpT (ds d) t l = 0)) k), nI k)) (e := dt d) (by omega) (fun k rec hk => ?_) (fun rec => ?_)
  · have h3 := gpT_lt (s := ds d) (t := k) (l := l)
    have h4 := hr.1
    show f_X10_runs_15_b z (fun x2 x3 => rec (x2, x3)) (nI (setB _ k)) (nI k) = rec (nI (setB _ (k + 1)), nI (k + 1))
    unfold f_X10_runs_15_b
    rw [h.2.1, if_neg (nI_ge hk (by omega)), x_rowGapsOf h v hr hg (by omega), q_gb, q_if0 (by omega), q_sh1 (by omega), q_or, nI_add, q_gl]
    conv => rhs; unfold setB
    by_cases e : gpT (ds d) k l = 0
    · rw [if_pos e, if_pos (by simpa using e)]
    · rw [if_neg e, if_neg (by simpa using e)]
  · show f_X10_runs_15_b z (fun x2 x3 => rec (x2, x3)) (nI (setB _ (dt d))) (nI (dt d)) = _
    unfold f_X10_runs_15_b
    rw [h.2.1, if_pos (nI_le (Nat.le_refl _) (by omega))]
theorem m_runs_15 {w : gS} {d : Dat} (h : SM w d) (v : VD d) {l : List Nat} (hr : RW w l) (hb : B7 l) (hg : ∀ x ∈ l, x < dg d) : f_X11_runs_15 w gF (nI 0) (nI 0) = some (nI (setB (fun t => decide (gpT (ds d) t l = 0)) (dt d)), w) := by
  have v1 := v.1
  have v2 := v.2.1
  have h7 := hb.1
  unfold f_X11_runs_15
  refine gfor0 (fun k => (nI (setB (fun t => decide (gpT (ds d) t l = 0)) k), nI k)) (e := dt d) (by omega) (fun k rec hk => ?_) (fun rec => ?_)
  · have h3 := gpT_lt (s := ds d) (t := k) (l := l)
    show f_X11_runs_15_b w (fun x2 x3 => rec (x2, x3)) (nI (setB _ k)) (nI k) = rec (nI (setB _ (k + 1)), nI (k + 1))
    unfold f_X11_runs_15_b
    rw [h.2.1, if_neg (nI_ge hk (by omega)), m_gapsOf h v hr hb hg (by omega), q_gb, q_if0 (by omega), q_sh1 (by omega), q_or, q_or, Nat.or_zero, nI_add, q_gl, q_gl]
    conv => rhs; unfold setB
    by_cases e : gpT (ds d) k l = 0
    · rw [if_pos e, if_pos (by simpa using e)]
    · rw [if_neg e, if_neg (by simpa using e)]
  · show f_X11_runs_15_b w (fun x2 x3 => rec (x2, x3)) (nI (setB _ (dt d))) (nI (dt d)) = _
    unfold f_X11_runs_15_b
    rw [h.2.1, if_pos (nI_le (Nat.le_refl _) (by omega))]
/-- kinship, pair by pair -/
def kiN (d : Dat) (l : List Nat) : Nat := sumN (fun i => pop (ds d (l.getD i 0) &&& ds d (l.getD (i + 1) 0))) (l.length - 1)
theorem getD_in {l : List Nat} {i : Nat} (h : i < l.length) : l.getD i 0 ∈ l := by
  rw [List.getD_eq_getElem?_getD, List.getElem?_eq_getElem h]
  exact List.getElem_mem h
theorem x_kinship_15 {z : gS} {d : Dat} (h : SX z 1 d) (v : VD d) {l : List Nat} (hr : RX z (dg d) l) (hg : ∀ x ∈ l, x < dg d) : f_X10_kinship_15 z gF (nI 0) (nI 1) = some (nI (kiN d l), z) := by
  have v1 := v.1
  have hl := hr.1
  unfold f_X10_kinship_15 kiN
  refine gfor0 (fun k => (nI (sumN (fun i => pop (ds d (l.getD i 0) &&& ds d (l.getD (i + 1) 0))) k), nI (k + 1))) (e := l.length - 1) (by omega) (fun k rec hk => ?_) (fun rec => ?_)
  · show f_X10_kinship_15_b z (fun x2 x3 => rec (x2, x3)) (nI (sumN _ k)) (nI (k + 1)) = rec (nI (sumN _ k + _), nI (k + 1 + 1))
    unfold f_X10_kinship_15_b
    rw [h.1, if_neg (nI_ge (show k + 1 < dg d by omega) (by omega)), pk_sub (by omega), show k + 1 - 1 = k by omega, q_gg (by omega) (by omega), q_gg (by omega) (by omega), nI_clamp (by omega), nI_clamp (by omega), hr.2 k (by omega), hr.2 (k + 1) (by omega), x_common h v (hg _ (getD_in (by omega))) (hg _ (getD_in (by omega))), q_gb, nI_add, nI_add, q_gl]
  · show f_X10_kinship_15_b z (fun x2 x3 => rec (x2, x3)) (nI (sumN _ (l.length - 1))) (nI (l.length - 1 + 1)) = _
    unfold f_X10_kinship_15_b
    rw [h.1, if_pos (nI_le (by omega) (by omega))]
theorem m_kinshipNow {w : gS} {d : Dat} (h : SM w d) (v : VD d) {l : List Nat} (hr : RW w l) (hb : B7 l) (hg : ∀ x ∈ l, x < dg d) : f_X11_kinshipNow w = some (nI (kiN d l)) := by
  have v1 := v.1
  have h7 := hb.1
  unfold f_X11_kinshipNow f_X11_kinshipNow_4 kiN
  refine gfor0 (fun k => (nI (sumN (fun i => pop (ds d (l.getD i 0) &&& ds d (l.getD (i + 1) 0))) k), nI (k + 1))) (e := l.length - 1) (by omega) (fun k rec hk => ?_) (fun rec => ?_)
  · have g1 := hg _ (getD_in (show k < l.length by omega))
    have g2 := hg _ (getD_in (show k + 1 < l.length by omega))
    show f_X11_kinshipNow_4_b w (fun x2 x3 => rec (x2, x3)) (nI (sumN _ k)) (nI (k + 1)) = rec (nI (sumN _ k + _), nI (k + 1 + 1))
    unfold f_X11_kinshipNow_4_b
    rw [hr.1, if_neg (nI_ge (show k + 1 < l.length by omega) (by omega)), q_gg (by omega) (by omega), nI_clamp (by omega), hr.2 (k + 1) (by omega), q_gg (by omega) (by omega), pk_sub (by omega), show k + 1 - 1 = k by omega, q_gg (by omega) (by omega), nI_clamp (by omega), hr.2 k (by omega), q_gg (by omega) (by omega), nI_clamp (by omega), nI_clamp (by omega), h.2.2.2.1 _ g1, h.2.2.2.1 _ g2, q_and, q_bits (and_lt (v.s g2)), q_gb, nI_add, nI_add, q_gl, Nat.and_comm]
  · show f_X11_kinshipNow_4_b w (fun x2 x3 => rec (x2, x3)) (nI (sumN _ (l.length - 1))) (nI (l.length - 1 + 1)) = _
    unfold f_X11_kinshipNow_4_b
    rw [hr.1, if_pos (nI_le (by omega) (by omega))]
theorem dig_a (l : List Nat) : ∀ v x, dig v (l ++ [x]) = 10 * dig v l + x + 1 := by
  induction l with
  | nil => intro v x; rfl
  | cons g l ih => intro v x; exact ih _ x
theorem take_s {l : List Nat} {i : Nat} (h : i < l.length) : l.take (i + 1) = l.take i ++ [l.getD i 0] := by
  rw [List.take_succ, List.getD_eq_getElem?_getD, List.getElem?_eq_getElem h]
  rfl
def swp (a b x : Nat) : Nat := if x = a then b else if x = b then a else x
theorem x_swap_41 {z : gS} {d : Dat} (h : SX z 1 d) (v : VD d) {l : List Nat} (hr : RX z (dg d) l) (hg : ∀ x ∈ l, x < dg d) {a b : Nat} (ha : a < dg d) (hb : b < dg d) : f_X10_swap_41 z (nI a) (nI b) gF (nI 0) (nI 0) = some (nI (dig 0 (l.map (swp a b))), z) := by
  have v1 := v.1
  have hl := hr.1
  unfold f_X10_swap_41
  have e : ∀ rec : Int32 × Int32 → Option (Int32 × gS), rec ((fun k => (nI (dig 0 ((l.take k).map (swp a b))), nI k)) 0) = rec (nI 0, nI 0) := fun rec => rfl
  refine gfor0 (fun k => (nI (dig 0 ((l.take k).map (swp a b))), nI k)) (e := l.length) (by omega) (fun k rec hk => ?_) (fun rec => ?_)
  · have hx := hg _ (getD_in hk)
    show f_X10_swap_41_b z (nI a) (nI b) (fun x4 x5 => rec (x4, x5)) (nI (dig 0 ((l.take k).map (swp a b)))) (nI k) = rec (nI (dig 0 ((l.take (k + 1)).map (swp a b))), nI (k + 1))
    unfold f_X10_swap_41_b
    rw [take_s hk, List.map_append, List.map_cons, List.map_nil, dig_a]
    rw [h.1, if_neg (nI_ge (show k < dg d by omega) (by omega)), q_gg (by omega) (by omega), nI_clamp (by omega), hr.2 k (by omega), q_ifeq (by omega) (by omega), q_gg (by omega) (by omega), q_ifeq (by omega) (by omega), q_gg (by omega) (by omega), q_gl, q_gl, q_gl, q_gl, pk_mul, nI_add, nI_add, nI_add, nI_add, nI_add, nI_add, nI_add, Nat.mul_comm]
    unfold swp
    split
    · rfl
    · split <;> rfl
  · show f_X10_swap_41_b z (nI a) (nI b) (fun x4 x5 => rec (x4, x5)) (nI (dig 0 ((l.take l.length).map (swp a b)))) (nI l.length) = _
    unfold f_X10_swap_41_b
    rw [h.1, if_pos (nI_le (by omega) (by omega)), List.take_length]
theorem x_turned_23 {z : gS} {d : Dat} (v : VD d) {l : List Nat} (hr : RX z (dg d) l) : f_X10_turned_23 z gF (nI 0) (dI (dg d)) = some (nI (dig 0 l.reverse), z) := by
  have v1 := v.1
  have hl := hr.1
  unfold f_X10_turned_23
  rw [show (nI 0, dI (dg d)) = ((fun k => (nI (dig 0 ((l.drop (l.length - k)).reverse)), dI (l.length - k))) 0) by
    dsimp only
    rw [Nat.sub_zero, List.drop_length, hl]
    rfl]
  refine gfor0 (fun k => (nI (dig 0 ((l.drop (l.length - k)).reverse)), dI (l.length - k))) (e := l.length) (by omega) (fun k rec hk => ?_) (fun rec => ?_)
  · obtain ⟨i, hi⟩ : ∃ i, l.length - k = i + 1 := ⟨l.length - k - 1, by omega⟩
    have hi2 : l.length - (k + 1) = i := by omega
    show f_X10_turned_23_b z (fun x2 x3 => rec (x2, x3)) (nI (dig 0 ((l.drop (l.length - k)).reverse))) (dI (l.length - k)) = rec (nI (dig 0 ((l.drop (l.length - (k + 1))).reverse)), dI (l.length - (k + 1)))
    unfold f_X10_turned_23_b
    rw [hi, hi2, dI_p (by omega), dI_s, show dI (i + 1) = nI i from rfl, q_gg (by omega) (by omega), nI_clamp (by omega), hr.2 i (by omega), pk_mul, nI_add, nI_add, q_gl, getD_drop (show i < l.length by omega), List.reverse_cons, dig_a, Nat.mul_comm]
  · show f_X10_turned_23_b z (fun x2 x3 => rec (x2, x3)) (nI (dig 0 ((l.drop (l.length - l.length)).reverse))) (dI (l.length - l.length)) = _
    unfold f_X10_turned_23_b
    rw [Nat.sub_self, dI_0]
    rfl
theorem m_turned_20 {w : gS} {l : List Nat} (hr : RW w l) (hb : B7 l) : f_X11_turned_20 w gF (nI 0) (dI l.length) = some (nI (dig 0 l.reverse), w) := by
  have h7 := hb.1
  unfold f_X11_turned_20
  rw [show (nI 0, dI l.length) = ((fun k => (nI (dig 0 ((l.drop (l.length - k)).reverse)), dI (l.length - k))) 0) by
    dsimp only
    rw [Nat.sub_zero, List.drop_length]
    rfl]
  refine gfor0 (fun k => (nI (dig 0 ((l.drop (l.length - k)).reverse)), dI (l.length - k))) (e := l.length) (by omega) (fun k rec hk => ?_) (fun rec => ?_)
  · obtain ⟨i, hi⟩ : ∃ i, l.length - k = i + 1 := ⟨l.length - k - 1, by omega⟩
    have hi2 : l.length - (k + 1) = i := by omega
    show f_X11_turned_20_b w (fun x2 x3 => rec (x2, x3)) (nI (dig 0 ((l.drop (l.length - k)).reverse))) (dI (l.length - k)) = rec (nI (dig 0 ((l.drop (l.length - (k + 1))).reverse)), dI (l.length - (k + 1)))
    unfold f_X11_turned_20_b
    rw [hi, hi2, dI_p (by omega), dI_s, show dI (i + 1) = nI i from rfl, q_gg (by omega) (by omega), nI_clamp (by omega), hr.2 i (by omega), pk_mul, nI_add, nI_add, q_gl, getD_drop (show i < l.length by omega), List.reverse_cons, dig_a]
  · show f_X11_turned_20_b w (fun x2 x3 => rec (x2, x3)) (nI (dig 0 ((l.drop (l.length - l.length)).reverse))) (dI (l.length - l.length)) = _
    unfold f_X11_turned_20_b
    rw [Nat.sub_self, dI_0]
    rfl
theorem m_swap_32 {w : gS} {l : List Nat} (hr : RW w l) (hb : B7 l) {a b : Nat} (ha : a < 7) (hb2 : b < 7) : Ok (f_X11_swap_32 (nI a) (nI b) gF (nI 0) w) (fun q => q.1 = nI (dig 0 (l.map (swp a b))) ∧ ∀ k, k ≠ 4 → q.2 k = w k) := by
  have h7 := hb.1
  unfold f_X11_swap_32
  refine gforI0 (fun k s => s.1 = nI k ∧ (∀ j, j < l.length → s.2 4 j = nI (if j < k then swp a b (l.getD j 0) else l.getD j 0)) ∧ ∀ c, c ≠ 4 → s.2 c = w c) (e := l.length) (by omega) ⟨rfl, fun j hj => by dsimp only; rw [if_neg (by omega), hr.2 j hj], fun _ _ => rfl⟩ (fun k rec s hk hi hre => ?_) (fun rec s hi => ?_)
  · obtain ⟨x4, y⟩ := s
    obtain ⟨g1, g2, g3⟩ := hi
    dsimp only at g1 g2 g3
    subst g1
    have hx := hb.d (i := k)
    show Ok (f_X11_swap_32_b (nI a) (nI b) (fun x4 z => rec (x4, z)) (nI k) y) _
    have e4 : y 4 k = nI (l.getD k 0) := by rw [g2 k hk, if_neg (by omega)]
    have key : ∀ v : Nat, v = swp a b (l.getD k 0) → Ok (rec (nI (k + 1), gup y 4 k (nI v))) (fun q => q.1 = nI (dig 0 (l.map (swp a b))) ∧ ∀ k, k ≠ 4 → q.2 k = w k) := fun v hv => by
      refine hre _ ⟨rfl, fun j hj => ?_, fun c hc => ?_⟩
      · dsimp only
        by_cases q : j = k
        · subst q; rw [gup_s, if_pos (by omega), hv]
        · rw [gup_n (Or.inr q), g2 j hj]
          by_cases q2 : j < k
          · rw [if_pos q2, if_pos (by omega)]
          · rw [if_neg q2, if_neg (by omega)]
      · dsimp only
        funext j
        rw [gup_n (by omega), g3 c hc]
    unfold f_X11_swap_32_b
    rw [g3 0 (by omega), hr.1, if_neg (nI_ge hk (by omega)), nI_clamp (by omega), e4, q_gg (by omega) (by omega), q_ifeq (by omega) (by omega), nI_add]
    by_cases c1 : l.getD k 0 = a
    · rw [if_pos c1, q_gg (by omega) (by omega), q_gl]
      exact key b (by unfold swp; rw [if_pos c1])
    · rw [if_neg c1, q_gg (by omega) (by omega), q_ifeq (by omega) (by omega)]
      by_cases c2 : l.getD k 0 = b
      · rw [if_pos c2, q_gg (by omega) (by omega), q_gl]
        exact key a (by unfold swp; rw [if_neg c1, if_pos c2])
      · rw [if_neg c2, q_gg (by omega) (by omega), q_gg (by omega) (by omega), q_gl]
        exact key (l.getD k 0) (by unfold swp; rw [if_neg c1, if_neg c2])
  · obtain ⟨x4, y⟩ := s
    obtain ⟨g1, g2, g3⟩ := hi
    dsimp only at g1 g2 g3
    subst g1
    show Ok (f_X11_swap_32_b (nI a) (nI b) (fun x4 z => rec (x4, z)) (nI l.length) y) _
    have hr2 : RW y (l.map (swp a b)) := by
      refine ⟨?_, fun i hi => ?_⟩
      · rw [g3 0 (by omega), hr.1, List.length_map]
      · rw [List.length_map] at hi
        rw [g2 i hi, if_pos hi, getD_mm hi]
    have hb3 : B7 (l.map (swp a b)) := by
      refine ⟨by rw [List.length_map]; exact h7, fun x hx => ?_⟩
      obtain ⟨c, hc, rfl⟩ := List.mem_map.mp hx
      have := hb.2 c hc
      unfold swp
      split
      · exact hb2
      · split
        · exact ha
        · exact this
    unfold f_X11_swap_32_b
    rw [g3 0 (by omega), hr.1, if_pos (nI_le (Nat.le_refl _) (by omega)), m_digits hr2 hb3, q_gb]
    exact Ok.i ⟨rfl, g3⟩
