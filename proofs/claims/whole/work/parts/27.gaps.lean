/-! gaps, by the row and by the tolls -/
def sumN (F : Nat → Nat) : Nat → Nat
  | 0 => 0
  | k + 1 => sumN F k + F k
theorem sumN_c {F G : Nat → Nat} : ∀ {n : Nat}, (∀ i, i < n → F i = G i) → sumN F n = sumN G n
  | 0, _ => rfl
  | n + 1, h => by
    show sumN F n + F n = sumN G n + G n
    rw [sumN_c (fun i hi => h i (by omega)), h n (by omega)]
theorem sumN_a {F G : Nat → Nat} : ∀ n : Nat, sumN (fun i => F i + G i) n = sumN F n + sumN G n
  | 0 => rfl
  | n + 1 => by
    show sumN _ n + (F n + G n) = (sumN F n + F n) + (sumN G n + G n)
    rw [sumN_a n]
    omega
theorem sumN_0 {F : Nat → Nat} : ∀ {n : Nat}, (∀ i, i < n → F i = 0) → sumN F n = 0
  | 0, _ => rfl
  | n + 1, h => by
    show sumN F n + F n = 0
    rw [sumN_0 (fun i hi => h i (by omega)), h n (by omega)]
theorem sumN_t {F : Nat → Nat} {a : Nat} : ∀ {b : Nat}, a ≤ b → (∀ i, a ≤ i → i < b → F i = 0) → sumN F b = sumN F a
  | 0, h, _ => by rw [show a = 0 by omega]
  | b + 1, h, hz => by
    by_cases e : a = b + 1
    · rw [e]
    · show sumN F b + F b = _
      rw [hz b (by omega) (by omega), sumN_t (b := b) (by omega) (fun i h1 h2 => hz i h1 (by omega))]
      rfl
theorem cntB_sum {P : Nat → Bool} : ∀ n, cntB P n = sumN (fun i => (P i).toNat) n
  | 0 => rfl
  | n + 1 => by
    show cntB P n + _ = sumN _ n + _
    rw [cntB_sum n]
def gpG (h : Nat → Bool) : List Nat → Bool → Nat
  | [], _ => 0
  | g :: l, m => if h g then gpG h l true else (m && l.any h).toNat + gpG h l m
theorem gpG_s {h : Nat → Bool} {g : Nat} {l : List Nat} {m : Bool} : gpG h (g :: l) m = if h g then gpG h l true else (m && l.any h).toNat + gpG h l m := rfl
theorem gpG_0 {h : Nat → Bool} : ∀ {l : List Nat} {m : Bool}, (∀ g ∈ l, h g = false) → gpG h l m = 0
  | [], m, _ => rfl
  | g :: l, m, hh => by
    have e : l.any h = false := by
      rw [List.any_eq_false]
      intro x hx
      rw [hh x (List.mem_cons_of_mem g hx)]
      simp
    unfold gpG
    rw [hh g (by simp), e, if_neg (by decide), gpG_0 (fun x hx => hh x (List.mem_cons_of_mem g hx)), Bool.and_false]
    rfl
theorem gpG_c {h k : Nat → Bool} : ∀ {l : List Nat} {m : Bool}, (∀ g ∈ l, h g = k g) → gpG h l m = gpG k l m
  | [], m, _ => rfl
  | g :: l, m, hh => by
    have h1 : ∀ x ∈ l, h x = k x := fun x hx => hh x (List.mem_cons_of_mem g hx)
    have e : l.any h = l.any k := by
      apply bool_ext
      rw [List.any_eq_true, List.any_eq_true]
      constructor
      · rintro ⟨x, hx, q⟩; exact ⟨x, hx, by rw [← h1 x hx]; exact q⟩
      · rintro ⟨x, hx, q⟩; exact ⟨x, hx, by rw [h1 x hx]; exact q⟩
    unfold gpG
    rw [hh g (by simp), e, gpG_c h1, gpG_c h1]
theorem plm_mem {all : Nat} {mf : Nat → Nat → Bool} (hm : HM all mf) (ha : all < 2 ^ 7) : ∀ n b l, rm all b = n → nd b all = 0 → l ∈ plm mf n b → ∀ x, x ∈ l ↔ (all.testBit x = true ∧ b.testBit x = false)
  | 0, b, l, hn, hb, hl, x => by
    have hl : l ∈ [[]] := hl
    simp at hl
    subst hl
    have e := rm_0 ha hb hn
    subst e
    constructor
    · intro h; cases h
    · rintro ⟨h1, h2⟩; rw [h1] at h2; cases h2
  | n + 1, b, l, hn, hb, hl, x => by
    obtain ⟨g, r, h1, h2, h3, rfl⟩ := plm_m.mp hl
    obtain ⟨_, h4, h5⟩ := hm b g h2
    have hr := rm_s h4 h5 h1
    have ih := plm_mem hm ha n (b ||| 2 ^ g) r (by omega) (sub_or hb h4) h3 x
    rw [List.mem_cons, ih, bt_or]
    constructor
    · rintro (rfl | ⟨q1, q2⟩)
      · exact ⟨h4, h5⟩
      · exact ⟨q1, by cases e : b.testBit x <;> simp_all⟩
    · rintro ⟨q1, q2⟩
      by_cases e : x = g
      · exact Or.inl e
      · exact Or.inr ⟨q1, by rw [q2]; simp; omega⟩
theorem tol_sum {all b g : Nat} {st : Nat → Nat} : tol all st b g = sumN (fun t => ((sn st b).testBit t && (sn st (nd (nd all b) (2 ^ g))).testBit t && !(st g).testBit t).toNat) 8 := by
  unfold tol pop
  rw [cntB_sum]
  apply sumN_c
  intro t _
  try dsimp only
  rw [nd_bit, Nat.testBit_and]
theorem cst_gp {all : Nat} {mf : Nat → Nat → Bool} {st : Nat → Nat} (hm : HM all mf) (ha : all < 2 ^ 7) : ∀ n b l, rm all b = n → nd b all = 0 → l ∈ plm mf n b → cst (tol all st) b l = sumN (fun t => gpG (fun x => (st x).testBit t) l ((sn st b).testBit t)) 8
  | 0, b, l, hn, hb, hl => by
    have hl : l ∈ [[]] := hl
    simp at hl
    subst hl
    exact (sumN_0 (fun _ _ => rfl)).symm
  | n + 1, b, l, hn, hb, hl => by
    obtain ⟨g, r, h1, h2, h3, rfl⟩ := plm_m.mp hl
    obtain ⟨_, h4, h5⟩ := hm b g h2
    have hr := rm_s h4 h5 h1
    have hsb := sub_or hb h4
    have ih := cst_gp (st := st) hm ha n (b ||| 2 ^ g) r (by omega) hsb h3
    have hmem := plm_mem hm ha n (b ||| 2 ^ g) r (by omega) hsb h3
    show tol all st b g + cst (tol all st) (b ||| 2 ^ g) r = _
    rw [ih, tol_sum, ← sumN_a]
    apply sumN_c
    intro t _
    try dsimp only
    have e1 : (sn st (nd (nd all b) (2 ^ g))).testBit t = r.any (fun x => (st x).testBit t) := by
      apply bool_ext
      rw [sn_bit, List.any_eq_true]
      constructor
      · rintro ⟨x, q1, q2, q3⟩
        refine ⟨x, ?_, q3⟩
        rw [nd_bit, nd_bit, Nat.testBit_two_pow] at q2
        rw [hmem, bt_or]
        revert q2
        cases all.testBit x <;> cases b.testBit x <;> simp
      · rintro ⟨x, q1, q3⟩
        refine ⟨x, plm_lt h3 x q1, ?_, q3⟩
        rw [hmem, bt_or] at q1
        rw [nd_bit, nd_bit, Nat.testBit_two_pow]
        revert q1
        cases all.testBit x <;> cases b.testBit x <;> simp
    have e2 : (sn st (b ||| 2 ^ g)).testBit t = ((sn st b).testBit t || (st g).testBit t) := by
      apply bool_ext
      rw [Bool.or_eq_true, sn_bit, sn_bit]
      constructor
      · rintro ⟨x, q1, q2, q3⟩
        rw [bt_or, Bool.or_eq_true] at q2
        rcases q2 with q2 | q2
        · exact Or.inl ⟨x, q1, q2, q3⟩
        · simp at q2; subst q2; exact Or.inr q3
      · rintro (⟨x, q1, q2, q3⟩ | q)
        · exact ⟨x, q1, by rw [bt_or, q2]; rfl, q3⟩
        · exact ⟨g, h1, by rw [bt_or]; simp, q⟩
    rw [e1, e2]
    conv => rhs; unfold gpG
    cases c : (st g).testBit t
    · simp
    · simp
def gpT (s : Nat → Nat) (t : Nat) (l : List Nat) : Nat := gpG (fun x => (s x).testBit t) l false
/-- the gaps of a row by some types -/
def gpS (d : Dat) (ty : Nat) (l : List Nat) : Nat := sumN (fun t => if ty.testBit t then gpT (ds d) t l else 0) (dt d)
theorem bit_hi {a t n : Nat} (h : a < 2 ^ n) (hn : n ≤ t) : a.testBit t = false := Nat.testBit_lt_two_pow (Nat.lt_of_lt_of_le h (Nat.pow_le_pow_right (by omega) hn))
theorem sn_none {d : Dat} (v : VD d) {ty : Nat} {l : List Nat} (hl : ∀ x ∈ l, x < dg d) : sumN (fun t => gpG (fun x => (stT d ty x).testBit t) l false) 8 = gpS d ty l := by
  unfold gpS
  have e : ∀ t x, x ∈ l → (stT d ty x).testBit t = ((ds d x).testBit t && ty.testBit t) := fun t x hx => by
    unfold stT
    rw [if_pos (hl x hx), Nat.testBit_and]
  rw [sumN_t (a := dt d) v.2.1 (fun t h1 h2 => ?_)]
  · apply sumN_c
    intro t _
    try dsimp only
    cases c : ty.testBit t
    · exact gpG_0 (fun x hx => by rw [e t x hx, c, Bool.and_false])
    · unfold gpT
      exact gpG_c (fun x hx => by rw [e t x hx, c, Bool.and_true])
  · refine gpG_0 (fun x hx => ?_)
    rw [e t x hx, bit_hi (v.2.2.2.1 x (hl x hx)) h1, Bool.false_and]
theorem cst_gpS {all ty : Nat} {mf : Nat → Nat → Bool} {d : Dat} (v : VD d) (hm : HM all mf) (ha : all < 2 ^ dg d) {l : List Nat} (hl : l ∈ plm mf (rm all 0) 0) : cst (tol all (stT d ty)) 0 l = gpS d ty l := by
  have ha7 : all < 2 ^ 7 := Nat.lt_of_lt_of_le ha (Nat.pow_le_pow_right (by omega) v.1)
  rw [cst_gp hm ha7 _ 0 l rfl nd0 hl, ← sn_none v]
  · apply sumN_c
    intro t _
    rw [sn_0, Nat.zero_testBit]
  · intro x hx
    rw [plm_mem hm ha7 _ 0 l rfl nd0 hl] at hx
    apply Nat.lt_of_not_le
    intro q
    rw [bit_hi ha q] at hx
    cases hx.1
/-! the reference counts them -/
theorem RW.d {w : gS} {l : List Nat} (h : RW w l) {i : Nat} (hi : i < l.length) : w 4 i = nI (l.getD i 0) := h.2 i hi
theorem getD_drop {l : List Nat} {i : Nat} (h : i < l.length) : l.drop i = l.getD i 0 :: l.drop (i + 1) := by
  rw [List.drop_eq_getElem_cons h, List.getD_eq_getElem?_getD, List.getElem?_eq_getElem h]
  rfl
/-- what the reference's loop over a row holds: nothing met yet, or the first, the last and how many -/
theorem m_gapsOf_2 {w : gS} {d : Dat} (h : SM w d) (v : VD d) {l : List Nat} (hr : RW w l) (hb : B7 l) (hg : ∀ x ∈ l, x < dg d) {t : Nat} (ht : t < 8) : ∀ j i f la n m, i + j = l.length → j < m → f ≤ la → la < i → 1 ≤ n → n ≤ la + 1 - f → f_X11_gapsOf_10 w (nI t) m (nI f) (nI la) (nI n) (nI i) = some (nI ((la + 1 - f - n) + (if (l.drop i).any (fun x => (ds d x).testBit t) then i - 1 - la else 0) + gpG (fun x => (ds d x).testBit t) (l.drop i) true))
  | j, i, f, la, n, 0, _, hm, _, _, _, _ => by omega
  | 0, i, f, la, n, m + 1, hi, hm, h1, h2, h3, h4 => by
    have h7 := hb.1
    show f_X11_gapsOf_10_b w (nI t) (fun x2 x3 x4 x5 => f_X11_gapsOf_10 w (nI t) m x2 x3 x4 x5) (nI f) (nI la) (nI n) (nI i) = _
    unfold f_X11_gapsOf_10_b
    rw [hr.1, if_pos (nI_le (by omega) (by omega)), q_if0 (by omega), if_neg (by omega), pk_sub h1, nI_add, pk_sub (by omega), List.drop_of_length_le (by omega)]
    simp only [List.any_nil, Bool.false_eq_true, if_false, gpG]
    rw [show la - f + 1 - n = la + 1 - f - n + 0 + 0 by omega]
  | j + 1, i, f, la, n, m + 1, hi, hm, h1, h2, h3, h4 => by
    have h7 := hb.1
    have hil : i < l.length := by omega
    have hx : l.getD i 0 ∈ l := by
      rw [List.getD_eq_getElem?_getD, List.getElem?_eq_getElem hil]
      exact List.getElem_mem hil
    have hxg := hg _ hx
    have hs := v.s hxg
    have v1 := v.1
    show f_X11_gapsOf_10_b w (nI t) (fun x2 x3 x4 x5 => f_X11_gapsOf_10 w (nI t) m x2 x3 x4 x5) (nI f) (nI la) (nI n) (nI i) = _
    unfold f_X11_gapsOf_10_b
    rw [hr.1, if_neg (nI_ge hil (by omega)), q_gg (by omega) (by omega), nI_clamp (by omega), hr.2 i hil, q_gg (by omega) (by omega), nI_clamp (by omega), h.2.2.2.1 _ hxg, m_has (by omega) (by omega), q_gb, q_ifb, nI_add, nI_add, if_neg (nI_ne_m1 (by omega)), getD_drop hil]
    generalize hgx : l.getD i 0 = g at *
    have ea : (g :: l.drop (i + 1)).any (fun x => (ds d x).testBit t) = ((ds d g).testBit t || (l.drop (i + 1)).any (fun x => (ds d x).testBit t)) := rfl
    cases c : (ds d g).testBit t
    · rw [if_neg (by decide)]
      dsimp only
      rw [m_gapsOf_2 h v hr hb hg ht j (i + 1) f la n m (by omega) (by omega) h1 (by omega) h3 h4, ea, c, Bool.false_or]
      rw [gpG_s]
      try dsimp only
      rw [c, if_neg (show ¬ false = true by decide), Bool.true_and]
      congr 2
      cases (l.drop (i + 1)).any (fun x => (ds d x).testBit t)
      · simp
      · simp
        omega
    · rw [if_pos rfl]
      dsimp only
      rw [m_gapsOf_2 h v hr hb hg ht j (i + 1) f i (n + 1) m (by omega) (by omega) (by omega) (by omega) (by omega) (by omega), ea, c, Bool.true_or, if_pos rfl]
      conv => rhs; unfold gpG
      try dsimp only
      rw [c, if_pos rfl]
      congr 2
      split <;> omega
theorem m_gapsOf_1 {w : gS} {d : Dat} (h : SM w d) (v : VD d) {l : List Nat} (hr : RW w l) (hb : B7 l) (hg : ∀ x ∈ l, x < dg d) {t : Nat} (ht : t < 8) : ∀ j i m, i + j = l.length → j < m → f_X11_gapsOf_10 w (nI t) m gm1 gm1 (nI 0) (nI i) = some (nI (gpG (fun x => (ds d x).testBit t) (l.drop i) false))
  | j, i, 0, _, hm => by omega
  | 0, i, m + 1, hi, hm => by
    have h7 := hb.1
    show f_X11_gapsOf_10_b w (nI t) (fun x2 x3 x4 x5 => f_X11_gapsOf_10 w (nI t) m x2 x3 x4 x5) gm1 gm1 (nI 0) (nI i) = _
    unfold f_X11_gapsOf_10_b
    rw [hr.1, if_pos (nI_le (by omega) (by omega)), q_if00, List.drop_of_length_le (by omega)]
    rfl
  | j + 1, i, m + 1, hi, hm => by
    have h7 := hb.1
    have hil : i < l.length := by omega
    have hx : l.getD i 0 ∈ l := by
      rw [List.getD_eq_getElem?_getD, List.getElem?_eq_getElem hil]
      exact List.getElem_mem hil
    have hxg := hg _ hx
    have hs := v.s hxg
    have v1 := v.1
    show f_X11_gapsOf_10_b w (nI t) (fun x2 x3 x4 x5 => f_X11_gapsOf_10 w (nI t) m x2 x3 x4 x5) gm1 gm1 (nI 0) (nI i) = _
    unfold f_X11_gapsOf_10_b
    rw [hr.1, if_neg (nI_ge hil (by omega)), q_gg (by omega) (by omega), nI_clamp (by omega), hr.2 i hil, q_gg (by omega) (by omega), nI_clamp (by omega), h.2.2.2.1 _ hxg, m_has (by omega) (by omega), q_gb, q_ifb, nI_add, nI_add, if_pos rfl, getD_drop hil]
    generalize hgx : l.getD i 0 = g at *
    cases c : (ds d g).testBit t
    · rw [if_neg (by decide)]
      dsimp only
      rw [m_gapsOf_1 h v hr hb hg ht j (i + 1) m (by omega) (by omega)]
      conv => rhs; unfold gpG
      try dsimp only
      rw [c, if_neg (by decide), Bool.false_and]
      simp
    · rw [if_pos rfl]
      dsimp only
      rw [m_gapsOf_2 h v hr hb hg ht j (i + 1) i i (0 + 1) m (by omega) (by omega) (by omega) (by omega) (by omega) (by omega)]
      conv => rhs; unfold gpG
      try dsimp only
      rw [c, if_pos rfl]
      congr 2
      split <;> omega
theorem m_gapsOf {w : gS} {d : Dat} (h : SM w d) (v : VD d) {l : List Nat} (hr : RW w l) (hb : B7 l) (hg : ∀ x ∈ l, x < dg d) {t : Nat} (ht : t < 8) : f_X11_gapsOf (nI t) w = some (nI (gpT (ds d) t l)) := by
  have h7 := hb.1
  unfold f_X11_gapsOf
  rw [m_gapsOf_1 h v hr hb hg ht l.length 0 gF (by omega) (q_gF (by omega))]
  rfl
theorem m_gapsNow {w : gS} {d : Dat} (h : SM w d) (v : VD d) {l : List Nat} (hr : RW w l) (hb : B7 l) (hg : ∀ x ∈ l, x < dg d) {ty : Nat} (hty : w 0 8 = nI ty) (ht : ty < 256) : f_X11_gapsNow w = some (nI (gpS d ty l)) := by
  have v2 := v.2.1
  unfold f_X11_gapsNow f_X11_gapsNow_4 gpS
  refine gfor0 (fun k => (nI (sumN (fun t => if ty.testBit t then gpT (ds d) t l else 0) k), nI k)) (e := dt d) (by omega) (fun k rec hk => ?_) (fun rec => ?_)
  · show f_X11_gapsNow_4_b w (fun x1 x2 => rec (x1, x2)) (nI (sumN _ k)) (nI k) = rec (nI (sumN _ k + _), nI (k + 1))
    unfold f_X11_gapsNow_4_b
    rw [h.2.1, if_neg (nI_ge hk (by omega)), hty, m_has (by omega) (by omega), q_gb, q_ifb, nI_add, nI_add, q_gl]
    cases c : ty.testBit k
    · simp [c]
    · rw [if_pos rfl, m_gapsOf h v hr hb hg (by omega), q_gb, nI_add, q_gl]
      simp [c]
  · show f_X11_gapsNow_4_b w (fun x1 x2 => rec (x1, x2)) (nI (sumN _ (dt d))) (nI (dt d)) = _
    unfold f_X11_gapsNow_4_b
    rw [h.2.1, if_pos (nI_le (Nat.le_refl _) (by omega))]
theorem m_digits {w : gS} {l : List Nat} (hr : RW w l) (hb : B7 l) : f_X11_digits w = some (nI (dig 0 l)) := by
  have h7 := hb.1
  have key : ∀ j i v m, i + j = l.length → j < m → f_X11_digits_4 w m (nI v) (nI i) = some (nI (dig v (l.drop i))) := by
    intro j
    induction j with
    | zero =>
      intro i v m hi hm
      obtain ⟨m, rfl⟩ : ∃ k, m = k + 1 := ⟨m - 1, by omega⟩
      show f_X11_digits_4_b w (fun x1 x2 => f_X11_digits_4 w m x1 x2) (nI v) (nI i) = _
      unfold f_X11_digits_4_b
      rw [hr.1, if_pos (nI_le (by omega) (by omega)), List.drop_of_length_le (by omega)]
      rfl
    | succ j ih =>
      intro i v m hi hm
      obtain ⟨m, rfl⟩ : ∃ k, m = k + 1 := ⟨m - 1, by omega⟩
      show f_X11_digits_4_b w (fun x1 x2 => f_X11_digits_4 w m x1 x2) (nI v) (nI i) = _
      unfold f_X11_digits_4_b
      rw [hr.1, if_neg (nI_ge (show i < l.length by omega) (by omega)), q_gg (by omega) (by omega), nI_clamp (by omega), hr.2 i (by omega), pk_mul, nI_add, nI_add, q_gl, nI_add]
      dsimp only
      rw [ih (i + 1) _ m (by omega) (by omega), getD_drop (show i < l.length by omega)]
      rfl
  unfold f_X11_digits
  rw [key l.length 0 0 gF (by omega) (q_gF (by omega))]
  rfl
