/-! the class's plan -/
def unB (st : Nat → Nat) (b : Nat) : Nat → Nat
  | 0 => 0
  | k + 1 => if b.testBit k then unB st b k ||| st k else unB st b k
/-- what the graves of a set have, together -/
def sn (st : Nat → Nat) (b : Nat) : Nat := unB st b 7
theorem unB_bit {st : Nat → Nat} {b j : Nat} : ∀ {n : Nat}, (unB st b n).testBit j = true ↔ ∃ g, g < n ∧ b.testBit g = true ∧ (st g).testBit j = true := by
  intro n
  induction n with
  | zero =>
    constructor
    · intro h; simp [unB] at h
    · rintro ⟨g, hg, _⟩; omega
  | succ n ih =>
    unfold unB
    by_cases e : b.testBit n = true
    · rw [if_pos e, Nat.testBit_or, Bool.or_eq_true, ih]
      constructor
      · rintro (⟨g, h1, h2⟩ | h)
        · exact ⟨g, by omega, h2⟩
        · exact ⟨n, by omega, e, h⟩
      · rintro ⟨g, h1, h2, h3⟩
        by_cases q : g = n
        · subst q; exact Or.inr h3
        · exact Or.inl ⟨g, by omega, h2, h3⟩
    · rw [if_neg e, ih]
      constructor
      · rintro ⟨g, h1, h2⟩; exact ⟨g, by omega, h2⟩
      · rintro ⟨g, h1, h2, h3⟩
        by_cases q : g = n
        · subst q; exact absurd h2 e
        · exact ⟨g, by omega, h2, h3⟩
theorem sn_bit {st : Nat → Nat} {b j : Nat} : (sn st b).testBit j = true ↔ ∃ g, g < 7 ∧ b.testBit g = true ∧ (st g).testBit j = true := unB_bit
theorem unB_lt {st : Nat → Nat} {b : Nat} (h : ∀ g, g < 7 → st g < 2 ^ 8) : ∀ n, n ≤ 7 → unB st b n < 2 ^ 8
  | 0, _ => by show (0 : Nat) < 2 ^ 8; omega
  | n + 1, hn => by
    have h1 := unB_lt (b := b) h n (by omega)
    unfold unB
    split
    · exact Nat.or_lt_two_pow h1 (h n (by omega))
    · exact h1
theorem sn_lt {st : Nat → Nat} {b : Nat} (h : ∀ g, g < 7 → st g < 2 ^ 8) : sn st b < 2 ^ 8 := unB_lt h 7 (by omega)
theorem bool_ext {a b : Bool} (h : a = true ↔ b = true) : a = b := by cases a <;> cases b <;> simp_all
theorem low_s : ∀ b, b < 128 → 0 < b → low b < 7 ∧ (b &&& (b - 1)) < b ∧ ∀ i, i < 7 → b.testBit i = ((b &&& (b - 1)).testBit i || decide (i = low b)) := by decide +kernel
theorem sn_s {st : Nat → Nat} {b : Nat} (hb : b < 128) (h0 : 0 < b) : sn st b = sn st (b &&& (b - 1)) ||| st (low b) := by
  obtain ⟨h1, _, h2⟩ := low_s b hb h0
  apply Nat.eq_of_testBit_eq
  intro j
  apply bool_ext
  rw [Nat.testBit_or, Bool.or_eq_true, sn_bit, sn_bit]
  constructor
  · rintro ⟨g, g1, g2, g3⟩
    rw [h2 g g1, Bool.or_eq_true] at g2
    rcases g2 with g2 | g2
    · exact Or.inl ⟨g, g1, g2, g3⟩
    · simp at g2; subst g2; exact Or.inr g3
  · rintro (⟨g, g1, g2, g3⟩ | h)
    · exact ⟨g, g1, by rw [h2 g g1, g2]; rfl, g3⟩
    · exact ⟨low b, h1, by rw [h2 _ h1]; simp, h⟩
/-- how many types a grave parts that follows on those ahead -/
def tol (all : Nat) (st : Nat → Nat) (b g : Nat) : Nat := pop (nd (sn st b &&& sn st (nd (nd all b) (2 ^ g))) (st g))
theorem tol_le (all : Nat) (st : Nat → Nat) (b g : Nat) : tol all st b g ≤ 8 := pop_le _
def mfP (all : Nat) (f l : Option Nat) (b g : Nat) : Bool := (decide (g < 7) && (all.testBit g && !b.testBit g)) && ((match f with | none => true | some x => (decide (g = x) == decide (b = 0))) && (match l with | none => true | some x => (decide (g = x) == decide (b ||| 2 ^ g = all))))
theorem mfP_hm (all : Nat) (f l : Option Nat) : HM all (mfP all f l) := by
  intro b g h
  unfold mfP at h
  simp only [Bool.and_eq_true, decide_eq_true_eq, Bool.not_eq_true'] at h
  exact ⟨h.1.1, h.1.2.1, h.1.2.2⟩
/-- what a plan keeps, but tail and ways -/
def PS (z : gS) (p all : Nat) (f l : Option Nat) (st : Nat → Nat) : Prop := z p 4 = nI all ∧ z p 5 = nO f ∧ z p 6 = nO l ∧ (∀ g, g < 7 → z (p + 1) g = nI (st g)) ∧ (∀ b, b ≤ all → z (p + 2) b = nI (sn st b))
def FB (f : Option Nat) : Prop := ∀ x, f = some x → x < 7
theorem q_11 {r : Sort _} {x y : r} : (if nI 1 = nI 1 then x else y) = x := if_pos rfl
theorem q_00 {r : Sort _} {x y : r} : (if nI 0 = nI 0 then x else y) = x := if_pos rfl
theorem q_10 {r : Sort _} {x y : r} : (if nI 1 = nI 0 then x else y) = y := if_neg (by decide)
theorem q_01 {r : Sort _} {x y : r} : (if nI 0 = nI 1 then x else y) = y := if_neg (by decide)
theorem q_xo {c d : Prop} [Decidable c] [Decidable d] {r : Sort _} {x y : r} : (if c then (if d then x else y) else (if d then y else x)) = if (decide c == decide d) = true then x else y := by
  by_cases e1 : c <;> by_cases e2 : d <;> simp [e1, e2]
theorem q_sb {b : Bool} : (if b = true then some (nI 1) else some (nI 0)) = some (nI b.toNat) := by cases b <;> rfl
theorem nd_lt7 {a b : Nat} (h : a < 2 ^ 7) : nd a b < 128 := nd_lt h
theorem x_mayFollow {z : gS} {p all b g : Nat} {f l : Option Nat} {st : Nat → Nat} (h : PS z p all f l st) (ha : all < 2 ^ 7) (hb : b < 2 ^ 7) (hg : g < 7) (hf : FB f) (hl : FB l) : f_X3_mayFollow p (nI b) (nI g) z = some (nI (mfP all f l b g).toNat) := by
  obtain ⟨h1, h2, h3, _, _⟩ := h
  have hp : 2 ^ g < 2 ^ 7 := Nat.pow_lt_pow_right (by omega) hg
  have hp0 : 0 < 2 ^ g := Nat.two_pow_pos g
  have hbo : b ||| 2 ^ g < 2 ^ 7 := Nat.or_lt_two_pow hb hp
  have key : f_X3_mayFollow_53 p (nI b) (nI g) (nI (2 ^ g)) z = some (nI (match l with | none => true | some x => (decide (g = x) == decide (b ||| 2 ^ g = all))).toNat) := by
    unfold f_X3_mayFollow_53
    rw [h3, h1, q_or]
    cases l with
    | none => rw [nO_none, q_ifm]; rfl
    | some x =>
      have := hl x rfl
      rw [nO_some, q_iflt0 (by omega), q_11, q_10, q_01, q_00, q_ifeq (by omega) (by omega), q_ifeq (by omega) (by omega), q_ifeq (by omega) (by omega), q_xo, q_sb]
  unfold f_X3_mayFollow
  rw [q_sh1 (by omega), q_gl, h1, h2, q_nd, q_and, and_2p, nd_bit]
  unfold mfP
  rw [decide_eq_true hg]
  cases e : (all.testBit g && !b.testBit g)
  · rw [show (if false = true then 2 ^ g else 0) = 0 from rfl, q_if00]; rfl
  · rw [show (if true = true then 2 ^ g else 0) = 2 ^ g from rfl, q_if0 (by omega), if_neg (by omega)]
    cases f with
    | none => rw [nO_none, q_ifm, key]; simp
    | some x =>
      have := hf x rfl
      rw [nO_some, q_iflt0 (by omega), q_11, q_10, q_01, q_00, q_ifeq (by omega) (by omega), q_if0 (by omega), q_if0 (by omega), q_xo, key]
      dsimp only
      cases (decide (g = x) == decide (b = 0)) <;> rfl
theorem nd_le_all {a b : Nat} : nd a b ≤ a := nd_le a b
theorem x_toll {z : gS} {p all b g : Nat} {f l : Option Nat} {st : Nat → Nat} (h : PS z p all f l st) (ha : all < 2 ^ 7) (hb : b ≤ all) (hg : g < 7) (hs : ∀ g, g < 7 → st g < 2 ^ 8) : f_X3_toll p (nI b) (nI g) z = some (nI (tol all st b g)) := by
  obtain ⟨h1, h2, h3, h4, h5⟩ := h
  have hn : nd (nd all b) (2 ^ g) ≤ all := Nat.le_trans (nd_le _ _) (nd_le _ _)
  unfold f_X3_toll
  rw [q_sh1 (by omega), h1, q_nd, q_nd, q_gg (by omega) (by omega), q_gg (by omega) (by omega), q_gg (by omega) (by omega), nI_clamp (by omega), nI_clamp (by omega), nI_clamp (by omega), h5 b hb, h5 _ hn, h4 g hg, q_and, q_nd, q_bc]
  · rfl
  · exact nd_lt (and_lt (sn_lt hs))
/-- tail and ways stand from b on -/
def TWs (z : gS) (p all : Nat) (f l : Option Nat) (st : Nat → Nat) (k : Nat) : Prop := ∀ b, k ≤ b → nd b all = 0 → z (p + 3) b = nI (mnF (csts all (mfP all f l) (tol all st) b)) ∧ z (p + 4) b = nI (wy (csts all (mfP all f l) (tol all st) b))
theorem sub_or {all b g : Nat} (hb : nd b all = 0) (h : all.testBit g = true) : nd (b ||| 2 ^ g) all = 0 := by
  rw [nd_0] at hb ⊢
  intro i hi
  rw [bt_or, Bool.or_eq_true] at hi
  rcases hi with hi | hi
  · exact hb i hi
  · simp at hi; subst hi; exact h
theorem sub_le {all b : Nat} (hb : nd b all = 0) : b ≤ all := by
  have e : b = b &&& all := by
    apply Nat.eq_of_testBit_eq
    intro i
    have := nd_0.mp hb i
    rw [Nat.testBit_and]
    cases e : b.testBit i
    · rfl
    · rw [this e]; rfl
  rw [e]
  exact Nat.and_le_right
set_option maxRecDepth 10000 in
theorem x_settle {z : gS} {p all b : Nat} {f l : Option Nat} {st : Nat → Nat} (h : PS z p all f l st) (ha : all < 2 ^ 7) (hb : nd b all = 0) (hs : ∀ g, g < 7 → st g < 2 ^ 8) (hf : FB f) (hl : FB l) (ht : TWs z p all f l st (b + 1)) : f_X3_settle p (nI b) z = some (gup (gup z (p + 3) b (nI (mnF (csts all (mfP all f l) (tol all st) b)))) (p + 4) b (nI (wy (csts all (mfP all f l) (tol all st) b)))) := by
  have hle := sub_le hb
  have hm := mfP_hm all f l
  have htl := tol_le all st
  have key : f_X3_settle_33 p z (nI b) gF (nI (mnF (agC all (mfP all f l) (tol all st) b 0))) (nI (wy (agC all (mfP all f l) (tol all st) b 0))) (nI 0) = some (gup (gup z (p + 3) b (nI (mnF (csts all (mfP all f l) (tol all st) b)))) (p + 4) b (nI (wy (csts all (mfP all f l) (tol all st) b)))) := by
    unfold f_X3_settle_33
    refine gfor0 (fun k => (nI (mnF (agC all (mfP all f l) (tol all st) b k)), nI (wy (agC all (mfP all f l) (tol all st) b k)), nI k)) (e := 7) (by omega) (fun k rec hk => ?_) (fun rec => ?_)
    · show f_X3_settle_33_b p z (nI b) (fun x2 x3 x4 => rec (x2, x3, x4)) (nI (mnF (agC all (mfP all f l) (tol all st) b k))) (nI (wy (agC all (mfP all f l) (tol all st) b k))) (nI k) = rec (nI (mnF (agC all (mfP all f l) (tol all st) b (k + 1))), nI (wy (agC all (mfP all f l) (tol all st) b (k + 1))), nI (k + 1))
      unfold f_X3_settle_33_b
      rw [if_neg (nI_ge hk (by omega)), x_mayFollow h ha (by omega) hk hf hl, q_gb, q_ifb, nI_add, agC_s]
      by_cases e : mfP all f l b k = true
      · obtain ⟨_, e2, e3⟩ := hm b k e
        have hor := or_gt e3
        have hsb := sub_or hb e2
        have hole := sub_le hsb
        obtain ⟨t1, t2⟩ := ht (b ||| 2 ^ k) hor hsb
        have hmn := mnF_le (csts all (mfP all f l) (tol all st) (b ||| 2 ^ k))
        have hmn2 := mnF_le (agC all (mfP all f l) (tol all st) b k)
        have htk := htl b k
        have hst := wy_step (agC_lt htl (all := all) (mf := mfP all f l) (b := b) (g := k)) (fun a q => Nat.lt_trans (csts_lt htl (all := all) (mf := mfP all f l) (b := b ||| 2 ^ k) a q) (by omega)) (show tol all st b k < 50 by omega)
        have hsg : sgC all (mfP all f l) (tol all st) b k = (csts all (mfP all f l) (tol all st) (b ||| 2 ^ k)).map (tol all st b k + ·) := if_pos e
        rw [if_pos e, q_sh1 (by omega), q_or, q_gl, x_toll h ha hle hk hs, q_gb, q_gg (by omega) (by omega), nI_clamp (by omega), t1, t2, nI_add, q_gl, q_ifle (by omega) (by omega), hsg]
        generalize hX : csts all (mfP all f l) (tol all st) (b ||| 2 ^ k) = X at *
        generalize hA : agC all (mfP all f l) (tol all st) b k = A at *
        obtain ⟨s1, s2, s3⟩ := hst
        rcases Nat.lt_trichotomy (tol all st b k + mnF X) (mnF A) with c | c | c
        · rw [if_neg (by omega), if_pos rfl, q_gg (by omega) (by omega), q_gl, nI_add, (s1 c).1, (s1 c).2, Nat.zero_add]
        · rw [if_pos (by omega), if_pos (by rw [c]), q_gg (by omega) (by omega), q_gl, nI_add, (s2 c).1, (s2 c).2]
        · rw [if_pos (by omega), if_neg (by rw [nI_eq (by omega) (by omega)]; omega), (s3 c).1, (s3 c).2]
      · rw [if_neg e]
        have hsg : sgC all (mfP all f l) (tol all st) b k = [] := if_neg e
        rw [hsg, List.append_nil]
    · show f_X3_settle_33_b p z (nI b) (fun x2 x3 x4 => rec (x2, x3, x4)) (nI (mnF (agC all (mfP all f l) (tol all st) b 7))) (nI (wy (agC all (mfP all f l) (tol all st) b 7))) (nI 7) = _
      unfold f_X3_settle_33_b
      rw [if_pos (nI_le (Nat.le_refl _) (by omega)), q_gg (by omega) (by omega), q_gl, q_gg (by omega) (by omega), q_gl, nI_clamp (by omega), agC_7 ha hm hb]
  unfold f_X3_settle
  rw [h.1, q_ifeq (by omega) (by omega), q_ifeq (by omega) (by omega), q_ifeq (by omega) (by omega)]
  by_cases e : b = all
  · rw [if_pos e, if_pos e, ← key]
    have e0 : agC all (mfP all f l) (tol all st) b 0 = [0] := by unfold agC; rw [if_pos e]; rfl
    rw [e0]
    rfl
  · rw [if_neg e, if_neg e, ← key]
    have e0 : agC all (mfP all f l) (tol all st) b 0 = [] := by unfold agC; rw [if_neg e]; rfl
    rw [e0]
    rfl
