/-! chains, walks -/
theorem bstN_ok (d : Dat) (l u : Nat) : ∀ k, (∀ b, bstN d l u k = some b → b < k ∧ u.testBit b = false) ∧ (bstN d l u k = none → ∀ i, i < k → u.testBit i = true)
  | 0 => ⟨fun b h => (by cases h), fun _ i hi => (by omega)⟩
  | k + 1 => by
    obtain ⟨h1, h2⟩ := bstN_ok d l u k
    cases e : u.testBit k
    · have e0 : bstN d l u (k + 1) = match bstN d l u k with | none => some k | some b => if nearer d l k b then some k else some b := by
        conv => lhs; unfold bstN
        rw [e]; rfl
      rw [e0]
      cases e2 : bstN d l u k with
      | none => exact ⟨fun b h => by cases h; exact ⟨by omega, e⟩, fun h => by cases h⟩
      | some c =>
        have h3 := h1 c e2
        dsimp only
        split
        · exact ⟨fun b h => by cases h; exact ⟨by omega, e⟩, fun h => by cases h⟩
        · exact ⟨fun b h => by cases h; exact ⟨by omega, h3.2⟩, fun h => by cases h⟩
    · have e0 : bstN d l u (k + 1) = bstN d l u k := by
        conv => lhs; unfold bstN
        rw [e]; rfl
      rw [e0]
      refine ⟨fun b h => ⟨by have := (h1 b h).1; omega, (h1 b h).2⟩, fun h i hi => ?_⟩
      by_cases q : i = k
      · subst q; exact e
      · exact h2 h i (by omega)
def chF (d : Dat) : Nat → Nat → Nat → Nat → Nat
  | 0, _, _, o => o
  | r + 1, l, u, o => match bstN d l u (dg d) with
    | none => o
    | some b => chF d r b (u ||| 2 ^ b) (10 * o + b + 1)
theorem full_some {n u : Nat} (h : rm (2 ^ n - 1) u ≠ 0) (hn : n ≤ 7) : ∃ k, k < n ∧ u.testBit k = false := by
  apply Classical.byContradiction
  intro hc
  apply h
  have : ∀ k, k ≤ 7 → cntB (fun g => (2 ^ n - 1).testBit g && !u.testBit g) k = 0 := fun k => by
    induction k with
    | zero => intro _; rfl
    | succ k ih =>
      intro hk
      show cntB _ k + ((2 ^ n - 1).testBit k && !u.testBit k).toNat = 0
      rw [ih (by omega), Nat.testBit_two_pow_sub_one]
      by_cases e1 : k < n
      · cases e2 : u.testBit k
        · exact absurd ⟨k, e1, e2⟩ hc
        · simp
      · simp [e1]
  exact this 7 (by omega)
theorem bstN_some {d : Dat} {l u : Nat} (hn : dg d ≤ 7) (h : rm (2 ^ dg d - 1) u ≠ 0) : ∃ b, bstN d l u (dg d) = some b ∧ b < dg d ∧ u.testBit b = false := by
  obtain ⟨h1, h2⟩ := bstN_ok d l u (dg d)
  cases e : bstN d l u (dg d) with
  | none =>
    obtain ⟨k, k1, k2⟩ := full_some h hn
    have := h2 e k k1
    rw [k2] at this
    cases this
  | some b => exact ⟨b, rfl, h1 b e⟩
theorem x_chain_27 {z : gS} {d : Dat} (h : SX z 1 d) (v : VD d) : ∀ r l u o i m, i + r = dg d → r < m → l < dg d → u ≤ 2 ^ dg d - 1 → rm (2 ^ dg d - 1) u = r → f_X10_chain_27 z m (nI l) (nI u) (nI o) (nI i) = some (nI (chF d r l u o))
  | r, l, u, o, i, 0, _, hm, _, _, _ => by omega
  | 0, l, u, o, i, m + 1, hi, hm, hl, hu, hr => by
    have v1 := v.1
    show f_X10_chain_27_b z (fun x2 x3 x4 x5 => f_X10_chain_27 z m x2 x3 x4 x5) (nI l) (nI u) (nI o) (nI i) = _
    unfold f_X10_chain_27_b
    rw [h.1, if_pos (nI_le (by omega) (by omega))]
    rfl
  | r + 1, l, u, o, i, m + 1, hi, hm, hl, hu, hr => by
    have v1 := v.1
    have hf := full_lt v1
    obtain ⟨b, b1, b2, b3⟩ := bstN_some (d := d) (l := l) (u := u) v1 (by omega)
    have hrm := rm_s (full_bit b2) b3 (by omega)
    have hsb := sub_le (sub_or (full_sub hu) (full_bit b2))
    show f_X10_chain_27_b z (fun x2 x3 x4 x5 => f_X10_chain_27 z m x2 x3 x4 x5) (nI l) (nI u) (nI o) (nI i) = _
    unfold f_X10_chain_27_b
    rw [h.1, if_neg (nI_ge (show i < dg d by omega) (by omega)), x_nearest h v hl (by omega), q_gb, b1, nO_some, q_sh1 (by omega), q_or, q_gl, pk_mul, nI_add, nI_add, q_gl, nI_add]
    dsimp only
    rw [x_chain_27 h v r b (u ||| 2 ^ b) _ (i + 1) m (by omega) (by omega) b2 hsb (by omega)]
    conv => rhs; unfold chF
    rw [b1, Nat.mul_comm]
theorem m_chain_21 {w : gS} {d : Dat} (h : SM w d) (v : VD d) : ∀ r l u o m, r < m → l < dg d → u ≤ 2 ^ dg d - 1 → rm (2 ^ dg d - 1) u = r → f_X11_chain_21 w m (nI o) (nI u) (nI l) = some (nI (chF d r l u o))
  | r, l, u, o, 0, hm, _, _, _ => by omega
  | 0, l, u, o, m + 1, hm, hl, hu, hr => by
    have v1 := v.1
    have hf := full_lt v1
    have e := rm_0 hf (full_sub hu) hr
    show f_X11_chain_21_b w (fun x2 x3 x4 => f_X11_chain_21 w m x2 x3 x4) (nI o) (nI u) (nI l) = _
    unfold f_X11_chain_21_b
    rw [m_all h v, q_gb, if_pos (by rw [e])]
    rfl
  | r + 1, l, u, o, m + 1, hm, hl, hu, hr => by
    have v1 := v.1
    have hf := full_lt v1
    obtain ⟨b, b1, b2, b3⟩ := bstN_some (d := d) (l := l) (u := u) v1 (by omega)
    have hrm := rm_s (full_bit b2) b3 (by omega)
    have hsb := sub_le (sub_or (full_sub hu) (full_bit b2))
    show f_X11_chain_21_b w (fun x2 x3 x4 => f_X11_chain_21 w m x2 x3 x4) (nI o) (nI u) (nI l) = _
    unfold f_X11_chain_21_b
    rw [m_all h v, q_gb, q_ifeq (by omega) (by omega), if_neg (fun q => by rw [q, rm_all] at hr; omega), m_chain_in h v hl (by omega), b1, nO_some, pk_mul, nI_add, nI_add, q_sh1 (by omega), q_or]
    try dsimp only
    rw [m_chain_21 h v r b (u ||| 2 ^ b) _ m (by omega) b2 hsb (by omega)]
    conv => rhs; unfold chF
    rw [b1]
/-! walks -/
theorem neg_le {a b : Nat} (ha : a < 2 ^ 31) (hb : b < 2 ^ 31) : -nI a ≤ -nI b ↔ b ≤ a := by
  rw [Int32.le_iff_toInt_le, Int32.toInt_neg, Int32.toInt_neg, nI_toInt ha, nI_toInt hb, Int.bmod_eq_of_le (by omega) (by omega), Int.bmod_eq_of_le (by omega) (by omega)]
  omega
def wW (d : Dat) (r g : Nat) : Int32 := if r = 0 then -nI (da d g) else if r = 1 then nI (pop (ds d g)) else if r = 2 then nI (sp_friends d g) else -nI (ds d g)
def wK (d : Dat) (r g : Nat) : Int32 := if r = 0 then nI (da d g) else if r = 1 then -nI (pop (ds d g)) else if r = 2 then -nI (sp_friends d g) else nI (ds d g)
/-- whether g is ahead of b by a rule -/
def wA (d : Dat) (r g b : Nat) : Bool := if r = 0 then decide (da d g < da d b) else if r = 1 then decide (pop (ds d b) < pop (ds d g)) else if r = 2 then decide (sp_friends d b < sp_friends d g) else decide (ds d g < ds d b)
theorem sp_fr_le (d : Dat) (g : Nat) : sp_friends d g ≤ dg d := cntB_le _ _
theorem wW_le {d : Dat} (v : VD d) {r g b : Nat} (hg : g < dg d) (hb : b < dg d) {t : Sort _} {x y : t} : (if wW d r g ≤ wW d r b then x else y) = if wA d r g b = true then y else x := by
  have h1 := v.a hg
  have h2 := v.a hb
  have h3 := v.s hg
  have h4 := v.s hb
  have h5 := pop_le (ds d g)
  have h6 := pop_le (ds d b)
  have h7 := sp_fr_le d g
  have h8 := sp_fr_le d b
  have v1 := v.1
  have key : wW d r g ≤ wW d r b ↔ ¬ wA d r g b = true := by
    unfold wW wA
    by_cases e0 : r = 0
    · rw [if_pos e0, if_pos e0, if_pos e0, neg_le (by omega) (by omega)]; simp
    · rw [if_neg e0, if_neg e0, if_neg e0]
      by_cases e1 : r = 1
      · rw [if_pos e1, if_pos e1, if_pos e1, nI_leI (by omega) (by omega)]; simp
      · rw [if_neg e1, if_neg e1, if_neg e1]
        by_cases e2 : r = 2
        · rw [if_pos e2, if_pos e2, if_pos e2, nI_leI (by omega) (by omega)]; simp
        · rw [if_neg e2, if_neg e2, if_neg e2, neg_le (by omega) (by omega)]; simp
  by_cases c : wA d r g b = true
  · rw [if_pos c, if_neg (fun q => key.mp q c)]
  · rw [if_neg c, if_pos (key.mpr c)]
theorem wK_le {d : Dat} (v : VD d) {r g b : Nat} (hg : g < dg d) (hb : b < dg d) {t : Sort _} {x y : t} : (if wK d r b ≤ wK d r g then x else y) = if wA d r g b = true then y else x := by
  have h1 := v.a hg
  have h2 := v.a hb
  have h3 := v.s hg
  have h4 := v.s hb
  have h5 := pop_le (ds d g)
  have h6 := pop_le (ds d b)
  have h7 := sp_fr_le d g
  have h8 := sp_fr_le d b
  have v1 := v.1
  have key : wK d r b ≤ wK d r g ↔ ¬ wA d r g b = true := by
    unfold wK wA
    by_cases e0 : r = 0
    · rw [if_pos e0, if_pos e0, if_pos e0, nI_leI (by omega) (by omega)]; simp
    · rw [if_neg e0, if_neg e0, if_neg e0]
      by_cases e1 : r = 1
      · rw [if_pos e1, if_pos e1, if_pos e1, neg_le (by omega) (by omega)]; simp
      · rw [if_neg e1, if_neg e1, if_neg e1]
        by_cases e2 : r = 2
        · rw [if_pos e2, if_pos e2, if_pos e2, neg_le (by omega) (by omega)]; simp
        · rw [if_neg e2, if_neg e2, if_neg e2, nI_leI (by omega) (by omega)]; simp
  by_cases c : wA d r g b = true
  · rw [if_pos c, if_neg (fun q => key.mp q c)]
  · rw [if_neg c, if_pos (key.mpr c)]
def bstW (d : Dat) (r u : Nat) : Nat → Option Nat
  | 0 => none
  | k + 1 => if u.testBit k then bstW d r u k else match bstW d r u k with
    | none => some k
    | some b => if wA d r k b then some k else some b
theorem bstW_s (d : Dat) (r u k : Nat) : bstW d r u (k + 1) = if u.testBit k then bstW d r u k else match bstW d r u k with | none => some k | some b => if wA d r k b then some k else some b := rfl
theorem bstW_ok (d : Dat) (r u : Nat) : ∀ k, (∀ b, bstW d r u k = some b → b < k ∧ u.testBit b = false) ∧ (bstW d r u k = none → ∀ i, i < k → u.testBit i = true)
  | 0 => ⟨fun b h => (by cases h), fun _ i hi => (by omega)⟩
  | k + 1 => by
    obtain ⟨h1, h2⟩ := bstW_ok d r u k
    rw [bstW_s]
    cases e : u.testBit k
    · rw [if_neg (by decide)]
      cases e2 : bstW d r u k with
      | none => exact ⟨fun b h => by cases h; exact ⟨by omega, e⟩, fun h => by cases h⟩
      | some c =>
        have h3 := h1 c e2
        dsimp only
        split
        · exact ⟨fun b h => by cases h; exact ⟨by omega, e⟩, fun h => by cases h⟩
        · exact ⟨fun b h => by cases h; exact ⟨by omega, h3.2⟩, fun h => by cases h⟩
    · rw [if_pos rfl]
      refine ⟨fun b h => ⟨by have := (h1 b h).1; omega, (h1 b h).2⟩, fun h i hi => ?_⟩
      by_cases q : i = k
      · subst q; exact e
      · exact h2 h i (by omega)
theorem x_weight {z : gS} {p : Nat} {d : Dat} (h : SX z p d) (v : VD d) {r g : Nat} (hr : r ≤ 3) (hg : g < dg d) : f_X5_weight p (nI g) (nI r) z = some (wW d r g) := by
  have v1 := v.1
  unfold f_X5_weight wW
  rw [q_ifeq (by omega) (by omega), q_ifeq (by omega) (by omega), q_ifeq (by omega) (by omega), q_gg (by omega) (by omega), q_gg (by omega) (by omega), q_gg (by omega) (by omega), nI_clamp (by omega), h.2.2.1 g hg, h.2.2.2.1 g hg, q_bc (v.s hg), q_gb, x_friends h v hg, q_gb]
  split
  · rfl
  · split
    · rfl
    · split <;> rfl
theorem m_keyOf {w : gS} {d : Dat} (h : SM w d) (v : VD d) {r g : Nat} (hr : r ≤ 3) (hg : g < dg d) : f_X11_keyOf (nI r) (nI g) w = some (wK d r g) := by
  have v1 := v.1
  unfold f_X11_keyOf wK
  rw [q_if0 (by omega), q_ifeq (by omega) (by omega), q_ifeq (by omega) (by omega), q_gg (by omega) (by omega), q_gg (by omega) (by omega), q_gg (by omega) (by omega), nI_clamp (by omega), h.2.2.1 g hg, h.2.2.2.1 g hg, q_bits (v.s hg), q_gb, m_sharers h v hg, q_gb]
  split
  · rfl
  · split
    · rfl
    · split <;> rfl
def wWo (d : Dat) (r : Nat) (o : Option Nat) : Int32 := match o with
  | none => nI 0
  | some b => wW d r b
theorem x_foremost {z : gS} {p : Nat} {d : Dat} (h : SX z p d) (v : VD d) {r u : Nat} (hr : r ≤ 3) (hu : u < 256) : f_X5_foremost p (nI r) (nI u) z = some (nO (bstW d r u (dg d))) := by
  have v1 := v.1
  unfold f_X5_foremost f_X5_foremost_8
  refine gfor0 (fun k => (nO (bstW d r u k), wWo d r (bstW d r u k), nI k)) (e := dg d) (by omega) (fun k rec hk => ?_) (fun rec => ?_)
  · show f_X5_foremost_8_b p z (nI r) (nI u) (fun x3 x4 x5 => rec (x3, x4, x5)) (nO (bstW d r u k)) (wWo d r (bstW d r u k)) (nI k) = rec (nO (bstW d r u (k + 1)), wWo d r (bstW d r u (k + 1)), nI (k + 1))
    unfold f_X5_foremost_8_b
    rw [h.1, if_neg (nI_ge hk (by omega)), q_bit (by omega) (by omega), q_ifb, nI_add, x_weight h v hr hk, q_gb, bstW_s]
    have hok := (bstW_ok d r u k).1
    cases e : u.testBit k
    · rw [if_neg (show ¬ false = true by decide), if_neg (show ¬ false = true by decide)]
      cases e2 : bstW d r u k with
      | none => rw [nO_none, q_ifm]; rfl
      | some b =>
        have hb := (hok b e2).1
        rw [nO_some, q_iflt0 (by omega)]
        show (if wW d r k ≤ wW d r b then _ else _) = _
        rw [wW_le v hk (by omega)]
        dsimp only
        cases wA d r k b <;> rfl
    · rw [if_pos rfl, if_pos rfl]
  · show f_X5_foremost_8_b p z (nI r) (nI u) (fun x3 x4 x5 => rec (x3, x4, x5)) (nO (bstW d r u (dg d))) (wWo d r (bstW d r u (dg d))) (nI (dg d)) = _
    unfold f_X5_foremost_8_b
    rw [h.1, if_pos (nI_le (Nat.le_refl _) (by omega))]
theorem m_walk_34 {w : gS} {d : Dat} (h : SM w d) (v : VD d) {r u : Nat} (hr : r ≤ 3) (hu : u < 256) {x2 x4 : Int32} {K : Int32 → Int32 → Int32 → Option Int32} : f_X11_walk_34 w (nI r) x2 (nI u) x4 K gF gm1 (nI 0) = K (((nI 10 * x2) + nO (bstW d r u (dg d))) + nI 1) (nI u ||| (nI 1 <<< (nO (bstW d r u (dg d)) &&& 31))) (x4 + nI 1) := by
  have v1 := v.1
  unfold f_X11_walk_34
  refine gfor0 (fun k => (nO (bstW d r u k), nI k)) (e := dg d) (by omega) (fun k rec hk => ?_) (fun rec => ?_)
  · show f_X11_walk_34_b w (nI r) x2 (nI u) x4 K (fun x5 x6 => rec (x5, x6)) (nO (bstW d r u k)) (nI k) = rec (nO (bstW d r u (k + 1)), nI (k + 1))
    unfold f_X11_walk_34_b
    rw [h.1, if_neg (nI_ge hk (by omega)), m_has (by omega) (by omega), q_gb, q_ifb, nI_add, m_keyOf h v hr hk, q_gb, bstW_s]
    have hok := (bstW_ok d r u k).1
    cases e : u.testBit k
    · rw [if_neg (show ¬ false = true by decide), if_neg (show ¬ false = true by decide)]
      cases e2 : bstW d r u k with
      | none => rw [nO_none, if_pos rfl]; rfl
      | some b =>
        have hb := (hok b e2).1
        rw [nO_some, if_neg (nI_ne_m1 (by omega)), m_keyOf h v hr (by omega), q_gb, wK_le v hk (by omega)]
        dsimp only
        cases wA d r k b <;> rfl
    · rw [if_pos rfl, if_pos rfl]
  · show f_X11_walk_34_b w (nI r) x2 (nI u) x4 K (fun x5 x6 => rec (x5, x6)) (nO (bstW d r u (dg d))) (nI (dg d)) = _
    unfold f_X11_walk_34_b
    rw [h.1, if_pos (nI_le (Nat.le_refl _) (by omega)), q_gl, q_gl]
def wkF (d : Dat) (r : Nat) : Nat → Nat → Nat → Nat
  | 0, _, o => o
  | n + 1, u, o => match bstW d r u (dg d) with
    | none => o
    | some b => wkF d r n (u ||| 2 ^ b) (10 * o + b + 1)
theorem bstW_some {d : Dat} {r u : Nat} (hn : dg d ≤ 7) (h : rm (2 ^ dg d - 1) u ≠ 0) : ∃ b, bstW d r u (dg d) = some b ∧ b < dg d ∧ u.testBit b = false := by
  obtain ⟨h1, h2⟩ := bstW_ok d r u (dg d)
  cases e : bstW d r u (dg d) with
  | none =>
    obtain ⟨k, k1, k2⟩ := full_some h hn
    have := h2 e k k1
    rw [k2] at this
    cases this
  | some b => exact ⟨b, rfl, h1 b e⟩
theorem x_walk_19 {z : gS} {d : Dat} (h : SX z 1 d) (v : VD d) {rl : Nat} (hrl : rl ≤ 3) : ∀ r u o i m, i + r = dg d → r < m → u ≤ 2 ^ dg d - 1 → rm (2 ^ dg d - 1) u = r → f_X10_walk_19 z (nI rl) m (nI u) (nI o) (nI i) = some (nI (wkF d rl r u o))
  | r, u, o, i, 0, _, hm, _, _ => by omega
  | 0, u, o, i, m + 1, hi, hm, hu, hr => by
    have v1 := v.1
    show f_X10_walk_19_b z (nI rl) (fun x2 x3 x4 => f_X10_walk_19 z (nI rl) m x2 x3 x4) (nI u) (nI o) (nI i) = _
    unfold f_X10_walk_19_b
    rw [h.1, if_pos (nI_le (by omega) (by omega))]
    rfl
  | r + 1, u, o, i, m + 1, hi, hm, hu, hr => by
    have v1 := v.1
    have hf := full_lt v1
    obtain ⟨b, b1, b2, b3⟩ := bstW_some (d := d) (r := rl) (u := u) v1 (by omega)
    have hrm := rm_s (full_bit b2) b3 (by omega)
    have hsb := sub_le (sub_or (full_sub hu) (full_bit b2))
    show f_X10_walk_19_b z (nI rl) (fun x2 x3 x4 => f_X10_walk_19 z (nI rl) m x2 x3 x4) (nI u) (nI o) (nI i) = _
    unfold f_X10_walk_19_b
    rw [h.1, if_neg (nI_ge (show i < dg d by omega) (by omega)), x_foremost h v hrl (by omega), q_gb, b1, nO_some, q_sh1 (by omega), q_or, q_gl, pk_mul, nI_add, nI_add, q_gl, nI_add]
    dsimp only
    rw [x_walk_19 h v hrl r (u ||| 2 ^ b) _ (i + 1) m (by omega) (by omega) hsb (by omega)]
    conv => rhs; unfold wkF
    rw [b1, Nat.mul_comm]
theorem m_walk_19 {w : gS} {d : Dat} (h : SM w d) (v : VD d) {rl : Nat} (hrl : rl ≤ 3) : ∀ r u o i m, i + r = dg d → r < m → u ≤ 2 ^ dg d - 1 → rm (2 ^ dg d - 1) u = r → f_X11_walk_19 w (nI rl) m (nI o) (nI u) (nI i) = some (nI (wkF d rl r u o))
  | r, u, o, i, 0, _, hm, _, _ => by omega
  | 0, u, o, i, m + 1, hi, hm, hu, hr => by
    have v1 := v.1
    show f_X11_walk_19_b w (nI rl) (fun x2 x3 x4 => f_X11_walk_19 w (nI rl) m x2 x3 x4) (nI o) (nI u) (nI i) = _
    unfold f_X11_walk_19_b
    rw [h.1, if_pos (nI_le (by omega) (by omega))]
    rfl
  | r + 1, u, o, i, m + 1, hi, hm, hu, hr => by
    have v1 := v.1
    have hf := full_lt v1
    obtain ⟨b, b1, b2, b3⟩ := bstW_some (d := d) (r := rl) (u := u) v1 (by omega)
    have hrm := rm_s (full_bit b2) b3 (by omega)
    have hsb := sub_le (sub_or (full_sub hu) (full_bit b2))
    show f_X11_walk_19_b w (nI rl) (fun x2 x3 x4 => f_X11_walk_19 w (nI rl) m x2 x3 x4) (nI o) (nI u) (nI i) = _
    unfold f_X11_walk_19_b
    rw [h.1, if_neg (nI_ge (show i < dg d by omega) (by omega)), m_walk_34 h v hrl (by omega), b1, nO_some, pk_mul, nI_add, nI_add, q_sh1 (by omega), q_or, nI_add]
    try dsimp only
    rw [m_walk_19 h v hrl r (u ||| 2 ^ b) _ (i + 1) m (by omega) (by omega) hsb (by omega)]
    conv => rhs; unfold wkF
    rw [b1]
