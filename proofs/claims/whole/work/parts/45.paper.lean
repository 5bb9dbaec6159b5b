/-! paper -/
def NZ (d : Dat) : Prop := ∀ t, t < dt d → 0 < dn d t
def mnT (d : Dat) (P : Nat → Bool) : Nat → Option Nat
  | 0 => none
  | k + 1 => if P k then (match mnT d P k with | none => some k | some b => if dn d b ≤ dn d k then some b else some k) else mnT d P k
theorem mnT_s (d : Dat) (P : Nat → Bool) (k : Nat) : mnT d P (k + 1) = if P k then (match mnT d P k with | none => some k | some b => if dn d b ≤ dn d k then some b else some k) else mnT d P k := rfl
theorem mnT_c {d : Dat} {P Q : Nat → Bool} : ∀ {k : Nat}, (∀ i, i < k → P i = Q i) → mnT d P k = mnT d Q k
  | 0, _ => rfl
  | k + 1, h => by rw [mnT_s, mnT_s, mnT_c (fun i hi => h i (by omega)), h k (by omega)]
theorem mnT_ok {d : Dat} {P : Nat → Bool} : ∀ k, (∀ b, mnT d P k = some b → b < k ∧ P b = true ∧ ∀ i, i < k → P i = true → dn d b ≤ dn d i) ∧ (mnT d P k = none → ∀ i, i < k → P i = false)
  | 0 => ⟨fun b h => (by cases h), fun _ i hi => (by omega)⟩
  | k + 1 => by
    obtain ⟨h1, h2⟩ := mnT_ok (d := d) (P := P) k
    rw [mnT_s]
    cases e : P k
    · rw [if_neg (by decide)]
      refine ⟨fun b h => ?_, fun h i hi => ?_⟩
      · obtain ⟨a1, a2, a3⟩ := h1 b h
        refine ⟨by omega, a2, fun i hi hp => ?_⟩
        by_cases q : i = k
        · subst q; rw [e] at hp; cases hp
        · exact a3 i (by omega) hp
      · by_cases q : i = k
        · subst q; exact e
        · exact h2 h i (by omega)
    · rw [if_pos rfl]
      cases e2 : mnT d P k with
      | none =>
        refine ⟨fun b h => ?_, fun h => by cases h⟩
        cases h
        refine ⟨by omega, e, fun i hi hp => ?_⟩
        by_cases q : i = k
        · subst q; exact Nat.le_refl _
        · rw [h2 e2 i (by omega)] at hp; cases hp
      | some c =>
        obtain ⟨a1, a2, a3⟩ := h1 c e2
        dsimp only
        by_cases q : dn d c ≤ dn d k
        · rw [if_pos q]
          refine ⟨fun b h => ?_, fun h => by cases h⟩
          cases h
          refine ⟨by omega, a2, fun i hi hp => ?_⟩
          by_cases q2 : i = k
          · subst q2; exact q
          · exact a3 i (by omega) hp
        · rw [if_neg q]
          refine ⟨fun b h => ?_, fun h => by cases h⟩
          cases h
          refine ⟨by omega, e, fun i hi hp => ?_⟩
          by_cases q2 : i = k
          · subst q2; exact Nat.le_refl _
          · have := a3 i (by omega) hp; omega
def nmL (c : Nat) : List Nat := (List.range (ln c)).map (fun k => 96 + lt c k)
def cmF (d : Dat) : Bool → Nat → Nat → List Nat
  | _, _, 0 => []
  | first, S, f + 1 => match mnT d S.testBit (dt d) with
    | none => []
    | some b => (if first then [] else [44]) ++ (nmL (dn d b) ++ cmF d false (nd S (2 ^ b)) f)
theorem cmF_s (d : Dat) (first : Bool) (S f : Nat) : cmF d first S (f + 1) = match mnT d S.testBit (dt d) with | none => [] | some b => (if first then [] else [44]) ++ (nmL (dn d b) ++ cmF d false (nd S (2 ^ b)) f) := rfl
theorem nmL_len (c : Nat) : (nmL c).length ≤ 6 := by
  unfold nmL
  rw [List.length_map, List.length_range]
  exact ln_le c
theorem cmF_len (d : Dat) : ∀ f first S, (cmF d first S f).length ≤ 7 * f - first.toNat
  | 0, first, S => Nat.zero_le _
  | f + 1, first, S => by
    rw [cmF_s]
    cases mnT d S.testBit (dt d) with
    | none => exact Nat.zero_le _
    | some b =>
      have h1 := nmL_len (dn d b)
      have h2 := cmF_len d f false (nd S (2 ^ b))
      rw [show false.toNat = 0 from rfl] at h2
      dsimp only
      rw [List.length_append, List.length_append]
      cases first
      · show 1 + _ ≤ 7 * (f + 1) - 0
        omega
      · show 0 + _ ≤ 7 * (f + 1) - 1
        omega
def ageL (a : Nat) : List Nat := (if 99 < a then [48 + a / 100] else []) ++ ((if 9 < a then [48 + a / 10 % 10] else []) ++ [48 + a % 10])
def blk (d : Dat) (g : Nat) : List Nat := (if 0 < g then [59] else []) ++ (ageL (da d g) ++ ([58] ++ cmF d true (ds d g) 8))
def pLn (d : Dat) : Nat → List Nat
  | 0 => []
  | g + 1 => pLn d g ++ blk d g
theorem ageL_len (a : Nat) : (ageL a).length ≤ 3 := by
  unfold ageL
  rw [List.length_append, List.length_append]
  have h1 : (if 99 < a then [48 + a / 100] else []).length ≤ 1 := by split <;> simp
  have h2 : (if 9 < a then [48 + a / 10 % 10] else []).length ≤ 1 := by split <;> simp
  have h3 : [48 + a % 10].length = 1 := rfl
  omega
theorem blk_len (d : Dat) (g : Nat) : (blk d g).length ≤ 60 := by
  have h1 := ageL_len (da d g)
  have h2 := cmF_len d 8 true (ds d g)
  have h3 : (if 0 < g then [59] else []).length ≤ 1 := by split <;> simp
  have h4 : true.toNat = 1 := rfl
  have h5 : [58].length = 1 := rfl
  unfold blk
  rw [List.length_append, List.length_append, List.length_append]
  omega
theorem pLn_len (d : Dat) : ∀ g, (pLn d g).length ≤ 60 * g
  | 0 => Nat.zero_le _
  | g + 1 => by
    have h1 := pLn_len d g
    have h2 := blk_len d g
    show (pLn d g ++ blk d g).length ≤ _
    rw [List.length_append]
    omega
/-! the class writes -/
def SB (z : gS) (L : List Nat) : Prop := KK z 292 1 293 L
theorem x_append {z : gS} {L : List Nat} {c : Nat} (h : SB z L) (hl : L.length < 420) : Ok (f_X4_append 292 (nI c) z) (fun z' => SB z' (L ++ [c]) ∧ Fn 2 z z' 292) := by
  unfold f_X4_append
  rw [h.1, if_neg (nI_ge hl (by omega)), q_gg hl (by omega), nI_clamp (by omega), q_gl, gup_n (by omega), h.1, nI_add, q_gl]
  exact Ok.i ⟨h.add (by omega), (Fn.up (by omega) (by omega)).tr (Fn.up (by omega) (by omega))⟩
theorem x_names_50 {d : Dat} (v : VD d) {g c : Nat} (hc : c < 387420489) {x4 : Int32} {K : Int32 → Int32 → gS → Option gS} {P : gS → Prop} {Q : Int32} : ∀ j k m (z : gS) (L : List Nat), k + j = ln c → j < m → SX z 1 d → SB z L → L.length + j ≤ 420 → (∀ z', SX z' 1 d → f_X5_typeBehind 1 (nI g) (nI c) z' = some Q) → (∀ z', SX z' 1 d → SB z' (L ++ (List.range' k j).map (fun k => 96 + lt c k)) → Fn 2 z z' 292 → Ok (K Q (x4 + nI 1) z') P) → Ok (f_X4_writeNames_50 292 1 (nI g) x4 (nI c) (nI (ln c)) K m (nI k) z) P
  | j, k, 0, z, L, hk, hm, _, _, _, _, _ => by omega
  | 0, k, m + 1, z, L, hk, hm, hx, hs, hl, ht, hK => by
    have h6 := ln_le c
    show Ok (f_X4_writeNames_50_b 292 1 (nI g) x4 (nI c) (nI (ln c)) K (fun x7 z => f_X4_writeNames_50 292 1 (nI g) x4 (nI c) (nI (ln c)) K m x7 z) (nI k) z) P
    unfold f_X4_writeNames_50_b
    rw [if_pos (nI_le (by omega) (by omega)), ht z hx, q_gb]
    refine hK z hx ?_ Fn.rf
    show SB z (L ++ [])
    rw [List.append_nil]
    exact hs
  | j + 1, k, m + 1, z, L, hk, hm, hx, hs, hl, ht, hK => by
    have h6 := ln_le c
    have hne := ln_ne c (show k < ln c by omega)
    show Ok (f_X4_writeNames_50_b 292 1 (nI g) x4 (nI c) (nI (ln c)) K (fun x7 z => f_X4_writeNames_50 292 1 (nI g) x4 (nI c) (nI (ln c)) K m x7 z) (nI k) z) P
    unfold f_X4_writeNames_50_b
    have hsl : sp_letter c k = nI (96 + lt c k) := by unfold sp_letter; rw [if_neg hne]
    rw [if_neg (nI_ge (show k < ln c by omega) (by omega)), x_letter hc (by omega), q_gb, hsl, nI_add]
    refine (x_append hs (by omega)).b (fun u hu => ?_)
    have hxu : SX u 1 d := hx.fn hu.2 (by omega)
    refine x_names_50 v hc j (k + 1) m u (L ++ [96 + lt c k]) (by omega) (by omega) hxu hu.1 (by rw [List.length_append]; show L.length + 1 + j ≤ 420; omega) ht (fun z' q1 q2 q3 => hK z' q1 ?_ (hu.2.tr q3))
    rw [List.range'_succ, List.map_cons]
    rw [List.append_assoc] at q2
    exact q2
theorem x_typeBehind {z : gS} {d : Dat} (h : SX z 1 d) (v : VD d) {g c : Nat} (hg : g < dg d) (hc : c < 2 ^ 31) : f_X5_typeBehind 1 (nI g) (nI c) z = some (nO (mnT d (fun t => (ds d g).testBit t && decide (c < dn d t)) (dt d))) := by
  have v2 := v.2.1
  unfold f_X5_typeBehind f_X5_typeBehind_5
  refine gfor0 (fun k => (nO (mnT d (fun t => (ds d g).testBit t && decide (c < dn d t)) k), nI k)) (e := dt d) (by omega) (fun k rec hk => ?_) (fun rec => ?_)
  · have hnk := v.n hk
    show f_X5_typeBehind_5_b 1 z (nI g) (nI c) (fun x3 x4 => rec (x3, x4)) (nO (mnT d _ k)) (nI k) = rec (nO (mnT d _ (k + 1)), nI (k + 1))
    unfold f_X5_typeBehind_5_b
    rw [h.2.1, if_neg (nI_ge hk (by omega)), x_owns h v hg (by omega), q_gb, q_ifb, q_gg (by omega) (by omega), nI_clamp (by omega), h.2.2.2.2 k hk, q_ifle (by omega) (by omega), nI_add, mnT_s]
    have hok := (mnT_ok (d := d) (P := fun t => (ds d g).testBit t && decide (c < dn d t)) k).1
    cases e : (ds d g).testBit k
    · rw [if_neg (by decide), Bool.false_and, if_neg (show ¬ false = true by decide)]
    · rw [if_pos rfl, Bool.true_and]
      by_cases q : c < dn d k
      · rw [if_neg (by omega), decide_eq_true q, if_pos rfl]
        cases e2 : mnT d (fun t => (ds d g).testBit t && decide (c < dn d t)) k with
        | none => rw [nO_none, q_ifm]; rfl
        | some b =>
          have hb := (hok b e2).1
          have hnb := v.n (show b < dt d by omega)
          rw [nO_some, q_iflt0 (by omega), q_gg (by omega) (by omega), q_gg (by omega) (by omega), nI_clamp (by omega), h.2.2.2.2 b (by omega), q_ifle (by omega) (by omega)]
          dsimp only
          split <;> rfl
      · rw [if_pos (by omega), decide_eq_false q, if_neg (show ¬ false = true by decide)]
  · show f_X5_typeBehind_5_b 1 z (nI g) (nI c) (fun x3 x4 => rec (x3, x4)) (nO (mnT d _ (dt d))) (nI (dt d)) = _
    unfold f_X5_typeBehind_5_b
    rw [h.2.1, if_pos (nI_le (Nat.le_refl _) (by omega))]
theorem pop_rem {S b : Nat} (hb : b < 8) (h : S.testBit b = true) : pop (nd S (2 ^ b)) + 1 = pop S := by
  refine cntB_1 (g := b) h ?_ 8 hb (fun i _ hi => ?_)
  · rw [nd_bit, Nat.testBit_two_pow_self]
    simp
  · rw [nd_bit, Nat.testBit_two_pow, decide_eq_false (fun q => hi q.symm)]
    simp
/-- those left over are those with greater names -/
def LO (d : Dat) (g S c : Nat) : Prop := ∀ t, t < dt d → S.testBit t = ((ds d g).testBit t && decide (c < dn d t))
theorem LO.n {d : Dat} (v : VD d) {g S c b : Nat} (h : LO d g S c) (hb : mnT d S.testBit (dt d) = some b) : LO d g (nd S (2 ^ b)) (dn d b) ∧ b < dt d ∧ S.testBit b = true := by
  obtain ⟨h1, h2, h3⟩ := (mnT_ok (d := d) (P := S.testBit) (dt d)).1 b hb
  refine ⟨fun t ht => ?_, h1, h2⟩
  have hb2 := h b h1
  rw [h2] at hb2
  have hb2 := hb2.symm
  rw [Bool.and_eq_true, decide_eq_true_eq] at hb2
  rw [nd_bit, Nat.testBit_two_pow]
  by_cases q : b = t
  · subst q
    simp
  · rw [decide_eq_false q, Bool.not_false, Bool.and_true]
    cases e : S.testBit t
    · rw [h t ht] at e
      cases e2 : (ds d g).testBit t
      · rfl
      · rw [e2, Bool.true_and] at e
        rw [Bool.true_and, eq_comm]
        rw [decide_eq_false_iff_not] at e ⊢
        omega
    · have h4 := h3 t ht e
      have h5 : dn d b ≠ dn d t := fun q2 => q (v.2.2.2.2.2 b t h1 ht q2)
      rw [h t ht, Bool.and_eq_true] at e
      rw [e.1, Bool.true_and, eq_comm, decide_eq_true_eq]
      omega
theorem x_names_10 {d : Dat} (v : VD d) {g : Nat} (hg : g < dg d) {P : gS → Prop} : ∀ f i m (z : gS) (L : List Nat) (S c : Nat), i + f = 8 → f < m → SX z 1 d → SB z L → LO d g S c → c < 387420489 → pop S ≤ f → L.length + (cmF d (decide (i = 0)) S f).length ≤ 420 → (∀ z', SX z' 1 d → SB z' (L ++ cmF d (decide (i = 0)) S f) → Fn 2 z z' 292 → P z') → Ok (f_X4_writeNames_10 292 1 (nI g) m (nO (mnT d (fun t => (ds d g).testBit t && decide (c < dn d t)) (dt d))) (nI i) z) P
  | f, i, 0, z, L, S, c, hi, hm, _, _, _, _, _, _, _ => by omega
  | 0, i, m + 1, z, L, S, c, hi, hm, hx, hs, hlo, hc, hp, hl, hP => by
    show Ok (f_X4_writeNames_10_b 292 1 (nI g) (fun x3 x4 z => f_X4_writeNames_10 292 1 (nI g) m x3 x4 z) (nO (mnT d (fun t => (ds d g).testBit t && decide (c < dn d t)) (dt d))) (nI i) z) P
    unfold f_X4_writeNames_10_b
    rw [if_pos (nI_le (by omega) (by omega))]
    refine Ok.i (hP z hx ?_ Fn.rf)
    show SB z (L ++ [])
    rw [List.append_nil]
    exact hs
  | f + 1, i, m + 1, z, L, S, c, hi, hm, hx, hs, hlo, hc, hp, hl, hP => by
    have v2 := v.2.1
    have hmn : mnT d (fun t => (ds d g).testBit t && decide (c < dn d t)) (dt d) = mnT d S.testBit (dt d) := mnT_c (fun t ht => (hlo t ht).symm)
    show Ok (f_X4_writeNames_10_b 292 1 (nI g) (fun x3 x4 z => f_X4_writeNames_10 292 1 (nI g) m x3 x4 z) (nO (mnT d (fun t => (ds d g).testBit t && decide (c < dn d t)) (dt d))) (nI i) z) P
    rw [hmn]
    unfold f_X4_writeNames_10_b
    rw [if_neg (nI_ge (show i < 8 by omega) (by omega))]
    rw [cmF_s] at hl hP
    cases e : mnT d S.testBit (dt d) with
    | none =>
      rw [e] at hP
      rw [nO_none, q_ifm]
      refine Ok.i (hP z hx ?_ Fn.rf)
      rw [List.append_nil]
      exact hs
    | some b =>
      rw [e] at hl hP
      dsimp only at hl hP
      obtain ⟨n1, n2, n3⟩ := hlo.n v e
      have hnb := v.n n2
      have hpr := pop_rem (show b < 8 by omega) n3
      rw [nO_some, q_iflt0 (by omega), q_ifle0 (by omega), q_gg (by omega) (by omega), nI_clamp (by omega), hx.2.2.2.2 b n2, q_gl, x_length hnb, q_gb]
      rw [List.length_append, List.length_append] at hl
      have hnl : (nmL (dn d b)).length = ln (dn d b) := by unfold nmL; rw [List.length_map, List.length_range]
      have hrng : (List.range' 0 (ln (dn d b))).map (fun k => 96 + lt (dn d b) k) = nmL (dn d b) := by unfold nmL; rw [List.range_eq_range']
      by_cases c0 : i = 0
      · rw [if_pos c0]
        subst c0
        rw [show decide (0 = 0) = true from rfl, if_pos rfl] at hl hP
        have hl : L.length + (0 + ((nmL (dn d b)).length + (cmF d false (nd S (2 ^ b)) f).length)) ≤ 420 := hl
        refine x_names_50 v hnb (ln (dn d b)) 0 gF z L (by omega) (q_gF (by have := ln_le (dn d b); omega)) hx hs (by omega) (fun z' q => x_typeBehind q v hg (by omega)) (fun z' q1 q2 q3 => ?_)
        rw [hrng] at q2
        rw [nI_add]
        refine x_names_10 v hg f (0 + 1) m z' (L ++ nmL (dn d b)) (nd S (2 ^ b)) (dn d b) (by omega) (by omega) q1 q2 n1 hnb (by omega) (by rw [List.length_append]; show _ + (cmF d false _ f).length ≤ 420; omega) (fun u r1 r2 r3 => hP u r1 ?_ (q3.tr r3))
        rw [List.append_assoc] at r2
        exact r2
      · rw [if_neg c0]
        rw [decide_eq_false c0, if_neg (by decide)] at hl hP
        have hl : L.length + (1 + ((nmL (dn d b)).length + (cmF d false (nd S (2 ^ b)) f).length)) ≤ 420 := hl
        refine (x_append hs (by omega)).b (fun y hy => ?_)
        have hxy : SX y 1 d := hx.fn hy.2 (by omega)
        rw [q_gg (by omega) (by omega), hxy.2.2.2.2 b n2, q_gl, x_length hnb, q_gb]
        refine x_names_50 v hnb (ln (dn d b)) 0 gF y (L ++ [44]) (by omega) (q_gF (by have := ln_le (dn d b); omega)) hxy hy.1 (by rw [List.length_append]; show L.length + 1 + _ ≤ 420; omega) (fun z' q => x_typeBehind q v hg (by omega)) (fun z' q1 q2 q3 => ?_)
        rw [hrng] at q2
        rw [nI_add]
        refine x_names_10 v hg f (i + 1) m z' (L ++ [44] ++ nmL (dn d b)) (nd S (2 ^ b)) (dn d b) (by omega) (by omega) q1 q2 n1 hnb (by omega) (by rw [List.length_append, List.length_append, decide_eq_false (by omega)]; show L.length + 1 + _ + _ ≤ 420; omega) (fun u r1 r2 r3 => hP u r1 ?_ ((hy.2.tr q3).tr r3))
        rw [decide_eq_false (by omega), List.append_assoc, List.append_assoc] at r2
        exact r2
theorem x_writeNames {d : Dat} (v : VD d) (hnz : NZ d) {z : gS} {L : List Nat} {g : Nat} (hg : g < dg d) (hx : SX z 1 d) (hs : SB z L) (hl : L.length + (cmF d true (ds d g) 8).length ≤ 420) : Ok (f_X4_writeNames 292 1 (nI g) z) (fun z' => SX z' 1 d ∧ SB z' (L ++ cmF d true (ds d g) 8) ∧ Fn 2 z z' 292) := by
  unfold f_X4_writeNames
  rw [show (nI 0 : Int32) = nI 0 from rfl, x_typeBehind hx v hg (by omega), q_gb]
  exact x_names_10 v hg 8 0 gF z L (ds d g) 0 (by omega) (q_gF (by omega)) hx hs (fun t ht => by rw [decide_eq_true (hnz t ht), Bool.and_true]) (by omega) (pop_le _) hl (fun z' q1 q2 q3 => ⟨q1, q2, q3⟩)
theorem x_writeAge {d : Dat} {z : gS} {L : List Nat} {a : Nat} (ha : a < 1000) (hx : SX z 1 d) (hs : SB z L) (hl : L.length + 3 ≤ 420) : Ok (f_X4_writeAge 292 (nI a) z) (fun z' => SX z' 1 d ∧ SB z' (L ++ ageL a) ∧ Fn 2 z z' 292) := by
  have key : ∀ (z : gS) (L : List Nat), SX z 1 d → SB z L → L.length + 2 ≤ 420 → Ok (f_X4_writeAge_17 292 (nI a) z) (fun z' => SX z' 1 d ∧ SB z' (L ++ ((if 9 < a then [48 + a / 10 % 10] else []) ++ [48 + a % 10])) ∧ Fn 2 z z' 292) := fun z L hx hs hl => by
    have hd : a / 10 < 2 ^ 31 := by omega
    unfold f_X4_writeAge_17
    rw [q_ifle (by omega) (by omega), pk_rem (by omega) (by omega) (by omega), pk_div (by omega) (by omega) (by omega), pk_rem hd (by omega) (by omega), nI_add, nI_add]
    by_cases c : 9 < a
    · rw [if_neg (by omega), if_pos c]
      refine (x_append hs (by omega)).b (fun y hy => ?_)
      refine (x_append hy.1 (by rw [List.length_append]; show L.length + 1 < 420; omega)).b (fun u hu => ?_)
      rw [List.append_assoc] at hu
      exact Ok.i ⟨(hx.fn hy.2 (by omega)).fn hu.2 (by omega), hu.1, hy.2.tr hu.2⟩
    · rw [if_pos (by omega), if_neg c]
      refine (x_append hs (by omega)).b (fun y hy => ?_)
      exact Ok.i ⟨hx.fn hy.2 (by omega), hy.1, hy.2⟩
  unfold f_X4_writeAge ageL
  rw [q_ifle (by omega) (by omega), pk_div (by omega) (by omega) (by omega), nI_add]
  by_cases c : 99 < a
  · rw [if_neg (by omega), if_pos c]
    refine (x_append hs (by omega)).b (fun y hy => ?_)
    refine (key y (L ++ [48 + a / 100]) (hx.fn hy.2 (by omega)) hy.1 (by rw [List.length_append]; show L.length + 1 + 2 ≤ 420; omega)).m (fun u hu => ⟨hu.1, ?_, hy.2.tr hu.2.2⟩)
    have := hu.2.1
    rw [List.append_assoc] at this
    exact this
  · rw [if_pos (by omega), if_neg c]
    exact key z L hx hs (by omega)
theorem x_write {d : Dat} (v : VD d) (hnz : NZ d) {z : gS} (hx : SX z 1 d) : Ok (f_X4_write 292 1 z) (fun z' => SB z' (pLn d (dg d)) ∧ Fn 2 z z' 292) := by
  have v1 := v.1
  unfold f_X4_write
  rw [q_gl]
  unfold f_X4_write_7
  have hu : Fn 2 z (gup z 292 1 (nI 0)) 292 := Fn.up (by omega) (by omega)
  refine gforI0 (fun k s => s.1 = nI k ∧ SX s.2 1 d ∧ SB s.2 (pLn d k) ∧ Fn 2 z s.2 292) (e := dg d) (by omega) ⟨rfl, hx.fn hu (by omega), ⟨by show gup z 292 1 (nI 0) 292 1 = _; rw [gup_s]; rfl, fun i hi => by cases hi⟩, hu⟩ (fun k rec s hk hi hr => ?_) (fun rec s hi => ?_)
  · obtain ⟨x2, y⟩ := s
    obtain ⟨g1, g2, g3, g4⟩ := hi
    dsimp only at g1 g2 g3 g4
    subst g1
    have hlen := pLn_len d k
    have h1 := ageL_len (da d k)
    have h2 := cmF_len d 8 true (ds d k)
    have h4 : true.toNat = 1 := rfl
    have key : ∀ (y : gS) (L : List Nat), SX y 1 d → SB y L → L.length ≤ 60 * k + 1 → Fn 2 z y 292 → L ++ (ageL (da d k) ++ ([58] ++ cmF d true (ds d k) 8)) = pLn d (k + 1) → Ok (gb (f_X4_writeAge 292 (y (1 + 1) (nI k).toNatClampNeg) y) fun q5 => gb (f_X4_append 292 (nI 58) q5) fun q6 => gb (f_X4_writeNames 292 1 (nI k) q6) fun q7 => rec (nI k + nI 1, q7)) (fun z' => SB z' (pLn d (dg d)) ∧ Fn 2 z z' 292) := fun y L k1 k2 k3 k4 k5 => by
      rw [nI_clamp (by omega), k1.2.2.1 k hk, nI_add]
      refine (x_writeAge (v.a hk) k1 k2 (by omega)).b (fun u hu => ?_)
      refine (x_append hu.2.1 (by rw [List.length_append]; omega)).b (fun t ht => ?_)
      refine (x_writeNames v hnz hk (hu.1.fn ht.2 (by omega)) ht.1 (by rw [List.length_append, List.length_append]; show L.length + _ + 1 + _ ≤ 420; omega)).b (fun r hr2 => ?_)
      refine hr _ ⟨rfl, hr2.1, ?_, ((k4.tr hu.2.2).tr ht.2).tr hr2.2.2⟩
      rw [← k5]
      have := hr2.2.1
      rw [List.append_assoc, List.append_assoc] at this
      exact this
    show Ok (f_X4_write_7_b 292 1 (fun x2 z => rec (x2, z)) (nI k) y) _
    unfold f_X4_write_7_b
    rw [g2.1, if_neg (nI_ge hk (by omega)), q_ifle0 (by omega)]
    by_cases c : k = 0
    · rw [if_pos c, q_gg (by omega) (by omega)]
      refine key y (pLn d k) g2 g3 (by omega) g4 ?_
      show _ = pLn d k ++ blk d k
      unfold blk
      rw [if_neg (by omega)]
      rfl
    · rw [if_neg c]
      refine (x_append g3 (by omega)).b (fun u hu => ?_)
      rw [q_gg (by omega) (by omega)]
      refine key u (pLn d k ++ [59]) (g2.fn hu.2 (by omega)) hu.1 (by rw [List.length_append]; show _ + 1 ≤ _; omega) (g4.tr hu.2) ?_
      show _ = pLn d k ++ blk d k
      unfold blk
      rw [if_pos (by omega), List.append_assoc]
  · obtain ⟨x2, y⟩ := s
    obtain ⟨g1, g2, g3, g4⟩ := hi
    dsimp only at g1 g2 g3 g4
    subst g1
    show Ok (f_X4_write_7_b 292 1 (fun x2 z => rec (x2, z)) (nI (dg d)) y) _
    unfold f_X4_write_7_b
    rw [g2.1, if_pos (nI_le (Nat.le_refl _) (by omega))]
    exact Ok.i ⟨g3, g4⟩
