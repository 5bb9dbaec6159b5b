/-! the best orders, one by one -/
def bs (all : Nat) (mf : Nat → Nat → Bool) (tl : Nat → Nat → Nat) (b g : Nat) : Bool := mf b g && decide (tl b g + mnF (csts all mf tl (b ||| 2 ^ g)) = mnF (csts all mf tl b))
def bl (all : Nat) (mf : Nat → Nat → Bool) (tl : Nat → Nat → Nat) (b : Nat) : List (List Nat) := (plm mf (rm all b) b).filter (fun l => decide (cst tl b l = mnF (csts all mf tl b)))
def sgB (all : Nat) (mf : Nat → Nat → Bool) (tl : Nat → Nat → Nat) (b g : Nat) : List (List Nat) := if bs all mf tl b g then (bl all mf tl (b ||| 2 ^ g)).map (fun l => g :: l) else []
theorem fm_len {α β : Type} {f : α → List β} {m : Nat} (h : ∀ a, (f a).length ≤ m) : ∀ L : List α, (L.flatMap f).length ≤ L.length * m
  | [] => by simp
  | a :: L => by
    have h1 := h a
    have h2 := fm_len h L
    rw [List.flatMap_cons, List.length_append, List.length_cons, Nat.add_mul, Nat.one_mul]
    omega
theorem plm_cnt {mf : Nat → Nat → Bool} : ∀ n b, (plm mf n b).length ≤ 7 ^ n
  | 0, b => by show 1 ≤ 7 ^ 0; omega
  | n + 1, b => by
    rw [plm_s, Nat.pow_succ, Nat.mul_comm]
    refine fm_len (m := 7 ^ n) (fun g => ?_) (List.range 7)
    split
    · rw [List.length_map]; exact plm_cnt n _
    · simp
theorem wy_lt {all : Nat} {mf : Nat → Nat → Bool} {tl : Nat → Nat → Nat} {b : Nat} : wy (csts all mf tl b) < 2 ^ 20 := by
  have h1 : wy (csts all mf tl b) ≤ (csts all mf tl b).length := List.count_le_length
  have h2 : (csts all mf tl b).length ≤ 7 ^ rm all b := by unfold csts; rw [List.length_map]; exact plm_cnt _ _
  have h3 : 7 ^ rm all b ≤ 7 ^ 7 := Nat.pow_le_pow_right (by omega) (rm_le all b)
  omega
theorem bl_len {all : Nat} {mf : Nat → Nat → Bool} {tl : Nat → Nat → Nat} {b : Nat} : (bl all mf tl b).length = wy (csts all mf tl b) := by
  unfold bl wy
  rw [List.count_eq_countP]
  conv => rhs; unfold csts
  rw [List.countP_map, List.countP_eq_length_filter]
  rfl
theorem bl_all {all : Nat} {mf : Nat → Nat → Bool} {tl : Nat → Nat → Nat} : bl all mf tl all = [[]] := by
  unfold bl
  rw [csts_all, rm_all]
  rfl
theorem bl_m {all : Nat} {mf : Nat → Nat → Bool} {tl : Nat → Nat → Nat} {b : Nat} {l : List Nat} (h : l ∈ bl all mf tl b) : l ∈ plm mf (rm all b) b := (List.mem_filter.mp h).1
theorem mnF_seg {all : Nat} {mf : Nat → Nat → Bool} {tl : Nat → Nat → Nat} (hm : HM all mf) {b g : Nat} {l : List Nat} (h : mf b g = true) (hl : l ∈ plm mf (rm all (b ||| 2 ^ g)) (b ||| 2 ^ g)) : mnF (csts all mf tl b) ≤ tl b g + cst tl (b ||| 2 ^ g) l := by
  obtain ⟨h1, h2, h3⟩ := hm b g h
  apply mnF_m
  refine List.mem_map.mpr ⟨g :: l, ?_, rfl⟩
  rw [← rm_s h2 h3 h1]
  exact plm_m.mpr ⟨g, l, h1, h, hl, rfl⟩
theorem bl_s {all : Nat} {mf : Nat → Nat → Bool} {tl : Nat → Nat → Nat} (hm : HM all mf) (ht : ∀ b g, tl b g ≤ 8) {b : Nat} (h : rm all b ≠ 0) : bl all mf tl b = (List.range 7).flatMap (sgB all mf tl b) := by
  obtain ⟨n, hn⟩ : ∃ n, rm all b = n + 1 := ⟨rm all b - 1, by omega⟩
  conv => lhs; unfold bl
  rw [hn, plm_s, List.filter_flatMap]
  congr 1
  funext g
  unfold sgB bs
  cases e : mf b g
  · simp
  · obtain ⟨h1, h2, h3⟩ := hm b g e
    have hrm := rm_s h2 h3 h1
    rw [if_pos rfl, List.filter_map, show n = rm all (b ||| 2 ^ g) by omega, Bool.true_and]
    by_cases q : tl b g + mnF (csts all mf tl (b ||| 2 ^ g)) = mnF (csts all mf tl b)
    · rw [if_pos (decide_eq_true q)]
      unfold bl
      congr 1
      apply List.filter_congr
      intro l _
      show decide (tl b g + cst tl (b ||| 2 ^ g) l = mnF (csts all mf tl b)) = _
      rw [← q]
      congr 1
      apply propext
      omega
    · rw [if_neg (by simpa using q), List.map_eq_nil_iff, List.filter_eq_nil_iff]
      intro l hl
      show ¬ decide (tl b g + cst tl (b ||| 2 ^ g) l = mnF (csts all mf tl b)) = true
      rw [decide_eq_true_eq]
      intro c
      have hin : cst tl (b ||| 2 ^ g) l ∈ csts all mf tl (b ||| 2 ^ g) := List.mem_map.mpr ⟨l, hl, rfl⟩
      have h5 : mnF (csts all mf tl (b ||| 2 ^ g)) ≤ _ := mnF_m hin
      have h7 : mnF (csts all mf tl (b ||| 2 ^ g)) ∈ csts all mf tl (b ||| 2 ^ g) := mnF_in (List.ne_nil_of_mem hin) (fun a ha => Nat.lt_trans (csts_lt ht a ha) (by omega))
      generalize mnF (csts all mf tl (b ||| 2 ^ g)) = M at *
      obtain ⟨l2, g1, g2⟩ := List.mem_map.mp h7
      have h6 := mnF_seg (tl := tl) hm e g1
      omega
theorem x_isBest {z : gS} {p all b g : Nat} {f l : Option Nat} {st : Nat → Nat} (h : PK z p all f l st) (ha : all < 2 ^ 7) (hb : nd b all = 0) (hg : g < 7) (hs : ∀ g, g < 7 → st g < 2 ^ 8) (hf : FB f) (hl : FB l) : f_X3_isBest p (nI b) (nI g) z = some (nI (bs all (mfP all f l) (tol all st) b g).toNat) := by
  have hle := sub_le hb
  have hm := mfP_hm all f l
  unfold f_X3_isBest bs
  rw [x_mayFollow h.1 ha (by omega) hg hf hl, q_gb, q_ifb]
  by_cases e : mfP all f l b g = true
  · obtain ⟨_, e2, e3⟩ := hm b g e
    have hsb := sub_or hb e2
    have hole := sub_le hsb
    have hmn := mnF_le (csts all (mfP all f l) (tol all st) (b ||| 2 ^ g))
    have hmn2 := mnF_le (csts all (mfP all f l) (tol all st) b)
    have htk := tol_le all st b g
    rw [if_pos e, x_toll h.1 ha hle hg hs, q_gb, q_sh1 (by omega), q_or, q_gg (by omega) (by omega), q_gg (by omega) (by omega), nI_clamp (by omega), nI_clamp (by omega), (h.2 _ (Nat.zero_le _) hsb).1, (h.2 _ (Nat.zero_le _) hb).1, nI_add, q_ifeq (by omega) (by omega), e, Bool.true_and]
    by_cases q : tol all st b g + mnF (csts all (mfP all f l) (tol all st) (b ||| 2 ^ g)) = mnF (csts all (mfP all f l) (tol all st) b)
    · rw [if_pos q, decide_eq_true q]; rfl
    · rw [if_neg q, decide_eq_false q]; rfl
  · rw [if_neg e]
    simp only [Bool.not_eq_true] at e
    rw [e]
    rfl
theorem x_least {z : gS} {p all : Nat} {f l : Option Nat} {st : Nat → Nat} (h : PK z p all f l st) : f_X3_least p z = some (nI (mnF (csts all (mfP all f l) (tol all st) 0))) := by
  unfold f_X3_least
  rw [q_gg (by omega) (by omega), nI_clamp (by omega), (h.2 0 (Nat.zero_le _) (nd_0.mpr (by simp))).1]
theorem nd0 {all : Nat} : nd 0 all = 0 := nd_0.mpr (by simp)
theorem x_ways {z : gS} {p all : Nat} {f l : Option Nat} {st : Nat → Nat} (h : PK z p all f l st) : z (p + 4) 0 = nI (wy (csts all (mfP all f l) (tol all st) 0)) := (h.2 0 (Nat.zero_le _) nd0).2
theorem x_smooth {z : gS} {p all : Nat} {f l : Option Nat} {st : Nat → Nat} (h : PK z p all f l st) : f_X3_smoothOrders p z = some (nI (if mnF (csts all (mfP all f l) (tol all st) 0) = 0 then wy (csts all (mfP all f l) (tol all st) 0) else 0)) := by
  have hmn := mnF_le (csts all (mfP all f l) (tol all st) 0)
  unfold f_X3_smoothOrders
  rw [q_gg (by omega) (by omega), q_gg (by omega) (by omega), nI_clamp (by omega), x_ways h, (h.2 0 (Nat.zero_le _) nd0).1, q_if0 (by omega)]
  split <;> rfl
/-- an order's digits -/
def dig : Nat → List Nat → Nat
  | v, [] => v
  | v, g :: l => dig (10 * v + g + 1) l
theorem dig_v : ∀ (l : List Nat) (v : Nat), dig v l = v * 10 ^ l.length + dig 0 l
  | [], v => by simp [dig]
  | g :: l, v => by
    show dig (10 * v + g + 1) l = v * 10 ^ (l.length + 1) + dig (10 * 0 + g + 1) l
    rw [dig_v l (10 * v + g + 1), dig_v l (10 * 0 + g + 1), Nat.pow_succ, show 10 * v + g + 1 = v * 10 + (10 * 0 + g + 1) by omega, Nat.add_mul (v * 10), Nat.mul_assoc v 10, Nat.mul_comm 10, Nat.add_assoc]
theorem dig_lt : ∀ {l : List Nat}, (∀ x ∈ l, x < 7) → dig 0 l < 10 ^ l.length
  | [], _ => by simp [dig]
  | g :: l, h => by
    have h1 := h g (by simp)
    have h2 := dig_lt (fun x hx => h x (List.mem_cons_of_mem g hx))
    show dig (10 * 0 + g + 1) l < 10 ^ (l.length + 1)
    rw [dig_v l, Nat.pow_succ]
    have : (10 * 0 + g + 1) * 10 ^ l.length ≤ 8 * 10 ^ l.length := Nat.mul_le_mul_right _ (by omega)
    omega
theorem dig_c (g : Nat) (l : List Nat) : dig 0 (g :: l) = (g + 1) * 10 ^ l.length + dig 0 l := by
  show dig (10 * 0 + g + 1) l = _
  rw [dig_v l, show 10 * 0 + g + 1 = g + 1 by omega]
theorem getD_l {α : Type} {A B : List α} {i : Nat} {d : α} (h : i < A.length) : (A ++ B).getD i d = A.getD i d := by
  rw [List.getD_eq_getElem?_getD, List.getD_eq_getElem?_getD, List.getElem?_append_left h]
theorem getD_r {α : Type} {A B : List α} {i : Nat} {d : α} (h : A.length ≤ i) : (A ++ B).getD i d = B.getD (i - A.length) d := by
  rw [List.getD_eq_getElem?_getD, List.getD_eq_getElem?_getD, List.getElem?_append_right h]
theorem getD_mm {α β : Type} {A : List α} {f : α → β} {i : Nat} {d : α} {e : β} (h : i < A.length) : (A.map f).getD i e = f (A.getD i d) := by
  rw [List.getD_eq_getElem?_getD, List.getD_eq_getElem?_getD, List.getElem?_map, List.getElem?_eq_getElem h]
  rfl
theorem x_pick_24 {z : gS} {p all b : Nat} {f l : Option Nat} {st : Nat → Nat} (h : PK z p all f l st) (ha : all < 2 ^ 7) (hb : nd b all = 0) (hs : ∀ g, g < 7 → st g < 2 ^ 8) (hf : FB f) (hl : FB l) {x4 x5 : Int32} {K : Int32 → Int32 → Int32 → Int32 → Option Int32} : ∀ j g i n, g + j = 7 → j < n → i < 2 ^ 31 → i < ((List.range' g j).flatMap (sgB all (mfP all f l) (tol all st) b)).length → ∃ k i', bs all (mfP all f l) (tol all st) b k = true ∧ i' ≤ i ∧ i' < (bl all (mfP all f l) (tol all st) (b ||| 2 ^ k)).length ∧ ((List.range' g j).flatMap (sgB all (mfP all f l) (tol all st) b)).getD i [] = k :: (bl all (mfP all f l) (tol all st) (b ||| 2 ^ k)).getD i' [] ∧ f_X3_pick_24 p z (nI b) x4 x5 K n (nI i) (nI g) = K (nI i') (nI (b ||| 2 ^ k)) (((x4 * nI 10) + nI k) + nI 1) (x5 + gm1)
  | 0, g, i, n, hg, hn, hi2, hi => by simp at hi
  | j + 1, g, i, 0, hg, hn, hi2, hi => by omega
  | j + 1, g, i, n + 1, hg, hn, hi2, hi => by
    have hle := sub_le hb
    rw [List.range'_succ, List.flatMap_cons] at hi ⊢
    rw [List.length_append] at hi
    show ∃ k i', _ ∧ _ ∧ _ ∧ _ ∧ f_X3_pick_24_b p z (nI b) x4 x5 K (fun x2 x6 => f_X3_pick_24 p z (nI b) x4 x5 K n x2 x6) (nI i) (nI g) = _
    unfold f_X3_pick_24_b
    rw [if_neg (nI_ge (show g < 7 by omega) (by omega)), x_isBest h ha hb (by omega) hs hf hl, q_gb, q_ifb, nI_add]
    by_cases e : bs all (mfP all f l) (tol all st) b g = true
    · obtain ⟨_, e2, e3⟩ := mfP_hm all f l b g (by unfold bs at e; simp at e; exact e.1)
      have hsb := sub_or hb e2
      have hole := sub_le hsb
      have hlen : (sgB all (mfP all f l) (tol all st) b g).length = wy (csts all (mfP all f l) (tol all st) (b ||| 2 ^ g)) := by
        unfold sgB
        rw [if_pos e, List.length_map, bl_len]
      rw [if_pos e, q_sh1 (by omega), q_or, q_gl, q_gg (by omega) (by omega), nI_clamp (by omega), (h.2 _ (Nat.zero_le _) hsb).2, q_gg (by omega) (by omega)]
      by_cases c : i < wy (csts all (mfP all f l) (tol all st) (b ||| 2 ^ g))
      · refine ⟨g, i, e, Nat.le_refl _, by rw [bl_len]; exact c, ?_, ?_⟩
        · rw [getD_l (by omega)]
          unfold sgB
          rw [if_pos e, getD_mm (d := []) (by rw [bl_len]; exact c)]
        · have hw : ¬ nI (wy (csts all (mfP all f l) (tol all st) (b ||| 2 ^ g))) ≤ nI i := by
            have h7 := wy_lt (all := all) (mf := mfP all f l) (tl := tol all st) (b := b ||| 2 ^ g)
            exact nI_ge c (by omega)
          rw [if_neg hw, q_gl]
      · have hw : nI (wy (csts all (mfP all f l) (tol all st) (b ||| 2 ^ g))) ≤ nI i := nI_le (by omega) hi2
        obtain ⟨k, i', k1, k2, k3, k4, k5⟩ := x_pick_24 h ha hb hs hf hl (x4 := x4) (x5 := x5) (K := K) j (g + 1) (i - wy (csts all (mfP all f l) (tol all st) (b ||| 2 ^ g))) n (by omega) (by omega) (by omega) (by omega)
        refine ⟨k, i', k1, by omega, k3, ?_, ?_⟩
        · rw [getD_r (by omega), hlen]
          exact k4
        · rw [if_pos hw, pk_sub (by omega), q_gl]
          exact k5
    · have h0 : sgB all (mfP all f l) (tol all st) b g = [] := if_neg e
      rw [h0] at hi ⊢
      rw [if_neg e]
      obtain ⟨k, i', k1, k2, k3, k4, k5⟩ := x_pick_24 h ha hb hs hf hl (x4 := x4) (x5 := x5) (K := K) j (g + 1) i n (by omega) (by omega) hi2 (by simpa using hi)
      exact ⟨k, i', k1, k2, k3, k4, k5⟩
theorem x_pick_16 {z : gS} {p all : Nat} {f l : Option Nat} {st : Nat → Nat} (h : PK z p all f l st) (ha : all < 2 ^ 7) (hs : ∀ g, g < 7 → st g < 2 ^ 8) (hf : FB f) (hl : FB l) : ∀ n b v i m, rm all b = n → n < m → nd b all = 0 → i < 2 ^ 31 → i < (bl all (mfP all f l) (tol all st) b).length → f_X3_pick_16 p z m (nI i) (nI b) (nI v) (nI n) = some (nI (dig v ((bl all (mfP all f l) (tol all st) b).getD i [])))
  | n, b, v, i, 0, hn, hm, hb, hi2, hi => by omega
  | 0, b, v, i, m + 1, hn, hm, hb, hi2, hi => by
    have e := rm_0 ha hb hn
    subst e
    rw [bl_all] at hi ⊢
    have : i = 0 := by simp at hi; omega
    subst this
    show f_X3_pick_16_b p z (fun x2 x3 x4 x5 => f_X3_pick_16 p z m x2 x3 x4 x5) (nI 0) (nI b) (nI v) (nI 0) = _
    unfold f_X3_pick_16_b
    exact if_pos (by decide)
  | n + 1, b, v, i, m + 1, hn, hm, hb, hi2, hi => by
    show f_X3_pick_16_b p z (fun x2 x3 x4 x5 => f_X3_pick_16 p z m x2 x3 x4 x5) (nI i) (nI b) (nI v) (nI (n + 1)) = _
    unfold f_X3_pick_16_b
    rw [q_ifle0 (by have := rm_le all b; omega), if_neg (by omega)]
    have hbs := bl_s (mfP_hm all f l) (tol_le all st) (b := b) (by omega)
    have h7 : (List.range 7) = List.range' 0 7 := by decide
    rw [hbs, h7] at hi ⊢
    obtain ⟨k, i', k1, k2, k3, k4, k5⟩ := x_pick_24 h ha hb hs hf hl (x4 := nI v) (x5 := nI (n + 1)) (K := fun x2 x3 x4 x5 => f_X3_pick_16 p z m x2 x3 x4 x5) 7 0 i gF (by omega) (q_gF (by omega)) hi2 hi
    rw [k5, k4]
    obtain ⟨g1, g2, g3⟩ := mfP_hm all f l b k (by unfold bs at k1; simp at k1; exact k1.1)
    have hsb := sub_or hb g2
    have hrm := rm_s g2 g3 g1
    have := x_pick_16 h ha hs hf hl n (b ||| 2 ^ k) (10 * v + k + 1) i' m (by omega) (by omega) hsb (by omega) k3
    rw [pk_mul, nI_add, nI_add, q_pred (by omega)]
    show f_X3_pick_16 p z m (nI i') (nI (b ||| 2 ^ k)) (nI (v * 10 + k + 1)) (nI (n + 1 - 1)) = _
    rw [show v * 10 + k + 1 = 10 * v + k + 1 by omega, show n + 1 - 1 = n by omega, this]
    rfl
theorem pop_rm : ∀ a, a < 128 → pop a = rm a 0 := by decide +kernel
theorem x_pick {z : gS} {p all i : Nat} {f l : Option Nat} {st : Nat → Nat} (h : PK z p all f l st) (ha : all < 2 ^ 7) (hs : ∀ g, g < 7 → st g < 2 ^ 8) (hf : FB f) (hl : FB l) (hi : i < (bl all (mfP all f l) (tol all st) 0).length) : f_X3_pick p (nI i) z = some (nI (dig 0 ((bl all (mfP all f l) (tol all st) 0).getD i []))) := by
  have hw := wy_lt (all := all) (mf := mfP all f l) (tl := tol all st) (b := 0)
  have hw2 := hi
  rw [bl_len] at hw2
  unfold f_X3_pick
  rw [h.1.1, q_bc (by omega), q_gb, pop_rm _ (by omega)]
  exact x_pick_16 h ha hs hf hl _ 0 0 i gF rfl (q_gF (by have := rm_le all 0; omega)) nd0 (by omega) hi
/-- how many best ones are ahead of one -/
def cntL (all : Nat) (mf : Nat → Nat → Bool) (tl : Nat → Nat → Nat) (b : Nat) (r : List Nat) : Nat := (bl all mf tl b).countP (fun l => decide (dig 0 l < dig 0 r))
theorem rng7 : ∀ x, x < 7 → List.range 7 = List.range x ++ x :: List.range' (x + 1) (6 - x) := by decide
theorem cntL_s {all : Nat} {mf : Nat → Nat → Bool} {tl : Nat → Nat → Nat} (hm : HM all mf) (ht : ∀ b g, tl b g ≤ 8) {b x : Nat} {r : List Nat} (hr : r.length + 1 = rm all b) (hx : x < 7) (h7 : ∀ y ∈ r, y < 7) : cntL all mf tl b (x :: r) = ((List.range x).flatMap (sgB all mf tl b)).length + if bs all mf tl b x then cntL all mf tl (b ||| 2 ^ x) r else 0 := by
  have hseg : ∀ g l, l ∈ sgB all mf tl b g → ∃ t, l = g :: t ∧ t ∈ bl all mf tl (b ||| 2 ^ g) ∧ t.length = r.length ∧ dig 0 t < 10 ^ r.length := fun g l hl => by
    unfold sgB at hl
    by_cases e : bs all mf tl b g = true
    · rw [if_pos e] at hl
      obtain ⟨t, h1, rfl⟩ := List.mem_map.mp hl
      obtain ⟨g1, g2, g3⟩ := hm b g (by unfold bs at e; simp at e; exact e.1)
      have h2 := bl_m h1
      have h3 := plm_len h2
      have h4 := rm_s g2 g3 g1
      have h5 : t.length = r.length := by omega
      exact ⟨t, rfl, h1, h5, by rw [← h5]; exact dig_lt (plm_lt h2)⟩
    · rw [if_neg e] at hl; cases hl
  have hdr := dig_lt h7
  have hlt : ∀ g, g < x → (g + 1) * 10 ^ r.length + 10 ^ r.length ≤ (x + 1) * 10 ^ r.length := fun g hg => by
    rw [show (g + 1) * 10 ^ r.length + 10 ^ r.length = (g + 1 + 1) * 10 ^ r.length by rw [Nat.add_mul (g + 1)]; omega]
    exact Nat.mul_le_mul_right _ (by omega)
  unfold cntL
  rw [bl_s hm ht (by omega), rng7 x hx, List.flatMap_append, List.flatMap_cons, List.countP_append, List.countP_append]
  have e1 : List.countP (fun l => decide (dig 0 l < dig 0 (x :: r))) ((List.range x).flatMap (sgB all mf tl b)) = ((List.range x).flatMap (sgB all mf tl b)).length := by
    rw [List.countP_eq_length]
    intro l hl
    obtain ⟨g, hg, hl⟩ := List.mem_flatMap.mp hl
    obtain ⟨t, rfl, _, t2, t3⟩ := hseg g l hl
    have := hlt g (List.mem_range.mp hg)
    rw [decide_eq_true_eq, dig_c, dig_c, t2]
    omega
  have e3 : List.countP (fun l => decide (dig 0 l < dig 0 (x :: r))) ((List.range' (x + 1) (6 - x)).flatMap (sgB all mf tl b)) = 0 := by
    rw [List.countP_eq_zero]
    intro l hl
    obtain ⟨g, hg, hl⟩ := List.mem_flatMap.mp hl
    obtain ⟨t, rfl, _, t2, t3⟩ := hseg g l hl
    have hg := (List.mem_range'_1.mp hg).1
    have : (x + 1 + 1) * 10 ^ r.length ≤ (g + 1) * 10 ^ r.length := Nat.mul_le_mul_right _ (by omega)
    rw [Nat.add_mul (x + 1)] at this
    rw [decide_eq_true_eq, dig_c, dig_c, t2]
    omega
  rw [e1, e3, Nat.add_zero]
  congr 1
  unfold sgB
  split
  · rw [List.countP_map]
    apply List.countP_congr
    intro t ht
    obtain ⟨t', e, _, t2, _⟩ := hseg x (x :: t) (by unfold sgB; rename_i q; rw [if_pos q]; exact List.mem_map.mpr ⟨t, ht, rfl⟩)
    cases e
    show decide (dig 0 (x :: t) < dig 0 (x :: r)) = true ↔ _
    rw [decide_eq_true_eq, decide_eq_true_eq, dig_c, dig_c, t2]
    omega
  · rfl
