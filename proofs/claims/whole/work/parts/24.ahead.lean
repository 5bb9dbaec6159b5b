/-! how many best orders are ahead of a row; how many with so many gaps -/
theorem x_ahead_33 {z : gS} {p p1 all b m x : Nat} {f l : Option Nat} {st : Nat → Nat} (h : PK z p all f l st) (ha : all < 2 ^ 7) (hb : nd b all = 0) (hs : ∀ g, g < 7 → st g < 2 ^ 8) (hf : FB f) (hl : FB l) {x2 : Int32} {i : Nat} {K : Int32 → Int32 → Int32 → Option Int32} (hi : i < 7) (hx : z p1 i = nI x) (hx7 : x < 7) : f_X3_ahead_33 p p1 7 z x2 (nI b) (nI i) K gF (nI m) (nI 0) = if bs all (mfP all f l) (tol all st) b x then K (nI (m + ((List.range x).flatMap (sgB all (mfP all f l) (tol all st) b)).length)) (nI (b ||| 2 ^ x)) (nI (i + 1)) else some (nI (m + ((List.range x).flatMap (sgB all (mfP all f l) (tol all st) b)).length)) := by
  have hle := sub_le hb
  unfold f_X3_ahead_33
  refine gfor0 (fun k => (nI (m + ((List.range k).flatMap (sgB all (mfP all f l) (tol all st) b)).length), nI k)) (e := x) (by omega) (fun k rec hk => ?_) (fun rec => ?_)
  · show f_X3_ahead_33_b p p1 7 z x2 (nI b) (nI i) K (fun x3 x6 => rec (x3, x6)) (nI (m + ((List.range k).flatMap (sgB all (mfP all f l) (tol all st) b)).length)) (nI k) = rec (nI (m + ((List.range (k + 1)).flatMap (sgB all (mfP all f l) (tol all st) b)).length), nI (k + 1))
    unfold f_X3_ahead_33_b
    rw [q_gg hi (by omega), nI_clamp (by omega), hx, if_neg (nI_ge hk (by omega)), x_isBest h ha hb (by omega) hs hf hl, q_gb, q_ifb, nI_add, List.range_succ, List.flatMap_append, List.length_append]
    have e1 : List.flatMap (sgB all (mfP all f l) (tol all st) b) [k] = sgB all (mfP all f l) (tol all st) b k := by simp
    rw [e1]
    by_cases e : bs all (mfP all f l) (tol all st) b k = true
    · obtain ⟨_, e2, e3⟩ := mfP_hm all f l b k (by unfold bs at e; simp at e; exact e.1)
      have hsb := sub_or hb e2
      have hole := sub_le hsb
      have hlen : (sgB all (mfP all f l) (tol all st) b k).length = wy (csts all (mfP all f l) (tol all st) (b ||| 2 ^ k)) := by
        unfold sgB
        rw [if_pos e, List.length_map, bl_len]
      rw [if_pos e, q_sh1 (by omega), q_or, q_gg (by omega) (by omega), nI_clamp (by omega), (h.2 _ (Nat.zero_le _) hsb).2, nI_add, q_gl, hlen, Nat.add_assoc]
    · have h0 : sgB all (mfP all f l) (tol all st) b k = [] := if_neg e
      rw [if_neg e, h0]
      rfl
  · show f_X3_ahead_33_b p p1 7 z x2 (nI b) (nI i) K (fun x3 x6 => rec (x3, x6)) (nI (m + ((List.range x).flatMap (sgB all (mfP all f l) (tol all st) b)).length)) (nI x) = _
    unfold f_X3_ahead_33_b
    rw [q_gg hi (by omega), nI_clamp (by omega), hx, if_pos (nI_le (Nat.le_refl _) (by omega)), q_gg hi (by omega), x_isBest h ha hb hx7 hs hf hl, q_gb, q_ifb, q_gg hi (by omega), q_sh1 (by omega), q_or, nI_add, q_gl]
theorem x_ahead_8 {z : gS} {p p1 all N : Nat} {f l : Option Nat} {st : Nat → Nat} (h : PK z p all f l st) (ha : all < 2 ^ 7) (hs : ∀ g, g < 7 → st g < 2 ^ 8) (hf : FB f) (hl : FB l) (h0 : mnF (csts all (mfP all f l) (tol all st) 0) = 0) (hN : N ≤ 7) : ∀ (r : List Nat) (b m i n : Nat), r.length < n → nd b all = 0 → i + r.length = N → r.length = rm all b → (∀ x ∈ r, x < 7) → (∀ j, j < r.length → z p1 (i + j) = nI (r.getD j 0)) → f_X3_ahead_8 p p1 7 z (nI N) n (nI m) (nI b) (nI i) = some (nI (m + cntL all (mfP all f l) (tol all st) b r))
  | r, b, m, i, 0, hn, _, _, _, _, _ => by omega
  | [], b, m, i, n + 1, hn, hb, hi, hr, h7, hz => by
    show f_X3_ahead_8_b p p1 7 z (nI N) (fun x3 x4 x5 => f_X3_ahead_8 p p1 7 z (nI N) n x3 x4 x5) (nI m) (nI b) (nI i) = _
    have hi : i + 0 = N := hi
    unfold f_X3_ahead_8_b
    rw [if_pos (nI_le (by omega) (by omega))]
    congr 2
    have e := rm_0 ha hb hr.symm
    subst e
    unfold cntL
    rw [bl_all]
    rfl
  | x :: r, b, m, i, n + 1, hn, hb, hi, hr, h7, hz => by
    have hi : i + (r.length + 1) = N := hi
    have hr : r.length + 1 = rm all b := hr
    have hx7 := h7 x (by simp)
    have h7' : ∀ y ∈ r, y < 7 := fun y hy => h7 y (List.mem_cons_of_mem x hy)
    have hzi : z p1 i = nI x := hz 0 (by simp)
    show f_X3_ahead_8_b p p1 7 z (nI N) (fun x3 x4 x5 => f_X3_ahead_8 p p1 7 z (nI N) n x3 x4 x5) (nI m) (nI b) (nI i) = _
    unfold f_X3_ahead_8_b
    rw [if_neg (nI_ge (show i < N by omega) (by omega)), show (Int32.ofNat 7) = nI 7 from rfl, if_neg (nI_ge (show i < 7 by omega) (by omega)), q_gg (by omega) (by omega), nI_clamp (by omega), (h.2 0 (Nat.zero_le _) nd0).1, h0, q_if00, x_ahead_33 h ha hb hs hf hl (by omega) hzi hx7, cntL_s (mfP_hm all f l) (tol_le all st) hr hx7 h7']
    by_cases e : bs all (mfP all f l) (tol all st) b x = true
    · obtain ⟨g1, g2, g3⟩ := mfP_hm all f l b x (by unfold bs at e; simp at e; exact e.1)
      have hsb := sub_or hb g2
      have hrm := rm_s g2 g3 g1
      rw [if_pos e, if_pos e, x_ahead_8 h ha hs hf hl h0 hN r (b ||| 2 ^ x) _ (i + 1) n (by simp at hn; omega) hsb (by omega) (by omega) h7' (fun j hj => ?_)]
      · rw [Nat.add_assoc]
      · have := hz (j + 1) (by simp; omega)
        rw [show i + 1 + j = i + (j + 1) by omega, this]
        rfl
    · rw [if_neg e, if_neg e, Nat.add_zero]
theorem x_ahead {z : gS} {p p1 all : Nat} {f l : Option Nat} {st : Nat → Nat} (h : PK z p all f l st) (ha : all < 2 ^ 7) (hs : ∀ g, g < 7 → st g < 2 ^ 8) (hf : FB f) (hl : FB l) {r : List Nat} (hr : r.length = rm all 0) (h7 : ∀ x ∈ r, x < 7) (hz : ∀ j, j < r.length → z p1 j = nI (r.getD j 0)) : f_X3_ahead p p1 7 (nI r.length) z = some (nI (if mnF (csts all (mfP all f l) (tol all st) 0) = 0 then cntL all (mfP all f l) (tol all st) 0 r else 0)) := by
  have h1 := rm_le all 0
  unfold f_X3_ahead
  by_cases e : mnF (csts all (mfP all f l) (tol all st) 0) = 0
  · rw [if_pos e, x_ahead_8 h ha hs hf hl e (by omega) r 0 0 0 gF (q_gF (by omega)) nd0 (by omega) hr h7 (fun j hj => by rw [Nat.zero_add]; exact hz j hj), Nat.zero_add]
  · rw [if_neg e]
    unfold f_X3_ahead_8
    show f_X3_ahead_8_b p p1 7 z (nI r.length) (fun x3 x4 x5 => f_X3_ahead_8 p p1 7 z (nI r.length) 99999 x3 x4 x5) (nI 0) (nI 0) (nI 0) = _
    have hmn := mnF_le (csts all (mfP all f l) (tol all st) 0)
    unfold f_X3_ahead_8_b
    rw [show (Int32.ofNat 7) = nI 7 from rfl, q_gg (by omega) (by omega), nI_clamp (by omega), (h.2 0 (Nat.zero_le _) nd0).1, q_if0 (by omega), if_neg e]
    split
    · rfl
    · split <;> rfl
