/-! the plan's lists are the reference's -/
theorem csts_T {d : Dat} {all ty : Nat} {mf : Nat → Nat → Bool} (v : VD d) (hm : HM all mf) (ha : all < 2 ^ dg d) : csts all mf (tol all (stT d ty)) 0 = (plm mf (rm all 0) 0).map (gpS d ty) := by
  unfold csts
  apply List.map_congr_left
  intro l hl
  exact cst_gpS v hm ha hl
theorem bl_T {d : Dat} {all ty : Nat} {mf : Nat → Nat → Bool} (v : VD d) (hm : HM all mf) (ha : all < 2 ^ dg d) : bl all mf (tol all (stT d ty)) 0 = (plm mf (rm all 0) 0).filter (fun l => decide (gpS d ty l = mnF ((plm mf (rm all 0) 0).map (gpS d ty)))) := by
  unfold bl
  rw [csts_T v hm ha]
  apply List.filter_congr
  intro l hl
  rw [cst_gpS v hm ha hl]
theorem plm_srt {mf : Nat → Nat → Bool} : ∀ n b, (plm mf n b).Pairwise (fun a c => dig 0 a < dig 0 c)
  | 0, b => by show [[]].Pairwise _; simp
  | n + 1, b => by
    rw [plm_s, List.pairwise_flatMap]
    have hseg : ∀ g l, l ∈ (if mf b g then (plm mf n (b ||| 2 ^ g)).map (fun l => g :: l) else []) → ∃ t, l = g :: t ∧ t.length = n ∧ dig 0 t < 10 ^ n := fun g l hl => by
      split at hl
      · obtain ⟨t, h1, rfl⟩ := List.mem_map.mp hl
        have h3 := plm_len h1
        exact ⟨t, rfl, h3, by rw [← h3]; exact dig_lt (plm_lt h1)⟩
      · cases hl
    constructor
    · intro g _
      split
      · rw [List.pairwise_map]
        refine (plm_srt n _).imp_of_mem (fun {a c} h1 h2 h3 => ?_)
        rw [dig_c, dig_c, plm_len h1, plm_len h2]
        omega
      · exact List.Pairwise.nil
    · refine List.pairwise_lt_range.imp (fun {g k} hgk x hx y hy => ?_)
      obtain ⟨t, rfl, t1, t2⟩ := hseg g x hx
      obtain ⟨u, rfl, u1, u2⟩ := hseg k y hy
      have : (g + 1) * 10 ^ n + 10 ^ n ≤ (k + 1) * 10 ^ n := by
        rw [show (g + 1) * 10 ^ n + 10 ^ n = (g + 1 + 1) * 10 ^ n by rw [Nat.add_mul (g + 1)]; omega]
        exact Nat.mul_le_mul_right _ (by omega)
      rw [dig_c, dig_c, t1, u1]
      omega
theorem srt_cnt {G : List (List Nat)} (h : G.Pairwise (fun a c => dig 0 a < dig 0 c)) (o : Nat) : ∀ i, i < G.length → (dig 0 (G.getD i []) < o ↔ i < G.countP (fun l => decide (dig 0 l < o))) := by
  induction G with
  | nil => intro i hi; cases hi
  | cons g G ih =>
    rw [List.pairwise_cons] at h
    intro i hi
    rw [List.countP_cons]
    by_cases c : dig 0 g < o
    · rw [if_pos (by simpa using c)]
      cases i with
      | zero =>
        constructor
        · intro _; omega
        · intro _; exact c
      | succ i =>
        have := ih h.2 i (by simpa using hi)
        show dig 0 (G.getD i []) < o ↔ _
        rw [this]
        omega
    · rw [if_neg (by simpa using c)]
      have h0 : G.countP (fun l => decide (dig 0 l < o)) = 0 := by
        rw [List.countP_eq_zero]
        intro l hl
        have := h.1 l hl
        simp
        omega
      rw [h0]
      cases i with
      | zero =>
        constructor
        · intro q; exact absurd q c
        · intro q; omega
      | succ i =>
        have hi : i < G.length := by simpa using hi
        have hm : G.getD i [] ∈ G := by
          rw [List.getD_eq_getElem?_getD, List.getElem?_eq_getElem hi]
          exact List.getElem_mem hi
        have := h.1 _ hm
        show dig 0 (G.getD i []) < o ↔ _
        constructor
        · intro q; omega
        · intro q; omega
theorem gls_srt {d : Dat} {all ty : Nat} : (gls d ty (oT all)).Pairwise (fun a c => dig 0 a < dig 0 c) := (plm_srt _ _).sublist List.filter_sublist
theorem dig_8 {l : List Nat} (h : B7 l) : dig 0 l < 10 ^ 7 := by
  have h1 := dig_lt h.2
  have h2 : 10 ^ l.length ≤ 10 ^ 7 := Nat.pow_le_pow_right (by omega) h.1
  omega
theorem gls_in {d : Dat} {all ty : Nat} {l : List Nat} (h : l ∈ gls d ty (oT all)) : l ∈ oT all := (List.mem_filter.mp h).1
theorem gls_d {d : Dat} {all ty i : Nat} (h : i < (gls d ty (oT all)).length) : (gls d ty (oT all)).getD i [] ∈ gls d ty (oT all) := by
  rw [List.getD_eq_getElem?_getD, List.getElem?_eq_getElem h]
  exact List.getElem_mem h
theorem gls_len {d : Dat} {all ty n : Nat} {asc : List Nat} (h : OT all n asc) : (gls d ty (oT all)).length ≤ 5040 := by
  have h1 := List.length_filter_le (fun l => decide (gpS d ty l = 0)) (oT all)
  have h2 := h.2.2.2.2.1
  unfold gls
  omega
theorem m_rank_17 {w : gS} {d : Dat} {all ty n o : Nat} {asc : List Nat} (h : OT all n asc) (hf : FR w (gls d ty (oT all))) (ho : o < 2 ^ 31) : f_X11_rank_17 w (nI o) gF (nI 0) = some (nI ((gls d ty (oT all)).countP (fun l => decide (dig 0 l < o))), w) := by
  have hl := gls_len (d := d) (ty := ty) h
  have hc : (gls d ty (oT all)).countP (fun l => decide (dig 0 l < o)) ≤ (gls d ty (oT all)).length := List.countP_le_length
  have hs := srt_cnt (gls_srt (d := d) (all := all) (ty := ty)) o
  unfold f_X11_rank_17
  refine gfor0 (fun k => nI k) (e := (gls d ty (oT all)).countP (fun l => decide (dig 0 l < o))) (by omega) (fun k rec hk => ?_) (fun rec => ?_)
  · show f_X11_rank_17_b w (nI o) (fun x2 => rec x2) (nI k) = rec (nI (k + 1))
    have hd := dig_8 (oT_b7 _ (gls_in (gls_d (d := d) (all := all) (ty := ty) (i := k) (by omega)))).2
    unfold f_X11_rank_17_b
    rw [hf.1, if_neg (nI_ge (show k < (gls d ty (oT all)).length by omega) (by omega)), q_gg (by omega) (by omega), nI_clamp (by omega), hf.2 k (by omega), if_neg (nI_ge ((hs k (by omega)).mpr hk) (by omega)), nI_add]
  · show f_X11_rank_17_b w (nI o) (fun x2 => rec x2) (nI _) = _
    unfold f_X11_rank_17_b
    by_cases c : (gls d ty (oT all)).countP (fun l => decide (dig 0 l < o)) < (gls d ty (oT all)).length
    · have hd := dig_8 (oT_b7 _ (gls_in (gls_d (d := d) (all := all) (ty := ty) c))).2
      have hge : ¬ dig 0 ((gls d ty (oT all)).getD ((gls d ty (oT all)).countP (fun l => decide (dig 0 l < o))) []) < o := fun q => absurd ((hs _ c).mp q) (Nat.lt_irrefl _)
      rw [hf.1, if_neg (nI_ge c (by omega)), q_gg (by omega) (by omega), nI_clamp (by omega), hf.2 _ c, if_pos (nI_le (by omega) (by omega))]
    · rw [hf.1, if_pos (nI_le (by omega) (by omega))]
/-- the least is 0: the best are the gapless ones; else there is none -/
theorem gls_nil {d : Dat} {ty : Nat} {T : List (List Nat)} (h : mnF (T.map (gpS d ty)) ≠ 0) : gls d ty T = [] := by
  unfold gls
  rw [List.filter_eq_nil_iff]
  intro l hl q
  simp at q
  have := mnF_m (List.mem_map.mpr ⟨l, hl, rfl⟩ : gpS d ty l ∈ T.map (gpS d ty))
  omega
theorem gls_ne {d : Dat} {ty : Nat} {T : List (List Nat)} (h : mnF (T.map (gpS d ty)) = 0) (hl : ∀ l ∈ T, gpS d ty l < 1000) : gls d ty T ≠ [] := by
  intro e
  unfold gls at e
  rw [List.filter_eq_nil_iff] at e
  by_cases q : T.map (gpS d ty) = []
  · rw [q] at h; cases h
  · have := mnF_in q (fun a ha => by
      obtain ⟨x, hx, rfl⟩ := List.mem_map.mp ha
      exact hl x hx)
    rw [h] at this
    obtain ⟨l, h1, h2⟩ := List.mem_map.mp this
    exact e l h1 (by simpa using h2)
/-! told ends -/
def okL (mf : Nat → Nat → Bool) : Nat → List Nat → Bool
  | _, [] => true
  | b, g :: l => mf b g && okL mf (b ||| 2 ^ g) l
theorem plm_flt {mf mf' : Nat → Nat → Bool} (h : ∀ b g, mf' b g = true → mf b g = true) : ∀ n b, plm mf' n b = (plm mf n b).filter (okL mf' b)
  | 0, b => by
    show [[]] = [[]].filter (okL mf' b)
    rfl
  | n + 1, b => by
    rw [plm_s, plm_s, List.filter_flatMap]
    congr 1
    funext g
    by_cases e : mf' b g = true
    · rw [if_pos e, if_pos (h b g e), List.filter_map, plm_flt h n]
      congr 1
      apply List.filter_congr
      intro l _
      show okL mf' (b ||| 2 ^ g) l = (mf' b g && okL mf' (b ||| 2 ^ g) l)
      rw [e]
      rfl
    · rw [if_neg e]
      by_cases e2 : mf b g = true
      · rw [if_pos e2, eq_comm, List.filter_eq_nil_iff]
        intro l hl
        obtain ⟨t, _, rfl⟩ := List.mem_map.mp hl
        show ¬ (mf' b g && okL mf' (b ||| 2 ^ g) t) = true
        simp only [Bool.not_eq_true] at e
        rw [e]
        simp
      · rw [if_neg e2]; rfl
theorem okL_r {all x y : Nat} (ha : all < 2 ^ 7) : ∀ n b l, rm all b = n + 1 → nd b all = 0 → b.testBit x = true → l ∈ plm (mfP all none none) (n + 1) b → okL (mfP all (some x) (some y)) b l = decide (l.getD n 0 = y)
  | 0, b, l, hn, hb, hx, hl => by
    obtain ⟨g, r, h1, h2, h3, rfl⟩ := plm_m.mp hl
    obtain ⟨_, h4, h5⟩ := mfP_hm all none none b g h2
    have e := rm_0 ha (sub_or hb h4) (by have := rm_s h4 h5 h1; omega)
    have h3 : r ∈ [[]] := h3
    simp at h3
    subst h3
    show (mfP all (some x) (some y) b g && true) = decide (g = y)
    have hb0 : b ≠ 0 := fun q => by rw [q] at hx; simp at hx
    have hgx : g ≠ x := fun q => by rw [q, hx] at h5; cases h5
    unfold mfP
    simp [h1, h4, h5, e, hb0, hgx]
  | n + 1, b, l, hn, hb, hx, hl => by
    obtain ⟨g, r, h1, h2, h3, rfl⟩ := plm_m.mp hl
    obtain ⟨_, h4, h5⟩ := mfP_hm all none none b g h2
    have hr := rm_s h4 h5 h1
    have hsb := sub_or hb h4
    have ih := okL_r (x := x) (y := y) ha n (b ||| 2 ^ g) r (by omega) hsb (by rw [bt_or, hx]; rfl) h3
    have hne : b ||| 2 ^ g ≠ all := fun q => by rw [q, rm_all] at hr; omega
    show (mfP all (some x) (some y) b g && okL _ (b ||| 2 ^ g) r) = decide (r.getD n 0 = y)
    have hb0 : b ≠ 0 := fun q => by rw [q] at hx; simp at hx
    have hgx : g ≠ x := fun q => by rw [q, hx] at h5; cases h5
    rw [ih]
    have hin : r.getD n 0 ∈ r := by
      have hl2 := plm_len h3
      rw [List.getD_eq_getElem?_getD, List.getElem?_eq_getElem (by omega)]
      exact List.getElem_mem (by omega)
    have hgy : r.getD n 0 = y → g ≠ y := fun q1 q2 => by
      rw [q1, plm_mem (mfP_hm all none none) ha _ _ _ (by omega) hsb h3, ← q2, bt_or] at hin
      simp at hin
    unfold mfP
    by_cases c : r.getD n 0 = y
    · simp only [h1, h4, h5, hne, hb0, hgx, hgy c, c]
      simp
    · rw [decide_eq_false c]
      simp
def enE (n x y : Nat) (l : List Nat) : Bool := decide (l.getD 0 0 = x) && decide (l.getD (n - 1) 0 = y)
theorem okL_E {all x y n : Nat} (ha : all < 2 ^ 7) (hn : rm all 0 = n) (h0 : n ≠ 0) {l : List Nat} (hl : l ∈ oT all) (hxy : n = 1 ↔ x = y) : okL (mfP all (some x) (some y)) 0 l = enE n x y l := by
  obtain ⟨m, rfl⟩ : ∃ m, n = m + 1 := ⟨n - 1, by omega⟩
  unfold oT at hl
  rw [hn] at hl
  obtain ⟨g, r, h1, h2, h3, rfl⟩ := plm_m.mp hl
  obtain ⟨_, h4, h5⟩ := mfP_hm all none none 0 g h2
  have hr := rm_s h4 h5 h1
  have hsb := sub_or nd0 h4
  show (mfP all (some x) (some y) 0 g && okL _ (0 ||| 2 ^ g) r) = (decide (g = x) && decide ((g :: r).getD (m + 1 - 1) 0 = y))
  by_cases c : g = x
  · subst c
    cases m with
    | zero =>
      have h3 : r ∈ [[]] := h3
      simp at h3
      subst h3
      have e := rm_0 ha hsb (by omega)
      show (mfP all (some g) (some y) 0 g && true) = (decide (g = g) && decide (g = y))
      unfold mfP
      simp [h1, h4, e]
    | succ m =>
      have hne : 0 ||| 2 ^ g ≠ all := fun q => by rw [q, rm_all] at hr; omega
      rw [okL_r ha m (0 ||| 2 ^ g) r (by omega) hsb (by rw [bt_or]; simp) h3]
      show _ = (decide (g = g) && decide (r.getD m 0 = y))
      unfold mfP
      have hgy : ¬ g = y := fun q => by have := hxy.mpr q; omega
      have hne2 : ¬ 2 ^ g = all := fun q => hne (by rw [Nat.zero_or]; exact q)
      simp [h1, h4, hne2, hgy]
  · rw [decide_eq_false c, Bool.false_and]
    unfold mfP
    simp [c]
theorem plm_E {all x y n : Nat} (ha : all < 2 ^ 7) (hn : rm all 0 = n) (h0 : n ≠ 0) (hxy : n = 1 ↔ x = y) : plm (mfP all (some x) (some y)) (rm all 0) 0 = (oT all).filter (enE n x y) := by
  rw [plm_flt (mf := mfP all none none) (mf' := mfP all (some x) (some y)) (fun b g h => by
    unfold mfP at h ⊢
    simp only [Bool.and_eq_true] at h
    simp only [Bool.and_eq_true]
    exact ⟨h.1, trivial, trivial⟩)]
  apply List.filter_congr
  intro l hl
  exact okL_E ha hn h0 hl hxy
