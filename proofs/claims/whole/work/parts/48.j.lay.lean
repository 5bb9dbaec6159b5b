/-! what lies on a tray -/
def ixL (c : Nat) : List Nat → Nat
  | [] => 0
  | a :: l => if a = c then 0 else ixL c l + 1
theorem ixL_le (c : Nat) : ∀ L, ixL c L ≤ L.length
  | [] => Nat.le_refl _
  | a :: l => by
    unfold ixL
    have := ixL_le c l
    split
    · omega
    · rw [List.length_cons]; omega
theorem ixL_ne {c : Nat} : ∀ {L : List Nat} {i : Nat}, i < ixL c L → L.getD i 0 ≠ c
  | [], i, h => by unfold ixL at h; omega
  | a :: l, i, h => by
    unfold ixL at h
    split at h
    · omega
    · rename_i e
      cases i with
      | zero => exact e
      | succ j => exact ixL_ne (L := l) (i := j) (by omega)
theorem ixL_in {c : Nat} : ∀ {L : List Nat}, ixL c L < L.length → L.getD (ixL c L) 0 = c
  | [], h => by cases h
  | a :: l, h => by
    unfold ixL at h ⊢
    split at h
    · rename_i e; rw [if_pos e]; exact e
    · rename_i e
      rw [if_neg e]
      exact ixL_in (L := l) (by rw [List.length_cons] at h; omega)
theorem ixL_no {c : Nat} {L : List Nat} (h : ixL c L = L.length) : c ∉ L := fun q => by
  obtain ⟨i, hi, e⟩ := List.mem_iff_getElem.mp q
  refine ixL_ne (c := c) (L := L) (i := i) (by omega) ?_
  rw [List.getD_eq_getElem?_getD, List.getElem?_eq_getElem hi]
  exact e
theorem x_find8 {z : gS} {p c : Nat} {L : List Nat} (h1 : z p 1 = nI L.length) (h2 : ∀ i, i < L.length → z (p + 1) i = nI (L.getD i 0)) (hl : L.length ≤ 512) (hL : ∀ x ∈ L, x < 2 ^ 31) (hc : c < 2 ^ 31) : f_X8_find p (nI c) z = some (if ixL c L < L.length then nI (ixL c L) else gm1) := by
  have hle := ixL_le c L
  unfold f_X8_find f_X8_find_2
  refine gfor0 (fun k => nI k) (e := ixL c L) (by omega) (fun k rec hk => ?_) (fun rec => ?_)
  · have hin := hL _ (getD_in (show k < L.length by omega))
    show f_X8_find_2_b p z (nI c) (fun x2 => rec x2) (nI k) = rec (nI (k + 1))
    unfold f_X8_find_2_b
    rw [h1, if_neg (nI_ge (show k < L.length by omega) (by omega)), q_gg (by omega) (by omega), nI_clamp (by omega), h2 k (by omega), if_neg (fun q => ixL_ne hk ((nI_eq hin hc).mp q)), nI_add]
  · show f_X8_find_2_b p z (nI c) (fun x2 => rec x2) (nI _) = _
    unfold f_X8_find_2_b
    rw [h1]
    by_cases e : ixL c L < L.length
    · rw [if_neg (nI_ge e (by omega)), q_gg (by omega) (by omega), nI_clamp (by omega), h2 _ e, ixL_in e, if_pos rfl, if_pos e]
    · rw [if_pos (nI_le (by omega) (by omega)), if_neg e]
theorem m_find8 {w : gS} {t c : Nat} {L : List Nat} (ht : t < 4) (h1 : w 14 t = nI L.length) (h2 : ∀ i, i < L.length → w 15 (300 * t + i) = nI (L.getD i 0)) (hl : L.length ≤ 300) (hL : ∀ x ∈ L, x < 2 ^ 31) (hc : c < 2 ^ 31) : f_X11_placeIn (nI t) (nI c) w = some (if ixL c L < L.length then nI (300 * t + ixL c L) else gm1) := by
  have hle := ixL_le c L
  unfold f_X11_placeIn f_X11_placeIn_6
  rw [q_gl, pk_mul]
  refine gfor0 (fun k => nI (300 * t + k)) (e := ixL c L) (by omega) (fun k rec hk => ?_) (fun rec => ?_)
  · have hin := hL _ (getD_in (show k < L.length by omega))
    show f_X11_placeIn_6_b w (nI t) (nI c) (fun x2 => rec x2) (nI (300 * t + k)) = rec (nI (300 * t + (k + 1)))
    unfold f_X11_placeIn_6_b
    rw [q_gg (by omega) (by omega), nI_clamp (by omega), h1, pk_mul, nI_add, if_neg (nI_ge (by omega) (by omega)), q_gg (by omega) (by omega), nI_clamp (by omega), h2 k (by omega), if_neg (fun q => ixL_ne hk ((nI_eq hin hc).mp q)), nI_add]
    rfl
  · show f_X11_placeIn_6_b w (nI t) (nI c) (fun x2 => rec x2) (nI (300 * t + ixL c L)) = _
    unfold f_X11_placeIn_6_b
    rw [q_gg (by omega) (by omega), nI_clamp (by omega), h1, pk_mul, nI_add]
    by_cases e : ixL c L < L.length
    · rw [if_neg (nI_ge (by omega) (by omega)), q_gg (by omega) (by omega), nI_clamp (by omega), h2 _ e, ixL_in e, if_pos rfl, if_pos e]
    · rw [if_pos (nI_le (by omega) (by omega)), if_neg e]
theorem tray_L {k : Nat} {z w : gS} {d : Dat} {n : Nat} {by_ : Nat → Nat} {E : List Nat} (h : RelD k z w d n by_ E) (hk : k ≤ 512) {L : List Nat} (hn : L.Nodup) (he : ∀ c ∈ L, c ∈ E) : L.length ≤ 256 ∧ ∀ x ∈ L, x < 2 ^ 31 := by
  have hE := h.E3 hk
  have := List.Nodup.length_le_of_subset hn he
  obtain ⟨_, _, _, _, hW, _⟩ := h
  exact ⟨by omega, fun x hx => by have := (hW x (he x hx)).2; omega⟩
/-- one more of a kind -/
theorem lay1 {k : Nat} {z w : gS} {d : Dat} {n : Nat} {by_ : Nat → Nat} {E : List Nat} (h : RelD k z w d n by_ E) (hk : k ≤ 512) {t c : Nat} (ht : t < 4) (hc : c ∈ E) : ∃ z' w', f_X8_add (297 + 3 * t) (nI c) z = some z' ∧ f_X11_lays (nI t) (nI c) w = some w' ∧ RelD k z' w' d n by_ E := by
  obtain ⟨_, _, _, _, hW, _, a7, _⟩ := id h
  obtain ⟨t1, t2, L, l1, l2, l3, l4, l5⟩ := a7.2.1 t ht
  obtain ⟨hl, hL⟩ := tray_L h hk l1 l2
  have hc31 : c < 2 ^ 31 := by have := (hW c hc).2; omega
  have hle := ixL_le c L
  have f1 := x_find8 (p := 297 + 3 * t) (c := c) l3 (fun i hi => (l5 i hi).1) (by omega) hL hc31
  have f2 := m_find8 (c := c) ht l4 (fun i hi => (l5 i hi).2.1) (by omega) hL hc31
  unfold f_X8_add f_X11_lays
  rw [f1, f2, q_gb, q_gb]
  by_cases e : ixL c L < L.length
  · rw [if_pos e, if_pos e, q_iflt0 (by omega), if_neg (nI_ne_m1 (by omega)), q_gg (by omega) (by omega), q_gg (by omega) (by omega), q_gg (by omega) (by omega), q_gg (by omega) (by omega), nI_clamp (by omega), nI_clamp (by omega), q_gl, q_gl]
    refine ⟨_, _, rfl, rfl, h.t1 hk ht (fun p hp => by funext j; rw [gup_n (by omega)]) (fun p hp => by funext j; rw [gup_n (by omega)]) (fun i hi => ⟨by rw [gup_n (by omega)], by rw [gup_n (by omega)]⟩) (fun i hi => ⟨by rw [gup_n (by omega)], by rw [gup_n (by omega)]⟩) ⟨by rw [gup_n (by omega)]; exact t1, by rw [gup_n (by omega), gup_n (by omega)]; exact t2, L, l1, l2, by rw [gup_n (by omega)]; exact l3, by rw [gup_n (by omega)]; exact l4, fun i hi => ⟨by rw [gup_n (by omega)]; exact (l5 i hi).1, by rw [gup_n (by omega)]; exact (l5 i hi).2.1, ?_⟩⟩⟩
    by_cases ci : i = ixL c L
    · subst ci
      rw [gup_s, gup_s, (l5 _ hi).2.2]
    · rw [gup_n (Or.inr (by omega)), gup_n (Or.inr ci)]
      exact (l5 i hi).2.2
  · have eL : ixL c L = L.length := by omega
    have hlt : (L ++ [c]).length ≤ 256 := (tray_L h hk (L := L ++ [c]) (List.nodup_append.mpr ⟨l1, List.nodup_cons.mpr ⟨by simp, List.nodup_nil⟩, fun a ha b hb => by
      rcases List.mem_singleton.mp hb with rfl
      exact fun q => ixL_no eL (q ▸ ha)⟩) (fun x hx => by
      rcases List.mem_append.mp hx with q | q
      · exact l2 x q
      · rcases List.mem_singleton.mp q with rfl; exact hc)).1
    have hlen : (L ++ [c]).length = L.length + 1 := by rw [List.length_append]; rfl
    rw [if_neg e, if_neg e, q_ifm, if_pos rfl, l3, if_neg (nI_ge (show L.length < 512 by omega) (by omega)), q_gg (by omega) (by omega), nI_clamp (by omega), q_gl]
    have e1 : gup z (297 + 3 * t + 1) L.length (nI c) (297 + 3 * t) 1 = nI L.length := by rw [gup_n (by omega)]; exact l3
    have e2 : gup (gup z (297 + 3 * t + 1) L.length (nI c)) (297 + 3 * t + 2) L.length (nI 1) (297 + 3 * t) 1 = nI L.length := by rw [gup_n (by omega)]; exact e1
    rw [e1, q_gg (by omega) (by omega), nI_clamp (by omega), q_gl, e2, q_gl, nI_add, q_gg (by omega) (by omega), nI_clamp (by omega), l4, pk_mul, nI_add, q_gl, q_gg (by omega) (by omega), nI_clamp (by omega), q_gl, q_gg (by omega) (by omega), q_gl, q_gg (by omega) (by omega), q_gg (by omega) (by omega), q_gl, q_gg (by omega) (by omega), q_gg (by omega) (by omega), q_gl]
    have g1 : gup (gup w 15 (300 * t + L.length) (nI c)) 16 (300 * t + L.length) (nI 0) 14 t = nI L.length := by rw [gup_n (by omega), gup_n (by omega)]; exact l4
    rw [g1, nI_add]
    have g2 : gup (gup (gup w 15 (300 * t + L.length) (nI c)) 16 (300 * t + L.length) (nI 0)) 14 t (nI (L.length + 1)) 16 (300 * t + L.length) = nI 0 := by rw [gup_n (by omega), gup_s]
    rw [g2, nI_add]
    refine ⟨_, _, rfl, rfl, h.t1 hk ht (fun p hp => by funext j; rw [gup_n (by omega), gup_n (by omega), gup_n (by omega)]) (fun p hp => by funext j; rw [gup_n (by omega), gup_n (by omega), gup_n (by omega), gup_n (by omega)]) (fun i hi => ⟨by rw [gup_n (by omega), gup_n (by omega), gup_n (by omega), gup_n (by omega)], by rw [gup_n (by omega), gup_n (by omega), gup_n (by omega), gup_n (by omega)]⟩) (fun i hi => ⟨by rw [gup_n (by omega), gup_n (by omega), gup_n (by omega), gup_n (by omega)], by rw [gup_n (by omega), gup_n (by omega), gup_n (by omega), gup_n (by omega)]⟩) ⟨?_, ?_, L ++ [c], ?_, ?_, ?_, ?_, fun i hi => ?_⟩⟩
    · rw [gup_n (by omega), gup_n (by omega), gup_n (by omega)]; exact t1
    · rw [gup_n (by omega), gup_n (by omega), gup_n (by omega), gup_n (by omega), gup_n (by omega), gup_n (by omega), gup_n (by omega)]; exact t2
    · exact List.nodup_append.mpr ⟨l1, List.nodup_cons.mpr ⟨by simp, List.nodup_nil⟩, fun a ha b hb => by
        rcases List.mem_singleton.mp hb with rfl
        exact fun q => ixL_no eL (q ▸ ha)⟩
    · intro x hx
      rcases List.mem_append.mp hx with q | q
      · exact l2 x q
      · rcases List.mem_singleton.mp q with rfl; exact hc
    · rw [gup_s, hlen]
    · rw [gup_n (by omega), gup_s, hlen]
    · by_cases ci : i = L.length
      · subst ci
        have : (L ++ [c]).getD L.length 0 = c := by simp
        rw [this]
        refine ⟨?_, ?_, ?_⟩
        · rw [gup_n (by omega), gup_n (by omega), gup_s]
        · rw [gup_n (by omega), gup_n (by omega), gup_n (by omega), gup_s]
        · rw [gup_s, gup_n (by omega), gup_s]
      · have hi2 : i < L.length := by omega
        have : (L ++ [c]).getD i 0 = L.getD i 0 := by
          rw [List.getD_eq_getElem?_getD, List.getD_eq_getElem?_getD, List.getElem?_append_left hi2]
        rw [this]
        refine ⟨?_, ?_, ?_⟩
        · rw [gup_n (by omega), gup_n (by omega), gup_n (Or.inr ci)]; exact (l5 i hi2).1
        · rw [gup_n (by omega), gup_n (by omega), gup_n (by omega), gup_n (Or.inr (by omega))]; exact (l5 i hi2).2.1
        · rw [gup_n (Or.inr (by omega)), gup_n (by omega), gup_n (Or.inr (by omega)), gup_n (by omega), gup_n (by omega), gup_n (Or.inr ci), gup_n (by omega)]; exact (l5 i hi2).2.2
theorem lay_l {g t : Nat} (ht : t < 4) {d : Dat} {n : Nat} {by_ : Nat → Nat} {E : List Nat} {k : Nat} (hk : k ≤ 512) (hg : g < dg d) : ∀ f i m (z w : gS), i + f = dt d → f < m → RelD k z w d n by_ E → ∃ r z' w', f_X10_lay_42 (nI g) (297 + 3 * t) m (nI i) z = some (r, z') ∧ f_X11_lay_31 (nI t) (nI g) m (nI i) w = some (r, w') ∧ RelD k z' w' d n by_ E
  | f, i, 0, z, w, _, hm, _ => by omega
  | 0, i, m + 1, z, w, hi, _, h => by
    obtain ⟨v, hx, hm, hE, hW, _, a7, _⟩ := id h
    have v2 := v.1.2.1
    obtain ⟨t1, t2, L, l1, l2, l3, l4, l5⟩ := a7.2.1 t ht
    have : i = dt d := by omega
    subst this
    refine ⟨nI L.length, z, w, ?_, ?_, h⟩
    · show f_X10_lay_42_b (nI g) (297 + 3 * t) (fun x4 z => f_X10_lay_42 (nI g) (297 + 3 * t) m x4 z) (nI (dt d)) z = _
      unfold f_X10_lay_42_b
      rw [hx.2.1, if_pos (nI_le (Nat.le_refl _) (by omega)), l3]
    · show f_X11_lay_31_b (nI t) (nI g) (fun x4 z => f_X11_lay_31 (nI t) (nI g) m x4 z) (nI (dt d)) w = _
      unfold f_X11_lay_31_b
      rw [hm.2.1, if_pos (nI_le (Nat.le_refl _) (by omega)), q_gg (by omega) (by omega), nI_clamp (by omega), l4]
  | f + 1, i, m + 1, z, w, hi, hfm, h => by
    obtain ⟨v, hx, hm, hE, hW, _, a7, _⟩ := id h
    have v1 := v.1.1
    have v2 := v.1.2.1
    have hi8 : i < dt d := by omega
    have hds := v.1.2.2.2.1 g hg
    have hp8 : 2 ^ dt d ≤ 2 ^ 8 := Nat.pow_le_pow_right (by omega) v2
    show ∃ r z' w', f_X10_lay_42_b (nI g) (297 + 3 * t) (fun x4 z => f_X10_lay_42 (nI g) (297 + 3 * t) m x4 z) (nI i) z = some (r, z') ∧ f_X11_lay_31_b (nI t) (nI g) (fun x4 z => f_X11_lay_31 (nI t) (nI g) m x4 z) (nI i) w = some (r, w') ∧ RelD k z' w' d n by_ E
    unfold f_X10_lay_42_b f_X11_lay_31_b
    rw [hx.2.1, hm.2.1, if_neg (nI_ge hi8 (by omega)), if_neg (nI_ge hi8 (by omega)), x_owns hx v.1 hg (by omega), q_gb, q_gg (by omega) (by omega), nI_clamp (by omega), q_gg (by omega) (by omega), nI_clamp (by omega), hm.2.2.2.1 g hg, m_has (by omega) (by omega), q_gb, q_ifb, q_ifb, nI_add]
    by_cases c : (ds d g).testBit i = true
    · rw [if_pos c, if_pos c, q_gg (by omega) (by omega), hm.2.2.2.2 i hi8]
      have e4 : z (1 + 3) i = nI (dn d i) := hx.2.2.2.2 i hi8
      rw [e4]
      obtain ⟨z1, w1, e1, e2, h1⟩ := lay1 h hk ht (hE i hi8)
      rw [e1, e2, q_gb, q_gb]
      exact lay_l ht hk hg f (i + 1) m z1 w1 (by omega) (by omega) h1
    · rw [if_neg c, if_neg c]
      exact lay_l ht hk hg f (i + 1) m z w (by omega) (by omega) h
theorem c_lay {k : Nat} {z w : gS} (h : Rel k z w) (hk : k ≤ 512) (x y : Int32) : AL (k + 1) (f_X10_lay x y z) (f_X11_lay x y w) := by
  have h' := h
  obtain ⟨d, n, by_, E, hR⟩ := h'
  obtain ⟨v, hx, hm, hE, hW, _, a7, _⟩ := id hR
  have v1 := v.1.1
  have v2 := v.1.2.1
  rcases ixs x (n := 4) (by omega) with hb | ⟨t, ht, rfl⟩
  · refine AL.z h (r := gm1) ?_ ?_
    · unfold f_X10_lay
      rcases hb with q | q
      · rw [if_pos q]
      · rw [if_neg (ge_nn (by omega) q), if_pos q]
    · unfold f_X11_lay
      rw [m_tr_n hb, q_gb, q_if00]
  unfold f_X10_lay f_X11_lay
  rw [q_iflt0 (by omega), if_neg (nI_ge ht (by omega)), m_tr ht, q_gb, q_if1]
  rcases ixs y (n := dg d) (by omega) with hb | ⟨g, hg, rfl⟩
  · rw [x_holds_n hx hb, q_gb, q_if00, m_isGrave_n hm v.1 hb, q_gb, q_if00]
    exact AL.z h rfl rfl
  rw [x_holds hx v.1 hg, q_gb, q_if1, m_isGrave hm v.1 hg, q_gb, q_if1, q_gg (by omega) (by omega), q_gg (by omega) (by omega), nI_clamp (by omega), (a7.2.1 t ht).2.1]
  by_cases c : z (297 + 3 * t) 0 = 0
  · rw [if_pos c, if_pos c]
    exact AL.z h rfl rfl
  · rw [if_neg c, if_neg c]
    obtain ⟨r, z', w', e1, e2, h1⟩ := lay_l ht hk hg (dt d) 0 gF z w (by omega) (q_gF (by omega)) hR
    exact ⟨r, z', w', e1, e2, h1.s⟩
theorem c_laid {k : Nat} {z w : gS} (h : Rel k z w) (hk : k ≤ 512) (x y : Int32) : AE (f_X10_laid x y z) (f_X11_laid x y w) := by
  obtain ⟨d, n, by_, E, hR⟩ := h
  obtain ⟨v, hx, hm, hE, hW, _, a7, _⟩ := id hR
  have v1 := v.1.1
  have v2 := v.1.2.1
  rcases ixs x (n := 4) (by omega) with hb | ⟨t, ht, rfl⟩
  · refine ⟨gm1, ?_, ?_⟩
    · unfold f_X10_laid
      rcases hb with q | q
      · rw [if_pos q]
      · rw [if_neg (ge_nn (by omega) q), if_pos q]
    · unfold f_X11_laid
      rw [m_tr_n hb, q_gb, q_if00]
  unfold f_X10_laid f_X11_laid
  rw [q_iflt0 (by omega), if_neg (nI_ge ht (by omega)), m_tr ht, q_gb, q_if1]
  rcases ixs y (n := dt d) (by omega) with hb | ⟨i, hi, rfl⟩
  · rw [x_knows_n hx hb, q_gb, q_if00, m_isType_n hm v.1 hb, q_gb, q_if00]
    exact ⟨_, rfl, rfl⟩
  obtain ⟨t1, t2, L, l1, l2, l3, l4, l5⟩ := a7.2.1 t ht
  obtain ⟨hl, hL⟩ := tray_L hR hk l1 l2
  have hc31 : dn d i < 2 ^ 31 := by have := (hW _ (hE i hi)).2; omega
  have f1 := x_find8 (p := 297 + 3 * t) (c := dn d i) l3 (fun i hi => (l5 i hi).1) (by omega) hL hc31
  have f2 := m_find8 (c := dn d i) ht l4 (fun i hi => (l5 i hi).2.1) (by omega) hL hc31
  have e4 : z (1 + 3) i = nI (dn d i) := hx.2.2.2.2 i hi
  rw [x_knows hx v.1 hi, q_gb, q_if1, m_isType hm v.1 hi, q_gb, q_if1, q_gg (by omega) (by omega), q_gg (by omega) (by omega), nI_clamp (by omega), t2, q_gg (by omega) (by omega), q_gg (by omega) (by omega), nI_clamp (by omega), e4, hm.2.2.2.2 i hi, f1, f2, q_gb, q_gb]
  by_cases c : z (297 + 3 * t) 0 = 0
  · rw [if_pos c, if_pos c]
    exact ⟨_, rfl, rfl⟩
  · rw [if_neg c, if_neg c]
    by_cases e : ixL (dn d i) L < L.length
    · rw [if_pos e, if_pos e, q_if0le (by omega), if_neg (nI_ne_m1 (by omega)), q_gg (by omega) (by omega), q_gg (by omega) (by omega), nI_clamp (by omega), nI_clamp (by omega), (l5 _ e).2.2]
      exact ⟨_, rfl, rfl⟩
    · rw [if_neg e, if_neg e, if_neg (show ¬ 0 ≤ gm1 by decide), if_pos rfl]
      exact ⟨_, rfl, rfl⟩
