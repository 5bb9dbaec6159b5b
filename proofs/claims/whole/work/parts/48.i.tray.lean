/-! trays: the calls alike -/
theorem RelD.rs {k : Nat} {z w z' w' : gS} {d : Dat} {n : Nat} {by_ : Nat → Nat} {E : List Nat} (h : RelD k z w d n by_ E) (hz : ∀ p, p < 297 → z' p = z p) (hw : ∀ p, p < 13 ∨ 19 ≤ p → w' p = w p) (hT : ∀ t, t < 4 → TRR z' w' E t) (hL : ∀ l, l < 3 → LSR z' w' l) : RelD k z' w' d n by_ E := by
  obtain ⟨a1, a2, a3, a4, a5, a6, a7, a8, a9, a10, a11⟩ := h
  have r0 := hz 0 (by omega)
  have s0 := hw 0 (by omega)
  refine ⟨a1, a2.fr (hz _ (by omega)) (hz _ (by omega)) (hz _ (by omega)) (hz _ (by omega)), ?_, a4, a5, a6, ⟨?_, hT, hL⟩, ?_, a9.fr (by rw [r0]) (by rw [hz 20 (by omega)]) (fun p h1 h2 => hz p (by omega)), a10.fr (by rw [r0]) (fun p h1 h2 => hz p (by omega)), a11.fr (by rw [r0]) (hz 292 (by omega)) (hz 293 (by omega))⟩
  · obtain ⟨m1, m2, m3, m4, m5⟩ := a3
    exact ⟨by rw [s0]; exact m1, by rw [s0]; exact m2, by rw [hw 1 (by omega)]; exact m3, by rw [hw 2 (by omega)]; exact m4, by rw [hw 3 (by omega)]; exact m5⟩
  · have := a7.1
    unfold IMG IW at *
    rw [r0, s0, hw 19 (by omega), hw 20 (by omega), hw 21 (by omega)]
    rcases this with h | ⟨h5, h6, d, h7, h8, h9, h10⟩
    · exact Or.inl h
    · exact Or.inr ⟨h5, h6, d, h7, h8.fr (hz _ (by omega)) (hz _ (by omega)) (hz _ (by omega)) (hz _ (by omega)), h9, h10⟩
  · obtain ⟨b1, b2, b3, b4, b5, b6⟩ := a8
    exact ⟨b1, by rw [hz 290 (by omega)]; exact b2, by rw [hz 291 (by omega)]; exact b3, by rw [s0]; exact b4, by rw [hw 8 (by omega)]; exact b5, by rw [r0, s0]; exact b6⟩
theorem TRR.f2 {z w z' w' : gS} {E : List Nat} {t : Nat} (h : TRR z w E t) (hE : E.length ≤ 300) (hz : ∀ p, 297 + 3 * t ≤ p → p ≤ 297 + 3 * t + 2 → z' p = z p) (h13 : w' 13 t = w 13 t) (h14 : w' 14 t = w 14 t) (h15 : ∀ i, i < 300 → w' 15 (300 * t + i) = w 15 (300 * t + i)) (h16 : ∀ i, i < 300 → w' 16 (300 * t + i) = w 16 (300 * t + i)) : TRR z' w' E t := by
  unfold TRR at *
  rw [hz (297 + 3 * t) (by omega) (by omega), hz (297 + 3 * t + 1) (by omega) (by omega), hz (297 + 3 * t + 2) (by omega) (by omega), h13, h14]
  obtain ⟨a, b, L, c, e, f1, f2, f3⟩ := h
  have hl := List.Nodup.length_le_of_subset c e
  exact ⟨a, b, L, c, e, f1, f2, fun i hi => by rw [h15 i (by omega), h16 i (by omega)]; exact f3 i hi⟩
theorem LSR.f2 {z w z' w' : gS} {l : Nat} (h : LSR z w l) (hz : ∀ p, 309 + 2 * l ≤ p → p ≤ 309 + 2 * l + 1 → z' p = z p) (h17 : w' 17 l = w 17 l) (h18 : ∀ i, i < 30 → w' 18 (30 * l + i) = w 18 (30 * l + i)) : LSR z' w' l := by
  unfold LSR at *
  rw [hz (309 + 2 * l) (by omega) (by omega), hz (309 + 2 * l + 1) (by omega) (by omega), h17]
  exact ⟨h.1, h.2.1, fun i hi => by rw [h18 i hi]; exact h.2.2 i hi⟩
theorem RelD.E3 {k : Nat} {z w : gS} {d : Dat} {n : Nat} {by_ : Nat → Nat} {E : List Nat} (h : RelD k z w d n by_ E) (hk : k ≤ 512) : E.length ≤ 256 := by
  obtain ⟨_, _, _, _, _, a6, _⟩ := h
  omega
theorem m_tr {t : Nat} {w : gS} (h : t < 4) : f_X11_isTray (nI t) w = some (nI 1) := by
  unfold f_X11_isTray
  rw [m_in_nat (show t ≤ 3 by omega) (by omega), q_gb]
  rfl
theorem m_tr_n {x : Int32} {w : gS} (h : x < 0 ∨ nI 4 ≤ x) : f_X11_isTray x w = some (nI 0) := by
  unfold f_X11_isTray
  rw [in_n (by omega) h, q_gb]
  rfl
/-- one tray's cells change -/
theorem RelD.t1 {k : Nat} {z w z' w' : gS} {d : Dat} {n : Nat} {by_ : Nat → Nat} {E : List Nat} {t : Nat} (h : RelD k z w d n by_ E) (hk : k ≤ 512) (ht : t < 4) (hz : ∀ p, p < 297 + 3 * t ∨ 297 + 3 * t + 3 ≤ p → z' p = z p) (hw : ∀ p, p < 13 ∨ 17 ≤ p → w' p = w p) (h13 : ∀ i, i ≠ t → w' 13 i = w 13 i ∧ w' 14 i = w 14 i) (h15 : ∀ i, i < 300 * t ∨ 300 * t + 300 ≤ i → w' 15 i = w 15 i ∧ w' 16 i = w 16 i) (hT : TRR z' w' E t) : RelD k z' w' d n by_ E := by
  have hE := h.E3 hk
  obtain ⟨_, _, _, _, _, _, a7, _⟩ := id h
  refine h.rs (fun p hp => hz p (by omega)) (fun p hp => hw p (by omega)) (fun s hs => ?_) (fun l hl => (a7.2.2 l hl).f2 (fun p h1 h2 => hz p (by omega)) (by rw [hw 17 (by omega)]) (fun i hi => by rw [hw 18 (by omega)]))
  by_cases c : s = t
  · subst c; exact hT
  · exact (a7.2.1 s hs).f2 (by omega) (fun p h1 h2 => hz p (by omega)) (h13 s c).1 (h13 s c).2 (fun i hi => (h15 _ (by omega)).1) (fun i hi => (h15 _ (by omega)).2)
theorem c_tray {k : Nat} {z w : gS} (h : Rel k z w) (hk : k ≤ 512) (x y : Int32) : AL (k + 1) (f_X10_tray x y z) (f_X11_tray x y w) := by
  have h' := h
  obtain ⟨d, n, by_, E, hR⟩ := h'
  rcases ixs x (n := 4) (by omega) with hb | ⟨t, ht, rfl⟩
  · refine AL.z h (r := gm1) ?_ ?_
    · unfold f_X10_tray
      rcases hb with q | q
      · rw [if_pos q]
      · rw [if_neg (ge_nn (by omega) q), if_neg (lt_n (by omega) q)]
    · unfold f_X11_tray
      rw [m_tr_n hb, q_gb, q_if00]
  unfold f_X10_tray f_X11_tray
  rw [q_iflt0 (by omega), if_pos (nI_lt ht (by omega)), m_tr ht, q_gb, q_if1]
  rcases ixs y (n := 2) (by omega) with hb | ⟨s, hs, rfl⟩
  · have n0 : ¬ y = 0 := by rcases hb with q | q; exact lt0_ne (m := 0) (by omega) q; exact ge_ne (m := 0) (by omega) (by omega) q
    have n1 : ¬ y = nI 1 := by rcases hb with q | q; exact lt0_ne (by omega) q; exact ge_ne (by omega) (by omega) q
    rw [if_neg n0, if_neg n1, in_n (by omega) hb, q_gb, q_if00]
    exact AL.z h rfl rfl
  rw [m_in_nat (show s ≤ 1 by omega) (by omega), q_gb, q_if1]
  have key : AL (k + 1) (some (nI 1, gup (gup z (297 + 3 * t) 0 (nI s)) (297 + 3 * t) 1 (nI 0))) (some (nI 1, gup (gup w 13 t (nI s)) 14 t (nI 0))) := by
    refine ⟨_, _, _, rfl, rfl, RelD.s (hR.t1 hk ht (fun p hp => by funext j; rw [gup_n (by omega), gup_n (by omega)]) (fun p hp => by funext j; rw [gup_n (by omega), gup_n (by omega)]) (fun i hi => ⟨by rw [gup_n (by omega), gup_n (by omega)], by rw [gup_n (by omega), gup_n (by omega)]⟩) (fun i hi => ⟨by rw [gup_n (by omega), gup_n (by omega)], by rw [gup_n (by omega), gup_n (by omega)]⟩) ⟨?_, ?_, [], List.nodup_nil, (fun c hc => (by cases hc)), gup_s, gup_s, (fun i hi => (by cases hi))⟩)⟩
    · rw [gup_n (by omega), gup_s]
      by_cases c : s = 0
      · rw [c]; exact Or.inl rfl
      · rw [show s = 1 by omega]; exact Or.inr rfl
    · rw [gup_n (by omega), gup_s, gup_n (by omega), gup_s]
  unfold f_X10_tray_23
  rw [q_gg (by omega) (by omega), q_gg (by omega) (by omega), nI_clamp (by omega), q_gg (by omega) (by omega), q_if0 (by omega)]
  by_cases c : s = 1
  · subst c
    rw [if_neg (by omega), if_pos rfl, if_pos rfl, if_pos rfl, q_gl, q_gg (by omega) (by omega), q_gl, q_gl, q_gg (by omega) (by omega), q_gl]
    exact key
  · have : s = 0 := by omega
    subst this
    rw [if_pos rfl, if_neg (show ¬ nI 0 = nI 1 by decide), if_neg (show ¬ nI 0 = nI 1 by decide), q_gl, q_gg (by omega) (by omega), q_gl, q_gl, q_gg (by omega) (by omega), q_gl]
    exact key
