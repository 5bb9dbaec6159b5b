/-! image and undo: the calls alike -/
theorem c_image {k : Nat} {z w : gS} (h : Rel k z w) (hk : k ≤ 512) : AL (k + 1) (f_X10_image z) (f_X11_image w) := by
  obtain ⟨d, n, by_, E, hR⟩ := h
  have hE := hR.E3 hk
  obtain ⟨v, hx, hm, hNE, hW, hkk, ⟨_, a72, a73⟩, hT, hC, hCT, hCS⟩ := id hR
  have v1 := v.1.1
  have v2 := v.1.2.1
  obtain ⟨z1, e1, x1, x2⟩ := x_become (p := 5) (q := 1) (by omega) hx v.1
  unfold f_X10_image f_X11_image
  rw [e1, q_gb, q_gl, q_gl, q_gl, q_gl]
  obtain ⟨w1, f1, c1, c2⟩ := m_copies (w := gup (gup (gup w 0 33 (nI 1)) 0 34 (gup w 0 33 (nI 1) 0 1)) 0 35 (gup (gup w 0 33 (nI 1)) 0 34 (gup w 0 33 (nI 1) 0 1) 0 2)) (p0 := 1) (n0 := 7) (p1 := 19) (n1 := 7) (n := 7) (by omega) (by omega) (by omega) (by omega) (by omega) (by omega)
  obtain ⟨w2, f2, d1, d2⟩ := m_copies (w := w1) (p0 := 2) (n0 := 7) (p1 := 20) (n1 := 7) (n := 7) (by omega) (by omega) (by omega) (by omega) (by omega) (by omega)
  obtain ⟨w3, f3, b1, b2⟩ := m_copies (w := w2) (p0 := 3) (n0 := 8) (p1 := 21) (n1 := 8) (n := 8) (by omega) (by omega) (by omega) (by omega) (by omega) (by omega)
  rw [f1, q_gb, f2, q_gb, f3, q_gb]
  have wr : ∀ a b, ¬ (a = 19 ∨ a = 20 ∨ a = 21) → ¬ (a = 0 ∧ (b = 33 ∨ b = 34 ∨ b = 35)) → w3 a b = w a b := fun a b h1 h2 => by
    rw [b2 a b (by omega), d2 a b (by omega), c2 a b (by omega), gup_n (by omega), gup_n (by omega), gup_n (by omega)]
  have zr : ∀ a b, ¬ (5 ≤ a ∧ a ≤ 8) → ¬ (a = 0 ∧ b = 14) → gup z1 0 14 (nI 1) a b = z a b := fun a b h1 h2 => by
    rw [gup_n (by omega), x2 a (by omega)]
  have zrow : ∀ a, 1 ≤ a → ¬ (5 ≤ a ∧ a ≤ 8) → gup z1 0 14 (nI 1) a = z a := fun a h1 h2 => by funext b; exact zr a b h2 (by omega)
  have wrow : ∀ a, 1 ≤ a → a < 19 → w3 a = w a := fun a h1 h2 => by funext b; exact wr a b (by omega) (by omega)
  refine ⟨nI (dg d), gup z1 0 14 (nI 1), w3, ?_, ?_, d, n, by_, E, v, hx.fr (zrow _ (by omega) (by omega)) (zrow _ (by omega) (by omega)) (zrow _ (by omega) (by omega)) (zrow _ (by omega) (by omega)), ?_, hNE, hW, by omega, ⟨?_, fun t ht => (a72 t ht).f2 (by omega) (fun p h1 h2 => zrow p (by omega) (by omega)) (by rw [wrow 13 (by omega) (by omega)]) (by rw [wrow 14 (by omega) (by omega)]) (fun i hi => by rw [wrow 15 (by omega) (by omega)]) (fun i hi => by rw [wrow 16 (by omega) (by omega)]), fun l hl => (a73 l hl).f2 (fun p h1 h2 => zrow p (by omega) (by omega)) (by rw [wrow 17 (by omega) (by omega)]) (fun i hi => by rw [wrow 18 (by omega) (by omega)])⟩, ?_, hC.fr (zr 0 15 (by omega) (by omega)) (zr 20 0 (by omega) (by omega)) (fun p h1 h2 => zrow p (by omega) (by omega)), hCT.fr (zr 0 16 (by omega) (by omega)) (fun p h1 h2 => zrow p (by omega) (by omega)), hCS.fr (zr 0 17 (by omega) (by omega)) (zrow 292 (by omega) (by omega)) (zrow 293 (by omega) (by omega))⟩
  · rw [zr 1 0 (by omega) (by omega), hx.1]
  · rw [wr 0 1 (by omega) (by omega), hm.1]
  · obtain ⟨m1, m2, m3, m4, m5⟩ := hm
    exact ⟨by rw [wr 0 1 (by omega) (by omega)]; exact m1, by rw [wr 0 2 (by omega) (by omega)]; exact m2, by rw [wrow 1 (by omega) (by omega)]; exact m3, by rw [wrow 2 (by omega) (by omega)]; exact m4, by rw [wrow 3 (by omega) (by omega)]; exact m5⟩
  · obtain ⟨m1, m2, m3, m4, m5⟩ := hm
    refine Or.inr ⟨gup_s, ?_, d, v, x1.fr (by funext b; rw [gup_n (by omega)]) (by funext b; rw [gup_n (by omega)]) (by funext b; rw [gup_n (by omega)]) (by funext b; rw [gup_n (by omega)]), ⟨?_, ?_, fun i hi => ?_, fun i hi => ?_, fun i hi => ?_⟩, hNE⟩
    · rw [b2 0 33 (by omega), d2 0 33 (by omega), c2 0 33 (by omega), gup_n (by omega), gup_n (by omega), gup_s]
    · rw [b2 0 34 (by omega), d2 0 34 (by omega), c2 0 34 (by omega), gup_n (by omega), gup_s, gup_n (by omega)]; exact m1
    · rw [b2 0 35 (by omega), d2 0 35 (by omega), c2 0 35 (by omega), gup_s, gup_n (by omega), gup_n (by omega)]; exact m2
    · rw [b2 19 i (by omega), d2 19 i (by omega), c1 i (by omega), gup_n (by omega), gup_n (by omega), gup_n (by omega)]; exact m3 i hi
    · rw [b2 20 i (by omega), d1 i (by omega), c2 2 i (by omega), gup_n (by omega), gup_n (by omega), gup_n (by omega)]; exact m4 i hi
    · rw [b1 i (by omega), d2 3 i (by omega), c2 3 i (by omega), gup_n (by omega), gup_n (by omega), gup_n (by omega)]; exact m5 i hi
  · obtain ⟨t0, t1, t2, t3, t4, t5⟩ := hT
    exact ⟨t0, by rw [zr 290 1 (by omega) (by omega)]; exact t1, by rw [zrow 291 (by omega) (by omega)]; exact t2, by rw [wr 0 15 (by omega) (by omega)]; exact t3, by rw [wrow 8 (by omega) (by omega)]; exact t4, by rw [zr 0 13 (by omega) (by omega), wr 0 16 (by omega) (by omega)]; exact t5⟩
theorem c_undo {k : Nat} {z w : gS} (h : Rel k z w) : AL (k + 1) (f_X10_undo z) (f_X11_undo w) := by
  have h' := h
  obtain ⟨d, n, by_, E, hR⟩ := h'
  obtain ⟨v, hx, hm, hNE, hW, hkk, ⟨hI, a72, a73⟩, hT, hC, hCT, hCS⟩ := id hR
  unfold f_X10_undo f_X11_undo
  rcases hI with ⟨i1, i2⟩ | ⟨i1, i2, d', v', hx', hI', hNE'⟩
  · rw [i1, i2, q_if00, q_if00]
    exact AL.z h rfl rfl
  · have v1 := v'.1.1
    have v2 := v'.1.2.1
    rw [i1, i2, q_if1, q_if1]
    obtain ⟨z1, e1, x1, x2⟩ := x_become (p := 1) (q := 5) (by omega) hx' v'.1
    obtain ⟨s1, s2, s3⟩ := siteCh (z := z) x2 x1
    obtain ⟨w1, f1, c1, c2⟩ := m_copies (w := gup (gup w 0 1 (w 0 34)) 0 2 (gup w 0 1 (w 0 34) 0 35)) (p0 := 19) (n0 := 7) (p1 := 1) (n1 := 7) (n := 7) (by omega) (by omega) (by omega) (by omega) (by omega) (by omega)
    obtain ⟨w2, f2, d1, d2⟩ := m_copies (w := w1) (p0 := 20) (n0 := 7) (p1 := 2) (n1 := 7) (n := 7) (by omega) (by omega) (by omega) (by omega) (by omega) (by omega)
    obtain ⟨w3, f3, b1, b2⟩ := m_copies (w := w2) (p0 := 21) (n0 := 8) (p1 := 3) (n1 := 8) (n := 8) (by omega) (by omega) (by omega) (by omega) (by omega) (by omega)
    rw [e1, q_gb, x_siteChanged, q_gb, q_gl, q_gl, f1, q_gb, f2, q_gb, f3, q_gb]
    obtain ⟨m1, m2, m3, m4, m5⟩ := hI'
    have hSM : SM w3 d' := by
      refine ⟨?_, ?_, fun i hi => ?_, fun i hi => ?_, fun i hi => ?_⟩
      · rw [b2 0 1 (by omega), d2 0 1 (by omega), c2 0 1 (by omega), gup_n (by omega), gup_s]; exact m1
      · rw [b2 0 2 (by omega), d2 0 2 (by omega), c2 0 2 (by omega), gup_s, gup_n (by omega)]; exact m2
      · rw [b2 1 i (by omega), d2 1 i (by omega), c1 i (by omega), gup_n (by omega), gup_n (by omega)]; exact m3 i hi
      · rw [b2 2 i (by omega), d1 i (by omega), c2 20 i (by omega), gup_n (by omega), gup_n (by omega)]; exact m4 i hi
      · rw [b1 i (by omega), d2 21 i (by omega), c2 21 i (by omega), gup_n (by omega), gup_n (by omega)]; exact m5 i hi
    have hF : FrM w w3 := fun p j h1 h2 => by
      rw [b2 p j (by omega), d2 p j (by omega), c2 p j (by omega), gup_n (by omega), gup_n (by omega)]
    refine ⟨nI (dg d'), _, w3, ?_, ?_, d', n, by_, E, hR.site v' s1 hSM hNE' s2 s3 hF⟩
    · rw [s1.1]
    · rw [hSM.1]
