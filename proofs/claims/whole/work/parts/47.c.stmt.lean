/-! a whole statement, by the reference -/
theorem AT_t {n a c : Nat} {by_ : Nat → Nat} (h : AT n by_ a c = true) : a < n ∧ by_ a = c := by
  unfold AT at h
  simpa using h
theorem nmOk_t {n a : Nat} {by_ : Nat → Nat} (h : nmOk n by_ a = true) : 0 < nlW n by_ a ∧ LTb n by_ (a + nlW n by_ a) = false := by
  unfold nmOk at h
  simp at h
  exact ⟨by omega, h.2⟩
theorem nlW_n {n a : Nat} {by_ : Nat → Nat} (ha : a ≤ n) : a + nlW n by_ a ≤ n := run_n (n := n) (P := LTb n by_) (fun a q => (LT_t q).1) ha
/-- words that stand on the tape are names -/
def WO (L : List Nat) : Prop := ∀ c ∈ L, 0 < c ∧ c < 387420489
theorem nms_ok {n : Nat} {by_ : Nat → Nat} : ∀ f a, a ≤ n → n < a + f → (nms n by_ a f).2.1 ≤ n ∧ a ≤ (nms n by_ a f).2.1 ∧ WO (nms n by_ a f).1 ∧ ((nms n by_ a f).2.2 = true → 2 * (nms n by_ a f).1.length ≤ (nms n by_ a f).2.1 - a + 1 ∧ LTb n by_ (nms n by_ a f).2.1 = false) ∧ 2 * (nms n by_ a f).1.length ≤ n + 1 - a
  | 0, a, ha, hf => by omega
  | f + 1, a, ha, hf => by
    have hn := nlW_n (by_ := by_) ha
    rw [nms_s]
    by_cases c : nmOk n by_ a = true
    · obtain ⟨c1, c2⟩ := nmOk_t c
      have hw : 0 < word n by_ a ∧ word n by_ a < 387420489 := ⟨word_pos (by omega), word_lt⟩
      rw [if_pos c]
      by_cases e : AT n by_ (a + nlW n by_ a) 44 = true
      · have he := (AT_t e).1
        obtain ⟨i1, i2, i3, i4, i5⟩ := nms_ok (n := n) (by_ := by_) f (a + nlW n by_ a + 1) (by omega) (by omega)
        rw [if_pos e]
        refine ⟨i1, by dsimp only; omega, fun x hx => ?_, fun q => ⟨?_, (i4 q).2⟩, ?_⟩
        · rcases List.mem_cons.mp hx with rfl | hx
          · exact hw
          · exact i3 x hx
        · have := (i4 q).1
          show 2 * ((nms n by_ (a + nlW n by_ a + 1) f).1.length + 1) ≤ (nms n by_ (a + nlW n by_ a + 1) f).2.1 - a + 1
          omega
        · show 2 * ((nms n by_ (a + nlW n by_ a + 1) f).1.length + 1) ≤ n + 1 - a
          omega
      · rw [if_neg e]
        refine ⟨hn, by dsimp only; omega, fun x hx => ?_, fun _ => ⟨?_, c2⟩, ?_⟩
        · simp at hx; subst hx; exact hw
        · show 2 * 1 ≤ a + nlW n by_ a - a + 1
          omega
        · show 2 * 1 ≤ n + 1 - a
          omega
    · rw [if_neg c]
      refine ⟨hn, by dsimp only; omega, fun x hx => (by cases hx), fun q => (by cases q), Nat.zero_le _⟩
theorem m_gt_50 {n : Nat} {by_ : Nat → Nat} (hb : BT n by_) {w0 : gS} : ∀ f a (T : List Nat) m (w : gS), a ≤ n → n < a + f → f + 1 < m → MT w n by_ a → KK w 0 22 9 T → 2 * T.length ≤ a → w 0 18 = nI 0 → (∀ p j, ¬ (p = 0 ∧ (j = 17 ∨ j = 18 ∨ j = 22)) → ¬ p = 9 → w p j = w0 p j) → Ok (f_X11_graveTold_50 m (nI 1) w) (fun w' => MT w' n by_ (nms n by_ a f).2.1 ∧ w' 0 18 = nI (!(nms n by_ a f).2.2).toNat ∧ ((nms n by_ a f).2.2 = true → KK w' 0 22 9 (T ++ (nms n by_ a f).1)) ∧ ∀ p j, ¬ (p = 0 ∧ (j = 17 ∨ j = 18 ∨ j = 22)) → ¬ p = 9 → w' p j = w0 p j)
  | f, a, T, 0, w, _, _, hm, _, _, _, _, _ => by omega
  | 0, a, T, m + 1, w, ha, hf, hm, _, _, _, _, _ => by omega
  | f + 1, a, T, m + 1, w, ha, hf, hm, hw, hT, hl, h18, hfr => by
    have hn := hb.1
    have hnl := nlW_n (by_ := by_) ha
    have fin : ∀ u : gS, Ok (f_X11_graveTold_50 m (nI 0) u) (fun w' => w' = u) := fun u => by
      obtain ⟨q, rfl⟩ : ∃ q, m = q + 1 := ⟨m - 1, by omega⟩
      show Ok (f_X11_graveTold_50_b (fun x1 z => f_X11_graveTold_50 q x1 z) (nI 0) u) _
      unfold f_X11_graveTold_50_b
      rw [q_if00]
      exact Ok.i rfl
    show Ok (f_X11_graveTold_50_b (fun x1 z => f_X11_graveTold_50 m x1 z) (nI 1) w) _
    unfold f_X11_graveTold_50_b
    rw [q_if1, h18, q_if00]
    refine (m_name hw hb ha hT (by omega) h18).b (fun u hu => ?_)
    obtain ⟨u1, u2, u3, u4⟩ := hu
    have ufr : ∀ p j, ¬ (p = 0 ∧ (j = 17 ∨ j = 18 ∨ j = 22)) → ¬ p = 9 → u p j = w0 p j := fun p j h1 h2 => by rw [u4 p j h1 h2, hfr p j h1 h2]
    rw [nms_s]
    cases c : nmOk n by_ a
    · rw [u3 c, q_if1, if_neg (show ¬ false = true by decide), q_if00, u1.2.1, nI_add, q_gl]
      refine (fin _).m (fun w' h' => ?_)
      subst h'
      refine ⟨u1.at, ?_, fun q => (by cases q), fun p j h1 h2 => ?_⟩
      · rw [gup_n (by omega), u3 c]; rfl
      · rw [gup_n (by omega)]; exact ufr p j h1 h2
    · obtain ⟨k1, k2⟩ := u2 c
      obtain ⟨c1, c2⟩ := nmOk_t c
      rw [k1, q_if00, if_pos rfl, m_here u1 hb (by omega), q_gb, hI_eq hb (by omega), u1.2.1, nI_add, nI_add]
      by_cases e : AT n by_ (a + nlW n by_ a) 44 = true
      · have he := (AT_t e).1
        rw [if_pos e, if_pos e, q_if1, q_gl]
        refine (m_gt_50 hb (w0 := w0) f (a + nlW n by_ a + 1) (T ++ [word n by_ a]) m _ (by omega) (by omega) (by omega) u1.at ?_ (by rw [List.length_append]; show 2 * (T.length + 1) ≤ _; omega) ?_ (fun p j h1 h2 => ?_)).m (fun w' h' => ⟨h'.1, h'.2.1, fun q => ?_, h'.2.2.2⟩)
        · exact ⟨by rw [gup_n (by omega)]; exact k2.1, fun i hi => by rw [gup_n (by omega)]; exact k2.2 i hi⟩
        · rw [gup_n (by omega)]; exact k1
        · rw [gup_n (by omega)]; exact ufr p j h1 h2
        · have := h'.2.2.1 q
          rw [List.append_assoc] at this
          exact this
      · rw [if_neg e, if_neg e, q_if00, q_gl]
        refine (fin _).m (fun w' h' => ?_)
        subst h'
        refine ⟨u1.at, ?_, fun _ => ?_, fun p j h1 h2 => ?_⟩
        · rw [gup_n (by omega), k1]; rfl
        · exact ⟨by rw [gup_n (by omega)]; exact k2.1, fun i hi => by rw [gup_n (by omega)]; exact k2.2 i hi⟩
        · rw [gup_n (by omega)]; exact ufr p j h1 h2
def vI (v : Nat) : Int32 := if v = 0 then nI 0 else if v = 1 then nI 1 else gm1
/-- what stands when a statement has been read -/
def SO (w : gS) (n : Nat) (by_ : Nat → Nat) (r : Bool × Nat × Nat × Nat × List Nat) : Prop := MT w n by_ r.2.1 ∧ w 0 18 = nI (!r.1).toNat ∧ (r.1 = true → w 0 19 = vI r.2.2.1 ∧ w 0 20 = nI r.2.2.2.1 ∧ KK w 0 22 9 r.2.2.2.2)
theorem KK.f9 {w w' : gS} {T : List Nat} (h : KK w 0 22 9 T) (h0 : w' 0 22 = w 0 22) (h9 : ∀ i, w' 9 i = w 9 i) : KK w' 0 22 9 T := ⟨by rw [h0]; exact h.1, fun i hi => by rw [h9]; exact h.2 i hi⟩
/-- only what reading a statement writes to changes -/
def SF (w w' : gS) : Prop := ∀ p j, ¬ (p = 0 ∧ (j = 17 ∨ j = 18 ∨ j = 19 ∨ j = 20 ∨ j = 22)) → p ≠ 9 → w' p j = w p j
theorem SF.rf {w : gS} : SF w w := fun _ _ _ _ => rfl
theorem SF.tr {w w1 w2 : gS} (h1 : SF w w1) (h2 : SF w1 w2) : SF w w2 := fun p j a b => (h2 p j a b).trans (h1 p j a b)
theorem SF.up {w : gS} {k j : Nat} {v : Int32} (h : (k = 0 ∧ (j = 17 ∨ j = 18 ∨ j = 19 ∨ j = 20 ∨ j = 22)) ∨ k = 9) : SF w (gup w k j v) := fun a b h1 h2 => gup_n (by omega)
theorem SF.se {w w' : gS} (h : SF w w') : SE w w' := fun p j q => h p j (by unfold Kp at q; omega) (by unfold Kp at q; omega)
theorem m_graveTold {w : gS} {n a : Nat} {by_ : Nat → Nat} (h : MT w n by_ a) (hb : BT n by_) (ha : a ≤ n) (hT : KK w 0 22 9 []) (hns : (AT n by_ a 43 || AT n by_ a 45) = false) : Ok (f_X11_graveTold w) (fun w' => SO w' n by_ (stm n by_ a) ∧ SF w w') := by
  have hn := hb.1
  have hrn := run_n (n := n) (P := DGb n by_) (fun a q => (DG_t q).1) (f := 3) ha
  have hle := runL_le (DGb n by_) 3 a
  unfold f_X11_graveTold stm
  rw [q_gl, hns, if_neg (show ¬ false = true by decide)]
  have hM1 : MT (gup w 0 19 (nI 0)) n by_ a := h.up (by omega)
  have hT1 : KK (gup w 0 19 (nI 0)) 0 22 9 [] := hT.f9 (gup_n (by omega)) (fun i => gup_n (by omega))
  refine (m_digits_ hM1 hb ha (by omega)).b (fun u hu => ?_)
  obtain ⟨u1, u2, u3, u4⟩ := hu
  have uT : KK u 0 22 9 [] := hT1.f9 (u4 0 22 (by omega)) (fun i => u4 9 i (by omega))
  have u19 : u 0 19 = nI 0 := by rw [u4 0 19 (by omega), gup_s]
  have uSF : SF w u := fun p j q q2 => by rw [u4 p j (by omega), gup_n (by omega)]
  by_cases c0 : runL (DGb n by_) a 3 = 0
  · rw [u3, decide_eq_true c0, if_pos c0, show nI true.toNat = nI 1 from rfl, q_if1, q_gl]
    refine Ok.i ⟨⟨?_, gup_s, fun q => (by cases q)⟩, uSF.tr (SF.up (by omega))⟩
    rw [c0] at u1
    exact u1.up (by omega)
  · rw [u3, decide_eq_false c0, if_neg c0, show nI false.toNat = nI 0 from rfl, q_if00, m_here u1 hb (by omega), q_gb, hI_eq hb (by omega)]
    by_cases c1 : AT n by_ (a + runL (DGb n by_) a 3) 58 = true
    · have hlt := (AT_t c1).1
      rw [if_pos c1, if_pos c1, u1.2.1, nI_add, q_gl]
      have hM2 : MT (gup u 0 17 (nI (a + runL (DGb n by_) a 3 + 1))) n by_ (a + runL (DGb n by_) a 3 + 1) := u1.at
      rw [m_here hM2 hb (by omega), q_gb, m_isLetter hb, q_gb]
      have e18 : gup u 0 17 (nI (a + runL (DGb n by_) a 3 + 1)) 0 18 = nI 0 := by rw [gup_n (by omega), u3, decide_eq_false c0]; rfl
      have e19 : gup u 0 17 (nI (a + runL (DGb n by_) a 3 + 1)) 0 19 = nI 0 := by rw [gup_n (by omega)]; exact u19
      have e20 : gup u 0 17 (nI (a + runL (DGb n by_) a 3 + 1)) 0 20 = nI (NVw by_ a (runL (DGb n by_) a 3)) := by rw [gup_n (by omega)]; exact u2
      have eT : KK (gup u 0 17 (nI (a + runL (DGb n by_) a 3 + 1))) 0 22 9 [] := uT.f9 (gup_n (by omega)) (fun i => gup_n (by omega))
      have eS : SF w (gup u 0 17 (nI (a + runL (DGb n by_) a 3 + 1))) := uSF.tr (SF.up (by omega))
      generalize gup u 0 17 (nI (a + runL (DGb n by_) a 3 + 1)) = y at *
      cases c2 : LTb n by_ (a + runL (DGb n by_) a 3 + 1)
      · obtain ⟨m0, hm0⟩ := gF_n
        rw [hm0, if_neg (show ¬ false = true by decide)]
        show Ok (f_X11_graveTold_50_b (fun x1 z => f_X11_graveTold_50 m0 x1 z) (nI 0) y) _
        unfold f_X11_graveTold_50_b
        rw [q_if00]
        exact Ok.i ⟨⟨hM2, e18, fun _ => ⟨e19, e20, eT⟩⟩, eS⟩
      · rw [if_pos rfl]
        refine (m_gt_50 hb (w0 := y) 101 (a + runL (DGb n by_) a 3 + 1) [] gF y (by omega) (by omega) (q_gF (by omega)) hM2 eT (Nat.zero_le _) e18 (fun _ _ _ _ => rfl)).m (fun w' h' => ⟨⟨h'.1, h'.2.1, fun q => ⟨?_, ?_, h'.2.2.1 q⟩⟩, eS.tr (fun p j q q2 => ?_)⟩)
        · rw [h'.2.2.2 0 19 (by omega) (by omega)]; exact e19
        · rw [h'.2.2.2 0 20 (by omega) (by omega)]; exact e20
        · exact h'.2.2.2 p j (by omega) q2
    · rw [if_neg c1, if_neg c1, q_gl]
      exact Ok.i ⟨⟨u1.up (by omega), gup_s, fun q => (by cases q)⟩, uSF.tr (SF.up (by omega))⟩
theorem m_statement {w : gS} {n a : Nat} {by_ : Nat → Nat} (h : MT w n by_ a) (hb : BT n by_) (ha : a ≤ n) (h18 : w 0 18 = nI 0) : Ok (f_X11_statement w) (fun w' => SO w' n by_ (stm n by_ a) ∧ SF w w') := by
  have hn := hb.1
  unfold f_X11_statement
  rw [q_gl]
  have hM : MT (gup w 0 22 (nI 0)) n by_ a := h.up (by omega)
  have hT : KK (gup w 0 22 (nI 0)) 0 22 9 [] := ⟨gup_s, fun i hi => by cases hi⟩
  have hS : SF w (gup w 0 22 (nI 0)) := SF.up (by omega)
  have h18' : gup w 0 22 (nI 0) 0 18 = nI 0 := by rw [gup_n (by omega)]; exact h18
  generalize gup w 0 22 (nI 0) = y at *
  rw [m_here hM hb (by omega), q_gb, hI_eq hb (by omega), q_gb, hI_eq hb (by omega)]
  have h28 : (AT n by_ a 43 || AT n by_ a 45) = true → Ok (f_X11_statement_28 y) (fun w' => SO w' n by_ (stm n by_ a) ∧ SF w w') := fun hc => by
    have hat : a < n := by
      rw [Bool.or_eq_true] at hc
      rcases hc with q | q
      · exact (AT_t q).1
      · exact (AT_t q).1
    have hrn := run_n (n := n) (P := DGb n by_) (fun a q => (DG_t q).1) (f := 1) (a := a + 1) (by omega)
    have hle := runL_le (DGb n by_) 1 (a + 1)
    have key : ∀ (vv : Int32), vv = (if AT n by_ a 43 then nI 1 else gm1) → Ok (gb (f_X11_digits_ (nI 1) (gup (gup y 0 19 vv) 0 17 (nI (a + 1)))) fun q16 => if (q16 0 18) = 0 then (gb (f_X11_name q16) fun q18 => some q18) else some q16) (fun w' => SO w' n by_ (stm n by_ a) ∧ SF w w') := fun vv hv => by
      have hM1 : MT (gup (gup y 0 19 vv) 0 17 (nI (a + 1))) n by_ (a + 1) := (hM.up (by omega)).at
      have hT1 : KK (gup (gup y 0 19 vv) 0 17 (nI (a + 1))) 0 22 9 [] := hT.f9 (by rw [gup_n (by omega), gup_n (by omega)]) (fun i => by rw [gup_n (by omega), gup_n (by omega)])
      have hS1 : SF w (gup (gup y 0 19 vv) 0 17 (nI (a + 1))) := (hS.tr (SF.up (by omega))).tr (SF.up (by omega))
      have e19 : gup (gup y 0 19 vv) 0 17 (nI (a + 1)) 0 19 = vv := by rw [gup_n (by omega), gup_s]
      generalize gup (gup y 0 19 vv) 0 17 (nI (a + 1)) = t at *
      refine (m_digits_ hM1 hb (by omega) (by omega)).b (fun u hu => ?_)
      obtain ⟨u1, u2, u3, u4⟩ := hu
      have uT : KK u 0 22 9 [] := hT1.f9 (u4 0 22 (by omega)) (fun i => u4 9 i (by omega))
      have u19 : u 0 19 = vv := by rw [u4 0 19 (by omega), e19]
      have uSF : SF w u := hS1.tr (fun p j q q2 => by rw [u4 p j (by omega)])
      unfold stm
      rw [if_pos hc]
      by_cases c0 : runL (DGb n by_) (a + 1) 1 = 0
      · rw [u3, decide_eq_true c0, if_pos c0, show nI true.toNat = nI 1 from rfl, q_if1]
        rw [c0] at u1
        exact Ok.i ⟨⟨u1, by rw [u3, decide_eq_true c0]; rfl, fun q => (by cases q)⟩, uSF⟩
      · have c1 : runL (DGb n by_) (a + 1) 1 = 1 := by omega
        rw [c1] at u1 u2
        have e18 : u 0 18 = nI 0 := by rw [u3, decide_eq_false c0]; rfl
        rw [e18, q_if00, if_neg c0]
        refine (m_name u1 hb (by omega) uT (by show 0 < 100; omega) e18).b (fun r hr => ?_)
        obtain ⟨r1, r2, r3, r4⟩ := hr
        have rSF : SF w r := uSF.tr (fun p j q q2 => by rw [r4 p j (by omega) q2])
        cases c2 : nmOk n by_ (a + 1 + 1)
        · have c2' : nmOk n by_ (a + 2) = false := c2
          rw [if_neg (show ¬ false = true by decide)]
          exact Ok.i ⟨⟨r1, by rw [r3 c2]; rfl, fun q => (by cases q)⟩, rSF⟩
        · have c2' : nmOk n by_ (a + 2) = true := c2
          rw [if_pos rfl]
          obtain ⟨k1, k2⟩ := r2 c2
          refine Ok.i ⟨⟨r1, by rw [k1]; rfl, fun _ => ⟨?_, ?_, k2⟩⟩, rSF⟩
          · rw [r4 0 19 (by omega) (by omega), u19, hv]
            unfold vI
            cases AT n by_ a 43 <;> rfl
          · rw [r4 0 20 (by omega) (by omega), u2]
    unfold f_X11_statement_28
    rw [m_here hM hb (by omega), q_gb, hI_eq hb (by omega)]
    by_cases c : AT n by_ a 43 = true
    · rw [if_pos c, q_gl, gup_n (by omega), hM.2.1, nI_add, q_gl]
      exact key (nI 1) (by rw [if_pos c])
    · rw [if_neg c, q_gl, gup_n (by omega), hM.2.1, nI_add, q_gl]
      exact key gm1 (by rw [if_neg c])
  by_cases c1 : AT n by_ a 43 = true
  · rw [if_pos c1]
    exact h28 (by rw [c1]; rfl)
  · rw [if_neg c1]
    by_cases c2 : AT n by_ a 45 = true
    · rw [if_pos c2]
      exact h28 (by rw [c2, Bool.or_true])
    · rw [if_neg c2]
      simp only [Bool.not_eq_true] at c1 c2
      refine (m_graveTold hM hb ha hT (by rw [c1, c2]; rfl)).b (fun u hu => Ok.i ⟨hu.1, hS.tr hu.2⟩)
theorem stm_ok {n a : Nat} {by_ : Nat → Nat} (hb : BT n by_) (ha : a ≤ n) : (stm n by_ a).2.1 ≤ n ∧ a ≤ (stm n by_ a).2.1 ∧ (stm n by_ a).2.2.2.1 ≤ 999 ∧ WO (stm n by_ a).2.2.2.2 ∧ ((stm n by_ a).1 = true → a + 1 < (stm n by_ a).2.1 ∧ 2 * (stm n by_ a).2.2.2.2.length ≤ (stm n by_ a).2.1 - a ∧ LTb n by_ (stm n by_ a).2.1 = false ∧ ((stm n by_ a).2.2.1 ≠ 0 → (stm n by_ a).2.2.2.1 ≤ 9 ∧ ∃ c, (stm n by_ a).2.2.2.2 = [c])) := by
  have hn := hb.1
  unfold stm
  by_cases c : (AT n by_ a 43 || AT n by_ a 45) = true
  · rw [if_pos c]
    have hat : a < n := by
      rw [Bool.or_eq_true] at c
      rcases c with q | q
      · exact (AT_t q).1
      · exact (AT_t q).1
    have hrn := run_n (n := n) (P := DGb n by_) (fun a q => (DG_t q).1) (f := 1) (a := a + 1) (by omega)
    have hle := runL_le (DGb n by_) 1 (a + 1)
    by_cases c0 : runL (DGb n by_) (a + 1) 1 = 0
    · rw [if_pos c0]
      exact ⟨by show a + 1 ≤ n; omega, by show a ≤ a + 1; omega, Nat.zero_le _, fun x hx => (by cases hx), fun q => (by cases q)⟩
    · rw [if_neg c0]
      have hnl := nlW_n (by_ := by_) (show a + 2 ≤ n by omega)
      by_cases c2 : nmOk n by_ (a + 2) = true
      · rw [if_pos c2]
        obtain ⟨k1, k2⟩ := nmOk_t c2
        have hnv := NVw_lt (n := n) (f := 1) (by_ := by_) (a := a + 1) 1 (by omega)
        refine ⟨hnl, by dsimp only; omega, by show NVw by_ (a + 1) 1 ≤ 999; omega, fun x hx => ?_, fun _ => ⟨by show a + 1 < a + 2 + _; omega, by show 2 * 1 ≤ a + 2 + _ - a; omega, k2, fun _ => ⟨by show NVw by_ (a + 1) 1 ≤ 9; omega, _, rfl⟩⟩⟩
        simp at hx
        subst hx
        exact ⟨word_pos (by omega), word_lt⟩
      · rw [if_neg c2]
        exact ⟨hnl, by dsimp only; omega, Nat.zero_le _, fun x hx => (by cases hx), fun q => (by cases q)⟩
  · rw [if_neg c]
    have hrn := run_n (n := n) (P := DGb n by_) (fun a q => (DG_t q).1) (f := 3) ha
    have hle := runL_le (DGb n by_) 3 a
    by_cases c0 : runL (DGb n by_) a 3 = 0
    · rw [if_pos c0]
      exact ⟨ha, Nat.le_refl _, Nat.zero_le _, fun x hx => (by cases hx), fun q => (by cases q)⟩
    · rw [if_neg c0]
      have hnv := NVw_lt (n := n) (f := 3) (by_ := by_) (a := a) (runL (DGb n by_) a 3) (Nat.le_refl _)
      have hp3 : 10 ^ runL (DGb n by_) a 3 ≤ 10 ^ 3 := Nat.pow_le_pow_right (by omega) hle
      by_cases c1 : AT n by_ (a + runL (DGb n by_) a 3) 58 = true
      · have hlt := (AT_t c1).1
        rw [if_pos c1]
        by_cases c2 : LTb n by_ (a + runL (DGb n by_) a 3 + 1) = true
        · rw [if_pos c2]
          obtain ⟨i1, i2, i3, i4, i5⟩ := nms_ok (n := n) (by_ := by_) 101 (a + runL (DGb n by_) a 3 + 1) (by omega) (by omega)
          refine ⟨i1, by dsimp only; omega, by show NVw by_ a _ ≤ 999; omega, i3, fun q => ?_⟩
          obtain ⟨j1, j2⟩ := i4 q
          exact ⟨by dsimp only; omega, by dsimp only; omega, j2, fun q2 => absurd rfl q2⟩
        · rw [if_neg c2]
          simp only [Bool.not_eq_true] at c2
          exact ⟨by show a + _ + 1 ≤ n; omega, by dsimp only; omega, by show NVw by_ a _ ≤ 999; omega, fun x hx => (by cases hx), fun _ => ⟨by show a + 1 < a + _ + 1; omega, Nat.zero_le _, c2, fun q2 => absurd rfl q2⟩⟩
      · rw [if_neg c1]
        exact ⟨hrn, by dsimp only; omega, Nat.zero_le _, fun x hx => (by cases hx), fun q => (by cases q)⟩
