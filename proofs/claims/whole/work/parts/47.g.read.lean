/-! a whole text, by both -/
theorem m_isDone {w : gS} {d : Dat} (hM : SM w d) (v : VN d) {r : St} (hw : WO r.2.2.2.2) (hl : r.2.2.2.2.length ≤ 100) (hv2 : r.2.2.1 ≤ 2) (hnum : r.2.2.2.1 ≤ 999) (h19 : w 0 19 = vI r.2.2.1) (h20 : w 0 20 = nI r.2.2.2.1) (hK : KK w 0 22 9 r.2.2.2.2) : Ok (f_X11_isDone w) (fun q => FrM w q.2 ∧ NK d w q.2 ∧ match rAp d r with | none => q.1 = nI 0 | some d' => q.1 = nI 1 ∧ SM q.2 d') := by
  have v1 := v.1.1
  have run : ((r.2.2.1 = 0 ∧ dg d < 7 ∧ r.2.2.2.1 ≤ 999) ∨ (r.2.2.1 ≠ 0 ∧ r.2.2.2.1 < dg d)) → Ok (f_X11_isDone_47 gF (nI 0) (nI 0) w) (fun q => FrM w q.2 ∧ NK d w q.2 ∧ match rfo d r.2.2.2.2 0 with | none => q.1 = nI 0 | some x => q.1 = nI 1 ∧ SM q.2 (if r.2.2.1 = 0 then dAdd x.1 r.2.2.2.1 x.2 else dSet x.1 r.2.2.2.1 (if r.2.2.1 = 1 then ds x.1 r.2.2.2.1 ||| x.2 else nd (ds x.1 r.2.2.2.1) x.2))) := fun hc => m_done_47 hw hl r.2.2.2.2 d 0 0 gF w (q_gF (by omega)) (by omega) rfl hM v (Nat.two_pow_pos _) hK h19 h20 hv2 FrM.rf (Nat.le_refl _) (fun _ _ => rfl) hc
  have nope : Ok (some (nI 0, w) : Option (Int32 × gS)) (fun q => FrM w q.2 ∧ NK d w q.2 ∧ q.1 = nI 0) := Ok.i ⟨FrM.rf, fun _ _ => rfl, rfl⟩
  unfold f_X11_isDone rAp
  rw [h19, h20]
  by_cases hv : r.2.2.1 = 0
  · rw [if_pos hv, show vI r.2.2.1 = nI 0 by rw [hv]; rfl, q_if00, hM.1, q_ifeq (by omega) (by omega), m_isTwice hK hl hw, q_gb, q_ifb, q_if00]
    by_cases hg : dg d < 7
    · rw [if_neg (by omega), if_pos hg]
      by_cases hn : r.2.2.2.2.Nodup
      · rw [decide_eq_false (fun q => q hn), if_neg (by decide), if_pos hn]
        refine (run (Or.inl ⟨hv, hg, hnum⟩)).m (fun q hq => ⟨hq.1, hq.2.1, ?_⟩)
        have := hq.2.2
        cases e : rfo d r.2.2.2.2 0 with
        | none => rw [e] at this; exact this
        | some x => rw [e] at this; dsimp only at this ⊢; rw [if_pos hv] at this; exact this
      · rw [decide_eq_true hn, if_pos rfl, if_neg hn]
        exact nope
    · rw [if_pos (by omega), if_neg hg]
      exact nope
  · have hvi : ¬ vI r.2.2.1 = 0 := by unfold vI; rw [if_neg hv]; split <;> decide
    rw [if_neg hv, if_neg hvi, if_neg hvi]
    by_cases hg : r.2.2.2.1 < dg d
    · rw [m_isGrave hM v.1 hg, q_gb, q_if1, if_pos hg]
      refine (run (Or.inr ⟨hv, hg⟩)).m (fun q hq => ⟨hq.1, hq.2.1, ?_⟩)
      have := hq.2.2
      cases e : rfo d r.2.2.2.2 0 with
      | none => rw [e] at this; exact this
      | some x => rw [e] at this; dsimp only at this ⊢; rw [if_neg hv] at this; exact this
    · rw [m_isGrave_n hM v.1 (Or.inr (nI_le (by omega) (by omega))), q_gb, q_if00, if_neg hg]
      exact nope
/-- the statements of a text, and the fault, if there is one -/
def prs (n : Nat) (by_ : Nat → Nat) : Nat → Nat → List (Nat × St) × Option Nat
  | 0, a => ([], some a)
  | f + 1, a => if (stm n by_ a).1 then (if (stm n by_ a).2.1 = n then ([(a, stm n by_ a)], none) else if AT n by_ (stm n by_ a).2.1 59 then ((a, stm n by_ a) :: (prs n by_ f ((stm n by_ a).2.1 + 1)).1, (prs n by_ f ((stm n by_ a).2.1 + 1)).2) else ([(a, stm n by_ a)], some (stm n by_ a).2.1)) else ([], some (stm n by_ a).2.1)
theorem prs_s (n : Nat) (by_ : Nat → Nat) (f a : Nat) : prs n by_ (f + 1) a = if (stm n by_ a).1 then (if (stm n by_ a).2.1 = n then ([(a, stm n by_ a)], none) else if AT n by_ (stm n by_ a).2.1 59 then ((a, stm n by_ a) :: (prs n by_ f ((stm n by_ a).2.1 + 1)).1, (prs n by_ f ((stm n by_ a).2.1 + 1)).2) else ([(a, stm n by_ a)], some (stm n by_ a).2.1)) else ([], some (stm n by_ a).2.1) := rfl
def apL : Dat → List (Nat × St) → Sum Dat Nat
  | d, [] => .inl d
  | d, (a, r) :: L => match rAp d r with
    | none => .inr a
    | some d' => apL d' L
theorem stm_v {n : Nat} {by_ : Nat → Nat} {a : Nat} : (stm n by_ a).2.2.1 ≤ 2 := by
  unfold stm
  split
  · split
    · exact Nat.zero_le _
    · split
      · show (if _ then 1 else 2) ≤ 2
        split <;> omega
      · exact Nat.zero_le _
  · split
    · exact Nat.zero_le _
    · split
      · split <;> exact Nat.zero_le _
      · exact Nat.zero_le _
theorem m_gt1 {n : Nat} {by_ : Nat → Nat} (hb : BT n by_) {w0 : gS} : ∀ f a cnt m (w : gS), a ≤ n → n < a + f → f < m → MT w n by_ a → SF w0 w → Ok (f_X11_goesThrough_7 (nI 0) m (nI cnt) w) (fun q => SF w0 q.2 ∧ q.1 = match (prs n by_ f a).2 with | some p => (-100) - nI p | none => nI (cnt + (prs n by_ f a).1.length))
  | f, a, cnt, 0, w, _, _, hm, _, _ => by omega
  | 0, a, cnt, m + 1, w, ha, hf, _, _, _ => by omega
  | f + 1, a, cnt, m + 1, w, ha, hf, hm, hw, hfr => by
    have hn := hb.1
    obtain ⟨s1, s2, s3, s4, s5⟩ := stm_ok hb ha
    show Ok (f_X11_goesThrough_7_b (nI 0) (fun x2 z => f_X11_goesThrough_7 (nI 0) m x2 z) (nI cnt) w) _
    unfold f_X11_goesThrough_7_b
    rw [q_gl, q_gl]
    refine (m_statement (hw.up (by omega)) hb ha gup_s).b (fun u hu => ?_)
    obtain ⟨⟨u1, u2, u3⟩, u4⟩ := hu
    have ufr : SF w0 u := (hfr.tr (SF.up (by omega))).tr u4
    rw [u2, prs_s]
    cases c : (stm n by_ a).1
    · rw [show nI (!false).toNat = nI 1 from rfl, q_if1, if_neg (by decide), u1.2.1]
      exact Ok.i ⟨ufr, rfl⟩
    · rw [show nI (!true).toNat = nI 0 from rfl, q_if00, q_if00, if_pos rfl]
      unfold f_X11_goesThrough_53
      rw [u1.2.1, u1.1, q_ifeq (by omega) (by omega), m_here u1 hb (by omega), q_gb, hI_eq hb (by omega), nI_add, nI_add, q_gl]
      by_cases c1 : (stm n by_ a).2.1 = n
      · rw [if_pos c1, if_pos c1]
        exact Ok.i ⟨ufr, rfl⟩
      · rw [if_neg c1, if_neg c1]
        by_cases c2 : AT n by_ (stm n by_ a).2.1 59 = true
        · have := (AT_t c2).1
          have s6 := (s5 c).1
          rw [if_pos c2, if_pos c2]
          refine (m_gt1 hb (w0 := w0) f ((stm n by_ a).2.1 + 1) (cnt + 1) m _ (by omega) (by omega) (by omega) u1.at (ufr.tr (SF.up (by omega)))).m (fun q hq => ⟨hq.1, ?_⟩)
          rw [hq.2]
          dsimp only
          cases (prs n by_ f ((stm n by_ a).2.1 + 1)).2 with
          | none => dsimp only; rw [List.length_cons, show cnt + 1 + (prs n by_ f ((stm n by_ a).2.1 + 1)).1.length = cnt + ((prs n by_ f ((stm n by_ a).2.1 + 1)).1.length + 1) by omega]
          | some p => rfl
        · rw [if_neg c2, if_neg c2]
          exact Ok.i ⟨ufr, rfl⟩
/-- what doing a text may change in the reference -/
def SFM (w w' : gS) : Prop := ∀ p j, p ≠ 9 → ¬ (p = 1 ∨ p = 2 ∨ p = 3) → ¬ (p = 0 ∧ (j = 1 ∨ j = 2 ∨ j = 17 ∨ j = 18 ∨ j = 19 ∨ j = 20 ∨ j = 22)) → w' p j = w p j
theorem SFM.tr {w w1 w2 : gS} (h1 : SFM w w1) (h2 : SFM w1 w2) : SFM w w2 := fun p j a b c => (h2 p j a b c).trans (h1 p j a b c)
theorem SFM.sf {w w' : gS} (h : SF w w') : SFM w w' := fun p j a b c => h p j (by omega) a
theorem SFM.fm {w w' : gS} (h : FrM w w') : SFM w w' := fun p j a b c => h p j (by omega) (by omega)
theorem FrM.mt {w w' : gS} {n a : Nat} {by_ : Nat → Nat} (h : FrM w w') (hm : MT w n by_ a) : MT w' n by_ a := ⟨by rw [h 0 15 (by omega) (by omega)]; exact hm.1, by rw [h 0 17 (by omega) (by omega)]; exact hm.2.1, fun i hi => by rw [h 8 i (by omega) (by omega)]; exact hm.2.2 i hi⟩
theorem SM.sf {w w' : gS} {d : Dat} (h : SM w d) (e : SF w w') : SM w' d := h.se e.se
theorem rAp_t {d d' : Dat} (v : VN d) {r : St} (hw : WO r.2.2.2.2) (h : rAp d r = some d') : dt d ≤ dt d' := by
  have key : ∀ (L : List Nat) (d : Dat) (s : Nat) (x : Dat × Nat), VN d → WO L → rfo d L s = some x → dt d ≤ dt x.1 := fun L => by
    induction L with
    | nil => intro d s x _ _ h; cases h; exact Nat.le_refl _
    | cons c L ih =>
      intro d s x v hw h
      obtain ⟨n1, n2, n3, _⟩ := nm1_v v (hw c (by simp))
      unfold rfo at h
      cases e : (nm1 d c).2 with
      | none => rw [e] at h; cases h
      | some t =>
        rw [e] at h
        have := ih _ _ _ n1 (fun x hx => hw x (List.mem_cons_of_mem c hx)) h
        omega
  unfold rAp at h
  split at h
  · split at h
    · split at h
      · cases e : rfo d r.2.2.2.2 0 with
        | none => rw [e] at h; cases h
        | some x => rw [e] at h; cases h; exact key _ _ _ _ v hw e
      · cases h
    · cases h
  · split at h
    · cases e : rfo d r.2.2.2.2 0 with
      | none => rw [e] at h; cases h
      | some x => rw [e] at h; cases h; exact key _ _ _ _ v hw e
    · cases h
theorem m_gt2 {n : Nat} {by_ : Nat → Nat} (hb : BT n by_) {w0 : gS} {d0 : Dat} : ∀ f a cnt m (w : gS) (d : Dat), a ≤ n → n < a + f → f < m → MT w n by_ a → SM w d → VN d → SFM w0 w → NK d0 w0 w → dt d0 ≤ dt d → (prs n by_ f a).2 = none → Ok (f_X11_goesThrough_7 (nI 1) m (nI cnt) w) (fun q => SFM w0 q.2 ∧ NK d0 w0 q.2 ∧ match apL d (prs n by_ f a).1 with | .inl d' => q.1 = nI (cnt + (prs n by_ f a).1.length) ∧ SM q.2 d' | .inr s => q.1 = (-300) - nI s)
  | f, a, cnt, 0, w, d, _, _, hm, _, _, _, _, _, _, _ => by omega
  | 0, a, cnt, m + 1, w, d, ha, hf, _, _, _, _, _, _, _, _ => by omega
  | f + 1, a, cnt, m + 1, w, d, ha, hf, hm, hw, hM, v, hfr, hnk, hdt, hp => by
    have hn := hb.1
    obtain ⟨s1, s2, s3, s4, s5⟩ := stm_ok hb ha
    show Ok (f_X11_goesThrough_7_b (nI 1) (fun x2 z => f_X11_goesThrough_7 (nI 1) m x2 z) (nI cnt) w) _
    unfold f_X11_goesThrough_7_b
    rw [q_gl, q_gl, hw.2.1]
    refine (m_statement (hw.up (by omega)) hb ha gup_s).b (fun u hu => ?_)
    obtain ⟨⟨u1, u2, u3⟩, u4⟩ := hu
    have usf : SF w u := (SF.up (by omega)).tr u4
    have ufr : SFM w0 u := hfr.tr (SFM.sf usf)
    have uM : SM u d := hM.sf usf
    have unk : NK d0 w0 u := fun t ht => by rw [usf 3 t (by omega) (by omega), hnk t ht]
    rw [prs_s] at hp ⊢
    cases c : (stm n by_ a).1
    · rw [c, if_neg (by decide)] at hp
      cases hp
    · obtain ⟨s6, s7, s8, s9⟩ := s5 c
      obtain ⟨u5, u6, u7⟩ := u3 c
      rw [c, if_pos rfl] at hp
      rw [u2, c, show nI (!true).toNat = nI 0 from rfl, q_if00, q_if1, if_pos rfl]
      refine (m_isDone uM v s4 (by omega) stm_v s3 u5 u6 u7).b (fun q hq => ?_)
      obtain ⟨q1, q2, q3⟩ := hq
      have qfr : SFM w0 q.2 := ufr.tr (SFM.fm q1)
      have qnk : NK d0 w0 q.2 := fun t ht => by rw [q2 t (by omega), unk t ht]
      have qT := q1.mt u1
      have hap : ∀ L, apL d ((a, stm n by_ a) :: L) = match rAp d (stm n by_ a) with | none => .inr a | some d' => apL d' L := fun L => rfl
      cases e : rAp d (stm n by_ a) with
      | none =>
        rw [e] at q3
        dsimp only at q3
        rw [q3, q_if00]
        refine Ok.i ⟨qfr, qnk, ?_⟩
        have : apL d (if (stm n by_ a).2.1 = n then ([(a, stm n by_ a)], none) else if AT n by_ (stm n by_ a).2.1 59 = true then ((a, stm n by_ a) :: (prs n by_ f ((stm n by_ a).2.1 + 1)).1, (prs n by_ f ((stm n by_ a).2.1 + 1)).2) else ([(a, stm n by_ a)], some (stm n by_ a).2.1) : List (Nat × St) × Option Nat).1 = .inr a := by
          split
          · rw [hap, e]
          · split <;> rw [hap, e]
        rw [this]
      | some d' =>
        rw [e] at q3
        obtain ⟨q4, q5⟩ := q3
        obtain ⟨v', _⟩ := rAp_v v s4 s3 e
        have hdt' := rAp_t v s4 e
        rw [q4, q_if1]
        unfold f_X11_goesThrough_53
        rw [qT.2.1, qT.1, q_ifeq (by omega) (by omega), m_here qT hb (by omega), q_gb, hI_eq hb (by omega), nI_add, nI_add, q_gl]
        by_cases c1 : (stm n by_ a).2.1 = n
        · rw [if_pos c1, if_pos c1]
          refine Ok.i ⟨qfr, qnk, ?_⟩
          rw [hap, e]
          exact ⟨rfl, q5⟩
        · rw [if_neg c1] at hp ⊢
          rw [if_neg c1]
          by_cases c2 : AT n by_ (stm n by_ a).2.1 59 = true
          · have := (AT_t c2).1
            rw [if_pos c2] at hp ⊢
            rw [if_pos c2, hap, e]
            refine (m_gt2 hb (w0 := w0) (d0 := d0) f ((stm n by_ a).2.1 + 1) (cnt + 1) m _ d' (by omega) (by omega) (by omega) qT.at (q5.sf (SF.up (by omega))) v' (qfr.tr (SFM.sf (SF.up (by omega)))) (fun t ht => by rw [gup_n (by omega)]; exact qnk t ht) (by omega) hp).m (fun r hr => ⟨hr.1, hr.2.1, ?_⟩)
            have := hr.2.2
            dsimp only
            rw [List.length_cons, show cnt + ((prs n by_ f ((stm n by_ a).2.1 + 1)).1.length + 1) = cnt + 1 + (prs n by_ f ((stm n by_ a).2.1 + 1)).1.length by omega]
            exact this
          · rw [if_neg c2] at hp
            cases hp
/-! the class goes through once -/
theorem neg_lt {k p : Nat} (hk : 0 < k ∧ k ≤ 1000) (hp : p ≤ 1000) {x : Int32} (hx : x.toInt = -(k : Int)) : x - nI p < 0 := by
  rw [Int32.lt_iff_toInt_lt, Int32.toInt_sub, hx, nI_toInt (by omega), Int.bmod_eq_of_le (by omega) (by omega)]
  show _ < (0 : Int32).toInt
  rw [show (0 : Int32).toInt = 0 by decide]
  omega
theorem x_stats {n : Nat} {by_ : Nat → Nat} (hb : BT n by_) {z0 : gS} : ∀ f a cnt (stk : Option Nat) m (z : gS) (d : Dat), a ≤ n → n < a + f → f < m → 2 * cnt ≤ a → (∀ s, stk = some s → s ≤ 100) → TP z n by_ a → SX z 9 d → VN d → CF z0 z → Ok (f_X7_statements_9 290 9 m (nO stk) (nI (cnt + 1)) z) (fun q => CF z0 q.2 ∧ match (prs n by_ f a).2 with | some p => q.1 = (-100) - nI p | none => match stk with | some s => q.1 = (-300) - nI s | none => match apL d (prs n by_ f a).1 with | .inl d' => q.1 = nI (cnt + (prs n by_ f a).1.length) ∧ SX q.2 9 d' | .inr s => q.1 = (-300) - nI s)
  | f, a, cnt, stk, 0, z, d, _, _, hm, _, _, _, _, _, _ => by omega
  | 0, a, cnt, stk, m + 1, z, d, ha, hf, _, _, _, _, _, _, _ => by omega
  | f + 1, a, cnt, stk, m + 1, z, d, ha, hf, hm, hc, hs, hz, hx, v, hcf => by
    have hn := hb.1
    obtain ⟨s1, s2, s3, s4, s5⟩ := stm_ok hb ha
    show Ok (f_X7_statements_9_b 290 9 (fun x2 x3 z => f_X7_statements_9 290 9 m x2 x3 z) (nO stk) (nI (cnt + 1)) z) _
    unfold f_X7_statements_9_b
    rw [if_neg (nI_nlt (show cnt + 1 ≤ 100 by omega) (by omega)), hz.2.1, q_gl]
    refine (x_statement hb ha hz hx v).b (fun q hq => ?_)
    obtain ⟨q1, q2, ⟨dq, q3, q3v⟩, q4, q5, q6⟩ := hq
    have qcf : CF z0 q.2 := hcf.tr q2
    rw [prs_s]
    have hap : ∀ L, apL d ((a, stm n by_ a) :: L) = match rAp d (stm n by_ a) with | none => .inr a | some d' => apL d' L := fun L => rfl
    cases c : (stm n by_ a).1
    · rw [if_neg (show ¬ false = true by decide)]
      rcases q4 with e | e
      · rw [e, q_if00, q1.2.1]
        exact Ok.i ⟨qcf, rfl⟩
      · have hL : LTb n by_ (stm n by_ a).2.1 = true := by
          rcases q6 c with q | q
          · rw [e] at q; exact absurd q (by decide)
          · exact q
        obtain ⟨l1, l2, l3⟩ := LT_t hL
        have h46 : ∀ x2, Ok (f_X7_statements_46 290 9 x2 (nI (cnt + 1)) (fun x2 x3 z => f_X7_statements_9 290 9 m x2 x3 z) q.2) (fun q => CF z0 q.2 ∧ q.1 = (-100) - nI (stm n by_ a).2.1) := fun x2 => by
          unfold f_X7_statements_46
          rw [q1.2.1, q1.1, q_iflt (by omega) (by omega), if_pos l1, x_here q1 hb (by omega), q_gb, hI_eq hb (by omega), if_neg (fun q => by have := (AT_t q).2; omega)]
          exact Ok.i ⟨qcf, rfl⟩
        rw [e, q_if1]
        split
        · split
          · exact h46 _
          · exact h46 _
        · exact h46 _
    · obtain ⟨s6, s7, s8, s9⟩ := s5 c
      obtain ⟨e1, e2, e3⟩ := q5 c
      have hae := ap_eq v s4 (fun q => (s9 q).2)
      -- the next stuck and draft
      have next : ∀ (stk' : Option Nat) (d2 : Dat), (∀ s, stk' = some s → s ≤ 100) → SX q.2 9 d2 → VN d2 → ((stk' = none → stk = none ∧ rAp d (stm n by_ a) = some d2) ∧ (∀ s, stk' = some s → (stk = some s ∨ (stk = none ∧ s = a ∧ rAp d (stm n by_ a) = none)))) → Ok (f_X7_statements_46 290 9 (nO stk') (nI (cnt + 1)) (fun x2 x3 z => f_X7_statements_9 290 9 m x2 x3 z) q.2) (fun q => CF z0 q.2 ∧ match (if (stm n by_ a).2.1 = n then ([(a, stm n by_ a)], none) else if AT n by_ (stm n by_ a).2.1 59 = true then ((a, stm n by_ a) :: (prs n by_ f ((stm n by_ a).2.1 + 1)).1, (prs n by_ f ((stm n by_ a).2.1 + 1)).2) else ([(a, stm n by_ a)], some (stm n by_ a).2.1) : List (Nat × St) × Option Nat).2 with | some p => q.1 = (-100) - nI p | none => match stk with | some s => q.1 = (-300) - nI s | none => match apL d (if (stm n by_ a).2.1 = n then ([(a, stm n by_ a)], none) else if AT n by_ (stm n by_ a).2.1 59 = true then ((a, stm n by_ a) :: (prs n by_ f ((stm n by_ a).2.1 + 1)).1, (prs n by_ f ((stm n by_ a).2.1 + 1)).2) else ([(a, stm n by_ a)], some (stm n by_ a).2.1) : List (Nat × St) × Option Nat).1 with | .inl d' => q.1 = nI (cnt + (if (stm n by_ a).2.1 = n then ([(a, stm n by_ a)], none) else if AT n by_ (stm n by_ a).2.1 59 = true then ((a, stm n by_ a) :: (prs n by_ f ((stm n by_ a).2.1 + 1)).1, (prs n by_ f ((stm n by_ a).2.1 + 1)).2) else ([(a, stm n by_ a)], some (stm n by_ a).2.1) : List (Nat × St) × Option Nat).1.length) ∧ SX q.2 9 d' | .inr s => q.1 = (-300) - nI s) := fun stk' d2 h1 h2 h3 h4 => by
        unfold f_X7_statements_46
        rw [q1.2.1, q1.1, q_iflt (by omega) (by omega)]
        by_cases c1 : (stm n by_ a).2.1 = n
        · rw [if_neg (by omega), if_pos c1]
          cases stk' with
          | none =>
            obtain ⟨k1, k2⟩ := h4.1 rfl
            subst k1
            rw [nO_none, if_neg (by decide), hap, k2]
            exact Ok.i ⟨qcf, rfl, h2⟩
          | some s =>
            have hs2 := h1 s rfl
            rw [nO_some, q_if0le (by omega)]
            rcases h4.2 s rfl with k | ⟨k1, k2, k3⟩
            · subst k
              exact Ok.i ⟨qcf, rfl⟩
            · subst k1
              subst k2
              rw [hap, k3]
              exact Ok.i ⟨qcf, rfl⟩
        · rw [if_pos (by omega), if_neg c1, x_here q1 hb (by omega), q_gb, hI_eq hb (by omega)]
          by_cases c2 : AT n by_ (stm n by_ a).2.1 59 = true
          · have := (AT_t c2).1
            rw [if_pos c2, if_pos c2, nI_add, nI_add, q_gl]
            refine (x_stats hb (z0 := z0) f ((stm n by_ a).2.1 + 1) (cnt + 1) stk' m _ d2 (by omega) (by omega) (by omega) (by omega) h1 q1.at h2.t h3 (qcf.tr (CF.up (by omega)))).m (fun r hr => ⟨hr.1, ?_⟩)
            have hr2 := hr.2
            dsimp only
            cases e : (prs n by_ f ((stm n by_ a).2.1 + 1)).2 with
            | some p => rw [e] at hr2; exact hr2
            | none =>
              rw [e] at hr2
              dsimp only at hr2 ⊢
              cases stk' with
              | none =>
                obtain ⟨k1, k2⟩ := h4.1 rfl
                subst k1
                rw [hap, k2, List.length_cons, show cnt + ((prs n by_ f ((stm n by_ a).2.1 + 1)).1.length + 1) = cnt + 1 + (prs n by_ f ((stm n by_ a).2.1 + 1)).1.length by omega]
                exact hr2
              | some s =>
                rcases h4.2 s rfl with k | ⟨k1, k2, k3⟩
                · subst k
                  exact hr2
                · subst k1
                  subst k2
                  rw [hap, k3]
                  exact hr2
          · rw [if_neg c2, if_neg c2]
            exact Ok.i ⟨qcf, rfl⟩
      rw [e1, q_if1, if_pos rfl, e3, q_ifb]
      cases e : rAp d (stm n by_ a) with
      | some d' =>
        rw [e] at hae
        dsimp only at hae
        rw [hae] at e2 ⊢
        obtain ⟨v', _⟩ := rAp_v v s4 s3 e
        rw [if_pos rfl]
        cases stk with
        | none => exact next none d' (fun s q => (by cases q)) e2 v' ⟨fun _ => ⟨rfl, e⟩, fun s q => (by cases q)⟩
        | some s => exact next (some s) d' hs e2 v' ⟨fun q => (by cases q), fun s' q => (by cases q; exact Or.inl rfl)⟩
      | none =>
        rw [e] at hae
        dsimp only at hae
        rw [hae, if_neg (by decide)]
        cases stk with
        | none =>
          rw [nO_none, if_neg (by decide)]
          exact next (some a) dq (fun s q => (by cases q; omega)) q3 q3v ⟨fun q => (by cases q), fun s q => (by cases q; exact Or.inr ⟨rfl, rfl, e⟩)⟩
        | some s =>
          have := hs s rfl
          rw [nO_some, q_if0le (by omega)]
          exact next (some s) dq hs q3 q3v ⟨fun q => (by cases q), fun s' q => (by cases q; exact Or.inl rfl)⟩
