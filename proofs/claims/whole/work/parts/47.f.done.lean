/-! the class's correction and statement; the reference does a statement -/
theorem x_mark_nh {z : gS} {d : Dat} (h : SX z 9 d) {g : Nat} (hg : dg d ≤ g) (hb : g < 2 ^ 31) {x y : Int32} : f_X5_mark 9 (nI g) x y z = some (nI 0, z) := by
  unfold f_X5_mark
  rw [x_holds_n h (Or.inr (nI_le hg hb)), q_gb, q_if00]
theorem x_correction {n a : Nat} {by_ : Nat → Nat} (hb : BT n by_) {z : gS} {d : Dat} (ha : a ≤ n) (h : TP z n by_ a) (hx : SX z 9 d) (v : VN d) (hns : (AT n by_ a 43 || AT n by_ a 45) = true) : Ok (f_X7_correction 290 9 (nI (AT n by_ a 43).toNat) z) (CO n by_ z (stm n by_ a).1 (stm n by_ a).2.1 (cAp d (stm n by_ a)).1 (cAp d (stm n by_ a)).2) := by
  have hn := hb.1
  have hat : a < n := by
    rw [Bool.or_eq_true] at hns
    rcases hns with q | q
    · exact (AT_t q).1
    · exact (AT_t q).1
  have hle := runL_le (DGb n by_) 1 (a + 1)
  have hrn := run_n (n := n) (P := DGb n by_) (fun a q => (DG_t q).1) (f := 1) (a := a + 1) (by omega)
  unfold f_X7_correction
  rw [h.2.1, nI_add, q_gl]
  have hTP : TP (gup z 290 2 (nI (a + 1))) n by_ (a + 1) := h.at
  have hX : SX (gup z 290 2 (nI (a + 1))) 9 d := hx.t
  have hC : CF z (gup z 290 2 (nI (a + 1))) := CF.up (by omega)
  generalize gup z 290 2 (nI (a + 1)) = y at *
  refine (x_figures hTP hb (by omega) (by omega)).b (fun q hq => ?_)
  obtain ⟨q1, q2, q3, q4⟩ := hq
  have qx : SX q.2 9 d := hX.tt (fun p j hp => q4 p j (by omega))
  have qcf : CF z q.2 := hC.tr (fun p j h1 h2 => q4 p j (by omega))
  unfold stm
  rw [if_pos hns]
  by_cases c0 : runL (DGb n by_) (a + 1) 1 = 0
  · rw [q1, decide_eq_false (by omega), show nI false.toNat = nI 0 from rfl, q_if00, if_pos c0]
    rw [c0] at q2
    exact Ok.i ⟨q2, qcf, ⟨d, qx, v⟩, Or.inl rfl, fun q => (by cases q), fun _ => Or.inl rfl⟩
  · have c1 : runL (DGb n by_) (a + 1) 1 = 1 := by omega
    rw [c1] at q2 q3
    have hnl := nlW_n (by_ := by_) (show a + 2 ≤ n by omega)
    have hnv := NVw_lt (n := n) (f := 1) (by_ := by_) (a := a + 1) 1 (by omega)
    have q2 : TP q.2 n by_ (a + 2) := q2
    rw [q1, decide_eq_true (by omega), show nI true.toNat = nI 1 from rfl, q_if1, if_neg c0]
    refine (x_letters q2 hb (by omega)).b (fun r hr => ?_)
    obtain ⟨r1, r2, r3, r4⟩ := hr
    have rx : SX r.2 9 d := qx.tt (fun p j hp => r4 p j (by omega))
    have rcf : CF z r.2 := qcf.tr (fun p j h1 h2 => r4 p j (by omega))
    have rn : r.2 290 3 = nI (NVw by_ (a + 1) 1) := by rw [r4 290 3 (by omega)]; exact q3
    by_cases c2 : nlW n by_ (a + 2) = 0
    · have hno : nmOk n by_ (a + 2) = false := by unfold nmOk; rw [decide_eq_true c2]; rfl
      rw [r1, decide_eq_false (by omega), show nI false.toNat = nI 0 from rfl, q_if00, hno, if_neg (by decide)]
      exact Ok.i ⟨r2, rcf, ⟨d, rx, v⟩, Or.inl rfl, fun q => (by cases q), fun _ => Or.inl rfl⟩
    · have hw : 0 < word n by_ (a + 2) ∧ word n by_ (a + 2) < 387420489 := ⟨word_pos c2, word_lt⟩
      obtain ⟨n1, n2, n3, n4, n5, n6, n7⟩ := nm1_v v hw
      rw [r1, decide_eq_true (by omega), show nI true.toNat = nI 1 from rfl, q_if1, r3, rn]
      refine (x_nm1 rx v hw).b (fun s hs => ?_)
      obtain ⟨s1, s2, s3⟩ := hs
      have sTP : TP s.2 n by_ (a + 2 + nlW n by_ (a + 2)) := r2.fr s3
      have scf : CF z s.2 := rcf.tr (CF.fr s3)
      have fin : ∀ (u : gS) (d2 : Dat) (ab : Bool), TP u n by_ (a + 2 + nlW n by_ (a + 2)) → CF z u → SX u 9 d2 → VN d2 → cAp d (true, a + 2 + nlW n by_ (a + 2), (if AT n by_ a 43 then 1 else 2), NVw by_ (a + 1) 1, [word n by_ (a + 2)]) = (d2, ab) → Ok (gz (nI ab.toNat) (gl (gup u 290 5 (nI ab.toNat)) fun z9 => some ((nI 1), z9))) (CO n by_ z (if nmOk n by_ (a + 2) = true then (true, a + 2 + nlW n by_ (a + 2), (if AT n by_ a 43 = true then 1 else 2), NVw by_ (a + 1) 1, [word n by_ (a + 2)]) else (false, a + 2 + nlW n by_ (a + 2), 0, 0, [])).1 (if nmOk n by_ (a + 2) = true then (true, a + 2 + nlW n by_ (a + 2), (if AT n by_ a 43 = true then 1 else 2), NVw by_ (a + 1) 1, [word n by_ (a + 2)]) else (false, a + 2 + nlW n by_ (a + 2), 0, 0, [])).2.1 (cAp d (if nmOk n by_ (a + 2) = true then (true, a + 2 + nlW n by_ (a + 2), (if AT n by_ a 43 = true then 1 else 2), NVw by_ (a + 1) 1, [word n by_ (a + 2)]) else (false, a + 2 + nlW n by_ (a + 2), 0, 0, []))).1 (cAp d (if nmOk n by_ (a + 2) = true then (true, a + 2 + nlW n by_ (a + 2), (if AT n by_ a 43 = true then 1 else 2), NVw by_ (a + 1) 1, [word n by_ (a + 2)]) else (false, a + 2 + nlW n by_ (a + 2), 0, 0, []))).2) := fun u d2 ab t1 t2 t3 t4 t5 => by
        rw [q_bz, q_gl]
        cases c : nmOk n by_ (a + 2)
        · rw [if_neg (by decide)]
          have hL : LTb n by_ (a + 2 + nlW n by_ (a + 2)) = true := by
            unfold nmOk at c
            rw [decide_eq_false c2] at c
            simpa using c
          exact Ok.i ⟨t1.up (by omega), t2.tr (CF.up (by omega)), ⟨d2, t3.t, t4⟩, Or.inr rfl, fun q => (by cases q), fun _ => Or.inr hL⟩
        · rw [if_pos rfl, t5]
          exact Ok.i ⟨t1.up (by omega), t2.tr (CF.up (by omega)), ⟨d2, t3.t, t4⟩, Or.inr rfl, fun _ => ⟨rfl, t3.t, (by show gup u 290 5 (nI ab.toNat) 290 5 = nI ab.toNat; exact gup_s)⟩, fun q => (by cases q)⟩
      have hcap : cAp d (true, a + 2 + nlW n by_ (a + 2), (if AT n by_ a 43 then 1 else 2), NVw by_ (a + 1) 1, [word n by_ (a + 2)]) = (if NVw by_ (a + 1) 1 < dg d then (match (nm1 d (word n by_ (a + 2))).2 with | some t => (dSet (nm1 d (word n by_ (a + 2))).1 (NVw by_ (a + 1) 1) (sp_mark (ds (nm1 d (word n by_ (a + 2))).1 (NVw by_ (a + 1) 1)) t (AT n by_ a 43)), true) | none => ((nm1 d (word n by_ (a + 2))).1, false)) else ((nm1 d (word n by_ (a + 2))).1, false)) := by
        unfold cAp
        have : ¬ (if AT n by_ a 43 = true then 1 else 2) = 0 := by split <;> omega
        have h2 : decide ((if AT n by_ a 43 = true then 1 else 2) = 1) = AT n by_ a 43 := by cases AT n by_ a 43 <;> rfl
        try dsimp only
        rw [if_neg this, h2]
        rfl
      rw [s1]
      by_cases hg : NVw by_ (a + 1) 1 < dg d
      · have hg2 : NVw by_ (a + 1) 1 < dg (nm1 d (word n by_ (a + 2))).1 := by rw [n2]; exact hg
        rw [if_pos hg] at hcap
        cases e : (nm1 d (word n by_ (a + 2))).2 with
        | none =>
          rw [e] at hcap
          rw [nO_none, x_mark_m1 s2 n1.1 hg2, q_gb]
          exact fin s.2 _ false sTP scf s2 n1 hcap
        | some t =>
          obtain ⟨t1, t2, t3⟩ := n7 t e
          rw [e] at hcap
          rw [nO_some, x_mark s2 n1.1 hg2 t1, q_gb]
          have hfr : Fr s.2 (gup s.2 (9 + 2) (NVw by_ (a + 1) 1) (nI (sp_mark (ds (nm1 d (word n by_ (a + 2))).1 (NVw by_ (a + 1) 1)) t (AT n by_ a 43)))) 9 := Fr.up (by omega) (by omega)
          exact fin _ _ true (sTP.fr hfr) (scf.tr (CF.fr hfr)) (s2.set hg2) (n1.set (sp_mark_lt (n1.1.2.2.2.1 _ hg2) t1)) hcap
      · rw [if_neg hg] at hcap
        rw [x_mark_nh s2 (by rw [n2]; omega) (by omega), q_gb]
        exact fin s.2 _ false sTP scf s2 n1 hcap
theorem x_statement {n a : Nat} {by_ : Nat → Nat} (hb : BT n by_) {z : gS} {d : Dat} (ha : a ≤ n) (h : TP z n by_ a) (hx : SX z 9 d) (v : VN d) : Ok (f_X7_statement 290 9 z) (CO n by_ z (stm n by_ a).1 (stm n by_ a).2.1 (cAp d (stm n by_ a)).1 (cAp d (stm n by_ a)).2) := by
  have hn := hb.1
  have wrap : ∀ (o : Option (Int32 × gS)), Ok o (CO n by_ z (stm n by_ a).1 (stm n by_ a).2.1 (cAp d (stm n by_ a)).1 (cAp d (stm n by_ a)).2) → Ok (gb o fun q6 => gz q6.1 (some (q6.1, q6.2))) (CO n by_ z (stm n by_ a).1 (stm n by_ a).2.1 (cAp d (stm n by_ a)).1 (cAp d (stm n by_ a)).2) := fun o ho => ho.b (fun q hq => by
    have : gz q.1 (some (q.1, q.2)) = some q := by
      rcases hq.2.2.2.1 with e | e
      · rw [e, q_zero, ← e]
      · rw [e, q_one, ← e]
    rw [this]
    exact Ok.i hq)
  unfold f_X7_statement
  rw [x_here h hb (by omega), q_gb, hI_eq hb (by omega), hI_eq hb (by omega), hI_eq hb (by omega)]
  cases c1 : AT n by_ a 43
  · rw [if_neg (by decide)]
    cases c2 : AT n by_ a 45
    · rw [if_neg (by decide)]
      exact wrap _ (x_burial hb ha h hx v (by rw [c1, c2]; rfl))
    · rw [if_pos rfl, if_neg (by decide)]
      have := x_correction hb ha h hx v (by rw [c1, c2]; rfl)
      rw [c1] at this
      exact wrap _ this
  · rw [if_pos rfl, if_pos rfl]
    have := x_correction hb ha h hx v (by rw [c1]; rfl)
    rw [c1] at this
    exact wrap _ this
/-! the reference does a statement -/
/-- names that were there stay where they were -/
def NK (d : Dat) (w w' : gS) : Prop := ∀ t, t < dt d → w' 3 t = w 3 t
theorem m_nm1 {w : gS} {d : Dat} (h : SM w d) (v : VN d) {c : Nat} (hc : 0 < c ∧ c < 387420489) : Ok (f_X11_typeOf (nI c) w) (fun q => q.1 = nO (nm1 d c).2 ∧ SM q.2 (nm1 d c).1 ∧ FrM w q.2 ∧ NK d w q.2) := by
  rw [m_typeOf h v.1 hc.2]
  unfold nm1
  by_cases e : fnd d c < dt d
  · rw [if_pos e, if_pos e]
    exact Ok.i ⟨rfl, h, FrM.rf, fun _ _ => rfl⟩
  · rw [if_neg e, if_neg e]
    by_cases e8 : dt d < 8
    · rw [if_pos e8, if_pos e8]
      exact Ok.i ⟨rfl, h.new, (FrM.up (by omega)).tr (FrM.up (by omega)), fun t ht => by dsimp only; rw [gup_n (by omega), gup_n (by omega)]⟩
    · rw [if_neg e8, if_neg e8]
      exact Ok.i ⟨rfl, h, FrM.rf, fun _ _ => rfl⟩
theorem nd_pw {L : List Nat} : L.Nodup ↔ ∀ i j, j < i → i < L.length → L.getD i 0 ≠ L.getD j 0 := by
  constructor
  · intro h i j hj hi
    exact nd_inj h hi (by omega) (by omega)
  · intro h
    show List.Pairwise _ L
    rw [List.pairwise_iff_getElem]
    intro i j hi hj hij
    have := h j i hij hj
    rw [List.getD_eq_getElem?_getD, List.getD_eq_getElem?_getD, List.getElem?_eq_getElem hi, List.getElem?_eq_getElem hj] at this
    exact fun e => this e.symm
theorem m_isTwice {w : gS} {L : List Nat} (h : KK w 0 22 9 L) (hl : L.length ≤ 100) (hw : WO L) : f_X11_isTwice w = some (nI (decide (¬ L.Nodup)).toNat) := by
  have k12 : ∀ i, i < L.length → ∀ (K : Int32 → Option Int32) j k m, k + j = i → j < m → f_X11_isTwice_12 w (nI i) K m (nI k) = if (List.range' k j).any (fun k => decide (L.getD i 0 = L.getD k 0)) then some (nI 1) else K (nI (i + 1)) := by
    intro i hi K j
    induction j with
    | zero =>
      intro k m hk hm
      obtain ⟨m, rfl⟩ : ∃ q, m = q + 1 := ⟨m - 1, by omega⟩
      show f_X11_isTwice_12_b w (nI i) K (fun x2 => f_X11_isTwice_12 w (nI i) K m x2) (nI k) = _
      unfold f_X11_isTwice_12_b
      rw [if_pos (nI_le (by omega) (by omega)), nI_add]
      rfl
    | succ j ih =>
      intro k m hk hm
      obtain ⟨m, rfl⟩ : ∃ q, m = q + 1 := ⟨m - 1, by omega⟩
      have x1 := (hw _ (getD_in hi)).2
      have x2 := (hw _ (getD_in (show k < L.length by omega))).2
      show f_X11_isTwice_12_b w (nI i) K (fun x2 => f_X11_isTwice_12 w (nI i) K m x2) (nI k) = _
      unfold f_X11_isTwice_12_b
      rw [if_neg (nI_ge (show k < i by omega) (by omega)), q_gg (by omega) (by omega), q_gg (by omega) (by omega), nI_clamp (by omega), nI_clamp (by omega), h.2 i hi, h.2 k (by omega), q_ifeq (by omega) (by omega), nI_add]
      try dsimp only
      rw [ih (k + 1) m (by omega) (by omega), List.range'_succ, List.any_cons]
      by_cases c : L.getD i 0 = L.getD k 0
      · rw [if_pos c, decide_eq_true c, Bool.true_or, if_pos rfl]
      · rw [if_neg c, decide_eq_false c, Bool.false_or]
  have k2 : ∀ j i m, i + j = L.length → j < m → f_X11_isTwice_2 w m (nI i) = some (nI ((List.range' i j).any (fun i => (List.range' 0 i).any (fun k => decide (L.getD i 0 = L.getD k 0)))).toNat) := by
    intro j
    induction j with
    | zero =>
      intro i m hi hm
      obtain ⟨m, rfl⟩ : ∃ q, m = q + 1 := ⟨m - 1, by omega⟩
      show f_X11_isTwice_2_b w (fun x1 => f_X11_isTwice_2 w m x1) (nI i) = _
      unfold f_X11_isTwice_2_b
      rw [h.1, if_pos (nI_le (by omega) (by omega))]
      rfl
    | succ j ih =>
      intro i m hi hm
      obtain ⟨m, rfl⟩ : ∃ q, m = q + 1 := ⟨m - 1, by omega⟩
      show f_X11_isTwice_2_b w (fun x1 => f_X11_isTwice_2 w m x1) (nI i) = _
      unfold f_X11_isTwice_2_b
      rw [h.1, if_neg (nI_ge (show i < L.length by omega) (by omega)), k12 i (by omega) _ i 0 gF (by omega) (q_gF (by omega))]
      try dsimp only
      rw [ih (i + 1) m (by omega) (by omega), List.range'_succ, List.any_cons]
      cases (List.range' 0 i).any (fun k => decide (L.getD i 0 = L.getD k 0))
      · rw [if_neg (by decide), Bool.false_or]
      · rw [if_pos rfl, Bool.true_or]
        rfl
  unfold f_X11_isTwice
  rw [k2 L.length 0 gF (by omega) (q_gF (by omega))]
  congr 3
  apply bool_ext
  rw [decide_eq_true_eq, nd_pw, List.any_eq_true]
  constructor
  · rintro ⟨i, i1, i2⟩ hc
    obtain ⟨k, k1, k2⟩ := List.any_eq_true.mp i2
    have i1 := List.mem_range'_1.mp i1
    have k1 := List.mem_range'_1.mp k1
    exact hc i k (by omega) (by omega) (by simpa using k2)
  · intro hc
    apply Classical.byContradiction
    intro hn
    apply hc
    intro i j hj hi e
    apply hn
    exact ⟨i, List.mem_range'_1.mpr (by omega), List.any_eq_true.mpr ⟨j, List.mem_range'_1.mpr (by omega), by simpa using e⟩⟩
theorem m_done_47 {w0 : gS} {d0 : Dat} {vv : Nat} {num : Nat} {L : List Nat} (hw : WO L) (hl : L.length ≤ 100) : ∀ (R : List Nat) (d : Dat) (s i m : Nat) (w : gS), R.length < m → i + R.length = L.length → L.drop i = R → SM w d → VN d → s < 2 ^ dt d → KK w 0 22 9 L → w 0 19 = vI vv → w 0 20 = nI num → vv ≤ 2 → FrM w0 w → dt d0 ≤ dt d → NK d0 w0 w → ((vv = 0 ∧ dg d < 7 ∧ num ≤ 999) ∨ (vv ≠ 0 ∧ num < dg d)) → Ok (f_X11_isDone_47 m (nI s) (nI i) w) (fun q => FrM w0 q.2 ∧ NK d0 w0 q.2 ∧ match rfo d R s with | none => q.1 = nI 0 | some x => q.1 = nI 1 ∧ SM q.2 (if vv = 0 then dAdd x.1 num x.2 else dSet x.1 num (if vv = 1 then ds x.1 num ||| x.2 else nd (ds x.1 num) x.2)))
  | R, d, s, i, 0, w, hm, _, _, _, _, _, _, _, _, _, _, _, _, _ => by omega
  | [], d, s, i, m + 1, w, hm, hi, hd, hM, v, hs, hK, h19, h20, hv2, hfr, hdt, hnk, hcase => by
    have v1 := v.1.1
    have hi : i + 0 = L.length := hi
    show Ok (f_X11_isDone_47_b (fun x1 x2 z => f_X11_isDone_47 m x1 x2 z) (nI s) (nI i) w) _
    unfold f_X11_isDone_47_b
    rw [hK.1, if_pos (nI_le (by omega) (by omega)), h19, h20]
    rcases hcase with ⟨c0, c1, c2⟩ | ⟨c0, c1⟩
    · subst c0
      rw [show vI 0 = nI 0 from rfl, q_if00]
      obtain ⟨w1, e1, e2, e3⟩ := m_grave hM v.1 c2 c1
      rw [e1, q_gb]
      try dsimp only
      rw [q_gg (by omega) (by omega), nI_clamp (by omega), q_gl]
      refine Ok.i ⟨(hfr.tr e3).tr (FrM.up (by omega)), fun t ht => ?_, rfl, ?_⟩
      · have : w1 3 t = w 3 t := by
          have hN1 := e2.2.2.2.2 t (show t < dt (dAdd d num 0) by show t < dt d; omega)
          have hN2 := hM.2.2.2.2 t (by omega)
          rw [hN1, hN2]
          rfl
        dsimp only
        rw [gup_n (by omega), this, hnk t ht]
      · rw [if_pos rfl]
        have := e2.set (i := dg d) (s := s)
        rw [dSet_add] at this
        exact this
    · rw [if_neg (show ¬ vI vv = 0 by unfold vI; rw [if_neg c0]; split <;> decide), q_gg (by omega) (by omega), q_gg (by omega) (by omega), q_gg (by omega) (by omega), nI_clamp (by omega), hM.2.2.2.1 num c1, q_nd, q_or, q_gl, q_gl]
      have hvi : (if vI vv ≤ 0 then some (nI 1, gup w 2 num (nI (nd (ds d num) s))) else gg (nI num) 7 (some (nI 1, gup w 2 num (nI (ds d num ||| s))))) = (some (nI 1, gup w 2 num (nI (if vv = 1 then ds d num ||| s else nd (ds d num) s))) : Option (Int32 × gS)) := by
        unfold vI
        rw [if_neg c0]
        by_cases q : vv = 1
        · rw [if_pos q, if_neg (by decide), if_pos q, q_gg (by omega) (by omega)]
        · rw [if_neg q, if_pos (by decide), if_neg q]
      first
        | rw [hvi]
        | skip
      have hfin : Ok (some (nI 1, gup w 2 num (nI (if vv = 1 then ds d num ||| s else nd (ds d num) s))) : Option (Int32 × gS)) (fun q => FrM w0 q.2 ∧ NK d0 w0 q.2 ∧ q.1 = nI 1 ∧ SM q.2 (if vv = 0 then dAdd d num s else dSet d num (if vv = 1 then ds d num ||| s else nd (ds d num) s))) := by
        refine Ok.i ⟨hfr.tr (FrM.up (by omega)), fun t ht => ?_, rfl, ?_⟩
        · dsimp only; rw [gup_n (by omega), hnk t ht]
        · rw [if_neg c0]
          exact hM.set
      first
        | exact hfin
        | (unfold vI
           rw [if_neg c0]
           by_cases q : vv = 1
           · rw [if_pos q] at hfin ⊢
             rw [if_neg (by decide)]
             exact hfin
           · rw [if_neg q] at hfin ⊢
             rw [if_pos (by decide)]
             exact hfin)
  | c :: R, d, s, i, m + 1, w, hm, hi, hd, hM, v, hs, hK, h19, h20, hv2, hfr, hdt, hnk, hcase => by
    have hi : i + (R.length + 1) = L.length := hi
    have hil : i < L.length := by omega
    have hdr := getD_drop hil
    rw [hd] at hdr
    cases hdr
    have hc := hw _ (getD_in hil)
    obtain ⟨n1, n2, n3, n4, n5, n6, n7⟩ := nm1_v v hc
    show Ok (f_X11_isDone_47_b (fun x1 x2 z => f_X11_isDone_47 m x1 x2 z) (nI s) (nI i) w) _
    unfold f_X11_isDone_47_b
    rw [hK.1, if_neg (nI_ge hil (by omega)), q_gg (by omega) (by omega), nI_clamp (by omega), hK.2 i hil]
    refine (m_nm1 hM v hc).b (fun q hq => ?_)
    obtain ⟨q1, q2, q3, q4⟩ := hq
    have hfr2 : FrM w0 q.2 := hfr.tr q3
    have hnk2 : NK d0 w0 q.2 := fun t ht => by rw [q4 t (by omega), hnk t ht]
    rw [q1]
    show Ok _ (fun q : Int32 × gS => FrM w0 q.2 ∧ NK d0 w0 q.2 ∧ match (match (nm1 d (L.getD i 0)).2 with | none => none | some t => rfo (nm1 d (L.getD i 0)).1 (L.drop (i + 1)) (s ||| 2 ^ t)) with | none => q.1 = nI 0 | some x => q.1 = nI 1 ∧ SM q.2 (if vv = 0 then dAdd x.1 num x.2 else dSet x.1 num (if vv = 1 then ds x.1 num ||| x.2 else nd (ds x.1 num) x.2)))
    cases e : (nm1 d (L.getD i 0)).2 with
    | none =>
      rw [nO_none, if_pos rfl]
      exact Ok.i ⟨hfr2, hnk2, rfl⟩
    | some t =>
      obtain ⟨t1, _⟩ := n7 t e
      have ht8 := n1.1.2.1
      have hp : 2 ^ dt d ≤ 2 ^ dt (nm1 d (L.getD i 0)).1 := Nat.pow_le_pow_right (by omega) n3
      rw [nO_some, if_neg (nI_ne_m1 (by omega)), q_sh1 (by omega), q_or, q_gl, nI_add]
      try dsimp only
      refine m_done_47 hw hl (L.drop (i + 1)) (nm1 d (L.getD i 0)).1 (s ||| 2 ^ t) (i + 1) m q.2 ?_ ?_ rfl q2 n1 (Nat.or_lt_two_pow (by omega) (Nat.pow_lt_pow_right (by omega) t1)) ?_ ?_ ?_ hv2 hfr2 (by omega) hnk2 ?_
      · simp at hm ⊢; omega
      · simp; omega
      · exact ⟨by rw [q3 0 22 (by omega) (by omega)]; exact hK.1, fun k hk => by rw [q3 9 k (by omega) (by omega)]; exact hK.2 k hk⟩
      · rw [q3 0 19 (by omega) (by omega)]; exact h19
      · rw [q3 0 20 (by omega) (by omega)]; exact h20
      · rw [n2]; exact hcase
