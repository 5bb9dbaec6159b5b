/-! a statement is read and done at once, by the class -/
/-- all but the draft and the tape's own cells stay -/
def CF (z z' : gS) : Prop := ∀ p j, ¬ (9 ≤ p ∧ p ≤ 12) → ¬ (p = 290 ∧ (j = 2 ∨ j = 3 ∨ j = 4 ∨ j = 5)) → z' p j = z p j
theorem CF.rf {z : gS} : CF z z := fun _ _ _ _ => rfl
theorem CF.tr {z z1 z2 : gS} (h1 : CF z z1) (h2 : CF z1 z2) : CF z z2 := fun p j a b => (h2 p j a b).trans (h1 p j a b)
theorem CF.up {z : gS} {j : Nat} {v : Int32} (h : j = 2 ∨ j = 3 ∨ j = 4 ∨ j = 5) : CF z (gup z 290 j v) := fun p q a b => gup_n (by omega)
theorem CF.fr {z z' : gS} (h : Fr z z' 9) : CF z z' := fun p j a b => by rw [h p (by omega)]
theorem TP.up {z : gS} {n a j : Nat} {by_ : Nat → Nat} {v : Int32} (h : TP z n by_ a) (hj : j ≠ 1 ∧ j ≠ 2) : TP (gup z 290 j v) n by_ a := ⟨by rw [gup_n (by omega)]; exact h.1, by rw [gup_n (by omega)]; exact h.2.1, fun i hi => by rw [gup_n (by omega)]; exact h.2.2 i hi⟩
theorem TP.at {z : gS} {n a b : Nat} {by_ : Nat → Nat} (h : TP z n by_ a) : TP (gup z 290 2 (nI b)) n by_ b := ⟨by rw [gup_n (by omega)]; exact h.1, gup_s, fun i hi => by rw [gup_n (by omega)]; exact h.2.2 i hi⟩
theorem TP.fr {z z' : gS} {n a : Nat} {by_ : Nat → Nat} (h : TP z n by_ a) (hf : Fr z z' 9) : TP z' n by_ a := by
  unfold TP
  rw [hf 290 (by omega), hf 291 (by omega)]
  exact h
theorem SX.t {z : gS} {d : Dat} {j : Nat} {v : Int32} (h : SX z 9 d) : SX (gup z 290 j v) 9 d := h.fr (by funext b; rw [gup_n (by omega)]) (by funext b; rw [gup_n (by omega)]) (by funext b; rw [gup_n (by omega)]) (by funext b; rw [gup_n (by omega)])
theorem SX.tt {z z' : gS} {d : Dat} (h : SX z 9 d) (hf : ∀ p j, p ≠ 290 → z' p j = z p j) : SX z' 9 d := h.fr (by funext b; exact hf _ _ (by omega)) (by funext b; exact hf _ _ (by omega)) (by funext b; exact hf _ _ (by omega)) (by funext b; exact hf _ _ (by omega))
theorem x_nm1 {z : gS} {d : Dat} (h : SX z 9 d) (v : VN d) {c : Nat} (hc : 0 < c ∧ c < 387420489) : Ok (f_X5_named 9 (nI c) z) (fun q => q.1 = nO (nm1 d c).2 ∧ SX q.2 9 (nm1 d c).1 ∧ Fr z q.2 9) := by
  rw [x_named h v.1 hc.2]
  unfold nm1
  by_cases e : fnd d c < dt d
  · rw [if_pos e, if_pos e]
    exact Ok.i ⟨rfl, h, Fr.rf⟩
  · rw [if_neg e, if_neg e]
    by_cases e8 : dt d < 8
    · rw [if_pos e8, if_pos e8]
      exact Ok.i ⟨rfl, h.new, (Fr.up (by omega) (by omega)).tr (Fr.up (by omega) (by omega))⟩
    · rw [if_neg e8, if_neg e8]
      exact Ok.i ⟨rfl, h, Fr.rf⟩
/-- what the class's statement leaves: done (right), or a fault at a place -/
def CO (n : Nat) (by_ : Nat → Nat) (z0 : gS) (ok : Bool) (e : Nat) (dX : Dat) (ab : Bool) (q : Int32 × gS) : Prop := TP q.2 n by_ e ∧ CF z0 q.2 ∧ (∃ d', SX q.2 9 d' ∧ VN d') ∧ (q.1 = nI 0 ∨ q.1 = nI 1) ∧ (ok = true → q.1 = nI 1 ∧ SX q.2 9 dX ∧ q.2 290 5 = nI ab.toNat) ∧ (ok = false → q.1 = nI 0 ∨ LTb n by_ e = true)
theorem x_owns_m1 {z : gS} {d : Dat} (h : SX z 9 d) (v : VD d) {g : Nat} (hg : g < dg d) : f_X5_owns 9 (nI g) gm1 z = some (nI 0) := by
  have h1 := v.1
  have h2 := v.s hg
  have e31 : gm1 &&& 31 = nI 31 &&& 31 := by decide
  unfold f_X5_owns
  rw [x_holds h v hg, q_gb, q_if1, q_gg (by omega) (by omega), nI_clamp (by omega), h.2.2.2.1 g hg, e31, q_bit (by omega) (by omega), bit_hi (show ds d g < 2 ^ 8 by omega) (by omega)]
  exact if_pos (by decide)
theorem x_mark_m1 {z : gS} {d : Dat} (h : SX z 9 d) (v : VD d) {g : Nat} (hg : g < dg d) {x : Int32} : f_X5_mark 9 (nI g) gm1 x z = some (nI 0, z) := by
  unfold f_X5_mark
  rw [x_holds h v hg, q_gb, q_if1, x_knows_n h (Or.inl q_gm1), q_gb, q_if00]
theorem x_bur {n : Nat} {by_ : Nat → Nat} (hb : BT n by_) {z0 : gS} {g : Nat} : ∀ f a i (d : Dat) (ab : Bool) m (z : gS) (x2 : Int32), a ≤ n → n < a + f → f < m → 2 * i ≤ a → TP z n by_ a → SX z 9 d → VN d → z 290 5 = nI ab.toNat → (ab = true → g < dg d ∧ x2 = nI g) → CF z0 z → Ok (f_X7_burial_65 290 9 x2 m (nI i) z) (CO n by_ z0 (nms n by_ a f).2.2 (nms n by_ a f).2.1 (cfo g d (nms n by_ a f).1 ab).1 (cfo g d (nms n by_ a f).1 ab).2)
  | f, a, i, d, ab, 0, z, x2, _, _, hm, _, _, _, _, _, _, _ => by omega
  | 0, a, i, d, ab, m + 1, z, x2, ha, hf, _, _, _, _, _, _, _, _ => by omega
  | f + 1, a, i, d, ab, m + 1, z, x2, ha, hf, hm, hi, hz, hx, v, hab, hg, hcf => by
    have hn := hb.1
    have hnl := nlW_n (by_ := by_) ha
    show Ok (f_X7_burial_65_b 290 9 x2 (fun x3 z => f_X7_burial_65 290 9 x2 m x3 z) (nI i) z) _
    unfold f_X7_burial_65_b
    rw [if_neg (nI_ge (show i < 100 by omega) (by omega))]
    refine (x_letters hz hb ha).b (fun q hq => ?_)
    obtain ⟨q1, q2, q3, q4⟩ := hq
    have qx : SX q.2 9 d := hx.tt (fun p j hp => q4 p j (by omega))
    have qcf : CF z0 q.2 := hcf.tr (fun p j h1 h2 => q4 p j (by omega))
    have q5 : q.2 290 5 = nI ab.toNat := by rw [q4 290 5 (by omega)]; exact hab
    rw [nms_s]
    by_cases c0 : nlW n by_ a = 0
    · have hno : nmOk n by_ a = false := by unfold nmOk; rw [decide_eq_true c0]; rfl
      rw [q1, decide_eq_false (by omega), show nI false.toNat = nI 0 from rfl, q_if00, hno, if_neg (by decide)]
      exact Ok.i ⟨q2, qcf, ⟨d, qx, v⟩, Or.inl rfl, fun q => (by cases q), fun _ => Or.inl rfl⟩
    · rw [q1, decide_eq_true (by omega), show nI true.toNat = nI 1 from rfl, q_if1, q3]
      have hw : 0 < word n by_ a ∧ word n by_ a < 387420489 := ⟨word_pos c0, word_lt⟩
      obtain ⟨n1, n2, n3, n4, n5, n6, n7⟩ := nm1_v v hw
      refine (x_nm1 qx v hw).b (fun r hr => ?_)
      obtain ⟨r1, r2, r3⟩ := hr
      have rTP : TP r.2 n by_ (a + nlW n by_ a) := q2.fr r3
      have rcf : CF z0 r.2 := qcf.tr (CF.fr r3)
      have r5 : r.2 290 5 = nI ab.toNat := by rw [r3 290 (by omega)]; exact q5
      -- what follows once the state and 'able' are known
      have tail : ∀ (u : gS) (d2 : Dat) (ab2 : Bool), TP u n by_ (a + nlW n by_ a) → CF z0 u → SX u 9 d2 → VN d2 → u 290 5 = nI ab2.toNat → (ab2 = true → g < dg d2 ∧ x2 = nI g) → (∀ L, cfo g d (word n by_ a :: L) ab = cfo g d2 L ab2) → Ok (gb (f_X7_here 290 u) fun q26 => if q26 = nI 44 then (gl (gup u 290 2 ((u 290 2) + (nI 1))) fun z28 => f_X7_burial_65 290 9 x2 m (nI i + nI 1) z28) else (some ((nI 1), u))) (CO n by_ z0 (if nmOk n by_ a then (if AT n by_ (a + nlW n by_ a) 44 then (word n by_ a :: (nms n by_ (a + nlW n by_ a + 1) f).1, (nms n by_ (a + nlW n by_ a + 1) f).2) else ([word n by_ a], a + nlW n by_ a, true)) else ([], a + nlW n by_ a, false)).2.2 (if nmOk n by_ a then (if AT n by_ (a + nlW n by_ a) 44 then (word n by_ a :: (nms n by_ (a + nlW n by_ a + 1) f).1, (nms n by_ (a + nlW n by_ a + 1) f).2) else ([word n by_ a], a + nlW n by_ a, true)) else ([], a + nlW n by_ a, false)).2.1 (cfo g d (if nmOk n by_ a then (if AT n by_ (a + nlW n by_ a) 44 then (word n by_ a :: (nms n by_ (a + nlW n by_ a + 1) f).1, (nms n by_ (a + nlW n by_ a + 1) f).2) else ([word n by_ a], a + nlW n by_ a, true)) else ([], a + nlW n by_ a, false)).1 ab).1 (cfo g d (if nmOk n by_ a then (if AT n by_ (a + nlW n by_ a) 44 then (word n by_ a :: (nms n by_ (a + nlW n by_ a + 1) f).1, (nms n by_ (a + nlW n by_ a + 1) f).2) else ([word n by_ a], a + nlW n by_ a, true)) else ([], a + nlW n by_ a, false)).1 ab).2) := fun u d2 ab2 t1 t2 t3 t4 t5 t6 t7 => by
        rw [x_here t1 hb (by omega), q_gb, hI_eq hb (by omega)]
        by_cases e : AT n by_ (a + nlW n by_ a) 44 = true
        · obtain ⟨e1, e2⟩ := AT_t e
          have hok : nmOk n by_ a = true := by
            unfold nmOk LTb
            rw [decide_eq_false c0, e2]
            simp
          rw [if_pos e, hok, if_pos rfl, if_pos e, t1.2.1, nI_add, q_gl, nI_add]
          dsimp only
          rw [t7]
          exact x_bur hb f (a + nlW n by_ a + 1) (i + 1) d2 ab2 m _ x2 (by omega) (by omega) (by omega) (by omega) t1.at t3.t t4 (by rw [gup_n (by omega)]; exact t5) t6 (t2.tr (CF.up (by omega)))
        · rw [if_neg e]
          cases c : nmOk n by_ a
          · rw [if_neg (by decide)]
            have hL : LTb n by_ (a + nlW n by_ a) = true := by
              unfold nmOk at c
              rw [decide_eq_false c0] at c
              simpa using c
            exact Ok.i ⟨t1, t2, ⟨d2, t3, t4⟩, Or.inr rfl, fun q => (by cases q), fun _ => Or.inr hL⟩
          · rw [if_pos rfl, if_neg e]
            refine Ok.i ⟨t1, t2, ⟨d2, t3, t4⟩, Or.inr rfl, fun _ => ⟨rfl, ?_, ?_⟩, fun q => (by cases q)⟩
            · rw [t7]; exact t3
            · rw [t7]; exact t5
      have bad : ∀ (u : gS) (d2 : Dat), TP u n by_ (a + nlW n by_ a) → CF z0 u → SX u 9 d2 → VN d2 → (∀ L, cfo g d (word n by_ a :: L) ab = cfo g d2 L false) → Ok (f_X7_burial_123 290 9 x2 (nI i) (fun x3 z => f_X7_burial_65 290 9 x2 m x3 z) u) (CO n by_ z0 (if nmOk n by_ a then (if AT n by_ (a + nlW n by_ a) 44 then (word n by_ a :: (nms n by_ (a + nlW n by_ a + 1) f).1, (nms n by_ (a + nlW n by_ a + 1) f).2) else ([word n by_ a], a + nlW n by_ a, true)) else ([], a + nlW n by_ a, false)).2.2 (if nmOk n by_ a then (if AT n by_ (a + nlW n by_ a) 44 then (word n by_ a :: (nms n by_ (a + nlW n by_ a + 1) f).1, (nms n by_ (a + nlW n by_ a + 1) f).2) else ([word n by_ a], a + nlW n by_ a, true)) else ([], a + nlW n by_ a, false)).2.1 (cfo g d (if nmOk n by_ a then (if AT n by_ (a + nlW n by_ a) 44 then (word n by_ a :: (nms n by_ (a + nlW n by_ a + 1) f).1, (nms n by_ (a + nlW n by_ a + 1) f).2) else ([word n by_ a], a + nlW n by_ a, true)) else ([], a + nlW n by_ a, false)).1 ab).1 (cfo g d (if nmOk n by_ a then (if AT n by_ (a + nlW n by_ a) 44 then (word n by_ a :: (nms n by_ (a + nlW n by_ a + 1) f).1, (nms n by_ (a + nlW n by_ a + 1) f).2) else ([word n by_ a], a + nlW n by_ a, true)) else ([], a + nlW n by_ a, false)).1 ab).2) := fun u d2 t1 t2 t3 t4 t7 => by
        unfold f_X7_burial_123
        rw [q_gl]
        exact tail (gup u 290 5 (nI 0)) d2 false (t1.up (by omega)) (t2.tr (CF.up (by omega))) t3.t t4 gup_s (fun q => by cases q) t7
      rw [r5, q_ifb]
      cases ab with
      | false =>
        rw [if_neg (by decide)]
        exact bad r.2 _ rTP rcf r2 n1 (fun L => rfl)
      | true =>
        obtain ⟨hg1, rfl⟩ := hg rfl
        have hg2 : g < dg (nm1 d (word n by_ a)).1 := by rw [n2]; exact hg1
        have hcfo : ∀ L, cfo g d (word n by_ a :: L) true = match (nm1 d (word n by_ a)).2 with | none => cfo g (nm1 d (word n by_ a)).1 L false | some t => if (ds (nm1 d (word n by_ a)).1 g).testBit t then cfo g (nm1 d (word n by_ a)).1 L false else cfo g (dSet (nm1 d (word n by_ a)).1 g (ds (nm1 d (word n by_ a)).1 g ||| 2 ^ t)) L true := fun L => rfl
        rw [if_pos rfl, r1]
        cases e : (nm1 d (word n by_ a)).2 with
        | none =>
          rw [nO_none, x_owns_m1 r2 n1.1 hg2, q_gb, q_if00, x_mark_m1 r2 n1.1 hg2, q_gb, q_if00]
          exact bad r.2 _ rTP rcf r2 n1 (fun L => by rw [hcfo, e])
        | some t =>
          obtain ⟨t1, t2, t3⟩ := n7 t e
          have ht8 := n1.1.2.1
          rw [nO_some, x_owns r2 n1.1 hg2 (by omega), q_gb, q_ifb]
          cases c : (ds (nm1 d (word n by_ a)).1 g).testBit t
          · have hmk := x_mark r2 n1.1 (b := true) hg2 t1
            rw [show nI true.toNat = nI 1 from rfl] at hmk
            rw [if_neg (by decide), hmk, q_gb, q_if1, q_gl]
            have hsp : sp_mark (ds (nm1 d (word n by_ a)).1 g) t true = ds (nm1 d (word n by_ a)).1 g ||| 2 ^ t := rfl
            rw [hsp]
            have hfr : Fr r.2 (gup r.2 (9 + 2) g (nI (ds (nm1 d (word n by_ a)).1 g ||| 2 ^ t))) 9 := Fr.up (by omega) (by omega)
            refine tail (gup (gup r.2 (9 + 2) g (nI (ds (nm1 d (word n by_ a)).1 g ||| 2 ^ t))) 290 5 (nI 1)) (dSet (nm1 d (word n by_ a)).1 g (ds (nm1 d (word n by_ a)).1 g ||| 2 ^ t)) true ((rTP.fr hfr).up (by omega)) ((rcf.tr (CF.fr hfr)).tr (CF.up (by omega))) (r2.set hg2).t (n1.set ?_) gup_s (fun _ => ⟨hg2, rfl⟩) (fun L => by rw [hcfo, e]; dsimp only; rw [c, if_neg (by decide)])
            exact Nat.or_lt_two_pow (n1.1.2.2.2.1 g hg2) (Nat.pow_lt_pow_right (by omega) t1)
          · rw [if_pos rfl]
            exact bad r.2 _ rTP rcf r2 n1 (fun L => by rw [hcfo, e]; dsimp only; rw [c, if_pos rfl])
theorem cfo_g {g g' : Nat} : ∀ (L : List Nat) (d : Dat), cfo g d L false = cfo g' d L false
  | [], _ => rfl
  | c :: L, d => cfo_g L _
theorem x_burial {n a : Nat} {by_ : Nat → Nat} (hb : BT n by_) {z : gS} {d : Dat} (ha : a ≤ n) (h : TP z n by_ a) (hx : SX z 9 d) (v : VN d) (hns : (AT n by_ a 43 || AT n by_ a 45) = false) : Ok (f_X7_burial 290 9 z) (CO n by_ z (stm n by_ a).1 (stm n by_ a).2.1 (cAp d (stm n by_ a)).1 (cAp d (stm n by_ a)).2) := by
  have hn := hb.1
  have hrn := run_n (n := n) (P := DGb n by_) (fun a q => (DG_t q).1) (f := 3) ha
  have hle := runL_le (DGb n by_) 3 a
  unfold f_X7_burial
  refine (x_figures h hb ha (by omega)).b (fun q hq => ?_)
  obtain ⟨q1, q2, q3, q4⟩ := hq
  have qx : SX q.2 9 d := hx.tt (fun p j hp => q4 p j (by omega))
  have qcf : CF z q.2 := fun p j h1 h2 => q4 p j (by omega)
  unfold stm
  rw [hns, if_neg (show ¬ false = true by decide)]
  by_cases c0 : runL (DGb n by_) a 3 = 0
  · rw [q1, decide_eq_false (by omega), show nI false.toNat = nI 0 from rfl, q_if00, if_pos c0]
    rw [c0] at q2
    exact Ok.i ⟨q2, qcf, ⟨d, qx, v⟩, Or.inl rfl, fun q => (by cases q), fun _ => Or.inl rfl⟩
  · rw [q1, decide_eq_true (by omega), show nI true.toNat = nI 1 from rfl, q_if1, if_neg c0, x_here q2 hb (by omega), q_gb, hI_eq hb (by omega)]
    by_cases c1 : AT n by_ (a + runL (DGb n by_) a 3) 58 = true
    · have hlt := (AT_t c1).1
      have hnv := NVw_lt (n := n) (f := 3) (by_ := by_) (a := a) (runL (DGb n by_) a 3) (Nat.le_refl _)
      have hp3 : 10 ^ runL (DGb n by_) a 3 ≤ 10 ^ 3 := Nat.pow_le_pow_right (by omega) hle
      rw [if_pos c1, if_pos c1, q2.2.1, nI_add, q_gl, gup_n (by omega), q3]
      have uTP := q2.at (b := a + runL (DGb n by_) a 3 + 1)
      have ux := qx.t (j := 2) (v := nI (a + runL (DGb n by_) a 3 + 1))
      have ucf : CF z (gup q.2 290 2 (nI (a + runL (DGb n by_) a 3 + 1))) := qcf.tr (CF.up (by omega))
      generalize gup q.2 290 2 (nI (a + runL (DGb n by_) a 3 + 1)) = u at *
      generalize hNV : NVw by_ a (runL (DGb n by_) a 3) = num at *
      -- the rest, for a known draft and 'able'
      have rest : ∀ (y : gS) (x2 : Int32) (g : Nat) (d2 : Dat) (ab : Bool), TP y n by_ (a + runL (DGb n by_) a 3 + 1) → CF z y → SX y 9 d2 → VN d2 → y 290 5 = nI ab.toNat → (ab = true → g < dg d2 ∧ x2 = nI g) → (∀ L, cAp d (true, 0, 0, num, L) = cfo g d2 L ab) → Ok (gb (f_X7_here 290 y) fun q9 => gb (f_X7_isLetter q9 y) fun q10 => if q10 = 0 then (some ((nI 1), y)) else (f_X7_burial_65 290 9 x2 gF (nI 0) y)) (CO n by_ z (if LTb n by_ (a + runL (DGb n by_) a 3 + 1) = true then ((nms n by_ (a + runL (DGb n by_) a 3 + 1) 101).2.2, (nms n by_ (a + runL (DGb n by_) a 3 + 1) 101).2.1, 0, num, (nms n by_ (a + runL (DGb n by_) a 3 + 1) 101).1) else (true, a + runL (DGb n by_) a 3 + 1, 0, num, [])).1 (if LTb n by_ (a + runL (DGb n by_) a 3 + 1) = true then ((nms n by_ (a + runL (DGb n by_) a 3 + 1) 101).2.2, (nms n by_ (a + runL (DGb n by_) a 3 + 1) 101).2.1, 0, num, (nms n by_ (a + runL (DGb n by_) a 3 + 1) 101).1) else (true, a + runL (DGb n by_) a 3 + 1, 0, num, [])).2.1 (cAp d (if LTb n by_ (a + runL (DGb n by_) a 3 + 1) = true then ((nms n by_ (a + runL (DGb n by_) a 3 + 1) 101).2.2, (nms n by_ (a + runL (DGb n by_) a 3 + 1) 101).2.1, 0, num, (nms n by_ (a + runL (DGb n by_) a 3 + 1) 101).1) else (true, a + runL (DGb n by_) a 3 + 1, 0, num, []))).1 (cAp d (if LTb n by_ (a + runL (DGb n by_) a 3 + 1) = true then ((nms n by_ (a + runL (DGb n by_) a 3 + 1) 101).2.2, (nms n by_ (a + runL (DGb n by_) a 3 + 1) 101).2.1, 0, num, (nms n by_ (a + runL (DGb n by_) a 3 + 1) 101).1) else (true, a + runL (DGb n by_) a 3 + 1, 0, num, []))).2) := fun y x2 g d2 ab t1 t2 t3 t4 t5 t6 t7 => by
        rw [x_here t1 hb (by omega), q_gb, x_isLetter hb, q_gb, q_ifb]
        cases c2 : LTb n by_ (a + runL (DGb n by_) a 3 + 1)
        · rw [if_neg (by decide), if_neg (by decide)]
          have e := t7 []
          refine Ok.i ⟨t1, t2, ⟨d2, t3, t4⟩, Or.inr rfl, fun _ => ⟨rfl, ?_, ?_⟩, fun q => (by cases q)⟩
          · show SX y 9 (cAp d (true, 0, 0, num, [])).1
            rw [e]; exact t3
          · show y 290 5 = nI (cAp d (true, 0, 0, num, [])).2.toNat
            rw [e]; exact t5
        · rw [if_pos rfl, if_pos rfl]
          have e := t7 (nms n by_ (a + runL (DGb n by_) a 3 + 1) 101).1
          have := x_bur hb (z0 := z) (g := g) 101 (a + runL (DGb n by_) a 3 + 1) 0 d2 ab gF y x2 (by omega) (by omega) (q_gF (by omega)) (by omega) t1 t3 t4 t5 t6 t2
          rw [← e] at this
          exact this
      by_cases hg : dg d < 7
      · obtain ⟨w, w1, w2, w3⟩ := x_dig ux v.1 (a := num) hg
        rw [w1, q_gb, q_iflt0 (by omega), q_gl]
        refine rest (gup w 290 5 (nI 1)) (nI (dg d)) (dg d) (dAdd d num 0) true ((uTP.fr w3).up (by omega)) ((ucf.tr (CF.fr w3)).tr (CF.up (by omega))) w2.t (v.add hg (by omega) (Nat.two_pow_pos _)) gup_s (fun _ => ⟨Nat.lt_succ_self _, rfl⟩) (fun L => ?_)
        unfold cAp
        rw [if_pos rfl, if_pos hg]
      · rw [x_dig_full ux v.1 hg, q_gb, q_ifm, q_gl]
        refine rest (gup u 290 5 (nI 0)) gm1 0 d false (uTP.up (by omega)) (ucf.tr (CF.up (by omega))) ux.t v gup_s (fun q => by cases q) (fun L => ?_)
        unfold cAp
        rw [if_pos rfl, if_neg hg]
    · rw [if_neg c1, if_neg c1]
      exact Ok.i ⟨q2, qcf, ⟨d, qx, v⟩, Or.inl rfl, fun q => (by cases q), fun _ => Or.inl rfl⟩
