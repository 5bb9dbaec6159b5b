/-! a told order -/
theorem neg_rem {x : Int32} (h : x < 0) : (x - x / nI 10 * nI 10) - nI 1 < 0 := by
  have h0 : x.toInt < 0 := by rw [Int32.lt_iff_toInt_lt] at h; exact h
  have h1 := Int32.le_toInt x
  have e10 : (nI 10).toInt = 10 := by decide
  have e1 : (nI 1).toInt = 1 := by decide
  have q1 : (x / nI 10).toInt = -((-x.toInt) / 10) := by
    rw [Int32.toInt_div_of_ne_right _ _ (by decide), e10]
    have : x.toInt = -(-x.toInt) := by omega
    rw [this, Int.neg_tdiv, Int.tdiv_eq_ediv_of_nonneg (by omega)]
    simp
  have q2 : (x / nI 10 * nI 10).toInt = -((-x.toInt) / 10) * 10 := by
    rw [Int32.toInt_mul, q1, e10, Int.bmod_eq_of_le (by omega) (by omega)]
  have q3 : (x - x / nI 10 * nI 10).toInt = x.toInt - -((-x.toInt) / 10) * 10 := by
    rw [Int32.toInt_sub, q2, Int.bmod_eq_of_le (by omega) (by omega)]
  rw [Int32.lt_iff_toInt_lt, Int32.toInt_sub, q3, e1, Int.bmod_eq_of_le (by omega) (by omega)]
  show _ < (0 : Int32).toInt
  rw [show (0 : Int32).toInt = 0 by decide]
  omega
theorem gF_n : ∃ n, gF = n + 1 := ⟨99999, rfl⟩
def pO (n : Nat) : Nat → Nat → Nat → List Nat → Option (List Nat)
  | 0, v, _, acc => if v = 0 then some acc else none
  | i + 1, v, sn, acc => if v % 10 = 0 ∨ n < v % 10 ∨ sn.testBit (v % 10 - 1) = true then none else pO n i (v / 10) (sn ||| 2 ^ (v % 10 - 1)) ((v % 10 - 1) :: acc)
def pX (d : Dat) (x : Int32) : Option (List Nat) := if x < 0 then none else pO (dg d) (dg d) x.toNatClampNeg 0 []
theorem pO_ok {n : Nat} : ∀ i v sn acc l, pO n i v sn acc = some l → acc.Nodup → (∀ x ∈ acc, x < n ∧ sn.testBit x = true) → l.length = i + acc.length ∧ l.Nodup ∧ (∀ x ∈ l, x < n) ∧ dig 0 l = dig v acc
  | 0, v, sn, acc, l, h, hn, hm => by
    unfold pO at h
    split at h
    · rename_i e
      cases h
      subst e
      exact ⟨by omega, hn, fun x hx => (hm x hx).1, rfl⟩
    · cases h
  | i + 1, v, sn, acc, l, h, hn, hm => by
    unfold pO at h
    split at h
    · cases h
    · rename_i e
      simp only [not_or, Bool.not_eq_true] at e
      obtain ⟨e1, e2, e3⟩ := e
      obtain ⟨r1, r2, r3, r4⟩ := pO_ok i _ _ _ l h (List.nodup_cons.mpr ⟨fun q => (by rw [(hm _ q).2] at e3; cases e3), hn⟩) (fun x hx => by
        rw [bt_or]
        rcases List.mem_cons.mp hx with rfl | hx
        · exact ⟨by omega, by simp⟩
        · exact ⟨(hm x hx).1, by rw [(hm x hx).2]; rfl⟩)
      refine ⟨by rw [r1, List.length_cons]; omega, r2, r3, ?_⟩
      rw [r4]
      show dig (10 * (v / 10) + (v % 10 - 1) + 1) acc = dig v acc
      congr 1
      omega
theorem pX_ok {d : Dat} (v : VD d) {x : Int32} {l : List Nat} (h : pX d x = some l) : l ∈ oT (2 ^ dg d - 1) ∧ x = nI (dig 0 l) := by
  have v1 := v.1
  unfold pX at h
  split at h
  · cases h
  · rename_i e
    obtain ⟨j, hj, rfl⟩ := nI_of e
    rw [nI_clamp hj] at h
    obtain ⟨h1, h2, h3, h4⟩ := pO_ok _ _ _ _ _ h List.nodup_nil (fun x hx => by cases hx)
    exact ⟨oT_in (by omega) (by simpa using h1) h2 h3, by rw [h4]; rfl⟩
theorem x_holds_m {z : gS} {p : Nat} {d : Dat} (h : SX z p d) (v : VD d) {g : Nat} (hg : g < 10) : f_X5_holds p (nI g - nI 1) z = some (nI (decide (g ≠ 0 ∧ ¬ dg d < g)).toNat) := by
  have v1 := v.1
  cases g with
  | zero =>
    rw [x_holds_n h (Or.inl (by decide))]
    rfl
  | succ g =>
    rw [pk_sub (by omega), show g + 1 - 1 = g by omega]
    by_cases e : g < dg d
    · rw [x_holds h v e, decide_eq_true (by omega)]
      rfl
    · rw [x_holds_big h v (by omega) (by omega), decide_eq_false (by omega)]
      rfl
theorem m_isGrave_m {w : gS} {d : Dat} (h : SM w d) (v : VD d) {g : Nat} (hg : g < 10) : f_X11_isGrave (nI g - nI 1) w = some (nI (decide (g ≠ 0 ∧ ¬ dg d < g)).toNat) := by
  have v1 := v.1
  cases g with
  | zero =>
    rw [m_isGrave_n h v (Or.inl (by decide))]
    rfl
  | succ g =>
    rw [pk_sub (by omega), show g + 1 - 1 = g by omega]
    by_cases e : g < dg d
    · rw [m_isGrave h v e, decide_eq_true (by omega)]
      rfl
    · rw [m_isGrave_n h v (Or.inr (nI_le (by omega) (by omega))), decide_eq_false (by omega)]
      rfl
/-- the row's cells hold an order from a place on -/
def RA (z : gS) (p i n : Nat) (acc : List Nat) : Prop := acc.length + i = n ∧ ∀ j, j < acc.length → z p (i + j) = nI (acc.getD j 0)
theorem RA.c {z : gS} {p i n g : Nat} {acc : List Nat} (h : RA z p (i + 1) n acc) : RA (gup z p i (nI g)) p i n (g :: acc) := by
  refine ⟨by have := h.1; rw [List.length_cons]; omega, fun j hj => ?_⟩
  cases j with
  | zero => rw [Nat.add_zero, gup_s]; rfl
  | succ j =>
    rw [gup_n (by omega), show i + (j + 1) = i + 1 + j by omega, h.2 j (by simpa using hj)]
    rfl
theorem x_setRow_15 {z0 : gS} {d : Dat} (v : VD d) : ∀ i v0 sn acc m (z : gS), i < m → v0 < 2 ^ 31 → sn < 2 ^ dg d → SX z 1 d → RA z 296 i (dg d) acc → (∀ a, a ≠ 296 → z a = z0 a) → Ok (f_X10_setRow_15 m (nI v0) (nI sn) (dI i) z) (fun q => (match pO (dg d) i v0 sn acc with | none => q.1 = nI 0 | some l => q.1 = nI 1 ∧ ∀ j, j < dg d → q.2 296 j = nI (l.getD j 0)) ∧ ∀ a, a ≠ 296 → q.2 a = z0 a)
  | i, v0, sn, acc, 0, z, hm, _, _, _, _, _ => by omega
  | 0, v0, sn, acc, m + 1, z, hm, hv, hs, hz, hr, hf => by
    show Ok (f_X10_setRow_15_b (fun x2 x3 x4 z => f_X10_setRow_15 m x2 x3 x4 z) (nI v0) (nI sn) (dI 0) z) _
    unfold f_X10_setRow_15_b pO
    rw [dI_0, q_if0 hv]
    by_cases e : v0 = 0
    · rw [if_pos e, if_pos e]
      exact Ok.i ⟨⟨rfl, fun j hj => by have := hr.1; have := hr.2 j (by omega); rw [Nat.zero_add] at this; exact this⟩, hf⟩
    · rw [if_neg e, if_neg e]
      exact Ok.i ⟨rfl, hf⟩
  | i + 1, v0, sn, acc, m + 1, z, hm, hv, hs, hz, hr, hf => by
    have v1 := v.1
    have hr1 := hr.1
    have hg : v0 % 10 < 10 := Nat.mod_lt _ (by omega)
    have hp : 2 ^ dg d ≤ 2 ^ 7 := Nat.pow_le_pow_right (by omega) v1
    show Ok (f_X10_setRow_15_b (fun x2 x3 x4 z => f_X10_setRow_15 m x2 x3 x4 z) (nI v0) (nI sn) (dI (i + 1)) z) _
    unfold f_X10_setRow_15_b
    rw [dI_p (by omega), dI_s, pk_rem hv (by omega) (by omega), pk_div hv (by omega) (by omega), q_gl, q_gl, x_holds_m hz v hg, q_gb, q_ifb]
    unfold pO
    by_cases c : v0 % 10 ≠ 0 ∧ ¬ dg d < v0 % 10
    · rw [decide_eq_true c, if_pos rfl, pk_sub (by omega), q_bit (by omega) (by omega), q_ifb]
      cases e : sn.testBit (v0 % 10 - 1)
      · rw [if_neg (by decide), q_sh1 (by omega), q_or, q_gl, show dI (i + 1) = nI i from rfl, q_gg (by omega) (by omega), nI_clamp (by omega), q_gl, if_neg (by simp; omega)]
        refine x_setRow_15 (z0 := z0) v i _ _ _ m _ (by omega) (by omega) ?_ ?_ hr.c (fun a ha => ?_)
        · exact Nat.or_lt_two_pow hs (Nat.pow_lt_pow_right (by omega) (by omega))
        · exact hz.fr (by funext b; rw [gup_n (by omega)]) (by funext b; rw [gup_n (by omega)]) (by funext b; rw [gup_n (by omega)]) (by funext b; rw [gup_n (by omega)])
        · funext b
          rw [gup_n (by omega), hf a ha]
      · rw [if_pos rfl, if_pos (Or.inr (Or.inr rfl))]
        exact Ok.i ⟨rfl, hf⟩
    · rw [decide_eq_false c, if_neg (by decide), if_pos (by omega)]
      exact Ok.i ⟨rfl, hf⟩
theorem x_setRow {z : gS} {d : Dat} (h : SX z 1 d) (v : VD d) (x : Int32) : Ok (f_X10_setRow x z) (fun q => (match pX d x with | none => q.1 = nI 0 | some l => q.1 = nI 1 ∧ ∀ j, j < dg d → q.2 296 j = nI (l.getD j 0)) ∧ ∀ a, a ≠ 296 → q.2 a = z a) := by
  have v1 := v.1
  have ed : nI (dg d) - nI 1 = dI (dg d) := by
    cases e : dg d with
    | zero => decide
    | succ n => rw [pk_sub (by omega)]; rfl
  unfold f_X10_setRow pX
  rw [h.1, ed, q_gl]
  by_cases c : x < 0
  · rw [if_pos c]
    obtain ⟨n0, hn0⟩ := gF_n
    rw [hn0]
    show Ok (f_X10_setRow_15_b (fun x2 x3 x4 z => f_X10_setRow_15 n0 x2 x3 x4 z) x (nI 0) (dI (dg d)) z) _
    unfold f_X10_setRow_15_b
    cases e : dg d with
    | zero =>
      rw [dI_0, if_neg (fun q => by rw [q] at c; exact absurd c (by decide))]
      exact Ok.i ⟨rfl, fun _ _ => rfl⟩
    | succ n =>
      rw [dI_p (by omega), q_gl, q_gl, x_holds_n h (Or.inl (neg_rem c)), q_gb, q_if00]
      exact Ok.i ⟨rfl, fun _ _ => rfl⟩
  · rw [if_neg c]
    obtain ⟨j, hj, rfl⟩ := nI_of c
    rw [nI_clamp hj]
    exact x_setRow_15 (z0 := z) v (dg d) j 0 [] gF z (q_gF (by omega)) hj (Nat.two_pow_pos _) h ⟨by simp, fun j hj => by cases hj⟩ (fun _ _ => rfl)
theorem m_isOrder_32 {w0 : gS} {d : Dat} (v : VD d) : ∀ i v0 sn acc m (w : gS), i < m → v0 < 2 ^ 31 → sn < 2 ^ dg d → SM w d → RA w 4 i (dg d) acc → (∀ a, a ≠ 4 → w a = w0 a) → Ok (f_X11_isOrder_32 m (nI v0) (nI sn) (dI i) w) (fun q => (match pO (dg d) i v0 sn acc with | none => q.1 = nI 0 | some l => q.1 = nI 1 ∧ ∀ j, j < dg d → q.2 4 j = nI (l.getD j 0)) ∧ ∀ a, a ≠ 4 → q.2 a = w0 a)
  | i, v0, sn, acc, 0, w, hm, _, _, _, _, _ => by omega
  | 0, v0, sn, acc, m + 1, w, hm, hv, hs, hz, hr, hf => by
    show Ok (f_X11_isOrder_32_b (fun x2 x3 x4 z => f_X11_isOrder_32 m x2 x3 x4 z) (nI v0) (nI sn) (dI 0) w) _
    unfold f_X11_isOrder_32_b pO
    rw [dI_0, q_if0 hv]
    by_cases e : v0 = 0
    · rw [if_pos e, if_pos e]
      exact Ok.i ⟨⟨rfl, fun j hj => by have := hr.1; have := hr.2 j (by omega); rw [Nat.zero_add] at this; exact this⟩, hf⟩
    · rw [if_neg e, if_neg e]
      exact Ok.i ⟨rfl, hf⟩
  | i + 1, v0, sn, acc, m + 1, w, hm, hv, hs, hz, hr, hf => by
    have v1 := v.1
    have hr1 := hr.1
    have hg : v0 % 10 < 10 := Nat.mod_lt _ (by omega)
    have hp : 2 ^ dg d ≤ 2 ^ 7 := Nat.pow_le_pow_right (by omega) v1
    show Ok (f_X11_isOrder_32_b (fun x2 x3 x4 z => f_X11_isOrder_32 m x2 x3 x4 z) (nI v0) (nI sn) (dI (i + 1)) w) _
    unfold f_X11_isOrder_32_b
    rw [dI_p (by omega), dI_s, pk_rem hv (by omega) (by omega), pk_div hv (by omega) (by omega), q_gl, q_ifle0 hv, m_isGrave_m hz v hg, q_gb, q_ifb]
    unfold pO
    by_cases c0 : v0 = 0
    · rw [if_pos c0, if_pos (by omega)]
      exact Ok.i ⟨rfl, hf⟩
    rw [if_neg c0]
    by_cases c : v0 % 10 ≠ 0 ∧ ¬ dg d < v0 % 10
    · rw [decide_eq_true c, if_pos rfl, pk_sub (by omega), m_has (by omega) (by omega), q_gb, q_ifb]
      cases e : sn.testBit (v0 % 10 - 1)
      · rw [if_neg (by decide), q_sh1 (by omega), q_or, q_gl, show dI (i + 1) = nI i from rfl, q_gg (by omega) (by omega), nI_clamp (by omega), q_gl, q_gl, if_neg (by simp; omega)]
        refine m_isOrder_32 (w0 := w0) v i _ _ _ m _ (by omega) (by omega) ?_ ?_ hr.c (fun a ha => ?_)
        · exact Nat.or_lt_two_pow hs (Nat.pow_lt_pow_right (by omega) (by omega))
        · exact hz.se (SE.up (by unfold Kp; omega))
        · funext b
          rw [gup_n (by omega), hf a ha]
      · rw [if_pos rfl, if_pos (Or.inr (Or.inr rfl))]
        exact Ok.i ⟨rfl, hf⟩
    · rw [decide_eq_false c, if_neg (by decide), if_pos (by omega)]
      exact Ok.i ⟨rfl, hf⟩
theorem m_isOrder {w : gS} {d : Dat} (h : SM w d) (v : VD d) (x : Int32) : Ok (f_X11_isOrder x w) (fun q => (match pX d x with | none => q.1 = nI 0 | some l => q.1 = nI 1 ∧ RW q.2 l ∧ q.2 0 8 = nI (2 ^ dt d - 1)) ∧ BF w q.2) := by
  have v1 := v.1
  have ed : nI (dg d) - nI 1 = dI (dg d) := by
    cases e : dg d with
    | zero => decide
    | succ n => rw [pk_sub (by omega)]; rfl
  have hB : BF w (gup (gup w 0 7 (nI (dg d))) 0 8 (nI (2 ^ dt d - 1))) := (BF.up (by omega)).tr (BF.up (by omega))
  have hS := h.se hB.se
  have e7 : gup (gup w 0 7 (nI (dg d))) 0 8 (nI (2 ^ dt d - 1)) 0 7 = nI (dg d) := by rw [gup_n (by omega), gup_s]
  have e8 : gup (gup w 0 7 (nI (dg d))) 0 8 (nI (2 ^ dt d - 1)) 0 8 = nI (2 ^ dt d - 1) := gup_s
  unfold f_X11_isOrder
  rw [h.1, q_gl, m_ty (h.se (w' := gup w 0 7 (nI (dg d))) (SE.up (by unfold Kp; omega))) v, q_gl, hS.1, ed, q_gl]
  generalize gup (gup w 0 7 (nI (dg d))) 0 8 (nI (2 ^ dt d - 1)) = y at *
  have key : ∀ q : Int32 × gS, (∀ a, a ≠ 4 → q.2 a = y a) → BF w q.2 := fun q hq a j h1 h2 => by
    rw [hq a h1]
    exact hB a j h1 h2
  by_cases c : x < 0
  · have e : pX d x = none := if_pos c
    rw [e]
    obtain ⟨n0, hn0⟩ := gF_n
    rw [hn0]
    show Ok (f_X11_isOrder_32_b (fun x2 x3 x4 z => f_X11_isOrder_32 n0 x2 x3 x4 z) x (nI 0) (dI (dg d)) y) _
    unfold f_X11_isOrder_32_b
    cases e : dg d with
    | zero =>
      rw [dI_0, if_neg (fun q => by rw [q] at c; exact absurd c (by decide))]
      exact Ok.i ⟨rfl, hB⟩
    | succ n =>
      rw [dI_p (by omega), q_gl, if_pos (Int32.le_of_lt c)]
      exact Ok.i ⟨rfl, hB⟩
  · obtain ⟨j, hj, rfl⟩ := nI_of c
    have e : pX d (nI j) = pO (dg d) (dg d) j 0 [] := by unfold pX; rw [if_neg c, nI_clamp hj]
    have := m_isOrder_32 (w0 := y) v (dg d) j 0 [] gF y (q_gF (by omega)) hj (Nat.two_pow_pos _) hS ⟨by simp, fun j hj => by cases hj⟩ (fun _ _ => rfl)
    refine this.m (fun q hq => ⟨?_, key q hq.2⟩)
    have hq1 := hq.1
    rw [← e] at hq1
    cases e2 : pX d (nI j) with
    | none => rw [e2] at hq1; exact hq1
    | some l =>
      rw [e2] at hq1
      have hl := (oT_b7 l (pX_ok v e2).1).1
      rw [(rm_full (dg d) (by omega)).1] at hl
      refine ⟨hq1.1, ⟨?_, fun i hi => hq1.2 i (by omega)⟩, ?_⟩
      · rw [hq.2 0 (by omega), e7, hl]
      · rw [hq.2 0 (by omega), e8]
