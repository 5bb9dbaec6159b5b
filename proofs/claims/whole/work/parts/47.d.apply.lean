/-! what a statement does -/
def nm1 (d : Dat) (c : Nat) : Dat × Option Nat := if fnd d c < dt d then (d, some (fnd d c)) else if dt d < 8 then (dNew d c, some (dt d)) else (d, none)
def cfo (g : Nat) : Dat → List Nat → Bool → Dat × Bool
  | d, [], ab => (d, ab)
  | d, c :: L, false => cfo g (nm1 d c).1 L false
  | d, c :: L, true => match (nm1 d c).2 with
    | none => cfo g (nm1 d c).1 L false
    | some t => if (ds (nm1 d c).1 g).testBit t then cfo g (nm1 d c).1 L false else cfo g (dSet (nm1 d c).1 g (ds (nm1 d c).1 g ||| 2 ^ t)) L true
def rfo : Dat → List Nat → Nat → Option (Dat × Nat)
  | d, [], s => some (d, s)
  | d, c :: L, s => match (nm1 d c).2 with
    | none => none
    | some t => rfo (nm1 d c).1 L (s ||| 2 ^ t)
theorem cfo_f (g : Nat) : ∀ (L : List Nat) (d : Dat), (cfo g d L false).2 = false
  | [], _ => rfl
  | c :: L, d => cfo_f g L _
theorem fnd_t {d : Dat} {c : Nat} (h : fnd d c < dt d) : dn d (fnd d c) = c := by
  have := fst_t (P := fun k => decide (dn d k = c)) h
  exact of_decide_eq_true this
theorem fnd_n {d : Dat} {c : Nat} (h : ¬ fnd d c < dt d) : ∀ t, t < dt d → dn d t ≠ c := fun t ht e => by
  have e2 : fnd d c = dt d := by have := fst_le (fun k => decide (dn d k = c)) (dt d); unfold fnd at *; omega
  have h3 := fst_f (P := fun k => decide (dn d k = c)) (n := dt d) (i := t) (by unfold fnd at e2; omega)
  rw [decide_eq_false_iff_not] at h3
  exact h3 e
/-- a valid site: names are names -/
def VN (d : Dat) : Prop := VD d ∧ NZ d
theorem nm1_v {d : Dat} (v : VN d) {c : Nat} (hc : 0 < c ∧ c < 387420489) : VN (nm1 d c).1 ∧ dg (nm1 d c).1 = dg d ∧ dt d ≤ dt (nm1 d c).1 ∧ (∀ t, t < dt d → dn (nm1 d c).1 t = dn d t) ∧ ds (nm1 d c).1 = ds d ∧ da (nm1 d c).1 = da d ∧ ∀ t, (nm1 d c).2 = some t → t < dt (nm1 d c).1 ∧ dn (nm1 d c).1 t = c ∧ (t < dt d ∨ (t = dt d ∧ ∀ i, i < dt d → dn d i ≠ c)) := by
  unfold nm1
  by_cases h : fnd d c < dt d
  · rw [if_pos h]
    exact ⟨v, rfl, Nat.le_refl _, fun _ _ => rfl, rfl, rfl, fun t ht => by cases ht; exact ⟨h, fnd_t h, Or.inl h⟩⟩
  · rw [if_neg h]
    by_cases h8 : dt d < 8
    · rw [if_pos h8]
      have hv : VD (dNew d c) := v.1.new h8 hc.2 h
      refine ⟨⟨hv, fun t ht => ?_⟩, rfl, Nat.le_succ _, fun t ht => ?_, rfl, rfl, fun t ht => ?_⟩
      · have ht : t < dt d + 1 := ht
        show 0 < (if t = dt d then c else dn d t)
        split
        · exact hc.1
        · exact v.2 t (by omega)
      · show (if t = dt d then c else dn d t) = dn d t
        rw [if_neg (by omega)]
      · cases ht
        exact ⟨Nat.lt_succ_self _, if_pos rfl, Or.inr ⟨rfl, fnd_n h⟩⟩
    · rw [if_neg h8]
      exact ⟨v, rfl, Nat.le_refl _, fun _ _ => rfl, rfl, rfl, fun t ht => by cases ht⟩
theorem nm1_add {d : Dat} {a s c : Nat} : nm1 (dAdd d a s) c = (dAdd (nm1 d c).1 a s, (nm1 d c).2) := by
  unfold nm1
  show (if fnd d c < dt d then _ else if dt d < 8 then _ else _) = _
  by_cases h : fnd d c < dt d
  · rw [if_pos h, if_pos h]
    rfl
  · rw [if_neg h, if_neg h]
    by_cases h8 : dt d < 8
    · rw [if_pos h8, if_pos h8]
      rfl
    · rw [if_neg h8, if_neg h8]
theorem dSet_add {d : Dat} {a s s' : Nat} : dSet (dAdd d a s) (dg d) s' = dAdd d a s' := by
  unfold dSet dAdd
  show (_, _, _, (fun i => if i = dg d then s' else if i = dg d then s else ds d i), _) = (_, _, _, (fun i => if i = dg d then s' else ds d i), _)
  have : (fun i => if i = dg d then s' else if i = dg d then s else ds d i) = fun i => if i = dg d then s' else ds d i := by
    funext i
    by_cases e : i = dg d
    · rw [if_pos e, if_pos e]
    · rw [if_neg e, if_neg e, if_neg e]
  rw [this]
  rfl
theorem VN.set {d : Dat} (v : VN d) {i s : Nat} (hs : s < 2 ^ dt d) : VN (dSet d i s) := ⟨v.1.set hs, v.2⟩
theorem VN.add {d : Dat} (v : VN d) {a s : Nat} (hg : dg d < 7) (ha : a ≤ 999) (hs : s < 2 ^ dt d) : VN (dAdd d a s) := ⟨v.1.add hg ha hs, v.2⟩
theorem rfo_v : ∀ (L : List Nat) {d d' : Dat} {s s' : Nat}, VN d → WO L → s < 2 ^ dt d → rfo d L s = some (d', s') → VN d' ∧ dg d' = dg d ∧ s' < 2 ^ dt d' ∧ (∀ t, t < dt d' → (∃ i, i < dt d ∧ dn d i = dn d' t) ∨ dn d' t ∈ L) ∧ ds d' = ds d ∧ da d' = da d
  | [], d, d', s, s', v, _, hs, h => by
    cases h
    exact ⟨v, rfl, hs, fun t ht => Or.inl ⟨t, ht, rfl⟩, rfl, rfl⟩
  | c :: L, d, d', s, s', v, hw, hs, h => by
    obtain ⟨n1, n2, n3, n4, n5, n6, n7⟩ := nm1_v v (hw c (by simp))
    unfold rfo at h
    cases e : (nm1 d c).2 with
    | none => rw [e] at h; cases h
    | some t =>
      rw [e] at h
      obtain ⟨t1, t2, t3⟩ := n7 t e
      have hp : 2 ^ dt d ≤ 2 ^ dt (nm1 d c).1 := Nat.pow_le_pow_right (by omega) n3
      have hs2 : s ||| 2 ^ t < 2 ^ dt (nm1 d c).1 := Nat.or_lt_two_pow (by omega) (Nat.pow_lt_pow_right (by omega) t1)
      obtain ⟨r1, r2, r3, r4, r5, r6⟩ := rfo_v L n1 (fun x hx => hw x (List.mem_cons_of_mem c hx)) hs2 h
      refine ⟨r1, by rw [r2, n2], r3, fun k hk => ?_, by rw [r5, n5], by rw [r6, n6]⟩
      rcases r4 k hk with ⟨i, i1, i2⟩ | q
      · by_cases hi : i < dt d
        · exact Or.inl ⟨i, hi, by rw [← i2, n4 i hi]⟩
        · right
          rcases t3 with t3 | ⟨t3, _⟩
          · exfalso
            unfold nm1 at i1 e
            by_cases h : fnd d c < dt d
            · rw [if_pos h] at i1; exact hi i1
            · rw [if_neg h] at e
              by_cases h8 : dt d < 8
              · rw [if_pos h8] at e; cases e; omega
              · rw [if_neg h8] at e; cases e
          · have : dt (nm1 d c).1 ≤ dt d + 1 := by
              unfold nm1
              split
              · exact Nat.le_succ _
              · split
                · exact Nat.le_refl _
                · exact Nat.le_succ _
            have hit : i = t := by omega
            rw [← i2, hit, t2]
            simp
      · exact Or.inr (List.mem_cons_of_mem c q)
/-- the class's fold and the reference's agree -/
theorem cfo_rfo {a : Nat} : ∀ (L D : List Nat) (d : Dat) (s : Nat), VN d → WO L → s < 2 ^ dt d → (∀ t, t < dt d → (s.testBit t = true ↔ dn d t ∈ D)) → (∀ x ∈ D, ∃ t, t < dt d ∧ dn d t = x) → ((L.Nodup ∧ ∀ x ∈ L, x ∉ D) → match rfo d L s with | some r => cfo (dg d) (dAdd d a s) L true = (dAdd r.1 a r.2, true) | none => (cfo (dg d) (dAdd d a s) L true).2 = false) ∧ (¬ (L.Nodup ∧ ∀ x ∈ L, x ∉ D) → (cfo (dg d) (dAdd d a s) L true).2 = false)
  | [], D, d, s, v, _, hs, h1, h2 => ⟨fun _ => rfl, fun q => absurd ⟨List.nodup_nil, fun x hx => by cases hx⟩ q⟩
  | c :: L, D, d, s, v, hw, hs, h1, h2 => by
    obtain ⟨n1, n2, n3, n4, n5, n6, n7⟩ := nm1_v v (hw c (by simp))
    have hw2 : WO L := fun x hx => hw x (List.mem_cons_of_mem c hx)
    have hds : ds (dAdd (nm1 d c).1 a s) (dg d) = s := by
      show (if dg d = dg (nm1 d c).1 then s else _) = s
      rw [n2, if_pos rfl]
    have hcfo : cfo (dg d) (dAdd d a s) (c :: L) true = match (nm1 d c).2 with | none => cfo (dg d) (dAdd (nm1 d c).1 a s) L false | some t => if s.testBit t then cfo (dg d) (dAdd (nm1 d c).1 a s) L false else cfo (dg d) (dAdd (nm1 d c).1 a (s ||| 2 ^ t)) L true := by
      conv => lhs; unfold cfo
      rw [nm1_add]
      dsimp only
      cases (nm1 d c).2 with
      | none => rfl
      | some t =>
        dsimp only
        rw [hds]
        have : dSet (dAdd (nm1 d c).1 a s) (dg d) (s ||| 2 ^ t) = dAdd (nm1 d c).1 a (s ||| 2 ^ t) := by
          rw [← n2]
          exact dSet_add
        rw [this]
    have hrfo : rfo d (c :: L) s = match (nm1 d c).2 with | none => none | some t => rfo (nm1 d c).1 L (s ||| 2 ^ t) := rfl
    rw [hcfo, hrfo]
    cases e : (nm1 d c).2 with
    | none =>
      dsimp only
      exact ⟨fun _ => cfo_f _ _ _, fun _ => cfo_f _ _ _⟩
    | some t =>
      obtain ⟨t1, t2, t3⟩ := n7 t e
      dsimp only
      have hbit : s.testBit t = true ↔ c ∈ D := by
        rcases t3 with t3 | ⟨t3, t4⟩
        · rw [h1 t t3, ← n4 t t3, t2]
        · subst t3
          constructor
          · intro q
            rw [bit_hi hs (Nat.le_refl _)] at q
            cases q
          · intro q
            obtain ⟨i, i1, i2⟩ := h2 c q
            exact absurd i2 (t4 i i1)
      by_cases hcD : c ∈ D
      · rw [if_pos (hbit.mpr hcD)]
        refine ⟨fun q => absurd hcD (q.2 c (by simp)), fun _ => cfo_f _ _ _⟩
      · rw [if_neg (fun q => hcD (hbit.mp q))]
        have hp : 2 ^ dt d ≤ 2 ^ dt (nm1 d c).1 := Nat.pow_le_pow_right (by omega) n3
        have hs2 : s ||| 2 ^ t < 2 ^ dt (nm1 d c).1 := Nat.or_lt_two_pow (by omega) (Nat.pow_lt_pow_right (by omega) t1)
        have ih := cfo_rfo (a := a) L (c :: D) (nm1 d c).1 (s ||| 2 ^ t) n1 hw2 hs2 (fun i hi => by
          rw [bt_or, Bool.or_eq_true, List.mem_cons]
          by_cases hit : t = i
          · subst hit
            rw [t2]
            simp
          · have hne : dn (nm1 d c).1 i ≠ c := fun q => hit (n1.1.2.2.2.2.2 t i t1 hi (by rw [t2, q]))
            have hid : i < dt d := by
              rcases t3 with t3 | ⟨t3, _⟩
              · unfold nm1 at hi e
                by_cases h : fnd d c < dt d
                · rw [if_pos h] at hi; exact hi
                · rw [if_neg h] at e
                  by_cases h8 : dt d < 8
                  · rw [if_pos h8] at e; cases e; omega
                  · rw [if_neg h8] at e; cases e
              · have : dt (nm1 d c).1 ≤ dt d + 1 := by
                  unfold nm1
                  split
                  · exact Nat.le_succ _
                  · split
                    · exact Nat.le_refl _
                    · exact Nat.le_succ _
                omega
            rw [h1 i hid, n4 i hid]
            rw [n4 i hid] at hne
            simp [hit, hne]) (fun x hx => by
          rcases List.mem_cons.mp hx with rfl | hx
          · exact ⟨t, t1, t2⟩
          · obtain ⟨i, i1, i2⟩ := h2 x hx
            exact ⟨i, by omega, by rw [n4 i i1]; exact i2⟩)
        rw [n2] at ih
        have hiff : (L.Nodup ∧ ∀ x ∈ L, x ∉ c :: D) ↔ ((c :: L).Nodup ∧ ∀ x ∈ c :: L, x ∉ D) := by
          rw [List.nodup_cons]
          constructor
          · rintro ⟨q1, q2⟩
            refine ⟨⟨fun q => q2 c q (by simp), q1⟩, fun x hx => ?_⟩
            rcases List.mem_cons.mp hx with rfl | hx
            · exact hcD
            · exact fun q => q2 x hx (List.mem_cons_of_mem c q)
          · rintro ⟨⟨q0, q1⟩, q2⟩
            refine ⟨q1, fun x hx q => ?_⟩
            rcases List.mem_cons.mp q with rfl | q
            · exact q0 hx
            · exact q2 x (List.mem_cons_of_mem c hx) q
        rw [← hiff]
        exact ih
abbrev St : Type := Bool × Nat × Nat × Nat × List Nat
/-- the class does it -/
def cAp (d : Dat) (r : St) : Dat × Bool := if r.2.2.1 = 0 then (if dg d < 7 then cfo (dg d) (dAdd d r.2.2.2.1 0) r.2.2.2.2 true else cfo 0 d r.2.2.2.2 false) else ((if r.2.2.2.1 < dg d then (match (nm1 d (r.2.2.2.2.getD 0 0)).2 with | some t => (dSet (nm1 d (r.2.2.2.2.getD 0 0)).1 r.2.2.2.1 (sp_mark (ds (nm1 d (r.2.2.2.2.getD 0 0)).1 r.2.2.2.1) t (decide (r.2.2.1 = 1))), true) | none => ((nm1 d (r.2.2.2.2.getD 0 0)).1, false)) else ((nm1 d (r.2.2.2.2.getD 0 0)).1, false)))
/-- the reference does it -/
def rAp (d : Dat) (r : St) : Option Dat := if r.2.2.1 = 0 then (if dg d < 7 then (if r.2.2.2.2.Nodup then (match rfo d r.2.2.2.2 0 with | some x => some (dAdd x.1 r.2.2.2.1 x.2) | none => none) else none) else none) else (if r.2.2.2.1 < dg d then (match rfo d r.2.2.2.2 0 with | some x => some (dSet x.1 r.2.2.2.1 (if r.2.2.1 = 1 then ds x.1 r.2.2.2.1 ||| x.2 else nd (ds x.1 r.2.2.2.1) x.2)) | none => none) else none)
theorem ap_eq {d : Dat} (v : VN d) {r : St} (hw : WO r.2.2.2.2) (h1 : r.2.2.1 ≠ 0 → ∃ c, r.2.2.2.2 = [c]) : (match rAp d r with | some d' => cAp d r = (d', true) | none => (cAp d r).2 = false) := by
  unfold rAp cAp
  by_cases hv : r.2.2.1 = 0
  · rw [if_pos hv, if_pos hv]
    by_cases hg : dg d < 7
    · rw [if_pos hg, if_pos hg]
      have key := cfo_rfo (a := r.2.2.2.1) r.2.2.2.2 [] d 0 v hw (Nat.two_pow_pos _) (fun t ht => by simp) (fun x hx => by cases hx)
      by_cases hn : r.2.2.2.2.Nodup
      · rw [if_pos hn]
        have := key.1 ⟨hn, fun x _ q => by cases q⟩
        cases e : rfo d r.2.2.2.2 0 with
        | none => rw [e] at this; exact this
        | some x => rw [e] at this; exact this
      · rw [if_neg hn]
        exact key.2 (fun q => hn q.1)
    · rw [if_neg hg, if_neg hg]
      exact cfo_f _ _ _
  · rw [if_neg hv, if_neg hv]
    obtain ⟨c, hc⟩ := h1 hv
    rw [hc]
    show match (if r.2.2.2.1 < dg d then (match (match (nm1 d c).2 with | none => none | some t => some ((nm1 d c).1, 0 ||| 2 ^ t)) with | some x => some (dSet x.1 r.2.2.2.1 (if r.2.2.1 = 1 then ds x.1 r.2.2.2.1 ||| x.2 else nd (ds x.1 r.2.2.2.1) x.2)) | none => none) else none) with | some d' => _ | none => _
    by_cases hg : r.2.2.2.1 < dg d
    · rw [if_pos hg, if_pos hg]
      show match (match (match (nm1 d c).2 with | none => none | some t => some ((nm1 d c).1, 0 ||| 2 ^ t)) with | some x => some (dSet x.1 r.2.2.2.1 (if r.2.2.1 = 1 then ds x.1 r.2.2.2.1 ||| x.2 else nd (ds x.1 r.2.2.2.1) x.2)) | none => none) with | some d' => (match (nm1 d c).2 with | some t => (dSet (nm1 d c).1 r.2.2.2.1 (sp_mark (ds (nm1 d c).1 r.2.2.2.1) t (decide (r.2.2.1 = 1))), true) | none => ((nm1 d c).1, false)) = (d', true) | none => (match (nm1 d c).2 with | some t => (dSet (nm1 d c).1 r.2.2.2.1 (sp_mark (ds (nm1 d c).1 r.2.2.2.1) t (decide (r.2.2.1 = 1))), true) | none => ((nm1 d c).1, false)).2 = false
      cases (nm1 d c).2 with
      | none => rfl
      | some t =>
        dsimp only
        rw [Nat.zero_or]
        unfold sp_mark
        by_cases q : r.2.2.1 = 1
        · rw [if_pos q, decide_eq_true q, if_pos rfl]
        · rw [if_neg q, decide_eq_false q, if_neg (by decide)]
    · rw [if_neg hg, if_neg hg]
theorem rAp_v {d d' : Dat} (v : VN d) {r : St} (hw : WO r.2.2.2.2) (ha : r.2.2.2.1 ≤ 999) (h : rAp d r = some d') : VN d' ∧ ∀ t, t < dt d' → (∃ i, i < dt d ∧ dn d i = dn d' t) ∨ dn d' t ∈ r.2.2.2.2 := by
  unfold rAp at h
  by_cases hv : r.2.2.1 = 0
  · rw [if_pos hv] at h
    by_cases hg : dg d < 7
    · rw [if_pos hg] at h
      by_cases hn : r.2.2.2.2.Nodup
      · rw [if_pos hn] at h
        cases e : rfo d r.2.2.2.2 0 with
        | none => rw [e] at h; cases h
        | some x =>
          rw [e] at h
          cases h
          obtain ⟨r1, r2, r3, r4, _⟩ := rfo_v _ v hw (Nat.two_pow_pos _) e
          exact ⟨r1.add (by omega) ha r3, r4⟩
      · rw [if_neg hn] at h; cases h
    · rw [if_neg hg] at h; cases h
  · rw [if_neg hv] at h
    by_cases hg : r.2.2.2.1 < dg d
    · rw [if_pos hg] at h
      cases e : rfo d r.2.2.2.2 0 with
      | none => rw [e] at h; cases h
      | some x =>
        rw [e] at h
        cases h
        obtain ⟨r1, r2, r3, r4, _⟩ := rfo_v _ v hw (Nat.two_pow_pos _) e
        refine ⟨r1.set ?_, r4⟩
        have hsx := r1.1.2.2.2.1 r.2.2.2.1 (by omega)
        split
        · exact Nat.or_lt_two_pow hsx r3
        · exact nd_lt hsx
    · rw [if_neg hg] at h; cases h
theorem cfo_v {g : Nat} : ∀ (L : List Nat) (d : Dat) (ab : Bool), VN d → WO L → (ab = true → g < dg d) → VN (cfo g d L ab).1
  | [], d, ab, v, _, _ => v
  | c :: L, d, false, v, hw, hg => by
    obtain ⟨n1, _⟩ := nm1_v v (hw c (by simp))
    exact cfo_v L _ false n1 (fun x hx => hw x (List.mem_cons_of_mem c hx)) (fun q => by cases q)
  | c :: L, d, true, v, hw, hg => by
    obtain ⟨n1, n2, n3, n4, n5, n6, n7⟩ := nm1_v v (hw c (by simp))
    have hw2 : WO L := fun x hx => hw x (List.mem_cons_of_mem c hx)
    have hg2 : g < dg (nm1 d c).1 := by rw [n2]; exact hg rfl
    show VN (match (nm1 d c).2 with | none => cfo g (nm1 d c).1 L false | some t => if (ds (nm1 d c).1 g).testBit t then cfo g (nm1 d c).1 L false else cfo g (dSet (nm1 d c).1 g (ds (nm1 d c).1 g ||| 2 ^ t)) L true).1
    cases e : (nm1 d c).2 with
    | none => exact cfo_v L _ false n1 hw2 (fun q => by cases q)
    | some t =>
      obtain ⟨t1, _⟩ := n7 t e
      dsimp only
      split
      · exact cfo_v L _ false n1 hw2 (fun q => by cases q)
      · refine cfo_v L _ true (n1.set ?_) hw2 (fun _ => hg2)
        exact Nat.or_lt_two_pow (n1.1.2.2.2.1 g hg2) (Nat.pow_lt_pow_right (by omega) t1)
