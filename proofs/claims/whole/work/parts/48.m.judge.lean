/-! judge: the calls alike -/
theorem pO_full {n : Nat} (hn : n < 9) : ∀ (i : Nat) (l acc : List Nat) (sn : Nat), l.length = i → l.Nodup → (∀ x ∈ l, x < n ∧ sn.testBit x = false) → pO n i (dig 0 l) sn acc = some (l ++ acc)
  | 0, l, acc, sn, hl, _, _ => by
    have : l = [] := List.length_eq_zero_iff.mp hl
    subst this
    rfl
  | i + 1, l, acc, sn, hl, hnd, hm => by
    have hne : l ≠ [] := fun e => by rw [e] at hl; cases hl
    obtain ⟨l', x, rfl⟩ : ∃ l' x, l = l' ++ [x] := ⟨l.dropLast, l.getLast hne, (List.dropLast_concat_getLast hne).symm⟩
    have hx := hm x (by simp)
    have hnd' := List.nodup_append.mp hnd
    have e1 : dig 0 (l' ++ [x]) % 10 = x + 1 := by rw [dig_a]; omega
    have e2 : dig 0 (l' ++ [x]) / 10 = dig 0 l' := by rw [dig_a]; omega
    unfold pO
    rw [e1, e2, if_neg (by
      rw [show x + 1 - 1 = x by omega, hx.2]
      simp
      omega), show x + 1 - 1 = x by omega]
    rw [pO_full hn i l' (x :: acc) _ (by simpa using hl) hnd'.1 (fun y hy => ⟨(hm y (by simp [hy])).1, by
      rw [bt_or, (hm y (by simp [hy])).2]
      have : y ≠ x := hnd'.2.2 y hy x (by simp)
      simp
      omega⟩)]
    simp
theorem pX_full {d : Dat} (v : VD d) {l : List Nat} (hl : l ∈ oT (2 ^ dg d - 1)) : pX d (nI (dig 0 l)) = some l := by
  have v1 := v.1
  have ho := OT.full (g := dg d) (by omega)
  obtain ⟨o1, o2⟩ := ho.2.2.2.2.2 l hl
  have h8 := dig_8 o2
  unfold pX
  rw [if_neg (q_lt0 (by omega)), nI_clamp (by omega)]
  have := pO_full (n := dg d) (by omega) (dg d) l [] 0 o1 (oT_nd _ _ _ hl).1 (fun x hx => ⟨in_lt v (fullG_lt v) hl x hx, Nat.zero_testBit x⟩)
  rw [this, List.append_nil]
/-- what a place of a list must hold -/
def jg (d : Dat) (x : Int32) (i m : Nat) : Bool := match pX d x with
  | none => false
  | some l => if m = 0 then true else if m = 1 then decide (gpS d (fullT d) l = 0) else (decide (gpS d (fullT d) l = 0) && decide ((gG d).countP (fun l' => decide (dig 0 l' < dig 0 l)) = i))
theorem jg_2 {d : Dat} (v : VN d) (x : Int32) (i : Nat) : jg d x i 2 = decide (i < (gG d).length ∧ nI (dig 0 ((gG d).getD i [])) = x) := by
  have v1 := v.1.1
  have srt := gls_srt (d := d) (all := fullG d) (ty := fullT d)
  have key : jg d x i 2 = true ↔ (i < (gG d).length ∧ nI (dig 0 ((gG d).getD i [])) = x) := by
    constructor
    · intro h
      unfold jg at h
      cases e : pX d x with
      | none => rw [e] at h; cases h
      | some l =>
        rw [e] at h
        obtain ⟨hl, rfl⟩ := pX_ok v.1 e
        simp only [show ¬ (2 : Nat) = 0 by decide, show ¬ (2 : Nat) = 1 by decide, if_false, Bool.and_eq_true, decide_eq_true_eq] at h
        have hin : l ∈ gG d := List.mem_filter.mpr ⟨hl, by simpa using h.1⟩
        obtain ⟨j, hj, ej⟩ := List.mem_iff_getElem.mp hin
        have ejd : (gG d).getD j [] = l := by rw [List.getD_eq_getElem?_getD, List.getElem?_eq_getElem hj]; exact ej
        have c1 := srt_cnt srt (dig 0 l) j hj
        have hji : j = i := by
          have n1 : ¬ j < (gG d).countP (fun l' => decide (dig 0 l' < dig 0 l)) := fun q => by
            have := c1.mpr q
            have e3 : (gls d (fullT d) (oT (fullG d))).getD j [] = l := ejd
            rw [e3] at this
            omega
          have n2 : ¬ i < j := fun q => by
            have c2 := srt_cnt srt (dig 0 l) i (show i < (gG d).length by omega)
            have p := List.pairwise_iff_getElem.mp srt i j (show i < (gG d).length by omega) hj q
            have e4 : (gls d (fullT d) (oT (fullG d))).getD i [] = (gls d (fullT d) (oT (fullG d)))[i]'(show i < (gG d).length by omega) := by rw [List.getD_eq_getElem?_getD, List.getElem?_eq_getElem (show i < (gls d (fullT d) (oT (fullG d))).length from (show i < (gG d).length by omega))]; rfl
            have e5 : (gls d (fullT d) (oT (fullG d)))[j]'hj = l := ej
            rw [e5] at p
            rw [e4] at c2
            have := c2.mp p
            have e6 : (gls d (fullT d) (oT (fullG d))).countP (fun l' => decide (dig 0 l' < dig 0 l)) = i := h.2
            omega
          have e6 := h.2
          omega
        subst hji
        exact ⟨hj, by rw [ejd]⟩
    · rintro ⟨hi, rfl⟩
      have hin : (gG d).getD i [] ∈ gG d := gls_d hi
      have hl : (gG d).getD i [] ∈ oT (fullG d) := gls_in hin
      have h0 := (List.mem_filter.mp hin).2
      unfold jg
      rw [pX_full v.1 hl]
      simp only [show ¬ (2 : Nat) = 0 by decide, show ¬ (2 : Nat) = 1 by decide, if_false, Bool.and_eq_true, decide_eq_true_eq]
      refine ⟨by simpa using h0, ?_⟩
      have c1 := srt_cnt srt (dig 0 ((gG d).getD i []))
      have n1 := c1 i hi
      have e7 : (gls d (fullT d) (oT (fullG d))).getD i [] = (gG d).getD i [] := rfl
      rw [e7] at n1
      have hle : (gls d (fullT d) (oT (fullG d))).countP (fun l => decide (dig 0 l < dig 0 ((gG d).getD i []))) ≤ i := by
        have : ¬ i < (gls d (fullT d) (oT (fullG d))).countP (fun l => decide (dig 0 l < dig 0 ((gG d).getD i []))) := fun q => by have := n1.mpr q; omega
        omega
      refine Nat.le_antisymm hle ?_
      cases i with
      | zero => exact Nat.zero_le _
      | succ j =>
        have c2 := (c1 j (show j < (gG d).length by omega)).mp ?_
        · exact c2
        · have p := List.pairwise_iff_getElem.mp srt j (j + 1) (show j < (gG d).length by omega) hi (by omega)
          rw [List.getD_eq_getElem?_getD, List.getElem?_eq_getElem (show j < (gls d (fullT d) (oT (fullG d))).length from (show j < (gG d).length by omega)), List.getD_eq_getElem?_getD, List.getElem?_eq_getElem hi]
          exact p
  by_cases c : i < (gG d).length ∧ nI (dig 0 ((gG d).getD i [])) = x
  · rw [key.mpr c, decide_eq_true c]
  · rw [decide_eq_false c]
    cases e : jg d x i 2 with
    | false => rfl
    | true => exact absurd (key.mp e) c
