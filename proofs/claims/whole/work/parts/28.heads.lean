/-! all rows, one by one -/
def Kp (k j : Nat) : Prop := (k = 0 ∧ (j = 1 ∨ j = 2 ∨ j = 15 ∨ j = 16 ∨ 33 ≤ j)) ∨ k = 1 ∨ k = 2 ∨ k = 3 ∨ k = 8 ∨ 13 ≤ k
/-- what isn't scratch is as it was -/
def SE (w w' : gS) : Prop := ∀ k j, Kp k j → w' k j = w k j
theorem SE.rf {w : gS} : SE w w := fun _ _ _ => rfl
theorem SE.tr {w w1 w2 : gS} (h1 : SE w w1) (h2 : SE w1 w2) : SE w w2 := fun k j h => (h2 k j h).trans (h1 k j h)
theorem SE.up {w : gS} {k j : Nat} {v : Int32} (h : ¬ Kp k j) : SE w (gup w k j v) := fun a b hk => by
  by_cases e : a = k ∧ b = j
  · obtain ⟨rfl, rfl⟩ := e
    exact absurd hk h
  · exact gup_n (by omega)
theorem SE.r4 {w w' : gS} (h : ∀ a, a ≠ 4 → w' a = w a) : SE w w' := fun a b hk => by
  rw [h a (by unfold Kp at hk; omega)]
theorem SM.se {w w' : gS} {d : Dat} (h : SM w d) (e : SE w w') : SM w' d := by
  obtain ⟨h1, h2, h3, h4, h5⟩ := h
  refine ⟨?_, ?_, fun i hi => ?_, fun i hi => ?_, fun i hi => ?_⟩
  · rw [e 0 1 (by unfold Kp; omega)]; exact h1
  · rw [e 0 2 (by unfold Kp; omega)]; exact h2
  · rw [e 1 i (by unfold Kp; omega)]; exact h3 i hi
  · rw [e 2 i (by unfold Kp; omega)]; exact h4 i hi
  · rw [e 3 i (by unfold Kp; omega)]; exact h5 i hi
/-- all orders of a set -/
def oT (all : Nat) : List (List Nat) := plm (mfP all none none) (rm all 0) 0
theorem plm_congr {mf mf' : Nat → Nat → Bool} (h : ∀ b g, g < 7 → mf b g = mf' b g) : ∀ n b, plm mf n b = plm mf' n b
  | 0, b => rfl
  | n + 1, b => by
    rw [plm_s, plm_s]
    have : ∀ L : List Nat, (∀ x ∈ L, x < 7) → (L.flatMap fun g => if mf b g then (plm mf n (b ||| 2 ^ g)).map (fun l => g :: l) else []) = L.flatMap fun g => if mf' b g then (plm mf' n (b ||| 2 ^ g)).map (fun l => g :: l) else [] := fun L hL => by
      induction L with
      | nil => rfl
      | cons g L ih =>
        rw [List.flatMap_cons, List.flatMap_cons, ih (fun x hx => hL x (List.mem_cons_of_mem g hx)), h b g (hL g (by simp)), plm_congr h n]
    exact this _ (fun x hx => List.mem_range.mp hx)
theorem mfP_A {all b g : Nat} (hg : g < 7) : mfP all none none b g = mfA all b g := by
  unfold mfP mfA
  rw [decide_eq_true hg]
  simp
def mfQ (all b g : Nat) : Bool := all.testBit g && !b.testBit g
theorem rm_full : ∀ g, g < 8 → rm (2 ^ g - 1) 0 = g ∧ ∀ w, w < g → rm (nd (2 ^ g - 1) (2 ^ w)) 0 = g - 1 := by decide +kernel
theorem oT_full {g : Nat} (hg : g < 8) : oT (2 ^ g - 1) = plm (mfA (2 ^ g - 1)) g 0 := by
  unfold oT
  rw [(rm_full g hg).1]
  exact plm_congr (fun b x hx => mfP_A hx) g 0
theorem oT_less {g w : Nat} (hg : g < 8) (hw : w < g) : oT (nd (2 ^ g - 1) (2 ^ w)) = plm (mfA ((2 ^ g - 1) ^^^ ((2 ^ g - 1) &&& 2 ^ w))) (g - 1) 0 := by
  unfold oT
  rw [(rm_full g hg).2 w hw]
  exact plm_congr (fun b x hx => mfP_A hx) (g - 1) 0
theorem hd_full : ∀ g, g < 8 → (plm (mfA (2 ^ g - 1)) g 0).head? = some (List.range g) := by decide +kernel
theorem hd_less : ∀ g, g < 8 → ∀ w, w < g → (plm (mfA ((2 ^ g - 1) ^^^ ((2 ^ g - 1) &&& 2 ^ w))) (g - 1) 0).head? = some ((List.range g).filter (fun x => !decide (x = w))) := by decide +kernel
theorem ln_full : ∀ g, g < 8 → (plm (mfA (2 ^ g - 1)) g 0).length ≤ 5040 := by decide +kernel
theorem ln_less : ∀ g, g < 8 → ∀ w, w < g → (plm (mfA ((2 ^ g - 1) ^^^ ((2 ^ g - 1) &&& 2 ^ w))) (g - 1) 0).length ≤ 5040 := by decide +kernel
