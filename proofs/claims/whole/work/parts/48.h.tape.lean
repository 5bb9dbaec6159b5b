/-! the tape: the calls alike -/
theorem RelD.tp {k k' : Nat} {z w z' w' : gS} {d : Dat} {n n' : Nat} {by_ by' : Nat → Nat} {E : List Nat} (h : RelD k z w d n by_ E) (hk : 2 * E.length + n' ≤ k') (hz : ∀ p j, (p < 9 ∨ (13 ≤ p ∧ p ≤ 17) ∨ (p = 20 ∧ j = 0) ∨ (283 ≤ p ∧ p ≠ 290 ∧ p ≠ 291 ∧ p ≠ 296)) → z' p j = z p j) (hw : ∀ p j, ((p = 0 ∧ 33 ≤ j) ∨ 13 ≤ p) → w' p j = w p j) (hm : SM w' d) (ht : TPR z' w' n' by') : RelD k' z' w' d n' by' E := by
  have zr : ∀ p, p < 9 ∨ (13 ≤ p ∧ p ≤ 17) ∨ (283 ≤ p ∧ p ≠ 290 ∧ p ≠ 291 ∧ p ≠ 296) → z' p = z p := fun p hp => by funext j; exact hz p j (by omega)
  have r0 := zr 0 (by omega)
  obtain ⟨a1, a2, a3, a4, a5, a6, a7, a8, a9, a10, a11⟩ := h
  refine ⟨a1, a2.fr (zr _ (by omega)) (zr _ (by omega)) (zr _ (by omega)) (zr _ (by omega)), hm, a4, a5, hk, a7.fr (fun j _ => by rw [r0]) (fun p h1 h2 => zr p (by omega)) (fun p h1 => zr p (by omega)) (fun j hj => hw 0 j (by omega)) (fun p hp => by funext j; exact hw p j (by omega)) (fun _ q => q), ht, a9.fr (by rw [r0]) (hz 20 0 (by omega)) (fun p h1 h2 => zr p (by omega)), ?_, a11.fr (by rw [r0]) (zr 292 (by omega)) (zr 293 (by omega))⟩
  exact a10.fr (by rw [r0]) (fun p h1 h2 => zr p (by omega))
