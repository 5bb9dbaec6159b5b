/-! numbers: everything that both programs hold is nI of a small number -/
theorem q_and (a b : Nat) : nI a &&& nI b = nI (a &&& b) := by
  apply Int32.toBitVec_inj.mp
  simp [nI]
theorem q_or (a b : Nat) : nI a ||| nI b = nI (a ||| b) := by
  apply Int32.toBitVec_inj.mp
  simp [nI]
theorem q_xor (a b : Nat) : nI a ^^^ nI b = nI (a ^^^ b) := by
  apply Int32.toBitVec_inj.mp
  simp [nI]
/-- those of a that b has not -/
def nd (a b : Nat) : Nat := a ^^^ (a &&& b)
theorem nd_bit (a b i : Nat) : (nd a b).testBit i = (a.testBit i && !b.testBit i) := by
  unfold nd
  rw [Nat.testBit_xor, Nat.testBit_and]
  cases a.testBit i <;> cases b.testBit i <;> rfl
theorem nd_le (a b : Nat) : nd a b ≤ a := by
  have h : nd a b &&& a = nd a b := by
    apply Nat.eq_of_testBit_eq
    intro i
    rw [Nat.testBit_and, nd_bit]
    cases a.testBit i <;> cases b.testBit i <;> rfl
  rw [← h]
  exact Nat.and_le_right
theorem nd_lt {a b c : Nat} (h : a < c) : nd a b < c := Nat.lt_of_le_of_lt (nd_le a b) h
theorem q_ndx (x y : Int32) : x &&& (y ^^^ gm1) = x ^^^ (x &&& y) := by
  apply Int32.toBitVec_inj.mp
  have e : gm1.toBitVec = BitVec.allOnes 32 := by decide
  simp only [Int32.toBitVec_and, Int32.toBitVec_xor, e]
  apply BitVec.eq_of_getLsbD_eq
  intro i hi
  simp only [BitVec.getLsbD_and, BitVec.getLsbD_xor, BitVec.getLsbD_allOnes, hi, decide_true]
  cases x.toBitVec.getLsbD i <;> cases y.toBitVec.getLsbD i <;> rfl
theorem q_nd (a b : Nat) : nI a &&& (nI b ^^^ gm1) = nI (nd a b) := by rw [q_ndx, q_and, q_xor]; rfl
theorem q_cnt : ∀ n, n < 32 → ((nI n &&& 31).toBitVec.smod 32).toNat = n := by decide +kernel
theorem q_sh1 {k : Nat} (h : k < 31) : nI 1 <<< (nI k &&& 31) = nI (2 ^ k) := by
  have := Nat.pow_lt_pow_right (a := 2) (by omega) (show k < 32 by omega)
  rw [pk_shlN (n := 1) _ k (q_cnt k (by omega)) (by omega), Nat.one_mul]
theorem q_shr {n k : Nat} (hn : n < 2 ^ 31) (h : k < 32) : nI n >>> (nI k &&& 31) = nI (n / 2 ^ k) := pk_shrN hn _ k (q_cnt k h)
theorem q_bit {n k : Nat} (hn : n < 2 ^ 31) (h : k < 32) : (nI n >>> (nI k &&& 31)) &&& nI 1 = nI (n.testBit k).toNat := by
  rw [q_shr hn h, q_and, ← Nat.shiftRight_eq_div_pow, Nat.and_one_is_mod]
  congr 1
  rw [Nat.testBit, Nat.one_and_eq_mod_two]
  rcases Nat.mod_two_eq_zero_or_one (n >>> k) with e | e <;> rw [e] <;> rfl
theorem q_eq0 {a : Nat} (h : a < 2 ^ 31) : nI a = 0 ↔ a = 0 := by rw [← nI_0, nI_eq h (by omega)]
theorem q_lt0 {a : Nat} (h : a < 2 ^ 31) : ¬ nI a < 0 := nI_pos h
theorem q_le0 {a : Nat} (h : a < 2 ^ 31) : nI a ≤ 0 ↔ a = 0 := by rw [← nI_0, nI_leI h (by omega)]; omega
theorem q_0le {a : Nat} (h : a < 2 ^ 31) : 0 ≤ nI a := nI_pos' h
theorem q_0lt {a : Nat} (h : a < 2 ^ 31) : 0 < nI a ↔ 0 < a := by rw [← nI_0, nI_ltI (by omega) h]
theorem q_gg {r : Type} {k n : Nat} {x : Option r} (h : k < n) (hn : n < 2 ^ 31) : gg (nI k) n x = x := if_neg (nI_in h hn)
theorem q_gm1 : gm1 < 0 := by decide
theorem q_b0 (b : Bool) : nI b.toNat = 0 ↔ b = false := by cases b <;> decide
theorem q_bz {r : Type} (b : Bool) {x : Option r} : gz (nI b.toNat) x = x := by cases b <;> rfl
theorem q_one {r : Type} {x : Option r} : gz (nI 1) x = x := rfl
theorem q_zero {r : Type} {x : Option r} : gz (nI 0) x = x := rfl
theorem q_pred {n : Nat} (h : 0 < n) : nI n + gm1 = nI (n - 1) := by
  obtain ⟨k, rfl⟩ : ∃ k, n = k + 1 := ⟨n - 1, by omega⟩
  exact pk_m1 k
theorem q_gF {a : Nat} (h : a < 100000) : a < gF := h
/-- from its head, a loop that counts up: what it holds at each turn is a function of the turn -/
theorem gfor {S r : Type} {b : (S → Option r) → S → Option r} (F : Nat → S) {e : Nat} {x : Option r} (h : ∀ (k : Nat) (rec : S → Option r), k < e → b rec (F k) = rec (F (k + 1))) (hx : ∀ rec : S → Option r, b rec (F e) = x) : ∀ n k, k ≤ e → e - k < n → gfix b n (F k) = x
  | 0, k, _, hn => by omega
  | n + 1, k, hk, hn => by
    show b (gfix b n) (F k) = x
    rcases Nat.lt_or_ge k e with q | q
    · rw [h k _ q]
      exact gfor F h hx n (k + 1) q (by omega)
    · have : k = e := by omega
      subst this
      exact hx _
theorem gfor0 {S r : Type} {b : (S → Option r) → S → Option r} (F : Nat → S) {e : Nat} {x : Option r} (he : e < 99999) (h : ∀ (k : Nat) (rec : S → Option r), k < e → b rec (F k) = rec (F (k + 1))) (hx : ∀ rec : S → Option r, b rec (F e) = x) : gfix b gF (F 0) = x := gfor F h hx gF 0 (Nat.zero_le _) (q_gF (by omega))
/-- an answer is there, and it is so -/
def Ok {r : Type} (o : Option r) (P : r → Prop) : Prop := ∃ x, o = some x ∧ P x
theorem Ok.i {r : Type} {x : r} {P : r → Prop} (h : P x) : Ok (some x) P := ⟨x, rfl, h⟩
theorem Ok.m {r : Type} {o : Option r} {P Q : r → Prop} (h : Ok o P) (hq : ∀ x, P x → Q x) : Ok o Q := by
  obtain ⟨x, h1, h2⟩ := h
  exact ⟨x, h1, hq x h2⟩
theorem Ok.b {a r : Type} {o : Option a} {k : a → Option r} {Q : r → Prop} {P : a → Prop} (h : Ok o P) (hk : ∀ x, P x → Ok (k x) Q) : Ok (gb o k) Q := by
  obtain ⟨x, rfl, h2⟩ := h
  exact hk x h2
theorem q_gb {a r : Type} {x : a} {k : a → Option r} : gb (some x) k = k x := rfl
theorem q_gl {a r : Type} {x : a} {k : a → Option r} : gl x k = k x := rfl
theorem gforI {S r : Type} {b : (S → Option r) → S → Option r} {P : r → Prop} (I : Nat → S → Prop) {e : Nat} (h : ∀ (k : Nat) (rec : S → Option r) (s : S), k < e → I k s → (∀ s', I (k + 1) s' → Ok (rec s') P) → Ok (b rec s) P) (hx : ∀ (rec : S → Option r) (s : S), I e s → Ok (b rec s) P) : ∀ n k s, k ≤ e → e - k < n → I k s → Ok (gfix b n s) P
  | 0, k, _, _, hn, _ => by omega
  | n + 1, k, s, hk, hn, hi => by
    show Ok (b (gfix b n) s) P
    rcases Nat.lt_or_ge k e with q | q
    · exact h k _ s q hi (fun s' hs' => gforI I h hx n (k + 1) s' q (by omega) hs')
    · have : k = e := by omega
      subst this
      exact hx _ s hi
theorem gforI0 {S r : Type} {b : (S → Option r) → S → Option r} {P : r → Prop} (I : Nat → S → Prop) {e : Nat} (he : e < 99999) {s : S} (h0 : I 0 s) (h : ∀ (k : Nat) (rec : S → Option r) (s : S), k < e → I k s → (∀ s', I (k + 1) s' → Ok (rec s') P) → Ok (b rec s) P) (hx : ∀ (rec : S → Option r) (s : S), I e s → Ok (b rec s) P) : Ok (gfix b gF s) P := gforI I h hx gF 0 s (Nat.zero_le _) (q_gF (by omega)) h0
/-- how many below k -/
def cntB (P : Nat → Bool) : Nat → Nat
  | 0 => 0
  | k + 1 => cntB P k + (P k).toNat
theorem cntB_le (P : Nat → Bool) : ∀ k, cntB P k ≤ k
  | 0 => Nat.le_refl _
  | k + 1 => by
    have := cntB_le P k
    show cntB P k + (P k).toNat ≤ k + 1
    cases P k <;> simp <;> omega
theorem cntB_congr {P Q : Nat → Bool} : ∀ {k : Nat}, (∀ i, i < k → P i = Q i) → cntB P k = cntB Q k
  | 0, _ => rfl
  | k + 1, h => by
    show cntB P k + (P k).toNat = cntB Q k + (Q k).toNat
    rw [cntB_congr (fun i hi => h i (by omega)), h k (by omega)]
/-- the set of those below k -/
def setB (P : Nat → Bool) : Nat → Nat
  | 0 => 0
  | k + 1 => if P k then setB P k ||| 2 ^ k else setB P k
theorem setB_bit (P : Nat → Bool) (k i : Nat) : (setB P k).testBit i = (decide (i < k) && P i) := by
  induction k with
  | zero => simp [setB]
  | succ k ih =>
    unfold setB
    split
    · rename_i h
      rw [Nat.testBit_or, ih, Nat.testBit_two_pow]
      by_cases e : k = i
      · subst e; simp [h]
      · by_cases q : i < k
        · simp [q, e, Nat.lt_succ_of_lt q]
        · simp [q, e, show ¬ i < k + 1 by omega]
    · rename_i h
      rw [ih]
      by_cases e : k = i
      · subst e; simp [h]
      · by_cases q : i < k
        · simp [q, Nat.lt_succ_of_lt q]
        · simp [q, show ¬ i < k + 1 by omega]
theorem setB_lt (P : Nat → Bool) (k : Nat) : setB P k < 2 ^ k := by
  apply Nat.lt_pow_two_of_testBit
  intro i hi
  rw [setB_bit]
  simp [show ¬ i < k by omega]
def pop (a : Nat) : Nat := cntB (fun i => a.testBit i) 8
theorem q_bc0 : ∀ a, a < 256 → f_J6_bitCount_0f7a4 (nI a) (fun _ _ => 0) = some (nI (pop a)) := by decide +kernel
theorem q_bc {a : Nat} (h : a < 256) (z : gS) : f_J6_bitCount_0f7a4 (nI a) z = some (nI (pop a)) := q_bc0 a h
/-- the lowest place -/
def low (a : Nat) : Nat := cntB (fun i => a % 2 ^ (i + 1) == 0) 8
theorem q_tz0 : ∀ a, a < 256 → 0 < a → f_J6_numberOfTrailingZeros_0f7a4 (nI a) (fun _ _ => 0) = some (nI (low a)) := by decide +kernel
theorem q_tz {a : Nat} (h : a < 256) (h0 : 0 < a) (z : gS) : f_J6_numberOfTrailingZeros_0f7a4 (nI a) z = some (nI (low a)) := q_tz0 a h h0
theorem q_bits0 : ∀ a, a < 256 → f_X11_bits (nI a) (fun _ _ => 0) = some (nI (pop a)) := by decide +kernel
theorem q_bits {a : Nat} (h : a < 256) (z : gS) : f_X11_bits (nI a) z = some (nI (pop a)) := q_bits0 a h
theorem pop_le (a : Nat) : pop a ≤ 8 := cntB_le _ _
theorem gup_s {z : gS} {k j : Nat} {v : Int32} : gup z k j v k j = v := by simp [gup]
theorem gup_n {z : gS} {k j a b : Nat} {v : Int32} (h : a ≠ k ∨ b ≠ j) : gup z k j v a b = z a b := by
  unfold gup
  rw [if_neg (by omega)]
/-! conditions over numbers, as equations -/
theorem q_ifle {r : Sort _} {a b : Nat} {x y : r} (ha : a < 2 ^ 31) (hb : b < 2 ^ 31) : (if nI a ≤ nI b then x else y) = if a ≤ b then x else y := by
  by_cases h : a ≤ b
  · rw [if_pos h, if_pos ((nI_leI ha hb).mpr h)]
  · rw [if_neg h, if_neg (fun q => h ((nI_leI ha hb).mp q))]
theorem q_iflt {r : Sort _} {a b : Nat} {x y : r} (ha : a < 2 ^ 31) (hb : b < 2 ^ 31) : (if nI a < nI b then x else y) = if a < b then x else y := by
  by_cases h : a < b
  · rw [if_pos h, if_pos ((nI_ltI ha hb).mpr h)]
  · rw [if_neg h, if_neg (fun q => h ((nI_ltI ha hb).mp q))]
theorem q_ifeq {r : Sort _} {a b : Nat} {x y : r} (ha : a < 2 ^ 31) (hb : b < 2 ^ 31) : (if nI a = nI b then x else y) = if a = b then x else y := by
  by_cases h : a = b
  · rw [if_pos h, if_pos ((nI_eq ha hb).mpr h)]
  · rw [if_neg h, if_neg (fun q => h ((nI_eq ha hb).mp q))]
theorem q_if0 {r : Sort _} {a : Nat} {x y : r} (ha : a < 2 ^ 31) : (if nI a = 0 then x else y) = if a = 0 then x else y := by
  by_cases h : a = 0
  · rw [if_pos h, if_pos ((q_eq0 ha).mpr h)]
  · rw [if_neg h, if_neg (fun q => h ((q_eq0 ha).mp q))]
theorem q_ifle0 {r : Sort _} {a : Nat} {x y : r} (ha : a < 2 ^ 31) : (if nI a ≤ 0 then x else y) = if a = 0 then x else y := by
  by_cases h : a = 0
  · rw [if_pos h, if_pos ((q_le0 ha).mpr h)]
  · rw [if_neg h, if_neg (fun q => h ((q_le0 ha).mp q))]
theorem q_if0lt {r : Sort _} {a : Nat} {x y : r} (ha : a < 2 ^ 31) : (if 0 < nI a then x else y) = if 0 < a then x else y := by
  by_cases h : 0 < a
  · rw [if_pos h, if_pos ((q_0lt ha).mpr h)]
  · rw [if_neg h, if_neg (fun q => h ((q_0lt ha).mp q))]
theorem q_iflt0 {r : Sort _} {a : Nat} {x y : r} (ha : a < 2 ^ 31) : (if nI a < 0 then x else y) = y := if_neg (q_lt0 ha)
theorem q_if0le {r : Sort _} {a : Nat} {x y : r} (ha : a < 2 ^ 31) : (if 0 ≤ nI a then x else y) = x := if_pos (q_0le ha)
theorem q_ifm {r : Sort _} {x y : r} : (if gm1 < 0 then x else y) = x := if_pos q_gm1
theorem q_ifm0 {r : Sort _} {x y : r} : (if gm1 = 0 then x else y) = y := if_neg (by decide)
theorem q_if1 {r : Sort _} {x y : r} : (if nI 1 = 0 then x else y) = y := if_neg (by decide)
theorem q_if00 {r : Sort _} {x y : r} : (if nI 0 = 0 then x else y) = x := if_pos (by decide)
theorem q_ifb {r : Sort _} {b : Bool} {x y : r} : (if nI b.toNat = 0 then x else y) = if b = true then y else x := by cases b <;> rfl
/-- the first below n with P; n, if there is none -/
def fstF (P : Nat → Bool) : Nat → Nat → Nat
  | 0, k => k
  | r + 1, k => if P k then k else fstF P r (k + 1)
def fst (P : Nat → Bool) (n : Nat) : Nat := fstF P n 0
theorem fstF_s (P : Nat → Bool) : ∀ r k, (k ≤ fstF P r k ∧ fstF P r k ≤ k + r) ∧ (∀ i, k ≤ i → i < fstF P r k → P i = false) ∧ (fstF P r k < k + r → P (fstF P r k) = true)
  | 0, k => ⟨⟨Nat.le_refl _, Nat.le_refl _⟩, fun i h1 h2 => by have h2 : i < k := h2; omega, fun h1 => by have h1 : k < k + 0 := h1; omega⟩
  | r + 1, k => by
    unfold fstF
    by_cases e : P k = true
    · rw [if_pos e]
      exact ⟨⟨Nat.le_refl _, by omega⟩, fun i h1 h2 => by omega, fun _ => e⟩
    · rw [if_neg e]
      obtain ⟨⟨h1, h2⟩, h3, h4⟩ := fstF_s P r (k + 1)
      refine ⟨⟨by omega, by omega⟩, fun i g1 g2 => ?_, fun g => h4 (by omega)⟩
      by_cases q : i = k
      · rw [q]; exact Bool.not_eq_true _ ▸ e
      · exact h3 i (by omega) g2
theorem fst_le (P : Nat → Bool) (n : Nat) : fst P n ≤ n := by have := (fstF_s P n 0).1.2; unfold fst; omega
theorem fst_f {P : Nat → Bool} {n i : Nat} (h : i < fst P n) : P i = false := (fstF_s P n 0).2.1 i (Nat.zero_le _) h
theorem fst_t {P : Nat → Bool} {n : Nat} (h : fst P n < n) : P (fst P n) = true := (fstF_s P n 0).2.2 (by unfold fst at h; omega)
