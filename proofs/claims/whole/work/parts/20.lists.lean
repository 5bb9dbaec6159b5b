/-! lists of orders: costs, the least, how many, the best ones -/
theorem bt_or {b g i : Nat} : (b ||| 2 ^ g).testBit i = (b.testBit i || decide (g = i)) := by rw [Nat.testBit_or, Nat.testBit_two_pow]
theorem or_gt {b g : Nat} (h : b.testBit g = false) : b < b ||| 2 ^ g := by
  have h1 : b ≤ b ||| 2 ^ g := Nat.left_le_or
  have h2 : b ≠ b ||| 2 ^ g := fun e => by
    have : (b ||| 2 ^ g).testBit g = true := by simp [bt_or]
    rw [← e, h] at this
    cases this
  omega
theorem nd_0 {b a : Nat} : nd b a = 0 ↔ ∀ i, b.testBit i = true → a.testBit i = true := by
  constructor
  · intro h i hb
    have := nd_bit b a i
    rw [h, Nat.zero_testBit, hb] at this
    cases e : a.testBit i
    · rw [e] at this; cases this
    · rfl
  · intro h
    apply Nat.eq_of_testBit_eq
    intro i
    rw [nd_bit, Nat.zero_testBit]
    cases e : b.testBit i
    · rfl
    · rw [h i e]; rfl
theorem and_2p {a g : Nat} : a &&& 2 ^ g = if a.testBit g then 2 ^ g else 0 := by
  apply Nat.eq_of_testBit_eq
  intro i
  rw [Nat.testBit_and, Nat.testBit_two_pow]
  by_cases e : g = i
  · subst e
    cases h : a.testBit g <;> simp [Nat.testBit_two_pow]
  · simp only [e, decide_false, Bool.and_false]
    split
    · simp [Nat.testBit_two_pow, e]
    · simp
theorem cntB_1 {P Q : Nat → Bool} {g : Nat} (hp : P g = true) (hq : Q g = false) : ∀ n, g < n → (∀ i, i < n → i ≠ g → Q i = P i) → cntB Q n + 1 = cntB P n
  | 0, h, _ => by omega
  | n + 1, h, hh => by
    show cntB Q n + (Q n).toNat + 1 = cntB P n + (P n).toNat
    by_cases e : g = n
    · subst e
      rw [hp, hq, cntB_congr (fun i hi => hh i (by omega) (by omega))]
      rfl
    · rw [hh n (by omega) (by omega), ← cntB_1 hp hq n (by omega) (fun i hi => hh i (by omega))]
      omega
theorem cntB_0 {P : Nat → Bool} {n : Nat} (h : cntB P n = 0) : ∀ i, i < n → P i = false := by
  induction n with
  | zero => intro i hi; omega
  | succ n ih =>
    intro i hi
    have h : cntB P n + (P n).toNat = 0 := h
    by_cases e : i = n
    · subst e
      cases e2 : P i
      · rfl
      · rw [e2] at h; simp at h
    · exact ih (by omega) i (by omega)
/-- how many are still wanting -/
def rm (all b : Nat) : Nat := cntB (fun g => all.testBit g && !b.testBit g) 7
theorem rm_le (all b : Nat) : rm all b ≤ 7 := cntB_le _ _
theorem rm_s {all b g : Nat} (h1 : all.testBit g = true) (h2 : b.testBit g = false) (h3 : g < 7) : rm all (b ||| 2 ^ g) + 1 = rm all b := by
  refine cntB_1 (g := g) ?_ ?_ 7 h3 (fun i _ hi => ?_)
  · rw [h1, h2]; rfl
  · simp [bt_or]
  · simp [bt_or, show ¬ g = i by omega]
theorem rm_0 {all b : Nat} (ha : all < 2 ^ 7) (hb : nd b all = 0) (h : rm all b = 0) : b = all := by
  apply Nat.eq_of_testBit_eq
  intro i
  by_cases e : i < 7
  · have h1 := cntB_0 h i e
    have h2 := nd_0.mp hb i
    cases ea : all.testBit i <;> cases eb : b.testBit i <;> simp_all
  · have h1 : all.testBit i = false := Nat.testBit_lt_two_pow (Nat.lt_of_lt_of_le ha (Nat.pow_le_pow_right (by omega) (by omega)))
    have h2 := nd_0.mp hb i
    cases eb : b.testBit i
    · rw [h1]
    · rw [h1, eb] at h2; simp at h2
theorem rm_all (all : Nat) : rm all all = 0 := by
  have : ∀ n, cntB (fun g => all.testBit g && !all.testBit g) n = 0 := fun n => by
    induction n with
    | zero => rfl
    | succ n ih =>
      show cntB _ n + (all.testBit n && !all.testBit n).toNat = 0
      rw [ih]
      cases all.testBit n <;> rfl
  exact this 7
/-- what a step asks for at least -/
def HM (all : Nat) (mf : Nat → Nat → Bool) : Prop := ∀ b g, mf b g = true → g < 7 ∧ all.testBit g = true ∧ b.testBit g = false
def cst (tl : Nat → Nat → Nat) : Nat → List Nat → Nat
  | _, [] => 0
  | b, g :: l => tl b g + cst tl (b ||| 2 ^ g) l
theorem plm_s {mf : Nat → Nat → Bool} {n b : Nat} : plm mf (n + 1) b = (List.range 7).flatMap fun g => if mf b g then (plm mf n (b ||| 2 ^ g)).map (fun l => g :: l) else [] := rfl
theorem plm_m {mf : Nat → Nat → Bool} {n b : Nat} {l : List Nat} : l ∈ plm mf (n + 1) b ↔ ∃ g r, g < 7 ∧ mf b g = true ∧ r ∈ plm mf n (b ||| 2 ^ g) ∧ l = g :: r := by
  rw [plm_s, List.mem_flatMap]
  constructor
  · rintro ⟨g, hg, h⟩
    rw [List.mem_range] at hg
    by_cases e : mf b g = true
    · rw [if_pos e, List.mem_map] at h
      obtain ⟨r, h1, rfl⟩ := h
      exact ⟨g, r, hg, e, h1, rfl⟩
    · rw [if_neg e] at h; cases h
  · rintro ⟨g, r, hg, e, h1, rfl⟩
    refine ⟨g, List.mem_range.mpr hg, ?_⟩
    rw [if_pos e]
    exact List.mem_map.mpr ⟨r, h1, rfl⟩
theorem plm_len {mf : Nat → Nat → Bool} : ∀ {n b : Nat} {l : List Nat}, l ∈ plm mf n b → l.length = n
  | 0, b, l, h => by
    have h : l ∈ [[]] := h
    simp at h
    rw [h]; rfl
  | n + 1, b, l, h => by
    obtain ⟨g, r, _, _, h1, rfl⟩ := plm_m.mp h
    simp [plm_len h1]
theorem plm_lt {mf : Nat → Nat → Bool} : ∀ {n b : Nat} {l : List Nat}, l ∈ plm mf n b → ∀ x ∈ l, x < 7
  | 0, b, l, h => by
    have h : l ∈ [[]] := h
    simp at h
    rw [h]; intro x hx; cases hx
  | n + 1, b, l, h => by
    obtain ⟨g, r, hg, _, h1, rfl⟩ := plm_m.mp h
    intro x hx
    rcases List.mem_cons.mp hx with rfl | hx
    · exact hg
    · exact plm_lt h1 x hx
theorem cst_le {tl : Nat → Nat → Nat} (ht : ∀ b g, tl b g ≤ 8) : ∀ (l : List Nat) (b : Nat), cst tl b l ≤ 8 * l.length
  | [], b => Nat.zero_le _
  | g :: l, b => by
    have h1 := ht b g
    have h2 := cst_le ht l (b ||| 2 ^ g)
    show tl b g + cst tl (b ||| 2 ^ g) l ≤ 8 * (l.length + 1)
    omega
/-- the costs of all that may go on from b -/
def csts (all : Nat) (mf : Nat → Nat → Bool) (tl : Nat → Nat → Nat) (b : Nat) : List Nat := (plm mf (rm all b) b).map (cst tl b)
def mnF : List Nat → Nat
  | [] => 1000
  | a :: l => min a (mnF l)
def wy (l : List Nat) : Nat := l.count (mnF l)
theorem mnF_le (l : List Nat) : mnF l ≤ 1000 := by
  induction l with
  | nil => exact Nat.le_refl _
  | cons a l ih => show min a (mnF l) ≤ 1000; omega
theorem mnF_m {l : List Nat} : ∀ {a}, a ∈ l → mnF l ≤ a := by
  induction l with
  | nil => intro a h; cases h
  | cons b l ih =>
    intro a h
    show min b (mnF l) ≤ a
    rcases List.mem_cons.mp h with rfl | h
    · omega
    · have := ih h; omega
theorem mnF_app (a b : List Nat) : mnF (a ++ b) = min (mnF a) (mnF b) := by
  induction a with
  | nil =>
    have := mnF_le b
    show mnF b = min 1000 (mnF b)
    omega
  | cons x a ih =>
    show min x (mnF (a ++ b)) = min (min x (mnF a)) (mnF b)
    rw [ih]
    omega
theorem cnt_lo {l : List Nat} {m : Nat} (h : m < mnF l) : l.count m = 0 := by
  rw [List.count_eq_zero]
  intro hm
  have := mnF_m hm
  omega
theorem cnt_hi {l : List Nat} {m : Nat} (hl : ∀ a ∈ l, a < m) : l.count m = 0 := by
  rw [List.count_eq_zero]
  intro hm
  exact absurd (hl m hm) (by omega)
theorem mnF_in {l : List Nat} (h : l ≠ []) (hl : ∀ a ∈ l, a < 1000) : mnF l ∈ l := by
  induction l with
  | nil => exact absurd rfl h
  | cons a l ih =>
    show min a (mnF l) ∈ a :: l
    by_cases e : l = []
    · subst e
      have : a < 1000 := hl a (by simp)
      show min a 1000 ∈ [a]
      rw [Nat.min_eq_left (by omega)]
      simp
    · have := ih e (fun x hx => hl x (by simp [hx]))
      rcases Nat.le_total a (mnF l) with q | q
      · rw [Nat.min_eq_left q]; simp
      · rw [Nat.min_eq_right q]; simp [this]
theorem mnF_sh {l : List Nat} (h : l ≠ []) (hl : ∀ a ∈ l, a < 900) {t : Nat} (ht : t < 50) : mnF (l.map (t + ·)) = t + mnF l := by
  induction l with
  | nil => exact absurd rfl h
  | cons a l ih =>
    have h0 : a < 900 := hl a (by simp)
    by_cases e : l = []
    · subst e
      show min (t + a) 1000 = t + min a 1000
      omega
    · show min (t + a) (mnF (l.map (t + ·))) = t + min a (mnF l)
      rw [ih e (fun x hx => hl x (by simp [hx]))]
      omega
theorem cnt_sh {l : List Nat} {t m : Nat} : (l.map (t + ·)).count (t + m) = l.count m := by
  induction l with
  | nil => rfl
  | cons a l ih =>
    rw [List.map_cons, List.count_cons, List.count_cons, ih]
    congr 1
    by_cases e : a = m
    · simp [e]
    · simp [e]
/-- one more part: the new least and how many -/
theorem wy_step {A X : List Nat} {t : Nat} (hA : ∀ a ∈ A, a < 1000) (hX : ∀ a ∈ X, a < 900) (ht : t < 50) :
    (t + mnF X < mnF A → mnF (A ++ X.map (t + ·)) = t + mnF X ∧ wy (A ++ X.map (t + ·)) = wy X) ∧
    (t + mnF X = mnF A → mnF (A ++ X.map (t + ·)) = mnF A ∧ wy (A ++ X.map (t + ·)) = wy A + wy X) ∧
    (mnF A < t + mnF X → mnF (A ++ X.map (t + ·)) = mnF A ∧ wy (A ++ X.map (t + ·)) = wy A) := by
  have hle := mnF_le A
  by_cases e : X = []
  · subst e
    have e0 : mnF [] = 1000 := rfl
    have e1 : wy [] = 0 := rfl
    rw [e0, e1, List.map_nil, List.append_nil]
    exact ⟨fun h => by omega, fun h => ⟨rfl, by omega⟩, fun h => ⟨rfl, rfl⟩⟩
  · have h1 := mnF_sh e hX ht
    unfold wy
    rw [mnF_app, h1, List.count_append]
    refine ⟨fun h => ?_, fun h => ?_, fun h => ?_⟩
    · rw [Nat.min_eq_right (by omega), cnt_sh, cnt_lo h]
      exact ⟨rfl, by omega⟩
    · rw [Nat.min_eq_left (by omega)]
      refine ⟨rfl, ?_⟩
      rw [← h, cnt_sh]
    · rw [Nat.min_eq_left (by omega)]
      refine ⟨rfl, ?_⟩
      rw [cnt_lo (l := X.map (t + ·)) (by rw [h1]; exact h)]
      omega
theorem csts_lt {all : Nat} {mf : Nat → Nat → Bool} {tl : Nat → Nat → Nat} (ht : ∀ b g, tl b g ≤ 8) {b : Nat} : ∀ a ∈ csts all mf tl b, a < 100 := by
  intro a ha
  obtain ⟨l, h1, rfl⟩ := List.mem_map.mp ha
  have h2 := cst_le ht l b
  have h3 := plm_len h1
  have h4 := rm_le all b
  omega
theorem csts_all {all : Nat} {mf : Nat → Nat → Bool} {tl : Nat → Nat → Nat} : csts all mf tl all = [0] := by
  unfold csts
  rw [rm_all]
  rfl
def sgC (all : Nat) (mf : Nat → Nat → Bool) (tl : Nat → Nat → Nat) (b g : Nat) : List Nat := if mf b g then (csts all mf tl (b ||| 2 ^ g)).map (tl b g + ·) else []
theorem csts_s {all : Nat} {mf : Nat → Nat → Bool} {tl : Nat → Nat → Nat} (hm : HM all mf) {b : Nat} (h : rm all b ≠ 0) : csts all mf tl b = (List.range 7).flatMap (sgC all mf tl b) := by
  obtain ⟨n, hn⟩ : ∃ n, rm all b = n + 1 := ⟨rm all b - 1, by omega⟩
  unfold csts
  rw [hn, plm_s, List.map_flatMap]
  congr 1
  funext g
  unfold sgC csts
  by_cases e : mf b g = true
  · obtain ⟨h1, h2, h3⟩ := hm b g e
    have := rm_s h2 h3 h1
    rw [if_pos e, if_pos e, show rm all (b ||| 2 ^ g) = n by omega, List.map_map, List.map_map]
    rfl
  · rw [if_neg e, if_neg e]; rfl
def agC (all : Nat) (mf : Nat → Nat → Bool) (tl : Nat → Nat → Nat) (b g : Nat) : List Nat := (if b = all then [0] else []) ++ (List.range g).flatMap (sgC all mf tl b)
theorem agC_s {all : Nat} {mf : Nat → Nat → Bool} {tl : Nat → Nat → Nat} {b g : Nat} : agC all mf tl b (g + 1) = agC all mf tl b g ++ sgC all mf tl b g := by
  unfold agC
  rw [List.range_succ, List.flatMap_append, List.append_assoc]
  simp
theorem agC_7 {all : Nat} {mf : Nat → Nat → Bool} {tl : Nat → Nat → Nat} (ha : all < 2 ^ 7) (hm : HM all mf) {b : Nat} (hb : nd b all = 0) : agC all mf tl b 7 = csts all mf tl b := by
  by_cases e : b = all
  · subst e
    rw [csts_all]
    unfold agC
    rw [if_pos rfl]
    have : (List.range 7).flatMap (sgC b mf tl b) = [] := by
      rw [List.flatMap_eq_nil_iff]
      intro g _
      unfold sgC
      by_cases q : mf b g = true
      · obtain ⟨_, h2, h3⟩ := hm b g q
        rw [h2] at h3; cases h3
      · rw [if_neg q]
    rw [this]
    rfl
  · unfold agC
    rw [if_neg e, csts_s hm (fun q => e (rm_0 ha hb q))]
    rfl
theorem sgC_lt {all : Nat} {mf : Nat → Nat → Bool} {tl : Nat → Nat → Nat} (ht : ∀ b g, tl b g ≤ 8) {b g : Nat} : ∀ a ∈ sgC all mf tl b g, a < 200 := by
  intro a ha
  unfold sgC at ha
  by_cases q : mf b g = true
  · rw [if_pos q] at ha
    obtain ⟨c, h1, rfl⟩ := List.mem_map.mp ha
    have := csts_lt ht c h1
    have := ht b g
    omega
  · rw [if_neg q] at ha; cases ha
theorem agC_lt {all : Nat} {mf : Nat → Nat → Bool} {tl : Nat → Nat → Nat} (ht : ∀ b g, tl b g ≤ 8) {b g : Nat} : ∀ a ∈ agC all mf tl b g, a < 1000 := by
  intro a ha
  unfold agC at ha
  rcases List.mem_append.mp ha with h | h
  · split at h
    · simp at h; omega
    · cases h
  · obtain ⟨x, _, h⟩ := List.mem_flatMap.mp h
    have := sgC_lt ht a h
    omega
