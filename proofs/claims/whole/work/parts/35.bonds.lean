/-! kinship: the greatest, the first order that has it -/
def mxF : List Nat → Nat
  | [] => 0
  | a :: l => max a (mxF l)
theorem mxF_app (A B : List Nat) : mxF (A ++ B) = max (mxF A) (mxF B) := by
  induction A with
  | nil => show mxF B = max 0 (mxF B); omega
  | cons a A ih => show max a (mxF (A ++ B)) = max (max a (mxF A)) (mxF B); rw [ih]; omega
theorem mxF_m {A : List Nat} {a : Nat} (h : a ∈ A) : a ≤ mxF A := by
  induction A with
  | nil => cases h
  | cons b A ih =>
    show a ≤ max b (mxF A)
    rcases List.mem_cons.mp h with rfl | h
    · omega
    · have := ih h; omega
theorem mxF_in {A : List Nat} (h : A ≠ []) : mxF A ∈ A := by
  induction A with
  | nil => exact absurd rfl h
  | cons a A ih =>
    show max a (mxF A) ∈ a :: A
    by_cases e : A = []
    · subst e
      show max a 0 ∈ [a]
      rw [Nat.max_eq_left (Nat.zero_le _)]
      simp
    · rcases Nat.le_total a (mxF A) with q | q
      · rw [Nat.max_eq_right q]; simp [ih e]
      · rw [Nat.max_eq_left q]; simp
theorem mxF_sh {A : List Nat} (h : A ≠ []) (t : Nat) : mxF (A.map (t + ·)) = t + mxF A := by
  induction A with
  | nil => exact absurd rfl h
  | cons a A ih =>
    by_cases e : A = []
    · subst e
      show max (t + a) 0 = t + max a 0
      omega
    · show max (t + a) (mxF (A.map (t + ·))) = t + max a (mxF A)
      rw [ih e]
      omega
theorem mxF_le {A : List Nat} {m : Nat} (h : ∀ a ∈ A, a ≤ m) : mxF A ≤ m := by
  induction A with
  | nil => exact Nat.zero_le _
  | cons a A ih =>
    show max a (mxF A) ≤ m
    have h1 := h a (by simp)
    have h2 := ih (fun x hx => h x (by simp [hx]))
    omega
/-- what a row adds behind a last one -/
def kO (d : Dat) : Option Nat → List Nat → Nat
  | _, [] => 0
  | o, g :: l => (match o with | none => 0 | some a => pop (ds d a &&& ds d g)) + kO d (some g) l
def kAd (d : Dat) (o : Option Nat) (g : Nat) : Nat := match o with | none => 0 | some a => pop (ds d a &&& ds d g)
theorem kO_s {d : Dat} {o : Option Nat} {g : Nat} {l : List Nat} : kO d o (g :: l) = kAd d o g + kO d (some g) l := rfl
theorem sumN_s {F : Nat → Nat} : ∀ n, sumN F (n + 1) = F 0 + sumN (fun i => F (i + 1)) n
  | 0 => by show 0 + F 0 = F 0 + 0; omega
  | n + 1 => by
    show sumN F (n + 1) + F (n + 1) = F 0 + (sumN (fun i => F (i + 1)) n + F (n + 1))
    rw [sumN_s n]
    omega
theorem kO_ki (d : Dat) : ∀ l : List Nat, kO d none l = kiN d l
  | [] => rfl
  | g :: l => by
    have key : ∀ (l : List Nat) (g : Nat), kO d (some g) l = kiN d (g :: l) := fun l => by
      induction l with
      | nil => intro g; rfl
      | cons a l ih =>
        intro g
        rw [kO_s, ih a]
        unfold kiN
        show _ = sumN _ (l.length + 1)
        rw [sumN_s]
        rfl
    rw [kO_s, ← key l g]
    show 0 + _ = _
    omega
theorem kO_le {d : Dat} : ∀ (l : List Nat) (o : Option Nat), kO d o l ≤ 8 * l.length
  | [], o => Nat.zero_le _
  | g :: l, o => by
    have h1 : kAd d o g ≤ 8 := by
      unfold kAd
      split
      · omega
      · exact pop_le _
    have h2 := kO_le (d := d) l (some g)
    rw [kO_s, List.length_cons]
    omega
theorem plm_ne {all : Nat} (ha : all < 2 ^ 7) : ∀ n b, rm all b = n → plm (mfP all none none) n b ≠ []
  | 0, b, _ => by show [[]] ≠ []; simp
  | n + 1, b, h => by
    have : ∃ g, g < 7 ∧ all.testBit g = true ∧ b.testBit g = false := by
      apply Classical.byContradiction
      intro hc
      have h0 : rm all b = 0 := by
        have : ∀ k, k ≤ 7 → cntB (fun g => all.testBit g && !b.testBit g) k = 0 := fun k => by
          induction k with
          | zero => intro _; rfl
          | succ k ih =>
            intro hk
            show cntB _ k + (all.testBit k && !b.testBit k).toNat = 0
            rw [ih (by omega)]
            cases e1 : all.testBit k
            · rfl
            · cases e2 : b.testBit k
              · exact absurd ⟨k, by omega, e1, e2⟩ hc
              · rfl
        exact this 7 (by omega)
      omega
    obtain ⟨g, h1, h2, h3⟩ := this
    have hr := rm_s h2 h3 h1
    have hn := plm_ne ha n (b ||| 2 ^ g) (by omega)
    intro e
    obtain ⟨l, hl⟩ := List.exists_mem_of_ne_nil _ hn
    have : g :: l ∈ plm (mfP all none none) (n + 1) b := plm_m.mpr ⟨g, l, h1, mfP_nn b g h1 h2 h3, hl, rfl⟩
    rw [e] at this
    cases this
def plA (all b : Nat) : List (List Nat) := plm (mfP all none none) (rm all b) b
theorem plA_ne {all b : Nat} (ha : all < 2 ^ 7) : plA all b ≠ [] := plm_ne ha _ b rfl
/-- the greatest that the rest can add -/
def bK (d : Dat) (all b : Nat) (o : Option Nat) : Nat := mxF ((plA all b).map (kO d o))
theorem bK_le {d : Dat} {all b : Nat} {o : Option Nat} : bK d all b o ≤ 56 := by
  refine mxF_le (fun a ha => ?_)
  obtain ⟨l, hl, rfl⟩ := List.mem_map.mp ha
  have h1 := kO_le (d := d) l o
  have h2 := plm_len hl
  have h3 := rm_le all b
  omega
def sgK (d : Dat) (all b : Nat) (o : Option Nat) (g : Nat) : List Nat := if mfP all none none b g then ((plA all (b ||| 2 ^ g)).map (kO d (some g))).map (kAd d o g + ·) else []
theorem plA_s {all b : Nat} (h : rm all b ≠ 0) : plA all b = (List.range 7).flatMap fun g => if mfP all none none b g then (plA all (b ||| 2 ^ g)).map (fun l => g :: l) else [] := by
  obtain ⟨n, hn⟩ : ∃ n, rm all b = n + 1 := ⟨rm all b - 1, by omega⟩
  conv => lhs; unfold plA
  rw [hn, plm_s]
  congr 1
  funext g
  by_cases e : mfP all none none b g = true
  · obtain ⟨h1, h2, h3⟩ := mfP_hm all none none b g e
    have := rm_s h2 h3 h1
    rw [if_pos e, if_pos e]
    unfold plA
    rw [show rm all (b ||| 2 ^ g) = n by omega]
  · rw [if_neg e, if_neg e]
theorem kmap_s {d : Dat} {all b : Nat} {o : Option Nat} (h : rm all b ≠ 0) : (plA all b).map (kO d o) = (List.range 7).flatMap (sgK d all b o) := by
  rw [plA_s h, List.map_flatMap]
  congr 1
  funext g
  unfold sgK
  by_cases e : mfP all none none b g = true
  · rw [if_pos e, if_pos e, List.map_map, List.map_map]
    rfl
  · rw [if_neg e, if_neg e]; rfl
theorem rngN : ∀ n, n < 8 → List.range 7 = List.range n ++ List.range' n (7 - n) := by decide
theorem hi_none {n b g : Nat} (hg : n ≤ g) : mfP (2 ^ n - 1) none none b g = false := by
  unfold mfP
  rw [Nat.testBit_two_pow_sub_one, decide_eq_false (show ¬ g < n by omega)]
  simp
theorem fm_n {α : Type} {n b : Nat} (hn : n < 8) (F : Nat → List α) : (List.range 7).flatMap (fun g => if mfP (2 ^ n - 1) none none b g then F g else []) = (List.range n).flatMap (fun g => if mfP (2 ^ n - 1) none none b g then F g else []) := by
  rw [rngN n hn, List.flatMap_append]
  have : (List.range' n (7 - n)).flatMap (fun g => if mfP (2 ^ n - 1) none none b g then F g else []) = [] := by
    rw [List.flatMap_eq_nil_iff]
    intro g hg
    rw [hi_none (List.mem_range'_1.mp hg).1]
    rfl
  rw [this, List.append_nil]
theorem kmap_n {d : Dat} {n b : Nat} {o : Option Nat} (hn : n < 8) (h : rm (2 ^ n - 1) b ≠ 0) : (plA (2 ^ n - 1) b).map (kO d o) = (List.range n).flatMap (sgK d (2 ^ n - 1) b o) := by
  rw [kmap_s h]
  exact fm_n hn (fun g => ((plA (2 ^ n - 1) (b ||| 2 ^ g)).map (kO d (some g))).map (kAd d o g + ·))
theorem full_sub {n b : Nat} (h : b ≤ 2 ^ n - 1) : nd b (2 ^ n - 1) = 0 := by
  have h0 : 0 < 2 ^ n := Nat.two_pow_pos n
  rw [nd_0]
  intro i hi
  rw [Nat.testBit_two_pow_sub_one]
  simp
  apply Nat.lt_of_not_le
  intro q
  rw [bit_hi (show b < 2 ^ n by omega) q] at hi
  cases hi
theorem full_lt {n : Nat} (h : n ≤ 7) : 2 ^ n - 1 < 2 ^ 7 := by
  have h1 : 2 ^ n ≤ 2 ^ 7 := Nat.pow_le_pow_right (by omega) h
  have h0 : 0 < 2 ^ n := Nat.two_pow_pos n
  omega
/-- the rows of the class's Bonds -/
def BW (z : gS) (p d0 : Nat) (d : Dat) (b : Nat) : Prop := ∀ g, g < dg d → z (p + 2 + 1 * b) g = nI (bK d (2 ^ dg d - 1) b (some g))
theorem x_bestFrom {z : gS} {p p1 : Nat} {d : Dat} (h : SX z p1 d) (v : VD d) {b a : Nat} (hb : b ≤ 2 ^ dg d - 1) (ha : a < dg d) (hw : ∀ b', b < b' → b' ≤ 2 ^ dg d - 1 → BW z p 0 d b') : f_X0_bestFrom p p1 (nI b) (nI a) z = some (nI (bK d (2 ^ dg d - 1) b (some a))) := by
  have v1 := v.1
  have hf := full_lt v1
  have hsb := full_sub hb
  have hfin : bK d (2 ^ dg d - 1) b (some a) = mxF ((List.range (dg d)).flatMap (sgK d (2 ^ dg d - 1) b (some a))) := by
    by_cases e : rm (2 ^ dg d - 1) b = 0
    · have := rm_0 hf hsb e
      have e1 : (List.range (dg d)).flatMap (sgK d (2 ^ dg d - 1) b (some a)) = [] := by
        rw [List.flatMap_eq_nil_iff]
        intro g _
        unfold sgK
        rw [if_neg]
        intro q
        obtain ⟨_, q2, q3⟩ := mfP_hm _ none none b g q
        rw [← this, q3] at q2
        cases q2
      rw [e1]
      unfold bK plA
      rw [e]
      rfl
    · unfold bK
      rw [kmap_n (by omega) e]
  rw [hfin]
  unfold f_X0_bestFrom f_X0_bestFrom_6
  refine gfor0 (fun k => (nI (mxF ((List.range k).flatMap (sgK d (2 ^ dg d - 1) b (some a)))), nI k)) (e := dg d) (by omega) (fun k rec hk => ?_) (fun rec => ?_)
  · show f_X0_bestFrom_6_b p p1 z (nI b) (nI a) (fun x4 x5 => rec (x4, x5)) (nI (mxF ((List.range k).flatMap (sgK d (2 ^ dg d - 1) b (some a))))) (nI k) = rec (nI (mxF ((List.range (k + 1)).flatMap (sgK d (2 ^ dg d - 1) b (some a)))), nI (k + 1))
    have e1 : List.flatMap (sgK d (2 ^ dg d - 1) b (some a)) [k] = sgK d (2 ^ dg d - 1) b (some a) k := by simp
    have hx : mxF ((List.range k).flatMap (sgK d (2 ^ dg d - 1) b (some a))) ≤ 100 := by
      refine mxF_le (fun c hc => ?_)
      obtain ⟨g, _, hc⟩ := List.mem_flatMap.mp hc
      unfold sgK at hc
      split at hc
      · obtain ⟨x, hx, rfl⟩ := List.mem_map.mp hc
        have h1 := mxF_m hx
        have h2 : mxF ((plA (2 ^ dg d - 1) (b ||| 2 ^ g)).map (kO d (some g))) ≤ 56 := bK_le
        have h3 : kAd d (some a) g ≤ 8 := pop_le _
        omega
      · cases hc
    unfold f_X0_bestFrom_6_b
    rw [h.1, if_neg (nI_ge hk (by omega)), q_bit (by omega) (by omega), q_ifb, nI_add, List.range_succ, List.flatMap_append, mxF_app, e1]
    cases c : b.testBit k
    · have hmf : mfP (2 ^ dg d - 1) none none b k = true := mfP_nn b k (by omega) (full_bit hk) c
      have hor := or_gt c
      have hsb2 := sub_or hsb (full_bit hk)
      have hole := sub_le hsb2
      rw [if_neg (by decide), x_common h v ha hk, q_gb, q_sh1 (by omega), q_or, q_gg (by omega) (by omega), q_gg (by omega) (by omega), nI_clamp (by omega), nI_clamp (by omega), hw _ hor hole k hk, nI_add, q_iflt (by have := pop_le (ds d a &&& ds d k); have := bK_le (d := d) (all := 2 ^ dg d - 1) (b := b ||| 2 ^ k) (o := some k); omega) (by have := pop_le (ds d a &&& ds d k); have := bK_le (d := d) (all := 2 ^ dg d - 1) (b := b ||| 2 ^ k) (o := some k); omega), q_gl]
      have hseg : mxF (sgK d (2 ^ dg d - 1) b (some a) k) = pop (ds d a &&& ds d k) + bK d (2 ^ dg d - 1) (b ||| 2 ^ k) (some k) := by
        unfold sgK
        rw [if_pos hmf, mxF_sh (by simpa using plA_ne hf)]
        rfl
      rw [hseg]
      generalize pop (ds d a &&& ds d k) + bK d (2 ^ dg d - 1) (b ||| 2 ^ k) (some k) = M
      generalize mxF ((List.range k).flatMap (sgK d (2 ^ dg d - 1) b (some a))) = N
      by_cases q : N < M
      · rw [if_pos q, Nat.max_eq_right (by omega)]
      · rw [if_neg q, Nat.max_eq_left (by omega)]
    · have hseg : sgK d (2 ^ dg d - 1) b (some a) k = [] := by
        unfold sgK
        rw [if_neg]
        intro q
        have := (mfP_hm _ none none b k q).2.2
        rw [c] at this
        cases this
      rw [if_pos rfl, hseg]
      show _ = rec (nI (max _ 0), nI (k + 1))
      rw [Nat.max_eq_left (Nat.zero_le _)]
  · show f_X0_bestFrom_6_b p p1 z (nI b) (nI a) (fun x4 x5 => rec (x4, x5)) (nI (mxF ((List.range (dg d)).flatMap (sgK d (2 ^ dg d - 1) b (some a))))) (nI (dg d)) = _
    unfold f_X0_bestFrom_6_b
    rw [h.1, if_pos (nI_le (Nat.le_refl _) (by omega))]
