/-! kin, by both -/
theorem x_bonds_11 {z : gS} {p p1 : Nat} {d : Dat} (h : SX z p1 d) (v : VD d) (hp : p1 + 3 < p) {b : Nat} (hb : b ≤ 2 ^ dg d - 1) (hw : ∀ b', b < b' → b' ≤ 2 ^ dg d - 1 → BW z p 0 d b') {K : Int32 → gS → Option gS} {P : gS → Prop} (hK : ∀ z', BW z' p 0 d b → Fn 1 z z' (p + 2 + 1 * b) → Ok (K (nI b + gm1) z') P) : Ok (f_X0_make_11 p p1 (nI b) K gF (nI 0) z) P := by
  have v1 := v.1
  have hf := full_lt v1
  unfold f_X0_make_11
  refine gforI0 (fun k s => s.1 = nI k ∧ (∀ g, g < k → s.2 (p + 2 + 1 * b) g = nI (bK d (2 ^ dg d - 1) b (some g))) ∧ Fn 1 z s.2 (p + 2 + 1 * b)) (e := dg d) (by omega) ⟨rfl, fun g hg => by omega, Fn.rf⟩ (fun k rec s hk hi hr => ?_) (fun rec s hi => ?_)
  · obtain ⟨x3, y⟩ := s
    obtain ⟨g1, g2, g3⟩ := hi
    dsimp only at g1 g2 g3
    subst g1
    have hy : SX y p1 d := h.fn g3 (by omega)
    have hwy : ∀ b', b < b' → b' ≤ 2 ^ dg d - 1 → BW y p 0 d b' := fun b' q1 q2 g hg => by
      rw [g3 _ (by omega)]
      exact hw b' q1 q2 g hg
    show Ok (f_X0_make_11_b p p1 (nI b) K (fun x3 z => rec (x3, z)) (nI k) y) _
    unfold f_X0_make_11_b
    rw [hy.1, if_neg (nI_ge hk (by omega)), q_gg (by omega) (by omega), x_bestFrom hy v hb hk hwy, q_gb, q_gg (by omega) (by omega), q_gl, nI_clamp (by omega), nI_clamp (by omega), nI_add]
    refine hr _ ⟨rfl, fun g hg => ?_, g3.tr (Fn.up (by omega) (by omega))⟩
    dsimp only
    by_cases q : g = k
    · subst q; rw [gup_s]
    · rw [gup_n (Or.inr q)]; exact g2 g (by omega)
  · obtain ⟨x3, y⟩ := s
    obtain ⟨g1, g2, g3⟩ := hi
    dsimp only at g1 g2 g3
    subst g1
    have hy : SX y p1 d := h.fn g3 (by omega)
    show Ok (f_X0_make_11_b p p1 (nI b) K (fun x3 z => rec (x3, z)) (nI (dg d)) y) _
    unfold f_X0_make_11_b
    rw [hy.1, if_pos (nI_le (Nat.le_refl _) (by omega))]
    exact hK y g2 g3
/-- all that Bonds holds -/
def BO (z : gS) (p : Nat) (d : Dat) : Prop := (∀ b, 0 < b → b ≤ 2 ^ dg d - 1 → BW z p 0 d b) ∧ z p 1 = nI (bK d (2 ^ dg d - 1) 0 none)
theorem bK_0 {d : Dat} {n : Nat} (hn : n < 8) : bK d (2 ^ n - 1) 0 none = mxF ((List.range n).flatMap (sgK d (2 ^ n - 1) 0 none)) := by
  by_cases e : rm (2 ^ n - 1) 0 = 0
  · have e2 := (rm_full n hn).1
    have : n = 0 := by omega
    subst this
    rfl
  · unfold bK
    rw [kmap_n hn e]
theorem x_bonds {z : gS} {p p1 : Nat} {d : Dat} (h : SX z p1 d) (v : VD d) (hp : p1 + 3 < p) : Ok (f_X0_make p p1 z) (fun z' => BO z' p d ∧ Fn 130 z z' p) := by
  have v1 := v.1
  have hf := full_lt v1
  unfold f_X0_make
  rw [x_everybody h v, q_gb]
  unfold f_X0_make_5
  refine gforI0 (fun k s => s.1 = nI (2 ^ dg d - 1 - k) ∧ (∀ b, 2 ^ dg d - 1 - k < b → b ≤ 2 ^ dg d - 1 → BW s.2 p 0 d b) ∧ Fn 130 z s.2 p) (e := 2 ^ dg d - 1) (by omega) ⟨rfl, fun b h1 h2 => by omega, Fn.rf⟩ (fun k rec s hk hi hr => ?_) (fun rec s hi => ?_)
  · obtain ⟨x2, y⟩ := s
    obtain ⟨g1, g2, g3⟩ := hi
    dsimp only at g1 g2 g3
    subst g1
    have hy : SX y p1 d := h.fn g3 (by omega)
    show Ok (f_X0_make_5_b p p1 (fun x2 z => rec (x2, z)) (nI (2 ^ dg d - 1 - k)) y) _
    unfold f_X0_make_5_b
    rw [q_ifle0 (by omega), if_neg (by omega)]
    refine x_bonds_11 hy v hp (by omega) g2 (fun z' h1 h2 => ?_)
    rw [q_pred (by omega)]
    refine hr _ ⟨by dsimp only; rw [show 2 ^ dg d - 1 - k - 1 = 2 ^ dg d - 1 - (k + 1) by omega], fun b q1 q2 g hg => ?_, fun a qa => ?_⟩
    · dsimp only
      by_cases c : b = 2 ^ dg d - 1 - k
      · subst c; exact h1 g hg
      · rw [h2 _ (by omega)]
        exact g2 b (by omega) q2 g hg
    · dsimp only
      rw [h2 a (by omega)]
      exact g3 a qa
  · obtain ⟨x2, y⟩ := s
    obtain ⟨g1, g2, g3⟩ := hi
    dsimp only at g1 g2 g3
    subst g1
    show Ok (f_X0_make_5_b p p1 (fun x2 z => rec (x2, z)) (nI (2 ^ dg d - 1 - (2 ^ dg d - 1))) y) _
    unfold f_X0_make_5_b
    rw [Nat.sub_self, if_pos (by decide), q_gl]
    have hy0 : SX y p1 d := h.fn g3 (by omega)
    unfold f_X0_make_53
    refine gforI0 (fun k s => s.1 = nI k ∧ s.2 p 1 = nI (mxF ((List.range k).flatMap (sgK d (2 ^ dg d - 1) 0 none))) ∧ (∀ b, 0 < b → b ≤ 2 ^ dg d - 1 → BW s.2 p 0 d b) ∧ Fn 130 z s.2 p) (e := dg d) (by omega) ⟨rfl, gup_s, fun b q1 q2 g hg => ?_, g3.tr (Fn.up (by omega) (by omega))⟩ (fun k rec s hk hi hr => ?_) (fun rec s hi => ?_)
    · dsimp only
      rw [gup_n (Or.inl (by omega))]
      exact g2 b (by omega) q2 g hg
    · obtain ⟨x2, u⟩ := s
      obtain ⟨k1, k2, k3, k4⟩ := hi
      dsimp only at k1 k2 k3 k4
      subst k1
      have hu : SX u p1 d := h.fn k4 (by omega)
      have hp1 : 2 ^ k ≤ 2 ^ dg d - 1 := by
        have : 2 ^ k < 2 ^ dg d := Nat.pow_lt_pow_right (by omega) hk
        omega
      have hp0 : 0 < 2 ^ k := Nat.two_pow_pos k
      have hx : mxF ((List.range k).flatMap (sgK d (2 ^ dg d - 1) 0 none)) ≤ 100 := by
        refine mxF_le (fun c hc => ?_)
        obtain ⟨g, _, hc⟩ := List.mem_flatMap.mp hc
        unfold sgK at hc
        split at hc
        · obtain ⟨x, hx, rfl⟩ := List.mem_map.mp hc
          have h1 := mxF_m hx
          have h2 : mxF ((plA (2 ^ dg d - 1) (0 ||| 2 ^ g)).map (kO d (some g))) ≤ 56 := bK_le
          have h3 : kAd d none g = 0 := rfl
          omega
        · cases hc
      have hB := bK_le (d := d) (all := 2 ^ dg d - 1) (b := 2 ^ k) (o := some k)
      have hmf : mfP (2 ^ dg d - 1) none none 0 k = true := mfP_nn 0 k (by omega) (full_bit hk) (Nat.zero_testBit k)
      have hseg : mxF (sgK d (2 ^ dg d - 1) 0 none k) = bK d (2 ^ dg d - 1) (2 ^ k) (some k) := by
        unfold sgK
        rw [if_pos hmf, mxF_sh (by simpa using plA_ne hf), Nat.zero_or]
        show 0 + _ = _
        rw [Nat.zero_add]
        rfl
      have e1 : List.flatMap (sgK d (2 ^ dg d - 1) 0 none) [k] = sgK d (2 ^ dg d - 1) 0 none k := by simp
      show Ok (f_X0_make_53_b p p1 (fun x2 z => rec (x2, z)) (nI k) u) _
      unfold f_X0_make_53_b
      rw [hu.1, if_neg (nI_ge hk (by omega)), q_sh1 (by omega), q_gg (by omega) (by omega), q_gg (by omega) (by omega), nI_clamp (by omega), nI_clamp (by omega), k3 _ hp0 hp1 k hk, k2, q_iflt (by omega) (by omega), q_gl, nI_add]
      refine hr _ ⟨rfl, ?_, fun b q1 q2 g hg => ?_, k4.tr (Fn.up (by omega) (by omega))⟩
      · dsimp only
        rw [gup_s, List.range_succ, List.flatMap_append, mxF_app, e1, hseg]
        generalize bK d (2 ^ dg d - 1) (2 ^ k) (some k) = M
        generalize mxF ((List.range k).flatMap (sgK d (2 ^ dg d - 1) 0 none)) = N
        by_cases q : N < M
        · rw [if_pos q, Nat.max_eq_right (by omega)]
        · rw [if_neg q, Nat.max_eq_left (by omega)]
      · dsimp only
        rw [gup_n (Or.inl (by omega))]
        exact k3 b q1 q2 g hg
    · obtain ⟨x2, u⟩ := s
      obtain ⟨k1, k2, k3, k4⟩ := hi
      dsimp only at k1 k2 k3 k4
      subst k1
      have hu : SX u p1 d := h.fn k4 (by omega)
      show Ok (f_X0_make_53_b p p1 (fun x2 z => rec (x2, z)) (nI (dg d)) u) _
      unfold f_X0_make_53_b
      rw [hu.1, if_pos (nI_le (Nat.le_refl _) (by omega))]
      refine Ok.i ⟨⟨k3, ?_⟩, k4⟩
      rw [k2, bK_0 (by omega)]
/-- the first of a list that has just so much -/
def fk (d : Dat) (o : Option Nat) (D : Nat) (L : List (List Nat)) : List Nat := (L.filter (fun l => decide (kO d o l = D))).getD 0 []
theorem fk_0 {d : Dat} {o : Option Nat} {D : Nat} {A B : List (List Nat)} (h : A.filter (fun l => decide (kO d o l = D)) = []) : fk d o D (A ++ B) = fk d o D B := by
  unfold fk
  rw [List.filter_append, h, List.nil_append]
theorem fk_1 {d : Dat} {o : Option Nat} {D : Nat} {A B : List (List Nat)} (h : A.filter (fun l => decide (kO d o l = D)) ≠ []) : fk d o D (A ++ B) = fk d o D A := by
  unfold fk
  rw [List.filter_append, getD_l (List.length_pos_iff.mpr h)]
def sgL (all b g : Nat) : List (List Nat) := if mfP all none none b g then (plA all (b ||| 2 ^ g)).map (fun l => g :: l) else []
theorem x_common_o {z : gS} {p : Nat} {d : Dat} (h : SX z p d) (v : VD d) {o : Option Nat} (ho : ∀ a, o = some a → a < dg d) {j : Nat} (hj : j < dg d) : f_X5_common p (nO o) (nI j) z = some (nI (kAd d o j)) := by
  cases o with
  | none => exact x_common_m1 h
  | some a => exact x_common h v (ho a rfl) hj
theorem x_first_28 {z : gS} {p p1 : Nat} {d : Dat} (h : SX z p1 d) (v : VD d) (hB : BO z p d) {b D : Nat} (hb : b ≤ 2 ^ dg d - 1) {o : Option Nat} (ho : ∀ a, o = some a → a < dg d) (hD : ∀ l ∈ plA (2 ^ dg d - 1) b, kO d o l ≤ D) (hrm : rm (2 ^ dg d - 1) b ≠ 0) {x5 x6 : Int32} {K : Int32 → Int32 → Int32 → Int32 → Int32 → Option Int32} (hD31 : D < 1000) : ∀ j g m, g + j = dg d → j < m → ((List.range' g j).flatMap (sgL (2 ^ dg d - 1) b)).filter (fun l => decide (kO d o l = D)) ≠ [] → ∃ k, k < dg d ∧ mfP (2 ^ dg d - 1) none none b k = true ∧ kAd d o k + bK d (2 ^ dg d - 1) (b ||| 2 ^ k) (some k) = D ∧ fk d o D ((List.range' g j).flatMap (sgL (2 ^ dg d - 1) b)) = k :: fk d (some k) (D - kAd d o k) (plA (2 ^ dg d - 1) (b ||| 2 ^ k)) ∧ f_X0_firstOrder_28 p p1 z (nI D) (nI b) (nO o) x5 x6 K m (nI g) = K (nI (D - kAd d o k)) (nI (b ||| 2 ^ k)) (nI k) (((x5 * nI 10) + nI k) + nI 1) (x6 + nI 1)
  | j, g, 0, hg, hm, hne => by omega
  | 0, g, m + 1, hg, hm, hne => by simp at hne
  | j + 1, g, m + 1, hg, hm, hne => by
    have v1 := v.1
    have hf := full_lt v1
    have hsb := full_sub hb
    have hgd : g < dg d := by omega
    rw [List.range'_succ, List.flatMap_cons] at hne ⊢
    show ∃ k, _ ∧ _ ∧ _ ∧ _ ∧ f_X0_firstOrder_28_b p p1 z (nI D) (nI b) (nO o) x5 x6 K (fun x7 => f_X0_firstOrder_28 p p1 z (nI D) (nI b) (nO o) x5 x6 K m x7) (nI g) = _
    unfold f_X0_firstOrder_28_b
    have hk8 : kAd d o g ≤ 8 := by
      unfold kAd
      split
      · omega
      · exact pop_le _
    have hB56 := bK_le (d := d) (all := 2 ^ dg d - 1) (b := b ||| 2 ^ g) (o := some g)
    rw [h.1, if_neg (nI_ge hgd (by omega)), x_common_o h v ho hgd, q_gb, q_bit (by omega) (by omega), q_ifb, nI_add]
    by_cases c : b.testBit g = true
    · have hs : sgL (2 ^ dg d - 1) b g = [] := by
        unfold sgL
        rw [if_neg]
        intro q
        have := (mfP_hm _ none none b g q).2.2
        rw [c] at this
        cases this
      rw [hs] at hne ⊢
      rw [if_pos c]
      obtain ⟨k, k1, k2, k3, k4, k5⟩ := x_first_28 h v hB hb ho hD hrm (x5 := x5) (x6 := x6) (K := K) hD31 j (g + 1) m (by omega) (by omega) hne
      exact ⟨k, k1, k2, k3, k4, k5⟩
    · have c0 : b.testBit g = false := by simpa using c
      have hmf : mfP (2 ^ dg d - 1) none none b g = true := mfP_nn b g (by omega) (full_bit hgd) c0
      have hsb2 := sub_or hsb (full_bit hgd)
      have hole := sub_le hsb2
      have hor := or_gt c0
      have hs : sgL (2 ^ dg d - 1) b g = (plA (2 ^ dg d - 1) (b ||| 2 ^ g)).map (fun l => g :: l) := if_pos hmf
      have hmem : ∀ l ∈ plA (2 ^ dg d - 1) (b ||| 2 ^ g), kAd d o g + kO d (some g) l ≤ D := fun l hl => by
        rw [← kO_s]
        apply hD
        rw [plA_s hrm]
        refine List.mem_flatMap.mpr ⟨g, List.mem_range.mpr (by omega), ?_⟩
        rw [if_pos hmf]
        exact List.mem_map.mpr ⟨l, hl, rfl⟩
      have hbin : bK d (2 ^ dg d - 1) (b ||| 2 ^ g) (some g) ∈ (plA (2 ^ dg d - 1) (b ||| 2 ^ g)).map (kO d (some g)) := mxF_in (by simpa using plA_ne hf)
      obtain ⟨l0, hl0, hl1⟩ := List.mem_map.mp hbin
      rw [if_neg c, q_sh1 (by omega), q_or, q_gg (by omega) (by omega), q_gg (by omega) (by omega), nI_clamp (by omega), nI_clamp (by omega), hB.1 _ (by omega) hole g hgd, nI_add, q_ifeq (by omega) (by omega)]
      have hflt : ((plA (2 ^ dg d - 1) (b ||| 2 ^ g)).map (fun l => g :: l)).filter (fun l => decide (kO d o l = D)) = ((plA (2 ^ dg d - 1) (b ||| 2 ^ g)).filter (fun l => decide (kAd d o g + kO d (some g) l = D))).map (fun l => g :: l) := by
        rw [List.filter_map]
        rfl
      by_cases e : kAd d o g + bK d (2 ^ dg d - 1) (b ||| 2 ^ g) (some g) = D
      · refine ⟨g, hgd, hmf, e, ?_, ?_⟩
        · have hn2 : (plA (2 ^ dg d - 1) (b ||| 2 ^ g)).filter (fun l => decide (kO d (some g) l = D - kAd d o g)) ≠ [] := by
            intro q
            rw [List.filter_eq_nil_iff] at q
            refine q l0 hl0 ?_
            rw [hl1]
            simp
            omega
          have hcg : (plA (2 ^ dg d - 1) (b ||| 2 ^ g)).filter (fun l => decide (kAd d o g + kO d (some g) l = D)) = (plA (2 ^ dg d - 1) (b ||| 2 ^ g)).filter (fun l => decide (kO d (some g) l = D - kAd d o g)) := by
            apply List.filter_congr
            intro l _
            congr 1
            apply propext
            omega
          rw [hs, fk_1 (by rw [hflt, hcg]; simpa using hn2)]
          unfold fk
          rw [hflt, hcg, getD_mm (d := []) (List.length_pos_iff.mpr hn2)]
        · rw [if_pos e, pk_sub (by omega), q_gl, q_gl, q_gl]
      · have h0 : (sgL (2 ^ dg d - 1) b g).filter (fun l => decide (kO d o l = D)) = [] := by
          rw [hs, hflt, List.map_eq_nil_iff, List.filter_eq_nil_iff]
          intro l hl q
          simp at q
          have h1 := mxF_m (List.mem_map.mpr ⟨l, hl, rfl⟩ : kO d (some g) l ∈ (plA (2 ^ dg d - 1) (b ||| 2 ^ g)).map (kO d (some g)))
          have h2 : bK d (2 ^ dg d - 1) (b ||| 2 ^ g) (some g) = mxF ((plA (2 ^ dg d - 1) (b ||| 2 ^ g)).map (kO d (some g))) := rfl
          have h3 := hmem l0 hl0
          omega
        rw [List.filter_append, h0, List.nil_append] at hne
        obtain ⟨k, k1, k2, k3, k4, k5⟩ := x_first_28 h v hB hb ho hD hrm (x5 := x5) (x6 := x6) (K := K) hD31 j (g + 1) m (by omega) (by omega) hne
        refine ⟨k, k1, k2, k3, ?_, ?_⟩
        · rw [fk_0 h0]; exact k4
        · rw [if_neg e]; exact k5
theorem x_first_16 {z : gS} {p p1 : Nat} {d : Dat} (h : SX z p1 d) (v : VD d) (hB : BO z p d) : ∀ n b o val i m, rm (2 ^ dg d - 1) b = n → n < m → i + n = dg d → b ≤ 2 ^ dg d - 1 → (∀ a, o = some a → a < dg d) → f_X0_firstOrder_16 p p1 z m (nI (bK d (2 ^ dg d - 1) b o)) (nI b) (nO o) (nI val) (nI i) = some (nI (dig val (fk d o (bK d (2 ^ dg d - 1) b o) (plA (2 ^ dg d - 1) b))))
  | n, b, o, val, i, 0, hn, hm, _, _, _ => by omega
  | 0, b, o, val, i, m + 1, hn, hm, hi, hb, ho => by
    have v1 := v.1
    show f_X0_firstOrder_16_b p p1 z (fun x2 x3 x4 x5 x6 => f_X0_firstOrder_16 p p1 z m x2 x3 x4 x5 x6) (nI (bK d (2 ^ dg d - 1) b o)) (nI b) (nO o) (nI val) (nI i) = _
    unfold f_X0_firstOrder_16_b
    rw [h.1, if_pos (nI_le (by omega) (by omega))]
    unfold plA bK plA
    rw [hn]
    show some (nI val) = _
    congr 2
  | n + 1, b, o, val, i, m + 1, hn, hm, hi, hb, ho => by
    have v1 := v.1
    have hf := full_lt v1
    have hsb := full_sub hb
    have hD1 := bK_le (d := d) (all := 2 ^ dg d - 1) (b := b) (o := o)
    show f_X0_firstOrder_16_b p p1 z (fun x2 x3 x4 x5 x6 => f_X0_firstOrder_16 p p1 z m x2 x3 x4 x5 x6) (nI (bK d (2 ^ dg d - 1) b o)) (nI b) (nO o) (nI val) (nI i) = _
    unfold f_X0_firstOrder_16_b
    rw [h.1, if_neg (nI_ge (show i < dg d by omega) (by omega))]
    have hpl : plA (2 ^ dg d - 1) b = (List.range' 0 (dg d)).flatMap (sgL (2 ^ dg d - 1) b) := by
      rw [plA_s (by omega), ← List.range_eq_range']
      exact fm_n (by omega) (fun g => (plA (2 ^ dg d - 1) (b ||| 2 ^ g)).map (fun l => g :: l))
    have hD : ∀ l ∈ plA (2 ^ dg d - 1) b, kO d o l ≤ bK d (2 ^ dg d - 1) b o := fun l hl => mxF_m (List.mem_map.mpr ⟨l, hl, rfl⟩)
    have hne : (plA (2 ^ dg d - 1) b).filter (fun l => decide (kO d o l = bK d (2 ^ dg d - 1) b o)) ≠ [] := by
      intro q
      rw [List.filter_eq_nil_iff] at q
      have hbin : bK d (2 ^ dg d - 1) b o ∈ (plA (2 ^ dg d - 1) b).map (kO d o) := mxF_in (by simpa using plA_ne hf)
      obtain ⟨l0, hl0, hl1⟩ := List.mem_map.mp hbin
      exact q l0 hl0 (by simpa using hl1)
    rw [hpl] at hne
    obtain ⟨k, k1, k2, k3, k4, k5⟩ := x_first_28 h v hB hb ho hD (by omega) (x5 := nI val) (x6 := nI i) (K := fun x2 x3 x4 x5 x6 => f_X0_firstOrder_16 p p1 z m x2 x3 x4 x5 x6) (by omega) (dg d) 0 gF (by omega) (q_gF (by omega)) hne
    obtain ⟨q1, q2, q3⟩ := mfP_hm _ none none b k k2
    have hr := rm_s q2 q3 q1
    have hsb2 := sub_or hsb q2
    rw [k5, ← hpl] at *
    rw [k4, pk_mul, nI_add, nI_add, nI_add, show bK d (2 ^ dg d - 1) b o - kAd d o k = bK d (2 ^ dg d - 1) (b ||| 2 ^ k) (some k) by omega]
    have := x_first_16 h v hB n (b ||| 2 ^ k) (some k) (val * 10 + k + 1) (i + 1) m (by omega) (by omega) (by omega) (sub_le hsb2) (fun a ha => by cases ha; exact k1)
    rw [show nI k = nO (some k) from rfl, this, Nat.mul_comm]
    rfl
theorem x_firstOrder {z : gS} {p p1 : Nat} {d : Dat} (h : SX z p1 d) (v : VD d) (hB : BO z p d) : f_X0_firstOrder p p1 z = some (nI (dig 0 (fk d none (bK d (2 ^ dg d - 1) 0 none) (plA (2 ^ dg d - 1) 0)))) := by
  have v1 := v.1
  have := x_first_16 h v hB (dg d) 0 none 0 0 gF (rm_full (dg d) (by omega)).1 (q_gF (by omega)) (by omega) (Nat.zero_le _) (fun a ha => by cases ha)
  unfold f_X0_firstOrder
  rw [hB.2, q_gl]
  exact this
/-! the reference's -/
theorem mxF1 {A : List Nat} {c : Nat} : mxF (A ++ [c]) = max (mxF A) c := by
  rw [mxF_app]
  show max (mxF A) (max c 0) = _
  omega
theorem EN.kn {w : gS} {d : Dat} {all n ty : Nat} {pre L : List (List Nat)} {l : List Nat} {fl : Int32} {y : gS} (h0 : E0 w d all n ty) (h : EN w d all n ty pre (l :: L) fl y) : f_X11_kinshipNow y = some (nI (kO d none l)) := by
  obtain ⟨s1, s2⟩ := h.sm h0
  have hl : l ∈ oT all := by rw [h.1]; simp
  obtain ⟨q1, q2, q3⟩ := h.2.1
  rw [kO_ki]
  exact m_kinshipNow s1 h0.2.1 q1.2 (q3 l (by simp)).2 (in_lt h0.2.1 h0.2.2.2.2.1 hl)
def MX (d : Dat) (T : List (List Nat)) (x2 x3 : Int32) : Prop := (T = [] ∧ x2 = gm1) ∨ (T ≠ [] ∧ x2 = nI (mxF (T.map (kO d none))) ∧ x3 = nI (dig 0 (fk d none (mxF (T.map (kO d none))) T)))
theorem m_kin_23 {w : gS} {d : Dat} {all n ty : Nat} {asc : List Nat} (h0 : E0 w d all n ty) (ho : OT all n asc) (hw : RW w asc) {x1 : Int32} : Ok (f_X11_kin_23 x1 gF gm1 (nI 0) (nI 1) w) (fun q => (∃ a c, MX d (oT all) a c ∧ q.1 = if x1 = 0 then a else c) ∧ SE w q.2) := by
  unfold f_X11_kin_23
  refine gforL (fun L s => ∃ pre, EN w d all n ty pre L s.2.2.1 s.2.2.2 ∧ MX d pre s.1 s.2.1) (fun l L rec s hi hr => ?_) (fun rec s hi => ?_) (oT all) gF _ h0.ln ⟨[], EN.s ho hw, Or.inl ⟨rfl, rfl⟩⟩
  · obtain ⟨x2, x3, x4, y⟩ := s
    obtain ⟨pre, g1, g2⟩ := hi
    dsimp only at g1 g2
    obtain ⟨e1, e2, e3, rfl, e5, e6, e7⟩ := g1.gn h0
    have hk := g1.kn h0
    have hk56 : kO d none l ≤ 56 := by
      have := kO_le (d := d) l none
      have := e6.1
      omega
    have hm56 : mxF (pre.map (kO d none)) ≤ 56 := mxF_le (fun a ha => by
      obtain ⟨x, hx, rfl⟩ := List.mem_map.mp ha
      have h1 := kO_le (d := d) x none
      have h2 := (oT_b7 x (show x ∈ oT all by rw [g1.1]; simp [hx])).2.1
      omega)
    have hnew : (pre = [] ∨ mxF (pre.map (kO d none)) < kO d none l) → MX d (pre ++ [l]) (nI (kO d none l)) (nI (dig 0 l)) := fun hc => by
      have hm : max (mxF (pre.map (kO d none))) (kO d none l) = kO d none l := by
        rcases hc with rfl | hc
        · show max 0 _ = _; omega
        · omega
      refine Or.inr ⟨by simp, ?_, ?_⟩
      · rw [List.map_append, List.map_cons, List.map_nil, mxF1, hm]
      · rw [List.map_append, List.map_cons, List.map_nil, mxF1, hm, fk_0]
        · unfold fk
          rw [List.filter_cons, if_pos (by simp)]
          rfl
        · rw [List.filter_eq_nil_iff]
          intro x hx q
          rcases hc with rfl | hc
          · cases hx
          · have := mxF_m (List.mem_map.mpr ⟨x, hx, rfl⟩ : kO d none x ∈ pre.map (kO d none))
            simp at q
            omega
    show Ok (f_X11_kin_23_b x1 (fun x2 x3 x4 z => rec (x2, x3, x4, z)) x2 x3 (nI 1) y) _
    unfold f_X11_kin_23_b
    rw [q_if1, hk, q_gb, e2, q_gb]
    rcases g2 with ⟨k1, k2⟩ | ⟨k1, k2, k3⟩
    · have hlt : ¬ nI (kO d none l) ≤ gm1 := by
        intro q
        rw [Int32.le_iff_toInt_le, nI_toInt (by omega)] at q
        have : gm1.toInt = -1 := by decide
        omega
      rw [k2, if_neg hlt]
      exact g1.go.b (fun q hq => hr _ ⟨pre ++ [l], hq.1, hnew (Or.inl k1)⟩)
    · rw [k2, q_ifle (by omega) (by omega)]
      by_cases c : kO d none l ≤ mxF (pre.map (kO d none))
      · rw [if_pos c]
        refine g1.go.b (fun q hq => hr _ ⟨pre ++ [l], hq.1, Or.inr ⟨by simp, ?_, ?_⟩⟩)
        · rw [List.map_append, List.map_cons, List.map_nil, mxF1, Nat.max_eq_left c]
        · rw [List.map_append, List.map_cons, List.map_nil, mxF1, Nat.max_eq_left c, fk_1, k3]
          intro q
          rw [List.filter_eq_nil_iff] at q
          obtain ⟨l0, hl0, hl1⟩ := List.mem_map.mp (mxF_in (A := pre.map (kO d none)) (by simpa using k1))
          exact q l0 hl0 (by simpa using hl1)
      · rw [if_neg c]
        exact g1.go.b (fun q hq => hr _ ⟨pre ++ [l], hq.1, hnew (Or.inr (by omega))⟩)
  · obtain ⟨x2, x3, x4, y⟩ := s
    obtain ⟨pre, g1, g2⟩ := hi
    dsimp only at g1 g2
    obtain ⟨rfl, e⟩ := g1.fl0
    show Ok (f_X11_kin_23_b x1 (fun x2 x3 x4 z => rec (x2, x3, x4, z)) x2 x3 (nI 0) y) _
    unfold f_X11_kin_23_b
    rw [q_if00]
    rw [← e] at g2
    split
    · exact Ok.i ⟨⟨x2, x3, g2, rfl⟩, g1.se⟩
    · exact Ok.i ⟨⟨x2, x3, g2, rfl⟩, g1.se⟩
