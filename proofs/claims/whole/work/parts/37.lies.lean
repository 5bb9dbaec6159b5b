/-! sets that lie together, by the reference -/
def rst (S : Nat) : Nat → List Nat → Nat
  | _, [] => 0
  | acc, g :: l => (decide (acc ||| 2 ^ g = S)).toNat + rst S (acc ||| 2 ^ g) l
def rct (S : Nat) : List Nat → Nat
  | [] => 0
  | g :: l => rst S 0 (g :: l) + rct S l
theorem rst_out {S x : Nat} (hx : S.testBit x = false) : ∀ (l : List Nat) (acc : Nat), acc.testBit x = true → rst S acc l = 0
  | [], _, _ => rfl
  | g :: l, acc, h => by
    have h1 : (acc ||| 2 ^ g).testBit x = true := by rw [bt_or, h]; rfl
    show _ + rst S (acc ||| 2 ^ g) l = 0
    rw [rst_out hx l _ h1, decide_eq_false (fun q => by rw [q, hx] at h1; cases h1)]
    rfl
theorem rst_in {S : Nat} : ∀ (l : List Nat) (acc : Nat), nd acc S = 0 → (∀ x ∈ l, acc.testBit x = false) → l.Nodup → (∀ x, S.testBit x = true → acc.testBit x = true ∨ x ∈ l) → rst S acc l = if acc = S then 0 else (decide (gpG (fun x => S.testBit x) l true = 0)).toNat
  | [], acc, h1, h2, h3, h4 => by
    have : acc = S := by
      apply Nat.eq_of_testBit_eq
      intro i
      apply bool_ext
      constructor
      · exact nd_0.mp h1 i
      · intro q
        rcases h4 i q with q | q
        · exact q
        · cases q
    rw [if_pos this]
    rfl
  | g :: l, acc, h1, h2, h3, h4 => by
    rw [List.nodup_cons] at h3
    have hg := h2 g (by simp)
    show (decide (acc ||| 2 ^ g = S)).toNat + rst S (acc ||| 2 ^ g) l = _
    cases c : S.testBit g
    · have e1 : (acc ||| 2 ^ g).testBit g = true := by rw [bt_or]; simp
      rw [rst_out c l _ e1, decide_eq_false (fun q => by rw [q, c] at e1; cases e1)]
      by_cases e : acc = S
      · rw [if_pos e]; rfl
      · rw [if_neg e]
        have hany : l.any (fun x => S.testBit x) = true := by
          apply Classical.byContradiction
          intro hn
          apply e
          apply Nat.eq_of_testBit_eq
          intro i
          apply bool_ext
          constructor
          · exact nd_0.mp h1 i
          · intro q
            rcases h4 i q with q2 | q2
            · exact q2
            · rcases List.mem_cons.mp q2 with rfl | q2
              · rw [c] at q; cases q
              · exact absurd (List.any_eq_true.mpr ⟨i, q2, q⟩) hn
        rw [gpG_s]
        try dsimp only
        rw [c, if_neg (show ¬ false = true by decide), hany]
        have : decide ((true && true).toNat + gpG (fun x => S.testBit x) l true = 0) = false := decide_eq_false (by simp)
        rw [this]
        rfl
    · have hsub : nd (acc ||| 2 ^ g) S = 0 := by
        rw [nd_0] at h1 ⊢
        intro i hi
        rw [bt_or, Bool.or_eq_true] at hi
        rcases hi with hi | hi
        · exact h1 i hi
        · simp at hi; subst hi; exact c
      have ih := rst_in (S := S) l (acc ||| 2 ^ g) hsub (fun x hx => by
        rw [bt_or, h2 x (List.mem_cons_of_mem g hx)]
        have : g ≠ x := fun q => h3.1 (by rw [q]; exact hx)
        simp [this]) h3.2 (fun x hx => by
        rcases h4 x hx with q | q
        · exact Or.inl (by rw [bt_or, q]; rfl)
        · rcases List.mem_cons.mp q with rfl | q
          · exact Or.inl (by rw [bt_or]; simp)
          · exact Or.inr q)
      have hne : acc ≠ S := fun q => by rw [q, c] at hg; cases hg
      rw [ih, if_neg hne, gpG_s]
      try dsimp only
      rw [c, if_pos rfl]
      by_cases e : acc ||| 2 ^ g = S
      · rw [if_pos e, decide_eq_true e]
        have h0 : gpG (fun x => S.testBit x) l true = 0 := by
          refine gpG_0 (fun x hx => ?_)
          cases q : S.testBit x
          · rfl
          · exfalso
            rw [← e, bt_or, h2 x (List.mem_cons_of_mem g hx)] at q
            have : g ≠ x := fun q => h3.1 (by rw [q]; exact hx)
            simp [this] at q
        rw [h0]
        rfl
      · rw [if_neg e, decide_eq_false e]
        simp
theorem rct_out {S x : Nat} (hx : S.testBit x = true) : ∀ (l : List Nat), x ∉ l → rct S l = 0
  | [], _ => rfl
  | g :: l, h => by
    have hgx : g ≠ x := fun q => h (by rw [q]; simp)
    have hl : x ∉ l := fun q => h (List.mem_cons_of_mem g q)
    have key : ∀ (l : List Nat) (acc : Nat), acc.testBit x = false → x ∉ l → rst S acc l = 0 := fun l => by
      induction l with
      | nil => intro _ _ _; rfl
      | cons a l ih =>
        intro acc ha hm
        have hax : a ≠ x := fun q => hm (by rw [q]; simp)
        have h1 : (acc ||| 2 ^ a).testBit x = false := by rw [bt_or, ha]; simp [hax]
        show _ + rst S (acc ||| 2 ^ a) l = 0
        rw [ih _ h1 (fun q => hm (List.mem_cons_of_mem a q)), decide_eq_false (fun q => by rw [q, hx] at h1; cases h1)]
        rfl
    show rst S 0 (g :: l) + rct S l = 0
    rw [key (g :: l) 0 (Nat.zero_testBit x) h, rct_out hx l hl]
/-- how often a set is a stretch of a row: once, if it lies together; else never -/
theorem rct_in {S : Nat} (h0 : S ≠ 0) : ∀ (l : List Nat), l.Nodup → (∀ x, S.testBit x = true → x ∈ l) → rct S l = (decide (gpG (fun x => S.testBit x) l false = 0)).toNat
  | [], _, h => by
    exfalso
    apply h0
    apply Nat.eq_of_testBit_eq
    intro i
    rw [Nat.zero_testBit]
    cases q : S.testBit i
    · rfl
    · exact absurd (h i q) (by simp)
  | g :: l, hn, h => by
    have hn2 := hn
    rw [List.nodup_cons] at hn
    show rst S 0 (g :: l) + rct S l = _
    rw [gpG_s]
    try dsimp only
    cases c : S.testBit g
    · have e1 : (0 ||| 2 ^ g).testBit g = true := by rw [bt_or]; simp
      have : rst S 0 (g :: l) = 0 := by
        show (decide (0 ||| 2 ^ g = S)).toNat + rst S (0 ||| 2 ^ g) l = 0
        rw [rst_out c l _ e1, decide_eq_false (fun q => by rw [q, c] at e1; cases e1)]
        rfl
      rw [this, rct_in h0 l hn.2 (fun x hx => by
        rcases List.mem_cons.mp (h x hx) with rfl | q
        · rw [c] at hx; cases hx
        · exact q), if_neg (show ¬ false = true by decide), Bool.false_and]
      simp
    · rw [rct_out c l hn.1, rst_in (g :: l) 0 nd0 (fun x _ => Nat.zero_testBit x) hn2 (fun x hx => Or.inr (h x hx)), if_neg (fun q => h0 q.symm), gpG_s]
      try dsimp only
      rw [c, if_pos rfl]
      rfl
/-- the array of how often -/
def LA (w : gS) (F : Nat → Nat) : Prop := ∀ S, S < 128 → w 6 S = nI (F S)
theorem m_marks_14 {l : List Nat} (hb : B7 l) {x1 : Int32} {K : Int32 → gS → Option gS} {P : gS → Prop} : ∀ j i acc (F : Nat → Nat) m (w : gS), i + j = l.length → j < m → acc < 128 → RW w l → LA w F → (∀ w', RW w' l → LA w' (fun S => F S + rst S acc (l.drop i)) → (∀ a, a ≠ 6 → w' a = w a) → Ok (K (x1 + nI 1) w') P) → Ok (f_X11_marks_14 x1 K m (nI acc) (nI i) w) P
  | j, i, acc, F, 0, w, hi, hm, _, _, _, _ => by omega
  | 0, i, acc, F, m + 1, w, hi, hm, ha, hr, hL, hK => by
    have h7 := hb.1
    show Ok (f_X11_marks_14_b x1 K (fun x2 x3 z => f_X11_marks_14 x1 K m x2 x3 z) (nI acc) (nI i) w) P
    unfold f_X11_marks_14_b
    rw [hr.1, if_pos (nI_le (by omega) (by omega))]
    refine hK w hr ?_ (fun _ _ => rfl)
    rw [List.drop_of_length_le (by omega)]
    exact hL
  | j + 1, i, acc, F, m + 1, w, hi, hm, ha, hr, hL, hK => by
    have h7 := hb.1
    have hil : i < l.length := by omega
    have hx := hb.d (i := i)
    have hp : 2 ^ l.getD i 0 < 2 ^ 7 := Nat.pow_lt_pow_right (by omega) hx
    have ho : acc ||| 2 ^ l.getD i 0 < 2 ^ 7 := Nat.or_lt_two_pow ha hp
    show Ok (f_X11_marks_14_b x1 K (fun x2 x3 z => f_X11_marks_14 x1 K m x2 x3 z) (nI acc) (nI i) w) P
    unfold f_X11_marks_14_b
    rw [hr.1, if_neg (nI_ge hil (by omega)), q_gg (by omega) (by omega), nI_clamp (by omega), hr.2 i hil, q_sh1 (by omega), q_or, q_gl, q_gg (by omega) (by omega), q_gg (by omega) (by omega), nI_clamp (by omega), hL _ (by omega), nI_add, q_gl, nI_add]
    refine m_marks_14 hb j (i + 1) (acc ||| 2 ^ l.getD i 0) (fun S => F S + (decide (acc ||| 2 ^ l.getD i 0 = S)).toNat) m _ (by omega) (by omega) (by omega) ?_ ?_ (fun w' h1 h2 h3 => hK w' h1 ?_ (fun a qa => ?_))
    · refine ⟨?_, fun k hk => ?_⟩
      · rw [gup_n (by omega)]; exact hr.1
      · rw [gup_n (by omega)]; exact hr.2 k hk
    · intro S hS
      by_cases q : S = acc ||| 2 ^ l.getD i 0
      · subst q
        rw [gup_s]
        dsimp only
        rw [decide_eq_true rfl]
        rfl
      · rw [gup_n (by omega), hL S hS]
        dsimp only
        rw [decide_eq_false (fun e : acc ||| 2 ^ l.getD i 0 = S => q e.symm)]
        rfl
    · intro S hS
      rw [h2 S hS, getD_drop hil]
      show nI (F S + _ + rst S _ _) = nI (F S + (_ + rst S _ _))
      rw [Nat.add_assoc]
    · rw [h3 a qa]
      funext b
      rw [gup_n (by omega)]
theorem m_marks {w : gS} {l : List Nat} (hb : B7 l) (hr : RW w l) {F : Nat → Nat} (hL : LA w F) : Ok (f_X11_marks w) (fun w' => RW w' l ∧ LA w' (fun S => F S + rct S l) ∧ ∀ a, a ≠ 6 → w' a = w a) := by
  have h7 := hb.1
  unfold f_X11_marks f_X11_marks_2
  have key : ∀ j i (F : Nat → Nat) m (y : gS), i + j = l.length → j < m → RW y l → LA y F → (∀ a, a ≠ 6 → y a = w a) → Ok (gfix (fun (rec : Int32 × gS → Option gS) s => f_X11_marks_2_b (fun x1 z => rec (x1, z)) (s.1) (s.2)) m (nI i, y)) (fun w' => RW w' l ∧ LA w' (fun S => F S + rct S (l.drop i)) ∧ ∀ a, a ≠ 6 → w' a = w a) := by
    intro j
    induction j with
    | zero =>
      intro i F m y hi hm hy hF hw
      obtain ⟨m, rfl⟩ : ∃ k, m = k + 1 := ⟨m - 1, by omega⟩
      show Ok (f_X11_marks_2_b (fun x1 z => f_X11_marks_2 m x1 z) (nI i) y) _
      unfold f_X11_marks_2_b
      rw [hy.1, if_pos (nI_le (by omega) (by omega)), List.drop_of_length_le (by omega)]
      exact Ok.i ⟨hy, hF, hw⟩
    | succ j ih =>
      intro i F m y hi hm hy hF hw
      obtain ⟨m, rfl⟩ : ∃ k, m = k + 1 := ⟨m - 1, by omega⟩
      show Ok (f_X11_marks_2_b (fun x1 z => f_X11_marks_2 m x1 z) (nI i) y) _
      unfold f_X11_marks_2_b
      rw [hy.1, if_neg (nI_ge (show i < l.length by omega) (by omega))]
      refine m_marks_14 hb (j + 1) i 0 F gF y (by omega) (q_gF (by omega)) (by omega) hy hF (fun w' h1 h2 h3 => ?_)
      rw [nI_add]
      refine (ih (i + 1) _ m w' (by omega) (by omega) h1 h2 (fun a qa => by rw [h3 a qa, hw a qa])).m (fun u hu => ⟨hu.1, ?_, hu.2.2⟩)
      intro S hS
      rw [hu.2.1 S hS, getD_drop (show i < l.length by omega)]
      show nI (F S + rst S 0 _ + rct S _) = nI (F S + (rst S 0 _ + rct S _))
      rw [Nat.add_assoc]
  exact key l.length 0 F gF w (by omega) (q_gF (by omega)) hr hL (fun _ _ => rfl)
def smL (F : List Nat → Nat) : List (List Nat) → Nat
  | [] => 0
  | l :: L => F l + smL F L
theorem smL_a {F : List Nat → Nat} : ∀ (A B : List (List Nat)), smL F (A ++ B) = smL F A + smL F B
  | [], B => by show smL F B = 0 + smL F B; omega
  | a :: A, B => by show F a + smL F (A ++ B) = F a + smL F A + smL F B; rw [smL_a A B]; omega
/-- in how many gapless orders each set lies together -/
def LF (w : gS) (G : List (List Nat)) : Prop := w 0 10 = nI G.length ∧ ∀ S, S < 128 → w 6 S = nI (smL (rct S) G)
theorem m_lies_33 {w : gS} {d : Dat} {all n ty : Nat} {asc : List Nat} (h0 : E0 w d all n ty) (ho : OT all n asc) (hw : RW w asc) (h10 : LF w []) : Ok (f_X11_liesTogether_33 gF (nI 1) w) (fun y => LF y (gls d ty (oT all)) ∧ SE w y) := by
  unfold f_X11_liesTogether_33
  refine gforL (fun L s => ∃ pre, EN w d all n ty pre L s.1 s.2 ∧ LF s.2 (gls d ty pre)) (fun l L rec s hi hr => ?_) (fun rec s hi => ?_) (oT all) gF _ h0.ln ⟨[], EN.s ho hw, h10⟩
  · obtain ⟨x1, y⟩ := s
    obtain ⟨pre, g1, g2⟩ := hi
    dsimp only at g1 g2
    obtain ⟨e1, e2, e3, rfl, e5, e6, e7⟩ := g1.gn h0
    show Ok (f_X11_liesTogether_33_b (fun x1 z => rec (x1, z)) (nI 1) y) _
    unfold f_X11_liesTogether_33_b
    rw [q_if1, e1, q_gb, q_if0 (by omega)]
    by_cases c : gpS d ty l = 0
    · rw [if_pos c, g2.1, nI_add, q_gl]
      refine (m_marks (l := l) e6 (w := gup y 0 10 (nI ((gls d ty pre).length + 1))) ?_ (F := fun S => smL (rct S) (gls d ty pre)) ?_).b (fun u hu => ?_)
      · refine ⟨?_, fun k hk => ?_⟩
        · rw [gup_n (by omega)]; exact e7.1
        · rw [gup_n (by omega)]; exact e7.2 k hk
      · intro S hS
        rw [gup_n (by omega)]
        exact g2.2 S hS
      · have g3 : EN w d all n ty pre (l :: L) (nI 1) u := by
          obtain ⟨k1, ⟨⟨k2, k3⟩, k5, k6⟩, k7⟩ := g1
          refine ⟨k1, ⟨⟨rfl, hu.1⟩, k5, k6⟩, fun a h1 h2 h3 j hj => ?_⟩
          rw [hu.2.2 a h3, gup_n (by simp at hj; omega)]
          exact k7 a h1 h2 h3 j hj
        refine g3.go.b (fun q hq => hr _ ⟨pre ++ [l], hq.1, ?_, fun S hS => ?_⟩)
        · dsimp only
          rw [hq.2 0 (by omega), hu.2.2 0 (by omega), gup_s, gls_s, if_pos c, List.length_append]
          rfl
        · dsimp only
          rw [hq.2 6 (by omega), hu.2.1 S hS, gls_s, if_pos c, smL_a]
          rfl
    · rw [if_neg c]
      have e8 : gls d ty (pre ++ [l]) = gls d ty pre := by rw [gls_s, if_neg c, List.append_nil]
      refine g1.go.b (fun q hq => hr _ ⟨pre ++ [l], hq.1, ?_⟩)
      rw [e8]
      dsimp only
      unfold LF
      rw [hq.2 0 (by omega), hq.2 6 (by omega)]
      exact g2
  · obtain ⟨x1, y⟩ := s
    obtain ⟨pre, g1, g2⟩ := hi
    dsimp only at g1 g2
    obtain ⟨rfl, e⟩ := g1.fl0
    show Ok (f_X11_liesTogether_33_b (fun x1 z => rec (x1, z)) (nI 0) y) _
    unfold f_X11_liesTogether_33_b
    rw [q_if00, e]
    exact Ok.i ⟨g2, g1.se⟩
theorem m_lies {w : gS} {d : Dat} (h : SM w d) (v : VD d) : Ok (f_X11_liesTogether w) (fun y => LF y (gls d (2 ^ dt d - 1) (oT (2 ^ dg d - 1))) ∧ SE w y) := by
  have v1 := v.1
  have ho := OT.full (g := dg d) (by omega)
  unfold f_X11_liesTogether f_X11_liesTogether_2
  refine gforI0 (fun k s => s.1 = nI k ∧ (∀ j, j < k → s.2 6 j = nI 0) ∧ SE w s.2) (e := 128) (by omega) ⟨rfl, fun j hj => by omega, SE.rf⟩ (fun k rec s hk hi hr => ?_) (fun rec s hi => ?_)
  · obtain ⟨x1, y⟩ := s
    obtain ⟨g1, g2, g3⟩ := hi
    dsimp only at g1 g2 g3
    subst g1
    show Ok (f_X11_liesTogether_2_b (fun x1 z => rec (x1, z)) (nI k) y) _
    unfold f_X11_liesTogether_2_b
    rw [if_neg (nI_ge hk (by omega)), q_gg (by omega) (by omega), nI_clamp (by omega), q_gl, nI_add]
    refine hr _ ⟨rfl, fun j hj => ?_, g3.tr (SE.up (by unfold Kp; omega))⟩
    dsimp only
    by_cases q : j = k
    · subst q; rw [gup_s]
    · rw [gup_n (by omega)]; exact g2 j (by omega)
  · obtain ⟨x1, y⟩ := s
    obtain ⟨g1, g2, g3⟩ := hi
    dsimp only at g1 g2 g3
    subst g1
    show Ok (f_X11_liesTogether_2_b (fun x1 z => rec (x1, z)) (nI 128) y) _
    unfold f_X11_liesTogether_2_b
    rw [if_pos (nI_le (Nat.le_refl _) (by omega)), q_gl]
    have hs : SE y (gup y 0 10 (nI 0)) := SE.up (by unfold Kp; omega)
    have hy := (h.se g3).se hs
    refine (m_beginsAll hy v).b (fun u hu => ?_)
    refine (m_lies_33 (E0.mk h v ((g3.tr hs).tr hu.2.2.se) hu.2.1) ho hu.1 ⟨?_, fun S hS => ?_⟩).m (fun y' h' => ⟨h'.1, ((g3.tr hs).tr hu.2.2.se).tr h'.2⟩)
    · rw [hu.2.2 0 10 (by omega) (by omega), gup_s]
      rfl
    · rw [hu.2.2 6 S (by omega) (by omega), gup_n (by omega), g2 S hS]
      rfl
/-- whether a set lies together in each of a list -/
def lie (G : List (List Nat)) (S : Nat) : Bool := decide (S ≠ 0) && G.all (fun l => decide (gpG (fun x => S.testBit x) l false = 0))
theorem smL_eq {F : List Nat → Nat} {p : List Nat → Bool} : ∀ (G : List (List Nat)), (∀ l ∈ G, F l = (p l).toNat) → smL F G ≤ G.length ∧ (smL F G = G.length ↔ G.all p = true)
  | [], _ => ⟨Nat.le_refl _, by simp [smL]⟩
  | l :: G, h => by
    obtain ⟨h1, h2⟩ := smL_eq G (fun x hx => h x (List.mem_cons_of_mem l hx))
    have h3 := h l (by simp)
    have h4 : smL F (l :: G) = F l + smL F G := rfl
    rw [h4, h3, List.length_cons, List.all_cons]
    cases c : p l
    · constructor
      · show 0 + _ ≤ _; omega
      · show 0 + _ = _ ↔ (false && _) = true
        simp
        omega
    · constructor
      · show 1 + _ ≤ _; omega
      · show 1 + _ = _ ↔ (true && _) = true
        rw [Bool.true_and, ← h2]
        omega
theorem oT_nd {all : Nat} : ∀ n b l, l ∈ plm (mfP all none none) n b → l.Nodup ∧ ∀ x ∈ l, b.testBit x = false
  | 0, b, l, hl => by
    have hl : l ∈ [[]] := hl
    simp at hl
    subst hl
    exact ⟨List.nodup_nil, fun x hx => by cases hx⟩
  | n + 1, b, l, hl => by
    obtain ⟨g, r, h1, h2, h3, rfl⟩ := plm_m.mp hl
    obtain ⟨i1, i2⟩ := oT_nd n _ r h3
    have h5 := (mfP_hm all none none b g h2).2.2
    refine ⟨List.nodup_cons.mpr ⟨fun q => ?_, i1⟩, fun x hx => ?_⟩
    · have := i2 g q
      rw [bt_or] at this
      simp at this
    · rcases List.mem_cons.mp hx with rfl | hx
      · exact h5
      · have := i2 x hx
        rw [bt_or] at this
        simp at this
        exact this.1
theorem rct_0 : ∀ l : List Nat, rct 0 l = 0
  | [] => rfl
  | g :: l => by
    have key : ∀ (l : List Nat) (acc : Nat), rst 0 acc l = 0 := fun l => by
      induction l with
      | nil => intro _; rfl
      | cons a l ih =>
        intro acc
        have : acc ||| 2 ^ a ≠ 0 := fun q => by
          have h1 : (acc ||| 2 ^ a).testBit a = true := by rw [bt_or]; simp
          rw [q] at h1
          simp at h1
        show _ + rst 0 (acc ||| 2 ^ a) l = 0
        rw [ih, decide_eq_false this]
        rfl
    show rst 0 0 (g :: l) + rct 0 l = 0
    rw [key, rct_0 l]
theorem m_isCluster {w : gS} {n : Nat} (hn : n < 8) {G : List (List Nat)} (hG : ∀ l ∈ G, l ∈ oT (2 ^ n - 1)) (h0 : G ≠ []) (hl : G.length ≤ 5040) (hF : LF w G) {S : Nat} (hS : S ≤ 2 ^ n - 1) : f_X11_isCluster (nI S) w = some (nI (lie G S).toNat) := by
  have hf := full_lt (n := n) (by omega)
  have hsub := full_sub hS
  have key : smL (rct S) G < 2 ^ 31 ∧ (smL (rct S) G = G.length ↔ lie G S = true) := by
    unfold lie
    by_cases e : S = 0
    · subst e
      have : smL (rct 0) G = 0 := by
        clear hl h0 hG hF
        induction G with
        | nil => rfl
        | cons l G ih => show rct 0 l + smL (rct 0) G = 0; rw [rct_0, ih]
      have := List.length_pos_iff.mpr h0
      simp
      omega
    · have := smL_eq (F := rct S) (p := fun l => decide (gpG (fun x => S.testBit x) l false = 0)) G (fun l hl => by
        have hm := hG l hl
        refine rct_in e l (oT_nd _ _ l hm).1 (fun x hx => ?_)
        rw [plm_mem (mfP_hm _ none none) hf _ 0 l rfl nd0 hm]
        exact ⟨nd_0.mp hsub x hx, Nat.zero_testBit x⟩)
      rw [decide_eq_true e, Bool.true_and]
      exact ⟨by omega, this.2⟩
  unfold f_X11_isCluster
  rw [q_gg (by omega) (by omega), nI_clamp (by omega), hF.2 S (by omega), hF.1, q_ifeq key.1 (by omega)]
  by_cases c : lie G S = true
  · rw [if_pos (key.2.mpr c), c]; rfl
  · rw [if_neg (fun q => c (key.2.mp q))]
    rw [Bool.not_eq_true] at c
    rw [c]
    rfl
