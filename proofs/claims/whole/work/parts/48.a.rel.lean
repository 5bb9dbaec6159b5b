/-! the relation of the two states -/
/-- names of a site are among those that ever were -/
def NE (d : Dat) (E : List Nat) : Prop := ∀ t, t < dt d → dn d t ∈ E
def IW (w : gS) (d : Dat) : Prop := w 0 34 = nI (dg d) ∧ w 0 35 = nI (dt d) ∧ (∀ i, i < dg d → w 19 i = nI (da d i)) ∧ (∀ i, i < dg d → w 20 i = nI (ds d i)) ∧ ∀ i, i < dt d → w 21 i = nI (dn d i)
def IMG (z w : gS) (E : List Nat) : Prop := (z 0 14 = nI 0 ∧ w 0 33 = nI 0) ∨ (z 0 14 = nI 1 ∧ w 0 33 = nI 1 ∧ ∃ d, VN d ∧ SX z 5 d ∧ IW w d ∧ NE d E)
def TRR (z w : gS) (E : List Nat) (t : Nat) : Prop := (z (297 + 3 * t) 0 = nI 0 ∨ z (297 + 3 * t) 0 = nI 1) ∧ w 13 t = z (297 + 3 * t) 0 ∧ ∃ L : List Nat, L.Nodup ∧ (∀ c ∈ L, c ∈ E) ∧ z (297 + 3 * t) 1 = nI L.length ∧ w 14 t = nI L.length ∧ ∀ i, i < L.length → z (297 + 3 * t + 1) i = nI (L.getD i 0) ∧ w 15 (300 * t + i) = nI (L.getD i 0) ∧ w 16 (300 * t + i) = z (297 + 3 * t + 2) i
def LSR (z w : gS) (l : Nat) : Prop := w 17 l = z (309 + 2 * l) 0 ∧ (z (309 + 2 * l) 0 = gm1 ∨ ∃ s, s ≤ 30 ∧ z (309 + 2 * l) 0 = nI s) ∧ ∀ i, i < 30 → w 18 (30 * l + i) = z (309 + 2 * l + 1) i
/-- what isn't the site, the tape or what is made of the site -/
def RS2 (z w : gS) (E : List Nat) : Prop := IMG z w E ∧ (∀ t, t < 4 → TRR z w E t) ∧ ∀ l, l < 3 → LSR z w l
def TPR (z w : gS) (n : Nat) (by_ : Nat → Nat) : Prop := BT n by_ ∧ z 290 1 = nI n ∧ (∀ i, i < n → z 291 i = nI (by_ i)) ∧ w 0 15 = nI n ∧ (∀ i, i < n → w 8 i = nI (by_ i)) ∧ z 0 13 = w 0 16
def fullT (d : Dat) : Nat := 2 ^ dt d - 1
def fullG (d : Dat) : Nat := 2 ^ dg d - 1
/-- the gapless orders -/
def gG (d : Dat) : List (List Nat) := gls d (fullT d) (oT (fullG d))
def CPL (z : gS) (d : Dat) : Prop := z 15 0 = nI 0 ∧ z 20 0 = nI 0 ∧ (z 0 15 = nI 0 ∨ (z 0 15 = nI 1 ∧ PK z 13 (fullG d) none none (stT d (fullT d))))
def CTR (z : gS) (d : Dat) : Prop := z 0 16 = nI 0 ∨ (z 0 16 = nI 1 ∧ TK z 283 (dg d) (lie (gG d)))
def CSH (z : gS) (d : Dat) : Prop := z 0 17 = nI 0 ∨ (z 0 17 = nI 1 ∧ SB z (pLn d (dg d)))
def RelD (k : Nat) (z w : gS) (d : Dat) (n : Nat) (by_ : Nat → Nat) (E : List Nat) : Prop := VN d ∧ SX z 1 d ∧ SM w d ∧ NE d E ∧ WO E ∧ 2 * E.length + n ≤ k ∧ RS2 z w E ∧ TPR z w n by_ ∧ CPL z d ∧ CTR z d ∧ CSH z d
def Rel (k : Nat) (z w : gS) : Prop := ∃ d n by_ E, RelD k z w d n by_ E
/-- both answer alike, and go on in the relation -/
def AL {α : Type} (k : Nat) (o1 o2 : Option (α × gS)) : Prop := ∃ r z w, o1 = some (r, z) ∧ o2 = some (r, w) ∧ Rel k z w
theorem IMG.fr {z w z' w' : gS} {E E' : List Nat} (h : IMG z w E) (h1 : ∀ j, j = 14 → z' 0 j = z 0 j) (h2 : ∀ p, 5 ≤ p → p ≤ 8 → z' p = z p) (h3 : ∀ j, 33 ≤ j → w' 0 j = w 0 j) (h4 : ∀ p, 13 ≤ p → w' p = w p) (hE : ∀ c, c ∈ E → c ∈ E') : IMG z' w' E' := by
  unfold IMG IW at *
  rw [h1 14 rfl, h3 33 (by omega), h3 34 (by omega), h3 35 (by omega), h4 19 (by omega), h4 20 (by omega), h4 21 (by omega)]
  rcases h with h | ⟨h5, h6, d, h7, h8, h9, h10⟩
  · exact Or.inl h
  · exact Or.inr ⟨h5, h6, d, h7, h8.fr (h2 5 (by omega) (by omega)) (h2 6 (by omega) (by omega)) (h2 7 (by omega) (by omega)) (h2 8 (by omega) (by omega)), h9, fun t ht => hE _ (h10 t ht)⟩
theorem TRR.fr {z w z' w' : gS} {E E' : List Nat} {t : Nat} (h : TRR z w E t) (h2 : ∀ p, 297 ≤ p → z' p = z p) (h4 : ∀ p, 13 ≤ p → w' p = w p) (hE : ∀ c, c ∈ E → c ∈ E') : TRR z' w' E' t := by
  unfold TRR at *
  rw [h2 (297 + 3 * t) (by omega), h2 (297 + 3 * t + 1) (by omega), h2 (297 + 3 * t + 2) (by omega), h4 13 (by omega), h4 14 (by omega), h4 15 (by omega), h4 16 (by omega)]
  obtain ⟨a, b, L, c, e, f⟩ := h
  exact ⟨a, b, L, c, fun x hx => hE x (e x hx), f⟩
theorem LSR.fr {z w z' w' : gS} {l : Nat} (h : LSR z w l) (h2 : ∀ p, 297 ≤ p → z' p = z p) (h4 : ∀ p, 13 ≤ p → w' p = w p) : LSR z' w' l := by
  unfold LSR at *
  rw [h2 (309 + 2 * l) (by omega), h2 (309 + 2 * l + 1) (by omega), h4 17 (by omega), h4 18 (by omega)]
  exact h
theorem RS2.fr {z w z' w' : gS} {E E' : List Nat} (h : RS2 z w E) (h1 : ∀ j, j = 14 → z' 0 j = z 0 j) (h2 : ∀ p, 5 ≤ p → p ≤ 8 → z' p = z p) (h2b : ∀ p, 297 ≤ p → z' p = z p) (h3 : ∀ j, 33 ≤ j → w' 0 j = w 0 j) (h4 : ∀ p, 13 ≤ p → w' p = w p) (hE : ∀ c, c ∈ E → c ∈ E') : RS2 z' w' E' := ⟨h.1.fr h1 h2 h3 h4 hE, fun t ht => (h.2.1 t ht).fr h2b h4 hE, fun l hl => (h.2.2 l hl).fr h2b h4⟩
/-- the class's kept cells stay; the rest is scratch -/
def ZE (z z' : gS) : Prop := ∀ p j, (p < 9 ∨ (13 ≤ p ∧ p ≤ 17) ∨ (p = 20 ∧ j = 0) ∨ (283 ≤ p ∧ p ≠ 290 ∧ p ≠ 296) ∨ (p = 290 ∧ j = 1)) → z' p j = z p j
theorem ZE.rf {z : gS} : ZE z z := fun _ _ _ => rfl
theorem ZE.tr {z z1 z2 : gS} (h1 : ZE z z1) (h2 : ZE z1 z2) : ZE z z2 := fun p j a => (h2 p j a).trans (h1 p j a)
theorem ZE.row {z z' : gS} (h : ZE z z') {p : Nat} (hp : p < 9 ∨ (13 ≤ p ∧ p ≤ 17) ∨ (283 ≤ p ∧ p ≠ 290 ∧ p ≠ 296)) : z' p = z p := by
  funext j
  exact h p j (by omega)
theorem SE.row {w w' : gS} (h : SE w w') {p : Nat} (hp : p = 1 ∨ p = 2 ∨ p = 3 ∨ p = 8 ∨ 13 ≤ p) : w' p = w p := by
  funext j
  exact h p j (by unfold Kp; omega)
theorem RelD.fr {k : Nat} {z w z' w' : gS} {d : Dat} {n : Nat} {by_ : Nat → Nat} {E : List Nat} (h : RelD k z w d n by_ E) (hz : ZE z z') (hw : SE w w') : RelD (k + 1) z' w' d n by_ E := by
  obtain ⟨a1, a2, a3, a4, a5, a6, a7, a8, a9, a10, a11⟩ := h
  have r0 := hz.row (p := 0) (by omega)
  refine ⟨a1, a2.fr (hz.row (by omega)) (hz.row (by omega)) (hz.row (by omega)) (hz.row (by omega)), a3.se hw, a4, a5, by omega, a7.fr (fun j _ => by rw [r0]) (fun p _ _ => hz.row (by omega)) (fun p _ => hz.row (by omega)) (fun j hj => hw 0 j (by unfold Kp; omega)) (fun p hp => hw.row (by omega)) (fun _ q => q), ?_, ?_, ?_, ?_⟩
  · obtain ⟨b1, b2, b3, b4, b5, b6⟩ := a8
    exact ⟨b1, by rw [hz 290 1 (by omega)]; exact b2, by rw [hz.row (p := 291) (by omega)]; exact b3, by rw [hw 0 15 (by unfold Kp; omega)]; exact b4, by rw [hw.row (p := 8) (by omega)]; exact b5, by rw [r0, hw 0 16 (by unfold Kp; omega)]; exact b6⟩
  · unfold CPL PK PS TWs at *
    rw [r0, hz.row (p := 15) (by omega), hz 20 0 (by omega), hz.row (p := 13) (by omega), hz.row (p := 13 + 1) (by omega), hz.row (p := 13 + 3) (by omega), hz.row (p := 13 + 4) (by omega)]
    exact a9
  · unfold CTR TK CT KK at *
    rw [r0, hz.row (p := 283) (by omega), hz.row (p := 283 + 1) (by omega), hz.row (p := 283 + 3) (by omega), hz.row (p := 283 + 4) (by omega), hz.row (p := 283 + 5) (by omega), hz.row (p := 283 + 6) (by omega)]
    exact a10
  · unfold CSH SB KK at *
    rw [r0, hz.row (p := 292) (by omega), hz.row (p := 293) (by omega)]
    exact a11
theorem RelD.s {k : Nat} {z w : gS} {d : Dat} {n : Nat} {by_ : Nat → Nat} {E : List Nat} (h : RelD k z w d n by_ E) : Rel (k + 1) z w := ⟨d, n, by_, E, h.fr ZE.rf SE.rf⟩
/-- both answer from their functions; the states change in scratch only -/
theorem AL.e {α : Type} {k : Nat} {z w : gS} (h : Rel k z w) {o1 o2 : Option (α × gS)} {r : α} (h1 : Ok o1 (fun q => q.1 = r ∧ ZE z q.2)) (h2 : Ok o2 (fun q => q.1 = r ∧ SE w q.2)) : AL (k + 1) o1 o2 := by
  obtain ⟨d, n, by_, E, hR⟩ := h
  obtain ⟨q1, e1, f1, g1⟩ := h1
  obtain ⟨q2, e2, f2, g2⟩ := h2
  refine ⟨r, q1.2, q2.2, ?_, ?_, d, n, by_, E, hR.fr g1 g2⟩
  · rw [e1, ← f1]
  · rw [e2, ← f2]
theorem AL.z {α : Type} {k : Nat} {z w : gS} (h : Rel k z w) {o1 o2 : Option (α × gS)} {r : α} (h1 : o1 = some (r, z)) (h2 : o2 = some (r, w)) : AL (k + 1) o1 o2 := AL.e h ⟨_, h1, rfl, ZE.rf⟩ ⟨_, h2, rfl, SE.rf⟩
/-- the site becomes another one -/
theorem RelD.site {k : Nat} {z w z' w' : gS} {d d' : Dat} {n : Nat} {by_ : Nat → Nat} {E : List Nat} (h : RelD k z w d n by_ E) (v : VN d') (hx : SX z' 1 d') (hm : SM w' d') (hE : NE d' E) (hf : z' 0 15 = nI 0 ∧ z' 0 16 = nI 0 ∧ z' 0 17 = nI 0) (hz : ∀ p j, ¬ (1 ≤ p ∧ p ≤ 4) → ¬ (p = 0 ∧ (j = 15 ∨ j = 16 ∨ j = 17)) → z' p j = z p j) (hw : FrM w w') : RelD (k + 1) z' w' d' n by_ E := by
  obtain ⟨a1, a2, a3, a4, a5, a6, a7, a8, a9, a10, a11⟩ := h
  have zr : ∀ p, 5 ≤ p → z' p = z p := fun p hp => by funext j; exact hz p j (by omega) (by omega)
  have wr : ∀ p, 4 ≤ p → w' p = w p := fun p hp => by funext j; exact hw p j (by omega) (by omega)
  refine ⟨v, hx, hm, hE, a5, by omega, a7.fr (fun j hj => hz 0 j (by omega) (by omega)) (fun p h1 _ => zr p h1) (fun p h1 => zr p (by omega)) (fun j hj => hw 0 j (by omega) (by omega)) (fun p hp => wr p (by omega)) (fun _ q => q), ?_, ?_, Or.inl hf.2.1, Or.inl hf.2.2⟩
  · obtain ⟨b1, b2, b3, b4, b5, b6⟩ := a8
    exact ⟨b1, by rw [zr 290 (by omega)]; exact b2, by rw [zr 291 (by omega)]; exact b3, by rw [hw 0 15 (by omega) (by omega)]; exact b4, by rw [wr 8 (by omega)]; exact b5, by rw [hz 0 13 (by omega) (by omega), hw 0 16 (by omega) (by omega)]; exact b6⟩
  · obtain ⟨c1, c2, _⟩ := a9
    exact ⟨by rw [zr 15 (by omega)]; exact c1, by rw [zr 20 (by omega)]; exact c2, Or.inl hf.1⟩
theorem siteCh {z z1 : gS} {d' : Dat} (hf : Fr z z1 1) (hx : SX z1 1 d') : SX (gup (gup (gup z1 0 15 (nI 0)) 0 16 (nI 0)) 0 17 (nI 0)) 1 d' ∧ (gup (gup (gup z1 0 15 (nI 0)) 0 16 (nI 0)) 0 17 (nI 0) 0 15 = nI 0 ∧ gup (gup (gup z1 0 15 (nI 0)) 0 16 (nI 0)) 0 17 (nI 0) 0 16 = nI 0 ∧ gup (gup (gup z1 0 15 (nI 0)) 0 16 (nI 0)) 0 17 (nI 0) 0 17 = nI 0) ∧ ∀ p j, ¬ (1 ≤ p ∧ p ≤ 4) → ¬ (p = 0 ∧ (j = 15 ∨ j = 16 ∨ j = 17)) → gup (gup (gup z1 0 15 (nI 0)) 0 16 (nI 0)) 0 17 (nI 0) p j = z p j := by
  refine ⟨hx.fr (by funext b; rw [gup_n (by omega), gup_n (by omega), gup_n (by omega)]) (by funext b; rw [gup_n (by omega), gup_n (by omega), gup_n (by omega)]) (by funext b; rw [gup_n (by omega), gup_n (by omega), gup_n (by omega)]) (by funext b; rw [gup_n (by omega), gup_n (by omega), gup_n (by omega)]), ⟨?_, ?_, ?_⟩, fun p j h1 h2 => ?_⟩
  · rw [gup_n (by omega), gup_n (by omega), gup_s]
  · rw [gup_n (by omega), gup_s]
  · exact gup_s
  · rw [gup_n (by omega), gup_n (by omega), gup_n (by omega), hf p (by omega)]
/-- an int is below 0, or too big, or a place -/
theorem ixs (x : Int32) {n : Nat} (hn : n < 2 ^ 31) : (x < 0 ∨ nI n ≤ x) ∨ ∃ j, j < n ∧ x = nI j := by
  rcases pk_ix x hn with h | h | h
  · exact Or.inl (Or.inl h)
  · exact Or.inl (Or.inr h)
  · exact Or.inr h
theorem in_n {x : Int32} {m : Nat} {w : gS} (hm : m < 2 ^ 30) (h : x < 0 ∨ nI (m + 1) ≤ x) : f_X11_in x (nI 0) (nI m) w = some (nI 0) := by
  refine m_in_n ?_
  rcases h with h | h
  · exact Or.inl h
  · right
    rw [Int32.lt_iff_toInt_lt, nI_toInt (by omega)]
    rw [Int32.le_iff_toInt_le, nI_toInt (by omega)] at h
    omega
theorem le_n {x : Int32} {m : Nat} (hm : m < 2 ^ 30) (h : nI (m + 1) ≤ x) : ¬ x ≤ nI m := by
  rw [Int32.le_iff_toInt_le, nI_toInt (by omega)] at h ⊢
  omega
theorem lt_n {x : Int32} {m : Nat} (hm : m < 2 ^ 30) (h : nI m ≤ x) : ¬ x < nI m := by
  rw [Int32.le_iff_toInt_le, nI_toInt (by omega)] at h
  rw [Int32.lt_iff_toInt_lt, nI_toInt (by omega)]
  omega
theorem ge_nn {x : Int32} {m : Nat} (hm : m < 2 ^ 31) (h : nI m ≤ x) : ¬ x < 0 := by
  rw [Int32.le_iff_toInt_le, nI_toInt (by omega)] at h
  rw [Int32.lt_iff_toInt_lt]
  have : (0 : Int32).toInt = 0 := by decide
  omega
theorem lt0_ne {x : Int32} {m : Nat} (hm : m < 2 ^ 31) (h : x < 0) : x ≠ nI m := fun e => by rw [e] at h; exact nI_pos hm h
theorem ge_ne {x : Int32} {m n : Nat} (hmn : m < n) (hn : n < 2 ^ 31) (h : nI n ≤ x) : x ≠ nI m := fun e => by rw [e] at h; exact nI_ge hmn hn h
/-! the graves -/
theorem c_grave {k : Nat} {z w : gS} (h : Rel k z w) (x : Int32) : AL (k + 1) (f_X10_grave x z) (f_X11_grave x w) := by
  have h' := h
  obtain ⟨d, n, by_, E, hR⟩ := h'
  have hR' := hR
  obtain ⟨v, hx, hm, hE, _⟩ := hR'
  rcases ixs x (n := 1000) (by omega) with hb | ⟨a, ha, rfl⟩
  · refine AL.z h (r := -2) ?_ ?_
    · unfold f_X10_grave
      rcases hb with q | q
      · rw [if_pos q]
      · rw [if_neg (ge_nn (by omega) q), if_neg (le_n (by omega) q)]
    · unfold f_X11_grave
      rw [in_n (by omega) hb, q_gb, q_if00]
  · unfold f_X10_grave
    rw [q_iflt0 (by omega), if_pos (nI_le (show a ≤ 999 by omega) (by omega))]
    by_cases hg : dg d < 7
    · obtain ⟨z1, e1, e2, e3⟩ := x_dig hx v.1 (a := a) hg
      obtain ⟨w1, f1, f2, f3⟩ := m_grave hm v.1 (a := a) (by omega) hg
      obtain ⟨s1, s2, s3⟩ := siteCh e3 e2
      refine ⟨nI (dg d), _, w1, ?_, f1, dAdd d a 0, n, by_, E, hR.site (v.add hg (by omega) (Nat.two_pow_pos _)) s1 f2 hE s2 s3 f3⟩
      rw [e1, q_gb, q_if0le (by omega), x_siteChanged, q_gb]
    · refine AL.z h (r := -4) ?_ ?_
      · rw [x_dig_full hx v.1 hg, q_gb]
        exact if_neg (show ¬ (0 : Int32) ≤ gm1 by decide)
      · exact m_grave_full hm v.1 (by omega) hg
