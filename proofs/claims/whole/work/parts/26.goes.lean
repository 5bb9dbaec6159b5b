/-! the reference's row and its step -/
def RW (w : gS) (l : List Nat) : Prop := w 0 7 = nI l.length ∧ ∀ i, i < l.length → w 4 i = nI (l.getD i 0)
def B7 (l : List Nat) : Prop := l.length ≤ 7 ∧ ∀ x ∈ l, x < 7
theorem B7.d {l : List Nat} (h : B7 l) {i : Nat} : l.getD i 0 < 7 := by
  by_cases e : i < l.length
  · have : l.getD i 0 = l[i] := by rw [List.getD_eq_getElem?_getD, List.getElem?_eq_getElem e]; rfl
    rw [this]
    exact h.2 _ (List.getElem_mem e)
  · rw [List.getD_eq_getElem?_getD, List.getElem?_eq_none (by omega)]
    show 0 < 7
    omega
theorem nx_i_lt {r : Nat → Nat} : ∀ {k i}, nx_i r k = i + 1 → i < k ∧ r i ≤ r (i + 1)
  | 0, i, h => by cases h
  | k + 1, i, h => by
    unfold nx_i at h
    split at h
    · have := nx_i_lt h
      exact ⟨by omega, this.2⟩
    · have : i = k := by omega
      subst this
      exact ⟨by omega, by omega⟩
theorem nx_j_s {r : Nat → Nat} {v i : Nat} (hv : v ≤ r (i + 1)) : ∀ {k}, i + 1 ≤ k → i + 1 ≤ nx_j r v k ∧ nx_j r v k ≤ k ∧ v ≤ r (nx_j r v k)
  | 0, h => by omega
  | k + 1, h => by
    unfold nx_j
    split
    · rename_i q
      have : i + 1 ≤ k := by
        by_cases e : i = k
        · subst e; omega
        · omega
      obtain ⟨h1, h2, h3⟩ := nx_j_s hv this
      exact ⟨h1, by omega, h3⟩
    · exact ⟨h, Nat.le_refl _, by omega⟩
/-- t from each end of what is behind i have changed their places -/
def rv (r : Nat → Nat) (i n t : Nat) : Nat → Nat := fun x => if i < x ∧ x < n ∧ (x < i + 1 + t ∨ n - 1 - t < x) then r (n + i - x) else r x
theorem m_go_107 {w : gS} {r : Nat → Nat} {i n : Nat} (hn : n ≤ 7) (hi : i + 1 < n) (h4 : ∀ x, x < n → w 4 x = nI (r x)) : Ok (f_X11_goesOn_107 gF (nI (n - 1)) (nI (i + 1)) w) (fun q => q.1 = nI 1 ∧ (∀ x, x < n → q.2 4 x = nI (nx_r r i n x)) ∧ ∀ a, a ≠ 4 → q.2 a = w a) := by
  unfold f_X11_goesOn_107
  refine gforI0 (fun t s => s.1 = nI (n - 1 - t) ∧ s.2.1 = nI (i + 1 + t) ∧ (∀ x, x < n → s.2.2 4 x = nI (rv r i n t x)) ∧ ∀ a, a ≠ 4 → s.2.2 a = w a) (e := (n - 1 - i) / 2) (by omega) ⟨rfl, rfl, fun x hx => ?_, fun a _ => rfl⟩ (fun t rec s ht hI hr => ?_) (fun rec s hI => ?_)
  · dsimp only
    rw [h4 x hx]
    unfold rv
    rw [if_neg (by omega)]
  · obtain ⟨x4, x5, y⟩ := s
    obtain ⟨g1, g2, g3, g4⟩ := hI
    dsimp only at g1 g2 g3 g4
    subst g1
    subst g2
    show Ok (f_X11_goesOn_107_b (fun x4 x5 z => rec (x4, x5, z)) (nI (n - 1 - t)) (nI (i + 1 + t)) y) _
    unfold f_X11_goesOn_107_b
    rw [if_neg (nI_ge (show i + 1 + t < n - 1 - t by omega) (by omega)), q_gg (by omega) (by omega), nI_clamp (by omega), q_gl, q_gg (by omega) (by omega), q_gg (by omega) (by omega), nI_clamp (by omega), q_gl, q_gg (by omega) (by omega), q_gl, q_pred (by omega), nI_add]
    refine hr _ ⟨by dsimp only; rw [show n - 1 - t - 1 = n - 1 - (t + 1) by omega], rfl, fun x hx => ?_, fun a ha => ?_⟩
    · dsimp only
      by_cases c1 : x = n - 1 - t
      · subst c1
        rw [gup_s, g3 _ (by omega)]
        unfold rv
        rw [if_neg (by omega), if_pos (by omega), show n + i - (n - 1 - t) = i + 1 + t by omega]
      · rw [gup_n (Or.inr c1)]
        by_cases c2 : x = i + 1 + t
        · subst c2
          rw [gup_s, g3 _ (by omega)]
          unfold rv
          rw [if_neg (by omega), if_pos (by omega), show n + i - (i + 1 + t) = n - 1 - t by omega]
        · rw [gup_n (Or.inr c2), g3 x hx]
          unfold rv
          by_cases c3 : i < x ∧ x < n ∧ (x < i + 1 + t ∨ n - 1 - t < x)
          · rw [if_pos c3, if_pos (by omega)]
          · rw [if_neg c3, if_neg (by omega)]
    · dsimp only
      funext b
      rw [gup_n (Or.inl ha), gup_n (Or.inl ha), g4 a ha]
  · obtain ⟨x4, x5, y⟩ := s
    obtain ⟨g1, g2, g3, g4⟩ := hI
    dsimp only at g1 g2 g3 g4
    subst g1
    subst g2
    show Ok (f_X11_goesOn_107_b (fun x4 x5 z => rec (x4, x5, z)) (nI (n - 1 - (n - 1 - i) / 2)) (nI (i + 1 + (n - 1 - i) / 2)) y) _
    unfold f_X11_goesOn_107_b
    rw [if_pos (nI_le (by omega) (by omega))]
    refine Ok.i ⟨rfl, fun x hx => ?_, g4⟩
    dsimp only
    rw [g3 x hx]
    unfold rv nx_r
    by_cases c : i < x ∧ x < n
    · rw [if_pos c]
      by_cases c2 : x < i + 1 + (n - 1 - i) / 2 ∨ n - 1 - (n - 1 - i) / 2 < x
      · rw [if_pos ⟨c.1, c.2, c2⟩]
      · rw [if_neg (fun q => c2 q.2.2), show n + i - x = x by omega]
    · rw [if_neg c, if_neg (fun q => c ⟨q.1, q.2.1⟩)]
theorem m_go_47 {w : gS} {r : Nat → Nat} {i n : Nat} (hn : n ≤ 7) (hi : i + 1 < n) (h7 : w 0 7 = nI n) (h4 : ∀ x, x < n → w 4 x = nI (r x)) (hr7 : ∀ x, r x < 7) (hri : r i ≤ r (i + 1)) : ∀ k m, i + 1 ≤ k → k < n → k < m → Ok (f_X11_goesOn_47 w (nI i) m (nI k)) (fun q => q.1 = nI 1 ∧ (∀ x, x < n → q.2 4 x = nI (nx_r (nx_s r i (nx_j r (r i) k)) i n x)) ∧ ∀ a, a ≠ 4 → q.2 a = w a)
  | k, 0, _, _, hm => by omega
  | 0, m + 1, hk, _, _ => by omega
  | k + 1, m + 1, hk, hkn, hm => by
    have hr1 := hr7 i
    have hr2 := hr7 (k + 1)
    show Ok (f_X11_goesOn_47_b w (nI i) (fun x2 => f_X11_goesOn_47 w (nI i) m x2) (nI (k + 1))) _
    unfold f_X11_goesOn_47_b
    rw [q_gg (by omega) (by omega), q_gg (by omega) (by omega), nI_clamp (by omega), nI_clamp (by omega), h4 i (by omega), h4 (k + 1) hkn, q_ifle (by omega) (by omega), q_pred (by omega)]
    unfold nx_j
    by_cases c : r i ≤ r (k + 1)
    · rw [if_pos c, if_neg (by omega), q_gg (by omega) (by omega), q_gl, q_gg (by omega) (by omega), q_gg (by omega) (by omega), q_gl, q_gg (by omega) (by omega), q_gl, gup_n (Or.inl (by omega)), gup_n (Or.inl (by omega)), h7, pk_sub (by omega), q_gl, nI_add, q_gl]
      refine (m_go_107 (r := nx_s r i (k + 1)) hn hi (fun x hx => ?_)).m (fun q hq => ⟨hq.1, hq.2.1, fun a ha => ?_⟩)
      · unfold nx_s
        by_cases c1 : x = k + 1
        · subst c1
          rw [gup_s, if_neg (by omega), if_pos rfl]
        · rw [gup_n (Or.inr c1)]
          by_cases c2 : x = i
          · subst c2
            rw [gup_s, if_pos rfl]
          · rw [gup_n (Or.inr c2), if_neg c2, if_neg c1, h4 x hx]
      · rw [hq.2.2 a ha]
        funext b
        rw [gup_n (Or.inl ha), gup_n (Or.inl ha)]
    · rw [if_neg c, if_pos (by omega)]
      have hk2 : i + 1 ≤ k := by
        by_cases e : i = k
        · subst e; omega
        · omega
      exact m_go_47 hn hi h7 h4 hr7 hri k m hk2 (by omega) (by omega)
theorem m_go_7 {w : gS} {r : Nat → Nat} {n : Nat} (hn : n ≤ 7) (h7 : w 0 7 = nI n) (h4 : ∀ x, x < n → w 4 x = nI (r x)) (hr7 : ∀ x, r x < 7) : ∀ k m, k < n → k < m → Ok (f_X11_goesOn_7 w m (dI k)) (fun q => match nx_i r k with | 0 => q = (nI 0, w) | i + 1 => q.1 = nI 1 ∧ (∀ x, x < n → q.2 4 x = nI (nx_r (nx_s r i (nx_j r (r i) (n - 1))) i n x)) ∧ ∀ a, a ≠ 4 → q.2 a = w a)
  | k, 0, _, hm => by omega
  | 0, m + 1, hk, hm => by
    show Ok (f_X11_goesOn_7_b w (fun x1 => f_X11_goesOn_7 w m x1) (dI 0)) _
    unfold f_X11_goesOn_7_b
    rw [dI_0]
    exact Ok.i rfl
  | k + 1, m + 1, hk, hm => by
    have hr1 := hr7 k
    have hr2 := hr7 (k + 1)
    show Ok (f_X11_goesOn_7_b w (fun x1 => f_X11_goesOn_7 w m x1) (dI (k + 1))) _
    unfold f_X11_goesOn_7_b
    rw [dI_p (by omega), dI_s, show dI (k + 1) = nI k from rfl, nI_add, q_gg (by omega) (by omega), q_gg (by omega) (by omega), nI_clamp (by omega), nI_clamp (by omega), h4 k (by omega), h4 (k + 1) hk, q_ifle (by omega) (by omega), q_if0le (by omega)]
    unfold nx_i
    by_cases c : r k ≤ r (k + 1)
    · rw [if_pos c, if_neg (by omega), h7, pk_sub (by omega), q_gl]
      exact m_go_47 hn (by omega) h7 h4 hr7 c (n - 1) gF (by omega) (by omega) (q_gF (by omega))
    · rw [if_neg c, if_pos (by omega)]
      exact m_go_7 hn h7 h4 hr7 k m (by omega) (by omega)
theorem getD_mr {f : Nat → Nat} {n x : Nat} (h : x < n) : ((List.range n).map f).getD x 0 = f x := by
  rw [List.getD_eq_getElem?_getD, List.getElem?_map, List.getElem?_range h]
  rfl
theorem m_goesOn {w : gS} {l : List Nat} (h : RW w l) (hb : B7 l) : Ok (f_X11_goesOn w) (fun q => match nextL l.length l with | none => q = (nI 0, w) | some l' => q.1 = nI 1 ∧ RW q.2 l' ∧ ∀ a, a ≠ 4 → q.2 a = w a) := by
  obtain ⟨b1, b2⟩ := hb
  unfold f_X11_goesOn
  rw [h.1, q_gl]
  unfold nextL
  dsimp only
  by_cases e : l.length = 0
  · rw [e]
    show Ok (f_X11_goesOn_7 w gF (nI 0 - nI 2)) _
    have : Ok (f_X11_goesOn_7_b w (fun x1 => f_X11_goesOn_7 w 99999 x1) (nI 0 - nI 2)) (fun q => q = (nI 0, w)) := by
      unfold f_X11_goesOn_7_b
      rw [if_pos (by decide), if_neg (by decide)]
      exact Ok.i rfl
    exact this
  · have e2 : nI l.length - nI 2 = dI (l.length - 1) := by
      obtain ⟨n, hn⟩ : ∃ n, l.length = n + 1 := ⟨l.length - 1, by omega⟩
      rw [hn]
      cases n with
      | zero => decide
      | succ n => exact pk_sub (by omega)
    rw [e2]
    refine (m_go_7 (r := fun x => l.getD x 0) b1 h.1 h.2 (fun x => B7.d ⟨b1, b2⟩) (l.length - 1) gF (by omega) (q_gF (by omega))).m (fun q hq => ?_)
    revert hq
    cases nx_i (fun x => l.getD x 0) (l.length - 1) with
    | zero => exact fun hq => hq
    | succ i =>
      intro hq
      refine ⟨hq.1, ⟨?_, fun x hx => ?_⟩, hq.2.2⟩
      · rw [hq.2.2 0 (by omega), h.1, List.length_map, List.length_range]
      · rw [List.length_map, List.length_range] at hx
        rw [hq.2.1 x hx, getD_mr hx]
def RS (n : Nat) (fl : Int32) (w : gS) (L : List (List Nat)) : Prop := (match L with | [] => fl = nI 0 | l :: _ => fl = nI 1 ∧ RW w l) ∧ chkL n L = true ∧ ∀ l ∈ L, l.length = n ∧ B7 l
theorem RS.n {n : Nat} {w : gS} {l : List Nat} {L : List (List Nat)} {fl : Int32} (h : RS n fl w (l :: L)) : Ok (f_X11_goesOn w) (fun q => RS n q.1 q.2 L ∧ ∀ a, a ≠ 4 → q.2 a = w a) := by
  obtain ⟨⟨_, h1⟩, h2, h3⟩ := h
  obtain ⟨e1, e2⟩ := h3 l (by simp)
  have h3' : ∀ l ∈ L, l.length = n ∧ B7 l := fun x hx => h3 x (List.mem_cons_of_mem l hx)
  refine (m_goesOn h1 e2).m (fun q hq => ?_)
  rw [e1] at hq
  cases L with
  | nil =>
    unfold chkL at h2
    rw [beq_iff_eq] at h2
    rw [h2] at hq
    rw [hq]
    exact ⟨⟨rfl, rfl, h3'⟩, fun _ _ => rfl⟩
  | cons m L =>
    unfold chkL at h2
    rw [Bool.and_eq_true, beq_iff_eq] at h2
    rw [h2.1] at hq
    exact ⟨⟨⟨hq.1, hq.2.1⟩, h2.2, h3'⟩, hq.2.2⟩
/-- a loop over the rows of a list -/
theorem gforL {S r : Type} {b : (S → Option r) → S → Option r} {P : r → Prop} (I : List (List Nat) → S → Prop) (h : ∀ (l : List Nat) (L : List (List Nat)) (rec : S → Option r) (s : S), I (l :: L) s → (∀ s', I L s' → Ok (rec s') P) → Ok (b rec s) P) (hx : ∀ (rec : S → Option r) (s : S), I [] s → Ok (b rec s) P) : ∀ L n s, L.length < n → I L s → Ok (gfix b n s) P
  | L, 0, _, hn, _ => by omega
  | [], n + 1, s, _, hi => hx _ s hi
  | l :: L, n + 1, s, hn, hi => h l L _ s hi (fun s' hs' => gforL I h hx L n s' (by simp at hn; omega) hs')
