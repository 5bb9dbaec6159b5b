/-! paper, by the reference -/
def MB (w : gS) (L : List Nat) : Prop := KK w 0 26 12 L
theorem m_writes {w : gS} {L : List Nat} {c : Nat} (h : MB w L) (hl : L.length < 500) : Ok (f_X11_writes (nI c) w) (fun w' => MB w' (L ++ [c]) ∧ SE w w') := by
  unfold f_X11_writes
  rw [h.1, q_gg hl (by omega), nI_clamp (by omega), q_gl, gup_n (by omega), h.1, nI_add, q_gl]
  exact Ok.i ⟨h.add (by omega), (SE.up (by unfold Kp; omega)).tr (SE.up (by unfold Kp; omega))⟩
theorem m_writesName {c : Nat} (hc : c < 387420489) {w : gS} {L : List Nat} (hs : MB w L) (hl : L.length + 6 ≤ 500) : Ok (f_X11_writesName (nI c) w) (fun w' => MB w' (L ++ nmL c) ∧ SE w w') := by
  have h6 := ln_le c
  have key : ∀ j k m (w0 : gS) (L : List Nat), k + j = ln c → j < m → MB w0 L → L.length + j ≤ 500 → SE w w0 → Ok (f_X11_writesName_2 (nI c) m (nI k) w0) (fun w' => MB w' (L ++ (List.range' k j).map (fun k => 96 + lt c k)) ∧ SE w w') := by
    intro j
    induction j with
    | zero =>
      intro k m w0 L hk hm hs hl he
      obtain ⟨m, rfl⟩ : ∃ q, m = q + 1 := ⟨m - 1, by omega⟩
      show Ok (f_X11_writesName_2_b (nI c) (fun x2 z => f_X11_writesName_2 (nI c) m x2 z) (nI k) w0) _
      unfold f_X11_writesName_2_b
      rw [m_lettersOf hc, q_gb, if_pos (nI_le (by omega) (by omega))]
      refine Ok.i ⟨?_, he⟩
      show MB w0 (L ++ [])
      rw [List.append_nil]
      exact hs
    | succ j ih =>
      intro k m w0 L hk hm hs hl he
      obtain ⟨m, rfl⟩ : ∃ q, m = q + 1 := ⟨m - 1, by omega⟩
      have hl27 := lt_lt c k
      show Ok (f_X11_writesName_2_b (nI c) (fun x2 z => f_X11_writesName_2 (nI c) m x2 z) (nI k) w0) _
      unfold f_X11_writesName_2_b
      rw [m_lettersOf hc, q_gb, if_neg (nI_ge (show k < ln c by omega) (by omega)), m_letterOf hc (by omega), q_gb, nI_add, pk_sub (by omega), show 97 + lt c k - 1 = 96 + lt c k by omega, nI_add]
      refine (m_writes hs (by omega)).b (fun u hu => ?_)
      refine (ih (k + 1) m u (L ++ [96 + lt c k]) (by omega) (by omega) hu.1 (by rw [List.length_append]; show L.length + 1 + j ≤ 500; omega) (he.tr hu.2)).m (fun q hq => ⟨?_, hq.2⟩)
      rw [List.range'_succ, List.map_cons]
      have := hq.1
      rw [List.append_assoc] at this
      exact this
  unfold f_X11_writesName
  have := key (ln c) 0 gF w L (by omega) (q_gF (by omega)) hs (by omega) SE.rf
  unfold nmL
  rw [List.range_eq_range']
  exact this
theorem m_names_11 {w : gS} {d : Dat} (h : SM w d) (v : VD d) {S0 S : Nat} (hS : S < 256) (h0 : S0 < 256) {K : Int32 → gS → Option gS} : f_X11_writesNames_11 w (nI S0) (nI S) K gF gm1 (nI 0) = f_X11_writesNames_11_b w (nI S0) (nI S) K (fun _ _ => none) (nO (mnT d S.testBit (dt d))) (nI (dt d)) := by
  have v2 := v.2.1
  unfold f_X11_writesNames_11
  refine gfor0 (fun k => (nO (mnT d S.testBit k), nI k)) (e := dt d) (by omega) (fun k rec hk => ?_) (fun rec => ?_)
  · have hnk := v.n hk
    show f_X11_writesNames_11_b w (nI S0) (nI S) K (fun x3 x4 => rec (x3, x4)) (nO (mnT d S.testBit k)) (nI k) = rec (nO (mnT d S.testBit (k + 1)), nI (k + 1))
    unfold f_X11_writesNames_11_b
    rw [h.2.1, if_neg (nI_ge hk (by omega)), m_has (by omega) (by omega), q_gb, q_ifb, nI_add, mnT_s]
    have hok := (mnT_ok (d := d) (P := S.testBit) k).1
    cases e : S.testBit k
    · rw [if_neg (by decide), if_neg (show ¬ false = true by decide)]
    · rw [if_pos rfl, if_pos rfl]
      cases e2 : mnT d S.testBit k with
      | none => rw [nO_none, if_pos rfl]; rfl
      | some b =>
        have hb := (hok b e2).1
        have hnb := v.n (show b < dt d by omega)
        rw [nO_some, if_neg (nI_ne_m1 (by omega)), q_gg (by omega) (by omega), q_gg (by omega) (by omega), nI_clamp (by omega), nI_clamp (by omega), h.2.2.2.2 b (by omega), h.2.2.2.2 k hk, q_ifle (by omega) (by omega)]
        dsimp only
        split <;> rfl
  · show f_X11_writesNames_11_b w (nI S0) (nI S) K (fun x3 x4 => rec (x3, x4)) (nO (mnT d S.testBit (dt d))) (nI (dt d)) = _
    unfold f_X11_writesNames_11_b
    rw [h.2.1, if_pos (nI_le (Nat.le_refl _) (by omega)), if_pos (nI_le (Nat.le_refl _) (by omega))]
theorem m_names_2 {d : Dat} (v : VD d) {S0 : Nat} (h0 : S0 < 2 ^ dt d) {w : gS} : ∀ f m (w0 : gS) (L : List Nat) (S : Nat), f < m → SM w0 d → MB w0 L → nd S S0 = 0 → pop S ≤ f → L.length + (cmF d (decide (S = S0)) S f).length ≤ 490 → SE w w0 → Ok (f_X11_writesNames_2 (nI S0) m (nI S) w0) (fun w' => MB w' (L ++ cmF d (decide (S = S0)) S f) ∧ SE w w')
  | f, 0, w0, L, S, hm, _, _, _, _, _, _ => by omega
  | f, m + 1, w0, L, S, hm, hM, hs, hsub, hp, hl, he => by
    have v2 := v.2.1
    have hpw : 2 ^ dt d ≤ 2 ^ 8 := Nat.pow_le_pow_right (by omega) v2
    have hS0 := sub_le hsub
    have hS : S < 2 ^ dt d := by omega
    show Ok (f_X11_writesNames_2_b (nI S0) (fun x2 z => f_X11_writesNames_2 (nI S0) m x2 z) (nI S) w0) _
    unfold f_X11_writesNames_2_b
    rw [q_if0 (by omega)]
    have hnone : S = 0 → mnT d S.testBit (dt d) = none := fun q => by
      subst q
      cases e : mnT d (Nat.testBit 0) (dt d) with
      | none => rfl
      | some b =>
        have := ((mnT_ok (d := d) (P := Nat.testBit 0) (dt d)).1 b e).2.1
        rw [Nat.zero_testBit] at this
        cases this
    by_cases c : S = 0
    · rw [if_pos c]
      refine Ok.i ⟨?_, he⟩
      have : cmF d (decide (S = S0)) S f = [] := by
        cases f with
        | zero => rfl
        | succ f => rw [cmF_s, hnone c]
      rw [this, List.append_nil]
      exact hs
    · rw [if_neg c]
      have hex : ∃ b, mnT d S.testBit (dt d) = some b := by
        cases e : mnT d S.testBit (dt d) with
        | none =>
          exfalso
          apply c
          apply Nat.eq_of_testBit_eq
          intro i
          rw [Nat.zero_testBit]
          by_cases q : i < dt d
          · exact (mnT_ok (d := d) (P := S.testBit) (dt d)).2 e i q
          · exact bit_hi hS (by omega)
        | some b => exact ⟨b, rfl⟩
      obtain ⟨b, hb⟩ := hex
      obtain ⟨b1, b2, _⟩ := (mnT_ok (d := d) (P := S.testBit) (dt d)).1 b hb
      have hpr := pop_rem (show b < 8 by omega) b2
      obtain ⟨f, rfl⟩ : ∃ q, f = q + 1 := ⟨f - 1, by omega⟩
      rw [cmF_s, hb] at hl
      dsimp only at hl
      rw [cmF_s, hb]
      dsimp only
      have hnb := v.n b1
      have hsub2 : nd (nd S (2 ^ b)) S0 = 0 := by
        rw [nd_0] at hsub ⊢
        intro i hi
        rw [nd_bit, Bool.and_eq_true] at hi
        exact hsub i hi.1
      have hne : nd S (2 ^ b) ≠ S0 := fun q => by
        have h1 := nd_0.mp hsub b b2
        rw [← q, nd_bit, Nat.testBit_two_pow_self] at h1
        simp at h1
      have h6 := nmL_len (dn d b)
      rw [List.length_append, List.length_append] at hl
      have key : ∀ (u : gS) (L' : List Nat), SM u d → MB u L' → SE w u → L' = L ++ (if decide (S = S0) then [] else [44]) → Ok (gb (f_X11_writesName (nI (dn d b)) u) fun q5 => gl (nI S &&& ((nI 1 <<< (nI b &&& 31)) ^^^ gm1)) fun y6 => f_X11_writesNames_2 (nI S0) m y6 q5) (fun w' => MB w' (L ++ ((if decide (S = S0) then [] else [44]) ++ (nmL (dn d b) ++ cmF d false (nd S (2 ^ b)) f))) ∧ SE w w') := fun u L' k1 k2 k3 k4 => by
        have hL' : L'.length = L.length + (if decide (S = S0) then ([] : List Nat) else [44]).length := by rw [k4, List.length_append]
        refine (m_writesName hnb k2 (by omega)).b (fun q hq => ?_)
        rw [q_sh1 (by omega), q_nd, q_gl]
        have ih := m_names_2 v h0 (w := w) f m q (L' ++ nmL (dn d b)) (nd S (2 ^ b)) (by omega) (k1.se hq.2) hq.1 hsub2 (by omega) (by rw [List.length_append, decide_eq_false hne]; omega) (k3.tr hq.2)
        refine ih.m (fun t ht => ⟨?_, ht.2⟩)
        have := ht.1
        rw [decide_eq_false hne, k4, List.append_assoc, List.append_assoc] at this
        exact this
      rw [m_names_11 hM v (by omega) (by omega), hb]
      unfold f_X11_writesNames_11_b
      rw [hM.2.1, if_pos (nI_le (Nat.le_refl _) (by omega)), q_ifeq (by omega) (by omega), nO_some]
      by_cases c2 : S = S0
      · rw [if_pos c2, q_gg (by omega) (by omega), nI_clamp (by omega), hM.2.2.2.2 b b1]
        exact key w0 L hM hs he (by rw [decide_eq_true c2, if_pos rfl, List.append_nil])
      · rw [if_neg c2]
        have hl2 : L.length < 490 := by
          rw [decide_eq_false c2] at hl
          have hl : L.length + (1 + _) ≤ 490 := hl
          omega
        refine (m_writes (c := 44) hs (by omega)).b (fun u hu => ?_)
        rw [q_gg (by omega) (by omega), nI_clamp (by omega), (hM.se hu.2).2.2.2.2 b b1]
        exact key u (L ++ [44]) (hM.se hu.2) hu.1 (he.tr hu.2) (by rw [decide_eq_false c2]; rfl)
theorem m_papers {d : Dat} (v : VD d) {w : gS} (h : SM w d) : Ok (f_X11_papers w) (fun w' => MB w' (pLn d (dg d)) ∧ SE w w') := by
  have v1 := v.1
  unfold f_X11_papers
  rw [q_gl]
  unfold f_X11_papers_7
  have hu : SE w (gup w 0 26 (nI 0)) := SE.up (by unfold Kp; omega)
  refine gforI0 (fun k s => s.1 = nI k ∧ MB s.2 (pLn d k) ∧ SE w s.2) (e := dg d) (by omega) ⟨rfl, ⟨by show gup w 0 26 (nI 0) 0 26 = _; rw [gup_s]; rfl, fun i hi => by cases hi⟩, hu⟩ (fun k rec s hk hi hr => ?_) (fun rec s hi => ?_)
  · obtain ⟨x1, y⟩ := s
    obtain ⟨g1, g2, g3⟩ := hi
    dsimp only at g1 g2 g3
    subst g1
    have hlen := pLn_len d k
    have h1 := ageL_len (da d k)
    have h2 := cmF_len d 8 true (ds d k)
    have h4 : true.toNat = 1 := rfl
    have ha := v.a hk
    have hd : da d k / 10 < 2 ^ 31 := by omega
    have key52 : ∀ (u : gS) (L : List Nat), MB u L → L.length ≤ 60 * k + 2 → SE w u → L ++ ((if 9 < da d k then [48 + da d k / 10 % 10] else []) ++ ([48 + da d k % 10] ++ ([58] ++ cmF d true (ds d k) 8))) = pLn d (k + 1) → Ok (f_X11_papers_52 (nI k) (fun x1 z => rec (x1, z)) u) (fun w' => MB w' (pLn d (dg d)) ∧ SE w w') := fun u L k1 k2 k3 k4 => by
      have fin : ∀ (t : gS) (L' : List Nat), MB t L' → L'.length ≤ 60 * k + 3 → SE w t → L' ++ ([48 + da d k % 10] ++ ([58] ++ cmF d true (ds d k) 8)) = pLn d (k + 1) → Ok (gb (f_X11_writes (nI (48 + da d k % 10)) t) fun q16 => gb (f_X11_writes (nI 58) q16) fun q17 => gg (nI k) 7 (gb (f_X11_writesNames (q17 2 k) q17) fun q19 => rec (nI (k + 1), q19))) (fun w' => MB w' (pLn d (dg d)) ∧ SE w w') := fun t L' t1 t2 t3 t4 => by
        refine (m_writes t1 (by omega)).b (fun a ha2 => ?_)
        refine (m_writes (c := 58) ha2.1 (by rw [List.length_append]; show L'.length + 1 < 500; omega)).b (fun b hb => ?_)
        have hMb := ((h.se t3).se ha2.2).se hb.2
        rw [q_gg (by omega) (by omega), hMb.2.2.2.1 k hk]
        have := m_names_2 v (v.2.2.2.1 k hk) (w := w) 8 gF b (L' ++ [48 + da d k % 10] ++ [58]) (ds d k) (q_gF (by omega)) hMb hb.1 (nd_0.mpr (fun _ q => q)) (pop_le _) (by rw [List.length_append, List.length_append, decide_eq_true rfl]; show L'.length + 1 + 1 + _ ≤ 490; omega) ((t3.tr ha2.2).tr hb.2)
        unfold f_X11_writesNames
        refine this.b (fun r hr2 => hr _ ⟨rfl, ?_, hr2.2⟩)
        rw [← t4]
        have := hr2.1
        rw [decide_eq_true rfl, List.append_assoc, List.append_assoc] at this
        exact this
      have hMu := h.se k3
      unfold f_X11_papers_52
      rw [nI_clamp (by omega), hMu.2.2.1 k hk, q_gg (by omega) (by omega), q_ifle (by omega) (by omega), nI_add]
      by_cases c : 9 < da d k
      · rw [if_neg (by omega), q_gg (by omega) (by omega), pk_div (by omega) (by omega) (by omega), pk_rem hd (by omega) (by omega), nI_add]
        rw [if_pos c] at k4
        refine (m_writes k1 (by omega)).b (fun a ha2 => ?_)
        rw [q_gg (by omega) (by omega), (hMu.se ha2.2).2.2.1 k hk, pk_rem (by omega) (by omega) (by omega), nI_add]
        exact fin a _ ha2.1 (by rw [List.length_append]; show L.length + 1 ≤ _; omega) (k3.tr ha2.2) (by rw [List.append_assoc]; exact k4)
      · rw [if_pos (by omega), q_gg (by omega) (by omega), pk_rem (by omega) (by omega) (by omega), nI_add]
        rw [if_neg c] at k4
        exact fin u L k1 (by omega) k3 k4
    have keyA : ∀ (u : gS) (L : List Nat), MB u L → L.length ≤ 60 * k + 1 → SE w u → L ++ (ageL (da d k) ++ ([58] ++ cmF d true (ds d k) 8)) = pLn d (k + 1) → Ok (gg (nI k) 7 (if u 1 k ≤ nI 99 then f_X11_papers_52 (nI k) (fun x1 z => rec (x1, z)) u else gg (nI k) 7 (gb (f_X11_writes (nI 48 + u 1 k / nI 100) u) fun q7 => f_X11_papers_52 (nI k) (fun x1 z => rec (x1, z)) q7))) (fun w' => MB w' (pLn d (dg d)) ∧ SE w w') := fun u L k1 k2 k3 k4 => by
      unfold ageL at k4
      rw [q_gg (by omega) (by omega), (h.se k3).2.2.1 k hk, q_ifle (by omega) (by omega)]
      by_cases c : 99 < da d k
      · rw [if_neg (by omega), q_gg (by omega) (by omega), pk_div (by omega) (by omega) (by omega), nI_add]
        rw [if_pos c] at k4
        refine (m_writes k1 (by omega)).b (fun a ha2 => ?_)
        refine key52 a _ ha2.1 (by rw [List.length_append]; show L.length + 1 ≤ _; omega) (k3.tr ha2.2) ?_
        rw [← k4]
        simp [List.append_assoc]
      · rw [if_pos (by omega)]
        rw [if_neg c] at k4
        refine key52 u L k1 (by omega) k3 ?_
        rw [← k4]
        simp [List.append_assoc]
    show Ok (f_X11_papers_7_b (fun x1 z => rec (x1, z)) (nI k) y) _
    unfold f_X11_papers_7_b
    rw [(h.se g3).1, if_neg (nI_ge hk (by omega)), q_ifle0 (by omega), nI_clamp (by omega)]
    by_cases c : k = 0
    · rw [if_pos c]
      refine keyA y (pLn d k) g2 (by omega) g3 ?_
      show _ = pLn d k ++ blk d k
      unfold blk
      rw [if_neg (by omega)]
      rfl
    · rw [if_neg c]
      refine (m_writes (c := 59) g2 (by omega)).b (fun u hu => ?_)
      refine keyA u (pLn d k ++ [59]) hu.1 (by rw [List.length_append]; show _ + 1 ≤ _; omega) (g3.tr hu.2) ?_
      show _ = pLn d k ++ blk d k
      unfold blk
      rw [if_pos (by omega), List.append_assoc]
  · obtain ⟨x1, y⟩ := s
    obtain ⟨g1, g2, g3⟩ := hi
    dsimp only at g1 g2 g3
    subst g1
    show Ok (f_X11_papers_7_b (fun x1 z => rec (x1, z)) (nI (dg d)) y) _
    unfold f_X11_papers_7_b
    rw [(h.se g3).1, if_pos (nI_le (Nat.le_refl _) (by omega))]
    exact Ok.i ⟨g2, g3⟩
