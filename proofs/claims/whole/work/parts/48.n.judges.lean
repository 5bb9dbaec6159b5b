theorem x_passes {z : gS} {d : Dat} (v : VN d) (hx : SX z 1 d) (g : GG d z) (x : Int32) {i m : Nat} (hi : i < 30) (hm3 : m < 3) : Ok (f_X10_passes x (nI i) (nI m) z) (fun q => q.1 = nI (jg d x i m).toNat ∧ ZK2 z q.2 ∧ GG d q.2) := by
  have v1 := v.1.1
  have h5 := gG_5040 v
  unfold f_X10_passes
  refine (x_setRow hx v.1 x).b (fun q1 hq => ?_)
  obtain ⟨a1, b1⟩ := hq
  have hz : ZE z q1.2 := fun p j hp => by rw [b1 p (by omega)]
  have hG : GG d q1.2 := g.fr hz
  have hx1 : SX q1.2 1 d := hx.fr (b1 1 (by omega)) (b1 (1 + 1) (by omega)) (b1 (1 + 2) (by omega)) (b1 (1 + 3) (by omega))
  cases e : pX d x with
  | none =>
    rw [e] at a1
    dsimp only at a1
    rw [a1, q_if00]
    refine Ok.i ⟨?_, hz.k, hG⟩
    unfold jg
    rw [e]
    rfl
  | some l =>
    rw [e] at a1
    dsimp only at a1
    obtain ⟨hl, _⟩ := pX_ok v.1 e
    have ho := OT.full (g := dg d) (by omega)
    obtain ⟨o1, o2⟩ := ho.2.2.2.2.2 l hl
    have hX : RX q1.2 (dg d) l := ⟨o1, a1.2⟩
    have hg := in_lt v.1 (fullG_lt v.1) hl
    have h40 := gp_40 (ty := fullT d) v.1 (fullG_lt v.1) hl
    have hrg : f_X10_rowGaps q1.2 = some (nI (gpS d (fullT d) l)) := x_rowGaps hx1 v.1 hX hg
    rw [a1.1, q_if1, q_ifeq (by omega) (by omega), q_ifeq (by omega) (by omega), hrg, q_gb, q_gb, q_if0 (by omega), q_if0 (by omega)]
    by_cases m0 : m = 0
    · rw [if_pos m0]
      refine Ok.i ⟨?_, hz.k, hG⟩
      unfold jg
      rw [e]
      dsimp only
      rw [if_pos m0]
      rfl
    · rw [if_neg m0]
      by_cases m1 : m = 1
      · rw [if_pos m1]
        have ej : jg d x i m = decide (gpS d (fullT d) l = 0) := by
          unfold jg
          rw [e]
          dsimp only
          rw [if_neg m0, if_pos m1]
        rw [ej]
        by_cases c : gpS d (fullT d) l = 0
        · rw [if_pos c, decide_eq_true c]; exact Ok.i ⟨rfl, hz.k, hG⟩
        · rw [if_neg c, decide_eq_false c]; exact Ok.i ⟨rfl, hz.k, hG⟩
      · rw [if_neg m1]
        have ej : jg d x i m = (decide (gpS d (fullT d) l = 0) && decide ((gG d).countP (fun l' => decide (dig 0 l' < dig 0 l)) = i)) := by
          unfold jg
          rw [e]
          dsimp only
          rw [if_neg m0, if_neg m1]
        rw [ej]
        by_cases c : gpS d (fullT d) l = 0
        · rw [if_pos c, decide_eq_true c]
          obtain ⟨y, ey, y1, y2, y3, y4⟩ := x_readyPlan v hx1 hG
          obtain ⟨y', ey', y5⟩ := x_plan296 v hx1 hG
          rw [ey] at ey'
          cases ey'
          have hin : l ∈ gG d := List.mem_filter.mpr ⟨hl, by simpa using c⟩
          have c0 : mnF (gCo d) = 0 := by
            apply Classical.byContradiction
            intro q
            rw [show gG d = [] from gls_nil q] at hin
            cases hin
          have := x_ahead (p1 := 296) y4 (full_lt v1) (stL v) FBn FBn (r := l) (o1.trans ho.2.1.symm) o2.2 (fun j hj => by rw [y5]; exact hX.2 j (by omega))
          rw [cs_g v, if_pos c0] at this
          unfold cntL at this
          rw [bl_g v c0] at this
          have hcl : (gG d).countP (fun l' => decide (dig 0 l' < dig 0 l)) ≤ (gG d).length := List.countP_le_length
          rw [ey, q_gb, y1.1, ← o1, this, q_gb, q_ifeq (by omega) (by omega)]
          by_cases ci : (gG d).countP (fun l' => decide (dig 0 l' < dig 0 l)) = i
          · rw [if_pos ci, decide_eq_true ci]; exact Ok.i ⟨rfl, hz.k.tr y3, y2⟩
          · rw [if_neg ci, decide_eq_false ci]; exact Ok.i ⟨rfl, hz.k.tr y3, y2⟩
        · rw [if_neg c, decide_eq_false c]; exact Ok.i ⟨rfl, hz.k, hG⟩
theorem m_isSo {w : gS} {d : Dat} (v : VN d) (hm : SM w d) (x : Int32) {i m : Nat} (hi : i < 30) (hm3 : m < 3) (hF : m = 2 → FR w (gG d)) : Ok (f_X11_isSo x (nI i) (nI m) w) (fun q => q.1 = nI (jg d x i m).toNat ∧ SE w q.2 ∧ (m = 2 → q.2 = w)) := by
  have v1 := v.1.1
  have h5 := gG_5040 v
  unfold f_X11_isSo
  rw [q_ifeq (by omega) (by omega)]
  by_cases m2 : m = 2
  · rw [if_pos m2]
    obtain ⟨f1, f2⟩ := hF m2
    subst m2
    rw [jg_2 v, f1]
    by_cases c : i < (gG d).length
    · rw [if_neg (nI_ge c (by omega)), q_gg (by omega) (by omega), nI_clamp (by omega), f2 i c]
      by_cases c2 : nI (dig 0 ((gG d).getD i [])) = x
      · rw [if_pos c2, decide_eq_true ⟨c, c2⟩]; exact Ok.i ⟨rfl, SE.rf, fun _ => rfl⟩
      · rw [if_neg c2, decide_eq_false (fun q => c2 q.2)]; exact Ok.i ⟨rfl, SE.rf, fun _ => rfl⟩
    · rw [if_pos (nI_le (by omega) (by omega)), decide_eq_false (fun q => c q.1)]; exact Ok.i ⟨rfl, SE.rf, fun _ => rfl⟩
  · rw [if_neg m2]
    refine (m_isOrder hm v.1 x).b (fun q2 hq => ?_)
    obtain ⟨a2, b2⟩ := hq
    have hw := b2.se
    cases e : pX d x with
    | none =>
      rw [e] at a2
      dsimp only at a2
      rw [a2, q_if00]
      refine Ok.i ⟨?_, hw, fun q => absurd q m2⟩
      unfold jg
      rw [e]
      rfl
    | some l =>
      rw [e] at a2
      dsimp only at a2
      obtain ⟨hl, _⟩ := pX_ok v.1 e
      have ho := OT.full (g := dg d) (by omega)
      obtain ⟨o1, o2⟩ := ho.2.2.2.2.2 l hl
      have hg := in_lt v.1 (fullG_lt v.1) hl
      have h40 := gp_40 (ty := fullT d) v.1 (fullG_lt v.1) hl
      have hgn : f_X11_gapsNow q2.2 = some (nI (gpS d (fullT d) l)) := m_gapsNow (hm.se hw) v.1 a2.2.1 o2 hg a2.2.2 (fullT_lt v)
      rw [a2.1, q_if1, q_if0 (by omega), hgn, q_gb, q_if0 (by omega)]
      by_cases m0 : m = 0
      · rw [if_pos m0]
        refine Ok.i ⟨?_, hw, fun q => absurd q m2⟩
        unfold jg
        rw [e]
        dsimp only
        rw [if_pos m0]
        rfl
      · rw [if_neg m0]
        have ej : jg d x i m = decide (gpS d (fullT d) l = 0) := by
          unfold jg
          rw [e]
          dsimp only
          rw [if_neg m0, if_pos (show m = 1 by omega)]
        rw [ej]
        by_cases c : gpS d (fullT d) l = 0
        · rw [if_pos c, decide_eq_true c]; exact Ok.i ⟨rfl, hw, fun q => absurd q m2⟩
        · rw [if_neg c, decide_eq_false c]; exact Ok.i ⟨rfl, hw, fun q => absurd q m2⟩
theorem judge_l {d : Dat} (v : VN d) {l m s : Nat} (hl : l < 3) (hm3 : m < 3) (hs : s ≤ 30) {z0 w0 : gS} (hc : ∀ i, i < 30 → w0 18 (30 * l + i) = z0 (309 + 2 * l + 1) i) (h17 : w0 17 l = nI s) (h309 : z0 (309 + 2 * l) 0 = nI s) (hx0 : SX z0 1 d) (hm0 : SM w0 d) : ∀ f i mm (z w : gS), i + f = s → f < mm → GG d z → ZK2 z0 z → SE w0 w → (m = 2 → FR w (gG d)) → ∃ r z' w', f_X10_judge_43 (nI m) (309 + 2 * l) mm (nI i) z = some (r, z') ∧ f_X11_judge_44 (nI l) (nI m) mm (nI i) w = some (r, w') ∧ ZK2 z0 z' ∧ GG d z' ∧ SE w0 w'
  | f, i, 0, z, w, _, hm, _, _, _, _ => by omega
  | 0, i, mm + 1, z, w, hi, _, hG, hz, hw, hF => by
    have : i = s := by omega
    subst this
    refine ⟨-5, z, w, ?_, ?_, hz, hG, hw⟩
    · show f_X10_judge_43_b (nI m) (309 + 2 * l) (fun x4 z => f_X10_judge_43 (nI m) (309 + 2 * l) mm x4 z) (nI i) z = _
      unfold f_X10_judge_43_b
      rw [hz (309 + 2 * l) 0 (by omega), h309, if_pos (nI_le (Nat.le_refl _) (by omega))]
    · show f_X11_judge_44_b (nI l) (nI m) (fun x4 z => f_X11_judge_44 (nI l) (nI m) mm x4 z) (nI i) w = _
      unfold f_X11_judge_44_b
      rw [q_gg (by omega) (by omega), nI_clamp (by omega), hw.row (p := 17) (by omega), h17, if_pos (nI_le (Nat.le_refl _) (by omega))]
  | f + 1, i, mm + 1, z, w, hi, hfm, hG, hz, hw, hF => by
    have zr : ∀ p, 1 ≤ p → p ≤ 8 → z p = z0 p := fun p h1 h2 => by funext j; exact hz p j (by omega)
    have hx : SX z 1 d := hx0.fr (zr _ (by omega) (by omega)) (zr _ (by omega) (by omega)) (zr _ (by omega) (by omega)) (zr _ (by omega) (by omega))
    have hm := hm0.se hw
    show ∃ r z' w', f_X10_judge_43_b (nI m) (309 + 2 * l) (fun x4 z => f_X10_judge_43 (nI m) (309 + 2 * l) mm x4 z) (nI i) z = some (r, z') ∧ f_X11_judge_44_b (nI l) (nI m) (fun x4 z => f_X11_judge_44 (nI l) (nI m) mm x4 z) (nI i) w = some (r, w') ∧ ZK2 z0 z' ∧ GG d z' ∧ SE w0 w'
    unfold f_X10_judge_43_b f_X11_judge_44_b
    rw [hz (309 + 2 * l) 0 (by omega), h309, if_neg (nI_ge (show i < s by omega) (by omega)), q_gg (by omega) (by omega), nI_clamp (by omega), q_gg (by omega) (by omega), nI_clamp (by omega), hw.row (p := 17) (by omega), h17, if_neg (nI_ge (show i < s by omega) (by omega)), pk_mul, nI_add, nI_add, q_gg (by omega) (by omega), nI_clamp (by omega), hw.row (p := 18) (by omega), hc i (by omega), hz (309 + 2 * l + 1) i (by omega)]
    obtain ⟨q1, e1, a1, a2, a3⟩ := x_passes v hx hG (z0 (309 + 2 * l + 1) i) (i := i) (m := m) (by omega) hm3
    obtain ⟨q2, e2, b1, b2, b3⟩ := m_isSo v hm (z0 (309 + 2 * l + 1) i) (i := i) (m := m) (by omega) hm3 hF
    rw [e1, e2, q_gb, q_gb, a1, b1, q_ifb, q_ifb]
    by_cases c : jg d (z0 (309 + 2 * l + 1) i) i m = true
    · rw [if_pos c, if_pos c]
      exact judge_l v hl hm3 hs hc h17 h309 hx0 hm0 f (i + 1) mm q1.2 q2.2 (by omega) (by omega) a3 (hz.tr a2) (hw.tr b2) (fun q => by rw [b3 q]; exact hF q)
    · rw [if_neg c, if_neg c]
      exact ⟨_, _, _, rfl, rfl, hz.tr a2, a3, hw.tr b2⟩
theorem c_judge {k : Nat} {z w : gS} (h : Rel k z w) (x y : Int32) : AL (k + 1) (f_X10_judge x y z) (f_X11_judge x y w) := by
  have h' := h
  obtain ⟨d, n, by_, E, hR⟩ := h'
  obtain ⟨v, hx, hm, _, _, _, a7, _⟩ := id hR
  have h5 := gG_5040 v
  rcases ixs x (n := 3) (by omega) with hb | ⟨l, hl, rfl⟩
  · refine AL.z h (r := gm1) ?_ ?_
    · unfold f_X10_judge
      rcases hb with q | q
      · rw [if_pos q]
      · rw [if_neg (ge_nn (by omega) q), if_neg (lt_n (by omega) q)]
    · unfold f_X11_judge
      rw [m_ls_n hb, q_gb, q_if00]
  obtain ⟨l1, l2, l3⟩ := a7.2.2 l hl
  unfold f_X10_judge f_X11_judge
  rw [q_iflt0 (by omega), if_pos (nI_lt hl (by omega)), m_ls hl, q_gb, q_if1]
  rcases ixs y (n := 3) (by omega) with hb | ⟨m, hm3, rfl⟩
  · refine AL.z h (r := -2) ?_ ?_
    · rcases hb with q | q
      · rw [if_pos q]
      · rw [if_neg (ge_nn (by omega) q), if_neg (le_n (by omega) q)]
    · rw [in_n (by omega) hb, q_gb, q_if00]
  rw [q_iflt0 (by omega), if_pos (nI_le (show m ≤ 2 by omega) (by omega)), m_in_nat (show m ≤ 2 by omega) (by omega), q_gb, q_if1, q_gg (by omega) (by omega), q_gg (by omega) (by omega), nI_clamp (by omega), l1]
  unfold f_X1_isMissing
  rcases l2 with e | ⟨s, hs, e⟩
  · rw [e, if_neg (show ¬ 0 ≤ gm1 by decide), q_gb, q_if1, if_neg (show ¬ 0 ≤ gm1 by decide)]
    exact AL.z h rfl rfl
  · rw [e, q_if0le (by omega), q_gb, q_if00, q_if0le (by omega), q_ifeq (by omega) (by omega)]
    have h17 : w 17 l = nI s := by rw [l1]; exact e
    by_cases c2 : m = 2
    · rw [if_pos c2]
      obtain ⟨w1, e2, u1, u2⟩ := m_gap_g hm v
      rw [e2, q_gb]
      obtain ⟨r, z', w', f1, f2, g1, g2, g3⟩ := judge_l v hl hm3 hs l3 h17 e hx hm s 0 gF z w1 (by omega) (q_gF (by omega)) hR.g ZK2.rf u2 (fun _ => u1)
      exact ⟨r, z', w', f1, f2, d, n, by_, E, hR.k g1 g2 g3⟩
    · rw [if_neg c2]
      obtain ⟨r, z', w', f1, f2, g1, g2, g3⟩ := judge_l v hl hm3 hs l3 h17 e hx hm s 0 gF z w (by omega) (q_gF (by omega)) hR.g ZK2.rf SE.rf (fun q => absurd q c2)
      exact ⟨r, z', w', f1, f2, d, n, by_, E, hR.k g1 g2 g3⟩
