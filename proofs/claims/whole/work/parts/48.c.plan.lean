/-! what is made again when it is asked for -/
def ZK2 (z z' : gS) : Prop := ∀ p j, ((1 ≤ p ∧ p ≤ 8) ∨ (p = 290 ∧ j = 1) ∨ p = 291 ∨ 297 ≤ p ∨ (p = 0 ∧ (j = 13 ∨ j = 14))) → z' p j = z p j
theorem ZK2.rf {z : gS} : ZK2 z z := fun _ _ _ => rfl
theorem ZK2.tr {z z1 z2 : gS} (h1 : ZK2 z z1) (h2 : ZK2 z1 z2) : ZK2 z z2 := fun p j a => (h2 p j a).trans (h1 p j a)
theorem ZE.k {z z' : gS} (h : ZE z z') : ZK2 z z' := fun p j a => h p j (by omega)
def GG (d : Dat) (z : gS) : Prop := CPL z d ∧ CTR z d ∧ CSH z d
theorem GG.fr {d : Dat} {z z' : gS} (h : GG d z) (hz : ZE z z') : GG d z' := by
  have r0 := hz.row (p := 0) (by omega)
  obtain ⟨a9, a10, a11⟩ := h
  refine ⟨?_, ?_, ?_⟩
  · unfold CPL PK PS TWs at *
    rw [r0, hz.row (p := 15) (by omega), hz 20 0 (by omega), hz.row (p := 13) (by omega), hz.row (p := 13 + 1) (by omega), hz.row (p := 13 + 3) (by omega), hz.row (p := 13 + 4) (by omega)]
    exact a9
  · unfold CTR TK CT KK at *
    rw [r0, hz.row (p := 283) (by omega), hz.row (p := 283 + 1) (by omega), hz.row (p := 283 + 3) (by omega), hz.row (p := 283 + 4) (by omega), hz.row (p := 283 + 5) (by omega), hz.row (p := 283 + 6) (by omega)]
    exact a10
  · unfold CSH SB KK at *
    rw [r0, hz.row (p := 292) (by omega), hz.row (p := 293) (by omega)]
    exact a11
theorem CTR.fr {d : Dat} {z z' : gS} (h : CTR z d) (h0 : z' 0 16 = z 0 16) (hz : ∀ p, 283 ≤ p → p ≤ 289 → z' p = z p) : CTR z' d := by
  unfold CTR TK CT KK at *
  rw [h0, hz 283 (by omega) (by omega), hz (283 + 1) (by omega) (by omega), hz (283 + 3) (by omega) (by omega), hz (283 + 4) (by omega) (by omega), hz (283 + 5) (by omega) (by omega), hz (283 + 6) (by omega) (by omega)]
  exact h
theorem CSH.fr {d : Dat} {z z' : gS} (h : CSH z d) (h0 : z' 0 17 = z 0 17) (h1 : z' 292 = z 292) (h2 : z' 293 = z 293) : CSH z' d := by
  unfold CSH SB KK at *
  rw [h0, h1, h2]
  exact h
theorem CPL.fr {d : Dat} {z z' : gS} (h : CPL z d) (h0 : z' 0 15 = z 0 15) (h1 : z' 20 0 = z 20 0) (hz : ∀ p, 13 ≤ p → p ≤ 17 → z' p = z p) : CPL z' d := by
  unfold CPL PK PS TWs at *
  rw [h0, h1, hz 15 (by omega) (by omega), hz 13 (by omega) (by omega), hz (13 + 1) (by omega) (by omega), hz (13 + 3) (by omega) (by omega), hz (13 + 4) (by omega) (by omega)]
  exact h
theorem RelD.g {k : Nat} {z w : gS} {d : Dat} {n : Nat} {by_ : Nat → Nat} {E : List Nat} (h : RelD k z w d n by_ E) : GG d z := by
  obtain ⟨_, _, _, _, _, _, _, _, a9, a10, a11⟩ := h
  exact ⟨a9, a10, a11⟩
theorem RelD.k {k : Nat} {z w z' w' : gS} {d : Dat} {n : Nat} {by_ : Nat → Nat} {E : List Nat} (h : RelD k z w d n by_ E) (hz : ZK2 z z') (hg : GG d z') (hw : SE w w') : RelD (k + 1) z' w' d n by_ E := by
  obtain ⟨a1, a2, a3, a4, a5, a6, a7, a8, _⟩ := h
  have zr : ∀ p, (1 ≤ p ∧ p ≤ 8) ∨ p = 291 ∨ 297 ≤ p → z' p = z p := fun p hp => by funext j; exact hz p j (by omega)
  refine ⟨a1, a2.fr (zr _ (by omega)) (zr _ (by omega)) (zr _ (by omega)) (zr _ (by omega)), a3.se hw, a4, a5, by omega, a7.fr (fun j hj => hz 0 j (by omega)) (fun p h1 h2 => zr p (by omega)) (fun p h1 => zr p (by omega)) (fun j hj => hw 0 j (by unfold Kp; omega)) (fun p hp => hw.row (by omega)) (fun _ q => q), ?_, hg.1, hg.2.1, hg.2.2⟩
  obtain ⟨b1, b2, b3, b4, b5, b6⟩ := a8
  exact ⟨b1, by rw [hz 290 1 (by omega)]; exact b2, by rw [zr 291 (by omega)]; exact b3, by rw [hw 0 15 (by unfold Kp; omega)]; exact b4, by rw [hw.row (p := 8) (by omega)]; exact b5, by rw [hz 0 13 (by omega), hw 0 16 (by unfold Kp; omega)]; exact b6⟩
theorem AL.g {α : Type} {k : Nat} {z w : gS} {d : Dat} {n : Nat} {by_ : Nat → Nat} {E : List Nat} (h : RelD k z w d n by_ E) {o1 o2 : Option (α × gS)} {r : α} (h1 : Ok o1 (fun q => q.1 = r ∧ ZK2 z q.2 ∧ GG d q.2)) (h2 : Ok o2 (fun q => q.1 = r ∧ SE w q.2)) : AL (k + 1) o1 o2 := by
  obtain ⟨q1, e1, f1, g1, k1⟩ := h1
  obtain ⟨q2, e2, f2, g2⟩ := h2
  refine ⟨r, q1.2, q2.2, ?_, ?_, d, n, by_, E, h.k g1 k1 g2⟩
  · rw [e1, ← f1]
  · rw [e2, ← f2]
def PP (z : gS) (d : Dat) : Prop := PK z 13 (fullG d) none none (stT d (fullT d))
theorem fullG_lt {d : Dat} (v : VD d) : fullG d < 2 ^ dg d := by
  have := Nat.two_pow_pos (dg d)
  unfold fullG
  omega
theorem FBn : FB none := fun x q => (by cases q)
theorem x_readyPlan {z : gS} {d : Dat} (v : VN d) (hx : SX z 1 d) (g : GG d z) : Ok (f_X10_readyPlan z) (fun z' => SX z' 1 d ∧ GG d z' ∧ ZK2 z z' ∧ PP z' d) := by
  obtain ⟨⟨p1, p2, p3⟩, g2, g3⟩ := g
  unfold f_X10_readyPlan
  rcases p3 with e | ⟨e, hP⟩
  · rw [e, q_if00, x_everybody hx v.1, q_gb, x_everything hx v.1, q_gb]
    refine (x_make (p := 13) (p1 := 1) (f := none) (l := none) hx v.1 (by omega) (full_lt v.1.1) FBn FBn p1).b (fun y hy => ?_)
    obtain ⟨y1, y2⟩ := hy
    rw [q_gl]
    have hP : PP (gup y 0 15 (nI 1)) d := PK.fn (n := 1) (q := 0) y1 (Fn.up (by omega) (by omega)) (by omega)
    have yr : ∀ p j, ¬ (13 ≤ p ∧ p ≤ 17) → ¬ (p = 0 ∧ j = 15) → gup y 0 15 (nI 1) p j = z p j := fun p j h1 h2 => by rw [gup_n (by omega), y2 p (by omega)]
    have yrow : ∀ p, 1 ≤ p → ¬ (13 ≤ p ∧ p ≤ 17) → gup y 0 15 (nI 1) p = z p := fun p h1 h2 => by funext j; exact yr p j h2 (by omega)
    refine Ok.i ⟨hx.fr (yrow 1 (by omega) (by omega)) (yrow (1 + 1) (by omega) (by omega)) (yrow (1 + 2) (by omega) (by omega)) (yrow (1 + 3) (by omega) (by omega)), ⟨⟨?_, ?_, Or.inr ⟨gup_s, hP⟩⟩, g2.fr (yr 0 16 (by omega) (by omega)) (fun p h1 h2 => yrow p (by omega) (by omega)), g3.fr (yr 0 17 (by omega) (by omega)) (yrow 292 (by omega) (by omega)) (yrow 293 (by omega) (by omega))⟩, fun p j hp => yr p j (by omega) (by omega), hP⟩
    · have := hP.1.2.2.2.2 0 (Nat.zero_le _)
      rw [sn_0] at this
      exact this
    · rw [yr 20 0 (by omega) (by omega)]; exact p2
  · rw [e, q_if1]
    exact Ok.i ⟨hx, ⟨⟨p1, p2, Or.inr ⟨e, hP⟩⟩, g2, g3⟩, ZK2.rf, hP⟩
/-- the fewest gaps, and the costs -/
def gCo (d : Dat) : List Nat := (oT (fullG d)).map (gpS d (fullT d))
theorem cs_g {d : Dat} (v : VN d) : csts (fullG d) (mfP (fullG d) none none) (tol (fullG d) (stT d (fullT d))) 0 = gCo d := csts_T v.1 (mfP_hm _ none none) (fullG_lt v.1)
theorem bl_g {d : Dat} (v : VN d) (h : mnF (gCo d) = 0) : bl (fullG d) (mfP (fullG d) none none) (tol (fullG d) (stT d (fullT d))) 0 = gG d := by
  rw [bl_T v.1 (mfP_hm _ none none) (fullG_lt v.1)]
  have h : mnF ((plm (mfP (fullG d) none none) (rm (fullG d) 0) 0).map (gpS d (fullT d))) = 0 := h
  rw [h]
  rfl
theorem gG_len {d : Dat} (v : VN d) : (gG d).length = if mnF (gCo d) = 0 then wy (gCo d) else 0 := by
  by_cases h : mnF (gCo d) = 0
  · rw [if_pos h, ← bl_g v h, bl_len, cs_g v]
  · rw [if_neg h]
    have : gG d = [] := gls_nil h
    rw [this]
    rfl
theorem oT_ne {d : Dat} (v : VN d) : oT (fullG d) ≠ [] := by
  have := (OT.full (g := dg d) (by have := v.1.1; omega)).2.2.1
  intro e
  have e : oT (2 ^ dg d - 1) = [] := e
  rw [e] at this
  cases this
theorem stL {d : Dat} (v : VN d) : ∀ g, g < 7 → stT d (fullT d) g < 2 ^ 8 := fun g _ => stT_lt v.1
theorem x_least_g {z : gS} {d : Dat} (v : VN d) (h : PP z d) : f_X3_least 13 z = some (nI (mnF (gCo d))) := by
  rw [x_least h, cs_g v]
theorem x_smooth_g {z : gS} {d : Dat} (v : VN d) (h : PP z d) : f_X3_smoothOrders 13 z = some (nI (gG d).length) := by
  rw [x_smooth h, cs_g v, gG_len v]
theorem x_pick_g {z : gS} {d : Dat} (v : VN d) (h : PP z d) {i : Nat} (hi : i < (gG d).length) : f_X3_pick 13 (nI i) z = some (nI (dig 0 ((gG d).getD i []))) := by
  have h0 : mnF (gCo d) = 0 := by
    apply Classical.byContradiction
    intro q
    rw [gG_len v, if_neg q] at hi
    omega
  have hb := bl_g v h0
  have := x_pick (i := i) h (full_lt v.1.1) (stL v) FBn FBn (by rw [hb]; exact hi)
  rw [hb] at this
  exact this
theorem gG_5040 {d : Dat} (v : VN d) : (gG d).length ≤ 5040 := gls_len (OT.full (g := dg d) (by have := v.1.1; omega))
theorem gco_40 {d : Dat} (v : VN d) : ∀ c ∈ gCo d, c ≤ 40 := fun c hc => by
  obtain ⟨l, hl, rfl⟩ := List.mem_map.mp hc
  exact gp_40 v.1 (fullG_lt v.1) hl
theorem m_gap_g {w : gS} {d : Dat} (h : SM w d) (v : VN d) : Ok (f_X11_gaplessOnes w) (fun y => FR y (gG d) ∧ SE w y) := m_gaplessOnes h v.1
theorem c_orders {k : Nat} {z w : gS} (h : Rel k z w) (x : Int32) : AL (k + 1) (f_X10_orders x z) (f_X11_orders x w) := by
  have h' := h
  obtain ⟨d, n, by_, E, hR⟩ := h'
  have hR' := hR
  obtain ⟨v, hx, hm, hE, _⟩ := hR'
  rcases ixs x (n := 61) (by omega) with hb | ⟨m, hm61, rfl⟩
  · refine AL.z h (r := -2) ?_ ?_
    · unfold f_X10_orders
      rcases hb with q | q
      · rw [if_pos q]
      · rw [if_neg (ge_nn (by omega) q), if_neg (le_n (by omega) q)]
    · unfold f_X11_orders
      rw [in_n (by omega) hb, q_gb, q_if00]
  · refine AL.g hR (r := nI ((oT (2 ^ dg d - 1)).countP (fun l => decide (gpS d (2 ^ dt d - 1) l < m + 1)))) ?_ (m_orders hm v.1 (by omega))
    unfold f_X10_orders
    rw [q_iflt0 (by omega), if_pos (nI_le (show m ≤ 60 by omega) (by omega))]
    refine (x_readyPlan v hx hR.g).b (fun y hy => ?_)
    obtain ⟨y1, y2, y3, y4⟩ := hy
    refine (x_within (p0 := 23) (p1 := 13) (m := m) y4 (by omega) (full_lt v.1.1) (fun b hb => full_sub hb) (stL v) FBn FBn (by omega)).b (fun q hq => ?_)
    have hz : ZE y q.2 := fun p j hp => by rw [hq.2 p (by omega)]
    refine Ok.i ⟨?_, y3.tr hz.k, y2.fr hz⟩
    dsimp only
    rw [hq.1, cs_g v]
    congr 1
    unfold gCo
    rw [List.countP_map]
    apply List.countP_congr
    intro l hl
    have := gp_40 (ty := fullT d) v.1 (fullG_lt v.1) hl
    show decide (gpS d (fullT d) l < min (m + 1) 41) = true ↔ decide (gpS d (fullT d) l < m + 1) = true
    rw [decide_eq_true_eq, decide_eq_true_eq]
    omega
theorem c_gapless {k : Nat} {z w : gS} (h : Rel k z w) (x : Int32) : AL (k + 1) (f_X10_gapless x z) (f_X11_gapless x w) := by
  obtain ⟨d, n, by_, E, hR⟩ := h
  have hR' := hR
  obtain ⟨v, hx, hm, hE, _⟩ := hR'
  have h5 := gG_5040 v
  have hp := x_readyPlan v hx hR.g
  have hg := m_gap_g hm v
  unfold f_X10_gapless f_X11_gapless
  rcases ixs x (n := (gG d).length) (by omega) with hb | ⟨i, hi, rfl⟩
  · refine AL.g hR (r := gm1) ?_ ?_
    · refine hp.b (fun y hy => ?_)
      obtain ⟨y1, y2, y3, y4⟩ := hy
      rcases hb with q | q
      · rw [if_pos q]
        exact Ok.i ⟨rfl, y3, y2⟩
      · rw [if_neg (ge_nn (by omega) q), x_smooth_g v y4, q_gb, if_neg (lt_n (by omega) q)]
        exact Ok.i ⟨rfl, y3, y2⟩
    · refine hg.b (fun y hy => ?_)
      rw [hy.1.1, m_in_out (n := (gG d).length) (by omega) hb, q_gb, q_if00]
      exact Ok.i ⟨rfl, hy.2⟩
  · refine AL.g hR (r := nI (dig 0 ((gG d).getD i []))) ?_ ?_
    · refine hp.b (fun y hy => ?_)
      obtain ⟨y1, y2, y3, y4⟩ := hy
      rw [q_iflt0 (by omega), x_smooth_g v y4, q_gb, if_pos (nI_lt hi (by omega)), x_pick_g v y4 hi, q_gb]
      exact Ok.i ⟨rfl, y3, y2⟩
    · refine hg.b (fun y hy => ?_)
      rw [hy.1.1, m_in_in (n := (gG d).length) hi (by omega), q_gb, q_if1, q_gg (by omega) (by omega), nI_clamp (by omega), hy.1.2 i hi]
      exact Ok.i ⟨rfl, hy.2⟩
theorem c_fewest {k : Nat} {z w : gS} (h : Rel k z w) (x : Int32) : AL (k + 1) (f_X10_fewest x z) (f_X11_fewest x w) := by
  have h' := h
  obtain ⟨d, n, by_, E, hR⟩ := h'
  have hR' := hR
  obtain ⟨v, hx, hm, hE, _⟩ := hR'
  have v1 := v.1.1
  rcases ixs x (n := 3) (by omega) with hb | ⟨i, hi, rfl⟩
  · refine AL.z h (r := -2) ?_ ?_
    · unfold f_X10_fewest
      rcases hb with q | q
      · rw [if_pos q]
      · rw [if_neg (ge_nn (by omega) q), if_neg (le_n (by omega) q)]
    · unfold f_X11_fewest
      rw [in_n (by omega) hb, q_gb, q_if00]
  · have hbl := bl_T (ty := fullT d) v.1 (mfP_hm (fullG d) none none) (fullG_lt v.1)
    have hne : oT (fullG d) ≠ [] := oT_ne v
    have hlen : 0 < (bl (fullG d) (mfP (fullG d) none none) (tol (fullG d) (stT d (fullT d))) 0).length := by
      rw [hbl]
      exact List.length_pos_iff.mpr (fl_ne hne (fun l hl => by have := gp_40 (ty := fullT d) v.1 (fullG_lt v.1) hl; omega))
    refine AL.g hR (r := if i = 0 then nI (mnF (gCo d)) else if i = 1 then nI (wy (gCo d)) else nI (dig 0 ((bl (fullG d) (mfP (fullG d) none none) (tol (fullG d) (stT d (fullT d))) 0).getD 0 []))) ?_ ?_
    · unfold f_X10_fewest
      rw [q_iflt0 (by omega), if_pos (nI_le (show i ≤ 2 by omega) (by omega))]
      refine (x_readyPlan v hx hR.g).b (fun y hy => ?_)
      obtain ⟨y1, y2, y3, y4⟩ := hy
      have hw := x_ways y4
      rw [cs_g v] at hw
      rw [q_ifeq (by omega) (by omega), q_ifeq (by omega) (by omega), x_least_g v y4, q_gb, q_gg (by omega) (by omega), nI_clamp (by omega), hw, x_pick y4 (full_lt v1) (stL v) FBn FBn hlen, q_gb]
      by_cases c0 : i = 0
      · rw [if_pos c0, if_pos c0]; exact Ok.i ⟨rfl, y3, y2⟩
      · rw [if_neg c0, if_neg c0]
        by_cases c1 : i = 1
        · rw [if_pos c1, if_pos c1]; exact Ok.i ⟨rfl, y3, y2⟩
        · rw [if_neg c1, if_neg c1]; exact Ok.i ⟨rfl, y3, y2⟩
    · have ho := OT.full (g := dg d) (by omega)
      unfold f_X11_fewest
      rw [m_in_nat (show i ≤ 2 by omega) (by omega), q_gb, q_if1]
      refine (m_beginsAll hm v.1).b (fun y hy => ?_)
      refine (m_fewest_26 (E0.mk hm v.1 hy.2.2.se hy.2.1) ho hy.1).m (fun q hq => ⟨?_, hy.2.2.se.tr hq.2⟩)
      obtain ⟨⟨a, b, c, hMN, e⟩, _⟩ := hq
      rcases hMN with ⟨k1, _⟩ | ⟨k1, k2, k3, k4⟩
      · exact absurd k1 hne
      · rw [e, k2, k3, k4, q_if0 (by omega), q_ifeq (by omega) (by omega), hbl]
        rfl
