/-! ends, clusters, knots: the calls alike -/
theorem ZE.trial {z z' : gS} {all : Nat} {f l : Option Nat} {st : Nat → Nat} (hF : Fn 5 z z' 18) (hP : PK z' 18 all f l st) (h0 : z 20 0 = nI 0) : ZE z z' := fun p j hp => by
  by_cases c : p = 20 ∧ j = 0
  · obtain ⟨rfl, rfl⟩ := c
    have := hP.1.2.2.2.2 0 (Nat.zero_le _)
    rw [sn_0] at this
    rw [h0]
    exact this
  · rw [hF p (by omega)]
theorem wy_cnt {L : List Nat} (h : ∀ c ∈ L, c < 1000) : (if mnF L = 0 then wy L else 0) = L.countP (fun c => decide (c = 0)) := by
  by_cases c : mnF L = 0
  · rw [if_pos c]
    unfold wy
    rw [c, List.count_eq_countP]
    apply List.countP_congr
    intro x _
    simp
  · rw [if_neg c, eq_comm, List.countP_eq_zero]
    intro x hx q
    simp at q
    subst q
    have := mnF_m hx
    omega
theorem c_ends {k : Nat} {z w : gS} (h : Rel k z w) (x y b : Int32) : AL (k + 1) (f_X10_ends x y b z) (f_X11_ends x y b w) := by
  have h' := h
  obtain ⟨d, n, by_, E, hR⟩ := h'
  have hR' := hR
  obtain ⟨v, hx, hm, hE, _⟩ := hR'
  have v1 := v.1.1
  rcases ixs x (n := dg d) (by omega) with hb | ⟨i, hi, rfl⟩
  · refine AL.z h (r := gm1) ?_ ?_
    · unfold f_X10_ends; rw [x_holds_n hx hb, q_gb, q_if00]
    · unfold f_X11_ends; rw [m_isGrave_n hm v.1 hb, q_gb, q_if00]
  rcases ixs y (n := dg d) (by omega) with hb | ⟨j, hj, rfl⟩
  · refine AL.z h (r := gm1) ?_ ?_
    · unfold f_X10_ends; rw [x_holds hx v.1 hi, q_gb, q_if1, x_holds_n hx hb, q_gb, q_if00]
    · unfold f_X11_ends; rw [m_isGrave hm v.1 hi, q_gb, q_if1, m_isGrave_n hm v.1 hb, q_gb, q_if00]
  unfold f_X10_ends f_X11_ends
  rw [x_holds hx v.1 hi, q_gb, q_if1, x_holds hx v.1 hj, q_gb, q_if1, m_isGrave hm v.1 hi, q_gb, q_if1, m_isGrave hm v.1 hj, q_gb, q_if1, q_ifeq (by omega) (by omega), q_ifeq (by omega) (by omega), hx.1, hm.1, q_ifle (by omega) (by omega), q_ifle (by omega) (by omega)]
  -- the rest, when the ends are told well
  have rest : (dg d = 1 ↔ i = j) → AL (k + 1) (f_X10_ends_43 (nI i) (nI j) b z) (gb (f_X11_in b (nI 0) (nI 2) w) fun q6 => if q6 = 0 then (some ((-2), w)) else (gb (f_X11_beginsAll w) fun q8 => f_X11_ends_62 (nI i) (nI j) b gF gm1 (nI 0) (nI 0) (nI 1) q8)) := fun hij => by
    rcases ixs b (n := 3) (by omega) with hb | ⟨c, hc, rfl⟩
    · refine AL.z h (r := -2) ?_ ?_
      · unfold f_X10_ends_43
        rcases hb with q | q
        · rw [if_pos q]
        · rw [if_neg (ge_nn (by omega) q), if_neg (le_n (by omega) q)]
      · rw [in_n (by omega) hb, q_gb, q_if00]
    · have hall : fullG d < 2 ^ 7 := full_lt v1
      have hrm := (rm_full (dg d) (by omega)).1
      have hpl : plm (mfP (fullG d) (some i) (some j)) (rm (fullG d) 0) 0 = (oT (fullG d)).filter (enE (dg d) i j) := plm_E hall hrm (by omega) hij
      have hcs : csts (fullG d) (mfP (fullG d) (some i) (some j)) (tol (fullG d) (stT d (fullT d))) 0 = ((oT (fullG d)).filter (enE (dg d) i j)).map (gpS d (fullT d)) := by
        rw [csts_T v.1 (mfP_hm _ _ _) (fullG_lt v.1), hpl]
      have hbl := bl_T (ty := fullT d) v.1 (mfP_hm (fullG d) (some i) (some j)) (fullG_lt v.1)
      rw [hpl] at hbl
      have hne : (oT (fullG d)).filter (enE (dg d) i j) ≠ [] := flE_ne (by omega) hi hj hij
      have h1000 : ∀ l ∈ (oT (fullG d)).filter (enE (dg d) i j), gpS d (fullT d) l < 1000 := fun l hl => by
        have := gp_40 (ty := fullT d) v.1 (fullG_lt v.1) (List.mem_filter.mp hl).1
        omega
      have hlen : 0 < (bl (fullG d) (mfP (fullG d) (some i) (some j)) (tol (fullG d) (stT d (fullT d))) 0).length := by
        rw [hbl]
        exact List.length_pos_iff.mpr (fl_ne hne h1000)
      have hfb : ∀ q, q < dg d → FB (some q) := fun q hq x e => by cases e; omega
      refine AL.g hR (r := if c = 0 then nI (((oT (fullG d)).filter (enE (dg d) i j)).countP (fun l => decide (gpS d (fullT d) l = 0))) else if c = 1 then nI (mnF (((oT (fullG d)).filter (enE (dg d) i j)).map (gpS d (fullT d)))) else nI (dig 0 ((bl (fullG d) (mfP (fullG d) (some i) (some j)) (tol (fullG d) (stT d (fullT d))) 0).getD 0 []))) ?_ ?_
      · unfold f_X10_ends_43
        rw [q_iflt0 (by omega), if_pos (nI_le (show c ≤ 2 by omega) (by omega)), x_everybody hx v.1, q_gb, x_everything hx v.1, q_gb]
        have hg0 := hR.g.1.2.1
        refine (x_make (p := 18) (p1 := 1) (f := some i) (l := some j) hx v.1 (by omega) hall (hfb i hi) (hfb j hj) hg0).b (fun u hu => ?_)
        obtain ⟨u1, u2⟩ := hu
        have hz := ZE.trial u2 u1 hg0
        have hsm : f_X3_smoothOrders 18 u = some (nI (if mnF (csts (fullG d) (mfP (fullG d) (some i) (some j)) (tol (fullG d) (stT d (fullT d))) 0) = 0 then wy (csts (fullG d) (mfP (fullG d) (some i) (some j)) (tol (fullG d) (stT d (fullT d))) 0) else 0)) := x_smooth u1
        rw [hcs, wy_cnt (fun a ha => by obtain ⟨l, hl, rfl⟩ := List.mem_map.mp ha; exact h1000 l hl), List.countP_map] at hsm
        have hle : f_X3_least 18 u = some (nI (mnF (csts (fullG d) (mfP (fullG d) (some i) (some j)) (tol (fullG d) (stT d (fullT d))) 0))) := x_least u1
        rw [hcs] at hle
        rw [q_ifeq (by omega) (by omega), q_ifeq (by omega) (by omega), hsm, q_gb, hle, q_gb, x_pick u1 hall (stL v) (hfb i hi) (hfb j hj) hlen, q_gb]
        by_cases c0 : c = 0
        · rw [if_pos c0, if_pos c0]; exact Ok.i ⟨rfl, hz.k, hR.g.fr hz⟩
        · rw [if_neg c0, if_neg c0]
          by_cases c1 : c = 1
          · rw [if_pos c1, if_pos c1]; exact Ok.i ⟨rfl, hz.k, hR.g.fr hz⟩
          · rw [if_neg c1, if_neg c1]; exact Ok.i ⟨rfl, hz.k, hR.g.fr hz⟩
      · have ho := OT.full (g := dg d) (by omega)
        rw [m_in_nat (show c ≤ 2 by omega) (by omega), q_gb, q_if1]
        refine (m_beginsAll hm v.1).b (fun u hu => ?_)
        refine (m_ends_62 (E0.mk hm v.1 hu.2.2.se hu.2.1) ho hu.1 (by omega) (by omega) (by omega)).m (fun q hq => ⟨?_, hu.2.2.se.tr hq.2⟩)
        obtain ⟨⟨a, b', c', hMN, e⟩, _⟩ := hq
        rcases hMN with ⟨k1, _⟩ | ⟨k1, k2, k3, k4⟩
        · exact absurd k1 hne
        · rw [e, k2, k4, q_if0 (by omega), q_ifeq (by omega) (by omega), hbl]
          rfl
  by_cases c : i = j
  · rw [if_pos c, if_pos c]
    by_cases c1 : dg d ≤ 1
    · rw [if_pos c1, if_pos c1]
      exact rest ⟨fun _ => c, fun _ => by omega⟩
    · rw [if_neg c1, if_neg c1]
      exact AL.z h rfl rfl
  · rw [if_neg c, if_neg c]
    exact rest ⟨fun q => by omega, fun q => absurd q c⟩
theorem x_readyTree {z : gS} {d : Dat} (v : VN d) (hx : SX z 1 d) (g : GG d z) (hP : PP z d) (h0 : mnF (gCo d) = 0) (h15 : ∀ z' : gS, GG d z' → True) : Ok (f_X10_readyTree z) (fun z' => GG d z' ∧ ZK2 z z' ∧ TK z' 283 (dg d) (lie (gG d))) := by
  have g' := g
  obtain ⟨g1, g2, g3⟩ := g'
  unfold f_X10_readyTree
  rcases g2 with e | ⟨e, hT⟩
  · rw [e, q_if00]
    refine (x_readyPlan v hx g).b (fun y hy => ?_)
    obtain ⟨y1, y2, y3, y4⟩ := hy
    have hcs := cs_g v
    have := x_tree (p := 283) (p1 := 13) (n := dg d) v.1.1 y4 (by omega) (stL v) (by
      have : csts (2 ^ dg d - 1) (mfP (2 ^ dg d - 1) none none) (tol (2 ^ dg d - 1) (stT d (fullT d))) 0 = gCo d := hcs
      rw [this]
      exact h0)
    have hbl : bl (2 ^ dg d - 1) (mfP (2 ^ dg d - 1) none none) (tol (2 ^ dg d - 1) (stT d (fullT d))) 0 = gG d := bl_g v h0
    rw [hbl] at this
    refine this.b (fun u hu => ?_)
    obtain ⟨u1, u2⟩ := hu
    rw [q_gl]
    have ur : ∀ p, 1 ≤ p → p < 283 ∨ 290 ≤ p → gup u 0 16 (nI 1) p = y p := fun p h1 h2 => by
      funext j
      rw [gup_n (by omega), u2 p (by omega)]
    have uT : TK (gup u 0 16 (nI 1)) 283 (dg d) (lie (gG d)) := by
      have er : ∀ p, 1 ≤ p → gup u 0 16 (nI 1) p = u p := fun p hp => by funext j; rw [gup_n (by omega)]
      unfold TK CT KK at *
      rw [er 283 (by omega), er (283 + 1) (by omega), er (283 + 3) (by omega), er (283 + 4) (by omega), er (283 + 5) (by omega), er (283 + 6) (by omega)]
      exact u1
    refine Ok.i ⟨⟨y2.1.fr ?_ ?_ (fun p h1 h2 => ur p (by omega) (by omega)), Or.inr ⟨gup_s, uT⟩, y2.2.2.fr ?_ (ur 292 (by omega) (by omega)) (ur 293 (by omega) (by omega))⟩, fun p j hp => ?_, uT⟩
    · rw [gup_n (by omega), u2 0 (by omega)]
    · rw [ur 20 (by omega) (by omega)]
    · rw [gup_n (by omega), u2 0 (by omega)]
    · rw [gup_n (by omega), u2 p (by omega)]
      exact y3 p j hp
  · rw [e, q_if1]
    exact Ok.i ⟨g, ZK2.rf, hT⟩
theorem gG_0 {d : Dat} (v : VN d) : gG d = [] ↔ mnF (gCo d) ≠ 0 := by
  constructor
  · intro e q
    exact gls_ne q (fun l hl => by have := gp_40 (ty := fullT d) v.1 (fullG_lt v.1) hl; omega) e
  · exact gls_nil
theorem m_lies_g {w : gS} {d : Dat} (h : SM w d) (v : VN d) : Ok (f_X11_liesTogether w) (fun y => LF y (gG d) ∧ SE w y) := m_lies h v.1
theorem m_tells_g {w : gS} {d : Dat} (h : SM w d) (v : VN d) : Ok (f_X11_tellsKnots w) (fun q => SE w q.2 ∧ ((gG d = [] ∧ q.1 = nI 0) ∨ (gG d ≠ [] ∧ q.1 = nI 1 ∧ KK q.2 0 13 7 (kL (dg d) (lie (gG d))) ∧ LF q.2 (gG d)))) := m_tellsKnots h v.1
theorem gG_cm {w : gS} {d : Dat} (v : VN d) (h : LF w (gG d)) (hne : gG d ≠ []) : CM w (dg d) (lie (gG d)) := h.cm v.1 (fun l hl => gls_in hl) hne (gG_5040 v)
theorem lie_0 (G : List (List Nat)) : lie G 0 = false := by unfold lie; rfl
/-- both know whether there is a gapless order; then both have the tree -/
theorem tree_case {k : Nat} {z w : gS} {d : Dat} {n : Nat} {by_ : Nat → Nat} {E : List Nat} {α : Type} (hR : RelD k z w d n by_ E) {Fx : Int32 → gS → Option (α × gS)} {Gx : gS → Option (α × gS)} {r0 r1 : α} {o2 : Option (α × gS)} (hF0 : ∀ y, ¬ nI (mnF (gCo d)) = 0 → Fx (nI (mnF (gCo d))) y = some (r0, y)) (hF1 : ∀ y, Fx (nI 0) y = gb (f_X10_readyTree y) Gx) (hG : ∀ y, TK y 283 (dg d) (lie (gG d)) → gG d ≠ [] → Gx y = some (r1, y)) (h0 : gG d = [] → Ok o2 (fun q => q.1 = r0 ∧ SE w q.2)) (h1 : gG d ≠ [] → Ok o2 (fun q => q.1 = r1 ∧ SE w q.2)) : AL (k + 1) (gb (f_X10_readyPlan z) fun q1 => gb (f_X3_least 13 q1) fun q2 => Fx q2 q1) o2 := by
  have hR' := hR
  obtain ⟨v, hx, hm, hE, _⟩ := hR'
  have hmn := mnF_le (gCo d)
  by_cases c : gG d = []
  · refine AL.g hR (r := r0) ?_ (h0 c)
    refine (x_readyPlan v hx hR.g).b (fun y hy => ?_)
    obtain ⟨y1, y2, y3, y4⟩ := hy
    rw [x_least_g v y4, q_gb, hF0 y (fun q => (gG_0 v).mp c ((q_eq0 (by omega)).mp q))]
    exact Ok.i ⟨rfl, y3, y2⟩
  · have hz : mnF (gCo d) = 0 := by
      apply Classical.byContradiction
      exact fun q => c ((gG_0 v).mpr q)
    refine AL.g hR (r := r1) ?_ (h1 c)
    refine (x_readyPlan v hx hR.g).b (fun y hy => ?_)
    obtain ⟨y1, y2, y3, y4⟩ := hy
    rw [x_least_g v y4, q_gb, hz, hF1]
    refine (x_readyTree v y1 y2 y4 hz (fun _ _ => trivial)).b (fun u hu => ?_)
    obtain ⟨u1, u2, u3⟩ := hu
    rw [hG u u3 c]
    exact Ok.i ⟨rfl, y3.tr u2, u1⟩
theorem c_clusters {k : Nat} {z w : gS} (h : Rel k z w) : AL (k + 1) (f_X10_clusters z) (f_X11_clusters w) := by
  obtain ⟨d, n, by_, E, hR⟩ := h
  have hR' := hR
  obtain ⟨v, hx, hm, hE, _⟩ := hR'
  have h5 := gG_5040 v
  have key : ∀ (r : Int32), (gG d = [] → r = -3) → (gG d ≠ [] → r = nI (cntB (lie (gG d)) (2 ^ dg d))) → Ok (f_X11_clusters w) (fun q => q.1 = r ∧ SE w q.2) := fun r r1 r2 => by
    unfold f_X11_clusters
    refine (m_lies_g hm v).b (fun y hy => ?_)
    rw [hy.1.1, q_if0 (by omega)]
    by_cases c : gG d = []
    · rw [if_pos (by rw [c]; rfl), r1 c]
      exact Ok.i ⟨rfl, hy.2⟩
    · rw [if_neg (by have := List.length_pos_iff.mpr c; omega), m_clusters_18 (hm.se hy.2) v.1 (gG_cm v hy.1 c) (lie_0 _), r2 c]
      exact Ok.i ⟨rfl, hy.2⟩
  unfold f_X10_clusters
  exact tree_case hR (Fx := fun q2 q1 => if q2 = 0 then (gb (f_X10_readyTree q1) fun q4 => some (q4 283 3, q4)) else (some ((-3), q1))) (Gx := fun q4 => some (q4 283 3, q4)) (r0 := -3) (r1 := nI (cntB (lie (gG d)) (2 ^ dg d))) (fun y q => if_neg q) (fun y => if_pos rfl) (fun y hy hc => by show some (y 283 3, y) = _; rw [hy.2.1]) (fun c => key _ (fun _ => rfl) (fun q => absurd c q)) (fun c => key _ (fun q => absurd q c) (fun _ => rfl))
theorem c_knots {k : Nat} {z w : gS} (h : Rel k z w) (x : Int32) : AL (k + 1) (f_X10_knots x z) (f_X11_knots x w) := by
  have h' := h
  obtain ⟨d, n, by_, E, hR⟩ := h'
  have hR' := hR
  obtain ⟨v, hx, hm, hE, _⟩ := hR'
  have hL := kL_len (c := lie (gG d)) v.1.1
  rcases ixs x (n := 3) (by omega) with hb | ⟨i, hi, rfl⟩
  · refine AL.z h (r := -2) ?_ ?_
    · unfold f_X10_knots
      rcases hb with q | q
      · rw [if_pos q]
      · rw [if_neg (ge_nn (by omega) q), if_neg (le_n (by omega) q)]
    · unfold f_X11_knots
      rw [in_n (by omega) hb, q_gb, q_if00]
  · have key : ∀ (r : Int32), (gG d = [] → r = -3) → (gG d ≠ [] → r = if i = 0 then nI (kL (dg d) (lie (gG d))).length else nI (soC (lie (gG d)) (kL (dg d) (lie (gG d))) i)) → Ok (f_X11_knots (nI i) w) (fun q => q.1 = r ∧ SE w q.2) := fun r r1 r2 => by
      unfold f_X11_knots
      rw [m_in_nat (show i ≤ 2 by omega) (by omega), q_gb, q_if1]
      refine (m_tells_g hm v).b (fun y hy => ?_)
      obtain ⟨y1, ⟨c, y2⟩ | ⟨c, y2, y3, y4⟩⟩ := hy
      · rw [y2, q_if00, r1 c]
        exact Ok.i ⟨rfl, y1⟩
      · rw [y2, q_if1, q_if0 (by omega), y3.1, m_knotsOf y3 hL kL_nd kL_lt v.1.1 (gG_cm v y4 c) (by omega), q_gb, r2 c]
        by_cases c0 : i = 0
        · rw [if_pos c0, if_pos c0]; exact Ok.i ⟨rfl, y1⟩
        · rw [if_neg c0, if_neg c0]; exact Ok.i ⟨rfl, y1⟩
    unfold f_X10_knots
    rw [q_iflt0 (by omega), if_pos (nI_le (show i ≤ 2 by omega) (by omega))]
    refine tree_case hR (Fx := fun q4 q3 => if q4 = 0 then (gb (f_X10_readyTree q3) fun q6 => if nI i = 0 then (some (q6 283 4, q6)) else (if nI i = (nI 1) then (gb (f_X9_ofSort 283 (nI 1) q6) fun q10 => some (q10, q6)) else (gb (f_X9_ofSort 283 (nI 2) q6) fun q9 => some (q9, q6)))) else (some ((-3), q3))) (Gx := fun q6 => if nI i = 0 then (some (q6 283 4, q6)) else (if nI i = (nI 1) then (gb (f_X9_ofSort 283 (nI 1) q6) fun q10 => some (q10, q6)) else (gb (f_X9_ofSort 283 (nI 2) q6) fun q9 => some (q9, q6)))) (r0 := -3) (r1 := if i = 0 then nI (kL (dg d) (lie (gG d))).length else nI (soC (lie (gG d)) (kL (dg d) (lie (gG d))) i)) (fun y q => if_neg q) (fun y => if_pos rfl) (fun y hy hc => ?_) (fun c => key _ (fun _ => rfl) (fun q => absurd c q)) (fun c => key _ (fun q => absurd q c) (fun _ => rfl))
    try dsimp only
    rw [q_if0 (by omega), q_ifeq (by omega) (by omega), x_ofSort v.1.1 hy (by omega), x_ofSort v.1.1 hy (by omega), q_gb, q_gb, hy.2.2.1.1]
    by_cases c0 : i = 0
    · rw [if_pos c0, if_pos c0]
    · rw [if_neg c0, if_neg c0]
      by_cases c1 : i = 1
      · rw [if_pos c1, c1]
      · rw [if_neg c1, show i = 2 by omega]
theorem c_told {k : Nat} {z w : gS} (h : Rel k z w) : AL (k + 1) (f_X10_told z) (f_X11_told w) := by
  obtain ⟨d, n, by_, E, hR⟩ := h
  have hR' := hR
  obtain ⟨v, hx, hm, hE, _⟩ := hR'
  have hL := kL_len (c := lie (gG d)) v.1.1
  have key : ∀ (r : Int64), (gG d = [] → r = -9223372036854775808) → (gG d ≠ [] → r = lN (prN (lie (gG d)) (kL (dg d) (lie (gG d))) (kL (dg d) (lie (gG d))).length)) → Ok (f_X11_told w) (fun q => q.1 = r ∧ SE w q.2) := fun r r1 r2 => by
    unfold f_X11_told
    refine (m_tells_g hm v).b (fun y hy => ?_)
    obtain ⟨y1, ⟨c, y2⟩ | ⟨c, y2, y3, y4⟩⟩ := hy
    · rw [y2, q_if00, r1 c]
      exact Ok.i ⟨rfl, y1⟩
    · rw [y2, q_if1, m_told_15 y3 hL kL_nd kL_lt v.1.1 (gG_cm v y4 c), r2 c]
      exact Ok.i ⟨rfl, y1⟩
  unfold f_X10_told
  exact tree_case hR (Fx := fun q2 q1 => if q2 = 0 then (gb (f_X10_readyTree q1) fun q4 => gb (f_X9_product 283 q4) fun q5 => some (q5, q4)) else (some ((-9223372036854775808), q1))) (Gx := fun q4 => gb (f_X9_product 283 q4) fun q5 => some (q5, q4)) (r0 := -9223372036854775808) (r1 := lN (prN (lie (gG d)) (kL (dg d) (lie (gG d))) (kL (dg d) (lie (gG d))).length)) (fun y q => if_neg q) (fun y => if_pos rfl) (fun y hy hc => by rw [x_product v.1.1 hy, q_gb]) (fun c => key _ (fun _ => rfl) (fun q => absurd c q)) (fun c => key _ (fun q => absurd q c) (fun _ => rfl))
theorem nO_m1 {o : Option Nat} (ho : ∀ i, o = some i → i < 100) {r : Sort _} {x y : r} : (if 0 ≤ nO o then x else y) = if o = none then y else x := by
  cases o with
  | none => rw [if_neg (by decide), if_pos rfl]
  | some i => have := ho i rfl; rw [nO_some, q_if0le (by omega), if_neg (by simp)]
theorem c_knot {k : Nat} {z w : gS} (h : Rel k z w) (x y : Int32) : AL (k + 1) (f_X10_knot x y z) (f_X11_knot x y w) := by
  obtain ⟨d, n, by_, E, hR⟩ := h
  have hR' := hR
  obtain ⟨v, hx, hm, hE, _⟩ := hR'
  have hL := kL_len (c := lie (gG d)) v.1.1
  have hpw : 2 ^ dg d ≤ 2 ^ 7 := Nat.pow_le_pow_right (by omega) v.1.1
  generalize hKL : kL (dg d) (lie (gG d)) = L at *
  have hnd : L.Nodup := by rw [← hKL]; exact kL_nd
  have hlt : ∀ a ∈ L, a < 2 ^ dg d := fun a ha => by rw [← hKL] at ha; exact kL_lt a ha
  have h128 : ∀ a ∈ L, a < 128 := fun a ha => by have := hlt a ha; omega
  have hab : ∀ i, i < L.length → ∀ j, abO L i = some j → j < 100 := fun i _ j hj => by have := abO_gt hj; omega
  -- the answer
  have hans : ∃ r1 : Int32, (∀ q : gS, TK q 283 (dg d) (lie (gG d)) → gG d ≠ [] → (if x < 0 then (some (gm1, q)) else (if x < (q 283 4) then (if y = (nI 0) then (gg x 13 (some (q (283 + 3) x.toNatClampNeg, q))) else if y = (nI 1) then (gg x 13 (some (q (283 + 4) x.toNatClampNeg, q))) else if y = (nI 2) then (some (gm1, q)) else if y = (nI 3) then (gg x 13 (some (q (283 + 5) x.toNatClampNeg, q))) else if y = (nI 4) then (gg x 13 (if 0 ≤ (q (283 + 6) x.toNatClampNeg) then (gg x 13 (some (q (283 + 6) x.toNatClampNeg, q))) else (some ((-5), q)))) else (some (gm1, q))) else (some (gm1, q)))) = some (r1, q)) ∧ (gG d ≠ [] → Ok (f_X11_knot x y w) (fun q => q.1 = r1 ∧ SE w q.2)) := by
    have hm2 : ∀ (P : gS → Option (Int32 × gS)) (r1 : Int32), gG d ≠ [] → (∀ q : gS, SE w q → KK q 0 13 7 L → CM q (dg d) (lie (gG d)) → (gb (f_X11_in x (nI 0) ((q 0 13) - (nI 1)) q) fun q3 => if q3 = 0 then (some (gm1, q)) else (if y = (nI 0) then (gg x 128 (some (q 7 x.toNatClampNeg, q))) else if y = (nI 1) then (gb (f_X11_sortOf x q) fun q8 => some (q8, q)) else if y = (nI 2) then (some (gm1, q)) else if y = (nI 3) then (gb (f_X11_childrenOf x q) fun q11 => some (q11, q)) else if y = (nI 4) then (gb (f_X11_above x q) fun q13 => some (q13, q)) else (some (gm1, q)))) = some (r1, q)) → Ok (f_X11_knot x y w) (fun q => q.1 = r1 ∧ SE w q.2) := fun P r1 hne hq => by
      unfold f_X11_knot
      refine (m_tells_g hm v).b (fun u hu => ?_)
      obtain ⟨u1, ⟨c, u2⟩ | ⟨c, u2, u3, u4⟩⟩ := hu
      · exact absurd c hne
      · rw [hKL] at u3
        rw [u2, q_if1, hq u.2 u1 u3 (gG_cm v u4 c)]
        exact Ok.i ⟨rfl, u1⟩
    rcases ixs x (n := L.length) (by omega) with hb | ⟨i, hi, rfl⟩
    · refine ⟨gm1, fun q hq hne => ?_, fun hne => hm2 (fun _ => none) gm1 hne (fun q _ hK _ => ?_)⟩
      · have h4 := hq.2.2.1.1
        rw [hKL] at h4
        rcases hb with c | c
        · rw [if_pos c]
        · rw [if_neg (ge_nn (by omega) c), h4, if_neg (lt_n (by omega) c)]
      · rw [hK.1, m_in_out (by omega) hb, q_gb, q_if00]
    · have hLi := h128 _ (getD_in hi)
      have main : ∀ (r1 : Int32), (∀ q : gS, (∀ i, i < L.length → q (283 + 3) i = nI (L.getD i 0) ∧ q (283 + 6) i = nO (abO L i) ∧ q (283 + 5) i = nI (chN L i) ∧ q (283 + 4) i = nI (soN (lie (gG d)) L i)) → (if y = (nI 0) then (gg (nI i) 13 (some (q (283 + 3) (nI i).toNatClampNeg, q))) else if y = (nI 1) then (gg (nI i) 13 (some (q (283 + 4) (nI i).toNatClampNeg, q))) else if y = (nI 2) then (some (gm1, q)) else if y = (nI 3) then (gg (nI i) 13 (some (q (283 + 5) (nI i).toNatClampNeg, q))) else if y = (nI 4) then (gg (nI i) 13 (if 0 ≤ (q (283 + 6) (nI i).toNatClampNeg) then (gg (nI i) 13 (some (q (283 + 6) (nI i).toNatClampNeg, q))) else (some ((-5), q)))) else (some (gm1, q))) = some (r1, q)) → (∀ q : gS, KK q 0 13 7 L → CM q (dg d) (lie (gG d)) → (if y = (nI 0) then (gg (nI i) 128 (some (q 7 (nI i).toNatClampNeg, q))) else if y = (nI 1) then (gb (f_X11_sortOf (nI i) q) fun q8 => some (q8, q)) else if y = (nI 2) then (some (gm1, q)) else if y = (nI 3) then (gb (f_X11_childrenOf (nI i) q) fun q11 => some (q11, q)) else if y = (nI 4) then (gb (f_X11_above (nI i) q) fun q13 => some (q13, q)) else (some (gm1, q))) = some (r1, q)) → ∃ r1 : Int32, (∀ q : gS, TK q 283 (dg d) (lie (gG d)) → gG d ≠ [] → (if nI i < 0 then (some (gm1, q)) else (if nI i < (q 283 4) then (if y = (nI 0) then (gg (nI i) 13 (some (q (283 + 3) (nI i).toNatClampNeg, q))) else if y = (nI 1) then (gg (nI i) 13 (some (q (283 + 4) (nI i).toNatClampNeg, q))) else if y = (nI 2) then (some (gm1, q)) else if y = (nI 3) then (gg (nI i) 13 (some (q (283 + 5) (nI i).toNatClampNeg, q))) else if y = (nI 4) then (gg (nI i) 13 (if 0 ≤ (q (283 + 6) (nI i).toNatClampNeg) then (gg (nI i) 13 (some (q (283 + 6) (nI i).toNatClampNeg, q))) else (some ((-5), q)))) else (some (gm1, q))) else (some (gm1, q)))) = some (r1, q)) ∧ (gG d ≠ [] → Ok (f_X11_knot (nI i) y w) (fun q => q.1 = r1 ∧ SE w q.2)) := fun r1 ha hb => by
        refine ⟨r1, fun q hq hne => ?_, fun hne => hm2 (fun _ => none) r1 hne (fun q _ hK hC => ?_)⟩
        · obtain ⟨t1, t2, t3, t4⟩ := hq
          rw [hKL] at t3 t4
          rw [q_iflt0 (by omega), t3.1, if_pos (nI_lt hi (by omega))]
          exact ha q (fun j hj => ⟨t3.2 j hj, t4 j hj⟩)
        · rw [hK.1, m_in_in hi (by omega), q_gb, q_if1]
          exact hb q hK hC
      by_cases c0 : y = nI 0
      · refine main (nI (L.getD i 0)) (fun q hq => ?_) (fun q hK hC => ?_)
        · rw [if_pos c0, q_gg (by omega) (by omega), nI_clamp (by omega), (hq i hi).1]
        · rw [if_pos c0, q_gg (by omega) (by omega), nI_clamp (by omega), hK.2 i hi]
      by_cases c1 : y = nI 1
      · refine main (nI (soN (lie (gG d)) L i)) (fun q hq => ?_) (fun q hK hC => ?_)
        · rw [if_neg c0, if_pos c1, q_gg (by omega) (by omega), nI_clamp (by omega), (hq i hi).2.2.2]
        · rw [if_neg c0, if_pos c1, m_sortOf hK hL hnd hlt v.1.1 hi hC, q_gb]
      by_cases c2 : y = nI 2
      · refine main gm1 (fun q hq => ?_) (fun q hK hC => ?_)
        · rw [if_neg c0, if_neg c1, if_pos c2]
        · rw [if_neg c0, if_neg c1, if_pos c2]
      by_cases c3 : y = nI 3
      · refine main (nI (chN L i)) (fun q hq => ?_) (fun q hK hC => ?_)
        · rw [if_neg c0, if_neg c1, if_neg c2, if_pos c3, q_gg (by omega) (by omega), nI_clamp (by omega), (hq i hi).2.2.1]
        · rw [if_neg c0, if_neg c1, if_neg c2, if_pos c3, m_childrenOf hK hL hnd h128 hi, q_gb]
      by_cases c4 : y = nI 4
      · refine main (nO5 (abO L i)) (fun q hq => ?_) (fun q hK hC => ?_)
        · rw [if_neg c0, if_neg c1, if_neg c2, if_neg c3, if_pos c4, q_gg (by omega) (by omega), nI_clamp (by omega), (hq i hi).2.1, nO_m1 (hab i hi), q_gg (by omega) (by omega)]
          cases abO L i with
          | none => rfl
          | some j => rfl
        · rw [if_neg c0, if_neg c1, if_neg c2, if_neg c3, if_pos c4, m_above hK hL hnd h128 hi, q_gb]
      · refine main gm1 (fun q hq => ?_) (fun q hK hC => ?_)
        · rw [if_neg c0, if_neg c1, if_neg c2, if_neg c3, if_neg c4]
        · rw [if_neg c0, if_neg c1, if_neg c2, if_neg c3, if_neg c4]
  obtain ⟨r1, hg, h2⟩ := hans
  have h0 : gG d = [] → Ok (f_X11_knot x y w) (fun q => q.1 = -3 ∧ SE w q.2) := fun c => by
    unfold f_X11_knot
    refine (m_tells_g hm v).b (fun u hu => ?_)
    obtain ⟨u1, ⟨c, u2⟩ | ⟨c2, u2, u3, u4⟩⟩ := hu
    · rw [u2, q_if00]
      exact Ok.i ⟨rfl, u1⟩
    · exact absurd c c2
  unfold f_X10_knot
  exact tree_case hR (Fx := fun q2 q1 => if q2 = 0 then (gb (f_X10_readyTree q1) fun q4 => if x < 0 then (some (gm1, q4)) else (if x < (q4 283 4) then (if y = (nI 0) then (gg x 13 (some (q4 (283 + 3) x.toNatClampNeg, q4))) else if y = (nI 1) then (gg x 13 (some (q4 (283 + 4) x.toNatClampNeg, q4))) else if y = (nI 2) then (some (gm1, q4)) else if y = (nI 3) then (gg x 13 (some (q4 (283 + 5) x.toNatClampNeg, q4))) else if y = (nI 4) then (gg x 13 (if 0 ≤ (q4 (283 + 6) x.toNatClampNeg) then (gg x 13 (some (q4 (283 + 6) x.toNatClampNeg, q4))) else (some ((-5), q4)))) else (some (gm1, q4))) else (some (gm1, q4)))) else (some ((-3), q1))) (Gx := _) (r0 := -3) (r1 := r1) (fun y q => if_neg q) (fun y => if_pos rfl) hg h0 h2
