/-! the calls that are given a row -/
theorem fullT_lt {d : Dat} (v : VN d) : fullT d < 256 := by
  have : 2 ^ dt d ≤ 2 ^ 8 := Nat.pow_le_pow_right (by omega) v.1.2.1
  unfold fullT
  omega
theorem x_plan296 {z : gS} {d : Dat} (v : VN d) (hx : SX z 1 d) (g : GG d z) : Ok (f_X10_readyPlan z) (fun y => y 296 = z 296) := by
  obtain ⟨⟨p1, p2, p3⟩, g2, g3⟩ := g
  unfold f_X10_readyPlan
  rcases p3 with e | ⟨e, hP⟩
  · rw [e, q_if00, x_everybody hx v.1, q_gb, x_everything hx v.1, q_gb]
    refine (x_make (p := 13) (p1 := 1) (f := none) (l := none) hx v.1 (by omega) (full_lt v.1.1) FBn FBn p1).b (fun y hy => ?_)
    rw [q_gl]
    exact Ok.i (by funext j; rw [gup_n (by omega), hy.2 296 (by omega)])
  · rw [e, q_if1]
    exact Ok.i rfl
theorem c_row {k : Nat} {z w : gS} (h : Rel k z w) (x : Int32) {F G : gS → Option (Int32 × gS)} (hr : ∀ d l z' w', VN d → SX z' 1 d → SM w' d → l ∈ oT (fullG d) → x = nI (dig 0 l) → (∀ y ∈ l, y < dg d) → RX z' (dg d) l → RW w' l → B7 l → w' 0 8 = nI (fullT d) → GG d z' → ∃ r, Ok (F z') (fun q => q.1 = r ∧ ZK2 z' q.2 ∧ GG d q.2) ∧ Ok (G w') (fun q => q.1 = r ∧ SE w' q.2)) : AL (k + 1) (gb (f_X10_setRow x z) fun q1 => if q1.1 = 0 then (some ((-2), q1.2)) else F q1.2) (gb (f_X11_isOrder x w) fun q1 => if q1.1 = 0 then (some ((-2), q1.2)) else G q1.2) := by
  have h' := h
  obtain ⟨d, n, by_, E, hR⟩ := h'
  have hR' := hR
  obtain ⟨v, hx, hm, hE, _⟩ := hR'
  obtain ⟨q1, e1, a1, b1⟩ := x_setRow hx v.1 x
  obtain ⟨q2, e2, a2, b2⟩ := m_isOrder hm v.1 x
  have hz : ZE z q1.2 := fun p j hp => by rw [b1 p (by omega)]
  have hw := b2.se
  rw [e1, q_gb, e2, q_gb]
  cases e : pX d x with
  | none =>
    rw [e] at a1 a2
    dsimp only at a1 a2
    refine AL.g hR (r := -2) ?_ ?_
    · rw [a1, q_if00]; exact Ok.i ⟨rfl, hz.k, hR.g.fr hz⟩
    · rw [a2, q_if00]; exact Ok.i ⟨rfl, hw⟩
  | some l =>
    rw [e] at a1 a2
    dsimp only at a1 a2
    obtain ⟨hl, hxl⟩ := pX_ok v.1 e
    have ho := OT.full (g := dg d) (by have := v.1.1; omega)
    obtain ⟨o1, o2⟩ := ho.2.2.2.2.2 l hl
    have hx1 : SX q1.2 1 d := hx.fr (b1 1 (by omega)) (b1 (1 + 1) (by omega)) (b1 (1 + 2) (by omega)) (b1 (1 + 3) (by omega))
    obtain ⟨r, f1, f2⟩ := hr d l q1.2 q2.2 v hx1 (hm.se hw) hl hxl (in_lt v.1 (fullG_lt v.1) hl) ⟨o1, a1.2⟩ a2.2.1 o2 a2.2.2 (hR.g.fr hz)
    refine AL.g hR (r := r) ?_ ?_
    · rw [a1.1, q_if1]
      exact f1.m (fun q hq => ⟨hq.1, hz.k.tr hq.2.1, hq.2.2⟩)
    · rw [a2.1, q_if1]
      exact f2.m (fun q hq => ⟨hq.1, hw.tr hq.2⟩)
theorem c_gaps {k : Nat} {z w : gS} (h : Rel k z w) (x : Int32) : AL (k + 1) (f_X10_gaps x z) (f_X11_gaps x w) := by
  unfold f_X10_gaps f_X11_gaps
  refine c_row h x (F := fun q => gb (f_X10_rowGaps q) fun q3 => some (q3, q)) (G := fun q => gb (f_X11_gapsNow q) fun q3 => some (q3, q)) (fun d l z' w' v hx hm hl hxl hg hX hW hB h8 hG => ?_)
  have : fullT d < 256 := fullT_lt v
  rw [x_rowGaps hx v.1 hX hg, m_gapsNow hm v.1 hW hB hg h8 this]
  exact ⟨_, Ok.i ⟨rfl, ZK2.rf, hG⟩, Ok.i ⟨rfl, SE.rf⟩⟩
theorem c_runs {k : Nat} {z w : gS} (h : Rel k z w) (x : Int32) : AL (k + 1) (f_X10_runs x z) (f_X11_runs x w) := by
  unfold f_X10_runs f_X11_runs
  refine c_row h x (F := fun q => f_X10_runs_15 q gF (nI 0) (nI 0)) (G := fun q => f_X11_runs_15 q gF (nI 0) (nI 0)) (fun d l z' w' v hx hm hl hxl hg hX hW hB h8 hG => ?_)
  rw [x_runs_15 hx v.1 hX hg, m_runs_15 hm v.1 hW hB hg]
  exact ⟨_, Ok.i ⟨rfl, ZK2.rf, hG⟩, Ok.i ⟨rfl, SE.rf⟩⟩
theorem c_kinship {k : Nat} {z w : gS} (h : Rel k z w) (x : Int32) : AL (k + 1) (f_X10_kinship x z) (f_X11_kinship x w) := by
  unfold f_X10_kinship f_X11_kinship
  refine c_row h x (F := fun q => f_X10_kinship_15 q gF (nI 0) (nI 1)) (G := fun q => gb (f_X11_kinshipNow q) fun q3 => some (q3, q)) (fun d l z' w' v hx hm hl hxl hg hX hW hB h8 hG => ?_)
  rw [x_kinship_15 hx v.1 hX hg, m_kinshipNow hm v.1 hW hB hg]
  exact ⟨_, Ok.i ⟨rfl, ZK2.rf, hG⟩, Ok.i ⟨rfl, SE.rf⟩⟩
theorem c_turned {k : Nat} {z w : gS} (h : Rel k z w) (x : Int32) : AL (k + 1) (f_X10_turned x z) (f_X11_turned x w) := by
  unfold f_X10_turned f_X11_turned
  refine c_row h x (F := fun q => gl ((q 1 0) - (nI 1)) fun y3 => f_X10_turned_23 q gF (nI 0) y3) (G := fun q => gl ((q 0 7) - (nI 1)) fun y3 => f_X11_turned_20 q gF (nI 0) y3) (fun d l z' w' v hx hm hl hxl hg hX hW hB h8 hG => ?_)
  have hn : ∀ n, n < 8 → nI n - nI 1 = dI n := by decide
  rw [q_gl, q_gl, hx.1, hW.1, hn _ (by have := v.1.1; omega), hn _ (by have := hB.1; omega), x_turned_23 v.1 hX, m_turned_20 hW hB]
  exact ⟨_, Ok.i ⟨rfl, ZK2.rf, hG⟩, Ok.i ⟨rfl, SE.rf⟩⟩
theorem c_swap {k : Nat} {z w : gS} (h : Rel k z w) (x a b : Int32) : AL (k + 1) (f_X10_swap x a b z) (f_X11_swap x a b w) := by
  unfold f_X10_swap f_X11_swap
  refine c_row h x (F := fun q => gb (f_X5_holds 1 a q) fun q3 => if q3 = 0 then (some (gm1, q)) else (gb (f_X5_holds 1 b q) fun q5 => if q5 = 0 then (some (gm1, q)) else (f_X10_swap_41 q a b gF (nI 0) (nI 0)))) (G := fun q => gb (f_X11_isGrave a q) fun q3 => if q3 = 0 then (some (gm1, q)) else (gb (f_X11_isGrave b q) fun q5 => if q5 = 0 then (some (gm1, q)) else (f_X11_swap_32 a b gF (nI 0) q))) (fun d l z' w' v hx hm hl hxl hg hX hW hB h8 hG => ?_)
  have v1 := v.1.1
  rcases ixs a (n := dg d) (by omega) with hb | ⟨i, hi, rfl⟩
  · rw [x_holds_n hx hb, q_gb, q_if00, m_isGrave_n hm v.1 hb, q_gb, q_if00]
    exact ⟨_, Ok.i ⟨rfl, ZK2.rf, hG⟩, Ok.i ⟨rfl, SE.rf⟩⟩
  rw [x_holds hx v.1 hi, q_gb, q_if1, m_isGrave hm v.1 hi, q_gb, q_if1]
  rcases ixs b (n := dg d) (by omega) with hb | ⟨j, hj, rfl⟩
  · rw [x_holds_n hx hb, q_gb, q_if00, m_isGrave_n hm v.1 hb, q_gb, q_if00]
    exact ⟨_, Ok.i ⟨rfl, ZK2.rf, hG⟩, Ok.i ⟨rfl, SE.rf⟩⟩
  rw [x_holds hx v.1 hj, q_gb, q_if1, m_isGrave hm v.1 hj, q_gb, q_if1, x_swap_41 hx v.1 hX hg hi hj]
  exact ⟨_, Ok.i ⟨rfl, ZK2.rf, hG⟩, (m_swap_32 hW hB (by omega) (by omega)).m (fun q hq => ⟨hq.1, SE.r4 hq.2⟩)⟩
theorem c_rank {k : Nat} {z w : gS} (h : Rel k z w) (x : Int32) : AL (k + 1) (f_X10_rank x z) (f_X11_rank x w) := by
  unfold f_X10_rank f_X11_rank
  refine c_row h x (F := fun q => gb (f_X10_readyPlan q) fun q3 => gb (f_X3_ahead 13 296 7 (q3 1 0) q3) fun q4 => some (q4, q3)) (G := fun q => gb (f_X11_gaplessOnes q) fun q3 => f_X11_rank_17 q3 x gF (nI 0)) (fun d l z' w' v hx hm hl hxl hg hX hW hB h8 hG => ?_)
  have v1 := v.1.1
  have ho := OT.full (g := dg d) (by omega)
  obtain ⟨o1, o2⟩ := ho.2.2.2.2.2 l hl
  refine ⟨nI ((gG d).countP (fun l' => decide (dig 0 l' < dig 0 l))), ?_, ?_⟩
  · obtain ⟨y, ey, y1, y2, y3, y4⟩ := x_readyPlan v hx hG
    obtain ⟨y', ey', y5⟩ := x_plan296 v hx hG
    rw [ey] at ey'
    cases ey'
    have := x_ahead (p1 := 296) y4 (full_lt v1) (stL v) FBn FBn (r := l) (o1.trans ho.2.1.symm) o2.2 (fun j hj => by rw [y5]; exact hX.2 j (by omega))
    rw [cs_g v] at this
    rw [ey, q_gb, y1.1, ← o1, this, q_gb]
    refine Ok.i ⟨?_, y3, y2⟩
    dsimp only
    by_cases c : mnF (gCo d) = 0
    · rw [if_pos c]
      unfold cntL
      rw [bl_g v c]
    · rw [if_neg c, show gG d = [] from gls_nil c]
      rfl
  · refine (m_gap_g hm v).b (fun y hy => ?_)
    rw [hxl]
    have := m_rank_17 (d := d) (ty := fullT d) ho hy.1 (o := dig 0 l) (by have := dig_8 o2; omega)
    rw [this]
    exact Ok.i ⟨rfl, hy.2⟩
theorem c_kin {k : Nat} {z w : gS} (h : Rel k z w) (x : Int32) : AL (k + 1) (f_X10_kin x z) (f_X11_kin x w) := by
  have h' := h
  obtain ⟨d, n, by_, E, hR⟩ := h'
  have hR' := hR
  obtain ⟨v, hx, hm, hE, _⟩ := hR'
  have v1 := v.1.1
  have hp : plA (2 ^ dg d - 1) 0 = oT (fullG d) := rfl
  have hne : oT (fullG d) ≠ [] := oT_ne v
  have hX : ∀ (r : Int32) (g : gS → Option (Int32 × gS)), (∀ y, BO y 153 d → SX y 1 d → g y = some (r, y)) → Ok (gb (f_X0_make 153 1 z) g) (fun q => q.1 = r ∧ ZK2 z q.2 ∧ GG d q.2) := fun r g hg => by
    refine (x_bonds (p := 153) (p1 := 1) hx v.1 (by omega)).b (fun y hy => ?_)
    have hz : ZE z y := fun p j hp => by rw [hy.2 p (by omega)]
    rw [hg y hy.1 (hx.fr (hy.2 1 (by omega)) (hy.2 (1 + 1) (by omega)) (hy.2 (1 + 2) (by omega)) (hy.2 (1 + 3) (by omega)))]
    exact Ok.i ⟨rfl, hz.k, hR.g.fr hz⟩
  have hM : ∀ i, i < 2 → Ok (f_X11_kin (nI i) w) (fun q => q.1 = (if i = 0 then nI (bK d (2 ^ dg d - 1) 0 none) else nI (dig 0 (fk d none (bK d (2 ^ dg d - 1) 0 none) (plA (2 ^ dg d - 1) 0)))) ∧ SE w q.2) := fun i hi => by
    have ho := OT.full (g := dg d) (by omega)
    unfold f_X11_kin
    rw [m_in_nat (show i ≤ 1 by omega) (by omega), q_gb, q_if1]
    refine (m_beginsAll hm v.1).b (fun u hu => ?_)
    refine (m_kin_23 (E0.mk hm v.1 hu.2.2.se hu.2.1) ho hu.1).m (fun q hq => ⟨?_, hu.2.2.se.tr hq.2⟩)
    obtain ⟨⟨a, c, hMX, e⟩, _⟩ := hq
    rcases hMX with ⟨k1, _⟩ | ⟨k1, k2, k3⟩
    · exact absurd k1 hne
    · rw [e, q_if0 (by omega), k2, k3]
      rfl
  rcases ixs x (n := 2) (by omega) with hb | ⟨i, hi, rfl⟩
  · refine AL.z h (r := -2) ?_ ?_
    · have n0 : x ≠ nI 0 := by rcases hb with q | q; exact lt0_ne (by omega) q; exact ge_ne (by omega) (by omega) q
      have n1 : x ≠ nI 1 := by rcases hb with q | q; exact lt0_ne (by omega) q; exact ge_ne (by omega) (by omega) q
      unfold f_X10_kin
      rw [if_neg (show ¬ x = 0 from n0), if_neg n1]
    · unfold f_X11_kin
      rw [in_n (by omega) hb, q_gb, q_if00]
  · refine AL.g hR ?_ (hM i hi)
    unfold f_X10_kin
    have f1 : ∀ y, BO y 153 d → SX y 1 d → (if nI i = 0 then (some (y 153 1, y)) else (gb (f_X0_firstOrder 153 1 y) fun q4 => some (q4, y))) = some (if i = 0 then nI (bK d (2 ^ dg d - 1) 0 none) else nI (dig 0 (fk d none (bK d (2 ^ dg d - 1) 0 none) (plA (2 ^ dg d - 1) 0))), y) := fun y hB hy => by
      rw [q_if0 (by omega), hB.2, x_firstOrder hy v.1 hB, q_gb]
      by_cases c : i = 0
      · rw [if_pos c, if_pos c]
      · rw [if_neg c, if_neg c]
    by_cases c : i = 0
    · rw [q_if0 (by omega), if_pos c]
      exact hX _ _ f1
    · rw [q_if0 (by omega), if_neg c, if_pos (show nI i = nI 1 by rw [show i = 1 by omega])]
      exact hX _ _ f1
