/-! the pure claim: on every script both programs' functions answer, and answer alike -/
theorem Rel.up {k : Nat} {z w : gS} (h : Rel k z w) : Rel (k + 1) z w := by
  obtain ⟨d, n, by_, E, hR⟩ := h
  exact hR.s
theorem law_0 {xs : Nat → Int32} {L : Nat} {K : Int32 → gS → gS → Option Unit} {k : Nat} {z w : gS} (hL : L ≤ 2048) (hk : 4 * k + 4 ≤ L) (h : Rel k z w) (hK : ∀ z' w', Rel (k + 1) z' w' → K (nI (4 * k + 4)) z' w' = some ()) : f_law_0 xs L K (nI (4 * k)) z w = some () := by
  unfold f_law_0
  rw [nI_add, nI_add]
  obtain ⟨r, z', w', e1, e2, h'⟩ := c_grave h (xs (nI (4 * k + 1)).toNatClampNeg)
  rw [q_gg (by omega) (by omega), e1, q_gb, q_gg (by omega) (by omega), e2, q_gb, if_pos rfl]
  exact hK z' w' h'
theorem law_1 {xs : Nat → Int32} {L : Nat} {K : Int32 → gS → gS → Option Unit} {k : Nat} {z w : gS} (hL : L ≤ 2048) (hk : 4 * k + 4 ≤ L) (h : Rel k z w) (hK : ∀ z' w', Rel (k + 1) z' w' → K (nI (4 * k + 4)) z' w' = some ()) : f_law_1 xs L K (nI (4 * k)) z w = some () := by
  unfold f_law_1
  rw [nI_add, nI_add, nI_add, nI_add]
  obtain ⟨r, z', w', e1, e2, h'⟩ := c_has h (xs (nI (4 * k + 1)).toNatClampNeg) (xs (nI (4 * k + 2)).toNatClampNeg) (xs (nI (4 * k + 3)).toNatClampNeg)
  rw [q_gg (by omega) (by omega), q_gg (by omega) (by omega), q_gg (by omega) (by omega), e1, q_gb, q_gg (by omega) (by omega), q_gg (by omega) (by omega), q_gg (by omega) (by omega), e2, q_gb, if_pos rfl]
  exact hK z' w' h'
theorem law_2 {xs : Nat → Int32} {L : Nat} {K : Int32 → gS → gS → Option Unit} {k : Nat} {z w : gS} (hL : L ≤ 2048) (hk : 4 * k + 4 ≤ L) (h : Rel k z w) (hK : ∀ z' w', Rel (k + 1) z' w' → K (nI (4 * k + 4)) z' w' = some ()) : f_law_2 xs L K (nI (4 * k)) z w = some () := by
  unfold f_law_2
  rw [nI_add, nI_add, nI_add]
  obtain ⟨r, e1, e2⟩ := c_of h (xs (nI (4 * k + 1)).toNatClampNeg) (xs (nI (4 * k + 2)).toNatClampNeg)
  rw [q_gg (by omega) (by omega), q_gg (by omega) (by omega), e1, q_gb, q_gg (by omega) (by omega), q_gg (by omega) (by omega), e2, q_gb, if_pos rfl]
  exact hK z w h.up
theorem law_3 {xs : Nat → Int32} {L : Nat} {K : Int32 → gS → gS → Option Unit} {k : Nat} {z w : gS} (hL : L ≤ 2048) (hk : 4 * k + 4 ≤ L) (h : Rel k z w) (hK : ∀ z' w', Rel (k + 1) z' w' → K (nI (4 * k + 4)) z' w' = some ()) : f_law_3 xs L K (nI (4 * k)) z w = some () := by
  unfold f_law_3
  rw [nI_add, nI_add, nI_add]
  obtain ⟨r, e1, e2⟩ := c_type h (xs (nI (4 * k + 1)).toNatClampNeg) (xs (nI (4 * k + 2)).toNatClampNeg)
  rw [q_gg (by omega) (by omega), q_gg (by omega) (by omega), e1, q_gb, q_gg (by omega) (by omega), q_gg (by omega) (by omega), e2, q_gb, if_pos rfl]
  exact hK z w h.up
theorem law_4 {xs : Nat → Int32} {L : Nat} {K : Int32 → gS → gS → Option Unit} {k : Nat} {z w : gS} (hL : L ≤ 2048) (hk : 4 * k + 4 ≤ L) (h : Rel k z w) (hK : ∀ z' w', Rel (k + 1) z' w' → K (nI (4 * k + 4)) z' w' = some ()) : f_law_4 xs L K (nI (4 * k)) z w = some () := by
  unfold f_law_4
  rw [nI_add, nI_add]
  obtain ⟨r, z', w', e1, e2, h'⟩ := c_drop h (xs (nI (4 * k + 1)).toNatClampNeg)
  rw [q_gg (by omega) (by omega), e1, q_gb, q_gg (by omega) (by omega), e2, q_gb, if_pos rfl]
  exact hK z' w' h'
theorem law_5 {xs : Nat → Int32} {L : Nat} {K : Int32 → gS → gS → Option Unit} {k : Nat} {z w : gS} (hL : L ≤ 2048) (hk : 4 * k + 4 ≤ L) (h : Rel k z w) (hK : ∀ z' w', Rel (k + 1) z' w' → K (nI (4 * k + 4)) z' w' = some ()) : f_law_5 xs L K (nI (4 * k)) z w = some () := by
  unfold f_law_5
  rw [nI_add, nI_add]
  obtain ⟨r, e1, e2⟩ := c_count h (xs (nI (4 * k + 1)).toNatClampNeg)
  rw [q_gg (by omega) (by omega), e1, q_gb, q_gg (by omega) (by omega), e2, q_gb, if_pos rfl]
  exact hK z w h.up
theorem law_6 {xs : Nat → Int32} {L : Nat} {K : Int32 → gS → gS → Option Unit} {k : Nat} {z w : gS} (hL : L ≤ 2048) (hk : 4 * k + 4 ≤ L) (h : Rel k z w) (hK : ∀ z' w', Rel (k + 1) z' w' → K (nI (4 * k + 4)) z' w' = some ()) : f_law_6 xs L K (nI (4 * k)) z w = some () := by
  unfold f_law_6
  rw [nI_add, nI_add]
  obtain ⟨r, z', w', e1, e2, h'⟩ := c_orders h (xs (nI (4 * k + 1)).toNatClampNeg)
  rw [q_gg (by omega) (by omega), e1, q_gb, q_gg (by omega) (by omega), e2, q_gb, if_pos rfl]
  exact hK z' w' h'
theorem law_7 {xs : Nat → Int32} {L : Nat} {K : Int32 → gS → gS → Option Unit} {k : Nat} {z w : gS} (hL : L ≤ 2048) (hk : 4 * k + 4 ≤ L) (h : Rel k z w) (hK : ∀ z' w', Rel (k + 1) z' w' → K (nI (4 * k + 4)) z' w' = some ()) : f_law_7 xs L K (nI (4 * k)) z w = some () := by
  unfold f_law_7
  rw [nI_add, nI_add]
  obtain ⟨r, z', w', e1, e2, h'⟩ := c_gapless h (xs (nI (4 * k + 1)).toNatClampNeg)
  rw [q_gg (by omega) (by omega), e1, q_gb, q_gg (by omega) (by omega), e2, q_gb, if_pos rfl]
  exact hK z' w' h'
theorem law_8 {xs : Nat → Int32} {L : Nat} {K : Int32 → gS → gS → Option Unit} {k : Nat} {z w : gS} (hL : L ≤ 2048) (hk : 4 * k + 4 ≤ L) (h : Rel k z w) (hK : ∀ z' w', Rel (k + 1) z' w' → K (nI (4 * k + 4)) z' w' = some ()) : f_law_8 xs L K (nI (4 * k)) z w = some () := by
  unfold f_law_8
  rw [nI_add, nI_add]
  obtain ⟨r, z', w', e1, e2, h'⟩ := c_fewest h (xs (nI (4 * k + 1)).toNatClampNeg)
  rw [q_gg (by omega) (by omega), e1, q_gb, q_gg (by omega) (by omega), e2, q_gb, if_pos rfl]
  exact hK z' w' h'
theorem law_9 {xs : Nat → Int32} {L : Nat} {K : Int32 → gS → gS → Option Unit} {k : Nat} {z w : gS} (hL : L ≤ 2048) (hk : 4 * k + 4 ≤ L) (h : Rel k z w) (hK : ∀ z' w', Rel (k + 1) z' w' → K (nI (4 * k + 4)) z' w' = some ()) : f_law_9 xs L K (nI (4 * k)) z w = some () := by
  unfold f_law_9
  rw [nI_add, nI_add, nI_add, nI_add]
  obtain ⟨r, z', w', e1, e2, h'⟩ := c_ends h (xs (nI (4 * k + 1)).toNatClampNeg) (xs (nI (4 * k + 2)).toNatClampNeg) (xs (nI (4 * k + 3)).toNatClampNeg)
  rw [q_gg (by omega) (by omega), q_gg (by omega) (by omega), q_gg (by omega) (by omega), e1, q_gb, q_gg (by omega) (by omega), q_gg (by omega) (by omega), q_gg (by omega) (by omega), e2, q_gb, if_pos rfl]
  exact hK z' w' h'
theorem law_10 {xs : Nat → Int32} {L : Nat} {K : Int32 → gS → gS → Option Unit} {k : Nat} {z w : gS} (hL : L ≤ 2048) (hk : 4 * k + 4 ≤ L) (h : Rel k z w) (hK : ∀ z' w', Rel (k + 1) z' w' → K (nI (4 * k + 4)) z' w' = some ()) : f_law_10 xs L K (nI (4 * k)) z w = some () := by
  unfold f_law_10
  rw [nI_add]
  obtain ⟨r, z', w', e1, e2, h'⟩ := c_clusters h
  rw [e1, q_gb, e2, q_gb, if_pos rfl]
  exact hK z' w' h'
theorem law_11 {xs : Nat → Int32} {L : Nat} {K : Int32 → gS → gS → Option Unit} {k : Nat} {z w : gS} (hL : L ≤ 2048) (hk : 4 * k + 4 ≤ L) (h : Rel k z w) (hK : ∀ z' w', Rel (k + 1) z' w' → K (nI (4 * k + 4)) z' w' = some ()) : f_law_11 xs L K (nI (4 * k)) z w = some () := by
  unfold f_law_11
  rw [nI_add, nI_add]
  obtain ⟨r, z', w', e1, e2, h'⟩ := c_knots h (xs (nI (4 * k + 1)).toNatClampNeg)
  rw [q_gg (by omega) (by omega), e1, q_gb, q_gg (by omega) (by omega), e2, q_gb, if_pos rfl]
  exact hK z' w' h'
theorem law_12 {xs : Nat → Int32} {L : Nat} {K : Int32 → gS → gS → Option Unit} {k : Nat} {z w : gS} (hL : L ≤ 2048) (hk : 4 * k + 4 ≤ L) (h : Rel k z w) (hK : ∀ z' w', Rel (k + 1) z' w' → K (nI (4 * k + 4)) z' w' = some ()) : f_law_12 xs L K (nI (4 * k)) z w = some () := by
  unfold f_law_12
  rw [nI_add, nI_add, nI_add]
  obtain ⟨r, z', w', e1, e2, h'⟩ := c_knot h (xs (nI (4 * k + 1)).toNatClampNeg) (xs (nI (4 * k + 2)).toNatClampNeg)
  rw [q_gg (by omega) (by omega), q_gg (by omega) (by omega), e1, q_gb, q_gg (by omega) (by omega), q_gg (by omega) (by omega), e2, q_gb, if_pos rfl]
  exact hK z' w' h'
theorem law_13 {xs : Nat → Int32} {L : Nat} {K : Int32 → gS → gS → Option Unit} {k : Nat} {z w : gS} (hL : L ≤ 2048) (hk : 4 * k + 4 ≤ L) (h : Rel k z w) (hK : ∀ z' w', Rel (k + 1) z' w' → K (nI (4 * k + 4)) z' w' = some ()) : f_law_13 xs L K (nI (4 * k)) z w = some () := by
  unfold f_law_13
  rw [nI_add]
  obtain ⟨r, z', w', e1, e2, h'⟩ := c_told h
  rw [e1, q_gb, e2, q_gb, if_pos rfl]
  exact hK z' w' h'
theorem law_14 {xs : Nat → Int32} {L : Nat} {K : Int32 → gS → gS → Option Unit} {k : Nat} {z w : gS} (hL : L ≤ 2048) (hk : 4 * k + 4 ≤ L) (h : Rel k z w) (hK : ∀ z' w', Rel (k + 1) z' w' → K (nI (4 * k + 4)) z' w' = some ()) : f_law_14 xs L K (nI (4 * k)) z w = some () := by
  unfold f_law_14
  rw [nI_add, nI_add]
  obtain ⟨r, z', w', e1, e2, h'⟩ := c_spoils h (xs (nI (4 * k + 1)).toNatClampNeg)
  rw [q_gg (by omega) (by omega), e1, q_gb, q_gg (by omega) (by omega), e2, q_gb, if_pos rfl]
  exact hK z' w' h'
theorem law_15 {xs : Nat → Int32} {L : Nat} {K : Int32 → gS → gS → Option Unit} {k : Nat} {z w : gS} (hL : L ≤ 2048) (hk : 4 * k + 4 ≤ L) (h : Rel k z w) (hK : ∀ z' w', Rel (k + 1) z' w' → K (nI (4 * k + 4)) z' w' = some ()) : f_law_15 xs L K (nI (4 * k)) z w = some () := by
  unfold f_law_15
  rw [nI_add, nI_add]
  obtain ⟨r, z', w', e1, e2, h'⟩ := c_gaps h (xs (nI (4 * k + 1)).toNatClampNeg)
  rw [q_gg (by omega) (by omega), e1, q_gb, q_gg (by omega) (by omega), e2, q_gb, if_pos rfl]
  exact hK z' w' h'
theorem law_16 {xs : Nat → Int32} {L : Nat} {K : Int32 → gS → gS → Option Unit} {k : Nat} {z w : gS} (hL : L ≤ 2048) (hk : 4 * k + 4 ≤ L) (h : Rel k z w) (hK : ∀ z' w', Rel (k + 1) z' w' → K (nI (4 * k + 4)) z' w' = some ()) : f_law_16 xs L K (nI (4 * k)) z w = some () := by
  unfold f_law_16
  rw [nI_add, nI_add]
  obtain ⟨r, z', w', e1, e2, h'⟩ := c_runs h (xs (nI (4 * k + 1)).toNatClampNeg)
  rw [q_gg (by omega) (by omega), e1, q_gb, q_gg (by omega) (by omega), e2, q_gb, if_pos rfl]
  exact hK z' w' h'
theorem law_17 {xs : Nat → Int32} {L : Nat} {K : Int32 → gS → gS → Option Unit} {k : Nat} {z w : gS} (hL : L ≤ 2048) (hk : 4 * k + 4 ≤ L) (h : Rel k z w) (hK : ∀ z' w', Rel (k + 1) z' w' → K (nI (4 * k + 4)) z' w' = some ()) : f_law_17 xs L K (nI (4 * k)) z w = some () := by
  unfold f_law_17
  rw [nI_add, nI_add]
  obtain ⟨r, z', w', e1, e2, h'⟩ := c_kinship h (xs (nI (4 * k + 1)).toNatClampNeg)
  rw [q_gg (by omega) (by omega), e1, q_gb, q_gg (by omega) (by omega), e2, q_gb, if_pos rfl]
  exact hK z' w' h'
theorem law_18 {xs : Nat → Int32} {L : Nat} {K : Int32 → gS → gS → Option Unit} {k : Nat} {z w : gS} (hL : L ≤ 2048) (hk : 4 * k + 4 ≤ L) (h : Rel k z w) (hK : ∀ z' w', Rel (k + 1) z' w' → K (nI (4 * k + 4)) z' w' = some ()) : f_law_18 xs L K (nI (4 * k)) z w = some () := by
  unfold f_law_18
  rw [nI_add, nI_add]
  obtain ⟨r, z', w', e1, e2, h'⟩ := c_kin h (xs (nI (4 * k + 1)).toNatClampNeg)
  rw [q_gg (by omega) (by omega), e1, q_gb, q_gg (by omega) (by omega), e2, q_gb, if_pos rfl]
  exact hK z' w' h'
theorem law_19 {xs : Nat → Int32} {L : Nat} {K : Int32 → gS → gS → Option Unit} {k : Nat} {z w : gS} (hL : L ≤ 2048) (hk : 4 * k + 4 ≤ L) (h : Rel k z w) (hK : ∀ z' w', Rel (k + 1) z' w' → K (nI (4 * k + 4)) z' w' = some ()) : f_law_19 xs L K (nI (4 * k)) z w = some () := by
  unfold f_law_19
  rw [nI_add, nI_add, nI_add]
  obtain ⟨r, e1, e2⟩ := c_shared h (xs (nI (4 * k + 1)).toNatClampNeg) (xs (nI (4 * k + 2)).toNatClampNeg)
  rw [q_gg (by omega) (by omega), q_gg (by omega) (by omega), e1, q_gb, q_gg (by omega) (by omega), q_gg (by omega) (by omega), e2, q_gb, if_pos rfl]
  exact hK z w h.up
theorem law_20 {xs : Nat → Int32} {L : Nat} {K : Int32 → gS → gS → Option Unit} {k : Nat} {z w : gS} (hL : L ≤ 2048) (hk : 4 * k + 4 ≤ L) (h : Rel k z w) (hK : ∀ z' w', Rel (k + 1) z' w' → K (nI (4 * k + 4)) z' w' = some ()) : f_law_20 xs L K (nI (4 * k)) z w = some () := by
  unfold f_law_20
  rw [nI_add, nI_add]
  obtain ⟨r, e1, e2⟩ := c_chain h (xs (nI (4 * k + 1)).toNatClampNeg)
  rw [q_gg (by omega) (by omega), e1, q_gb, q_gg (by omega) (by omega), e2, q_gb, if_pos rfl]
  exact hK z w h.up
theorem law_21 {xs : Nat → Int32} {L : Nat} {K : Int32 → gS → gS → Option Unit} {k : Nat} {z w : gS} (hL : L ≤ 2048) (hk : 4 * k + 4 ≤ L) (h : Rel k z w) (hK : ∀ z' w', Rel (k + 1) z' w' → K (nI (4 * k + 4)) z' w' = some ()) : f_law_21 xs L K (nI (4 * k)) z w = some () := by
  unfold f_law_21
  rw [nI_add, nI_add]
  obtain ⟨r, e1, e2⟩ := c_walk h (xs (nI (4 * k + 1)).toNatClampNeg)
  rw [q_gg (by omega) (by omega), e1, q_gb, q_gg (by omega) (by omega), e2, q_gb, if_pos rfl]
  exact hK z w h.up
theorem law_22 {xs : Nat → Int32} {L : Nat} {K : Int32 → gS → gS → Option Unit} {k : Nat} {z w : gS} (hL : L ≤ 2048) (hk : 4 * k + 4 ≤ L) (h : Rel k z w) (hK : ∀ z' w', Rel (k + 1) z' w' → K (nI (4 * k + 4)) z' w' = some ()) : f_law_22 xs L K (nI (4 * k)) z w = some () := by
  unfold f_law_22
  rw [nI_add, nI_add]
  obtain ⟨r, z', w', e1, e2, h'⟩ := c_turned h (xs (nI (4 * k + 1)).toNatClampNeg)
  rw [q_gg (by omega) (by omega), e1, q_gb, q_gg (by omega) (by omega), e2, q_gb, if_pos rfl]
  exact hK z' w' h'
theorem law_23 {xs : Nat → Int32} {L : Nat} {K : Int32 → gS → gS → Option Unit} {k : Nat} {z w : gS} (hL : L ≤ 2048) (hk : 4 * k + 4 ≤ L) (h : Rel k z w) (hK : ∀ z' w', Rel (k + 1) z' w' → K (nI (4 * k + 4)) z' w' = some ()) : f_law_23 xs L K (nI (4 * k)) z w = some () := by
  unfold f_law_23
  rw [nI_add, nI_add]
  obtain ⟨r, z', w', e1, e2, h'⟩ := c_rank h (xs (nI (4 * k + 1)).toNatClampNeg)
  rw [q_gg (by omega) (by omega), e1, q_gb, q_gg (by omega) (by omega), e2, q_gb, if_pos rfl]
  exact hK z' w' h'
theorem law_24 {xs : Nat → Int32} {L : Nat} {K : Int32 → gS → gS → Option Unit} {k : Nat} {z w : gS} (hL : L ≤ 2048) (hk : 4 * k + 4 ≤ L) (h : Rel k z w) (hK : ∀ z' w', Rel (k + 1) z' w' → K (nI (4 * k + 4)) z' w' = some ()) : f_law_24 xs L K (nI (4 * k)) z w = some () := by
  unfold f_law_24
  rw [nI_add, nI_add, nI_add, nI_add]
  obtain ⟨r, z', w', e1, e2, h'⟩ := c_swap h (xs (nI (4 * k + 1)).toNatClampNeg) (xs (nI (4 * k + 2)).toNatClampNeg) (xs (nI (4 * k + 3)).toNatClampNeg)
  rw [q_gg (by omega) (by omega), q_gg (by omega) (by omega), q_gg (by omega) (by omega), e1, q_gb, q_gg (by omega) (by omega), q_gg (by omega) (by omega), q_gg (by omega) (by omega), e2, q_gb, if_pos rfl]
  exact hK z' w' h'
theorem law_25 {xs : Nat → Int32} {L : Nat} {K : Int32 → gS → gS → Option Unit} {k : Nat} {z w : gS} (hL : L ≤ 2048) (hk : 4 * k + 4 ≤ L) (h : Rel k z w) (hK : ∀ z' w', Rel (k + 1) z' w' → K (nI (4 * k + 4)) z' w' = some ()) : f_law_25 xs L K (nI (4 * k)) z w = some () := by
  unfold f_law_25
  rw [nI_add, nI_add]
  obtain ⟨r, z', w', e1, e2, h'⟩ := c_feed h (xs (nI (4 * k + 1)).toNatClampNeg)
  rw [q_gg (by omega) (by omega), e1, q_gb, q_gg (by omega) (by omega), e2, q_gb, if_pos rfl]
  exact hK z' w' h'
theorem law_26 {xs : Nat → Int32} {L : Nat} {K : Int32 → gS → gS → Option Unit} {k : Nat} {z w : gS} (hL : L ≤ 2048) (hk : 4 * k + 4 ≤ L) (h : Rel k z w) (hK : ∀ z' w', Rel (k + 1) z' w' → K (nI (4 * k + 4)) z' w' = some ()) : f_law_26 xs L K (nI (4 * k)) z w = some () := by
  unfold f_law_26
  rw [nI_add]
  obtain ⟨r, z', w', e1, e2, h'⟩ := c_read h
  rw [e1, q_gb, e2, q_gb, if_pos rfl]
  exact hK z' w' h'
theorem law_27 {xs : Nat → Int32} {L : Nat} {K : Int32 → gS → gS → Option Unit} {k : Nat} {z w : gS} (hL : L ≤ 2048) (hk : 4 * k + 4 ≤ L) (h : Rel k z w) (hK : ∀ z' w', Rel (k + 1) z' w' → K (nI (4 * k + 4)) z' w' = some ()) : f_law_27 xs L K (nI (4 * k)) z w = some () := by
  unfold f_law_27
  rw [nI_add]
  obtain ⟨r, z', w', e1, e2, h'⟩ := c_spell h
  rw [e1, q_gb, e2, q_gb, if_pos rfl]
  exact hK z' w' h'
theorem law_28 {xs : Nat → Int32} {L : Nat} {K : Int32 → gS → gS → Option Unit} {k : Nat} {z w : gS} (hL : L ≤ 2048) (hk : 4 * k + 4 ≤ L) (h : Rel k z w) (hK : ∀ z' w', Rel (k + 1) z' w' → K (nI (4 * k + 4)) z' w' = some ()) : f_law_28 xs L K (nI (4 * k)) z w = some () := by
  unfold f_law_28
  rw [nI_add, nI_add]
  obtain ⟨r, z', w', e1, e2, h'⟩ := c_paper h (xs (nI (4 * k + 1)).toNatClampNeg)
  rw [q_gg (by omega) (by omega), e1, q_gb, q_gg (by omega) (by omega), e2, q_gb, if_pos rfl]
  exact hK z' w' h'
theorem law_29 {xs : Nat → Int32} {L : Nat} {K : Int32 → gS → gS → Option Unit} {k : Nat} {z w : gS} (hL : L ≤ 2048) (hk : 4 * k + 4 ≤ L) (h : Rel k z w) (hK : ∀ z' w', Rel (k + 1) z' w' → K (nI (4 * k + 4)) z' w' = some ()) : f_law_29 xs L K (nI (4 * k)) z w = some () := by
  unfold f_law_29
  rw [nI_add, nI_add, nI_add]
  obtain ⟨r, z', w', e1, e2, h'⟩ := c_tray h (by omega) (xs (nI (4 * k + 1)).toNatClampNeg) (xs (nI (4 * k + 2)).toNatClampNeg)
  rw [q_gg (by omega) (by omega), q_gg (by omega) (by omega), e1, q_gb, q_gg (by omega) (by omega), q_gg (by omega) (by omega), e2, q_gb, if_pos rfl]
  exact hK z' w' h'
theorem law_30 {xs : Nat → Int32} {L : Nat} {K : Int32 → gS → gS → Option Unit} {k : Nat} {z w : gS} (hL : L ≤ 2048) (hk : 4 * k + 4 ≤ L) (h : Rel k z w) (hK : ∀ z' w', Rel (k + 1) z' w' → K (nI (4 * k + 4)) z' w' = some ()) : f_law_30 xs L K (nI (4 * k)) z w = some () := by
  unfold f_law_30
  rw [nI_add, nI_add, nI_add]
  obtain ⟨r, z', w', e1, e2, h'⟩ := c_lay h (by omega) (xs (nI (4 * k + 1)).toNatClampNeg) (xs (nI (4 * k + 2)).toNatClampNeg)
  rw [q_gg (by omega) (by omega), q_gg (by omega) (by omega), e1, q_gb, q_gg (by omega) (by omega), q_gg (by omega) (by omega), e2, q_gb, if_pos rfl]
  exact hK z' w' h'
theorem law_31 {xs : Nat → Int32} {L : Nat} {K : Int32 → gS → gS → Option Unit} {k : Nat} {z w : gS} (hL : L ≤ 2048) (hk : 4 * k + 4 ≤ L) (h : Rel k z w) (hK : ∀ z' w', Rel (k + 1) z' w' → K (nI (4 * k + 4)) z' w' = some ()) : f_law_31 xs L K (nI (4 * k)) z w = some () := by
  unfold f_law_31
  rw [nI_add, nI_add, nI_add]
  obtain ⟨r, e1, e2⟩ := c_laid h (by omega) (xs (nI (4 * k + 1)).toNatClampNeg) (xs (nI (4 * k + 2)).toNatClampNeg)
  rw [q_gg (by omega) (by omega), q_gg (by omega) (by omega), e1, q_gb, q_gg (by omega) (by omega), q_gg (by omega) (by omega), e2, q_gb, if_pos rfl]
  exact hK z w h.up
theorem law_32 {xs : Nat → Int32} {L : Nat} {K : Int32 → gS → gS → Option Unit} {k : Nat} {z w : gS} (hL : L ≤ 2048) (hk : 4 * k + 4 ≤ L) (h : Rel k z w) (hK : ∀ z' w', Rel (k + 1) z' w' → K (nI (4 * k + 4)) z' w' = some ()) : f_law_32 xs L K (nI (4 * k)) z w = some () := by
  unfold f_law_32
  rw [nI_add, nI_add, nI_add]
  obtain ⟨r, z', w', e1, e2, h'⟩ := c_list h (by omega) (xs (nI (4 * k + 1)).toNatClampNeg) (xs (nI (4 * k + 2)).toNatClampNeg)
  rw [q_gg (by omega) (by omega), q_gg (by omega) (by omega), e1, q_gb, q_gg (by omega) (by omega), q_gg (by omega) (by omega), e2, q_gb, if_pos rfl]
  exact hK z' w' h'
theorem law_33 {xs : Nat → Int32} {L : Nat} {K : Int32 → gS → gS → Option Unit} {k : Nat} {z w : gS} (hL : L ≤ 2048) (hk : 4 * k + 4 ≤ L) (h : Rel k z w) (hK : ∀ z' w', Rel (k + 1) z' w' → K (nI (4 * k + 4)) z' w' = some ()) : f_law_33 xs L K (nI (4 * k)) z w = some () := by
  unfold f_law_33
  rw [nI_add, nI_add, nI_add, nI_add]
  obtain ⟨r, z', w', e1, e2, h'⟩ := c_put h (by omega) (xs (nI (4 * k + 1)).toNatClampNeg) (xs (nI (4 * k + 2)).toNatClampNeg) (xs (nI (4 * k + 3)).toNatClampNeg)
  rw [q_gg (by omega) (by omega), q_gg (by omega) (by omega), q_gg (by omega) (by omega), e1, q_gb, q_gg (by omega) (by omega), q_gg (by omega) (by omega), q_gg (by omega) (by omega), e2, q_gb, if_pos rfl]
  exact hK z' w' h'
theorem law_34 {xs : Nat → Int32} {L : Nat} {K : Int32 → gS → gS → Option Unit} {k : Nat} {z w : gS} (hL : L ≤ 2048) (hk : 4 * k + 4 ≤ L) (h : Rel k z w) (hK : ∀ z' w', Rel (k + 1) z' w' → K (nI (4 * k + 4)) z' w' = some ()) : f_law_34 xs L K (nI (4 * k)) z w = some () := by
  unfold f_law_34
  rw [nI_add, nI_add, nI_add]
  obtain ⟨r, e1, e2⟩ := c_get h (xs (nI (4 * k + 1)).toNatClampNeg) (xs (nI (4 * k + 2)).toNatClampNeg)
  rw [q_gg (by omega) (by omega), q_gg (by omega) (by omega), e1, q_gb, q_gg (by omega) (by omega), q_gg (by omega) (by omega), e2, q_gb, if_pos rfl]
  exact hK z w h.up
theorem law_35 {xs : Nat → Int32} {L : Nat} {K : Int32 → gS → gS → Option Unit} {k : Nat} {z w : gS} (hL : L ≤ 2048) (hk : 4 * k + 4 ≤ L) (h : Rel k z w) (hK : ∀ z' w', Rel (k + 1) z' w' → K (nI (4 * k + 4)) z' w' = some ()) : f_law_35 xs L K (nI (4 * k)) z w = some () := by
  unfold f_law_35
  rw [nI_add, nI_add, nI_add]
  obtain ⟨r, z', w', e1, e2, h'⟩ := c_fill h (by omega) (xs (nI (4 * k + 1)).toNatClampNeg) (xs (nI (4 * k + 2)).toNatClampNeg)
  rw [q_gg (by omega) (by omega), q_gg (by omega) (by omega), e1, q_gb, q_gg (by omega) (by omega), q_gg (by omega) (by omega), e2, q_gb, if_pos rfl]
  exact hK z' w' h'
theorem law_36 {xs : Nat → Int32} {L : Nat} {K : Int32 → gS → gS → Option Unit} {k : Nat} {z w : gS} (hL : L ≤ 2048) (hk : 4 * k + 4 ≤ L) (h : Rel k z w) (hK : ∀ z' w', Rel (k + 1) z' w' → K (nI (4 * k + 4)) z' w' = some ()) : f_law_36 xs L K (nI (4 * k)) z w = some () := by
  unfold f_law_36
  rw [nI_add, nI_add, nI_add]
  obtain ⟨r, z', w', e1, e2, h'⟩ := c_judge h (xs (nI (4 * k + 1)).toNatClampNeg) (xs (nI (4 * k + 2)).toNatClampNeg)
  rw [q_gg (by omega) (by omega), q_gg (by omega) (by omega), e1, q_gb, q_gg (by omega) (by omega), q_gg (by omega) (by omega), e2, q_gb, if_pos rfl]
  exact hK z' w' h'
theorem law_37 {xs : Nat → Int32} {L : Nat} {K : Int32 → gS → gS → Option Unit} {k : Nat} {z w : gS} (hL : L ≤ 2048) (hk : 4 * k + 4 ≤ L) (h : Rel k z w) (hK : ∀ z' w', Rel (k + 1) z' w' → K (nI (4 * k + 4)) z' w' = some ()) : f_law_37 xs L K (nI (4 * k)) z w = some () := by
  unfold f_law_37
  rw [nI_add]
  obtain ⟨r, z', w', e1, e2, h'⟩ := c_image h (by omega)
  rw [e1, q_gb, e2, q_gb, if_pos rfl]
  exact hK z' w' h'
theorem law_38 {xs : Nat → Int32} {L : Nat} {K : Int32 → gS → gS → Option Unit} {k : Nat} {z w : gS} (hL : L ≤ 2048) (hk : 4 * k + 4 ≤ L) (h : Rel k z w) (hK : ∀ z' w', Rel (k + 1) z' w' → K (nI (4 * k + 4)) z' w' = some ()) : f_law_38 xs L K (nI (4 * k)) z w = some () := by
  unfold f_law_38
  rw [nI_add]
  obtain ⟨r, z', w', e1, e2, h'⟩ := c_undo h
  rw [e1, q_gb, e2, q_gb, if_pos rfl]
  exact hK z' w' h'
theorem law_l {xs : Nat → Int32} {L : Nat} (hL : L ≤ 2048) : ∀ f k m (z w : gS), k ≤ 512 → L < 4 * k + 4 * f → f < m → Rel k z w → f_law xs L m (nI (4 * k)) z w = some ()
  | f, k, 0, z, w, _, _, hm, _ => by omega
  | f, k, m + 1, z, w, hk, hf, hm, h => by
    show f_law_b xs L (fun x3 z w => f_law xs L m x3 z w) (nI (4 * k)) z w = some ()
    unfold f_law_b
    by_cases c : L < 4 * k + 4
    · rw [if_pos (by rw [Int32.lt_iff_toInt_lt, sub_toInt (by omega) (by omega), nI_toInt (by omega)]; omega)]
    · rw [if_neg (by rw [Int32.lt_iff_toInt_lt, sub_toInt (by omega) (by omega), nI_toInt (by omega)]; omega), q_gg (by omega) (by omega), q_gl]
      have hK : ∀ z' w', Rel (k + 1) z' w' → (fun x3 z w => f_law xs L m x3 z w) (nI (4 * k + 4)) z' w' = some () := fun z' w' h' => by
        cases f with
        | zero => omega
        | succ f => exact law_l hL f (k + 1) m z' w' (by omega) (by omega) (by omega) h'
      generalize hKK : (fun x3 z w => f_law xs L m x3 z w) = K at hK
      generalize xs (nI (4 * k)).toNatClampNeg &&& nI 63 = y
      by_cases c0 : y = nI 0
      · rw [if_pos c0]; exact law_0 hL (by omega) h hK
      rw [if_neg c0]
      by_cases c1 : y = nI 1
      · rw [if_pos c1]; exact law_1 hL (by omega) h hK
      rw [if_neg c1]
      by_cases c2 : y = nI 2
      · rw [if_pos c2]; exact law_2 hL (by omega) h hK
      rw [if_neg c2]
      by_cases c3 : y = nI 3
      · rw [if_pos c3]; exact law_3 hL (by omega) h hK
      rw [if_neg c3]
      by_cases c4 : y = nI 4
      · rw [if_pos c4]; exact law_4 hL (by omega) h hK
      rw [if_neg c4]
      by_cases c5 : y = nI 5
      · rw [if_pos c5]; exact law_5 hL (by omega) h hK
      rw [if_neg c5]
      by_cases c6 : y = nI 6
      · rw [if_pos c6]; exact law_6 hL (by omega) h hK
      rw [if_neg c6]
      by_cases c7 : y = nI 7
      · rw [if_pos c7]; exact law_7 hL (by omega) h hK
      rw [if_neg c7]
      by_cases c8 : y = nI 8
      · rw [if_pos c8]; exact law_8 hL (by omega) h hK
      rw [if_neg c8]
      by_cases c9 : y = nI 9
      · rw [if_pos c9]; exact law_9 hL (by omega) h hK
      rw [if_neg c9]
      by_cases c10 : y = nI 10
      · rw [if_pos c10]; exact law_10 hL (by omega) h hK
      rw [if_neg c10]
      by_cases c11 : y = nI 11
      · rw [if_pos c11]; exact law_11 hL (by omega) h hK
      rw [if_neg c11]
      by_cases c12 : y = nI 12
      · rw [if_pos c12]; exact law_12 hL (by omega) h hK
      rw [if_neg c12]
      by_cases c13 : y = nI 13
      · rw [if_pos c13]; exact law_13 hL (by omega) h hK
      rw [if_neg c13]
      by_cases c14 : y = nI 14
      · rw [if_pos c14]; exact law_14 hL (by omega) h hK
      rw [if_neg c14]
      by_cases c15 : y = nI 15
      · rw [if_pos c15]; exact law_15 hL (by omega) h hK
      rw [if_neg c15]
      by_cases c16 : y = nI 16
      · rw [if_pos c16]; exact law_16 hL (by omega) h hK
      rw [if_neg c16]
      by_cases c17 : y = nI 17
      · rw [if_pos c17]; exact law_17 hL (by omega) h hK
      rw [if_neg c17]
      by_cases c18 : y = nI 18
      · rw [if_pos c18]; exact law_18 hL (by omega) h hK
      rw [if_neg c18]
      by_cases c19 : y = nI 19
      · rw [if_pos c19]; exact law_19 hL (by omega) h hK
      rw [if_neg c19]
      by_cases c20 : y = nI 20
      · rw [if_pos c20]; exact law_20 hL (by omega) h hK
      rw [if_neg c20]
      by_cases c21 : y = nI 21
      · rw [if_pos c21]; exact law_21 hL (by omega) h hK
      rw [if_neg c21]
      by_cases c22 : y = nI 22
      · rw [if_pos c22]; exact law_22 hL (by omega) h hK
      rw [if_neg c22]
      by_cases c23 : y = nI 23
      · rw [if_pos c23]; exact law_23 hL (by omega) h hK
      rw [if_neg c23]
      by_cases c24 : y = nI 24
      · rw [if_pos c24]; exact law_24 hL (by omega) h hK
      rw [if_neg c24]
      by_cases c25 : y = nI 25
      · rw [if_pos c25]; exact law_25 hL (by omega) h hK
      rw [if_neg c25]
      by_cases c26 : y = nI 26
      · rw [if_pos c26]; exact law_26 hL (by omega) h hK
      rw [if_neg c26]
      by_cases c27 : y = nI 27
      · rw [if_pos c27]; exact law_27 hL (by omega) h hK
      rw [if_neg c27]
      by_cases c28 : y = nI 28
      · rw [if_pos c28]; exact law_28 hL (by omega) h hK
      rw [if_neg c28]
      by_cases c29 : y = nI 29
      · rw [if_pos c29]; exact law_29 hL (by omega) h hK
      rw [if_neg c29]
      by_cases c30 : y = nI 30
      · rw [if_pos c30]; exact law_30 hL (by omega) h hK
      rw [if_neg c30]
      by_cases c31 : y = nI 31
      · rw [if_pos c31]; exact law_31 hL (by omega) h hK
      rw [if_neg c31]
      by_cases c32 : y = nI 32
      · rw [if_pos c32]; exact law_32 hL (by omega) h hK
      rw [if_neg c32]
      by_cases c33 : y = nI 33
      · rw [if_pos c33]; exact law_33 hL (by omega) h hK
      rw [if_neg c33]
      by_cases c34 : y = nI 34
      · rw [if_pos c34]; exact law_34 hL (by omega) h hK
      rw [if_neg c34]
      by_cases c35 : y = nI 35
      · rw [if_pos c35]; exact law_35 hL (by omega) h hK
      rw [if_neg c35]
      by_cases c36 : y = nI 36
      · rw [if_pos c36]; exact law_36 hL (by omega) h hK
      rw [if_neg c36]
      by_cases c37 : y = nI 37
      · rw [if_pos c37]; exact law_37 hL (by omega) h hK
      rw [if_neg c37]
      by_cases c38 : y = nI 38
      · rw [if_pos c38]; exact law_38 hL (by omega) h hK
      rw [if_neg c38]
      rw [nI_add]
      exact hK z w h.up
theorem z_0n {p j : Nat} (h : ¬ ((p = 309 ∨ p = 311 ∨ p = 313) ∧ j = 0)) : z_0 p j = nI 0 := by
  unfold z_0
  rw [if_neg h]
  rfl
theorem w_0n {p j : Nat} (h : ¬ (p = 17 ∧ j < 3)) : w_0 p j = nI 0 := by
  unfold w_0
  rw [if_neg h]
  rfl
theorem rel_0 : Rel 0 z_0 w_0 := by
  have hz : ∀ p j, p < 309 → z_0 p j = nI 0 := fun p j h => z_0n (by omega)
  have hw : ∀ p j, p ≠ 17 → w_0 p j = nI 0 := fun p j h => w_0n (by omega)
  refine ⟨((0, 0, (fun _ => 0), (fun _ => 0), (fun _ => 0)) : Dat), 0, fun _ => 0, [], ⟨⟨Nat.zero_le _, Nat.zero_le _, ?_, ?_, ?_, ?_⟩, ?_⟩, ⟨hz _ _ (by omega), hz _ _ (by omega), ?_, ?_, ?_⟩, ⟨hw _ _ (by omega), hw _ _ (by omega), ?_, ?_, ?_⟩, ?_, ?_, Nat.le_refl _, ⟨Or.inl ⟨hz _ _ (by omega), hw _ _ (by omega)⟩, fun t ht => ⟨Or.inl (hz _ _ (by omega)), ?_, [], List.nodup_nil, ?_, hz _ _ (by omega), hw _ _ (by omega), ?_⟩, fun l hl => ⟨?_, Or.inl ?_, fun i hi => ?_⟩⟩, ⟨⟨Nat.zero_le _, ?_⟩, hz _ _ (by omega), ?_, hw _ _ (by omega), ?_, ?_⟩, ⟨hz _ _ (by omega), hz _ _ (by omega), Or.inl (hz _ _ (by omega))⟩, Or.inl (hz _ _ (by omega)), Or.inl (hz _ _ (by omega))⟩
  · intro i hi; exact absurd hi (Nat.not_lt_zero i)
  · intro i hi; exact absurd hi (Nat.not_lt_zero i)
  · intro i hi; exact absurd hi (Nat.not_lt_zero i)
  · intro i j hi; exact absurd hi (Nat.not_lt_zero i)
  · intro i hi; exact absurd hi (Nat.not_lt_zero i)
  · intro i hi; exact absurd hi (Nat.not_lt_zero i)
  · intro i hi; exact absurd hi (Nat.not_lt_zero i)
  · intro i hi; exact absurd hi (Nat.not_lt_zero i)
  · intro i hi; exact absurd hi (Nat.not_lt_zero i)
  · intro i hi; exact absurd hi (Nat.not_lt_zero i)
  · intro i hi; exact absurd hi (Nat.not_lt_zero i)
  · intro i hi; exact absurd hi (Nat.not_lt_zero i)
  · intro i hi; cases hi
  · rw [hw _ _ (by omega), hz _ _ (by omega)]
  · intro c hc; cases hc
  · intro i hi; cases hi
  · unfold w_0 z_0
    rw [if_pos ⟨rfl, hl⟩, if_pos ⟨by omega, rfl⟩]
  · unfold z_0
    rw [if_pos ⟨by omega, rfl⟩]
    rfl
  · rw [hw _ _ (by omega), z_0n (by omega)]
  · intro i hi; exact absurd hi (Nat.not_lt_zero i)
  · intro i hi; exact absurd hi (Nat.not_lt_zero i)
  · intro i hi; exact absurd hi (Nat.not_lt_zero i)
  · rw [hz _ _ (by omega), hw _ _ (by omega)]
/-- THE PURE CLAIM: on every script both programs' functions answer, and answer alike -/
theorem pure_ok (xs : Nat → Int32) (L : Nat) (hL : L ≤ 2048) : f_law xs L gF (nI 0) z_0 w_0 = some () :=
  law_l hL 600 0 gF z_0 w_0 (by omega) (by omega) (q_gF (by omega)) rel_0
