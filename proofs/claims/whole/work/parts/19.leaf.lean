theorem rl_m32 {ages : List Nat} {s : Nat} (hn : ages.Nodup) (h : ∀ t, t ∈ ages → t < 32) (hs : s < 32) (hsn : s ∉ ages) : ages.length < 32 := by
  have := ab_pg2 32 (s :: ages) (List.nodup_cons.mpr ⟨hsn, hn⟩) (fun t ht => by
    rcases List.mem_cons.mp ht with q | q
    · rw [q]; exact hs
    · exact h t q)
  rw [List.length_cons] at this
  omega
theorem rl_sz0 {rk sl sz kd tm : Nat → Nat} {d : Nat → Nat → Nat} {G : Nat → Nat → Nat → Nat → Nat} {ages : List Nat} {fs fe : Int32} {T V R S St D E Sz Kd Tm Ag : Nat → Int32} (H : rl_X rk sl d G ages sz kd tm fs fe T V R S St D E Sz Kd Tm Ag) {t : Nat} (ht : t < 32) : Sz t = 0 ↔ t ∉ ages := by
  constructor
  · intro z hm
    obtain ⟨z1, z2, z3, _⟩ := H.2.2.2.1 t hm
    rw [z1] at z
    exact nI_ne0 z2 (by omega) z
  · exact H.2.2.1.2.2.1 t ht
theorem rl_Lst {sz cl : Nat → Nat} {ages : List Nat} {O : Nat → Int32} (H : rl_own sz cl ages O) : ∀ j, j < 320 → ¬ O j < 0 → j ∈ (ab_fl sz ages).map cl := by
  intro j hj hO
  apply Classical.byContradiction
  intro hn
  refine hO (H.2.2 j hj (fun p hp z => hn (List.mem_map.mpr ⟨p, hp, z⟩)))
section
variable {f_slotsTaken f_elementsTaken f_slopeCount : Int32} {a_handleTaken a_handleIsView a_windowRank a_windowSlot a_windowStart a_windowDimension a_windowStride a_slotSize a_slotKind a_slotTerms a_slotNeeded a_slotsByAge a_values a_derivatives a_firstPlaces a_secondPlaces a_assigned a_slopes : Nat → Int32}
theorem xm_leaf117 {post : Int32 → SX → Prop} {r d2 p1 q : Nat} (hr : r ≤ 3) (hd : d2 < 8) (h : wX_leaf_138 post (nI (if 2 < r then 512 * d2 else 0)) (nI (q + p1)) f_slotsTaken f_elementsTaken f_slopeCount a_handleTaken a_handleIsView a_windowRank a_windowSlot a_windowStart a_windowDimension a_windowStride a_slotSize a_slotKind a_slotTerms a_slotNeeded a_slotsByAge a_values a_derivatives a_firstPlaces a_secondPlaces a_assigned a_slopes) : wX_leaf_117 post (nI r) (nI d2) (nI p1) (nI q) f_slotsTaken f_elementsTaken f_slopeCount a_handleTaken a_handleIsView a_windowRank a_windowSlot a_windowStart a_windowDimension a_windowStride a_slotSize a_slotKind a_slotTerms a_slotNeeded a_slotsByAge a_values a_derivatives a_firstPlaces a_secondPlaces a_assigned a_slopes := by
  refine nm_r (nI_add _ _) ?_
  by_cases z : r ≤ 2
  · rw [if_neg (by omega)] at h
    exact br_t (nI_le (b := 2) z (by decide)) h
  · rw [if_pos (by omega)] at h
    refine br_f (nI_ge (a := 2) (by omega) (by omega)) (xw_packedDim (a := 2) (by omega) hd ?_)
    rw [show d2 * 2 ^ (3 + 3 * 2) = 512 * d2 by omega]
    exact h
theorem xm_leaf96 {post : Int32 → SX → Prop} {r d1 d2 p0 q : Nat} (hr : r ≤ 3) (hd1 : d1 < 8) (hd : d2 < 8) (h : wX_leaf_138 post (nI (if 2 < r then 512 * d2 else 0)) (nI (q + p0 + (if 1 < r then 64 * d1 else 0))) f_slotsTaken f_elementsTaken f_slopeCount a_handleTaken a_handleIsView a_windowRank a_windowSlot a_windowStart a_windowDimension a_windowStride a_slotSize a_slotKind a_slotTerms a_slotNeeded a_slotsByAge a_values a_derivatives a_firstPlaces a_secondPlaces a_assigned a_slopes) : wX_leaf_96 post (nI r) (nI d1) (nI d2) (nI p0) (nI q) f_slotsTaken f_elementsTaken f_slopeCount a_handleTaken a_handleIsView a_windowRank a_windowSlot a_windowStart a_windowDimension a_windowStride a_slotSize a_slotKind a_slotTerms a_slotNeeded a_slotsByAge a_values a_derivatives a_firstPlaces a_secondPlaces a_assigned a_slopes := by
  refine nm_r (nI_add _ _) ?_
  by_cases z : r ≤ 1
  · rw [if_neg (show ¬ 1 < r by omega)] at h
    exact br_t (nI_le (b := 1) z (by decide)) (xm_leaf117 (p1 := 0) hr hd h)
  · rw [if_pos (show 1 < r by omega)] at h
    refine br_f (nI_ge (a := 1) (by omega) (by omega)) (xw_packedDim (a := 1) (by omega) hd1 ?_)
    rw [show d1 * 2 ^ (3 + 3 * 1) = 64 * d1 by omega]
    exact xm_leaf117 hr hd h
theorem xm_leaf45_t {post : Int32 → SX → Prop} {r : Nat} {dd : Nat → Nat} (H : ab_sh3 r dd) (h : wX_leaf_138 post (nI (if 2 < r then 512 * dd 2 else 0)) (nI (r + (if 0 < r then 8 * dd 0 else 0) + (if 1 < r then 64 * dd 1 else 0))) f_slotsTaken f_elementsTaken f_slopeCount a_handleTaken a_handleIsView a_windowRank a_windowSlot a_windowStart a_windowDimension a_windowStride a_slotSize a_slotKind a_slotTerms a_slotNeeded a_slotsByAge a_values a_derivatives a_firstPlaces a_secondPlaces a_assigned a_slopes) : wX_leaf_45 post (nI r) (nI (dd 0)) (nI (dd 1)) (nI (dd 2)) f_slotsTaken f_elementsTaken f_slopeCount a_handleTaken a_handleIsView a_windowRank a_windowSlot a_windowStart a_windowDimension a_windowStride a_slotSize a_slotKind a_slotTerms a_slotNeeded a_slotsByAge a_values a_derivatives a_firstPlaces a_secondPlaces a_assigned a_slopes := by
  obtain ⟨hr, h1, hb⟩ := H
  have b0 := hb 0 (by omega)
  have b1 := hb 1 (by omega)
  have b2 := hb 2 (by omega)
  unfold wX_leaf_45
  refine xw_isDim_t b0.1 b0.2 (br_f ab_10 (xw_isDim_t b1.1 b1.2 (br_f ab_10 (xw_isDim_t b2.1 b2.2 (br_f ab_10 ?_)))))
  by_cases z : r ≤ 0
  · rw [if_neg (show ¬ 0 < r by omega)] at h
    exact br_t (nI_le (b := 0) z (by decide)) (xm_leaf96 (p0 := 0) hr (by omega) (by omega) h)
  · rw [if_pos (show 0 < r by omega)] at h
    refine br_f (nI_ge (a := 0) (by omega) (by omega)) (xw_packedDim (a := 0) (by omega) (by omega) ?_)
    rw [show dd 0 * 2 ^ (3 + 3 * 0) = 8 * dd 0 by omega]
    exact xm_leaf96 hr (by omega) (by omega) h
theorem xm_leaf45_f {post : Int32 → SX → Prop} {x1 x y z : Int32} (hno : ¬ ab_isD x ∨ ¬ ab_isD y ∨ ¬ ab_isD z) (h : post (-1) (f_slotsTaken, f_elementsTaken, f_slopeCount, a_handleTaken, a_handleIsView, a_windowRank, a_windowSlot, a_windowStart, a_windowDimension, a_windowStride, a_slotSize, a_slotKind, a_slotTerms, a_slotNeeded, a_slotsByAge, a_values, a_derivatives, a_firstPlaces, a_secondPlaces, a_assigned, a_slopes)) : wX_leaf_45 post x1 x y z f_slotsTaken f_elementsTaken f_slopeCount a_handleTaken a_handleIsView a_windowRank a_windowSlot a_windowStart a_windowDimension a_windowStride a_slotSize a_slotKind a_slotTerms a_slotNeeded a_slotsByAge a_values a_derivatives a_firstPlaces a_secondPlaces a_assigned a_slopes := by
  unfold wX_leaf_45
  by_cases hx : ab_isD x
  · obtain ⟨a, a1, a2, rfl⟩ := hx
    refine xw_isDim_t a1 a2 (br_f ab_10 ?_)
    by_cases hy : ab_isD y
    · obtain ⟨b, b1, b2, rfl⟩ := hy
      refine xw_isDim_t b1 b2 (br_f ab_10 ?_)
      rcases hno with q | q | q
      · exact absurd ⟨a, a1, a2, rfl⟩ q
      · exact absurd ⟨b, b1, b2, rfl⟩ q
      · exact xw_isDim_f q (br_t rfl h)
    · exact xw_isDim_f hy (br_t rfl h)
  · exact xw_isDim_f hx (br_t rfl h)
def lf_a (r i : Nat) (x : Int32) : Int32 := if i < r then x else 1
theorem xm_leaf {post : Int32 → SX → Prop} {r : Nat} {x y z : Int32} (hr : r ≤ 3) (h : wX_leaf_45 post (nI r) (lf_a r 0 x) (lf_a r 1 y) (lf_a r 2 z) f_slotsTaken f_elementsTaken f_slopeCount a_handleTaken a_handleIsView a_windowRank a_windowSlot a_windowStart a_windowDimension a_windowStride a_slotSize a_slotKind a_slotTerms a_slotNeeded a_slotsByAge a_values a_derivatives a_firstPlaces a_secondPlaces a_assigned a_slopes) : wpX_leaf post (f_slotsTaken, f_elementsTaken, f_slopeCount, a_handleTaken, a_handleIsView, a_windowRank, a_windowSlot, a_windowStart, a_windowDimension, a_windowStride, a_slotSize, a_slotKind, a_slotTerms, a_slotNeeded, a_slotsByAge, a_values, a_derivatives, a_firstPlaces, a_secondPlaces, a_assigned, a_slopes) (nI r) x y z := by
  unfold lf_a at h
  refine br_f (nI_pos (by omega)) (br_t (nI_le (b := 3) hr (by decide)) ?_)
  rcases (show r = 0 ∨ r = 1 ∨ r = 2 ∨ r = 3 by omega) with rfl | rfl | rfl | rfl
  · exact br_t (by decide) (br_t (by decide) (br_t (by decide) h))
  · exact br_f (by decide) (br_t (by decide) (br_t (by decide) h))
  · exact br_f (by decide) (br_f (by decide) (br_t (by decide) h))
  · exact br_f (by decide) (br_f (by decide) (br_f (by decide) h))
theorem xm_leaf_f {post : Int32 → SX → Prop} {x1 x y z : Int32} (hr : ¬ ∃ r, r ≤ 3 ∧ x1 = nI r) (h : post (-1) (f_slotsTaken, f_elementsTaken, f_slopeCount, a_handleTaken, a_handleIsView, a_windowRank, a_windowSlot, a_windowStart, a_windowDimension, a_windowStride, a_slotSize, a_slotKind, a_slotTerms, a_slotNeeded, a_slotsByAge, a_values, a_derivatives, a_firstPlaces, a_secondPlaces, a_assigned, a_slopes)) : wpX_leaf post (f_slotsTaken, f_elementsTaken, f_slopeCount, a_handleTaken, a_handleIsView, a_windowRank, a_windowSlot, a_windowStart, a_windowDimension, a_windowStride, a_slotSize, a_slotKind, a_slotTerms, a_slotNeeded, a_slotsByAge, a_values, a_derivatives, a_firstPlaces, a_secondPlaces, a_assigned, a_slopes) x1 x y z := by
  refine br_c (fun _ => h) (fun h0 => br_c (fun h1 => ?_) (fun _ => h))
  obtain ⟨j, hj, rfl⟩ := nI_of h0
  exact absurd ⟨j, (nI_leI (b := 3) hj (by decide)).mp h1, rfl⟩ hr
end
section
variable {c_cells c_slopeCount : Int32} {b_used b_rank b_dims b_shown b_tensorOf b_view b_exists b_kind b_first b_second b_owner b_parts b_partCount b_value b_slopeOf b_order b_slopes : Nat → Int32}
theorem ym_leaf_f {post : Int32 → SY → Prop} {x1 x y z : Int32} (hr : ¬ ∃ r, r ≤ 3 ∧ x1 = nI r) (h : post (-1) (c_cells, c_slopeCount, b_used, b_rank, b_dims, b_shown, b_tensorOf, b_view, b_exists, b_kind, b_first, b_second, b_owner, b_parts, b_partCount, b_value, b_slopeOf, b_order, b_slopes)) : wpY_leaf post (c_cells, c_slopeCount, b_used, b_rank, b_dims, b_shown, b_tensorOf, b_view, b_exists, b_kind, b_first, b_second, b_owner, b_parts, b_partCount, b_value, b_slopeOf, b_order, b_slopes) x1 x y z := by
  refine br_c (fun _ => h) (fun h0 => br_c (fun _ => h) (fun h1 => ?_))
  obtain ⟨j, hj, rfl⟩ := nI_of h0
  refine absurd ⟨j, ?_, rfl⟩ hr
  apply Nat.le_of_not_lt; intro q; exact h1 (nI_lt (a := 3) q hj)
theorem ym_isD {x : Int32} (h1 : ¬ x < 1) (h4 : x ≤ 4) : ab_isD x := by
  have h2 : ¬ x < 0 := by
    rw [Int32.lt_iff_toInt_lt] at h1 ⊢
    rw [show (1 : Int32).toInt = 1 from by decide] at h1
    rw [show (0 : Int32).toInt = 0 from by decide]
    omega
  obtain ⟨j, hj, rfl⟩ := nI_of h2
  refine ⟨j, ?_, (nI_leI (b := 4) hj (by decide)).mp h4, rfl⟩
  apply Nat.lt_of_not_le; intro hc; exact h1 (nI_lt (b := 1) (by omega) (by decide))
theorem ym_leaf_d {post : Int32 → SY → Prop} {r : Nat} {x y z : Int32} (hr : r ≤ 3) (hno : (0 < r ∧ ¬ ab_isD x) ∨ (1 < r ∧ ¬ ab_isD y) ∨ (2 < r ∧ ¬ ab_isD z)) (h : post (-1) (c_cells, c_slopeCount, b_used, b_rank, b_dims, b_shown, b_tensorOf, b_view, b_exists, b_kind, b_first, b_second, b_owner, b_parts, b_partCount, b_value, b_slopeOf, b_order, b_slopes)) : wpY_leaf post (c_cells, c_slopeCount, b_used, b_rank, b_dims, b_shown, b_tensorOf, b_view, b_exists, b_kind, b_first, b_second, b_owner, b_parts, b_partCount, b_value, b_slopeOf, b_order, b_slopes) (nI r) x y z := by
  have N : ∀ t : Int32, ¬ t < 1 → ¬ 4 < t → ab_isD t := fun t a b => ym_isD a (Int32.not_lt.mp b)
  refine br_f (nI_pos (by omega)) (br_f (nI_nlt (a := 3) hr (by decide)) ?_)
  rcases (show r = 0 ∨ r = 1 ∨ r = 2 ∨ r = 3 by omega) with rfl | rfl | rfl | rfl
  · omega
  · refine br_f (by decide) (br_c (fun _ => h) (fun a => br_c (fun _ => h) (fun b => ?_)))
    rcases hno with q | q | q
    · exact absurd (N _ a b) q.2
    · omega
    · omega
  · refine br_f (by decide) (br_c (fun _ => h) (fun a => br_c (fun _ => h) (fun b => br_f (by decide) (br_c (fun _ => h) (fun c => br_c (fun _ => h) (fun e => ?_))))))
    rcases hno with q | q | q
    · exact absurd (N _ a b) q.2
    · exact absurd (N _ c e) q.2
    · omega
  · refine br_f (by decide) (br_c (fun _ => h) (fun a => br_c (fun _ => h) (fun b => br_f (by decide) (br_c (fun _ => h) (fun c => br_c (fun _ => h) (fun e => br_f (by decide) (br_c (fun _ => h) (fun f => br_c (fun g => ?_) (fun _ => h)))))))))
    rcases hno with q | q | q
    · exact absurd (N _ a b) q.2
    · exact absurd (N _ c e) q.2
    · exact absurd (ym_isD f g) q.2
theorem ym_leaf {post : Int32 → SY → Prop} {r : Nat} {x y z : Int32} {dd : Nat → Nat} (H : ab_sh3 r dd) (hx : 0 < r → x = nI (dd 0)) (hy : 1 < r → y = nI (dd 1)) (hz : 2 < r → z = nI (dd 2)) (h : ∀ z2 z1 z0 : Int32, (0 < r → z2 = nI (dd 0)) → (1 < r → z1 = nI (dd 1)) → (2 < r → z0 = nI (dd 2)) → wY_leaf_89 post z0 z1 z2 (nI r) c_cells c_slopeCount b_used b_rank b_dims b_shown b_tensorOf b_view b_exists b_kind b_first b_second b_owner b_parts b_partCount b_value b_slopeOf b_order b_slopes) : wpY_leaf post (c_cells, c_slopeCount, b_used, b_rank, b_dims, b_shown, b_tensorOf, b_view, b_exists, b_kind, b_first, b_second, b_owner, b_parts, b_partCount, b_value, b_slopeOf, b_order, b_slopes) (nI r) x y z := by
  obtain ⟨hr, h1, hb⟩ := H
  have b0 := hb 0 (by omega)
  have b1 := hb 1 (by omega)
  have b2 := hb 2 (by omega)
  refine br_f (nI_pos (by omega)) (br_f (nI_nlt (a := 3) hr (by decide)) ?_)
  rcases (show r = 0 ∨ r = 1 ∨ r = 2 ∨ r = 3 by omega) with rfl | rfl | rfl | rfl
  · exact br_t (by decide) (br_t (by decide) (br_t (by decide) (br_t (by decide) (br_t (by decide) (br_t (by decide) (h 0 0 0 (fun q => absurd q (by omega)) (fun q => absurd q (by omega)) (fun q => absurd q (by omega))))))))
  · rw [hx (by omega)]
    refine br_f (by decide) (br_f (nI_nlt (b := 1) b0.1 (by omega)) (br_f (nI_nlt (a := 4) b0.2 (by decide)) (br_t (by decide) (br_t (by decide) (br_f (by decide) (br_t (by decide) (br_t (by decide) (h _ 0 0 (fun _ => rfl) (fun q => absurd q (by omega)) (fun q => absurd q (by omega))))))))))
  · rw [hx (by omega), hy (by omega)]
    refine br_f (by decide) (br_f (nI_nlt (b := 1) b0.1 (by omega)) (br_f (nI_nlt (a := 4) b0.2 (by decide)) (br_f (by decide) (br_f (nI_nlt (b := 1) b1.1 (by omega)) (br_f (nI_nlt (a := 4) b1.2 (by decide)) (br_t (by decide) (br_f (by decide) (br_f (by decide) (br_t (by decide) (h _ _ 0 (fun _ => rfl) (fun _ => rfl) (fun q => absurd q (by omega))))))))))))
  · rw [hx (by omega), hy (by omega), hz (by omega)]
    refine br_f (by decide) (br_f (nI_nlt (b := 1) b0.1 (by omega)) (br_f (nI_nlt (a := 4) b0.2 (by decide)) (br_f (by decide) (br_f (nI_nlt (b := 1) b1.1 (by omega)) (br_f (nI_nlt (a := 4) b1.2 (by decide)) (br_f (by decide) (br_f (nI_nlt (b := 1) b2.1 (by omega)) (br_t (nI_le (b := 4) b2.2 (by decide)) (br_f (by decide) (br_f (by decide) (br_f (by decide) (h _ _ _ (fun _ => rfl) (fun _ => rfl) (fun _ => rfl)))))))))))))
end
