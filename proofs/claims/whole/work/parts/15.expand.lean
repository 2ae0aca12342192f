theorem ab_u30z {f : Nat → Int32} {k : Nat} {a b c v : Int32} : upd (ab_up3 f k a b c) (k + 0) v = ab_up3 f k v b c := ab_u30
def ex_e (dw : Nat → Nat) (a dd i : Nat) : Nat := if i < a then dw i else if i = a then dd else dw (i - 1)
def ex_s (rk a : Nat) (E : Nat → Int32) (k i : Nat) : Int32 := if i < a then E (k + i) else if i = a then 0 else if i ≤ rk then E (k + (i - 1)) else E (k + i)
def ex_x (a x y : Nat) : Nat := if a = 0 then y else x
def ex_y (a y z : Nat) : Nat := if a < 2 then z else y
theorem ex_cases {rk a : Nat} (hk : rk < 3) (ha : a ≤ rk) : (rk = 0 ∧ a = 0) ∨ (rk = 1 ∧ a = 0) ∨ (rk = 1 ∧ a = 1) ∨ (rk = 2 ∧ a = 0) ∨ (rk = 2 ∧ a = 1) ∨ (rk = 2 ∧ a = 2) := by omega
theorem ex_e3 {rk a dd : Nat} {dw : Nat → Nat} (h : ab_sh3 rk dw) (hk : rk < 3) (ha : a ≤ rk) (h1 : 1 ≤ dd) (h4 : dd ≤ 4) : ab_sh3 (rk + 1) (ex_e dw a dd) := by
  refine ⟨by omega, fun i j1 j2 => ?_, fun i hi => ?_⟩
  · unfold ex_e; rw [if_neg (by omega), if_neg (by omega)]; exact h.2.1 (i - 1) (by omega) (by omega)
  · unfold ex_e; split
    · exact h.2.2 i hi
    · split
      · omega
      · exact h.2.2 (i - 1) (by omega)
theorem ex_rng {rk a dd x y z : Nat} {dw : Nat → Nat} (h : ab_sh3 rk dw) (hk : rk < 3) (ha : a ≤ rk) (hx : x < ex_e dw a dd 0) (hy : y < ex_e dw a dd 1) (hz : z < ex_e dw a dd 2) : ex_x a x y < dw 0 ∧ ex_y a y z < dw 1 ∧ 0 < dw 2 := by
  have g2 := h.2.2 2 (by omega)
  rcases (show a = 0 ∨ a = 1 ∨ a = 2 by omega) with rfl | rfl | rfl <;> simp [ex_e, ex_x, ex_y] at * <;> omega
theorem ex_eq {rk a dd x y z k : Nat} {dw : Nat → Nat} {st : Int32} {E : Nat → Int32} (h : ab_sh3 rk dw) (hk : rk < 3) (ha : a ≤ rk) (hx : x < ex_e dw a dd 0) (hy : y < ex_e dw a dd 1) (hz : z < ex_e dw a dd 2) : st + nI x * ex_s rk a E k 0 + nI y * ex_s rk a E k 1 + nI z * ex_s rk a E k 2 = st + nI (ex_x a x y) * E k + nI (ex_y a y z) * E (k + 1) + nI 0 * E (k + 2) := by
  have o0 := h.2.1 0
  have o1 := h.2.1 1
  have o2 := h.2.1 2
  rw [nI_0]
  rcases ex_cases hk ha with ⟨rfl, rfl⟩ | ⟨rfl, rfl⟩ | ⟨rfl, rfl⟩ | ⟨rfl, rfl⟩ | ⟨rfl, rfl⟩ | ⟨rfl, rfl⟩ <;> simp [ex_e, ex_s, ex_x, ex_y] at * <;> first | grind | (obtain rfl : z = 0 := (by omega); rw [nI_0]; grind) | (obtain rfl : y = 0 := (by omega); obtain rfl : z = 0 := (by omega); rw [nI_0]; grind)
section
variable {f_slotsTaken f_elementsTaken f_slopeCount : Int32} {a_handleTaken a_handleIsView a_windowRank a_windowSlot a_windowStart a_windowDimension a_windowStride a_slotSize a_slotKind a_slotTerms a_slotNeeded a_slotsByAge a_values a_derivatives a_firstPlaces a_secondPlaces a_assigned a_slopes : Nat → Int32}
theorem xv_exp_s {post : Int32 → SX → Prop} {n w v l rk : Nat} {x2 x3 : Int32} (hw : w < 88) (hv : v < 88) (hk : rk < 3) (hl : l < rk) (hn : wX_expand_70 post (nI w) x2 x3 (nI rk) (nI v) n (nI (l + 1)) f_slotsTaken f_elementsTaken f_slopeCount a_handleTaken a_handleIsView a_windowRank a_windowSlot a_windowStart (upd a_windowDimension (3 * v + (l + 1)) (a_windowDimension (3 * w + l))) (upd a_windowStride (3 * v + (l + 1)) (a_windowStride (3 * w + l))) a_slotSize a_slotKind a_slotTerms a_slotNeeded a_slotsByAge a_values a_derivatives a_firstPlaces a_secondPlaces a_assigned a_slopes) : wX_expand_70 post (nI w) x2 x3 (nI rk) (nI v) (n + 1) (nI l) f_slotsTaken f_elementsTaken f_slopeCount a_handleTaken a_handleIsView a_windowRank a_windowSlot a_windowStart a_windowDimension a_windowStride a_slotSize a_slotKind a_slotTerms a_slotNeeded a_slotsByAge a_values a_derivatives a_firstPlaces a_secondPlaces a_assigned a_slopes := by
  refine br_f (nI_ge hl (by omega)) ?_
  rw [nI_1]
  exact xw_copyAxis hw (by omega) hv (by omega) (nm_e hn)
theorem xv_exp_x {post : Int32 → SX → Prop} {n v a rk : Nat} {x1 x3 : Int32} (hv : v < 88) (ha : a < 3) (hk : rk < 3) (h : post (nI v) (f_slotsTaken, f_elementsTaken, f_slopeCount, a_handleTaken, a_handleIsView, a_windowRank, a_windowSlot, a_windowStart, upd a_windowDimension (3 * v + a) x3, upd a_windowStride (3 * v + a) 0, a_slotSize, a_slotKind, a_slotTerms, a_slotNeeded, a_slotsByAge, a_values, a_derivatives, a_firstPlaces, a_secondPlaces, a_assigned, a_slopes)) : wX_expand_70 post x1 (nI a) x3 (nI rk) (nI v) (n + 1) (nI rk) f_slotsTaken f_elementsTaken f_slopeCount a_handleTaken a_handleIsView a_windowRank a_windowSlot a_windowStart a_windowDimension a_windowStride a_slotSize a_slotKind a_slotTerms a_slotNeeded a_slotsByAge a_values a_derivatives a_firstPlaces a_secondPlaces a_assigned a_slopes :=
  br_t (nI_le (by omega) (by omega)) (xw_setAxis hv ha h)
theorem xv_expand {post : Int32 → SX → Prop} {w v a rk dd : Nat} {dw : Nat → Nat} (hw : w < 24) (hT : ¬ a_handleTaken w = 0) (hr : a_windowRank w = nI rk) (hk : rk < 3) (ha : a ≤ rk) (h1 : 1 ≤ dd) (h4 : dd ≤ 4) (hd : ∀ i, i < 3 → a_windowDimension (3 * w + i) = nI (dw i)) (ho : ∀ i, rk ≤ i → i < 3 → dw i = 1) (hv : v < 24) (hv0 : a_handleTaken v = 0) (hvl : ∀ j, j < v → ¬ a_handleTaken j = 0) (h : post (nI v) (f_slotsTaken, f_elementsTaken, f_slopeCount, upd a_handleTaken v 1, upd a_handleIsView v 1, upd a_windowRank v (nI (rk + 1)), upd a_windowSlot v (a_windowSlot w), upd a_windowStart v (a_windowStart w), ab_up3 a_windowDimension (3 * v) (nI (ex_e dw a dd 0)) (nI (ex_e dw a dd 1)) (nI (ex_e dw a dd 2)), ab_up3 a_windowStride (3 * v) (ex_s rk a a_windowStride (3 * w) 0) (ex_s rk a a_windowStride (3 * w) 1) (ex_s rk a a_windowStride (3 * w) 2), a_slotSize, a_slotKind, a_slotTerms, a_slotNeeded, a_slotsByAge, a_values, a_derivatives, a_firstPlaces, a_secondPlaces, a_assigned, a_slopes)) : wpX_expand post (f_slotsTaken, f_elementsTaken, f_slopeCount, a_handleTaken, a_handleIsView, a_windowRank, a_windowSlot, a_windowStart, a_windowDimension, a_windowStride, a_slotSize, a_slotKind, a_slotTerms, a_slotNeeded, a_slotsByAge, a_values, a_derivatives, a_firstPlaces, a_secondPlaces, a_assigned, a_slopes) (nI w) (nI a) (nI dd) := by
  have hn : w ≠ v := fun e => hT (e ▸ hv0)
  have cv : (nI v).toNatClampNeg = v := nI_clamp (by omega)
  have hd0 := hd 0 (by omega)
  have hd0z := hd 0 (by omega)
  have hd1 := hd 1 (by omega)
  have hd2 := hd 2 (by omega)
  unfold wpX_expand
  refine xw_isHandle_t hw hT (br_f ab_10 (xw_isDim_t h1 h4 (br_f ab_10 ⟨vp_in_nI (by omega) (by decide), nm_r (e' := nI rk) (by rw [nI_clamp (by omega), hr]) (br_f (nI_ge (b := 3) hk (by decide)) (br_f (nI_pos (by omega)) (br_t (nI_le ha (by omega)) (xw_makeView_s hv hw hv0 hvl hT (br_f (nI_pos (by omega)) ⟨vp_in_nI (by omega) (by decide), fun R hR => ⟨rk - a + 1, ?_⟩⟩)))))⟩)))
  rw [cv, ab_uu, nI_1] at hR
  subst hR
  rw [Nat.add_zero] at hd0
  rcases ex_cases hk ha with ⟨rfl, rfl⟩ | ⟨rfl, rfl⟩ | ⟨rfl, rfl⟩ | ⟨rfl, rfl⟩ | ⟨rfl, rfl⟩ | ⟨rfl, rfl⟩
  · refine xv_exp_x (by omega) (by omega) (by omega) ?_
    rw [ab_u30z, ab_u30z, hd1, hd2]
    simp [ex_e, ex_s, ho 0, ho 1, ho 2] at h ⊢
    exact h
  · refine xv_exp_s (by omega) (by omega) (by omega) (by omega) (xv_exp_x (by omega) (by omega) (by omega) ?_)
    rw [Nat.zero_add, ab_u31, ab_u31, ab_u30z, ab_u30z, ab_en (by omega), ab_en (by omega), hd0z, hd2]
    simp [ex_e, ex_s, ho 1, ho 2] at h ⊢
    exact h
  · refine xv_exp_x (by omega) (by omega) (by omega) ?_
    rw [ab_u31, ab_u31, hd0, hd2]
    simp [ex_e, ex_s, ho 1, ho 2] at h ⊢
    exact h
  · refine xv_exp_s (by omega) (by omega) (by omega) (by omega) (xv_exp_s (by omega) (by omega) (by omega) (by omega) (xv_exp_x (by omega) (by omega) (by omega) ?_))
    rw [Nat.zero_add, ab_u31, ab_u31, ab_u32, ab_u32, ab_u30z, ab_u30z, ab_en (by omega), ab_en (by omega), ab_en (by omega), ab_en (by omega), hd0z, hd1]
    simp [ex_e, ex_s, ho 2] at h ⊢
    exact h
  · refine xv_exp_s (by omega) (by omega) (by omega) (by omega) (xv_exp_x (by omega) (by omega) (by omega) ?_)
    rw [ab_u32, ab_u32, ab_u31, ab_u31, ab_en (by omega), ab_en (by omega), hd0, hd1]
    simp [ex_e, ex_s, ho 2] at h ⊢
    exact h
  · refine xv_exp_x (by omega) (by omega) (by omega) ?_
    rw [ab_u32, ab_u32, hd0, hd1]
    simp [ex_e, ex_s, ho 2] at h ⊢
    exact h
theorem xv_expand_n {post : Int32 → SX → Prop} {w rk : Nat} {x y : Int32} (hw : w < 24) (hT : ¬ a_handleTaken w = 0) (hr : a_windowRank w = nI rk) (hk : rk ≤ 3) (hno : ¬ ab_isD y ∨ rk = 3 ∨ ¬ ab_isA (rk + 1) x ∨ ∀ j, j < 24 → ¬ a_handleTaken j = 0) (hp : post (-1) (f_slotsTaken, f_elementsTaken, f_slopeCount, a_handleTaken, a_handleIsView, a_windowRank, a_windowSlot, a_windowStart, a_windowDimension, a_windowStride, a_slotSize, a_slotKind, a_slotTerms, a_slotNeeded, a_slotsByAge, a_values, a_derivatives, a_firstPlaces, a_secondPlaces, a_assigned, a_slopes)) : wpX_expand post (f_slotsTaken, f_elementsTaken, f_slopeCount, a_handleTaken, a_handleIsView, a_windowRank, a_windowSlot, a_windowStart, a_windowDimension, a_windowStride, a_slotSize, a_slotKind, a_slotTerms, a_slotNeeded, a_slotsByAge, a_values, a_derivatives, a_firstPlaces, a_secondPlaces, a_assigned, a_slopes) (nI w) x y := by
  unfold wpX_expand
  refine xw_isHandle_t hw hT (br_f ab_10 ?_)
  by_cases hD : ab_isD y
  · obtain ⟨dd, h1, h4, rfl⟩ := hD
    refine xw_isDim_t h1 h4 (br_f ab_10 ⟨vp_in_nI (by omega) (by decide), nm_r (e' := nI rk) (by rw [nI_clamp (by omega), hr]) (br_c (fun _ => hp) (fun r3 => br_c (fun _ => hp) (fun a0 => br_c (fun a1 => ?_) (fun _ => hp))))⟩)
    obtain ⟨a, ha, rfl⟩ := nI_of a0
    rcases hno with q | q | q | q
    · exact absurd ⟨dd, h1, h4, rfl⟩ q
    · exact absurd (by rw [q]; exact nI_le (a := 3) (by omega) (by omega)) r3
    · exact absurd ⟨a, by have := (nI_leI ha (by omega)).mp a1; omega, rfl⟩ q
    · exact xw_makeView_n q (br_t (by decide) hp)
  · exact xw_isDim_f hD (br_t rfl hp)
end
