theorem ab_ix {w a : Nat} : nI w * 3 + nI a = nI (3 * w + a) := by
  show nI w * nI 3 + nI a = _
  rw [pk_mul, nI_add, Nat.mul_comm]
theorem ab_ix3 {w : Nat} : nI w * 3 = nI (3 * w) := by
  show nI w * nI 3 = _
  rw [pk_mul, Nat.mul_comm]
def ab_isH (T : Nat → Int32) (x : Int32) : Prop := ∃ h, h < 24 ∧ x = nI h ∧ ¬ T h = 0
theorem ab_lst (T : Nat → Int32) : ∀ N : Nat, (∃ h, h < N ∧ T h = 0 ∧ ∀ j, j < h → ¬ T j = 0) ∨ (∀ j, j < N → ¬ T j = 0) := by
  intro N
  induction N with
  | zero => exact Or.inr (fun j hj => absurd hj (by omega))
  | succ N ih =>
    rcases ih with ⟨h, h1, h2, h3⟩ | hn
    · exact Or.inl ⟨h, by omega, h2, h3⟩
    · by_cases z : T N = 0
      · exact Or.inl ⟨N, by omega, z, hn⟩
      · refine Or.inr (fun j hj => ?_)
        by_cases e : j = N
        · rw [e]; exact z
        · exact hn j (by omega)
section
variable {f_slotsTaken f_elementsTaken f_slopeCount : Int32} {a_handleTaken a_handleIsView a_windowRank a_windowSlot a_windowStart a_windowDimension a_windowStride a_slotSize a_slotKind a_slotTerms a_slotNeeded a_slotsByAge a_values a_derivatives a_firstPlaces a_secondPlaces a_assigned a_slopes : Nat → Int32}
theorem xw_isHandle_t {post : Int32 → Prop} {h : Nat} (hh : h < 24) (ht : ¬ a_handleTaken h = 0) (hp : post 1) : wpX_isHandle post (f_slotsTaken, f_elementsTaken, f_slopeCount, a_handleTaken, a_handleIsView, a_windowRank, a_windowSlot, a_windowStart, a_windowDimension, a_windowStride, a_slotSize, a_slotKind, a_slotTerms, a_slotNeeded, a_slotsByAge, a_values, a_derivatives, a_firstPlaces, a_secondPlaces, a_assigned, a_slopes) (nI h) := by
  refine br_f (nI_pos (by omega)) (br_f (nI_ge (b := 24) hh (by decide)) ⟨vp_in_nI hh (by decide), br_f ?_ hp⟩)
  rw [nI_clamp (by omega)]; exact ht
theorem xw_isHandle_f {post : Int32 → Prop} {x : Int32} (hx : ¬ ab_isH a_handleTaken x) (hp : post 0) : wpX_isHandle post (f_slotsTaken, f_elementsTaken, f_slopeCount, a_handleTaken, a_handleIsView, a_windowRank, a_windowSlot, a_windowStart, a_windowDimension, a_windowStride, a_slotSize, a_slotKind, a_slotTerms, a_slotNeeded, a_slotsByAge, a_values, a_derivatives, a_firstPlaces, a_secondPlaces, a_assigned, a_slopes) x := by
  refine br_c (fun _ => hp) (fun h0 => br_c (fun _ => hp) (fun h1 => ?_))
  obtain ⟨j, hj, rfl⟩ := nI_of h0
  have h2 : j < 24 := by
    apply Nat.lt_of_not_le; intro hc; exact h1 (nI_le (a := 24) hc hj)
  refine ⟨vp_in_nI h2 (by decide), br_c (fun _ => hp) (fun h3 => ?_)⟩
  rw [nI_clamp hj] at h3
  exact absurd ⟨j, h2, rfl, h3⟩ hx
theorem xw_freeHandle_s {post : Int32 → Prop} {h : Nat} (hh : h < 24) (h0 : a_handleTaken h = 0) (hl : ∀ j, j < h → ¬ a_handleTaken j = 0) (hp : post (nI h)) : wpX_freeHandle post (f_slotsTaken, f_elementsTaken, f_slopeCount, a_handleTaken, a_handleIsView, a_windowRank, a_windowSlot, a_windowStart, a_windowDimension, a_windowStride, a_slotSize, a_slotKind, a_slotTerms, a_slotNeeded, a_slotsByAge, a_values, a_derivatives, a_firstPlaces, a_secondPlaces, a_assigned, a_slopes) := by
  have H : ∀ d j : Nat, j + d = h → wX_freeHandle_2 post f_slotsTaken f_elementsTaken f_slopeCount a_handleTaken a_handleIsView a_windowRank a_windowSlot a_windowStart a_windowDimension a_windowStride a_slotSize a_slotKind a_slotTerms a_slotNeeded a_slotsByAge a_values a_derivatives a_firstPlaces a_secondPlaces a_assigned a_slopes (d + 1) (nI j) := by
    intro d
    induction d with
    | zero =>
      intro j hj
      refine br_f (nI_ge (b := 24) (by omega) (by decide)) ⟨vp_in_nI (by omega) (by decide), br_t ?_ ?_⟩
      · rw [nI_clamp (by omega), show j = h by omega]; exact h0
      · rw [show j = h by omega]; exact hp
    | succ d ih =>
      intro j hj
      refine br_f (nI_ge (b := 24) (by omega) (by decide)) ⟨vp_in_nI (by omega) (by decide), br_f ?_ (nm_r (nI_1 j) (ih (j + 1) (by omega)))⟩
      rw [nI_clamp (by omega)]; exact hl j (by omega)
  exact ⟨h + 1, H h 0 (by omega)⟩
theorem xw_freeHandle_n {post : Int32 → Prop} (hl : ∀ j, j < 24 → ¬ a_handleTaken j = 0) (hp : post (-1)) : wpX_freeHandle post (f_slotsTaken, f_elementsTaken, f_slopeCount, a_handleTaken, a_handleIsView, a_windowRank, a_windowSlot, a_windowStart, a_windowDimension, a_windowStride, a_slotSize, a_slotKind, a_slotTerms, a_slotNeeded, a_slotsByAge, a_values, a_derivatives, a_firstPlaces, a_secondPlaces, a_assigned, a_slopes) := by
  have H : ∀ d j : Nat, j + d = 24 → wX_freeHandle_2 post f_slotsTaken f_elementsTaken f_slopeCount a_handleTaken a_handleIsView a_windowRank a_windowSlot a_windowStart a_windowDimension a_windowStride a_slotSize a_slotKind a_slotTerms a_slotNeeded a_slotsByAge a_values a_derivatives a_firstPlaces a_secondPlaces a_assigned a_slopes (d + 1) (nI j) := by
    intro d
    induction d with
    | zero =>
      intro j hj
      exact br_t (nI_le (a := 24) (by omega) (by omega)) hp
    | succ d ih =>
      intro j hj
      refine br_f (nI_ge (b := 24) (by omega) (by decide)) ⟨vp_in_nI (by omega) (by decide), br_f ?_ (nm_r (nI_1 j) (ih (j + 1) (by omega)))⟩
      rw [nI_clamp (by omega)]; exact hl j (by omega)
  exact ⟨25, H 24 0 (by omega)⟩
theorem xw_freeSlot_s {post : Int32 → Prop} {h : Nat} (hh : h < 32) (h0 : a_slotSize h = 0) (hl : ∀ j, j < h → ¬ a_slotSize j = 0) (hp : post (nI h)) : wpX_freeSlot post (f_slotsTaken, f_elementsTaken, f_slopeCount, a_handleTaken, a_handleIsView, a_windowRank, a_windowSlot, a_windowStart, a_windowDimension, a_windowStride, a_slotSize, a_slotKind, a_slotTerms, a_slotNeeded, a_slotsByAge, a_values, a_derivatives, a_firstPlaces, a_secondPlaces, a_assigned, a_slopes) := by
  have H : ∀ d j : Nat, j + d = h → wX_freeSlot_2 post f_slotsTaken f_elementsTaken f_slopeCount a_handleTaken a_handleIsView a_windowRank a_windowSlot a_windowStart a_windowDimension a_windowStride a_slotSize a_slotKind a_slotTerms a_slotNeeded a_slotsByAge a_values a_derivatives a_firstPlaces a_secondPlaces a_assigned a_slopes (d + 1) (nI j) := by
    intro d
    induction d with
    | zero =>
      intro j hj
      refine br_f (nI_ge (b := 32) (by omega) (by decide)) ⟨vp_in_nI (by omega) (by decide), br_t ?_ ?_⟩
      · rw [nI_clamp (by omega), show j = h by omega]; exact h0
      · rw [show j = h by omega]; exact hp
    | succ d ih =>
      intro j hj
      refine br_f (nI_ge (b := 32) (by omega) (by decide)) ⟨vp_in_nI (by omega) (by decide), br_f ?_ (nm_r (nI_1 j) (ih (j + 1) (by omega)))⟩
      rw [nI_clamp (by omega)]; exact hl j (by omega)
  exact ⟨h + 1, H h 0 (by omega)⟩
theorem xw_freeSlot_n {post : Int32 → Prop} (hl : ∀ j, j < 32 → ¬ a_slotSize j = 0) (hp : post (-1)) : wpX_freeSlot post (f_slotsTaken, f_elementsTaken, f_slopeCount, a_handleTaken, a_handleIsView, a_windowRank, a_windowSlot, a_windowStart, a_windowDimension, a_windowStride, a_slotSize, a_slotKind, a_slotTerms, a_slotNeeded, a_slotsByAge, a_values, a_derivatives, a_firstPlaces, a_secondPlaces, a_assigned, a_slopes) := by
  have H : ∀ d j : Nat, j + d = 32 → wX_freeSlot_2 post f_slotsTaken f_elementsTaken f_slopeCount a_handleTaken a_handleIsView a_windowRank a_windowSlot a_windowStart a_windowDimension a_windowStride a_slotSize a_slotKind a_slotTerms a_slotNeeded a_slotsByAge a_values a_derivatives a_firstPlaces a_secondPlaces a_assigned a_slopes (d + 1) (nI j) := by
    intro d
    induction d with
    | zero =>
      intro j hj
      exact br_t (nI_le (a := 32) (by omega) (by omega)) hp
    | succ d ih =>
      intro j hj
      refine br_f (nI_ge (b := 32) (by omega) (by decide)) ⟨vp_in_nI (by omega) (by decide), br_f ?_ (nm_r (nI_1 j) (ih (j + 1) (by omega)))⟩
      rw [nI_clamp (by omega)]; exact hl j (by omega)
  exact ⟨33, H 32 0 (by omega)⟩
theorem xw_setAxis {post : SX → Prop} {w a : Nat} {p q : Int32} (hw : w < 88) (ha : a < 3) (h : post (f_slotsTaken, f_elementsTaken, f_slopeCount, a_handleTaken, a_handleIsView, a_windowRank, a_windowSlot, a_windowStart, upd a_windowDimension (3 * w + a) p, upd a_windowStride (3 * w + a) q, a_slotSize, a_slotKind, a_slotTerms, a_slotNeeded, a_slotsByAge, a_values, a_derivatives, a_firstPlaces, a_secondPlaces, a_assigned, a_slopes)) : wpX_setAxis post (f_slotsTaken, f_elementsTaken, f_slopeCount, a_handleTaken, a_handleIsView, a_windowRank, a_windowSlot, a_windowStart, a_windowDimension, a_windowStride, a_slotSize, a_slotKind, a_slotTerms, a_slotNeeded, a_slotsByAge, a_values, a_derivatives, a_firstPlaces, a_secondPlaces, a_assigned, a_slopes) (nI w) (nI a) p q := by
  have hi : vp_in (nI w * 3 + nI a) 264 := ab_vin ab_ix (by omega) (by decide)
  have hc : (nI w * 3 + nI a).toNatClampNeg = 3 * w + a := by rw [ab_ix]; exact nI_clamp (by omega)
  refine ⟨hi, fun D hD => ⟨hi, fun S hS => ?_⟩⟩
  rw [hc] at hD hS
  subst hD hS
  exact h
theorem xw_copyAxis {post : SX → Prop} {w a v b : Nat} (hw : w < 88) (ha : a < 3) (hv : v < 88) (hb : b < 3) (h : post (f_slotsTaken, f_elementsTaken, f_slopeCount, a_handleTaken, a_handleIsView, a_windowRank, a_windowSlot, a_windowStart, upd a_windowDimension (3 * v + b) (a_windowDimension (3 * w + a)), upd a_windowStride (3 * v + b) (a_windowStride (3 * w + a)), a_slotSize, a_slotKind, a_slotTerms, a_slotNeeded, a_slotsByAge, a_values, a_derivatives, a_firstPlaces, a_secondPlaces, a_assigned, a_slopes)) : wpX_copyAxis post (f_slotsTaken, f_elementsTaken, f_slopeCount, a_handleTaken, a_handleIsView, a_windowRank, a_windowSlot, a_windowStart, a_windowDimension, a_windowStride, a_slotSize, a_slotKind, a_slotTerms, a_slotNeeded, a_slotsByAge, a_values, a_derivatives, a_firstPlaces, a_secondPlaces, a_assigned, a_slopes) (nI w) (nI a) (nI v) (nI b) := by
  have hi : vp_in (nI w * 3 + nI a) 264 := ab_vin ab_ix (by omega) (by decide)
  have hj : vp_in (nI v * 3 + nI b) 264 := ab_vin ab_ix (by omega) (by decide)
  have hc : (nI w * 3 + nI a).toNatClampNeg = 3 * w + a := by rw [ab_ix]; exact nI_clamp (by omega)
  have hd : (nI v * 3 + nI b).toNatClampNeg = 3 * v + b := by rw [ab_ix]; exact nI_clamp (by omega)
  refine ⟨hi, hj, fun D hD => ⟨hi, hj, fun S hS => ?_⟩⟩
  rw [hc, hd] at hD hS
  subst hD hS
  exact h
theorem xw_startWindow {post : SX → Prop} {w s : Nat} {r : Int32} (hw : w < 88) (hs : s < 88) (h : post (f_slotsTaken, f_elementsTaken, f_slopeCount, a_handleTaken, a_handleIsView, upd a_windowRank w r, upd a_windowSlot w (a_windowSlot s), upd a_windowStart w (a_windowStart s), ab_up3 a_windowDimension (3 * w) 1 1 1, ab_up3 a_windowStride (3 * w) 0 0 0, a_slotSize, a_slotKind, a_slotTerms, a_slotNeeded, a_slotsByAge, a_values, a_derivatives, a_firstPlaces, a_secondPlaces, a_assigned, a_slopes)) : wpX_startWindow post (f_slotsTaken, f_elementsTaken, f_slopeCount, a_handleTaken, a_handleIsView, a_windowRank, a_windowSlot, a_windowStart, a_windowDimension, a_windowStride, a_slotSize, a_slotKind, a_slotTerms, a_slotNeeded, a_slotsByAge, a_values, a_derivatives, a_firstPlaces, a_secondPlaces, a_assigned, a_slopes) (nI w) (nI s) r := by
  have hi : vp_in (nI w) 88 := vp_in_nI hw (by decide)
  have hj : vp_in (nI s) 88 := vp_in_nI hs (by decide)
  have cw : (nI w).toNatClampNeg = w := nI_clamp (by omega)
  have cs : (nI s).toNatClampNeg = s := nI_clamp (by omega)
  refine ⟨hi, fun R hR => ⟨hj, hi, fun S hS => ⟨hj, hi, fun T hT => ⟨4, ?_⟩⟩⟩⟩
  rw [cw] at hR
  rw [cw, cs] at hS hT
  subst hR hS hT
  refine br_f (by decide) (xw_setAxis (a := 0) hw (by omega) (nm_r (nI_1 0) ?_))
  refine br_f (by decide) (xw_setAxis (a := 1) hw (by omega) (nm_r (nI_1 1) ?_))
  refine br_f (by decide) (xw_setAxis (a := 2) hw (by omega) (nm_r (nI_1 2) ?_))
  refine br_t (by decide) ?_
  rw [Nat.add_zero, ab_u3s, ab_u3s]
  exact h
theorem xw_copyWindow {post : SX → Prop} {w v : Nat} (hw : w < 88) (hv : v < 88) (hn : w ≠ v) (h : post (f_slotsTaken, f_elementsTaken, f_slopeCount, a_handleTaken, a_handleIsView, upd a_windowRank v (a_windowRank w), upd a_windowSlot v (a_windowSlot w), upd a_windowStart v (a_windowStart w), ab_up3 a_windowDimension (3 * v) (a_windowDimension (3 * w)) (a_windowDimension (3 * w + 1)) (a_windowDimension (3 * w + 2)), ab_up3 a_windowStride (3 * v) (a_windowStride (3 * w)) (a_windowStride (3 * w + 1)) (a_windowStride (3 * w + 2)), a_slotSize, a_slotKind, a_slotTerms, a_slotNeeded, a_slotsByAge, a_values, a_derivatives, a_firstPlaces, a_secondPlaces, a_assigned, a_slopes)) : wpX_copyWindow post (f_slotsTaken, f_elementsTaken, f_slopeCount, a_handleTaken, a_handleIsView, a_windowRank, a_windowSlot, a_windowStart, a_windowDimension, a_windowStride, a_slotSize, a_slotKind, a_slotTerms, a_slotNeeded, a_slotsByAge, a_values, a_derivatives, a_firstPlaces, a_secondPlaces, a_assigned, a_slopes) (nI w) (nI v) := by
  have cw : (nI w).toNatClampNeg = w := nI_clamp (by omega)
  refine ⟨vp_in_nI hw (by decide), ?_⟩
  rw [cw]
  refine xw_startWindow hv hw ⟨4, ?_⟩
  have e1 : ∀ (f : Nat → Int32) (k : Nat) (a b c : Int32) (i : Nat), i < 3 → k = 3 * v → ab_up3 f k a b c (3 * w + i) = f (3 * w + i) := fun f k a b c i hi hk => ab_en (by omega)
  refine br_f (by decide) (xw_copyAxis (a := 0) (b := 0) hw (by omega) hv (by omega) (nm_r (nI_1 0) ?_))
  rw [Nat.add_zero, Nat.add_zero, ab_u30, ab_u30, ab_en (by omega), ab_en (by omega)]
  refine br_f (by decide) (xw_copyAxis (a := 1) (b := 1) hw (by omega) hv (by omega) (nm_r (nI_1 1) ?_))
  rw [ab_u31, ab_u31, ab_en (by omega), ab_en (by omega)]
  refine br_f (by decide) (xw_copyAxis (a := 2) (b := 2) hw (by omega) hv (by omega) (nm_r (nI_1 2) ?_))
  rw [ab_u32, ab_u32, ab_en (by omega), ab_en (by omega)]
  exact br_t (by decide) h
theorem xw_makeView_n {post : Int32 → SX → Prop} {x : Int32} (hl : ∀ j, j < 24 → ¬ a_handleTaken j = 0) (h : post (-1) (f_slotsTaken, f_elementsTaken, f_slopeCount, a_handleTaken, a_handleIsView, a_windowRank, a_windowSlot, a_windowStart, a_windowDimension, a_windowStride, a_slotSize, a_slotKind, a_slotTerms, a_slotNeeded, a_slotsByAge, a_values, a_derivatives, a_firstPlaces, a_secondPlaces, a_assigned, a_slopes)) : wpX_makeView post (f_slotsTaken, f_elementsTaken, f_slopeCount, a_handleTaken, a_handleIsView, a_windowRank, a_windowSlot, a_windowStart, a_windowDimension, a_windowStride, a_slotSize, a_slotKind, a_slotTerms, a_slotNeeded, a_slotsByAge, a_values, a_derivatives, a_firstPlaces, a_secondPlaces, a_assigned, a_slopes) x := by
  unfold wpX_makeView
  exact xw_freeHandle_n hl (br_t (by decide) h)
theorem xw_makeView_s {post : Int32 → SX → Prop} {w v : Nat} (hv : v < 24) (hw : w < 24) (h0 : a_handleTaken v = 0) (hl : ∀ j, j < v → ¬ a_handleTaken j = 0) (h1 : ¬ a_handleTaken w = 0) (h : post (nI v) (f_slotsTaken, f_elementsTaken, f_slopeCount, upd a_handleTaken v 1, upd a_handleIsView v 1, upd a_windowRank v (a_windowRank w), upd a_windowSlot v (a_windowSlot w), upd a_windowStart v (a_windowStart w), ab_up3 a_windowDimension (3 * v) (a_windowDimension (3 * w)) (a_windowDimension (3 * w + 1)) (a_windowDimension (3 * w + 2)), ab_up3 a_windowStride (3 * v) (a_windowStride (3 * w)) (a_windowStride (3 * w + 1)) (a_windowStride (3 * w + 2)), a_slotSize, a_slotKind, a_slotTerms, a_slotNeeded, a_slotsByAge, a_values, a_derivatives, a_firstPlaces, a_secondPlaces, a_assigned, a_slopes)) : wpX_makeView post (f_slotsTaken, f_elementsTaken, f_slopeCount, a_handleTaken, a_handleIsView, a_windowRank, a_windowSlot, a_windowStart, a_windowDimension, a_windowStride, a_slotSize, a_slotKind, a_slotTerms, a_slotNeeded, a_slotsByAge, a_values, a_derivatives, a_firstPlaces, a_secondPlaces, a_assigned, a_slopes) (nI w) := by
  have cv : (nI v).toNatClampNeg = v := nI_clamp (by omega)
  have hn : w ≠ v := fun e => h1 (e ▸ h0)
  unfold wpX_makeView
  refine xw_freeHandle_s hv h0 hl (br_f (nI_pos (by omega)) ⟨vp_in_nI hv (by decide), fun H hH => ⟨vp_in_nI hv (by decide), fun V hV => ?_⟩⟩)
  rw [cv, ab_b1] at hH hV
  subst hH hV
  exact xw_copyWindow (by omega) (by omega) hn h
theorem xw_isDim_t {post : Int32 → Prop} {d : Nat} (h1 : 1 ≤ d) (h4 : d ≤ 4) (hp : post 1) : wpX_isDimension post (f_slotsTaken, f_elementsTaken, f_slopeCount, a_handleTaken, a_handleIsView, a_windowRank, a_windowSlot, a_windowStart, a_windowDimension, a_windowStride, a_slotSize, a_slotKind, a_slotTerms, a_slotNeeded, a_slotsByAge, a_values, a_derivatives, a_firstPlaces, a_secondPlaces, a_assigned, a_slopes) (nI d) :=
  br_f (nI_nlt (b := 1) h1 (by omega)) (br_f (nI_nlt (a := 4) h4 (by decide)) hp)
def ab_isD (x : Int32) : Prop := ∃ d, 1 ≤ d ∧ d ≤ 4 ∧ x = nI d
theorem xw_isDim_f {post : Int32 → Prop} {x : Int32} (hx : ¬ ab_isD x) (hp : post 0) : wpX_isDimension post (f_slotsTaken, f_elementsTaken, f_slopeCount, a_handleTaken, a_handleIsView, a_windowRank, a_windowSlot, a_windowStart, a_windowDimension, a_windowStride, a_slotSize, a_slotKind, a_slotTerms, a_slotNeeded, a_slotsByAge, a_values, a_derivatives, a_firstPlaces, a_secondPlaces, a_assigned, a_slopes) x := by
  refine br_c (fun _ => hp) (fun h0 => br_c (fun _ => hp) (fun h1 => ?_))
  have h2 : ¬ x < 0 := by
    rw [Int32.lt_iff_toInt_lt] at h0 ⊢
    rw [show (1 : Int32).toInt = 1 from by decide] at h0
    rw [show (0 : Int32).toInt = 0 from by decide]
    omega
  obtain ⟨j, hj, rfl⟩ := nI_of h2
  have h3 : 1 ≤ j := by
    apply Nat.lt_of_not_le; intro hc; exact h0 (nI_lt (b := 1) (by omega) (by decide))
  have h4 : j ≤ 4 := by
    apply Nat.le_of_not_lt; intro hc; exact h1 (nI_lt (a := 4) hc hj)
  exact absurd ⟨j, h3, h4, rfl⟩ hx
theorem ab_sh : ∀ a, a < 3 → (((3 + 3 * nI a) &&& 31).toBitVec.smod 32).toNat = 3 + 3 * a := by
  intro a ha
  rcases (show a = 0 ∨ a = 1 ∨ a = 2 by omega) with rfl | rfl | rfl <;> decide
theorem xw_packedDim {post : Int32 → Prop} {a d : Nat} (ha : a < 3) (hd : d < 8) (hp : post (nI (d * 2 ^ (3 + 3 * a)))) : wpX_packedDimension post (f_slotsTaken, f_elementsTaken, f_slopeCount, a_handleTaken, a_handleIsView, a_windowRank, a_windowSlot, a_windowStart, a_windowDimension, a_windowStride, a_slotSize, a_slotKind, a_slotTerms, a_slotNeeded, a_slotsByAge, a_values, a_derivatives, a_firstPlaces, a_secondPlaces, a_assigned, a_slopes) (nI a) (nI d) := by
  show post (nI d <<< ((3 + 3 * nI a) &&& 31))
  rw [pk_shlN _ (3 + 3 * a) (ab_sh a ha) ?_]
  · exact hp
  · rcases (show a = 0 ∨ a = 1 ∨ a = 2 by omega) with rfl | rfl | rfl <;> omega
theorem xw_dimIn {post : Int32 → Prop} {a q : Nat} (ha : a < 3) (hq : q < 4096) (hp : post (nI (q / 2 ^ (3 + 3 * a) % 8))) : wpX_dimensionIn post (f_slotsTaken, f_elementsTaken, f_slopeCount, a_handleTaken, a_handleIsView, a_windowRank, a_windowSlot, a_windowStart, a_windowDimension, a_windowStride, a_slotSize, a_slotKind, a_slotTerms, a_slotNeeded, a_slotsByAge, a_values, a_derivatives, a_firstPlaces, a_secondPlaces, a_assigned, a_slopes) (nI q) (nI a) := by
  show post ((nI q >>> ((3 + 3 * nI a) &&& 31)) &&& 7)
  rw [pk_shrN (by omega) _ (3 + 3 * a) (ab_sh a ha), pk_andN (by have := Nat.div_le_self q (2 ^ (3 + 3 * a)); omega) 3 (by decide)]
  exact hp
theorem xw_windowSize {post : Int32 → Prop} {w d0 d1 d2 : Nat} (hw : w < 88) (h0 : a_windowDimension (3 * w) = nI d0) (h1 : a_windowDimension (3 * w + 1) = nI d1) (h2 : a_windowDimension (3 * w + 2) = nI d2) (hp : post (nI (d0 * d1 * d2))) : wpX_windowSize post (f_slotsTaken, f_elementsTaken, f_slopeCount, a_handleTaken, a_handleIsView, a_windowRank, a_windowSlot, a_windowStart, a_windowDimension, a_windowStride, a_slotSize, a_slotKind, a_slotTerms, a_slotNeeded, a_slotsByAge, a_values, a_derivatives, a_firstPlaces, a_secondPlaces, a_assigned, a_slopes) (nI w) := by
  refine nm_r ab_ix3 ⟨vp_in_nI (by omega) (by decide), ab_vin (nI_1 _) (by omega) (by decide), ab_vin (nI_add _ 2) (by omega) (by decide), ?_⟩
  rw [nI_clamp (by omega), show nI (3 * w) + 1 = nI (3 * w + 1) from nI_1 _, show nI (3 * w) + 2 = nI (3 * w + 2) from nI_add _ 2, nI_clamp (by omega), nI_clamp (by omega), h0, h1, h2, pk_mul, pk_mul]
  exact hp
end
