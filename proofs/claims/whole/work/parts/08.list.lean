def xl_ok (d0 d1 d2 : Nat) (g : Nat → Nat → Nat → Nat) (F : Nat → Int32) (N : Nat) : Prop := ∀ e, e < N → F e = nI (ab_pf d0 d1 d2 g e)
section
variable {f_slotsTaken f_elementsTaken f_slopeCount : Int32} {a_handleTaken a_handleIsView a_windowRank a_windowSlot a_windowStart a_windowDimension a_windowStride a_slotSize a_slotKind a_slotTerms a_slotNeeded a_slotsByAge a_values a_derivatives a_firstPlaces a_secondPlaces a_assigned a_slopes : Nat → Int32}
theorem xl_z_firstPlaces {post : Int32 → SX → Prop} {J38 J48 : Int32 → Int32 → (Nat → Int32) → (Nat → Int32) → (Nat → Int32) → (Nat → Int32) → (Nat → Int32) → (Nat → Int32) → (Nat → Int32) → (Nat → Int32) → (Nat → Int32) → (Nat → Int32) → (Nat → Int32) → (Nat → Int32) → (Nat → Int32) → (Nat → Int32) → (Nat → Int32) → (Nat → Int32) → (Nat → Int32) → (Nat → Int32) → Prop} {w d0 d1 d2 x y : Nat} {x1 x4 x5 row : Int32} {g : Nat → Nat → Nat → Nat} (hw : w < 88) (hs : d0 * d1 * d2 ≤ 64) (h4 : d2 ≤ 4) (hx : x < d0) (hy : y < d1) (hg : ∀ z, z < d2 → row + nI z * a_windowStride (3 * w + 2) = nI (g x y z)) (h : ∀ F : Nat → Int32, xl_ok d0 d1 d2 g F ((x * d1 + (y + 1)) * d2) → J48 (nI ((x * d1 + (y + 1)) * d2)) (nI (y + 1)) a_handleTaken a_handleIsView a_windowRank a_windowSlot a_windowStart a_windowDimension a_windowStride a_slotSize a_slotKind a_slotTerms a_slotNeeded a_slotsByAge a_values a_derivatives F a_secondPlaces a_assigned a_slopes) : ∀ (k z : Nat) (F : Nat → Int32), z + k = d2 → xl_ok d0 d1 d2 g F ((x * d1 + y) * d2 + z) → wX_listPlaces__firstPlaces_88 post J38 J48 x1 (nI (3 * w)) x4 x5 (nI d2) (nI x) (nI y) row f_slotsTaken f_elementsTaken f_slopeCount (k + 1) (nI ((x * d1 + y) * d2 + z)) (nI z) a_handleTaken a_handleIsView a_windowRank a_windowSlot a_windowStart a_windowDimension a_windowStride a_slotSize a_slotKind a_slotTerms a_slotNeeded a_slotsByAge a_values a_derivatives F a_secondPlaces a_assigned a_slopes := by
  intro k
  induction k with
  | zero =>
    intro z F hz hF
    refine br_t (nI_le (by omega) (by omega)) (nm_r (nI_1 y) ?_)
    have e : (x * d1 + y) * d2 + z = (x * d1 + (y + 1)) * d2 := by
      rw [← Nat.add_assoc, Nat.add_mul _ 1, Nat.one_mul]; omega
    rw [e] at hF ⊢
    exact h F hF
  | succ k ih =>
    intro z F hz hF
    have hl := ab_lin hx hy (show z < d2 by omega)
    have e2 : nI (3 * w) + 2 = nI (3 * w + 2) := nI_add _ 2
    refine br_f (nI_ge (by omega) (by omega)) ⟨ab_vin e2 (by omega) (by decide), vp_in_nI (by omega) (by decide), fun F' hF' => nm_r (nI_1 _) (nm_r (nI_1 z) (ih (z + 1) F' (by omega) ?_))⟩
    rw [nI_clamp (by omega), e2, nI_clamp (by omega), hg z (by omega)] at hF'
    intro e he
    rw [hF']
    by_cases q : e = (x * d1 + y) * d2 + z
    · rw [q, pk_us, ab_pfl hx hy (by omega)]
    · rw [pk_un q]; exact hF e (by omega)
theorem xl_y_firstPlaces {post : Int32 → SX → Prop} {J38 : Int32 → Int32 → (Nat → Int32) → (Nat → Int32) → (Nat → Int32) → (Nat → Int32) → (Nat → Int32) → (Nat → Int32) → (Nat → Int32) → (Nat → Int32) → (Nat → Int32) → (Nat → Int32) → (Nat → Int32) → (Nat → Int32) → (Nat → Int32) → (Nat → Int32) → (Nat → Int32) → (Nat → Int32) → (Nat → Int32) → (Nat → Int32) → Prop} {w d0 d1 d2 x : Nat} {x4 : Int32} {g : Nat → Nat → Nat → Nat} (hw : w < 88) (hs : d0 * d1 * d2 ≤ 64) (h4 : d2 ≤ 4) (h41 : d1 ≤ 4) (hx : x < d0) (hg : ∀ y z, y < d1 → z < d2 → a_windowStart w + nI x * a_windowStride (3 * w) + nI y * a_windowStride (3 * w + 1) + nI z * a_windowStride (3 * w + 2) = nI (g x y z)) (h : ∀ F : Nat → Int32, xl_ok d0 d1 d2 g F ((x + 1) * d1 * d2) → J38 (nI ((x + 1) * d1 * d2)) (nI (x + 1)) a_handleTaken a_handleIsView a_windowRank a_windowSlot a_windowStart a_windowDimension a_windowStride a_slotSize a_slotKind a_slotTerms a_slotNeeded a_slotsByAge a_values a_derivatives F a_secondPlaces a_assigned a_slopes) : ∀ (k y : Nat) (F : Nat → Int32), y + k = d1 → xl_ok d0 d1 d2 g F ((x * d1 + y) * d2) → wX_listPlaces__firstPlaces_48 post J38 (nI w) (nI (3 * w)) x4 (nI d1) (nI d2) (nI x) f_slotsTaken f_elementsTaken f_slopeCount (k + 1) (nI ((x * d1 + y) * d2)) (nI y) a_handleTaken a_handleIsView a_windowRank a_windowSlot a_windowStart a_windowDimension a_windowStride a_slotSize a_slotKind a_slotTerms a_slotNeeded a_slotsByAge a_values a_derivatives F a_secondPlaces a_assigned a_slopes := by
  intro k
  induction k with
  | zero =>
    intro y F hy hF
    refine br_t (nI_le (by omega) (by omega)) (nm_r (nI_1 x) ?_)
    have e : (x * d1 + y) * d2 = (x + 1) * d1 * d2 := by
      rw [Nat.add_mul x 1, Nat.one_mul, show y = d1 by omega]
    rw [e] at hF ⊢
    exact h F hF
  | succ k ih =>
    intro y F hy hF
    have e1 : nI (3 * w) + 1 = nI (3 * w + 1) := nI_1 _
    refine br_f (nI_ge (by omega) (by omega)) ⟨vp_in_nI hw (by decide), vp_in_nI (by omega) (by decide), ab_vin e1 (by omega) (by decide), nm_e ⟨d2 + 1, ?_⟩⟩
    rw [nI_clamp (by omega), nI_clamp (by omega), e1, nI_clamp (by omega)]
    exact xl_z_firstPlaces (y := y) hw hs h4 hx (by omega) (fun z hz => hg y z (by omega) hz) (fun F' hF' => ih (y + 1) F' (by omega) hF') d2 0 F (by omega) (by rw [Nat.add_zero]; exact hF)
theorem xl_list_firstPlaces {post : Int32 → SX → Prop} {w d0 d1 d2 : Nat} {g : Nat → Nat → Nat → Nat} (hw : w < 88) (h0 : a_windowDimension (3 * w) = nI d0) (h1 : a_windowDimension (3 * w + 1) = nI d1) (h2 : a_windowDimension (3 * w + 2) = nI d2) (h40 : d0 ≤ 4) (h41 : d1 ≤ 4) (h42 : d2 ≤ 4) (hg : ∀ x y z, x < d0 → y < d1 → z < d2 → a_windowStart w + nI x * a_windowStride (3 * w) + nI y * a_windowStride (3 * w + 1) + nI z * a_windowStride (3 * w + 2) = nI (g x y z)) (h : ∀ F : Nat → Int32, xl_ok d0 d1 d2 g F (d0 * d1 * d2) → post (nI (d0 * d1 * d2)) (f_slotsTaken, f_elementsTaken, f_slopeCount, a_handleTaken, a_handleIsView, a_windowRank, a_windowSlot, a_windowStart, a_windowDimension, a_windowStride, a_slotSize, a_slotKind, a_slotTerms, a_slotNeeded, a_slotsByAge, a_values, a_derivatives, F, a_secondPlaces, a_assigned, a_slopes)) : wpX_listPlaces__firstPlaces post (f_slotsTaken, f_elementsTaken, f_slopeCount, a_handleTaken, a_handleIsView, a_windowRank, a_windowSlot, a_windowStart, a_windowDimension, a_windowStride, a_slotSize, a_slotKind, a_slotTerms, a_slotNeeded, a_slotsByAge, a_values, a_derivatives, a_firstPlaces, a_secondPlaces, a_assigned, a_slopes) (nI w) := by
  have hs := ab_sz h40 h41 h42
  have e1 : nI (3 * w) + 1 = nI (3 * w + 1) := nI_1 _
  have e2 : nI (3 * w) + 2 = nI (3 * w + 2) := nI_add _ 2
  refine nm_r ab_ix3 ⟨vp_in_nI (by omega) (by decide), nm_r (e' := nI d0) (by rw [nI_clamp (by omega), h0]) ⟨ab_vin e1 (by omega) (by decide), nm_r (e' := nI d1) (by rw [e1, nI_clamp (by omega), h1]) ⟨ab_vin e2 (by omega) (by decide), nm_r (e' := nI d2) (by rw [e2, nI_clamp (by omega), h2]) ⟨d0 + 1, ?_⟩⟩⟩⟩
  have L : ∀ (k x : Nat) (F : Nat → Int32), x + k = d0 → xl_ok d0 d1 d2 g F (x * d1 * d2) → wX_listPlaces__firstPlaces_38 post (nI w) (nI (3 * w)) (nI d0) (nI d1) (nI d2) f_slotsTaken f_elementsTaken f_slopeCount (k + 1) (nI (x * d1 * d2)) (nI x) a_handleTaken a_handleIsView a_windowRank a_windowSlot a_windowStart a_windowDimension a_windowStride a_slotSize a_slotKind a_slotTerms a_slotNeeded a_slotsByAge a_values a_derivatives F a_secondPlaces a_assigned a_slopes := by
    intro k
    induction k with
    | zero =>
      intro x F hx hF
      have : x = d0 := by omega
      subst this
      exact br_t (nI_le (by omega) (by omega)) (h F hF)
    | succ k ih =>
      intro x F hx hF
      refine br_f (nI_ge (by omega) (by omega)) ⟨d1 + 1, ?_⟩
      exact xl_y_firstPlaces hw hs h42 h41 (by omega) (fun y z => hg x y z (by omega)) (fun F' hF' => ih (x + 1) F' (by omega) hF') d1 0 F (by omega) (by rw [Nat.add_zero]; exact hF)
  have := L d0 0 a_firstPlaces (by omega) (fun e he => absurd he (by simp))
  rw [Nat.zero_mul, Nat.zero_mul] at this
  exact this
theorem xl_z_secondPlaces {post : Int32 → SX → Prop} {J38 J48 : Int32 → Int32 → (Nat → Int32) → (Nat → Int32) → (Nat → Int32) → (Nat → Int32) → (Nat → Int32) → (Nat → Int32) → (Nat → Int32) → (Nat → Int32) → (Nat → Int32) → (Nat → Int32) → (Nat → Int32) → (Nat → Int32) → (Nat → Int32) → (Nat → Int32) → (Nat → Int32) → (Nat → Int32) → (Nat → Int32) → (Nat → Int32) → Prop} {w d0 d1 d2 x y : Nat} {x1 x4 x5 row : Int32} {g : Nat → Nat → Nat → Nat} (hw : w < 88) (hs : d0 * d1 * d2 ≤ 64) (h4 : d2 ≤ 4) (hx : x < d0) (hy : y < d1) (hg : ∀ z, z < d2 → row + nI z * a_windowStride (3 * w + 2) = nI (g x y z)) (h : ∀ F : Nat → Int32, xl_ok d0 d1 d2 g F ((x * d1 + (y + 1)) * d2) → J48 (nI ((x * d1 + (y + 1)) * d2)) (nI (y + 1)) a_handleTaken a_handleIsView a_windowRank a_windowSlot a_windowStart a_windowDimension a_windowStride a_slotSize a_slotKind a_slotTerms a_slotNeeded a_slotsByAge a_values a_derivatives a_firstPlaces F a_assigned a_slopes) : ∀ (k z : Nat) (F : Nat → Int32), z + k = d2 → xl_ok d0 d1 d2 g F ((x * d1 + y) * d2 + z) → wX_listPlaces__secondPlaces_88 post J38 J48 x1 (nI (3 * w)) x4 x5 (nI d2) (nI x) (nI y) row f_slotsTaken f_elementsTaken f_slopeCount (k + 1) (nI ((x * d1 + y) * d2 + z)) (nI z) a_handleTaken a_handleIsView a_windowRank a_windowSlot a_windowStart a_windowDimension a_windowStride a_slotSize a_slotKind a_slotTerms a_slotNeeded a_slotsByAge a_values a_derivatives a_firstPlaces F a_assigned a_slopes := by
  intro k
  induction k with
  | zero =>
    intro z F hz hF
    refine br_t (nI_le (by omega) (by omega)) (nm_r (nI_1 y) ?_)
    have e : (x * d1 + y) * d2 + z = (x * d1 + (y + 1)) * d2 := by
      rw [← Nat.add_assoc, Nat.add_mul _ 1, Nat.one_mul]; omega
    rw [e] at hF ⊢
    exact h F hF
  | succ k ih =>
    intro z F hz hF
    have hl := ab_lin hx hy (show z < d2 by omega)
    have e2 : nI (3 * w) + 2 = nI (3 * w + 2) := nI_add _ 2
    refine br_f (nI_ge (by omega) (by omega)) ⟨ab_vin e2 (by omega) (by decide), vp_in_nI (by omega) (by decide), fun F' hF' => nm_r (nI_1 _) (nm_r (nI_1 z) (ih (z + 1) F' (by omega) ?_))⟩
    rw [nI_clamp (by omega), e2, nI_clamp (by omega), hg z (by omega)] at hF'
    intro e he
    rw [hF']
    by_cases q : e = (x * d1 + y) * d2 + z
    · rw [q, pk_us, ab_pfl hx hy (by omega)]
    · rw [pk_un q]; exact hF e (by omega)
theorem xl_y_secondPlaces {post : Int32 → SX → Prop} {J38 : Int32 → Int32 → (Nat → Int32) → (Nat → Int32) → (Nat → Int32) → (Nat → Int32) → (Nat → Int32) → (Nat → Int32) → (Nat → Int32) → (Nat → Int32) → (Nat → Int32) → (Nat → Int32) → (Nat → Int32) → (Nat → Int32) → (Nat → Int32) → (Nat → Int32) → (Nat → Int32) → (Nat → Int32) → (Nat → Int32) → (Nat → Int32) → Prop} {w d0 d1 d2 x : Nat} {x4 : Int32} {g : Nat → Nat → Nat → Nat} (hw : w < 88) (hs : d0 * d1 * d2 ≤ 64) (h4 : d2 ≤ 4) (h41 : d1 ≤ 4) (hx : x < d0) (hg : ∀ y z, y < d1 → z < d2 → a_windowStart w + nI x * a_windowStride (3 * w) + nI y * a_windowStride (3 * w + 1) + nI z * a_windowStride (3 * w + 2) = nI (g x y z)) (h : ∀ F : Nat → Int32, xl_ok d0 d1 d2 g F ((x + 1) * d1 * d2) → J38 (nI ((x + 1) * d1 * d2)) (nI (x + 1)) a_handleTaken a_handleIsView a_windowRank a_windowSlot a_windowStart a_windowDimension a_windowStride a_slotSize a_slotKind a_slotTerms a_slotNeeded a_slotsByAge a_values a_derivatives a_firstPlaces F a_assigned a_slopes) : ∀ (k y : Nat) (F : Nat → Int32), y + k = d1 → xl_ok d0 d1 d2 g F ((x * d1 + y) * d2) → wX_listPlaces__secondPlaces_48 post J38 (nI w) (nI (3 * w)) x4 (nI d1) (nI d2) (nI x) f_slotsTaken f_elementsTaken f_slopeCount (k + 1) (nI ((x * d1 + y) * d2)) (nI y) a_handleTaken a_handleIsView a_windowRank a_windowSlot a_windowStart a_windowDimension a_windowStride a_slotSize a_slotKind a_slotTerms a_slotNeeded a_slotsByAge a_values a_derivatives a_firstPlaces F a_assigned a_slopes := by
  intro k
  induction k with
  | zero =>
    intro y F hy hF
    refine br_t (nI_le (by omega) (by omega)) (nm_r (nI_1 x) ?_)
    have e : (x * d1 + y) * d2 = (x + 1) * d1 * d2 := by
      rw [Nat.add_mul x 1, Nat.one_mul, show y = d1 by omega]
    rw [e] at hF ⊢
    exact h F hF
  | succ k ih =>
    intro y F hy hF
    have e1 : nI (3 * w) + 1 = nI (3 * w + 1) := nI_1 _
    refine br_f (nI_ge (by omega) (by omega)) ⟨vp_in_nI hw (by decide), vp_in_nI (by omega) (by decide), ab_vin e1 (by omega) (by decide), nm_e ⟨d2 + 1, ?_⟩⟩
    rw [nI_clamp (by omega), nI_clamp (by omega), e1, nI_clamp (by omega)]
    exact xl_z_secondPlaces (y := y) hw hs h4 hx (by omega) (fun z hz => hg y z (by omega) hz) (fun F' hF' => ih (y + 1) F' (by omega) hF') d2 0 F (by omega) (by rw [Nat.add_zero]; exact hF)
theorem xl_list_secondPlaces {post : Int32 → SX → Prop} {w d0 d1 d2 : Nat} {g : Nat → Nat → Nat → Nat} (hw : w < 88) (h0 : a_windowDimension (3 * w) = nI d0) (h1 : a_windowDimension (3 * w + 1) = nI d1) (h2 : a_windowDimension (3 * w + 2) = nI d2) (h40 : d0 ≤ 4) (h41 : d1 ≤ 4) (h42 : d2 ≤ 4) (hg : ∀ x y z, x < d0 → y < d1 → z < d2 → a_windowStart w + nI x * a_windowStride (3 * w) + nI y * a_windowStride (3 * w + 1) + nI z * a_windowStride (3 * w + 2) = nI (g x y z)) (h : ∀ F : Nat → Int32, xl_ok d0 d1 d2 g F (d0 * d1 * d2) → post (nI (d0 * d1 * d2)) (f_slotsTaken, f_elementsTaken, f_slopeCount, a_handleTaken, a_handleIsView, a_windowRank, a_windowSlot, a_windowStart, a_windowDimension, a_windowStride, a_slotSize, a_slotKind, a_slotTerms, a_slotNeeded, a_slotsByAge, a_values, a_derivatives, a_firstPlaces, F, a_assigned, a_slopes)) : wpX_listPlaces__secondPlaces post (f_slotsTaken, f_elementsTaken, f_slopeCount, a_handleTaken, a_handleIsView, a_windowRank, a_windowSlot, a_windowStart, a_windowDimension, a_windowStride, a_slotSize, a_slotKind, a_slotTerms, a_slotNeeded, a_slotsByAge, a_values, a_derivatives, a_firstPlaces, a_secondPlaces, a_assigned, a_slopes) (nI w) := by
  have hs := ab_sz h40 h41 h42
  have e1 : nI (3 * w) + 1 = nI (3 * w + 1) := nI_1 _
  have e2 : nI (3 * w) + 2 = nI (3 * w + 2) := nI_add _ 2
  refine nm_r ab_ix3 ⟨vp_in_nI (by omega) (by decide), nm_r (e' := nI d0) (by rw [nI_clamp (by omega), h0]) ⟨ab_vin e1 (by omega) (by decide), nm_r (e' := nI d1) (by rw [e1, nI_clamp (by omega), h1]) ⟨ab_vin e2 (by omega) (by decide), nm_r (e' := nI d2) (by rw [e2, nI_clamp (by omega), h2]) ⟨d0 + 1, ?_⟩⟩⟩⟩
  have L : ∀ (k x : Nat) (F : Nat → Int32), x + k = d0 → xl_ok d0 d1 d2 g F (x * d1 * d2) → wX_listPlaces__secondPlaces_38 post (nI w) (nI (3 * w)) (nI d0) (nI d1) (nI d2) f_slotsTaken f_elementsTaken f_slopeCount (k + 1) (nI (x * d1 * d2)) (nI x) a_handleTaken a_handleIsView a_windowRank a_windowSlot a_windowStart a_windowDimension a_windowStride a_slotSize a_slotKind a_slotTerms a_slotNeeded a_slotsByAge a_values a_derivatives a_firstPlaces F a_assigned a_slopes := by
    intro k
    induction k with
    | zero =>
      intro x F hx hF
      have : x = d0 := by omega
      subst this
      exact br_t (nI_le (by omega) (by omega)) (h F hF)
    | succ k ih =>
      intro x F hx hF
      refine br_f (nI_ge (by omega) (by omega)) ⟨d1 + 1, ?_⟩
      exact xl_y_secondPlaces hw hs h42 h41 (by omega) (fun y z => hg x y z (by omega)) (fun F' hF' => ih (x + 1) F' (by omega) hF') d1 0 F (by omega) (by rw [Nat.add_zero]; exact hF)
  have := L d0 0 a_secondPlaces (by omega) (fun e he => absurd he (by simp))
  rw [Nat.zero_mul, Nat.zero_mul] at this
  exact this
end
