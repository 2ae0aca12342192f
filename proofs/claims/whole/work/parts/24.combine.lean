def cb_a (rk r : Nat) (d : Nat → Nat) (a : Nat) : Nat := if a + rk < r then 1 else d (a + rk - r)
def cb_d (r : Nat) (A B : Nat → Nat) (a : Nat) : Nat := if a < r then (if A a ≤ B a then B a else A a) else 1
def cb_fit (r : Nat) (A B : Nat → Nat) : Prop := ∀ a, a < r → A a = B a ∨ A a = 1 ∨ B a = 1
def cb_s (E : Nat → Int32) (k rk r : Nat) (d dd : Nat → Nat) (a : Nat) : Int32 := if a < r ∧ r ≤ a + rk ∧ d (a + rk - r) = dd a then E (k + (a + rk - r)) else 0
def cb_c (rk r : Nat) (d : Nat → Nat) (x y z b : Nat) : Nat := if b < rk ∧ d b ≠ 1 then ab_crd x y z (b + r - rk) else 0
theorem cb_a4 {rk r a : Nat} {d : Nat → Nat} (h : ab_sh3 rk d) (hr : rk ≤ r) (hr3 : r ≤ 3) (ha : a < r) : 1 ≤ cb_a rk r d a ∧ cb_a rk r d a ≤ 4 := by
  unfold cb_a; split
  · omega
  · exact h.2.2 _ (by omega)
theorem cb_d3 {r : Nat} {A B : Nat → Nat} (hr3 : r ≤ 3) (hA : ∀ a, a < r → 1 ≤ A a ∧ A a ≤ 4) (hB : ∀ a, a < r → 1 ≤ B a ∧ B a ≤ 4) : ab_sh3 r (cb_d r A B) := by
  refine ⟨hr3, fun a h1 h2 => ?_, fun a ha => ?_⟩
  · unfold cb_d; rw [if_neg (by omega)]
  · unfold cb_d; split
    · rename_i z; have := hA a z; have := hB a z; split <;> omega
    · omega
theorem cb_mem {rk r : Nat} {d dd : Nat → Nat} {a : Nat} (hfit : ∀ a, a < r → cb_a rk r d a = dd a ∨ cb_a rk r d a = 1) (ha : a < r) (h : r ≤ a + rk) : d (a + rk - r) = dd a ∨ d (a + rk - r) = 1 := by
  have := hfit a ha
  unfold cb_a at this
  rw [if_neg (by omega)] at this
  exact this
theorem cb_rng {rk r x y z b : Nat} {d dd : Nat → Nat} (h : ab_sh3 rk d) (hr : rk ≤ r) (hr3 : r ≤ 3) (hfit : ∀ a, a < r → cb_a rk r d a = dd a ∨ cb_a rk r d a = 1) (hx : x < dd 0) (hy : y < dd 1) (hz : z < dd 2) (hb : b < 3) : cb_c rk r d x y z b < d b := by
  have b1 := h.2.2 b hb
  unfold cb_c
  split
  · rename_i c
    have m := cb_mem (a := b + r - rk) hfit (by omega) (by omega)
    rw [show b + r - rk + rk - r = b by omega] at m
    rcases m with m | m
    · rw [m]
      rcases (show b + r - rk = 0 ∨ b + r - rk = 1 ∨ b + r - rk = 2 by omega) with q | q | q <;> rw [q] <;> simp [ab_crd] <;> assumption
    · exact absurd m c.2
  · omega
theorem cb_t {E : Nat → Int32} {k rk r x y z b : Nat} {d dd : Nat → Nat} (h : ab_sh3 rk d) (hr : rk ≤ r) (hr3 : r ≤ 3) (hfit : ∀ a, a < r → cb_a rk r d a = dd a ∨ cb_a rk r d a = 1) (hx : x < dd 0) (hy : y < dd 1) (hz : z < dd 2) (hb : b < rk) : nI (ab_crd x y z (b + r - rk)) * cb_s E k rk r d dd (b + r - rk) = nI (cb_c rk r d x y z b) * E (k + b) := by
  have m := cb_mem (a := b + r - rk) hfit (by omega) (by omega)
  have c0 : ab_crd x y z (b + r - rk) < dd (b + r - rk) := by
    rcases (show b + r - rk = 0 ∨ b + r - rk = 1 ∨ b + r - rk = 2 by omega) with q | q | q <;> rw [q] <;> simp [ab_crd] <;> assumption
  rw [show b + r - rk + rk - r = b by omega] at m
  unfold cb_s cb_c
  rw [show b + r - rk + rk - r = b by omega]
  by_cases e1 : d b = dd (b + r - rk)
  · rw [if_pos ⟨by omega, by omega, e1⟩]
    by_cases e2 : d b = 1
    · rw [if_neg (fun q => q.2 e2), show ab_crd x y z (b + r - rk) = 0 by omega]
    · rw [if_pos ⟨hb, e2⟩]
  · rw [if_neg (fun q => e1 q.2.2)]
    rcases m with m | m
    · exact absurd m e1
    · rw [if_neg (fun q => q.2 m), nI_0]; grind
theorem cb_eq {E : Nat → Int32} {st : Int32} {k rk r x y z : Nat} {d dd : Nat → Nat} (h : ab_sh3 rk d) (hr : rk ≤ r) (hr3 : r ≤ 3) (hfit : ∀ a, a < r → cb_a rk r d a = dd a ∨ cb_a rk r d a = 1) (hx : x < dd 0) (hy : y < dd 1) (hz : z < dd 2) : st + nI x * cb_s E k rk r d dd 0 + nI y * cb_s E k rk r d dd 1 + nI z * cb_s E k rk r d dd 2 = st + nI (cb_c rk r d x y z 0) * E k + nI (cb_c rk r d x y z 1) * E (k + 1) + nI (cb_c rk r d x y z 2) * E (k + 2) := by
  have T := fun b => cb_t (E := E) (k := k) (b := b) h hr hr3 hfit hx hy hz
  have Z : ∀ a, (a + rk < r ∨ r ≤ a) → cb_s E k rk r d dd a = 0 := by
    intro a ha; unfold cb_s; rw [if_neg (by omega)]
  have O : ∀ b, rk ≤ b → cb_c rk r d x y z b = 0 := by
    intro b hb; unfold cb_c; rw [if_neg (by omega)]
  rcases (show (rk = 0 ∧ r ≤ 3) ∨ (rk = 1 ∧ r = 1) ∨ (rk = 1 ∧ r = 2) ∨ (rk = 1 ∧ r = 3) ∨ (rk = 2 ∧ r = 2) ∨ (rk = 2 ∧ r = 3) ∨ (rk = 3 ∧ r = 3) by omega) with ⟨rfl, hh⟩ | ⟨rfl, rfl⟩ | ⟨rfl, rfl⟩ | ⟨rfl, rfl⟩ | ⟨rfl, rfl⟩ | ⟨rfl, rfl⟩ | ⟨rfl, rfl⟩
  · rw [Z 0 (by omega), Z 1 (by omega), Z 2 (by omega), O 0 (by omega), O 1 (by omega), O 2 (by omega), nI_0]; grind
  · have t0 := T 0 (by omega)
    simp [ab_crd] at t0
    rw [Z 1 (by omega), Z 2 (by omega), O 1 (by omega), O 2 (by omega), nI_0, t0]; grind
  · have t0 := T 0 (by omega)
    simp [ab_crd] at t0
    rw [Z 0 (by omega), Z 2 (by omega), O 1 (by omega), O 2 (by omega), nI_0, t0]; grind
  · have t0 := T 0 (by omega)
    simp [ab_crd] at t0
    rw [Z 0 (by omega), Z 1 (by omega), O 1 (by omega), O 2 (by omega), nI_0, t0]; grind
  · have t0 := T 0 (by omega)
    have t1 := T 1 (by omega)
    simp [ab_crd] at t0 t1
    rw [Z 2 (by omega), O 2 (by omega), nI_0, t0, t1]; grind
  · have t0 := T 0 (by omega)
    have t1 := T 1 (by omega)
    simp [ab_crd] at t0 t1
    rw [Z 0 (by omega), O 2 (by omega), nI_0, t0, t1]; grind
  · have t0 := T 0 (by omega)
    have t1 := T 1 (by omega)
    have t2 := T 2 (by omega)
    simp [ab_crd] at t0 t1 t2
    rw [t0, t1, t2]
section
variable {f_slotsTaken f_elementsTaken f_slopeCount : Int32} {a_handleTaken a_handleIsView a_windowRank a_windowSlot a_windowStart a_windowDimension a_windowStride a_slotSize a_slotKind a_slotTerms a_slotNeeded a_slotsByAge a_values a_derivatives a_firstPlaces a_secondPlaces a_assigned a_slopes : Nat → Int32}
theorem xc_dfl {post : Int32 → Prop} {w rk r a : Nat} {d : Nat → Nat} (hw : w < 24) (hr : a_windowRank w = nI rk) (hk : rk ≤ r) (hr3 : r ≤ 3) (ha : a < r) (hd : ∀ i, i < 3 → a_windowDimension (3 * w + i) = nI (d i)) (hp : post (nI (cb_a rk r d a))) : wpX_dimensionFromLast post (f_slotsTaken, f_elementsTaken, f_slopeCount, a_handleTaken, a_handleIsView, a_windowRank, a_windowSlot, a_windowStart, a_windowDimension, a_windowStride, a_slotSize, a_slotKind, a_slotTerms, a_slotNeeded, a_slotsByAge, a_values, a_derivatives, a_firstPlaces, a_secondPlaces, a_assigned, a_slopes) (nI w) (nI r - nI a) := by
  have e : nI r - nI a = nI (r - a) := pk_sub (by omega)
  rw [e]
  unfold cb_a at hp
  by_cases z : a + rk < r
  · rw [if_pos z] at hp
    refine ⟨vp_in_nI (by omega) (by decide), nm_r (e' := nI rk - nI (r - a)) (by rw [nI_clamp (by omega), hr]) (br_t (pk_sneg (by omega) (by omega)) hp)⟩
  · rw [if_neg z] at hp
    refine ⟨vp_in_nI (by omega) (by decide), nm_r (e' := nI (a + rk - r)) (by rw [nI_clamp (by omega), hr, pk_sub (by omega)]; congr 1; omega) (br_f (nI_pos (by omega)) ⟨ab_vin ab_ix (by omega) (by decide), ?_⟩)⟩
    rw [ab_ix, nI_clamp (by omega), hd _ (by omega)]; exact hp
theorem xc_cs_s {post : Int32 → Prop} {w p rkw rkp r a q n : Nat} {dw dp : Nat → Nat} (hw : w < 24) (hp : p < 24) (hrw : a_windowRank w = nI rkw) (hrp : a_windowRank p = nI rkp) (hkw : rkw ≤ r) (hkp : rkp ≤ r) (hr3 : r ≤ 3) (ha : a < r) (hdw : ∀ i, i < 3 → a_windowDimension (3 * w + i) = nI (dw i)) (hdp : ∀ i, i < 3 → a_windowDimension (3 * p + i) = nI (dp i)) (h4 : cb_a rkw r dw a ≤ 4) (h5 : cb_a rkp r dp a ≤ 4) (hf : cb_a rkw r dw a = cb_a rkp r dp a ∨ cb_a rkw r dw a = 1 ∨ cb_a rkp r dp a = 1) (h : wX_commonShape_37 post (nI w) (nI p) (nI r) f_slotsTaken f_elementsTaken f_slopeCount a_handleTaken a_handleIsView a_windowRank a_windowSlot a_windowStart a_windowDimension a_windowStride a_slotSize a_slotKind a_slotTerms a_slotNeeded a_slotsByAge a_values a_derivatives a_firstPlaces a_secondPlaces a_assigned a_slopes n (nI (q + cb_d r (cb_a rkw r dw) (cb_a rkp r dp) a * 2 ^ (3 + 3 * a))) (nI (a + 1))) : wX_commonShape_37 post (nI w) (nI p) (nI r) f_slotsTaken f_elementsTaken f_slopeCount a_handleTaken a_handleIsView a_windowRank a_windowSlot a_windowStart a_windowDimension a_windowStride a_slotSize a_slotKind a_slotTerms a_slotNeeded a_slotsByAge a_values a_derivatives a_firstPlaces a_secondPlaces a_assigned a_slopes (n + 1) (nI q) (nI a) := by
  have K : wX_commonShape_86 post (wX_commonShape_37 post (nI w) (nI p) (nI r) f_slotsTaken f_elementsTaken f_slopeCount a_handleTaken a_handleIsView a_windowRank a_windowSlot a_windowStart a_windowDimension a_windowStride a_slotSize a_slotKind a_slotTerms a_slotNeeded a_slotsByAge a_values a_derivatives a_firstPlaces a_secondPlaces a_assigned a_slopes n) (nI w) (nI p) (nI r) (nI q) (nI a) (nI (cb_a rkw r dw a)) (nI (cb_a rkp r dp a)) f_slotsTaken f_elementsTaken f_slopeCount a_handleTaken a_handleIsView a_windowRank a_windowSlot a_windowStart a_windowDimension a_windowStride a_slotSize a_slotKind a_slotTerms a_slotNeeded a_slotsByAge a_values a_derivatives a_firstPlaces a_secondPlaces a_assigned a_slopes := by
    unfold cb_d at h
    rw [if_pos ha] at h
    by_cases z : cb_a rkw r dw a ≤ cb_a rkp r dp a
    · rw [if_pos z] at h
      exact br_t (nI_le z (by omega)) (xw_packedDim (by omega) (by omega) (nm_r (nI_add _ _) (nm_r (nI_1 a) h)))
    · rw [if_neg z] at h
      exact br_f (nI_ge (by omega) (by omega)) (xw_packedDim (by omega) (by omega) (nm_r (nI_add _ _) (nm_r (nI_1 a) h)))
  refine br_f (nI_ge ha (by omega)) (xc_dfl hw hrw hkw hr3 ha hdw (xc_dfl hp hrp hkp hr3 ha hdp ?_))
  refine br_c (fun _ => K) (fun n1 => br_c (fun _ => K) (fun n2 => br_c (fun _ => K) (fun n3 => ?_)))
  rcases hf with f | f | f
  · exact absurd (by rw [f]) n1
  · exact absurd (by rw [f]; rfl) n2
  · exact absurd (by rw [f]; rfl) n3
theorem xc_cs_f {post : Int32 → Prop} {w p rkw rkp r a n : Nat} {x : Int32} {dw dp : Nat → Nat} (hw : w < 24) (hp : p < 24) (hrw : a_windowRank w = nI rkw) (hrp : a_windowRank p = nI rkp) (hkw : rkw ≤ r) (hkp : rkp ≤ r) (hr3 : r ≤ 3) (ha : a < r) (hdw : ∀ i, i < 3 → a_windowDimension (3 * w + i) = nI (dw i)) (hdp : ∀ i, i < 3 → a_windowDimension (3 * p + i) = nI (dp i)) (h4 : cb_a rkw r dw a ≤ 4) (h5 : cb_a rkp r dp a ≤ 4) (hf : ¬ (cb_a rkw r dw a = cb_a rkp r dp a ∨ cb_a rkw r dw a = 1 ∨ cb_a rkp r dp a = 1)) (h : post (-1)) : wX_commonShape_37 post (nI w) (nI p) (nI r) f_slotsTaken f_elementsTaken f_slopeCount a_handleTaken a_handleIsView a_windowRank a_windowSlot a_windowStart a_windowDimension a_windowStride a_slotSize a_slotKind a_slotTerms a_slotNeeded a_slotsByAge a_values a_derivatives a_firstPlaces a_secondPlaces a_assigned a_slopes (n + 1) x (nI a) := by
  refine br_f (nI_ge ha (by omega)) (xc_dfl hw hrw hkw hr3 ha hdw (xc_dfl hp hrp hkp hr3 ha hdp (br_f ?_ (br_f ?_ (br_f ?_ h)))))
  · intro z; exact hf (Or.inl ((nI_eq (by omega) (by omega)).mp z))
  · intro z; exact hf (Or.inr (Or.inl ((nI_eq (b := 1) (by omega) (by decide)).mp z)))
  · intro z; exact hf (Or.inr (Or.inr ((nI_eq (b := 1) (by omega) (by decide)).mp z)))
theorem xc_common {post : Int32 → Prop} {w p rkw rkp r : Nat} {dw dp : Nat → Nat} (hw : w < 24) (hp : p < 24) (hrw : a_windowRank w = nI rkw) (hrp : a_windowRank p = nI rkp) (hr : r = if rkw ≤ rkp then rkp else rkw) (hr3 : r ≤ 3) (hdw : ∀ i, i < 3 → a_windowDimension (3 * w + i) = nI (dw i)) (hdp : ∀ i, i < 3 → a_windowDimension (3 * p + i) = nI (dp i)) (h4 : ∀ a, a < r → cb_a rkw r dw a ≤ 4) (h5 : ∀ a, a < r → cb_a rkp r dp a ≤ 4) (ht : cb_fit r (cb_a rkw r dw) (cb_a rkp r dp) → post (nI (ab_pk r (cb_d r (cb_a rkw r dw) (cb_a rkp r dp))))) (hf : ¬ cb_fit r (cb_a rkw r dw) (cb_a rkp r dp) → post (-1)) : wpX_commonShape post (f_slotsTaken, f_elementsTaken, f_slopeCount, a_handleTaken, a_handleIsView, a_windowRank, a_windowSlot, a_windowStart, a_windowDimension, a_windowStride, a_slotSize, a_slotKind, a_slotTerms, a_slotNeeded, a_slotsByAge, a_values, a_derivatives, a_firstPlaces, a_secondPlaces, a_assigned, a_slopes) (nI w) (nI p) := by
  have hkw : rkw ≤ r := by rw [hr]; split <;> omega
  have hkp : rkp ≤ r := by rw [hr]; split <;> omega
  have cw : (nI w).toNatClampNeg = w := nI_clamp (by omega)
  have cp : (nI p).toNatClampNeg = p := nI_clamp (by omega)
  have K : ∃ n, wX_commonShape_37 post (nI w) (nI p) (nI r) f_slotsTaken f_elementsTaken f_slopeCount a_handleTaken a_handleIsView a_windowRank a_windowSlot a_windowStart a_windowDimension a_windowStride a_slotSize a_slotKind a_slotTerms a_slotNeeded a_slotsByAge a_values a_derivatives a_firstPlaces a_secondPlaces a_assigned a_slopes n (nI r) 0 := by
    refine ⟨r + 1, ?_⟩
    have X : ∀ (n q a : Nat), a = r → (∀ i, i < a → cb_a rkw r dw i = cb_a rkp r dp i ∨ cb_a rkw r dw i = 1 ∨ cb_a rkp r dp i = 1) → q = ab_pk r (cb_d r (cb_a rkw r dw) (cb_a rkp r dp)) → wX_commonShape_37 post (nI w) (nI p) (nI r) f_slotsTaken f_elementsTaken f_slopeCount a_handleTaken a_handleIsView a_windowRank a_windowSlot a_windowStart a_windowDimension a_windowStride a_slotSize a_slotKind a_slotTerms a_slotNeeded a_slotsByAge a_values a_derivatives a_firstPlaces a_secondPlaces a_assigned a_slopes (n + 1) (nI q) (nI a) := by
      intro n q a e1 e2 e3
      rw [e1] at e2
      exact br_t (nI_le (by omega) (by omega)) (by rw [e3]; exact ht e2)
    have S : ∀ (n q a : Nat), a < r → ((cb_a rkw r dw a = cb_a rkp r dp a ∨ cb_a rkw r dw a = 1 ∨ cb_a rkp r dp a = 1) → wX_commonShape_37 post (nI w) (nI p) (nI r) f_slotsTaken f_elementsTaken f_slopeCount a_handleTaken a_handleIsView a_windowRank a_windowSlot a_windowStart a_windowDimension a_windowStride a_slotSize a_slotKind a_slotTerms a_slotNeeded a_slotsByAge a_values a_derivatives a_firstPlaces a_secondPlaces a_assigned a_slopes n (nI (q + cb_d r (cb_a rkw r dw) (cb_a rkp r dp) a * 2 ^ (3 + 3 * a))) (nI (a + 1))) → wX_commonShape_37 post (nI w) (nI p) (nI r) f_slotsTaken f_elementsTaken f_slopeCount a_handleTaken a_handleIsView a_windowRank a_windowSlot a_windowStart a_windowDimension a_windowStride a_slotSize a_slotKind a_slotTerms a_slotNeeded a_slotsByAge a_values a_derivatives a_firstPlaces a_secondPlaces a_assigned a_slopes (n + 1) (nI q) (nI a) := by
      intro n q a ha hn
      by_cases z : (cb_a rkw r dw a = cb_a rkp r dp a ∨ cb_a rkw r dw a = 1 ∨ cb_a rkp r dp a = 1)
      · exact xc_cs_s hw hp hrw hrp hkw hkp hr3 ha hdw hdp (h4 a ha) (h5 a ha) z (hn z)
      · exact xc_cs_f hw hp hrw hrp hkw hkp hr3 ha hdw hdp (h4 a ha) (h5 a ha) z (hf (fun q => z (q a ha)))
    generalize hD : cb_d r (cb_a rkw r dw) (cb_a rkp r dp) = dd at *
    rcases (show r = 0 ∨ r = 1 ∨ r = 2 ∨ r = 3 by omega) with z | z | z | z
    · rw [z] at X S ⊢
      exact X 0 0 0 rfl (fun i hi => absurd hi (by omega)) (by unfold ab_pk; simp)
    · rw [z] at X S ⊢
      refine S 1 1 0 (by omega) (fun k0 => X _ _ _ rfl ?_ (by unfold ab_pk; simp; omega))
      intro i hi
      rw [show i = 0 by omega]; exact k0
    · rw [z] at X S ⊢
      refine S 2 2 0 (by omega) (fun k0 => S _ _ 1 (by omega) (fun k1 => X _ _ _ rfl ?_ (by unfold ab_pk; simp; omega)))
      intro i hi
      rcases (show i = 0 ∨ i = 1 by omega) with y | y <;> rw [y]
      · exact k0
      · exact k1
    · rw [z] at X S ⊢
      refine S 3 3 0 (by omega) (fun k0 => S _ _ 1 (by omega) (fun k1 => S _ _ 2 (by omega) (fun k2 => X _ _ _ rfl ?_ (by unfold ab_pk; simp; omega))))
      intro i hi
      rcases (show i = 0 ∨ i = 1 ∨ i = 2 by omega) with y | y | y <;> rw [y]
      · exact k0
      · exact k1
      · exact k2
  refine ⟨vp_in_nI (by omega) (by decide), vp_in_nI (by omega) (by decide), ?_⟩
  rw [cw, cp, hrw, hrp]
  by_cases z : rkw ≤ rkp
  · rw [if_pos z] at hr
    subst hr
    exact br_t (nI_le z (by omega)) ⟨vp_in_nI (by omega) (by decide), nm_e K⟩
  · rw [if_neg z] at hr
    subst hr
    exact br_f (nI_ge (by omega) (by omega)) ⟨vp_in_nI (by omega) (by decide), nm_e K⟩
theorem xc_sp_s {post : SX → Prop} {w t v rk r a n : Nat} {d dd : Nat → Nat} (hw : w < 24) (ht : t < 88) (hv : v < 24) (hk : rk ≤ r) (hr3 : r ≤ 3) (ha : a < r) (hdw : ∀ i, i < 3 → a_windowDimension (3 * w + i) = nI (d i)) (hdv : a_windowDimension (3 * v + a) = nI (dd a)) (h4 : ∀ i, i < 3 → d i ≤ 4) (h5 : dd a ≤ 4) (h : wX_spreadWindow_30 post (nI w) (nI t) (nI v) (nI r) (nI (r - rk)) n (nI (a + 1)) f_slotsTaken f_elementsTaken f_slopeCount a_handleTaken a_handleIsView a_windowRank a_windowSlot a_windowStart (upd a_windowDimension (3 * t + a) (nI (dd a))) (upd a_windowStride (3 * t + a) (cb_s a_windowStride (3 * w) rk r d dd a)) a_slotSize a_slotKind a_slotTerms a_slotNeeded a_slotsByAge a_values a_derivatives a_firstPlaces a_secondPlaces a_assigned a_slopes) : wX_spreadWindow_30 post (nI w) (nI t) (nI v) (nI r) (nI (r - rk)) (n + 1) (nI a) f_slotsTaken f_elementsTaken f_slopeCount a_handleTaken a_handleIsView a_windowRank a_windowSlot a_windowStart a_windowDimension a_windowStride a_slotSize a_slotKind a_slotTerms a_slotNeeded a_slotsByAge a_values a_derivatives a_firstPlaces a_secondPlaces a_assigned a_slopes := by
  unfold cb_s at h
  refine br_f (nI_ge ha (by omega)) ⟨ab_vin ab_ix (by omega) (by decide), nm_r (e' := nI (dd a)) (by rw [ab_ix, nI_clamp (by omega), hdv]) (nm_e ?_)⟩
  by_cases z : a < r - rk
  · rw [if_neg (by omega)] at h
    exact br_t (nI_lt z (by omega)) (br_t rfl (xw_setAxis ht (by omega) (nm_r (nI_1 a) h)))
  · have e8 : nI w * 3 + nI a - nI (r - rk) = nI (3 * w + (a + rk - r)) := by
      rw [ab_ix, pk_sub (by omega)]; congr 1; omega
    have b4 := h4 (a + rk - r) (by omega)
    rw [e8, nI_clamp (by omega), hdw _ (by omega)]
    refine br_f (nI_nlt (by omega) (by omega)) ⟨vp_in_nI (by omega) (by decide), ?_⟩
    by_cases y : d (a + rk - r) = dd a
    · rw [if_pos ⟨ha, by omega, y⟩] at h
      refine br_t (by rw [y]) (br_f ab_10 ⟨vp_in_nI (by omega) (by decide), ?_⟩)
      rw [nI_clamp (by omega)]
      exact xw_setAxis ht (by omega) (nm_r (nI_1 a) h)
    · rw [if_neg (fun q => y q.2.2)] at h
      exact br_f (fun q => y ((nI_eq (by omega) (by omega)).mp q)) (br_t rfl (xw_setAxis ht (by omega) (nm_r (nI_1 a) h)))
end
