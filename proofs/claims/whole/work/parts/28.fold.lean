def fo_s (rk a i : Nat) : Nat := if i < a then i else if i + 1 < rk then i + 1 else if i + 1 = rk then a else i
def fo_i (rk a b : Nat) : Nat := if b < a then b else if b = a then rk - 1 else if b < rk then b - 1 else b
def fo_d (dw : Nat → Nat) (rk a i : Nat) : Nat := if i + 1 < rk then dw (if i < a then i else i + 1) else 1
def fo_c0 (a x p : Nat) : Nat := if a = 0 then p else x
def fo_c1 (a x y p : Nat) : Nat := if a = 1 then p else if a = 0 then x else y
def fo_c2 (a y p : Nat) : Nat := if a = 2 then p else y
theorem fo_cases {rk a : Nat} (hk : rk ≤ 3) (ha : a < rk) : (rk = 1 ∧ a = 0) ∨ (rk = 2 ∧ a = 0) ∨ (rk = 2 ∧ a = 1) ∨ (rk = 3 ∧ a = 0) ∨ (rk = 3 ∧ a = 1) ∨ (rk = 3 ∧ a = 2) := by omega
theorem fo_sl {rk a i : Nat} (hk : rk ≤ 3) (ha : a < rk) (hi : i < 3) : fo_s rk a i < 3 := by
  unfold fo_s; split
  · omega
  · split
    · omega
    · split <;> omega
theorem fo_d3 {rk a : Nat} {dw : Nat → Nat} (h : ab_sh3 rk dw) (ha : a < rk) : ab_sh3 (rk - 1) (fo_d dw rk a) := by
  have := h.1
  refine ⟨by omega, fun i h1 h2 => ?_, fun i hi => ?_⟩
  · unfold fo_d; rw [if_neg (by omega)]
  · unfold fo_d; split
    · refine h.2.2 _ ?_; split <;> omega
    · omega
theorem fo_n {rk a : Nat} {dw : Nat → Nat} (h : ab_sh3 rk dw) (ha : a < rk) : dw (fo_s rk a 0) * dw (fo_s rk a 1) * dw (fo_s rk a 2) = fo_d dw rk a 0 * fo_d dw rk a 1 * fo_d dw rk a 2 * dw a := by
  have o1 := h.2.1 1
  have o2 := h.2.1 2
  rcases fo_cases h.1 ha with ⟨rfl, rfl⟩ | ⟨rfl, rfl⟩ | ⟨rfl, rfl⟩ | ⟨rfl, rfl⟩ | ⟨rfl, rfl⟩ | ⟨rfl, rfl⟩ <;> simp [fo_s, fo_d] at *
  · rw [o1, o2]; omega
  · rw [o2, Nat.mul_one]
  · rw [o2, Nat.mul_one]
theorem fo_rng {rk a x y z : Nat} {dw : Nat → Nat} (h : ab_sh3 rk dw) (ha : a < rk) : x < dw (fo_s rk a 0) → y < dw (fo_s rk a 1) → z < dw (fo_s rk a 2) → ab_crd x y z (fo_i rk a 0) < dw 0 ∧ ab_crd x y z (fo_i rk a 1) < dw 1 ∧ ab_crd x y z (fo_i rk a 2) < dw 2 := by
  rcases fo_cases h.1 ha with ⟨rfl, rfl⟩ | ⟨rfl, rfl⟩ | ⟨rfl, rfl⟩ | ⟨rfl, rfl⟩ | ⟨rfl, rfl⟩ | ⟨rfl, rfl⟩ <;> simp [fo_s, fo_i, ab_crd] <;> intro hx hy hz <;> exact ⟨by assumption, by assumption, by assumption⟩
theorem fo_eq {rk a x y z k : Nat} {st : Int32} {E : Nat → Int32} (hk : rk ≤ 3) (ha : a < rk) : st + nI x * E (k + fo_s rk a 0) + nI y * E (k + fo_s rk a 1) + nI z * E (k + fo_s rk a 2) = st + nI (ab_crd x y z (fo_i rk a 0)) * E k + nI (ab_crd x y z (fo_i rk a 1)) * E (k + 1) + nI (ab_crd x y z (fo_i rk a 2)) * E (k + 2) := by
  rcases fo_cases hk ha with ⟨rfl, rfl⟩ | ⟨rfl, rfl⟩ | ⟨rfl, rfl⟩ | ⟨rfl, rfl⟩ | ⟨rfl, rfl⟩ | ⟨rfl, rfl⟩ <;> simp [fo_s, fo_i, ab_crd] <;> grind
theorem fo_crng {rk a x y p : Nat} {dw : Nat → Nat} (h : ab_sh3 rk dw) (ha : a < rk) : x < fo_d dw rk a 0 → y < fo_d dw rk a 1 → p < dw a → fo_c0 a x p < dw 0 ∧ fo_c1 a x y p < dw 1 ∧ fo_c2 a y p < dw 2 := by
  have b1 := (h.2.2 1 (by omega)).1
  have b2 := (h.2.2 2 (by omega)).1
  have o1 := h.2.1 1
  have o2 := h.2.1 2
  rcases fo_cases h.1 ha with ⟨rfl, rfl⟩ | ⟨rfl, rfl⟩ | ⟨rfl, rfl⟩ | ⟨rfl, rfl⟩ | ⟨rfl, rfl⟩ | ⟨rfl, rfl⟩ <;> simp [fo_d, fo_c0, fo_c1, fo_c2] at * <;> omega
theorem fo_lin {rk a i t : Nat} {dw : Nat → Nat} {g : Nat → Nat → Nat → Nat} (h : ab_sh3 rk dw) (ha : a < rk) (hi : i < fo_d dw rk a 0 * fo_d dw rk a 1 * fo_d dw rk a 2) (ht : t < dw a) : ab_pf (dw (fo_s rk a 0)) (dw (fo_s rk a 1)) (dw (fo_s rk a 2)) (fun x y z => g (ab_crd x y z (fo_i rk a 0)) (ab_crd x y z (fo_i rk a 1)) (ab_crd x y z (fo_i rk a 2))) (i * dw a + t) = g (fo_c0 a (i / (fo_d dw rk a 1 * fo_d dw rk a 2) % fo_d dw rk a 0) t) (fo_c1 a (i / (fo_d dw rk a 1 * fo_d dw rk a 2) % fo_d dw rk a 0) (i / fo_d dw rk a 2 % fo_d dw rk a 1) t) (fo_c2 a (i / fo_d dw rk a 2 % fo_d dw rk a 1) t) := by
  have F := fo_d3 h ha
  obtain ⟨i1, i2, i3⟩ := ab_pfi (e := i) (F.2.2 0 (by omega)).1 (F.2.2 1 (by omega)).1 (F.2.2 2 (by omega)).1
  have bk := ab_back (F.2.2 0 (by omega)).1 (F.2.2 1 (by omega)).1 (F.2.2 2 (by omega)).1 hi
  generalize hx : i / (fo_d dw rk a 1 * fo_d dw rk a 2) % fo_d dw rk a 0 = x at *
  generalize hy : i / fo_d dw rk a 2 % fo_d dw rk a 1 = y at *
  generalize hz : i % fo_d dw rk a 2 = z at *
  have b0 := (h.2.2 0 (by omega)).1
  have b1 := (h.2.2 1 (by omega)).1
  have b2 := (h.2.2 2 (by omega)).1
  have o1 := h.2.1 1
  have o2 := h.2.1 2
  have P : ∀ (X Y Z : Nat) (g' : Nat → Nat → Nat → Nat), X < dw (fo_s rk a 0) → Y < dw (fo_s rk a 1) → Z < dw (fo_s rk a 2) → i * dw a + t = (X * dw (fo_s rk a 1) + Y) * dw (fo_s rk a 2) + Z → ab_pf (dw (fo_s rk a 0)) (dw (fo_s rk a 1)) (dw (fo_s rk a 2)) g' (i * dw a + t) = g' X Y Z := by
    intro X Y Z g' h1 h2 h3 h4
    rw [h4]; exact ab_pfl h1 h2 h3
  rcases fo_cases h.1 ha with ⟨rfl, rfl⟩ | ⟨rfl, rfl⟩ | ⟨rfl, rfl⟩ | ⟨rfl, rfl⟩ | ⟨rfl, rfl⟩ | ⟨rfl, rfl⟩ <;> simp [fo_d] at i1 i2 i3 bk
  · have e1 := o1 (by omega) (by omega)
    have e2 := o2 (by omega) (by omega)
    rw [P t 0 0 _ ht (by simp [fo_s]; omega) (by simp [fo_s]; omega) (by simp [fo_s]; rw [e1, e2, show i = 0 by omega]; omega)]
    simp [fo_i, ab_crd, fo_c0, fo_c1, fo_c2, i1, i2]
  · have e2 := o2 (by omega) (by omega)
    rw [P x t 0 _ (by simp [fo_s]; exact i1) ht (by simp [fo_s]; omega) (by simp [fo_s]; rw [e2, show i = x by omega]; omega)]
    simp [fo_i, ab_crd, fo_c0, fo_c1, fo_c2, i2]
  · have e2 := o2 (by omega) (by omega)
    rw [P x t 0 _ (by simp [fo_s]; exact i1) ht (by simp [fo_s]; omega) (by simp [fo_s]; rw [e2, show i = x by omega]; omega)]
    simp [fo_i, ab_crd, fo_c0, fo_c1, fo_c2, i2]
  · rw [P x y t _ (by simp [fo_s]; exact i1) (by simp [fo_s]; exact i2) ht (by simp [fo_s]; rw [show i = x * dw 2 + y by omega])]
    simp [fo_i, ab_crd, fo_c0, fo_c1, fo_c2]
  · rw [P x y t _ (by simp [fo_s]; exact i1) (by simp [fo_s]; exact i2) ht (by simp [fo_s]; rw [show i = x * dw 2 + y by omega])]
    simp [fo_i, ab_crd, fo_c0, fo_c1, fo_c2]
  · rw [P x y t _ (by simp [fo_s]; exact i1) (by simp [fo_s]; exact i2) ht (by simp [fo_s]; rw [show i = x * dw 1 + y by omega])]
    simp [fo_i, ab_crd, fo_c0, fo_c1, fo_c2]
section
variable {f_slotsTaken f_elementsTaken f_slopeCount : Int32} {a_handleTaken a_handleIsView a_windowRank a_windowSlot a_windowStart a_windowDimension a_windowStride a_slotSize a_slotKind a_slotTerms a_slotNeeded a_slotsByAge a_values a_derivatives a_firstPlaces a_secondPlaces a_assigned a_slopes : Nat → Int32}
theorem xf_s {post : Int32 → SX → Prop} {w a rk kp q n dv : Nat} (hw : w < 24) (ha : a < rk) (hk : rk ≤ 3) (hkp : kp + 1 < rk) (hd : a_windowDimension (3 * w + (if kp < a then kp else kp + 1)) = nI dv) (hd8 : dv < 8) (h : wX_fold_26 post (nI w) (nI a) (nI rk) f_slotsTaken f_elementsTaken f_slopeCount a_handleTaken a_handleIsView a_windowRank a_windowSlot a_windowStart a_windowDimension a_windowStride a_slotSize a_slotKind a_slotTerms a_slotNeeded a_slotsByAge a_values a_derivatives a_firstPlaces a_secondPlaces a_assigned a_slopes n (nI (q + dv * 2 ^ (3 + 3 * kp))) (nI (kp + 1))) : wX_fold_26 post (nI w) (nI a) (nI rk) f_slotsTaken f_elementsTaken f_slopeCount a_handleTaken a_handleIsView a_windowRank a_windowSlot a_windowStart a_windowDimension a_windowStride a_slotSize a_slotKind a_slotTerms a_slotNeeded a_slotsByAge a_values a_derivatives a_firstPlaces a_secondPlaces a_assigned a_slopes (n + 1) (nI q) (nI kp) := by
  have e1 : nI rk - 1 = nI (rk - 1) := pk_sub (b := 1) (by omega)
  refine br_f (by rw [e1]; exact nI_ge (by omega) (by omega)) ?_
  by_cases z : a ≤ kp
  · rw [if_neg (by omega)] at hd
    refine br_t (nI_le z (by omega)) ⟨ab_vin (by rw [nI_1]; exact ab_ix) (by omega) (by decide), ?_⟩
    rw [nI_1, ab_ix, nI_clamp (by omega), hd]
    exact xw_packedDim (by omega) hd8 (nm_r (nI_add _ _) (nm_r rfl h))
  · rw [if_pos (by omega)] at hd
    refine br_f (nI_ge (by omega) (by omega)) ⟨ab_vin ab_ix (by omega) (by decide), ?_⟩
    rw [ab_ix, nI_clamp (by omega), hd]
    exact xw_packedDim (by omega) hd8 (nm_r (nI_add _ _) (nm_r (nI_1 kp) h))
theorem xf_pack {post : Int32 → SX → Prop} {w a rk : Nat} {dw : Nat → Nat} (hw : w < 24) (H : ab_sh3 rk dw) (ha : a < rk) (hd : ∀ i, i < 3 → a_windowDimension (3 * w + i) = nI (dw i)) (h : ∀ n : Nat, wX_fold_26 post (nI w) (nI a) (nI rk) f_slotsTaken f_elementsTaken f_slopeCount a_handleTaken a_handleIsView a_windowRank a_windowSlot a_windowStart a_windowDimension a_windowStride a_slotSize a_slotKind a_slotTerms a_slotNeeded a_slotsByAge a_values a_derivatives a_firstPlaces a_secondPlaces a_assigned a_slopes (n + 1) (nI (ab_pk (rk - 1) (fo_d dw rk a))) (nI (rk - 1))) : ∃ n, wX_fold_26 post (nI w) (nI a) (nI rk) f_slotsTaken f_elementsTaken f_slopeCount a_handleTaken a_handleIsView a_windowRank a_windowSlot a_windowStart a_windowDimension a_windowStride a_slotSize a_slotKind a_slotTerms a_slotNeeded a_slotsByAge a_values a_derivatives a_firstPlaces a_secondPlaces a_assigned a_slopes n (nI (rk - 1)) 0 := by
  have hk := H.1
  have S : ∀ (n kp q : Nat), kp + 1 < rk → wX_fold_26 post (nI w) (nI a) (nI rk) f_slotsTaken f_elementsTaken f_slopeCount a_handleTaken a_handleIsView a_windowRank a_windowSlot a_windowStart a_windowDimension a_windowStride a_slotSize a_slotKind a_slotTerms a_slotNeeded a_slotsByAge a_values a_derivatives a_firstPlaces a_secondPlaces a_assigned a_slopes n (nI (q + dw (if kp < a then kp else kp + 1) * 2 ^ (3 + 3 * kp))) (nI (kp + 1)) → wX_fold_26 post (nI w) (nI a) (nI rk) f_slotsTaken f_elementsTaken f_slopeCount a_handleTaken a_handleIsView a_windowRank a_windowSlot a_windowStart a_windowDimension a_windowStride a_slotSize a_slotKind a_slotTerms a_slotNeeded a_slotsByAge a_values a_derivatives a_firstPlaces a_secondPlaces a_assigned a_slopes (n + 1) (nI q) (nI kp) := by
    intro n kp q h1 h2
    have l3 : (if kp < a then kp else kp + 1) < 3 := by split <;> omega
    exact xf_s hw ha hk h1 (hd _ l3) (by have := H.2.2 _ l3; omega) h2
  rcases (show rk = 1 ∨ rk = 2 ∨ rk = 3 by omega) with z | z | z
  · refine ⟨1, ?_⟩
    have := h 0
    rw [show ab_pk (rk - 1) (fo_d dw rk a) = rk - 1 from by rw [z]; simp [ab_pk], show nI (rk - 1) = 0 from by rw [z]; rfl] at this
    rw [show nI (rk - 1) = 0 from by rw [z]; rfl]
    exact this
  · refine ⟨2, S 1 0 (rk - 1) (by omega) ?_⟩
    have := h 0
    rw [show ab_pk (rk - 1) (fo_d dw rk a) = rk - 1 + dw (if 0 < a then 0 else 0 + 1) * 2 ^ (3 + 3 * 0) from by rw [z]; simp [ab_pk, fo_d]; omega, show rk - 1 = 1 by omega] at this
    rw [show rk - 1 = 1 by omega]
    exact this
  · refine ⟨3, S 2 0 (rk - 1) (by omega) (S 1 1 _ (by omega) ?_)⟩
    have := h 0
    rw [show ab_pk (rk - 1) (fo_d dw rk a) = rk - 1 + dw (if 0 < a then 0 else 0 + 1) * 2 ^ (3 + 3 * 0) + dw (if 1 < a then 1 else 1 + 1) * 2 ^ (3 + 3 * 1) from by rw [z]; simp [ab_pk, fo_d]; omega, show rk - 1 = 2 by omega] at this
    rw [show rk - 1 = 2 by omega]
    exact this
theorem xf_ms {post : SX → Prop} {w a t l ls n : Nat} (hw : w < 24) (ht : t < 88) (hl : l < ls) (hls : ls < 3) (h : wX_moveAxisLast_19 post (nI w) (nI a) (nI t) (nI ls) n (nI (l + 1)) f_slotsTaken f_elementsTaken f_slopeCount a_handleTaken a_handleIsView a_windowRank a_windowSlot a_windowStart (upd a_windowDimension (3 * t + l) (a_windowDimension (3 * w + (l + 1)))) (upd a_windowStride (3 * t + l) (a_windowStride (3 * w + (l + 1)))) a_slotSize a_slotKind a_slotTerms a_slotNeeded a_slotsByAge a_values a_derivatives a_firstPlaces a_secondPlaces a_assigned a_slopes) : wX_moveAxisLast_19 post (nI w) (nI a) (nI t) (nI ls) (n + 1) (nI l) f_slotsTaken f_elementsTaken f_slopeCount a_handleTaken a_handleIsView a_windowRank a_windowSlot a_windowStart a_windowDimension a_windowStride a_slotSize a_slotKind a_slotTerms a_slotNeeded a_slotsByAge a_values a_derivatives a_firstPlaces a_secondPlaces a_assigned a_slopes := by
  refine br_f (nI_ge hl (by omega)) ?_
  rw [nI_1]
  exact xw_copyAxis (by omega) (by omega) ht (by omega) (nm_e h)
theorem xf_mx {post : SX → Prop} {w a t ls n : Nat} (hw : w < 24) (ht : t < 88) (ha : a < 3) (hls : ls < 3) (h : post (f_slotsTaken, f_elementsTaken, f_slopeCount, a_handleTaken, a_handleIsView, a_windowRank, a_windowSlot, a_windowStart, upd a_windowDimension (3 * t + ls) (a_windowDimension (3 * w + a)), upd a_windowStride (3 * t + ls) (a_windowStride (3 * w + a)), a_slotSize, a_slotKind, a_slotTerms, a_slotNeeded, a_slotsByAge, a_values, a_derivatives, a_firstPlaces, a_secondPlaces, a_assigned, a_slopes)) : wX_moveAxisLast_19 post (nI w) (nI a) (nI t) (nI ls) (n + 1) (nI ls) f_slotsTaken f_elementsTaken f_slopeCount a_handleTaken a_handleIsView a_windowRank a_windowSlot a_windowStart a_windowDimension a_windowStride a_slotSize a_slotKind a_slotTerms a_slotNeeded a_slotsByAge a_values a_derivatives a_firstPlaces a_secondPlaces a_assigned a_slopes :=
  br_t (nI_le (by omega) (by omega)) (xw_copyAxis (by omega) ha ht hls h)
theorem xf_move {post : SX → Prop} {w a t rk : Nat} (hw : w < 24) (ht : t < 88) (ht2 : 24 ≤ t) (hk : rk ≤ 3) (ha : a < rk) (hr : a_windowRank w = nI rk) (h : post (f_slotsTaken, f_elementsTaken, f_slopeCount, a_handleTaken, a_handleIsView, upd a_windowRank t (a_windowRank w), upd a_windowSlot t (a_windowSlot w), upd a_windowStart t (a_windowStart w), ab_up3 a_windowDimension (3 * t) (a_windowDimension (3 * w + fo_s rk a 0)) (a_windowDimension (3 * w + fo_s rk a 1)) (a_windowDimension (3 * w + fo_s rk a 2)), ab_up3 a_windowStride (3 * t) (a_windowStride (3 * w + fo_s rk a 0)) (a_windowStride (3 * w + fo_s rk a 1)) (a_windowStride (3 * w + fo_s rk a 2)), a_slotSize, a_slotKind, a_slotTerms, a_slotNeeded, a_slotsByAge, a_values, a_derivatives, a_firstPlaces, a_secondPlaces, a_assigned, a_slopes)) : wpX_moveAxisLast post (f_slotsTaken, f_elementsTaken, f_slopeCount, a_handleTaken, a_handleIsView, a_windowRank, a_windowSlot, a_windowStart, a_windowDimension, a_windowStride, a_slotSize, a_slotKind, a_slotTerms, a_slotNeeded, a_slotsByAge, a_values, a_derivatives, a_firstPlaces, a_secondPlaces, a_assigned, a_slopes) (nI w) (nI a) (nI t) := by
  have e1 : nI rk - 1 = nI (rk - 1) := pk_sub (b := 1) (by omega)
  have Ew : ∀ (f : Nat → Int32) (A B C : Int32) (i : Nat), i < 3 → ab_up3 f (3 * t) A B C (3 * w + i) = f (3 * w + i) := fun f A B C i hi => ab_en (by omega)
  unfold wpX_moveAxisLast
  refine xw_copyWindow (by omega) ht (by omega) ⟨vp_in_nI (by omega) (by decide), nm_r (e' := nI (rk - 1)) (by rw [nI_clamp (by omega), pk_un (by omega), hr, e1]) ⟨rk - 1 - a + 1, ?_⟩⟩
  rcases fo_cases hk ha with ⟨rfl, rfl⟩ | ⟨rfl, rfl⟩ | ⟨rfl, rfl⟩ | ⟨rfl, rfl⟩ | ⟨rfl, rfl⟩ | ⟨rfl, rfl⟩
  · refine xf_mx hw ht (by omega) (by omega) ?_
    rw [show (1 - 1) = 0 from rfl, ab_u30z, ab_u30z, Ew _ _ _ _ 0 (by omega), Ew _ _ _ _ 0 (by omega)]
    exact h
  · refine xf_ms hw ht (by omega) (by omega) (xf_mx hw ht (by omega) (by omega) ?_)
    rw [show (2 - 1) = 1 from rfl, ab_u30z, ab_u30z, ab_u31, ab_u31, Ew _ _ _ _ 0 (by omega), Ew _ _ _ _ 0 (by omega), Ew _ _ _ _ (0 + 1) (by omega), Ew _ _ _ _ (0 + 1) (by omega)]
    exact h
  · refine xf_mx hw ht (by omega) (by omega) ?_
    rw [show (2 - 1) = 1 from rfl, ab_u31, ab_u31, Ew _ _ _ _ 1 (by omega), Ew _ _ _ _ 1 (by omega)]
    exact h
  · refine xf_ms hw ht (by omega) (by omega) (xf_ms hw ht (by omega) (by omega) (xf_mx hw ht (by omega) (by omega) ?_))
    rw [show (3 - 1) = 2 from rfl, show (0 + 1) = 1 from rfl, ab_u30z, ab_u30z, ab_u31, ab_u31, ab_u32, ab_u32, Ew _ _ _ _ 0 (by omega), Ew _ _ _ _ 0 (by omega), Ew _ _ _ _ 1 (by omega), Ew _ _ _ _ 1 (by omega), Ew _ _ _ _ (1 + 1) (by omega), Ew _ _ _ _ (1 + 1) (by omega)]
    exact h
  · refine xf_ms hw ht (by omega) (by omega) (xf_mx hw ht (by omega) (by omega) ?_)
    rw [show (3 - 1) = 2 from rfl, ab_u31, ab_u31, ab_u32, ab_u32, Ew _ _ _ _ 1 (by omega), Ew _ _ _ _ 1 (by omega), Ew _ _ _ _ (1 + 1) (by omega), Ew _ _ _ _ (1 + 1) (by omega)]
    exact h
  · refine xf_mx hw ht (by omega) (by omega) ?_
    rw [show (3 - 1) = 2 from rfl, ab_u32, ab_u32, Ew _ _ _ _ 2 (by omega), Ew _ _ _ _ 2 (by omega)]
    exact h
end
