theorem ab_u3r0 {f : Nat → Int32} {k : Nat} {a b c : Int32} : upd (upd (upd f (k + 2) c) (k + 1) b) (k + 0) a = ab_up3 f k a b c := ab_u3r
def ab_pk (rk : Nat) (d : Nat → Nat) : Nat := rk + (if 0 < rk then 8 * d 0 else 0) + (if 1 < rk then 64 * d 1 else 0) + (if 2 < rk then 512 * d 2 else 0)
def ab_sh3 (rk : Nat) (d : Nat → Nat) : Prop := rk ≤ 3 ∧ (∀ a, rk ≤ a → a < 3 → d a = 1) ∧ (∀ a, a < 3 → 1 ≤ d a ∧ d a ≤ 4)
theorem ab_pkf {rk : Nat} {d : Nat → Nat} (H : ab_sh3 rk d) : ab_pk rk d < 4096 ∧ ab_pk rk d % 8 = rk ∧ (0 < rk → ab_pk rk d / 8 % 8 = d 0) ∧ (1 < rk → ab_pk rk d / 64 % 8 = d 1) ∧ (2 < rk → ab_pk rk d / 512 % 8 = d 2) := by
  obtain ⟨h1, h2, h3⟩ := H
  have a0 := h3 0 (by omega)
  have a1 := h3 1 (by omega)
  have a2 := h3 2 (by omega)
  unfold ab_pk
  rcases (show rk = 0 ∨ rk = 1 ∨ rk = 2 ∨ rk = 3 by omega) with rfl | rfl | rfl | rfl <;> simp <;> omega
def ab_st (rk : Nat) (d : Nat → Nat) (a : Nat) : Nat := if a < rk then (if a = 0 then d 1 * d 2 else if a = 1 then d 2 else 1) else 0
section
variable {f_slotsTaken f_elementsTaken f_slopeCount : Int32} {a_handleTaken a_handleIsView a_windowRank a_windowSlot a_windowStart a_windowDimension a_windowStride a_slotSize a_slotKind a_slotTerms a_slotNeeded a_slotsByAge a_values a_derivatives a_firstPlaces a_secondPlaces a_assigned a_slopes : Nat → Int32}
theorem xw_shapeSize_s {post : Int32 → Prop} {n a rk q p dv : Nat} (hk : rk ≤ 3) (ha : a < rk) (hq : q < 4096) (hd : q / 2 ^ (3 + 3 * a) % 8 = dv) (hn : wX_shapeSize_10 post (nI q) (nI rk) f_slotsTaken f_elementsTaken f_slopeCount a_handleTaken a_handleIsView a_windowRank a_windowSlot a_windowStart a_windowDimension a_windowStride a_slotSize a_slotKind a_slotTerms a_slotNeeded a_slotsByAge a_values a_derivatives a_firstPlaces a_secondPlaces a_assigned a_slopes n (nI (p * dv)) (nI (a + 1))) : wX_shapeSize_10 post (nI q) (nI rk) f_slotsTaken f_elementsTaken f_slopeCount a_handleTaken a_handleIsView a_windowRank a_windowSlot a_windowStart a_windowDimension a_windowStride a_slotSize a_slotKind a_slotTerms a_slotNeeded a_slotsByAge a_values a_derivatives a_firstPlaces a_secondPlaces a_assigned a_slopes (n + 1) (nI p) (nI a) := by
  refine br_f (nI_ge ha (by omega)) (xw_dimIn (by omega) hq (nm_r (e' := nI (p * dv)) ?_ (nm_r (nI_1 a) hn)))
  rw [hd, pk_mul]
theorem xw_shapeSize_x {post : Int32 → Prop} {n a rk q p : Nat} (hk : rk ≤ 3) (ha : a = rk) (hp : post (nI p)) : wX_shapeSize_10 post (nI q) (nI rk) f_slotsTaken f_elementsTaken f_slopeCount a_handleTaken a_handleIsView a_windowRank a_windowSlot a_windowStart a_windowDimension a_windowStride a_slotSize a_slotKind a_slotTerms a_slotNeeded a_slotsByAge a_values a_derivatives a_firstPlaces a_secondPlaces a_assigned a_slopes (n + 1) (nI p) (nI a) :=
  br_t (nI_le (by omega) (by omega)) hp
theorem xw_shapeSize {post : Int32 → Prop} {rk : Nat} {d : Nat → Nat} (H : ab_sh3 rk d) (hp : post (nI (d 0 * d 1 * d 2))) : wpX_shapeSize post (f_slotsTaken, f_elementsTaken, f_slopeCount, a_handleTaken, a_handleIsView, a_windowRank, a_windowSlot, a_windowStart, a_windowDimension, a_windowStride, a_slotSize, a_slotKind, a_slotTerms, a_slotNeeded, a_slotsByAge, a_values, a_derivatives, a_firstPlaces, a_secondPlaces, a_assigned, a_slopes) (nI (ab_pk rk d)) := by
  obtain ⟨f1, f2, f3, f4, f5⟩ := ab_pkf H
  obtain ⟨hk, h1, hb⟩ := H
  refine nm_r (e' := nI rk) ?_ ⟨rk + 1, ?_⟩
  · rw [pk_andN (by omega) 3 (by decide)]
    exact congrArg nI f2
  generalize hq : ab_pk rk d = q at *
  rcases (show rk = 0 ∨ rk = 1 ∨ rk = 2 ∨ rk = 3 by omega) with rfl | rfl | rfl | rfl
  · rw [h1 0 (by omega) (by omega), h1 1 (by omega) (by omega), h1 2 (by omega) (by omega)] at hp
    exact xw_shapeSize_x (a := 0) (p := 1) hk rfl hp
  · rw [h1 1 (by omega) (by omega), h1 2 (by omega) (by omega), Nat.mul_one, Nat.mul_one] at hp
    exact xw_shapeSize_s (a := 0) (p := 1) hk (by omega) f1 (f3 (by omega)) (xw_shapeSize_x hk rfl (by rw [Nat.one_mul]; exact hp))
  · rw [h1 2 (by omega) (by omega), Nat.mul_one] at hp
    exact xw_shapeSize_s (a := 0) (p := 1) hk (by omega) f1 (f3 (by omega)) (xw_shapeSize_s hk (by omega) f1 (f4 (by omega)) (xw_shapeSize_x hk rfl (by rw [Nat.one_mul]; exact hp)))
  · exact xw_shapeSize_s (a := 0) (p := 1) hk (by omega) f1 (f3 (by omega)) (xw_shapeSize_s hk (by omega) f1 (f4 (by omega)) (xw_shapeSize_s hk (by omega) f1 (f5 (by omega)) (xw_shapeSize_x hk rfl (by rw [Nat.one_mul]; exact hp))))
theorem xw_showSlot_s {post : SX → Prop} {n w a rk q dv : Nat} {x y : Int32} (hw : w < 88) (hk : rk ≤ 3) (ha : a < rk) (hq : q < 4096) (hd : q / 2 ^ (3 + 3 * a) % 8 = dv) (hy : nI a + (-1) = y) (hn : wX_showSlot_37 post (nI w) (nI q) (nI rk) n (x * nI dv) y f_slotsTaken f_elementsTaken f_slopeCount a_handleTaken a_handleIsView a_windowRank a_windowSlot a_windowStart (upd a_windowDimension (3 * w + a) (nI dv)) (upd a_windowStride (3 * w + a) x) a_slotSize a_slotKind a_slotTerms a_slotNeeded a_slotsByAge a_values a_derivatives a_firstPlaces a_secondPlaces a_assigned a_slopes) : wX_showSlot_37 post (nI w) (nI q) (nI rk) (n + 1) x (nI a) f_slotsTaken f_elementsTaken f_slopeCount a_handleTaken a_handleIsView a_windowRank a_windowSlot a_windowStart a_windowDimension a_windowStride a_slotSize a_slotKind a_slotTerms a_slotNeeded a_slotsByAge a_values a_derivatives a_firstPlaces a_secondPlaces a_assigned a_slopes := by
  refine br_f (nI_pos (by omega)) (br_f (nI_ge ha (by omega)) (xw_dimIn (by omega) hq ?_))
  rw [hd]
  exact xw_setAxis hw (by omega) (nm_e (nm_r hy hn))
theorem xw_showSlot_o {post : SX → Prop} {n w a rk q : Nat} {x y : Int32} (hw : w < 88) (ha : rk ≤ a) (ha3 : a < 3) (hy : nI a + (-1) = y) (hn : wX_showSlot_37 post (nI w) (nI q) (nI rk) n x y f_slotsTaken f_elementsTaken f_slopeCount a_handleTaken a_handleIsView a_windowRank a_windowSlot a_windowStart (upd a_windowDimension (3 * w + a) 1) (upd a_windowStride (3 * w + a) 0) a_slotSize a_slotKind a_slotTerms a_slotNeeded a_slotsByAge a_values a_derivatives a_firstPlaces a_secondPlaces a_assigned a_slopes) : wX_showSlot_37 post (nI w) (nI q) (nI rk) (n + 1) x (nI a) f_slotsTaken f_elementsTaken f_slopeCount a_handleTaken a_handleIsView a_windowRank a_windowSlot a_windowStart a_windowDimension a_windowStride a_slotSize a_slotKind a_slotTerms a_slotNeeded a_slotsByAge a_values a_derivatives a_firstPlaces a_secondPlaces a_assigned a_slopes :=
  br_f (nI_pos (by omega)) (br_t (nI_le ha (by omega)) (xw_setAxis hw ha3 (nm_r hy hn)))
theorem xw_showSlot {post : SX → Prop} {w s rk : Nat} {d : Nat → Nat} (hw : w < 88) (H : ab_sh3 rk d) (h : post (f_slotsTaken, f_elementsTaken, f_slopeCount, a_handleTaken, a_handleIsView, upd a_windowRank w (nI rk), upd a_windowSlot w (nI s), upd a_windowStart w (nI (64 * s)), ab_up3 a_windowDimension (3 * w) (nI (d 0)) (nI (d 1)) (nI (d 2)), ab_up3 a_windowStride (3 * w) (nI (ab_st rk d 0)) (nI (ab_st rk d 1)) (nI (ab_st rk d 2)), a_slotSize, a_slotKind, a_slotTerms, a_slotNeeded, a_slotsByAge, a_values, a_derivatives, a_firstPlaces, a_secondPlaces, a_assigned, a_slopes)) : wpX_showSlot post (f_slotsTaken, f_elementsTaken, f_slopeCount, a_handleTaken, a_handleIsView, a_windowRank, a_windowSlot, a_windowStart, a_windowDimension, a_windowStride, a_slotSize, a_slotKind, a_slotTerms, a_slotNeeded, a_slotsByAge, a_values, a_derivatives, a_firstPlaces, a_secondPlaces, a_assigned, a_slopes) (nI w) (nI s) (nI (ab_pk rk d)) := by
  obtain ⟨f1, f2, f3, f4, f5⟩ := ab_pkf H
  obtain ⟨hk, h1, hb⟩ := H
  have cw : (nI w).toNatClampNeg = w := nI_clamp (by omega)
  have hv : vp_in (nI w) 88 := vp_in_nI hw (by decide)
  refine nm_r (e' := nI rk) ?_ ⟨hv, fun R hR => ⟨hv, fun S hS => ⟨hv, fun T hT => ⟨4, ?_⟩⟩⟩⟩
  · rw [pk_andN (by omega) 3 (by decide)]
    exact congrArg nI f2
  rw [cw] at hR hS hT
  rw [show nI s * 64 = nI (64 * s) from by show nI s * nI 64 = _; rw [pk_mul, Nat.mul_comm]] at hT
  subst hR hS hT
  generalize hq : ab_pk rk d = q at *
  rcases (show rk = 0 ∨ rk = 1 ∨ rk = 2 ∨ rk = 3 by omega) with rfl | rfl | rfl | rfl
  · rw [h1 0 (by omega) (by omega), h1 1 (by omega) (by omega), h1 2 (by omega) (by omega)] at h
    refine xw_showSlot_o (a := 2) hw (by omega) (by omega) (pk_m1 1) (xw_showSlot_o (a := 1) hw (by omega) (by omega) (pk_m1 0) (xw_showSlot_o (a := 0) hw (by omega) (by omega) rfl (br_t (by decide) ?_)))
    rw [ab_u3r0, ab_u3r0]
    exact h
  · rw [h1 1 (by omega) (by omega), h1 2 (by omega) (by omega)] at h
    refine xw_showSlot_o (a := 2) hw (by omega) (by omega) (pk_m1 1) (xw_showSlot_o (a := 1) hw (by omega) (by omega) (pk_m1 0) (xw_showSlot_s (a := 0) hw (by omega) (by omega) f1 (f3 (by omega)) rfl (br_t (by decide) ?_)))
    rw [ab_u3r0, ab_u3r0]
    have e0 : ab_st 1 d 0 = 1 := by unfold ab_st; simp [h1 1 (by omega) (by omega), h1 2 (by omega) (by omega)]
    rw [e0] at h
    exact h
  · rw [h1 2 (by omega) (by omega)] at h
    refine xw_showSlot_o (a := 2) hw (by omega) (by omega) (pk_m1 1) (xw_showSlot_s (a := 1) hw (by omega) (by omega) f1 (f4 (by omega)) (pk_m1 0) (xw_showSlot_s (a := 0) hw (by omega) (by omega) f1 (f3 (by omega)) rfl (br_t (by decide) ?_)))
    rw [ab_u3r0, ab_u3r0]
    have e0 : ab_st 2 d 0 = d 1 := by unfold ab_st; simp [h1 2 (by omega) (by omega)]
    have e1 : ab_st 2 d 1 = 1 := by unfold ab_st; simp [h1 2 (by omega) (by omega)]
    rw [e0, e1] at h
    rw [show (1 : Int32) * nI (d 1) = nI (d 1) from Int32.one_mul _]
    exact h
  · refine xw_showSlot_s (a := 2) hw (by omega) (by omega) f1 (f5 (by omega)) (pk_m1 1) (xw_showSlot_s (a := 1) hw (by omega) (by omega) f1 (f4 (by omega)) (pk_m1 0) (xw_showSlot_s (a := 0) hw (by omega) (by omega) f1 (f3 (by omega)) rfl (br_t (by decide) ?_)))
    rw [ab_u3r0, ab_u3r0]
    rw [show (1 : Int32) * nI (d 2) = nI (d 2) from Int32.one_mul _, pk_mul, Nat.mul_comm (d 2)]
    exact h
theorem xw_makeTensor_n {post : Int32 → SX → Prop} {x y : Int32} {rk c : Nat} {d : Nat → Nat} (H : ab_sh3 rk d) (hc : f_elementsTaken = nI c) (hc2 : c ≤ 320) (hno : (∀ t, t < 32 → ¬ a_slotSize t = 0) ∨ 320 < c + d 0 * d 1 * d 2 ∨ (∀ j, j < 24 → ¬ a_handleTaken j = 0)) (h : post (-1) (f_slotsTaken, f_elementsTaken, f_slopeCount, a_handleTaken, a_handleIsView, a_windowRank, a_windowSlot, a_windowStart, a_windowDimension, a_windowStride, a_slotSize, a_slotKind, a_slotTerms, a_slotNeeded, a_slotsByAge, a_values, a_derivatives, a_firstPlaces, a_secondPlaces, a_assigned, a_slopes)) : wpX_makeTensor post (f_slotsTaken, f_elementsTaken, f_slopeCount, a_handleTaken, a_handleIsView, a_windowRank, a_windowSlot, a_windowStart, a_windowDimension, a_windowStride, a_slotSize, a_slotKind, a_slotTerms, a_slotNeeded, a_slotsByAge, a_values, a_derivatives, a_firstPlaces, a_secondPlaces, a_assigned, a_slopes) x y (nI (ab_pk rk d)) := by
  have hs := ab_sz (H.2.2 0 (by omega)).2 (H.2.2 1 (by omega)).2 (H.2.2 2 (by omega)).2
  unfold wpX_makeTensor
  refine xw_shapeSize H ?_
  rcases ab_lst a_handleTaken 24 with ⟨v, v1, v2, v3⟩ | vn
  · refine xw_freeHandle_s v1 v2 v3 ?_
    rcases ab_lst a_slotSize 32 with ⟨s, s1, s2, s3⟩ | sn
    · refine xw_freeSlot_s s1 s2 s3 (br_f (nI_pos (by omega)) (br_f (nI_pos (by omega)) (br_f ?_ h)))
      rcases hno with z | z | z
      · exact absurd s2 (z s s1)
      · rw [hc, nI_add]; exact nI_ge (a := 320) z (by omega)
      · exact absurd v2 (z v v1)
    · exact xw_freeSlot_n sn (br_f (nI_pos (by omega)) (br_t (by decide) h))
  · refine xw_freeHandle_n vn ?_
    rcases ab_lst a_slotSize 32 with ⟨s, s1, s2, s3⟩ | sn
    · exact xw_freeSlot_s s1 s2 s3 (br_t (by decide) h)
    · exact xw_freeSlot_n sn (br_t (by decide) h)
theorem xw_makeTensor_s {post : Int32 → SX → Prop} {x y : Int32} {rk c m s v : Nat} {d : Nat → Nat} (H : ab_sh3 rk d) (hc : f_elementsTaken = nI c) (hce : c + d 0 * d 1 * d 2 ≤ 320) (hm : f_slotsTaken = nI m) (hm2 : m < 32) (hs : s < 32) (hs0 : a_slotSize s = 0) (hsl : ∀ j, j < s → ¬ a_slotSize j = 0) (hv : v < 24) (hv0 : a_handleTaken v = 0) (hvl : ∀ j, j < v → ¬ a_handleTaken j = 0) (h : post (nI v) (nI (m + 1), nI (c + d 0 * d 1 * d 2), f_slopeCount, upd a_handleTaken v 1, upd a_handleIsView v 0, upd a_windowRank v (nI rk), upd a_windowSlot v (nI s), upd a_windowStart v (nI (64 * s)), ab_up3 a_windowDimension (3 * v) (nI (d 0)) (nI (d 1)) (nI (d 2)), ab_up3 a_windowStride (3 * v) (nI (ab_st rk d 0)) (nI (ab_st rk d 1)) (nI (ab_st rk d 2)), upd a_slotSize s (nI (d 0 * d 1 * d 2)), upd a_slotKind s x, upd a_slotTerms s y, a_slotNeeded, upd a_slotsByAge m (nI s), a_values, a_derivatives, a_firstPlaces, a_secondPlaces, a_assigned, a_slopes)) : wpX_makeTensor post (f_slotsTaken, f_elementsTaken, f_slopeCount, a_handleTaken, a_handleIsView, a_windowRank, a_windowSlot, a_windowStart, a_windowDimension, a_windowStride, a_slotSize, a_slotKind, a_slotTerms, a_slotNeeded, a_slotsByAge, a_values, a_derivatives, a_firstPlaces, a_secondPlaces, a_assigned, a_slopes) x y (nI (ab_pk rk d)) := by
  unfold wpX_makeTensor
  refine xw_shapeSize H (xw_freeHandle_s hv hv0 hvl (xw_freeSlot_s hs hs0 hsl (br_f (nI_pos (by omega)) (br_f (nI_pos (by omega)) (br_t ?_ ?_)))))
  · rw [hc, nI_add]; exact nI_le (b := 320) hce (by decide)
  have hvs : vp_in (nI s) 32 := vp_in_nI hs (by decide)
  have hvv : vp_in (nI v) 24 := vp_in_nI hv (by decide)
  have cs : (nI s).toNatClampNeg = s := nI_clamp (by omega)
  have cv : (nI v).toNatClampNeg = v := nI_clamp (by omega)
  subst hm hc
  refine ⟨hvs, fun A hA => ⟨hvs, fun B hB => ⟨hvs, fun C hC => ⟨vp_in_nI hm2 (by decide), fun E hE => nm_r (nI_1 m) (nm_r (nI_add _ _) ⟨hvv, fun F hF => ⟨hvv, fun G hG => ?_⟩⟩)⟩⟩⟩⟩
  rw [cs] at hA hB hC
  rw [nI_clamp (by omega)] at hE
  rw [cv, ab_b1] at hF
  rw [cv, ab_b0] at hG
  subst hA hB hC hE hF hG
  exact xw_showSlot (by omega) H h
theorem xw_clearSlot {post : SX → Prop} {s : Nat} (hs : s < 32) (h : ∀ V : Nat → Int32, (∀ i, i < 64 → V (64 * s + i) = 0) → (∀ j, (j < 64 * s ∨ 64 * s + 64 ≤ j) → V j = a_values j) → post (f_slotsTaken, f_elementsTaken, f_slopeCount, a_handleTaken, a_handleIsView, a_windowRank, a_windowSlot, a_windowStart, a_windowDimension, a_windowStride, a_slotSize, a_slotKind, a_slotTerms, a_slotNeeded, a_slotsByAge, V, a_derivatives, a_firstPlaces, a_secondPlaces, a_assigned, a_slopes)) : wpX_clearSlot post (f_slotsTaken, f_elementsTaken, f_slopeCount, a_handleTaken, a_handleIsView, a_windowRank, a_windowSlot, a_windowStart, a_windowDimension, a_windowStride, a_slotSize, a_slotKind, a_slotTerms, a_slotNeeded, a_slotsByAge, a_values, a_derivatives, a_firstPlaces, a_secondPlaces, a_assigned, a_slopes) (nI s) := by
  have L : ∀ d j : Nat, ∀ V : Nat → Int32, j + d = 64 → (∀ i, i < j → V (64 * s + i) = 0) → (∀ j, (j < 64 * s ∨ 64 * s + 64 ≤ j) → V j = a_values j) → wX_clearSlot_2 post (nI s) f_slotsTaken f_elementsTaken f_slopeCount (d + 1) (nI j) a_handleTaken a_handleIsView a_windowRank a_windowSlot a_windowStart a_windowDimension a_windowStride a_slotSize a_slotKind a_slotTerms a_slotNeeded a_slotsByAge V a_derivatives a_firstPlaces a_secondPlaces a_assigned a_slopes := by
    intro d
    induction d with
    | zero =>
      intro j V hj h1 h2
      exact br_t (nI_le (a := 64) (by omega) (by omega)) (h V (fun i hi => h1 i (by omega)) h2)
    | succ d ih =>
      intro j V hj h1 h2
      have e1 : nI s * 64 + nI j = nI (64 * s + j) := by
        show nI s * nI 64 + nI j = _
        rw [pk_mul, nI_add, Nat.mul_comm]
      refine br_f (nI_ge (b := 64) (by omega) (by decide)) ⟨ab_vin e1 (by omega) (by decide), fun W hW => nm_r (nI_1 j) (ih (j + 1) W (by omega) ?_ ?_)⟩
      · intro i hi
        rw [hW, e1, nI_clamp (by omega)]
        by_cases z : i = j
        · rw [z, pk_us]
        · rw [pk_un (by omega)]; exact h1 i (by omega)
      · intro i hi
        rw [hW, e1, nI_clamp (by omega), pk_un (by omega)]; exact h2 i hi
  exact ⟨65, L 64 0 a_values (by omega) (fun i hi => absurd hi (by omega)) (fun _ _ => rfl)⟩
theorem xw_packedShape_s {post : Int32 → Prop} {n w a rk p dv : Nat} (hw : w < 88) (hk : rk ≤ 3) (ha : a < rk) (hd : a_windowDimension (3 * w + a) = nI dv) (hd8 : dv < 8) (hn : wX_packedShape_12 post (nI w) (nI rk) f_slotsTaken f_elementsTaken f_slopeCount a_handleTaken a_handleIsView a_windowRank a_windowSlot a_windowStart a_windowDimension a_windowStride a_slotSize a_slotKind a_slotTerms a_slotNeeded a_slotsByAge a_values a_derivatives a_firstPlaces a_secondPlaces a_assigned a_slopes n (nI (p + dv * 2 ^ (3 + 3 * a))) (nI (a + 1))) : wX_packedShape_12 post (nI w) (nI rk) f_slotsTaken f_elementsTaken f_slopeCount a_handleTaken a_handleIsView a_windowRank a_windowSlot a_windowStart a_windowDimension a_windowStride a_slotSize a_slotKind a_slotTerms a_slotNeeded a_slotsByAge a_values a_derivatives a_firstPlaces a_secondPlaces a_assigned a_slopes (n + 1) (nI p) (nI a) := by
  refine br_f (nI_ge ha (by omega)) ⟨ab_vin ab_ix (by omega) (by decide), ?_⟩
  rw [ab_ix, nI_clamp (by omega), hd]
  exact xw_packedDim (by omega) hd8 (nm_r (nI_add _ _) (nm_r (nI_1 a) hn))
theorem xw_packedShape_x {post : Int32 → Prop} {n w a rk p : Nat} (hk : rk ≤ 3) (ha : a = rk) (hp : post (nI p)) : wX_packedShape_12 post (nI w) (nI rk) f_slotsTaken f_elementsTaken f_slopeCount a_handleTaken a_handleIsView a_windowRank a_windowSlot a_windowStart a_windowDimension a_windowStride a_slotSize a_slotKind a_slotTerms a_slotNeeded a_slotsByAge a_values a_derivatives a_firstPlaces a_secondPlaces a_assigned a_slopes (n + 1) (nI p) (nI a) :=
  br_t (nI_le (by omega) (by omega)) hp
theorem xw_packedShape {post : Int32 → Prop} {w rk : Nat} {d : Nat → Nat} (hw : w < 88) (H : ab_sh3 rk d) (hr : a_windowRank w = nI rk) (hd : ∀ a, a < 3 → a_windowDimension (3 * w + a) = nI (d a)) (hp : post (nI (ab_pk rk d))) : wpX_packedShape post (f_slotsTaken, f_elementsTaken, f_slopeCount, a_handleTaken, a_handleIsView, a_windowRank, a_windowSlot, a_windowStart, a_windowDimension, a_windowStride, a_slotSize, a_slotKind, a_slotTerms, a_slotNeeded, a_slotsByAge, a_values, a_derivatives, a_firstPlaces, a_secondPlaces, a_assigned, a_slopes) (nI w) := by
  obtain ⟨hk, h1, hb⟩ := H
  have b0 := hb 0 (by omega)
  have b1 := hb 1 (by omega)
  have b2 := hb 2 (by omega)
  refine ⟨vp_in_nI hw (by decide), nm_r (e' := nI rk) (by rw [nI_clamp (by omega), hr]) ⟨rk + 1, ?_⟩⟩
  rcases (show rk = 0 ∨ rk = 1 ∨ rk = 2 ∨ rk = 3 by omega) with rfl | rfl | rfl | rfl
  · exact xw_packedShape_x (a := 0) hk rfl hp
  · refine xw_packedShape_s (a := 0) hw hk (by omega) (hd 0 (by omega)) (by omega) (xw_packedShape_x hk rfl ?_)
    have e : 1 + d 0 * 2 ^ (3 + 3 * 0) = ab_pk 1 d := by unfold ab_pk; simp; omega
    rw [e]; exact hp
  · refine xw_packedShape_s (a := 0) hw hk (by omega) (hd 0 (by omega)) (by omega) (xw_packedShape_s hw hk (by omega) (hd 1 (by omega)) (by omega) (xw_packedShape_x hk rfl ?_))
    have e : 2 + d 0 * 2 ^ (3 + 3 * 0) + d 1 * 2 ^ (3 + 3 * (0 + 1)) = ab_pk 2 d := by unfold ab_pk; simp; omega
    rw [e]; exact hp
  · refine xw_packedShape_s (a := 0) hw hk (by omega) (hd 0 (by omega)) (by omega) (xw_packedShape_s hw hk (by omega) (hd 1 (by omega)) (by omega) (xw_packedShape_s hw hk (by omega) (hd 2 (by omega)) (by omega) (xw_packedShape_x hk rfl ?_)))
    have e : 3 + d 0 * 2 ^ (3 + 3 * 0) + d 1 * 2 ^ (3 + 3 * (0 + 1)) + d 2 * 2 ^ (3 + 3 * (0 + 1 + 1)) = ab_pk 3 d := by unfold ab_pk; simp; omega
    rw [e]; exact hp
end
