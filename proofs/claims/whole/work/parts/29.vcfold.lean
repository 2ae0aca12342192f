section
variable {f_slotsTaken f_elementsTaken f_slopeCount : Int32} {a_handleTaken a_handleIsView a_windowRank a_windowSlot a_windowStart a_windowDimension a_windowStride a_slotSize a_slotKind a_slotTerms a_slotNeeded a_slotsByAge a_values a_derivatives a_firstPlaces a_secondPlaces a_assigned a_slopes : Nat → Int32}
theorem xf_fold {post : Int32 → SX → Prop} {w a v s c m rk : Nat} {dd dw : Nat → Nat} (hw : w < 24) (hT : ¬ a_handleTaken w = 0) (hr : a_windowRank w = nI rk) (H : ab_sh3 rk dw) (ha : a < rk) (hd : ∀ i, i < 3 → a_windowDimension (3 * w + i) = nI (dw i)) (hdd : fo_d dw rk a = dd) (hc : f_elementsTaken = nI c) (hce : c + dd 0 * dd 1 * dd 2 ≤ 320) (hm : f_slotsTaken = nI m) (hm2 : m < 32) (hs : s < 32) (hs0 : a_slotSize s = 0) (hsl : ∀ j, j < s → ¬ a_slotSize j = 0) (hv : v < 24) (hv0 : a_handleTaken v = 0) (hvl : ∀ j, j < v → ¬ a_handleTaken j = 0) (h : post (nI v) (nI (m + 1), nI (c + dd 0 * dd 1 * dd 2), f_slopeCount, upd a_handleTaken v 1, upd a_handleIsView v 0, mk_u a_windowRank v s (nI (rk - 1)) (a_windowRank w) (a_windowRank w), mk_u a_windowSlot v s (nI s) (a_windowSlot w) (a_windowSlot w), mk_u a_windowStart v s (nI (64 * s)) (a_windowStart w) (a_windowStart w), mk_3 a_windowDimension v s (nI (dd 0)) (nI (dd 1)) (nI (dd 2)) (a_windowDimension (3 * w + fo_s rk a 0)) (a_windowDimension (3 * w + fo_s rk a 1)) (a_windowDimension (3 * w + fo_s rk a 2)) (a_windowDimension (3 * w + fo_s rk a 0)) (a_windowDimension (3 * w + fo_s rk a 1)) (a_windowDimension (3 * w + fo_s rk a 2)), mk_3 a_windowStride v s (nI (ab_st (rk - 1) dd 0)) (nI (ab_st (rk - 1) dd 1)) (nI (ab_st (rk - 1) dd 2)) (a_windowStride (3 * w + fo_s rk a 0)) (a_windowStride (3 * w + fo_s rk a 1)) (a_windowStride (3 * w + fo_s rk a 2)) (a_windowStride (3 * w + fo_s rk a 0)) (a_windowStride (3 * w + fo_s rk a 1)) (a_windowStride (3 * w + fo_s rk a 2)), upd a_slotSize s (nI (dd 0 * dd 1 * dd 2)), upd a_slotKind s 3, upd a_slotTerms s (nI (dw a)), a_slotNeeded, upd a_slotsByAge m (nI s), a_values, a_derivatives, a_firstPlaces, a_secondPlaces, a_assigned, a_slopes)) : wpX_fold post (f_slotsTaken, f_elementsTaken, f_slopeCount, a_handleTaken, a_handleIsView, a_windowRank, a_windowSlot, a_windowStart, a_windowDimension, a_windowStride, a_slotSize, a_slotKind, a_slotTerms, a_slotNeeded, a_slotsByAge, a_values, a_derivatives, a_firstPlaces, a_secondPlaces, a_assigned, a_slopes) (nI w) (nI a) := by
  have hk := H.1
  have hn : w ≠ v := fun e => hT (e ▸ hv0)
  have H' : ab_sh3 (rk - 1) dd := hdd ▸ fo_d3 H ha
  have e1 : nI rk - 1 = nI (rk - 1) := pk_sub (b := 1) (by omega)
  unfold wpX_fold
  refine xw_hasAxis_t hw hT hr hk ha (br_f ab_10 ⟨vp_in_nI (by omega) (by decide), nm_r (e' := nI rk) (by rw [nI_clamp (by omega), hr]) (nm_r e1 (xf_pack (dw := dw) hw H ha hd (fun n => ?_)))⟩)
  refine br_t (by rw [e1]; exact nI_le (by omega) (by omega)) ⟨ab_vin ab_ix (by omega) (by decide), ?_⟩
  rw [ab_ix, nI_clamp (by omega), hd a (by omega), hdd]
  refine xw_makeTensor_s H' hc hce hm hm2 hs hs0 hsl hv hv0 hvl (br_f (nI_pos (by omega)) ⟨vp_in_nI (by omega) (by decide), ?_⟩)
  rw [nI_clamp (show v < 2 ^ 31 by omega), pk_us]
  refine xw_firstSource (xf_move (rk := rk) hw (by omega) (by omega) hk ha (by rw [pk_un hn]; exact hr) ?_)
  rw [show nI (24 + 2 * s) + 1 = nI (25 + 2 * s) from by rw [nI_1]; congr 1; omega]
  refine xw_copyWindow (by omega) (by omega) (by omega) ?_
  have l0 := fo_sl (i := 0) hk ha (by omega)
  have l1 := fo_sl (i := 1) hk ha (by omega)
  have l2 := fo_sl (i := 2) hk ha (by omega)
  have E3 : ∀ (g : Nat → Int32) (A B C : Int32) (i : Nat), i < 3 → ab_up3 g (3 * v) A B C (3 * w + i) = g (3 * w + i) := fun g A B C i hi => ab_en (by omega)
  rw [E3 _ _ _ _ _ l0, E3 _ _ _ _ _ l0, E3 _ _ _ _ _ l1, E3 _ _ _ _ _ l1, E3 _ _ _ _ _ l2, E3 _ _ _ _ _ l2, ab_e0, ab_e0, ab_e1, ab_e1, ab_e2, ab_e2, pk_us, pk_us, pk_us, pk_un hn, pk_un hn, pk_un hn]
  exact h
theorem xf_fold_n {post : Int32 → SX → Prop} {w a c rk : Nat} {dw : Nat → Nat} (hw : w < 24) (hT : ¬ a_handleTaken w = 0) (hr : a_windowRank w = nI rk) (H : ab_sh3 rk dw) (ha : a < rk) (hd : ∀ i, i < 3 → a_windowDimension (3 * w + i) = nI (dw i)) (hc : f_elementsTaken = nI c) (hc2 : c ≤ 320) (hno : (∀ t, t < 32 → ¬ a_slotSize t = 0) ∨ 320 < c + fo_d dw rk a 0 * fo_d dw rk a 1 * fo_d dw rk a 2 ∨ (∀ j, j < 24 → ¬ a_handleTaken j = 0)) (h : post (-1) (f_slotsTaken, f_elementsTaken, f_slopeCount, a_handleTaken, a_handleIsView, a_windowRank, a_windowSlot, a_windowStart, a_windowDimension, a_windowStride, a_slotSize, a_slotKind, a_slotTerms, a_slotNeeded, a_slotsByAge, a_values, a_derivatives, a_firstPlaces, a_secondPlaces, a_assigned, a_slopes)) : wpX_fold post (f_slotsTaken, f_elementsTaken, f_slopeCount, a_handleTaken, a_handleIsView, a_windowRank, a_windowSlot, a_windowStart, a_windowDimension, a_windowStride, a_slotSize, a_slotKind, a_slotTerms, a_slotNeeded, a_slotsByAge, a_values, a_derivatives, a_firstPlaces, a_secondPlaces, a_assigned, a_slopes) (nI w) (nI a) := by
  have hk := H.1
  have e1 : nI rk - 1 = nI (rk - 1) := pk_sub (b := 1) (by omega)
  unfold wpX_fold
  refine xw_hasAxis_t hw hT hr hk ha (br_f ab_10 ⟨vp_in_nI (by omega) (by decide), nm_r (e' := nI rk) (by rw [nI_clamp (by omega), hr]) (nm_r e1 (xf_pack (dw := dw) hw H ha hd (fun n => ?_)))⟩)
  refine br_t (by rw [e1]; exact nI_le (by omega) (by omega)) ⟨ab_vin ab_ix (by omega) (by decide), ?_⟩
  exact xw_makeTensor_n (fo_d3 H ha) hc hc2 hno (br_t (by decide) h)
end
section
variable {c_cells c_slopeCount : Int32} {b_used b_rank b_dims b_shown b_tensorOf b_view b_exists b_kind b_first b_second b_owner b_parts b_partCount b_value b_slopeOf b_order b_slopes : Nat → Int32}
theorem yf_inner {post : Int32 → SY → Prop} {J151 : Int32 → Int32 → Int32 → (Nat → Int32) → (Nat → Int32) → (Nat → Int32) → (Nat → Int32) → (Nat → Int32) → (Nat → Int32) → (Nat → Int32) → (Nat → Int32) → (Nat → Int32) → (Nat → Int32) → (Nat → Int32) → (Nat → Int32) → (Nat → Int32) → (Nat → Int32) → (Nat → Int32) → (Nat → Int32) → (Nat → Int32) → Prop} {w a rkw N tt e x y : Nat} {x4 x5 : Int32} {dw f : Nat → Nat} {cw : Nat → Nat → Nat → Nat} {q : Nat → Nat → Nat} {P0 C0 : Nat → Int32} (hw : w < 24) (Hw : yb_row b_rank b_dims w rkw dw) (ha : a < 3) (hN : N ≤ 64) (ht4 : tt ≤ 4) (he : e < N) (hfi : ∀ i j, i < N → j < N → f i = f j → i = j) (hf : ∀ i, i < N → f i < 320) (hS : ∀ i, i < N → b_shown (1536 + i) = nI (f i)) (hcw : ∀ i j k, i < dw 0 → j < dw 1 → k < dw 2 → b_shown (64 * w + ((i * dw 1 + j) * dw 2 + k)) = nI (cw i j k) ∧ cw i j k < 320) (hR : ∀ p, p < tt → fo_c0 a x p < dw 0 ∧ fo_c1 a x y p < dw 1 ∧ fo_c2 a y p < dw 2) (hq : ∀ p, p < tt → q e p = cw (fo_c0 a x p) (fo_c1 a x y p) (fo_c2 a y p)) (h : ∀ P C : Nat → Int32, yp_ok f N q (yp_c tt (e + 1) 0) P0 C0 P C → J151 (nI (e + 1)) c_cells c_slopeCount b_used b_rank b_dims b_shown b_tensorOf b_view b_exists b_kind b_first b_second b_owner P C b_value b_slopeOf b_order b_slopes) : ∀ (k p : Nat) (P C : Nat → Int32), p + k = tt → yp_ok f N q (yp_c tt e p) P0 C0 P C → wY_fold_183 post J151 (nI w) (nI a) (nI tt) x4 x5 (nI e) (nI x) (nI y) (k + 1) (nI p) c_cells c_slopeCount b_used b_rank b_dims b_shown b_tensorOf b_view b_exists b_kind b_first b_second b_owner P C b_value b_slopeOf b_order b_slopes := by
  intro k
  induction k with
  | zero =>
    intro p P C hp A
    have : p = tt := by omega
    subst this
    exact br_t (nI_le (by omega) (by omega)) (nm_r (nI_1 e) (h P C (yp_n A)))
  | succ k ih =>
    intro p P C hp A
    obtain ⟨r1, r2, r3⟩ := hR p (by omega)
    obtain ⟨c1, c2⟩ := hcw _ _ _ r1 r2 r3
    have hq' := hq p (by omega)
    have FIN : ∀ r : Int32, r = nI (cw (fo_c0 a x p) (fo_c1 a x y p) (fo_c2 a y p)) → wpY_part (fun u => match u with | (c_cells, c_slopeCount, b_used, b_rank, b_dims, b_shown, b_tensorOf, b_view, b_exists, b_kind, b_first, b_second, b_owner, b_parts, b_partCount, b_value, b_slopeOf, b_order, b_slopes) => ∀ x9 : Int32, x9 = nI p + 1 → wY_fold_183 post J151 (nI w) (nI a) (nI tt) x4 x5 (nI e) (nI x) (nI y) (k + 1) x9 c_cells c_slopeCount b_used b_rank b_dims b_shown b_tensorOf b_view b_exists b_kind b_first b_second b_owner b_parts b_partCount b_value b_slopeOf b_order b_slopes) (c_cells, c_slopeCount, b_used, b_rank, b_dims, b_shown, b_tensorOf, b_view, b_exists, b_kind, b_first, b_second, b_owner, P, C, b_value, b_slopeOf, b_order, b_slopes) (nI e) r := by
      intro r er
      rw [er]
      exact yp_part (K := tt) (m := p) hN hfi hf he (by omega) (by omega) (hS e he) hq' c2 A (fun P' C' A' => nm_r (nI_1 p) (ih (p + 1) P' C' (by omega) A'))
    refine br_f (nI_ge (by omega) (by omega)) ?_
    rcases (show a = 0 ∨ a = 1 ∨ a = 2 by omega) with rfl | rfl | rfl
    · refine br_t rfl (br_f (by decide) (br_t rfl (br_f (by decide) (yb_cellAt (by omega) Hw r1 r2 r3 ?_))))
      exact FIN _ c1
    · refine br_f (by decide) (br_t rfl (br_f (by decide) (yb_cellAt (by omega) Hw r1 r2 r3 ?_)))
      exact FIN _ c1
    · refine br_f (by decide) (br_f (by decide) (br_f (by decide) (br_t rfl (yb_cellAt (by omega) Hw r1 r2 r3 ?_))))
      exact FIN _ c1
theorem yf_loop {post : Int32 → SY → Prop} {w a v s r N rkw tt : Nat} {dd dw f : Nat → Nat} {cw : Nat → Nat → Nat → Nat} {P0 C0 : Nat → Int32} (hw : w < 24) (H24 : yb_row b_rank b_dims 24 r dd) (Hw : yb_row b_rank b_dims w rkw dw) (ha : a < rkw) (htt : dw a = tt) (hdd : fo_d dw rkw a = dd) (hN : dd 0 * dd 1 * dd 2 = N) (hs : s < 32) (hfi : ∀ i j, i < N → j < N → f i = f j → i = j) (hf : ∀ i, i < N → f i < 320) (hS : ∀ i, i < N → b_shown (1536 + i) = nI (f i)) (hcw : ∀ i j k, i < dw 0 → j < dw 1 → k < dw 2 → b_shown (64 * w + ((i * dw 1 + j) * dw 2 + k)) = nI (cw i j k) ∧ cw i j k < 320) (hv : v < 24) (hv0 : b_used v = 0) (hvl : ∀ j, j < v → ¬ b_used j = 0) (h : ∀ P C D S : Nat → Int32, yp_ok f N (fun i t => cw (fo_c0 a (i / (dd 1 * dd 2) % dd 0) t) (fo_c1 a (i / (dd 1 * dd 2) % dd 0) (i / dd 2 % dd 1) t) (fo_c2 a (i / dd 2 % dd 1) t)) (fun _ => tt) P0 C0 P C → (∀ a, a < r → D (3 * v + a) = nI (dd a)) → (∀ j, (j < 3 * v ∨ 3 * v + 3 ≤ j) → D j = b_dims j) → (∀ i, i < N → S (64 * v + i) = nI (f i)) → (∀ j, (j < 64 * v ∨ 64 * v + 64 ≤ j) → S j = b_shown j) → post (nI v) (c_cells, c_slopeCount, upd b_used v 1, upd b_rank v (nI r), D, S, upd b_tensorOf v (nI s), upd b_view v 0, b_exists, b_kind, b_first, b_second, b_owner, P, C, b_value, b_slopeOf, b_order, b_slopes)) : ∀ (q j : Nat) (P C : Nat → Int32), j + q = N → yp_ok f N (fun i t => cw (fo_c0 a (i / (dd 1 * dd 2) % dd 0) t) (fo_c1 a (i / (dd 1 * dd 2) % dd 0) (i / dd 2 % dd 1) t) (fo_c2 a (i / dd 2 % dd 1) t)) (yp_c tt j 0) P0 C0 P C → wY_fold_151 post (nI w) (nI a) (nI tt) (nI s) (nI N) (q + 1) (nI j) c_cells c_slopeCount b_used b_rank b_dims b_shown b_tensorOf b_view b_exists b_kind b_first b_second b_owner P C b_value b_slopeOf b_order b_slopes := by
  have hb4 := H24.2.2.2.2
  have hN64 : N ≤ 64 := hN ▸ ab_sz (hb4 0 (by omega)).2 (hb4 1 (by omega)).2 (hb4 2 (by omega)).2
  have h3 : ab_sh3 rkw dw := ⟨Hw.2.1, Hw.2.2.2.1, Hw.2.2.2.2⟩
  have hk3 := Hw.2.1
  have t4 := (h3.2.2 a (by omega)).2
  intro q
  induction q with
  | zero =>
    intro j P C hj A
    have : j = N := by omega
    subst this
    refine br_t (nI_le (by omega) (by omega)) ?_
    refine yv_hand (e := dd) (c := f) (N := j) hv hv0 hvl hs H24.1 H24.2.1 hN64 (fun a ha => H24.2.2.1 a ha) (fun a ha => (H24.2.2.2.2 a ha).2) hS hf (fun D S d1 d2 s1 s2 => ?_)
    rw [ab_b0]
    exact h P C D S (yp_x A) d1 d2 s1 s2
  | succ q ih =>
    intro j P C hj A
    obtain ⟨i1, i2, i3⟩ := ab_pfi (e := j) (hb4 0 (by omega)).1 (hb4 1 (by omega)).1 (hb4 2 (by omega)).1
    refine br_f (nI_ge (by omega) (by omega)) (yb_index0 (h := 24) (by omega) H24 (by omega) (yb_index1 (h := 24) (by omega) H24 (by omega) ⟨tt + 1, ?_⟩))
    refine yf_inner (cw := cw) hw Hw (by omega) hN64 (by omega) (by omega) hfi hf hS hcw ?_ (fun p hp => rfl) (fun P' C' A' => ih (j + 1) P' C' (by omega) A') tt 0 P C (by omega) A
    intro p hp
    rw [← hdd] at i1 i2 ⊢
    exact fo_crng h3 ha i1 i2 (by omega)
theorem yf_shape {post : Int32 → SY → Prop} {w a rkw : Nat} {dw : Nat → Nat} (hw : w < 24) (hU : ¬ b_used w = 0) (Hw : yb_row b_rank b_dims w rkw dw) (ha : a < rkw) (h : ∀ (R D : Nat → Int32), R 24 = nI (rkw - 1) → (∀ h, h < 24 → R h = b_rank h) → (∀ i, i < rkw - 1 → D (72 + i) = nI (fo_d dw rkw a i)) → (∀ j, j < 72 → D j = b_dims j) → wY_fold_119 post (nI w) (nI a) (nI (dw a)) c_cells c_slopeCount b_used R D b_shown b_tensorOf b_view b_exists b_kind b_first b_second b_owner b_parts b_partCount b_value b_slopeOf b_order b_slopes) : wpY_fold post (c_cells, c_slopeCount, b_used, b_rank, b_dims, b_shown, b_tensorOf, b_view, b_exists, b_kind, b_first, b_second, b_owner, b_parts, b_partCount, b_value, b_slopeOf, b_order, b_slopes) (nI w) (nI a) := by
  have hk3 := Hw.2.1
  have hb4 := Hw.2.2.2.2
  have hc : (nI w).toNatClampNeg = w := nI_clamp (by omega)
  have hv25 : vp_in (nI w) 25 := vp_in_nI (by omega) (by decide)
  have e1 : nI rkw - 1 = nI (rkw - 1) := pk_sub (b := 1) (by omega)
  have B0 : yb_bt 0 = 0 := yb_btn (n := 0) (by omega)
  have K75 : ∀ i0 i1 : Nat, i0 < 3 → i1 < 3 → (1 < rkw → b_dims (3 * w + i0) = nI (fo_d dw rkw a 0)) → (2 < rkw → b_dims (3 * w + i1) = nI (fo_d dw rkw a 1)) → wY_fold_75 post (nI w) (nI a) (nI (dw a)) (nI i1) (3 * nI w) (b_dims (3 * w + i0)) (nI (rkw - 1)) c_cells c_slopeCount b_used b_rank b_dims b_shown b_tensorOf b_view b_exists b_kind b_first b_second b_owner b_parts b_partCount b_value b_slopeOf b_order b_slopes := by
    intro i0 i1 l0 l1 h0 h1
    refine ⟨ab_vin ab_iy (by omega) (by decide), ?_⟩
    rw [ab_iy, nI_clamp (by omega)]
    refine yb_shapeNew (by omega) ?_
    have F3 := fo_d3 (rk := rkw) (dw := dw) ⟨Hw.2.1, Hw.2.2.2.1, Hw.2.2.2.2⟩ ha
    have d0 := F3.2.2 0 (by omega)
    have d1 := F3.2.2 1 (by omega)
    have R1 : ∀ h, h < 24 → upd b_rank 24 (nI (rkw - 1)) h = b_rank h := fun h hh => pk_un (by omega)
    have r24 : upd b_rank 24 (nI (rkw - 1)) 24 = nI (rkw - 1) := pk_us
    rcases (show rkw = 1 ∨ rkw = 2 ∨ rkw = 3 by omega) with z | z | z
    · refine br_f (by rw [r24, z]; decide) (nm_e (br_f (by rw [r24, z]; decide) (nm_e (h _ _ r24 R1 (fun i hi => by omega) ?_))))
      intro j hj
      rw [pk_un (by omega), pk_un (by omega), ab_en (by omega)]
    · refine br_f (by rw [r24, z]; decide) (nm_e (br_t (by rw [r24, z]; decide) (h _ _ r24 R1 (fun i hi => ?_) ?_)))
      · rw [show i = 0 by omega, pk_un (by omega)]
        refine ab_e0.trans ?_
        rw [h0 (by omega)]; exact yb_btn (by omega)
      · intro j hj
        rw [pk_un (by omega), ab_en (by omega)]
    · refine br_t (by rw [r24, z]; decide) (br_t (by rw [r24, z]; decide) (h _ _ r24 R1 (fun i hi => ?_) ?_))
      · rcases (show i = 0 ∨ i = 1 by omega) with y | y <;> rw [y]
        · refine ab_e0.trans ?_
          rw [h0 (by omega)]; exact yb_btn (by omega)
        · refine ab_e1.trans ?_
          rw [h1 (by omega)]; exact yb_btn (by omega)
      · intro j hj
        rw [ab_en (by omega)]
  unfold wpY_fold
  refine yb_isHandle_t hw hU (br_f ab_10 (br_f (nI_pos (by omega)) ⟨hv25, br_t (by rw [hc, Hw.1]; exact nI_lt ha (by omega)) (yb_dim (by omega) (by omega) ⟨hv25, ?_⟩)⟩))
  rw [hc, Hw.1, e1, Hw.2.2.1 a ha]
  rcases (show a = 0 ∨ a = 1 ∨ a = 2 by omega) with rfl | rfl | rfl
  · refine br_t rfl ⟨ab_vin (ab_iy (a := 1)) (by omega) (by decide), br_f (by decide) ?_⟩
    rw [show (3 : Int32) * nI w + 1 = nI (3 * w + 1) from ab_iy (a := 1), nI_clamp (by omega)]
    exact K75 1 2 (by omega) (by omega) (fun z => by simp [fo_d, z]; exact Hw.2.2.1 1 z) (fun z => by simp [fo_d, z]; exact Hw.2.2.1 2 z)
  · refine br_f (by decide) ⟨ab_vin (ab_iy (a := 0)) (by omega) (by decide), br_f (by decide) ?_⟩
    rw [show (3 : Int32) * nI w + 0 = nI (3 * w + 0) from ab_iy (a := 0), nI_clamp (by omega)]
    exact K75 0 2 (by omega) (by omega) (fun z => by simp [fo_d, z]; exact Hw.2.2.1 0 (by omega)) (fun z => by simp [fo_d, z]; exact Hw.2.2.1 2 z)
  · refine br_f (by decide) ⟨ab_vin (ab_iy (a := 0)) (by omega) (by decide), br_t (by decide) ?_⟩
    rw [show (3 : Int32) * nI w + 0 = nI (3 * w + 0) from ab_iy (a := 0), nI_clamp (by omega)]
    exact K75 0 1 (by omega) (by omega) (fun z => by simp [fo_d, z]; exact Hw.2.2.1 0 (by omega)) (fun z => by simp [fo_d, z]; exact Hw.2.2.1 1 (by omega))
theorem yf_f1 {post : Int32 → SY → Prop} {x y : Int32} (hx : ¬ ab_isH b_used x) (hp : post (-1) (c_cells, c_slopeCount, b_used, b_rank, b_dims, b_shown, b_tensorOf, b_view, b_exists, b_kind, b_first, b_second, b_owner, b_parts, b_partCount, b_value, b_slopeOf, b_order, b_slopes)) : wpY_fold post (c_cells, c_slopeCount, b_used, b_rank, b_dims, b_shown, b_tensorOf, b_view, b_exists, b_kind, b_first, b_second, b_owner, b_parts, b_partCount, b_value, b_slopeOf, b_order, b_slopes) x y := by
  unfold wpY_fold
  exact yb_isHandle_f hx (br_t rfl hp)
theorem yf_f2 {post : Int32 → SY → Prop} {w rk : Nat} {y : Int32} (hw : w < 24) (hU : ¬ b_used w = 0) (hr : b_rank w = nI rk) (hk : rk ≤ 3) (hn : ¬ ab_isA rk y) (hp : post (-1) (c_cells, c_slopeCount, b_used, b_rank, b_dims, b_shown, b_tensorOf, b_view, b_exists, b_kind, b_first, b_second, b_owner, b_parts, b_partCount, b_value, b_slopeOf, b_order, b_slopes)) : wpY_fold post (c_cells, c_slopeCount, b_used, b_rank, b_dims, b_shown, b_tensorOf, b_view, b_exists, b_kind, b_first, b_second, b_owner, b_parts, b_partCount, b_value, b_slopeOf, b_order, b_slopes) (nI w) y := by
  have hv25 : vp_in (nI w) 25 := vp_in_nI (by omega) (by decide)
  unfold wpY_fold
  refine yb_isHandle_t hw hU (br_f ab_10 (br_c (fun _ => hp) (fun h1 => ⟨hv25, br_c (fun h3 => ?_) (fun _ => hp)⟩)))
  rw [nI_clamp (by omega), hr] at h3
  exact absurd (ab_notA hk hn h1 (Int32.not_le.mpr h3)) id
end
theorem i_vc_fold {k : Nat} {u : SX} {v : SY} (I : i_Rel k u v) (hk : k + 5 ≤ 2560) (v1 : Int32) (v2 : Int32) : wpX_fold (fun r u' => wpY_fold (fun r' v' => r' = r ∧ i_Rel (k + 5) u' v') v v1 v2) u v1 v2 := by
  obtain ⟨f_slotsTaken, f_elementsTaken, f_slopeCount, a_handleTaken, a_handleIsView, a_windowRank, a_windowSlot, a_windowStart, a_windowDimension, a_windowStride, a_slotSize, a_slotKind, a_slotTerms, a_slotNeeded, a_slotsByAge, a_values, a_derivatives, a_firstPlaces, a_secondPlaces, a_assigned, a_slopes⟩ := u
  obtain ⟨c_cells, c_slopeCount, b_used, b_rank, b_dims, b_shown, b_tensorOf, b_view, b_exists, b_kind, b_first, b_second, b_owner, b_parts, b_partCount, b_value, b_slopeOf, b_order, b_slopes⟩ := v
  have I' := I
  obtain ⟨rk, sl, d, G, ages, sz, kd, tm, yk, cl, hX, hY, hS⟩ := I'
  have hu := hY.1.1
  by_cases hH : ab_isH a_handleTaken v1
  · obtain ⟨w, hw, rfl, hT⟩ := hH
    obtain ⟨w1, w2, w3, w4⟩ := hX.2.2.2.2 w hw hT
    have yw := hY.2.2.2.2.1 w hw hT
    have hU : ¬ b_used w = 0 := by rw [hu]; exact hT
    by_cases hA : ab_isA (rk w) v2
    · obtain ⟨a, ha, rfl⟩ := hA
      have hfree : ∀ t, t < 32 → (b_exists t = 0 ↔ a_slotSize t = 0) := fun t ht => (hY.2.2.2.1 t ht).trans (rl_sz0 hX ht).symm
      have Dw := w3.2.2.1
      have kw3 := w2.1
      have H := fo_d3 w2 ha
      by_cases hres : (∀ t, t < 32 → ¬ a_slotSize t = 0) ∨ 320 < (ab_fl sz ages).length + fo_d (d w) (rk w) a 0 * fo_d (d w) (rk w) a 1 * fo_d (d w) (rk w) a 2 ∨ (∀ j, j < 24 → ¬ a_handleTaken j = 0)
      · refine xf_fold_n (dw := d w) hw hT w1 w2 ha (fun i hi => (Dw i hi).1) hX.2.1.1 hX.2.1.2 hres ?_
        refine yf_shape hw hU (rl_row w2 yw) ha (fun R D r24 r1 d24 d1 => ⟨vp_in_nI (by omega) (by decide), ?_⟩)
        refine yb_tensor_n (rk := rk w - 1) (d := fo_d (d w) (rk w) a) ⟨r24, by omega, d24, H.2.1, H.2.2⟩ hY.2.1.1 hX.2.1.2 ?_ (br_f (by decide) ⟨rfl, ?_⟩)
        · rw [hu]
          rcases hres with z | z | z
          · exact Or.inl (fun t ht y => z t ht ((hfree t ht).mp y))
          · exact Or.inr (Or.inl z)
          · exact Or.inr (Or.inr z)
        · exact rl_mk (k + 5) rk sl d G ages sz kd tm yk cl hX (rl_scr r1 d1 (fun _ _ => rfl) (rl_hk hX).1 (rl_hk hX).2 hY) hS
      · generalize hdd : fo_d (d w) (rk w) a = dd at *
        rcases ab_lst a_slotSize 32 with ⟨s, hs, hs0, hsl⟩ | sn
        · rcases ab_lst a_handleTaken 24 with ⟨v, hv, hv0, hvl⟩ | vn
          · have hce : (ab_fl sz ages).length + dd 0 * dd 1 * dd 2 ≤ 320 := Nat.le_of_not_lt (fun z => hres (Or.inr (Or.inl z)))
            have hsn : s ∉ ages := (rl_sz0 hX hs).mp hs0
            have hm := rl_m32 hX.2.2.1.1 hX.2.2.1.2.1 hs hsn
            have t32 := hX.2.2.1.2.1 _ w3.2.1
            have l0 := fo_sl (i := 0) kw3 ha (by omega)
            have l1 := fo_sl (i := 1) kw3 ha (by omega)
            have l2 := fo_sl (i := 2) kw3 ha (by omega)
            have da := w2.2.2 a (by omega)
            refine xf_fold (dw := d w) (dd := dd) hw hT w1 w2 ha (fun i hi => (Dw i hi).1) hdd hX.2.1.1 hce hX.1.1 hm hs hs0 hsl hv hv0 hvl ?_
            rw [w3.1, (Dw _ l0).1, (Dw _ l1).1, (Dw _ l2).1]
            refine yf_shape hw hU (rl_row w2 yw) ha (fun R D r24 r1 d24 d1 => ⟨vp_in_nI (by omega) (by decide), ?_⟩)
            rw [hdd] at d24
            have R24 : yb_row R D 24 (rk w - 1) dd := ⟨r24, by omega, d24, H.2.1, H.2.2⟩
            have Hw' : yb_row R D w (rk w) (d w) := by
              have q := rl_row w2 yw
              refine ⟨by rw [r1 w hw]; exact q.1, q.2.1, fun i hi => ?_, q.2.2.2.1, q.2.2.2.2⟩
              rw [d1 _ (by omega)]; exact q.2.2.1 i hi
            have cW := rl_cell hX hY.2.2.1 w3 yw
            rw [nI_clamp (show w < 2 ^ 31 by omega), yw.2.2.1]
            refine yb_tensor_s (kw := 4) (v := v) (L := (ab_fl sz ages).map cl) R24 hY.2.1.1 hce hs ((hfree s hs).mpr hs0) (fun j hj z => hsl j hj ((hfree j (by omega)).mp z)) hv (by rw [hu]; exact hv0) (by rw [hu]; exact hvl) (by omega) (rl_Lst hY.2.2.1) (by rw [List.length_map]) (fun f O C0 V Ro S A => br_t (nI_pos' (by omega)) (yb_size (h := 24) (by omega) R24 ⟨dd 0 * dd 1 * dd 2 + 1, ?_⟩))
            obtain ⟨A1, A2, A3, A4, A5, A6, A7⟩ := A
            have lw : ∀ i j k, i < d w 0 → j < d w 1 → k < d w 2 → S (64 * w + ((i * d w 1 + j) * d w 2 + k)) = nI (cl (G w i j k)) ∧ cl (G w i j k) < 320 := by
              intro i j k hi hj hk'
              have h1 := ab_lin hi hj hk'
              have h2 := ab_sz (w2.2.2 0 (by omega)).2 (w2.2.2 1 (by omega)).2 (w2.2.2 2 (by omega)).2
              have h3 : (i * d w 1 + j) * d w 2 + k < 64 := by omega
              have h4 : 64 * w + ((i * d w 1 + j) * d w 2 + k) < 1536 := by omega
              rw [A7 _ h4]; exact cW i j k hi hj hk'
            refine yf_loop (f := f) (cw := fun i j k => cl (G w i j k)) (P0 := b_parts) (C0 := C0) (v := v) hw R24 Hw' ha rfl hdd rfl hs A2 (fun i hi => (A1 i hi).1) (fun i hi => (A5 i hi).2) lw hv (by rw [hu]; exact hv0) (by rw [hu]; exact hvl) (fun P C D' S' Y e1 e2 s1 s2 => ⟨rfl, ?_⟩) _ 0 b_parts C0 (by omega) (yp_0 ⟨A1, A2, A3, A4, A5, A6, A7⟩)
            have e1w := fun x y z hx hy hz => w3.2.2.2 _ _ _ (fo_rng (x := x) (y := y) (z := z) w2 ha hx hy hz).1 (fo_rng (x := x) (y := y) (z := z) w2 ha hx hy hz).2.1 (fo_rng (x := x) (y := y) (z := z) w2 ha hx hy hz).2.2
            have hne1 : ∀ i, i < 3 → 1 ≤ d w (fo_s (rk w) a i) ∧ d w (fo_s (rk w) a i) ≤ 4 := fun i hi => w2.2.2 _ (fo_sl kw3 ha hi)
            have hnn := fo_n w2 ha
            rw [hdd] at hnn
            refine rl_mk (k + 5) (ab_fu rk v (rk w - 1)) (mk_f sl v s s (sl w) (sl w)) (mk_f d v s dd (fun i => d w (fo_s (rk w) a i)) (fun i => d w (fo_s (rk w) a i))) (mk_f G v s (mk_g s dd) (fun x y z => G w (ab_crd x y z (fo_i (rk w) a 0)) (ab_crd x y z (fo_i (rk w) a 1)) (ab_crd x y z (fo_i (rk w) a 2))) (fun x y z => G w (ab_crd x y z (fo_i (rk w) a 0)) (ab_crd x y z (fo_i (rk w) a 1)) (ab_crd x y z (fo_i (rk w) a 2)))) (ages ++ [s]) (ab_fu sz s (dd 0 * dd 1 * dd 2)) (ab_fu kd s 3) (ab_fu tm s (d w a)) (ab_fu yk s 4) (rl_cl cl f s) ?_ ?_ hS
            · refine rl_resX (e1 := fun i => d w (fo_s (rk w) a i)) (e2 := fun i => d w (fo_s (rk w) a i)) hs hsn hv H rfl hce (by omega) da.1 da.2 hne1 hne1 hnn hnn w3.2.1 w3.2.1 (fun x y z hx hy hz => ?_) (fun x y z hx hy hz => ?_) hX
              · rw [fo_eq kw3 ha]; exact e1w x y z hx hy hz
              · rw [fo_eq kw3 ha]; exact e1w x y z hx hy hz
            · refine rl_resY (tt := d w a) (kk := 3) (r := rk w - 1) (e1 := fun i => d w (fo_s (rk w) a i)) (e2 := fun i => d w (fo_s (rk w) a i)) hs hsn hv H rfl (by omega) da.2 hne1 hne1 w3.2.1 w3.2.1 (fun x y z hx hy hz => (e1w x y z hx hy hz).2.1) (fun x y z hx hy hz => (e1w x y z hx hy hz).2.1) pk_us ?_ e1 ?_ s1 ?_ ⟨A1, A2, A3, A4, A5, A6, A7⟩ (by rw [if_pos rfl]; exact Y) ?_ (fun z => absurd rfl z) ?_ (yb_btn (by omega)) (fun _ => ⟨by unfold yb_bt; rw [ab_vbm2]; decide, rfl⟩) (fun z => absurd rfl z) hX hY
              · intro i hi hi2; rw [pk_un hi2]; exact r1 i hi
              · intro j hj hj2; rw [e2 j hj2]; exact d1 j hj
              · intro j hj hj2; rw [s2 j hj2]; exact A7 j hj
              · intro _ i t hi ht
                have := fo_lin (g := G w) (i := i) w2 ha (by rw [hdd]; exact hi) ht
                rw [hdd] at this
                exact congrArg cl this.symm
              · exact Or.inr (Or.inr (Or.inr (Or.inr ⟨rfl, Or.inl rfl⟩)))
          · exact absurd (Or.inr (Or.inr vn)) hres
        · exact absurd (Or.inl sn) hres
    · unfold wpX_fold
      refine xw_hasAxis_f2 hw hT w1 w2.1 hA (br_t rfl ?_)
      exact yf_f2 hw hU yw.1 w2.1 hA ⟨rfl, I⟩
  · unfold wpX_fold
    refine xw_hasAxis_f1 hH (br_t rfl ?_)
    exact yf_f1 (by rw [hu]; exact hH) ⟨rfl, I⟩
