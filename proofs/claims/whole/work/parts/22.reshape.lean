def sp_ok (q : Nat) : Prop := q ≤ 4095 ∧ q % 8 ≤ 3 ∧ ∀ a, a < 3 → (a < q % 8 → 1 ≤ q / 2 ^ (3 + 3 * a) % 8 ∧ q / 2 ^ (3 + 3 * a) % 8 ≤ 4) ∧ (q % 8 ≤ a → q / 2 ^ (3 + 3 * a) % 8 = 0)
def sp_d (q a : Nat) : Nat := if a < q % 8 then q / 2 ^ (3 + 3 * a) % 8 else 1
theorem sp_sh {q : Nat} (h : sp_ok q) : ab_sh3 (q % 8) (sp_d q) := by
  refine ⟨h.2.1, fun a h1 h2 => ?_, fun a ha => ?_⟩
  · unfold sp_d; rw [if_neg (by omega)]
  · unfold sp_d; split
    · rename_i z; exact (h.2.2 a ha).1 z
    · omega
theorem sp_pk {q : Nat} (h : sp_ok q) : ab_pk (q % 8) (sp_d q) = q := by
  obtain ⟨h1, h2, h3⟩ := h
  have a0 := h3 0 (by omega)
  have a1 := h3 1 (by omega)
  have a2 := h3 2 (by omega)
  unfold ab_pk sp_d
  generalize hr : q % 8 = r at *
  rcases (show r = 0 ∨ r = 1 ∨ r = 2 ∨ r = 3 by omega) with rfl | rfl | rfl | rfl <;> simp at * <;> omega
theorem ab_hi {y : Int32} {m : Nat} (hm : m < 2 ^ 31) (h0 : ¬ y < 0) (h1 : y ≤ nI m) : ∃ q, q ≤ m ∧ y = nI q := by
  obtain ⟨j, hj, rfl⟩ := nI_of h0
  exact ⟨j, (nI_leI hj hm).mp h1, rfl⟩
section
variable {f_slotsTaken f_elementsTaken f_slopeCount : Int32} {a_handleTaken a_handleIsView a_windowRank a_windowSlot a_windowStart a_windowDimension a_windowStride a_slotSize a_slotKind a_slotTerms a_slotNeeded a_slotsByAge a_values a_derivatives a_firstPlaces a_secondPlaces a_assigned a_slopes : Nat → Int32}
theorem xs_step {post : Int32 → Prop} {q a r n : Nat} (ha : a < 3) (hq : q ≤ 4095) (hr : r ≤ 3) (hok : (a < r → 1 ≤ q / 2 ^ (3 + 3 * a) % 8 ∧ q / 2 ^ (3 + 3 * a) % 8 ≤ 4) ∧ (r ≤ a → q / 2 ^ (3 + 3 * a) % 8 = 0)) (h : wX_isShape_27 post (nI q) (nI r) f_slotsTaken f_elementsTaken f_slopeCount a_handleTaken a_handleIsView a_windowRank a_windowSlot a_windowStart a_windowDimension a_windowStride a_slotSize a_slotKind a_slotTerms a_slotNeeded a_slotsByAge a_values a_derivatives a_firstPlaces a_secondPlaces a_assigned a_slopes n (nI (a + 1))) : wX_isShape_27 post (nI q) (nI r) f_slotsTaken f_elementsTaken f_slopeCount a_handleTaken a_handleIsView a_windowRank a_windowSlot a_windowStart a_windowDimension a_windowStride a_slotSize a_slotKind a_slotTerms a_slotNeeded a_slotsByAge a_values a_derivatives a_firstPlaces a_secondPlaces a_assigned a_slopes (n + 1) (nI a) := by
  refine br_f (nI_ge (b := 3) ha (by decide)) (xw_dimIn ha (by omega) ?_)
  by_cases z : r ≤ a
  · rw [hok.2 z]
    exact br_t (nI_le z (by omega)) (br_t rfl (br_f ab_10 (nm_r (nI_1 a) h)))
  · have := hok.1 (by omega)
    exact br_f (nI_ge (by omega) (by omega)) (xw_isDim_t this.1 this.2 (br_f ab_10 (nm_r (nI_1 a) h)))
theorem xs_stepf {post : Int32 → Prop} {q a r n : Nat} (ha : a < 3) (hq : q ≤ 4095) (hr : r ≤ 3) (hok : ¬ ((a < r → 1 ≤ q / 2 ^ (3 + 3 * a) % 8 ∧ q / 2 ^ (3 + 3 * a) % 8 ≤ 4) ∧ (r ≤ a → q / 2 ^ (3 + 3 * a) % 8 = 0))) (h : post 0) : wX_isShape_27 post (nI q) (nI r) f_slotsTaken f_elementsTaken f_slopeCount a_handleTaken a_handleIsView a_windowRank a_windowSlot a_windowStart a_windowDimension a_windowStride a_slotSize a_slotKind a_slotTerms a_slotNeeded a_slotsByAge a_values a_derivatives a_firstPlaces a_secondPlaces a_assigned a_slopes (n + 1) (nI a) := by
  have h8 : q / 2 ^ (3 + 3 * a) % 8 < 8 := Nat.mod_lt _ (by omega)
  refine br_f (nI_ge (b := 3) ha (by decide)) (xw_dimIn ha (by omega) ?_)
  by_cases z : r ≤ a
  · refine br_t (nI_le z (by omega)) (br_f (nI_ne0 ?_ (by omega)) (br_t rfl h))
    apply Nat.pos_of_ne_zero
    intro y
    exact hok ⟨fun w => by omega, fun _ => y⟩
  · refine br_f (nI_ge (by omega) (by omega)) (xw_isDim_f ?_ (br_t rfl h))
    rintro ⟨d, d1, d4, e⟩
    have := (nI_eq (by omega) (by omega)).mp e
    rw [this] at hok
    exact hok ⟨fun _ => ⟨d1, d4⟩, fun w => by omega⟩
theorem xs_isShape_t {post : Int32 → Prop} {q : Nat} (H : sp_ok q) (h : post 1) : wpX_isShape post (f_slotsTaken, f_elementsTaken, f_slopeCount, a_handleTaken, a_handleIsView, a_windowRank, a_windowSlot, a_windowStart, a_windowDimension, a_windowStride, a_slotSize, a_slotKind, a_slotTerms, a_slotNeeded, a_slotsByAge, a_values, a_derivatives, a_firstPlaces, a_secondPlaces, a_assigned, a_slopes) (nI q) := by
  obtain ⟨h1, h2, h3⟩ := H
  refine br_f (nI_pos (by omega)) (br_t (nI_le (b := 4095) h1 (by decide)) (nm_r (e' := nI (q % 8)) (pk_andN (by omega) 3 (by decide)) (br_t (nI_le (b := 3) h2 (by decide)) ⟨4, ?_⟩)))
  exact xs_step (a := 0) (by omega) h1 h2 (h3 0 (by omega)) (xs_step (by omega) h1 h2 (h3 1 (by omega)) (xs_step (by omega) h1 h2 (h3 2 (by omega)) (br_t (by decide) h)))
theorem xs_isShape_f {post : Int32 → Prop} {x : Int32} (H : ¬ ∃ q, x = nI q ∧ sp_ok q) (h : post 0) : wpX_isShape post (f_slotsTaken, f_elementsTaken, f_slopeCount, a_handleTaken, a_handleIsView, a_windowRank, a_windowSlot, a_windowStart, a_windowDimension, a_windowStride, a_slotSize, a_slotKind, a_slotTerms, a_slotNeeded, a_slotsByAge, a_values, a_derivatives, a_firstPlaces, a_secondPlaces, a_assigned, a_slopes) x := by
  refine br_c (fun _ => h) (fun h0 => br_c (fun h1 => ?_) (fun _ => h))
  obtain ⟨q, hq, rfl⟩ := ab_hi (m := 4095) (by decide) h0 h1
  refine nm_r (e' := nI (q % 8)) (pk_andN (by omega) 3 (by decide)) (br_c (fun h2 => ⟨4, ?_⟩) (fun _ => h))
  have r3 : q % 8 ≤ 3 := (nI_leI (b := 3) (by omega) (by decide)).mp h2
  by_cases k0 : ((0 < q % 8 → 1 ≤ q / 2 ^ (3 + 3 * 0) % 8 ∧ q / 2 ^ (3 + 3 * 0) % 8 ≤ 4) ∧ (q % 8 ≤ 0 → q / 2 ^ (3 + 3 * 0) % 8 = 0))
  · refine xs_step (a := 0) (by omega) hq r3 k0 ?_
    by_cases k1 : ((1 < q % 8 → 1 ≤ q / 2 ^ (3 + 3 * 1) % 8 ∧ q / 2 ^ (3 + 3 * 1) % 8 ≤ 4) ∧ (q % 8 ≤ 1 → q / 2 ^ (3 + 3 * 1) % 8 = 0))
    · refine xs_step (a := 1) (by omega) hq r3 k1 ?_
      by_cases k2 : ((2 < q % 8 → 1 ≤ q / 2 ^ (3 + 3 * 2) % 8 ∧ q / 2 ^ (3 + 3 * 2) % 8 ≤ 4) ∧ (q % 8 ≤ 2 → q / 2 ^ (3 + 3 * 2) % 8 = 0))
      · refine absurd ⟨q, rfl, hq, r3, fun a ha => ?_⟩ H
        rcases (show a = 0 ∨ a = 1 ∨ a = 2 by omega) with rfl | rfl | rfl
        · exact k0
        · exact k1
        · exact k2
      · exact xs_stepf (a := 2) (by omega) hq r3 k2 h
    · exact xs_stepf (a := 1) (by omega) hq r3 k1 h
  · exact xs_stepf (a := 0) (by omega) hq r3 k0 h
theorem xw_firstSource {post : Int32 → Prop} {s : Nat} (h : post (nI (24 + 2 * s))) : wpX_firstSource post (f_slotsTaken, f_elementsTaken, f_slopeCount, a_handleTaken, a_handleIsView, a_windowRank, a_windowSlot, a_windowStart, a_windowDimension, a_windowStride, a_slotSize, a_slotKind, a_slotTerms, a_slotNeeded, a_slotsByAge, a_values, a_derivatives, a_firstPlaces, a_secondPlaces, a_assigned, a_slopes) (nI s) := by
  show post (24 + 2 * nI s)
  rw [show (24 : Int32) + 2 * nI s = nI (24 + 2 * s) from by show nI 24 + nI 2 * nI s = _; rw [pk_mul, nI_add]]
  exact h
theorem xm_reshape {post : Int32 → SX → Prop} {w v s r c m q nh : Nat} {dd dw : Nat → Nat} (hw : w < 24) (hT : ¬ a_handleTaken w = 0) (hd : ∀ a, a < 3 → a_windowDimension (3 * w + a) = nI (dw a)) (hq : sp_ok q) (hr : q % 8 = r) (hdd : sp_d q = dd) (hsz : dw 0 * dw 1 * dw 2 = dd 0 * dd 1 * dd 2) (hc : f_elementsTaken = nI c) (hce : c + dd 0 * dd 1 * dd 2 ≤ 320) (hm : f_slotsTaken = nI m) (hm2 : m < 32) (hs : s < 32) (hs0 : a_slotSize s = 0) (hsl : ∀ j, j < s → ¬ a_slotSize j = 0) (hv : v < 24) (hv0 : a_handleTaken v = 0) (hvl : ∀ j, j < v → ¬ a_handleTaken j = 0) (h : post (nI v) (nI (m + 1), nI (c + dd 0 * dd 1 * dd 2), f_slopeCount, upd a_handleTaken v 1, upd a_handleIsView v 0, mk_u a_windowRank v s (nI r) (a_windowRank w) (a_windowRank w), mk_u a_windowSlot v s (nI s) (a_windowSlot w) (a_windowSlot w), mk_u a_windowStart v s (nI (64 * s)) (a_windowStart w) (a_windowStart w), mk_3 a_windowDimension v s (nI (dd 0)) (nI (dd 1)) (nI (dd 2)) (a_windowDimension (3 * w)) (a_windowDimension (3 * w + 1)) (a_windowDimension (3 * w + 2)) (a_windowDimension (3 * w)) (a_windowDimension (3 * w + 1)) (a_windowDimension (3 * w + 2)), mk_3 a_windowStride v s (nI (ab_st r dd 0)) (nI (ab_st r dd 1)) (nI (ab_st r dd 2)) (a_windowStride (3 * w)) (a_windowStride (3 * w + 1)) (a_windowStride (3 * w + 2)) (a_windowStride (3 * w)) (a_windowStride (3 * w + 1)) (a_windowStride (3 * w + 2)), upd a_slotSize s (nI (dd 0 * dd 1 * dd 2)), upd a_slotKind s 3, upd a_slotTerms s 1, a_slotNeeded, upd a_slotsByAge m (nI s), a_values, a_derivatives, a_firstPlaces, a_secondPlaces, a_assigned, a_slopes)) : wpX_reshape post (f_slotsTaken, f_elementsTaken, f_slopeCount, a_handleTaken, a_handleIsView, a_windowRank, a_windowSlot, a_windowStart, a_windowDimension, a_windowStride, a_slotSize, a_slotKind, a_slotTerms, a_slotNeeded, a_slotsByAge, a_values, a_derivatives, a_firstPlaces, a_secondPlaces, a_assigned, a_slopes) (nI w) (nI q) := by
  have hn : w ≠ v := fun e => hT (e ▸ hv0)
  have H : ab_sh3 r dd := by rw [← hr, ← hdd]; exact sp_sh hq
  have hpk : ab_pk r dd = q := by rw [← hr, ← hdd]; exact sp_pk hq
  unfold wpX_reshape
  refine xw_isHandle_t hw hT (br_f ab_10 (xs_isShape_t hq (br_f ab_10 (xw_windowSize (by omega) (hd 0 (by omega)) (hd 1 (by omega)) (hd 2 (by omega)) ?_))))
  rw [← hpk]
  refine xw_shapeSize H (br_t (by rw [hsz]) (xw_makeTensor_s H hc hce hm hm2 hs hs0 hsl hv hv0 hvl (br_f (nI_pos (by omega)) ⟨vp_in_nI (by omega) (by decide), ?_⟩)))
  rw [nI_clamp (by omega), pk_us]
  refine xw_firstSource (xw_copyWindow (by omega) (by omega) (by omega) ?_)
  rw [show nI (24 + 2 * s) + 1 = nI (25 + 2 * s) from by rw [nI_1]; congr 1; omega]
  refine xw_copyWindow (by omega) (by omega) (by omega) ?_
  rw [pk_un (show w ≠ 24 + 2 * s by omega), pk_un (show w ≠ 24 + 2 * s by omega), pk_un (show w ≠ 24 + 2 * s by omega), pk_un hn, pk_un hn, pk_un hn]
  have E3 : ∀ (g : Nat → Int32) (a b c : Int32) (i : Nat), i < 3 → ab_up3 g (3 * v) a b c (3 * w + i) = g (3 * w + i) := fun g a b c i hi => ab_en (by omega)
  have E4 : ∀ (g : Nat → Int32) (a b c : Int32) (i : Nat), i < 3 → ab_up3 g (3 * (24 + 2 * s)) a b c (3 * w + i) = g (3 * w + i) := fun g a b c i hi => ab_en (by omega)
  have E30 : ∀ (g : Nat → Int32) (a b c : Int32), ab_up3 g (3 * v) a b c (3 * w) = g (3 * w) := fun g a b c => ab_en (by omega)
  have E40 : ∀ (g : Nat → Int32) (a b c : Int32), ab_up3 g (3 * (24 + 2 * s)) a b c (3 * w) = g (3 * w) := fun g a b c => ab_en (by omega)
  rw [E40, E40, E30, E30, E4 _ _ _ _ 1 (by omega), E4 _ _ _ _ 1 (by omega), E4 _ _ _ _ 2 (by omega), E4 _ _ _ _ 2 (by omega), E3 _ _ _ _ 1 (by omega), E3 _ _ _ _ 1 (by omega), E3 _ _ _ _ 2 (by omega), E3 _ _ _ _ 2 (by omega)]
  exact h
theorem xm_reshape_n {post : Int32 → SX → Prop} {w c : Nat} {x : Int32} {dw : Nat → Nat} (hw : w < 24) (hT : ¬ a_handleTaken w = 0) (hd : ∀ a, a < 3 → a_windowDimension (3 * w + a) = nI (dw a)) (hd4 : dw 0 * dw 1 * dw 2 ≤ 64) (hc : f_elementsTaken = nI c) (hc2 : c ≤ 320) (hno : ∀ q, x = nI q → sp_ok q → dw 0 * dw 1 * dw 2 = sp_d q 0 * sp_d q 1 * sp_d q 2 → (∀ t, t < 32 → ¬ a_slotSize t = 0) ∨ 320 < c + dw 0 * dw 1 * dw 2 ∨ (∀ j, j < 24 → ¬ a_handleTaken j = 0)) (h : post (-1) (f_slotsTaken, f_elementsTaken, f_slopeCount, a_handleTaken, a_handleIsView, a_windowRank, a_windowSlot, a_windowStart, a_windowDimension, a_windowStride, a_slotSize, a_slotKind, a_slotTerms, a_slotNeeded, a_slotsByAge, a_values, a_derivatives, a_firstPlaces, a_secondPlaces, a_assigned, a_slopes)) : wpX_reshape post (f_slotsTaken, f_elementsTaken, f_slopeCount, a_handleTaken, a_handleIsView, a_windowRank, a_windowSlot, a_windowStart, a_windowDimension, a_windowStride, a_slotSize, a_slotKind, a_slotTerms, a_slotNeeded, a_slotsByAge, a_values, a_derivatives, a_firstPlaces, a_secondPlaces, a_assigned, a_slopes) (nI w) x := by
  unfold wpX_reshape
  refine xw_isHandle_t hw hT (br_f ab_10 ?_)
  by_cases hs : ∃ q, x = nI q ∧ sp_ok q
  · obtain ⟨q, rfl, hq⟩ := hs
    refine xs_isShape_t hq (br_f ab_10 (xw_windowSize (by omega) (hd 0 (by omega)) (hd 1 (by omega)) (hd 2 (by omega)) ?_))
    have H := sp_sh hq
    have hn64 := ab_sz (H.2.2 0 (by omega)).2 (H.2.2 1 (by omega)).2 (H.2.2 2 (by omega)).2
    have e : nI q = nI (ab_pk (q % 8) (sp_d q)) := by rw [sp_pk hq]
    rw [e]
    refine xw_shapeSize H (br_c (fun z => ?_) (fun _ => h))
    have z2 := (nI_eq (by omega) (by omega)).mp z
    exact xw_makeTensor_n H hc hc2 (by rw [← z2]; exact hno q rfl hq z2) (br_t (by decide) h)
  · exact xs_isShape_f hs (br_t rfl h)
end
section
variable {c_cells c_slopeCount : Int32} {b_used b_rank b_dims b_shown b_tensorOf b_view b_exists b_kind b_first b_second b_owner b_parts b_partCount b_value b_slopeOf b_order b_slopes : Nat → Int32}
theorem yr_step {post : Int32 → SY → Prop} {x1 : Int32} {a r n dv : Nat} (ha : a < 3) (hr : r ≤ 3) (hd : b_dims (72 + a) = nI dv) (hd8 : dv < 8) (hok : (a < r → 1 ≤ dv ∧ dv ≤ 4) ∧ (r ≤ a → dv = 0)) (h : wY_reshape_61 post x1 (nI r) c_cells c_slopeCount b_used b_rank b_dims b_shown b_tensorOf b_view b_exists b_kind b_first b_second b_owner b_parts b_partCount b_value b_slopeOf b_order b_slopes n (nI (a + 1))) : wY_reshape_61 post x1 (nI r) c_cells c_slopeCount b_used b_rank b_dims b_shown b_tensorOf b_view b_exists b_kind b_first b_second b_owner b_parts b_partCount b_value b_slopeOf b_order b_slopes (n + 1) (nI a) := by
  have e1 : (72 : Int32) + nI a = nI (72 + a) := nI_add 72 a
  refine br_f (nI_ge (b := 3) ha (by decide)) ⟨ab_vin e1 (by omega) (by decide), nm_r (e' := nI dv) (by rw [e1, nI_clamp (by omega), hd]) ?_⟩
  by_cases z : r ≤ a
  · rw [hok.2 z]
    exact br_t (nI_le z (by omega)) (br_t rfl (nm_r (nI_1 a) h))
  · have := hok.1 (by omega)
    exact br_f (nI_ge (by omega) (by omega)) (br_f (nI_nlt (b := 1) this.1 (by omega)) (br_t (nI_le (b := 4) this.2 (by decide)) (nm_r (nI_1 a) h)))
theorem yr_stepf {post : Int32 → SY → Prop} {x1 : Int32} {a r n dv : Nat} (ha : a < 3) (hr : r ≤ 3) (hd : b_dims (72 + a) = nI dv) (hd8 : dv < 8) (hok : ¬ ((a < r → 1 ≤ dv ∧ dv ≤ 4) ∧ (r ≤ a → dv = 0))) (h : post (-1) (c_cells, c_slopeCount, b_used, b_rank, b_dims, b_shown, b_tensorOf, b_view, b_exists, b_kind, b_first, b_second, b_owner, b_parts, b_partCount, b_value, b_slopeOf, b_order, b_slopes)) : wY_reshape_61 post x1 (nI r) c_cells c_slopeCount b_used b_rank b_dims b_shown b_tensorOf b_view b_exists b_kind b_first b_second b_owner b_parts b_partCount b_value b_slopeOf b_order b_slopes (n + 1) (nI a) := by
  have e1 : (72 : Int32) + nI a = nI (72 + a) := nI_add 72 a
  refine br_f (nI_ge (b := 3) ha (by decide)) ⟨ab_vin e1 (by omega) (by decide), nm_r (e' := nI dv) (by rw [e1, nI_clamp (by omega), hd]) ?_⟩
  by_cases z : r ≤ a
  · refine br_t (nI_le z (by omega)) (br_f (nI_ne0 ?_ (by omega)) h)
    apply Nat.pos_of_ne_zero
    intro y
    exact hok ⟨fun w => by omega, fun _ => y⟩
  · refine br_f (nI_ge (by omega) (by omega)) (br_c (fun _ => h) (fun a1 => br_c (fun a4 => ?_) (fun _ => h)))
    refine absurd ⟨fun _ => ⟨?_, (nI_leI (b := 4) (by omega) (by decide)).mp a4⟩, fun w => by omega⟩ hok
    apply Nat.lt_of_not_le; intro hc; exact a1 (nI_lt (b := 1) (by omega) (by decide))
theorem ym_reshape_1 {post : Int32 → SY → Prop} {w q : Nat} (hw : w < 24) (hU : ¬ b_used w = 0) (hq : q ≤ 4095) (hr : q % 8 ≤ 3) (h : ∃ n, wY_reshape_61 post (nI w) (nI (q % 8)) c_cells c_slopeCount b_used (upd b_rank 24 (nI (q % 8))) (ab_up3 b_dims 72 (nI (q / 2 ^ (3 + 3 * 0) % 8)) (nI (q / 2 ^ (3 + 3 * 1) % 8)) (nI (q / 2 ^ (3 + 3 * 2) % 8))) b_shown b_tensorOf b_view b_exists b_kind b_first b_second b_owner b_parts b_partCount b_value b_slopeOf b_order b_slopes n 0) : wpY_reshape post (c_cells, c_slopeCount, b_used, b_rank, b_dims, b_shown, b_tensorOf, b_view, b_exists, b_kind, b_first, b_second, b_owner, b_parts, b_partCount, b_value, b_slopeOf, b_order, b_slopes) (nI w) (nI q) := by
  have e0 : nI q - nI q / 8 * 8 = nI (q % 8) := pk_rem (d := 8) (by omega) (by omega) (by omega)
  have d1 : nI q / 8 = nI (q / 8) := pk_div (d := 8) (by omega) (by omega) (by omega)
  have e1 : nI (q / 8) - nI (q / 8) / 8 * 8 = nI (q / 8 % 8) := pk_rem (d := 8) (by omega) (by omega) (by omega)
  have d2 : nI q / 64 = nI (q / 64) := pk_div (d := 64) (by omega) (by omega) (by omega)
  have e2 : nI (q / 64) - nI (q / 64) / 8 * 8 = nI (q / 64 % 8) := pk_rem (d := 8) (by omega) (by omega) (by omega)
  have d3 : nI q / 512 = nI (q / 512) := pk_div (d := 512) (by omega) (by omega) (by omega)
  unfold wpY_reshape
  refine yb_isHandle_t hw hU (br_f ab_10 (br_f (nI_pos (by omega)) (br_f (nI_nlt (a := 4095) hq (by decide)) ⟨by decide, br_t (by rw [e0]; exact nI_le (b := 3) hr (by decide)) ⟨by decide, nm_r e0 ⟨by decide, by decide, by decide, by decide, by decide, ?_⟩⟩⟩)))
  rw [d1, e1, d2, e2, d3]
  refine yb_shapeNew (by omega) ?_
  rw [yb_btn (by omega), yb_btn (by omega), yb_btn (by omega), show q / 512 = q / 2 ^ (3 + 3 * 2) % 8 by omega]
  exact h
theorem ym_reshape_f {post : Int32 → SY → Prop} {w : Nat} {x : Int32} (hw : w < 24) (hU : ¬ b_used w = 0) (hno : ¬ ∃ q, x = nI q ∧ q ≤ 4095 ∧ q % 8 ≤ 3) (h : post (-1) (c_cells, c_slopeCount, b_used, b_rank, b_dims, b_shown, b_tensorOf, b_view, b_exists, b_kind, b_first, b_second, b_owner, b_parts, b_partCount, b_value, b_slopeOf, b_order, b_slopes)) : wpY_reshape post (c_cells, c_slopeCount, b_used, b_rank, b_dims, b_shown, b_tensorOf, b_view, b_exists, b_kind, b_first, b_second, b_owner, b_parts, b_partCount, b_value, b_slopeOf, b_order, b_slopes) (nI w) x := by
  unfold wpY_reshape
  refine yb_isHandle_t hw hU (br_f ab_10 (br_c (fun _ => h) (fun h0 => br_c (fun _ => h) (fun h1 => ⟨by decide, br_c (fun h2 => ?_) (fun _ => h)⟩))))
  obtain ⟨q, hq, rfl⟩ := ab_hi (m := 4095) (by decide) h0 (Int32.not_lt.mp h1)
  rw [show nI q - nI q / 8 * 8 = nI (q % 8) from pk_rem (d := 8) (by omega) (by omega) (by omega)] at h2
  exact absurd ⟨q, rfl, hq, (nI_leI (b := 3) (by omega) (by decide)).mp h2⟩ hno
theorem ym_rloop {post : Int32 → SY → Prop} {w v s r N : Nat} {dd f cw : Nat → Nat} {P0 C0 : Nat → Int32} (hw : w < 24) (H24 : yb_row b_rank b_dims 24 r dd) (hN : N ≤ 64) (hs : s < 32) (hfi : ∀ i j, i < N → j < N → f i = f j → i = j) (hf : ∀ i, i < N → f i < 320) (hS : ∀ i, i < N → b_shown (1536 + i) = nI (f i)) (hc : ∀ i, i < N → b_shown (64 * w + i) = nI (cw i) ∧ cw i < 320) (hv : v < 24) (hv0 : b_used v = 0) (hvl : ∀ j, j < v → ¬ b_used j = 0) (h : ∀ P C D S : Nat → Int32, yp_ok f N (fun i _ => cw i) (fun _ => 1) P0 C0 P C → (∀ a, a < r → D (3 * v + a) = nI (dd a)) → (∀ j, (j < 3 * v ∨ 3 * v + 3 ≤ j) → D j = b_dims j) → (∀ i, i < N → S (64 * v + i) = nI (f i)) → (∀ j, (j < 64 * v ∨ 64 * v + 64 ≤ j) → S j = b_shown j) → post (nI v) (c_cells, c_slopeCount, upd b_used v 1, upd b_rank v (nI r), D, S, upd b_tensorOf v (nI s), upd b_view v 0, b_exists, b_kind, b_first, b_second, b_owner, P, C, b_value, b_slopeOf, b_order, b_slopes)) : ∀ (q j : Nat) (P C : Nat → Int32), j + q = N → yp_ok f N (fun i _ => cw i) (yp_c 1 j 0) P0 C0 P C → wY_reshape_158 post (nI w) (nI N) (nI s) (q + 1) (nI j) c_cells c_slopeCount b_used b_rank b_dims b_shown b_tensorOf b_view b_exists b_kind b_first b_second b_owner P C b_value b_slopeOf b_order b_slopes := by
  intro q
  induction q with
  | zero =>
    intro j P C hj A
    have : j = N := by omega
    subst this
    refine br_t (nI_le (by omega) (by omega)) ?_
    refine yv_hand (e := dd) (c := f) (N := j) hv hv0 hvl hs H24.1 H24.2.1 hN (fun a ha => H24.2.2.1 a ha) (fun a ha => (H24.2.2.2.2 a ha).2) hS hf (fun D S d1 d2 s1 s2 => ?_)
    rw [ab_b0]
    exact h P C D S (yp_x A) d1 d2 s1 s2
  | succ q ih =>
    intro j P C hj A
    obtain ⟨c1, c2⟩ := hc j (by omega)
    refine br_f (nI_ge (by omega) (by omega)) ⟨ab_vin ab_i64 (by omega) (by decide), ?_⟩
    rw [ab_i64, nI_clamp (by omega), c1]
    exact yp_part (K := 1) (m := 0) hN hfi hf (by omega) (by omega) (by omega) (hS j (by omega)) rfl c2 A (fun P' C' A' => nm_r (nI_1 j) (ih (j + 1) P' C' (by omega) (yp_n A')))
end
