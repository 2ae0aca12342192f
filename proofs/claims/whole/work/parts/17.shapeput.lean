def ab_isE (n : Nat) (x : Int32) : Prop := ∃ i, i < n ∧ x = nI i
theorem ab_notE {n : Nat} {x : Int32} (h : ¬ ab_isE n x) (h0 : ¬ x < 0) (h1 : x < nI n) (hn : n < 2 ^ 31) : False := by
  obtain ⟨j, hj, rfl⟩ := nI_of h0
  exact h ⟨j, (nI_ltI hj hn).mp h1, rfl⟩
theorem ab_sh2 : ∀ a, a < 3 → (((3 * (nI a + 1)) &&& 31).toBitVec.smod 32).toNat = 3 + 3 * a := by
  intro a ha
  rcases (show a = 0 ∨ a = 1 ∨ a = 2 by omega) with rfl | rfl | rfl <;> decide
section
variable {f_slotsTaken f_elementsTaken f_slopeCount : Int32} {a_handleTaken a_handleIsView a_windowRank a_windowSlot a_windowStart a_windowDimension a_windowStride a_slotSize a_slotKind a_slotTerms a_slotNeeded a_slotsByAge a_values a_derivatives a_firstPlaces a_secondPlaces a_assigned a_slopes : Nat → Int32}
theorem xw_hasElement_t {post : Int32 → Prop} {w i : Nat} {dw : Nat → Nat} (hw : w < 24) (ht : ¬ a_handleTaken w = 0) (hd : ∀ a, a < 3 → a_windowDimension (3 * w + a) = nI (dw a)) (hs : dw 0 * dw 1 * dw 2 ≤ 64) (hi : i < dw 0 * dw 1 * dw 2) (hp : post 1) : wpX_hasElement post (f_slotsTaken, f_elementsTaken, f_slopeCount, a_handleTaken, a_handleIsView, a_windowRank, a_windowSlot, a_windowStart, a_windowDimension, a_windowStride, a_slotSize, a_slotKind, a_slotTerms, a_slotNeeded, a_slotsByAge, a_values, a_derivatives, a_firstPlaces, a_secondPlaces, a_assigned, a_slopes) (nI w) (nI i) := by
  unfold wpX_hasElement
  exact xw_isHandle_t hw ht (br_f ab_10 (br_f (nI_pos (by omega)) (xw_windowSize (by omega) (hd 0 (by omega)) (hd 1 (by omega)) (hd 2 (by omega)) (br_f (nI_ge hi (by omega)) hp))))
theorem xw_hasElement_f1 {post : Int32 → Prop} {x y : Int32} (hx : ¬ ab_isH a_handleTaken x) (hp : post 0) : wpX_hasElement post (f_slotsTaken, f_elementsTaken, f_slopeCount, a_handleTaken, a_handleIsView, a_windowRank, a_windowSlot, a_windowStart, a_windowDimension, a_windowStride, a_slotSize, a_slotKind, a_slotTerms, a_slotNeeded, a_slotsByAge, a_values, a_derivatives, a_firstPlaces, a_secondPlaces, a_assigned, a_slopes) x y := by
  unfold wpX_hasElement
  exact xw_isHandle_f hx (br_t rfl hp)
theorem xw_hasElement_f2 {post : Int32 → Prop} {w : Nat} {y : Int32} {dw : Nat → Nat} (hw : w < 24) (ht : ¬ a_handleTaken w = 0) (hd : ∀ a, a < 3 → a_windowDimension (3 * w + a) = nI (dw a)) (hs : dw 0 * dw 1 * dw 2 ≤ 64) (hi : ¬ ab_isE (dw 0 * dw 1 * dw 2) y) (hp : post 0) : wpX_hasElement post (f_slotsTaken, f_elementsTaken, f_slopeCount, a_handleTaken, a_handleIsView, a_windowRank, a_windowSlot, a_windowStart, a_windowDimension, a_windowStride, a_slotSize, a_slotKind, a_slotTerms, a_slotNeeded, a_slotsByAge, a_values, a_derivatives, a_firstPlaces, a_secondPlaces, a_assigned, a_slopes) (nI w) y := by
  unfold wpX_hasElement
  refine xw_isHandle_t hw ht (br_f ab_10 (br_c (fun _ => hp) (fun h0 => xw_windowSize (by omega) (hd 0 (by omega)) (hd 1 (by omega)) (hd 2 (by omega)) (br_c (fun _ => hp) (fun h1 => ?_)))))
  exact absurd (ab_notE hi h0 (Int32.not_le.mp h1) (by omega)) id
end
section
variable {c_cells c_slopeCount : Int32} {b_used b_rank b_dims b_shown b_tensorOf b_view b_exists b_kind b_first b_second b_owner b_parts b_partCount b_value b_slopeOf b_order b_slopes : Nat → Int32}
theorem yb_shape_s {post : Int32 → Prop} {n h a rk q dv : Nat} (hh : h < 25) (hr : b_rank h = nI rk) (hk : rk ≤ 3) (ha : a < rk) (hd : b_dims (3 * h + a) = nI dv) (hd8 : dv < 8) (hn : wY_shape_19 post (nI h) c_cells c_slopeCount b_used b_rank b_dims b_shown b_tensorOf b_view b_exists b_kind b_first b_second b_owner b_parts b_partCount b_value b_slopeOf b_order b_slopes n (nI (q + dv * 2 ^ (3 + 3 * a))) (nI (a + 1))) : wY_shape_19 post (nI h) c_cells c_slopeCount b_used b_rank b_dims b_shown b_tensorOf b_view b_exists b_kind b_first b_second b_owner b_parts b_partCount b_value b_slopeOf b_order b_slopes (n + 1) (nI q) (nI a) := by
  refine ⟨vp_in_nI hh (by decide), br_f ?_ (yb_dim hh (by omega) (nm_r ?_ (nm_r (nI_1 a) hn)))⟩
  · rw [nI_clamp (by omega), hr]; exact nI_ge ha (by omega)
  · rw [hd, pk_shlN _ (3 + 3 * a) (ab_sh2 a (by omega)) ?_, nI_add]
    rcases (show a = 0 ∨ a = 1 ∨ a = 2 by omega) with rfl | rfl | rfl <;> omega
theorem yb_shape_x {post : Int32 → Prop} {n h a rk q : Nat} (hh : h < 25) (hr : b_rank h = nI rk) (hk : rk ≤ 3) (ha : a = rk) (hp : post (nI q)) : wY_shape_19 post (nI h) c_cells c_slopeCount b_used b_rank b_dims b_shown b_tensorOf b_view b_exists b_kind b_first b_second b_owner b_parts b_partCount b_value b_slopeOf b_order b_slopes (n + 1) (nI q) (nI a) := by
  refine ⟨vp_in_nI hh (by decide), br_t ?_ hp⟩
  rw [nI_clamp (by omega), hr]; exact nI_le (by omega) (by omega)
theorem yb_shape {post : Int32 → Prop} {w rk : Nat} {d : Nat → Nat} (hw : w < 24) (hU : ¬ b_used w = 0) (H : yb_row b_rank b_dims w rk d) (hp : post (nI (ab_pk rk d))) : wpY_shape post (c_cells, c_slopeCount, b_used, b_rank, b_dims, b_shown, b_tensorOf, b_view, b_exists, b_kind, b_first, b_second, b_owner, b_parts, b_partCount, b_value, b_slopeOf, b_order, b_slopes) (nI w) := by
  obtain ⟨hr, hk, hd, h1, hb⟩ := H
  have b0 := hb 0 (by omega)
  have b1 := hb 1 (by omega)
  have b2 := hb 2 (by omega)
  have hh : w < 25 := by omega
  unfold wpY_shape
  refine yb_isHandle_t hw hU (br_f ab_10 ⟨vp_in_nI (by omega) (by decide), nm_r (e' := nI rk) (by rw [nI_clamp (by omega), hr]) ⟨rk + 1, ?_⟩⟩)
  rcases (show rk = 0 ∨ rk = 1 ∨ rk = 2 ∨ rk = 3 by omega) with rfl | rfl | rfl | rfl
  · exact yb_shape_x (a := 0) hh hr hk rfl hp
  · refine yb_shape_s (a := 0) hh hr hk (by omega) (hd 0 (by omega)) (by omega) (yb_shape_x hh hr hk rfl ?_)
    have e : 1 + d 0 * 2 ^ (3 + 3 * 0) = ab_pk 1 d := by unfold ab_pk; simp; omega
    rw [e]; exact hp
  · refine yb_shape_s (a := 0) hh hr hk (by omega) (hd 0 (by omega)) (by omega) (yb_shape_s hh hr hk (by omega) (hd 1 (by omega)) (by omega) (yb_shape_x hh hr hk rfl ?_))
    have e : 2 + d 0 * 2 ^ (3 + 3 * 0) + d 1 * 2 ^ (3 + 3 * (0 + 1)) = ab_pk 2 d := by unfold ab_pk; simp; omega
    rw [e]; exact hp
  · refine yb_shape_s (a := 0) hh hr hk (by omega) (hd 0 (by omega)) (by omega) (yb_shape_s hh hr hk (by omega) (hd 1 (by omega)) (by omega) (yb_shape_s hh hr hk (by omega) (hd 2 (by omega)) (by omega) (yb_shape_x hh hr hk rfl ?_)))
    have e : 3 + d 0 * 2 ^ (3 + 3 * 0) + d 1 * 2 ^ (3 + 3 * (0 + 1)) + d 2 * 2 ^ (3 + 3 * (0 + 1 + 1)) = ab_pk 3 d := by unfold ab_pk; simp; omega
    rw [e]; exact hp
end
theorem i_vc_shape {k : Nat} {u : SX} {v : SY} (I : i_Rel k u v) (hk : k + 5 ≤ 2560) (v1 : Int32) : wpX_shape (fun r => wpY_shape (fun r' => r' = r ∧ i_Rel (k + 5) u v) v v1) u v1 := by
  obtain ⟨f_slotsTaken, f_elementsTaken, f_slopeCount, a_handleTaken, a_handleIsView, a_windowRank, a_windowSlot, a_windowStart, a_windowDimension, a_windowStride, a_slotSize, a_slotKind, a_slotTerms, a_slotNeeded, a_slotsByAge, a_values, a_derivatives, a_firstPlaces, a_secondPlaces, a_assigned, a_slopes⟩ := u
  obtain ⟨c_cells, c_slopeCount, b_used, b_rank, b_dims, b_shown, b_tensorOf, b_view, b_exists, b_kind, b_first, b_second, b_owner, b_parts, b_partCount, b_value, b_slopeOf, b_order, b_slopes⟩ := v
  have I' := I
  obtain ⟨rk, sl, d, G, ages, sz, kd, tm, yk, cl, hX, hY, hS⟩ := I'
  have hu := hY.1.1
  unfold wpX_shape
  by_cases hH : ab_isH a_handleTaken v1
  · obtain ⟨w, hw, rfl, hT⟩ := hH
    obtain ⟨w1, w2, w3, w4⟩ := hX.2.2.2.2 w hw hT
    have yw := hY.2.2.2.2.1 w hw hT
    exact xw_isHandle_t hw hT (br_f ab_10 (xw_packedShape (by omega) w2 w1 (fun a ha => (w3.2.2.1 a ha).1) (yb_shape hw (by rw [hu]; exact hT) (rl_row w2 yw) ⟨rfl, I⟩)))
  · refine xw_isHandle_f hH (br_t rfl ?_)
    unfold wpY_shape
    exact yb_isHandle_f (by rw [hu]; exact hH) (br_t rfl ⟨rfl, I⟩)
theorem rl_krL {k y t : Nat} (h : rl_kr k y t) : y < 7 ∧ k ≤ 4 ∧ (k = 4 ↔ y = 0) := by unfold rl_kr at h; omega
theorem rl_pin {sl sz : Nat → Nat} {d : Nat → Nat → Nat} {G : Nat → Nat → Nat → Nat → Nat} {ages : List Nat} {S St D E : Nat → Int32} {w e : Nat} (W : rl_win sl d G ages sz S St D E w) : rl_p d G w e / 64 = sl w ∧ rl_p d G w e % 64 < sz (sl w) := by
  obtain ⟨w1, w2, w3, w4⟩ := W
  obtain ⟨p1, p2, p3⟩ := ab_pfi (e := e) (w3 0 (by omega)).2.1 (w3 1 (by omega)).2.1 (w3 2 (by omega)).2.1
  exact (w4 _ _ _ p1 p2 p3).2
theorem rl_pmem {rk sl sz kd tm : Nat → Nat} {d : Nat → Nat → Nat} {G : Nat → Nat → Nat → Nat → Nat} {ages : List Nat} {fs fe : Int32} {T V R S St D E Sz Kd Tm Ag : Nat → Int32} (H : rl_X rk sl d G ages sz kd tm fs fe T V R S St D E Sz Kd Tm Ag) {w e : Nat} (W : rl_win sl d G ages sz S St D E w) : rl_p d G w e ∈ ab_fl sz ages ∧ rl_p d G w e < 2048 := by
  obtain ⟨q1, q2⟩ := rl_pin (e := e) W
  have h1 := H.2.2.1.2.1 _ W.2.1
  have h2 := (H.2.2.2.1 _ W.2.1).2.2.1
  refine ⟨?_, by omega⟩
  rw [rl_mem H, q1]
  exact ⟨W.2.1, q2⟩
section
variable {f_slotsTaken f_elementsTaken f_slopeCount : Int32} {a_handleTaken a_handleIsView a_windowRank a_windowSlot a_windowStart a_windowDimension a_windowStride a_slotSize a_slotKind a_slotTerms a_slotNeeded a_slotsByAge a_values a_derivatives a_firstPlaces a_secondPlaces a_assigned a_slopes : Nat → Int32}
theorem xl_win_firstPlaces {post : Int32 → SX → Prop} {sl sz : Nat → Nat} {d : Nat → Nat → Nat} {G : Nat → Nat → Nat → Nat → Nat} {ages : List Nat} {w : Nat} (hw : w < 88) (W : rl_win sl d G ages sz a_windowSlot a_windowStart a_windowDimension a_windowStride w) (h : ∀ F : Nat → Int32, (∀ e, e < rl_n d w → F e = nI (rl_p d G w e)) → post (nI (rl_n d w)) (f_slotsTaken, f_elementsTaken, f_slopeCount, a_handleTaken, a_handleIsView, a_windowRank, a_windowSlot, a_windowStart, a_windowDimension, a_windowStride, a_slotSize, a_slotKind, a_slotTerms, a_slotNeeded, a_slotsByAge, a_values, a_derivatives, F, a_secondPlaces, a_assigned, a_slopes)) : wpX_listPlaces__firstPlaces post (f_slotsTaken, f_elementsTaken, f_slopeCount, a_handleTaken, a_handleIsView, a_windowRank, a_windowSlot, a_windowStart, a_windowDimension, a_windowStride, a_slotSize, a_slotKind, a_slotTerms, a_slotNeeded, a_slotsByAge, a_values, a_derivatives, a_firstPlaces, a_secondPlaces, a_assigned, a_slopes) (nI w) := by
  obtain ⟨w1, w2, w3, w4⟩ := W
  exact xl_list_firstPlaces hw (w3 0 (by omega)).1 (w3 1 (by omega)).1 (w3 2 (by omega)).1 (w3 0 (by omega)).2.2 (w3 1 (by omega)).2.2 (w3 2 (by omega)).2.2 (fun x y z hx hy hz => (w4 x y z hx hy hz).1) h
theorem xl_win_secondPlaces {post : Int32 → SX → Prop} {sl sz : Nat → Nat} {d : Nat → Nat → Nat} {G : Nat → Nat → Nat → Nat → Nat} {ages : List Nat} {w : Nat} (hw : w < 88) (W : rl_win sl d G ages sz a_windowSlot a_windowStart a_windowDimension a_windowStride w) (h : ∀ F : Nat → Int32, (∀ e, e < rl_n d w → F e = nI (rl_p d G w e)) → post (nI (rl_n d w)) (f_slotsTaken, f_elementsTaken, f_slopeCount, a_handleTaken, a_handleIsView, a_windowRank, a_windowSlot, a_windowStart, a_windowDimension, a_windowStride, a_slotSize, a_slotKind, a_slotTerms, a_slotNeeded, a_slotsByAge, a_values, a_derivatives, a_firstPlaces, F, a_assigned, a_slopes)) : wpX_listPlaces__secondPlaces post (f_slotsTaken, f_elementsTaken, f_slopeCount, a_handleTaken, a_handleIsView, a_windowRank, a_windowSlot, a_windowStart, a_windowDimension, a_windowStride, a_slotSize, a_slotKind, a_slotTerms, a_slotNeeded, a_slotsByAge, a_values, a_derivatives, a_firstPlaces, a_secondPlaces, a_assigned, a_slopes) (nI w) := by
  obtain ⟨w1, w2, w3, w4⟩ := W
  exact xl_list_secondPlaces hw (w3 0 (by omega)).1 (w3 1 (by omega)).1 (w3 2 (by omega)).1 (w3 0 (by omega)).2.2 (w3 1 (by omega)).2.2 (w3 2 (by omega)).2.2 (fun x y z hx hy hz => (w4 x y z hx hy hz).1) h
end
section
variable {f_slotsTaken f_elementsTaken f_slopeCount : Int32} {a_handleTaken a_handleIsView a_windowRank a_windowSlot a_windowStart a_windowDimension a_windowStride a_slotSize a_slotKind a_slotTerms a_slotNeeded a_slotsByAge a_values a_derivatives a_firstPlaces a_secondPlaces a_assigned a_slopes : Nat → Int32}
theorem xv_put_n {post : Int32 → SX → Prop} {w n s kk : Nat} {y z : Int32} {dw : Nat → Nat} (hw : w < 24) (hT : ¬ a_handleTaken w = 0) (hd : ∀ a, a < 3 → a_windowDimension (3 * w + a) = nI (dw a)) (hs : dw 0 * dw 1 * dw 2 ≤ 64) (hsl : a_windowSlot w = nI s) (hs32 : s < 32) (hkd : a_slotKind s = nI kk) (hk4 : kk ≤ 4) (hno : ¬ ab_isE (dw 0 * dw 1 * dw 2) y ∨ kk ≠ 4) (hp : post 0 (f_slotsTaken, f_elementsTaken, f_slopeCount, a_handleTaken, a_handleIsView, a_windowRank, a_windowSlot, a_windowStart, a_windowDimension, a_windowStride, a_slotSize, a_slotKind, a_slotTerms, a_slotNeeded, a_slotsByAge, a_values, a_derivatives, a_firstPlaces, a_secondPlaces, a_assigned, a_slopes)) : wpX_put post (f_slotsTaken, f_elementsTaken, f_slopeCount, a_handleTaken, a_handleIsView, a_windowRank, a_windowSlot, a_windowStart, a_windowDimension, a_windowStride, a_slotSize, a_slotKind, a_slotTerms, a_slotNeeded, a_slotsByAge, a_values, a_derivatives, a_firstPlaces, a_secondPlaces, a_assigned, a_slopes) (nI w) y z := by
  unfold wpX_put
  by_cases hE : ab_isE (dw 0 * dw 1 * dw 2) y
  · obtain ⟨i, hi, rfl⟩ := hE
    refine xw_hasElement_t hw hT hd hs hi (br_f ab_10 ⟨vp_in_nI (by omega) (by decide), ?_⟩)
    rw [nI_clamp (by omega), hsl, nI_clamp (by omega), hkd]
    refine ⟨vp_in_nI hs32 (by decide), br_f ?_ hp⟩
    rcases hno with q | q
    · exact absurd ⟨i, hi, rfl⟩ q
    · intro z; exact q ((nI_eq (b := 4) (by omega) (by decide)).mp z)
  · exact xw_hasElement_f2 hw hT hd hs hE (br_t rfl hp)
end
section
variable {c_cells c_slopeCount : Int32} {b_used b_rank b_dims b_shown b_tensorOf b_view b_exists b_kind b_first b_second b_owner b_parts b_partCount b_value b_slopeOf b_order b_slopes : Nat → Int32}
theorem yv_put_n {post : Int32 → SY → Prop} {w s kk rk : Nat} {y z : Int32} {dw : Nat → Nat} (hw : w < 24) (hU : ¬ b_used w = 0) (H : yb_row b_rank b_dims w rk dw) (hsl : b_tensorOf w = nI s) (hs32 : s < 32) (hkd : b_kind s = nI kk) (hk4 : kk < 7) (hno : ¬ ab_isE (dw 0 * dw 1 * dw 2) y ∨ kk ≠ 0) (hp : post 0 (c_cells, c_slopeCount, b_used, b_rank, b_dims, b_shown, b_tensorOf, b_view, b_exists, b_kind, b_first, b_second, b_owner, b_parts, b_partCount, b_value, b_slopeOf, b_order, b_slopes)) : wpY_put post (c_cells, c_slopeCount, b_used, b_rank, b_dims, b_shown, b_tensorOf, b_view, b_exists, b_kind, b_first, b_second, b_owner, b_parts, b_partCount, b_value, b_slopeOf, b_order, b_slopes) (nI w) y z := by
  have hs := ab_sz (H.2.2.2.2 0 (by omega)).2 (H.2.2.2.2 1 (by omega)).2 (H.2.2.2.2 2 (by omega)).2
  unfold wpY_put
  refine yb_isHandle_t hw hU (br_f ab_10 ⟨vp_in_nI (by omega) (by decide), ?_⟩)
  rw [nI_clamp (by omega), hsl, nI_clamp (by omega), hkd]
  refine ⟨vp_in_nI hs32 (by decide), br_c (fun k0 => br_c (fun _ => hp) (fun h0 => yb_size (by omega) H (br_c (fun h1 => ?_) (fun _ => hp)))) (fun _ => hp)⟩
  rcases hno with q | q
  · exact absurd (ab_notE q h0 h1 (by omega)) id
  · exact absurd ((nI_eq (b := 0) (by omega) (by decide)).mp k0) q
theorem yv_put {post : Int32 → SY → Prop} {w s rk i c : Nat} {z : Int32} {dw : Nat → Nat} (hw : w < 24) (hU : ¬ b_used w = 0) (H : yb_row b_rank b_dims w rk dw) (hsl : b_tensorOf w = nI s) (hs32 : s < 32) (hkd : b_kind s = 0) (hi : i < dw 0 * dw 1 * dw 2) (hc : b_shown (64 * w + i) = nI c) (hc2 : c < 320) (hp : post 1 (c_cells, c_slopeCount, b_used, b_rank, b_dims, b_shown, b_tensorOf, b_view, b_exists, b_kind, b_first, b_second, b_owner, b_parts, b_partCount, upd b_value c z, b_slopeOf, b_order, b_slopes)) : wpY_put post (c_cells, c_slopeCount, b_used, b_rank, b_dims, b_shown, b_tensorOf, b_view, b_exists, b_kind, b_first, b_second, b_owner, b_parts, b_partCount, b_value, b_slopeOf, b_order, b_slopes) (nI w) (nI i) z := by
  have hs := ab_sz (H.2.2.2.2 0 (by omega)).2 (H.2.2.2.2 1 (by omega)).2 (H.2.2.2.2 2 (by omega)).2
  unfold wpY_put
  refine yb_isHandle_t hw hU (br_f ab_10 ⟨vp_in_nI (by omega) (by decide), ?_⟩)
  rw [nI_clamp (by omega), hsl, nI_clamp (by omega), hkd]
  refine ⟨vp_in_nI hs32 (by decide), br_t rfl (br_f (nI_pos (by omega)) (yb_size (by omega) H (br_t (nI_lt hi (by omega)) ⟨ab_vin ab_i64 (by omega) (by decide), ?_⟩)))⟩
  rw [ab_i64, nI_clamp (by omega), hc, nI_clamp (by omega)]
  exact ⟨vp_in_nI hc2 (by decide), nm_e hp⟩
end
theorem i_vc_put {k : Nat} {u : SX} {v : SY} (I : i_Rel k u v) (hk : k + 5 ≤ 2560) (v1 : Int32) (v2 : Int32) (v3 : Int32) : wpX_put (fun r u' => wpY_put (fun r' v' => r' = r ∧ i_Rel (k + 5) u' v') v v1 v2 v3) u v1 v2 v3 := by
  obtain ⟨f_slotsTaken, f_elementsTaken, f_slopeCount, a_handleTaken, a_handleIsView, a_windowRank, a_windowSlot, a_windowStart, a_windowDimension, a_windowStride, a_slotSize, a_slotKind, a_slotTerms, a_slotNeeded, a_slotsByAge, a_values, a_derivatives, a_firstPlaces, a_secondPlaces, a_assigned, a_slopes⟩ := u
  obtain ⟨c_cells, c_slopeCount, b_used, b_rank, b_dims, b_shown, b_tensorOf, b_view, b_exists, b_kind, b_first, b_second, b_owner, b_parts, b_partCount, b_value, b_slopeOf, b_order, b_slopes⟩ := v
  have I' := I
  obtain ⟨rk, sl, d, G, ages, sz, kd, tm, yk, cl, hX, hY, hS⟩ := I'
  have hu := hY.1.1
  by_cases hH : ab_isH a_handleTaken v1
  · obtain ⟨w, hw, rfl, hT⟩ := hH
    obtain ⟨w1, w2, w3, w4⟩ := hX.2.2.2.2 w hw hT
    have yw := hY.2.2.2.2.1 w hw hT
    have hU : ¬ b_used w = 0 := by rw [hu]; exact hT
    have s32 := hX.2.2.1.2.1 _ w3.2.1
    have xs := hX.2.2.2.1 _ w3.2.1
    have ys := hY.2.2.2.2.2.1 _ w3.2.1
    have n64 := (rl_hk hX).2 w hw hT
    have kr := rl_krL ys.2.1
    by_cases hno : ¬ ab_isE (d w 0 * d w 1 * d w 2) v2 ∨ kd (sl w) ≠ 4
    · refine xv_put_n (n := 0) hw hT (fun a ha => (w3.2.2.1 a ha).1) n64 w3.1 s32 xs.2.2.2.1 xs.2.2.2.2.1 hno ?_
      refine yv_put_n hw hU (rl_row w2 yw) yw.2.2.1 s32 ys.1 kr.1 ?_ ⟨rfl, I⟩
      rcases hno with q | q
      · exact Or.inl q
      · exact Or.inr (fun z => q (kr.2.2.mpr z))
    · have n1 : ab_isE (d w 0 * d w 1 * d w 2) v2 := Classical.byContradiction (fun q => hno (Or.inl q))
      have n2 : kd (sl w) = 4 := Classical.byContradiction (fun q => hno (Or.inr q))
      obtain ⟨i, hi, rfl⟩ := n1
      obtain ⟨m1, m2⟩ := rl_pmem hX w3 (e := i)
      unfold wpX_put
      refine xw_hasElement_t hw hT (fun a ha => (w3.2.2.1 a ha).1) n64 hi (br_f ab_10 ⟨vp_in_nI (by omega) (by decide), ?_⟩)
      have hi64 : i < 64 := Nat.lt_of_lt_of_le hi n64
      rw [nI_clamp (show w < 2 ^ 31 by omega), w3.1, nI_clamp (show sl w < 2 ^ 31 by omega), xs.2.2.2.1, n2]
      refine ⟨vp_in_nI s32 (by decide), br_t rfl (xl_win_firstPlaces (by omega) w3 (fun F hF => ⟨vp_in_nI hi64 (by decide), ?_⟩))⟩
      rw [nI_clamp (show i < 2 ^ 31 by omega), hF i hi, nI_clamp (show rl_p d G w i < 2 ^ 31 by omega)]
      refine ⟨vp_in_nI m2 (by decide), nm_e ?_⟩
      refine yv_put (c := cl (rl_p d G w i)) hw hU (rl_row w2 yw) yw.2.2.1 s32 (by rw [ys.1, kr.2.2.mp n2]; rfl) hi (yw.2.2.2 i hi) (hY.2.2.1.1 _ m1).1 ⟨rfl, ?_⟩
      obtain ⟨y1, y2, y3, y4, y5, y6, y7⟩ := hY
      refine rl_mk (k + 5) rk sl d G ages sz kd tm yk cl hX ⟨y1, y2, y3, y4, y5, y6, fun p hp hkp => ?_⟩ hS
      by_cases z : p = rl_p d G w i
      · rw [z, pk_us, pk_us]
      · rw [pk_un z, pk_un (fun q => z (y3.2.1 _ _ hp m1 q))]
        exact y7 p hp hkp
  · unfold wpX_put
    refine xw_hasElement_f1 hH (br_t rfl ?_)
    unfold wpY_put
    exact yb_isHandle_f (by rw [hu]; exact hH) (br_t rfl ⟨rfl, I⟩)
