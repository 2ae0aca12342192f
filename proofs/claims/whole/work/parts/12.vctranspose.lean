theorem ab_iy0 {w : Nat} : 3 * nI w = nI (3 * w) := by
  show nI 3 * nI w = _
  rw [pk_mul]
theorem tr_rng {a b x y z : Nat} {dw : Nat → Nat} (ha : a < 3) (hb : b < 3) : x < dw (tr_s a b 0) → y < dw (tr_s a b 1) → z < dw (tr_s a b 2) → ab_crd x y z (tr_s a b 0) < dw 0 ∧ ab_crd x y z (tr_s a b 1) < dw 1 ∧ ab_crd x y z (tr_s a b 2) < dw 2 := by
  rcases (show a = 0 ∨ a = 1 ∨ a = 2 by omega) with rfl | rfl | rfl <;> rcases (show b = 0 ∨ b = 1 ∨ b = 2 by omega) with rfl | rfl | rfl <;> simp [tr_s, ab_crd] <;> intro hx hy hz <;> exact ⟨by assumption, by assumption, by assumption⟩
theorem tr_eq {a b x y z k : Nat} {st : Int32} {E : Nat → Int32} (ha : a < 3) (hb : b < 3) : st + nI x * E (k + tr_s a b 0) + nI y * E (k + tr_s a b 1) + nI z * E (k + tr_s a b 2) = st + nI (ab_crd x y z (tr_s a b 0)) * E k + nI (ab_crd x y z (tr_s a b 1)) * E (k + 1) + nI (ab_crd x y z (tr_s a b 2)) * E (k + 2) := by
  rcases (show a = 0 ∨ a = 1 ∨ a = 2 by omega) with rfl | rfl | rfl <;> rcases (show b = 0 ∨ b = 1 ∨ b = 2 by omega) with rfl | rfl | rfl <;> simp [tr_s, ab_crd] <;> grind
section
variable {c_cells c_slopeCount : Int32} {b_used b_rank b_dims b_shown b_tensorOf b_view b_exists b_kind b_first b_second b_owner b_parts b_partCount b_value b_slopeOf b_order b_slopes : Nat → Int32}
theorem yv_transpose {post : Int32 → SY → Prop} {w a b v rk t : Nat} {dw : Nat → Nat} {c : Nat → Nat → Nat → Nat} (hw : w < 24) (hU : ¬ b_used w = 0) (Hw : yb_row b_rank b_dims w rk dw) (ha : a < rk) (hb : b < rk) (hcell : ∀ i j k, i < dw 0 → j < dw 1 → k < dw 2 → b_shown (64 * w + ((i * dw 1 + j) * dw 2 + k)) = nI (c i j k) ∧ c i j k < 320) (hv : v < 24) (hv0 : b_used v = 0) (hvl : ∀ j, j < v → ¬ b_used j = 0) (ht : b_tensorOf w = nI t) (ht2 : t < 32) (h : ∀ R D S : Nat → Int32, R v = nI rk → (∀ h, h < 24 → h ≠ v → R h = b_rank h) → (∀ i, i < rk → D (3 * v + i) = nI (dw (tr_s a b i))) → (∀ j, j < 72 → (j < 3 * v ∨ 3 * v + 3 ≤ j) → D j = b_dims j) → (∀ i, i < dw (tr_s a b 0) * dw (tr_s a b 1) * dw (tr_s a b 2) → S (64 * v + i) = nI (ab_pf (dw (tr_s a b 0)) (dw (tr_s a b 1)) (dw (tr_s a b 2)) (fun x y z => c (ab_crd x y z (tr_s a b 0)) (ab_crd x y z (tr_s a b 1)) (ab_crd x y z (tr_s a b 2))) i)) → (∀ j, j < 1536 → (j < 64 * v ∨ 64 * v + 64 ≤ j) → S j = b_shown j) → post (nI v) (c_cells, c_slopeCount, upd b_used v 1, R, D, S, upd b_tensorOf v (nI t), upd b_view v 1, b_exists, b_kind, b_first, b_second, b_owner, b_parts, b_partCount, b_value, b_slopeOf, b_order, b_slopes)) : wpY_transpose post (c_cells, c_slopeCount, b_used, b_rank, b_dims, b_shown, b_tensorOf, b_view, b_exists, b_kind, b_first, b_second, b_owner, b_parts, b_partCount, b_value, b_slopeOf, b_order, b_slopes) (nI w) (nI a) (nI b) := by
  have hc : (nI w).toNatClampNeg = w := nI_clamp (by omega)
  have hv25 : vp_in (nI w) 25 := vp_in_nI (by omega) (by decide)
  have hk := Hw.2.1
  have hb4 := Hw.2.2.2.2
  have e72 : ∀ i : Nat, (72 : Int32) + nI i = nI (72 + i) := fun i => nI_add 72 i
  unfold wpY_transpose
  refine yb_isHandle_t hw hU (br_f ab_10 (br_f (nI_pos (by omega)) (br_f (nI_pos (by omega)) ⟨hv25, br_f ?_ ⟨hv25, br_f ?_ (yb_freeHandle_s hv hv0 hvl (br_f ?_ ⟨hv25, ab_vin ab_iy0 (by omega) (by decide), ab_vin (ab_iy (a := 1)) (by omega) (by decide), ab_vin (ab_iy (a := 2)) (by omega) (by decide), ?_⟩))⟩⟩)))
  · rw [hc, Hw.1]; exact nI_ge ha (by omega)
  · rw [hc, Hw.1]; exact nI_ge hb (by omega)
  · intro z
    have := (nI_eq (a := v) (b := 24) (by omega) (by decide)).mp z
    omega
  rw [hc, Hw.1, ab_iy0, nI_clamp (by omega), show nI (3 * w) + 1 = nI (3 * w + 1) from nI_1 _, nI_clamp (by omega), show nI (3 * w) + 2 = nI (3 * w + 2) from nI_add _ 2, nI_clamp (by omega)]
  refine yb_shapeNew (by omega) ?_
  refine ⟨ab_vin (nI_add _ _) (by omega) (by decide), ab_vin (e72 _) (by omega) (by decide), fun D1 hD1 => ⟨ab_vin (nI_add _ _) (by omega) (by decide), ab_vin (e72 _) (by omega) (by decide), fun D2 hD2 => ?_⟩⟩
  rw [nI_add, nI_clamp (by omega), e72, nI_clamp (by omega), ab_en (by omega), Hw.2.2.1 b hb, ab_vb (by have := hb4 b (by omega); omega)] at hD1
  rw [nI_add, nI_clamp (by omega), e72, nI_clamp (by omega)] at hD2
  have q1 : D1 (3 * w + a) = nI (dw a) := by rw [hD1, pk_un (by omega), ab_en (by omega), Hw.2.2.1 a ha]
  rw [q1, ab_vb (by have := hb4 a (by omega); omega)] at hD2
  have d2 : ∀ i, i < rk → D2 (72 + i) = nI (dw (tr_s a b i)) := by
    intro i hi
    unfold tr_s
    by_cases z : i = b
    · subst z
      rw [hD2, pk_us]
      by_cases y : a = i
      · rw [if_pos y, y]
      · rw [if_neg y, if_pos rfl]
    · rw [hD2, pk_un (by omega), hD1]
      by_cases y : i = a
      · subst y; rw [pk_us, if_pos rfl]
      · rw [pk_un (by omega), if_neg (by omega), if_neg (by omega)]
        have g4 := hb4 i (by omega)
        rcases (show i = 0 ∨ i = 1 ∨ i = 2 by omega) with rfl | rfl | rfl
        · rw [show (72 + 0) = 72 from rfl, ab_e0, show 3 * w = 3 * w + 0 from rfl, Hw.2.2.1 0 hi, yb_btn (by omega)]
        · rw [ab_e1, Hw.2.2.1 1 hi, yb_btn (by omega)]
        · rw [ab_e2, Hw.2.2.1 2 hi, yb_btn (by omega)]
  have d3 : ∀ j, j < 72 → D2 j = b_dims j := by
    intro j hj
    rw [hD2, pk_un (by omega), hD1, pk_un (by omega), ab_en (by omega)]
  have H24 : yb_row (upd b_rank 24 (nI rk)) D2 24 rk (fun i => dw (tr_s a b i)) := by
    refine ⟨pk_us, hk, d2, fun i h1 h2 => ?_, fun i hi => hb4 _ (tr_lt (by omega) (by omega) hi)⟩
    have : tr_s a b i = i := by unfold tr_s; rw [if_neg (by omega), if_neg (by omega)]
    show dw (tr_s a b i) = 1
    rw [this]; exact Hw.2.2.2.1 i h1 h2
  have Hw' : yb_row (upd b_rank 24 (nI rk)) D2 w rk dw := by
    refine ⟨by rw [pk_un (by omega)]; exact Hw.1, hk, fun i hi => ?_, Hw.2.2.2.1, hb4⟩
    rw [d3 _ (by omega)]; exact Hw.2.2.1 i hi
  refine yb_size (h := 24) (by omega) H24 ⟨dw (tr_s a b 0) * dw (tr_s a b 1) * dw (tr_s a b 2) + 1, ?_⟩
  refine yv_tloop (v := v) (t := t) (e := fun i => dw (tr_s a b i)) hw (by omega) (by omega) H24 Hw' rfl hcell ?_ hv hv0 hvl ht ht2 (fun D S f1 f2 f3 f4 => ?_) _ 0 b_shown (by omega) (fun i hi => absurd hi (by omega)) (fun _ _ => rfl)
  · intro x y z hx hy hz
    exact tr_rng (by omega) (by omega) hx hy hz
  · refine h _ D S ?_ ?_ f1 ?_ f3 f4
    · rw [pk_us]
    · intro i hi hi2; rw [pk_un hi2, pk_un (by omega)]
    · intro j hj hj2; rw [f2 j hj2]; exact d3 j hj
theorem yv_transpose_f1 {post : Int32 → SY → Prop} {x y z : Int32} (hx : ¬ ab_isH b_used x) (hp : post (-1) (c_cells, c_slopeCount, b_used, b_rank, b_dims, b_shown, b_tensorOf, b_view, b_exists, b_kind, b_first, b_second, b_owner, b_parts, b_partCount, b_value, b_slopeOf, b_order, b_slopes)) : wpY_transpose post (c_cells, c_slopeCount, b_used, b_rank, b_dims, b_shown, b_tensorOf, b_view, b_exists, b_kind, b_first, b_second, b_owner, b_parts, b_partCount, b_value, b_slopeOf, b_order, b_slopes) x y z := by
  unfold wpY_transpose
  exact yb_isHandle_f hx (br_t rfl hp)
theorem yv_transpose_f2 {post : Int32 → SY → Prop} {w rk : Nat} {y z : Int32} (hw : w < 24) (hU : ¬ b_used w = 0) (hr : b_rank w = nI rk) (hk : rk ≤ 3) (hn : ¬ ab_isA rk y ∨ ¬ ab_isA rk z ∨ ∀ j, j < 24 → ¬ b_used j = 0) (hp : post (-1) (c_cells, c_slopeCount, b_used, b_rank, b_dims, b_shown, b_tensorOf, b_view, b_exists, b_kind, b_first, b_second, b_owner, b_parts, b_partCount, b_value, b_slopeOf, b_order, b_slopes)) : wpY_transpose post (c_cells, c_slopeCount, b_used, b_rank, b_dims, b_shown, b_tensorOf, b_view, b_exists, b_kind, b_first, b_second, b_owner, b_parts, b_partCount, b_value, b_slopeOf, b_order, b_slopes) (nI w) y z := by
  have hv25 : vp_in (nI w) 25 := vp_in_nI (by omega) (by decide)
  unfold wpY_transpose
  refine yb_isHandle_t hw hU (br_f ab_10 (br_c (fun _ => hp) (fun h1 => br_c (fun _ => hp) (fun h2 => ⟨hv25, br_c (fun _ => hp) (fun h3 => ⟨hv25, br_c (fun _ => hp) (fun h4 => ?_)⟩)⟩))))
  rw [nI_clamp (by omega), hr] at h3 h4
  rcases hn with q | q | q
  · exact absurd (ab_notA hk q h1 h3) id
  · exact absurd (ab_notA hk q h2 h4) id
  · exact yb_freeHandle_n q (br_t rfl hp)
end
section
variable {f_slotsTaken f_elementsTaken f_slopeCount : Int32} {a_handleTaken a_handleIsView a_windowRank a_windowSlot a_windowStart a_windowDimension a_windowStride a_slotSize a_slotKind a_slotTerms a_slotNeeded a_slotsByAge a_values a_derivatives a_firstPlaces a_secondPlaces a_assigned a_slopes : Nat → Int32}
variable {c_cells c_slopeCount : Int32} {b_used b_rank b_dims b_shown b_tensorOf b_view b_exists b_kind b_first b_second b_owner b_parts b_partCount b_value b_slopeOf b_order b_slopes : Nat → Int32}
theorem rl_hk {rk sl sz kd tm : Nat → Nat} {d : Nat → Nat → Nat} {G : Nat → Nat → Nat → Nat → Nat} {ages : List Nat} {fs fe : Int32} {T V R S St D E Sz Kd Tm Ag : Nat → Int32} (H : rl_X rk sl d G ages sz kd tm fs fe T V R S St D E Sz Kd Tm Ag) : (∀ h, h < 24 → ¬ T h = 0 → rk h ≤ 3) ∧ (∀ h, h < 24 → ¬ T h = 0 → rl_n d h ≤ 64) := by
  refine ⟨fun h hh ht => (H.2.2.2.2 h hh ht).2.1.1, fun h hh ht => ?_⟩
  have := (H.2.2.2.2 h hh ht).2.1.2.2
  exact ab_sz (this 0 (by omega)).2 (this 1 (by omega)).2 (this 2 (by omega)).2
theorem rl_mem {rk sl sz kd tm : Nat → Nat} {d : Nat → Nat → Nat} {G : Nat → Nat → Nat → Nat → Nat} {ages : List Nat} {fs fe : Int32} {T V R S St D E Sz Kd Tm Ag : Nat → Int32} (H : rl_X rk sl d G ages sz kd tm fs fe T V R S St D E Sz Kd Tm Ag) {p : Nat} : p ∈ ab_fl sz ages ↔ p / 64 ∈ ages ∧ p % 64 < sz (p / 64) := ab_flm (fun s hs => (H.2.2.2.1 s hs).2.2.1)
theorem rl_wmem {rk sl sz kd tm : Nat → Nat} {d : Nat → Nat → Nat} {G : Nat → Nat → Nat → Nat → Nat} {ages : List Nat} {fs fe : Int32} {T V R S St D E Sz Kd Tm Ag : Nat → Int32} (H : rl_X rk sl d G ages sz kd tm fs fe T V R S St D E Sz Kd Tm Ag) {w : Nat} (W : rl_win sl d G ages sz S St D E w) {x y z : Nat} (hx : x < d w 0) (hy : y < d w 1) (hz : z < d w 2) : G w x y z ∈ ab_fl sz ages := by
  obtain ⟨w1, w2, w3, w4⟩ := W
  obtain ⟨q1, q2, q3⟩ := w4 x y z hx hy hz
  rw [rl_mem H, q2]
  exact ⟨w2, q3⟩
theorem rl_row {rk sl cl : Nat → Nat} {d : Nat → Nat → Nat} {G : Nat → Nat → Nat → Nat → Nat} {w : Nat} {R D S T : Nat → Int32} (hs : ab_sh3 (rk w) (d w)) (H : rl_yh rk sl d G cl R D S T w) : yb_row R D w (rk w) (d w) := ⟨H.1, hs.1, H.2.1, hs.2.1, hs.2.2⟩
theorem rl_cell {rk sl sz kd tm cl : Nat → Nat} {d : Nat → Nat → Nat} {G : Nat → Nat → Nat → Nat → Nat} {ages : List Nat} {fs fe : Int32} {T V R S St D E Sz Kd Tm Ag O : Nat → Int32} {YR YD YS YT : Nat → Int32} {w : Nat} (HX : rl_X rk sl d G ages sz kd tm fs fe T V R S St D E Sz Kd Tm Ag) (HO : rl_own sz cl ages O) (W : rl_win sl d G ages sz S St D E w) (H : rl_yh rk sl d G cl YR YD YS YT w) : ∀ i j k, i < d w 0 → j < d w 1 → k < d w 2 → YS (64 * w + ((i * d w 1 + j) * d w 2 + k)) = nI (cl (G w i j k)) ∧ cl (G w i j k) < 320 := by
  intro i j k hi hj hk
  refine ⟨?_, (HO.1 _ (rl_wmem HX W hi hj hk)).1⟩
  rw [H.2.2.2 _ (ab_lin hi hj hk)]
  unfold rl_p
  rw [ab_pfl hi hj hk]
end
theorem i_vc_transpose {k : Nat} {u : SX} {v : SY} (I : i_Rel k u v) (hk : k + 5 ≤ 2560) (v1 : Int32) (v2 : Int32) (v3 : Int32) : wpX_transpose (fun r u' => wpY_transpose (fun r' v' => r' = r ∧ i_Rel (k + 5) u' v') v v1 v2 v3) u v1 v2 v3 := by
  obtain ⟨f_slotsTaken, f_elementsTaken, f_slopeCount, a_handleTaken, a_handleIsView, a_windowRank, a_windowSlot, a_windowStart, a_windowDimension, a_windowStride, a_slotSize, a_slotKind, a_slotTerms, a_slotNeeded, a_slotsByAge, a_values, a_derivatives, a_firstPlaces, a_secondPlaces, a_assigned, a_slopes⟩ := u
  obtain ⟨c_cells, c_slopeCount, b_used, b_rank, b_dims, b_shown, b_tensorOf, b_view, b_exists, b_kind, b_first, b_second, b_owner, b_parts, b_partCount, b_value, b_slopeOf, b_order, b_slopes⟩ := v
  have I' := I
  obtain ⟨rk, sl, d, G, ages, sz, kd, tm, yk, cl, hX, hY, hS⟩ := I'
  have hu := hY.1.1
  by_cases hH : ab_isH a_handleTaken v1
  · obtain ⟨w, hw, rfl, hT⟩ := hH
    obtain ⟨w1, w2, w3, w4⟩ := hX.2.2.2.2 w hw hT
    have yw := hY.2.2.2.2.1 w hw hT
    have hU : ¬ b_used w = 0 := by rw [hu]; exact hT
    by_cases hA : ab_isA (rk w) v2
    · by_cases hB : ab_isA (rk w) v3
      · obtain ⟨a, ha, rfl⟩ := hA
        obtain ⟨b, hb, rfl⟩ := hB
        have hk3 := w2.1
        rcases ab_lst a_handleTaken 24 with ⟨v, hv, hv0, hvl⟩ | vn
        · have D0 := w3.2.2.1
          refine xv_transpose hw hT w1 w2.1 ha hb hv hv0 hvl ?_
          rw [w1, (D0 _ (tr_lt (a := a) (b := b) (i := 0) (by omega) (by omega) (by omega))).1, (D0 _ (tr_lt (a := a) (b := b) (i := 1) (by omega) (by omega) (by omega))).1, (D0 _ (tr_lt (a := a) (b := b) (i := 2) (by omega) (by omega) (by omega))).1]
          refine yv_transpose (v := v) (t := sl w) (c := fun i j k => cl (G w i j k)) hw hU (rl_row w2 yw) ha hb (rl_cell hX hY.2.2.1 w3 yw) hv (by rw [hu]; exact hv0) (by rw [hu]; exact hvl) yw.2.2.1 (hX.2.2.1.2.1 _ w3.2.1) (fun R D S r1 r2 d1 d2 s1 s2 => ⟨rfl, ?_⟩)
          refine rl_mk (k + 5) _ _ _ _ ages sz kd tm yk cl (rl_viewX (e := fun i => d w (tr_s a b i)) (g := fun x y z => G w (ab_crd x y z (tr_s a b 0)) (ab_crd x y z (tr_s a b 1)) (ab_crd x y z (tr_s a b 2))) hw hv hT ?_ ?_ hX) (rl_viewY (e := fun i => d w (tr_s a b i)) hv (rl_hk hX).1 (rl_hk hX).2 r1 r2 d1 d2 s1 s2 hY) hS
          · refine ⟨hk3, fun i h1 h2 => ?_, fun i hi => w2.2.2 _ (tr_lt (by omega) (by omega) hi)⟩
            have : tr_s a b i = i := by unfold tr_s; rw [if_neg (by omega), if_neg (by omega)]
            show d w (tr_s a b i) = 1
            rw [this]; exact w2.2.1 i h1 h2
          · intro x y z hx hy hz
            obtain ⟨r1, r2, r3⟩ := tr_rng (by omega) (by omega) hx hy hz
            refine ⟨?_, _, _, _, r1, r2, r3, rfl⟩
            rw [tr_eq (by omega) (by omega)]
            exact (w3.2.2.2 _ _ _ r1 r2 r3).1
        · refine ?_
          unfold wpX_transpose
          refine xw_hasAxis_t hw hT w1 w2.1 ha (br_f ab_10 (xw_hasAxis_t hw hT w1 w2.1 hb (br_f ab_10 (xw_makeView_n vn (br_t (by decide) ?_)))))
          exact yv_transpose_f2 hw hU yw.1 w2.1 (Or.inr (Or.inr (by rw [hu]; exact vn))) ⟨rfl, I⟩
      · obtain ⟨a, ha, rfl⟩ := hA
        unfold wpX_transpose
        refine xw_hasAxis_t hw hT w1 w2.1 ha (br_f ab_10 (xw_hasAxis_f2 hw hT w1 w2.1 hB (br_t rfl ?_)))
        exact yv_transpose_f2 hw hU yw.1 w2.1 (Or.inr (Or.inl hB)) ⟨rfl, I⟩
    · unfold wpX_transpose
      refine xw_hasAxis_f2 hw hT w1 w2.1 hA (br_t rfl ?_)
      exact yv_transpose_f2 hw hU yw.1 w2.1 (Or.inl hA) ⟨rfl, I⟩
  · unfold wpX_transpose
    refine xw_hasAxis_f1 hH (br_t rfl ?_)
    exact yv_transpose_f1 (by rw [hu]; exact hH) ⟨rfl, I⟩
