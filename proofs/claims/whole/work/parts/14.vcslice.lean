section
variable {c_cells c_slopeCount : Int32} {b_used b_rank b_dims b_shown b_tensorOf b_view b_exists b_kind b_first b_second b_owner b_parts b_partCount b_value b_slopeOf b_order b_slopes : Nat → Int32}
theorem yv_slice {post : Int32 → SY → Prop} {w a v rk t cd fr : Nat} {dw : Nat → Nat} {c : Nat → Nat → Nat → Nat} (hw : w < 24) (hU : ¬ b_used w = 0) (Hw : yb_row b_rank b_dims w rk dw) (ha : a < rk) (h8 : 8 ≤ cd) (h39 : cd ≤ 39) (hfr : fr < dw a) (l0 : ¬ nI fr + (nI (cd / 8) - 1) * (nI (cd % 8) - 4) < 0) (l1 : nI fr + (nI (cd / 8) - 1) * (nI (cd % 8) - 4) < nI (dw a)) (hcell : ∀ i j k, i < dw 0 → j < dw 1 → k < dw 2 → b_shown (64 * w + ((i * dw 1 + j) * dw 2 + k)) = nI (c i j k) ∧ c i j k < 320) (hv : v < 24) (hv0 : b_used v = 0) (hvl : ∀ j, j < v → ¬ b_used j = 0) (ht : b_tensorOf w = nI t) (ht2 : t < 32) (h : ∀ R D S : Nat → Int32, R v = nI rk → (∀ h, h < 24 → h ≠ v → R h = b_rank h) → (∀ i, i < rk → D (3 * v + i) = nI (sc_e dw a (cd / 8) i)) → (∀ j, j < 72 → (j < 3 * v ∨ 3 * v + 3 ≤ j) → D j = b_dims j) → (∀ i, i < sc_e dw a (cd / 8) 0 * sc_e dw a (cd / 8) 1 * sc_e dw a (cd / 8) 2 → S (64 * v + i) = nI (ab_pf (sc_e dw a (cd / 8) 0) (sc_e dw a (cd / 8) 1) (sc_e dw a (cd / 8) 2) (fun x y z => c (sc_c a fr (cd % 8) x 0) (sc_c a fr (cd % 8) y 1) (sc_c a fr (cd % 8) z 2)) i)) → (∀ j, j < 1536 → (j < 64 * v ∨ 64 * v + 64 ≤ j) → S j = b_shown j) → post (nI v) (c_cells, c_slopeCount, upd b_used v 1, R, D, S, upd b_tensorOf v (nI t), upd b_view v 1, b_exists, b_kind, b_first, b_second, b_owner, b_parts, b_partCount, b_value, b_slopeOf, b_order, b_slopes)) : wpY_slice post (c_cells, c_slopeCount, b_used, b_rank, b_dims, b_shown, b_tensorOf, b_view, b_exists, b_kind, b_first, b_second, b_owner, b_parts, b_partCount, b_value, b_slopeOf, b_order, b_slopes) (nI w) (nI a) (nI fr) (nI cd) := by
  have hc : (nI w).toNatClampNeg = w := nI_clamp (by omega)
  have hv25 : vp_in (nI w) 25 := vp_in_nI (by omega) (by decide)
  have hk := Hw.2.1
  have hb4 := Hw.2.2.2.2
  have hda := hb4 a (by omega)
  have e72 : ∀ i : Nat, (72 : Int32) + nI i = nI (72 + i) := fun i => nI_add 72 i
  have hpos := sc_1 (r := cd % 8) (c := cd / 8) (by omega) (by omega) (by omega) hda.2 hfr l0 l1
  unfold wpY_slice
  refine yb_isHandle_t hw hU (br_f ab_10 (br_f (nI_pos (by omega)) ⟨hv25, br_f ?_ (br_f (nI_nlt (b := 8) h8 (by omega)) (br_f (nI_nlt (a := 39) h39 (by decide)) (yb_freeHandle_s hv hv0 hvl (br_f ?_ ⟨by decide, nm_r (e' := nI (cd / 8)) (pk_div (d := 8) (by omega) (by omega) (by omega)) ⟨by decide, nm_r (e' := nI (cd % 8) - 4) ?_ (yb_dim (by omega) (by omega) ?_)⟩⟩))))⟩))
  · rw [hc, Hw.1]; exact nI_ge ha (by omega)
  · intro z
    have := (nI_eq (a := v) (b := 24) (by omega) (by decide)).mp z
    omega
  · rw [show nI cd - nI cd / 8 * 8 = nI (cd % 8) from pk_rem (d := 8) (by omega) (by omega) (by omega)]
  rw [Hw.2.2.1 a ha]
  refine br_f (nI_pos (by omega)) (br_f (nI_ge hfr (by omega)) (br_f l0 (br_t l1 ⟨hv25, ab_vin ab_iy0 (by omega) (by decide), ab_vin (ab_iy (a := 1)) (by omega) (by decide), ab_vin (ab_iy (a := 2)) (by omega) (by decide), ?_⟩)))
  rw [hc, Hw.1, ab_iy0, nI_clamp (by omega), show nI (3 * w) + 1 = nI (3 * w + 1) from nI_1 _, nI_clamp (by omega), show nI (3 * w) + 2 = nI (3 * w + 2) from nI_add _ 2, nI_clamp (by omega)]
  refine yb_shapeNew (by omega) ⟨ab_vin (e72 _) (by omega) (by decide), fun D2 hD2 => ?_⟩
  rw [e72, nI_clamp (by omega), ab_vb2 (by omega)] at hD2
  have d2 : ∀ i, i < rk → D2 (72 + i) = nI (sc_e dw a (cd / 8) i) := by
    intro i hi
    unfold sc_e
    by_cases z : i = a
    · subst z
      rw [hD2, pk_us, if_pos rfl]
    · rw [hD2, pk_un (by omega), if_neg z]
      have g4 := hb4 i (by omega)
      rcases (show i = 0 ∨ i = 1 ∨ i = 2 by omega) with rfl | rfl | rfl
      · rw [show (72 + 0) = 72 from rfl, ab_e0, show 3 * w = 3 * w + 0 from rfl, Hw.2.2.1 0 hi, yb_btn (by omega)]
      · rw [ab_e1, Hw.2.2.1 1 hi, yb_btn (by omega)]
      · rw [ab_e2, Hw.2.2.1 2 hi, yb_btn (by omega)]
  have d3 : ∀ j, j < 72 → D2 j = b_dims j := by
    intro j hj
    rw [hD2, pk_un (by omega), ab_en (by omega)]
  have sh := sc_e3 (rk := rk) (dw := dw) (a := a) (c := cd / 8) ⟨hk, Hw.2.2.2.1, hb4⟩ ha (by omega) (by omega)
  have H24 : yb_row (upd b_rank 24 (nI rk)) D2 24 rk (sc_e dw a (cd / 8)) := ⟨pk_us, hk, d2, sh.2.1, sh.2.2⟩
  have Hw' : yb_row (upd b_rank 24 (nI rk)) D2 w rk dw := by
    refine ⟨by rw [pk_un (by omega)]; exact Hw.1, hk, fun i hi => ?_, Hw.2.2.2.1, hb4⟩
    rw [d3 _ (by omega)]; exact Hw.2.2.1 i hi
  refine yb_size (h := 24) (by omega) H24 ⟨sc_e dw a (cd / 8) 0 * sc_e dw a (cd / 8) 1 * sc_e dw a (cd / 8) 2 + 1, ?_⟩
  refine yv_sloop (v := v) (t := t) hw (by omega) H24 Hw' rfl hcell (fun x i _ hx => sc_rng hpos hx) (fun x hx => (hpos x ?_).1) hv hv0 hvl ht ht2 (fun D S f1 f2 f3 f4 => ?_) _ 0 b_shown (by omega) (fun i hi => absurd hi (by omega)) (fun _ _ => rfl)
  · unfold sc_e at hx; rw [if_pos rfl] at hx; exact hx
  · refine h _ D S ?_ ?_ f1 ?_ f3 f4
    · rw [pk_us]
    · intro i hi hi2; rw [pk_un hi2, pk_un (by omega)]
    · intro j hj hj2; rw [f2 j hj2]; exact d3 j hj
theorem yv_slice_f1 {post : Int32 → SY → Prop} {x y z u : Int32} (hx : ¬ ab_isH b_used x) (hp : post (-1) (c_cells, c_slopeCount, b_used, b_rank, b_dims, b_shown, b_tensorOf, b_view, b_exists, b_kind, b_first, b_second, b_owner, b_parts, b_partCount, b_value, b_slopeOf, b_order, b_slopes)) : wpY_slice post (c_cells, c_slopeCount, b_used, b_rank, b_dims, b_shown, b_tensorOf, b_view, b_exists, b_kind, b_first, b_second, b_owner, b_parts, b_partCount, b_value, b_slopeOf, b_order, b_slopes) x y z u := by
  unfold wpY_slice
  exact yb_isHandle_f hx (br_t rfl hp)
theorem yv_slice_f2 {post : Int32 → SY → Prop} {w rk : Nat} {y z u : Int32} (hw : w < 24) (hU : ¬ b_used w = 0) (hr : b_rank w = nI rk) (hk : rk ≤ 3) (hn : ¬ ab_isA rk y) (hp : post (-1) (c_cells, c_slopeCount, b_used, b_rank, b_dims, b_shown, b_tensorOf, b_view, b_exists, b_kind, b_first, b_second, b_owner, b_parts, b_partCount, b_value, b_slopeOf, b_order, b_slopes)) : wpY_slice post (c_cells, c_slopeCount, b_used, b_rank, b_dims, b_shown, b_tensorOf, b_view, b_exists, b_kind, b_first, b_second, b_owner, b_parts, b_partCount, b_value, b_slopeOf, b_order, b_slopes) (nI w) y z u := by
  have hv25 : vp_in (nI w) 25 := vp_in_nI (by omega) (by decide)
  unfold wpY_slice
  refine yb_isHandle_t hw hU (br_f ab_10 (br_c (fun _ => hp) (fun h1 => ⟨hv25, br_c (fun _ => hp) (fun h3 => ?_)⟩)))
  rw [nI_clamp (by omega), hr] at h3
  exact absurd (ab_notA hk hn h1 h3) id
theorem yv_slice_n {post : Int32 → SY → Prop} {w a rk : Nat} {x y : Int32} {dw : Nat → Nat} (hw : w < 24) (hU : ¬ b_used w = 0) (Hw : yb_row b_rank b_dims w rk dw) (ha : a < rk) (hno : (¬ ∃ cd, 8 ≤ cd ∧ cd ≤ 39 ∧ y = nI cd) ∨ (∀ j, j < 24 → ¬ b_used j = 0) ∨ (∀ cd, y = nI cd → 8 ≤ cd → cd ≤ 39 → ¬ ∃ fr, fr < dw a ∧ x = nI fr ∧ ¬ nI fr + (nI (cd / 8) - 1) * (nI (cd % 8) - 4) < 0 ∧ nI fr + (nI (cd / 8) - 1) * (nI (cd % 8) - 4) < nI (dw a))) (hp : post (-1) (c_cells, c_slopeCount, b_used, b_rank, b_dims, b_shown, b_tensorOf, b_view, b_exists, b_kind, b_first, b_second, b_owner, b_parts, b_partCount, b_value, b_slopeOf, b_order, b_slopes)) : wpY_slice post (c_cells, c_slopeCount, b_used, b_rank, b_dims, b_shown, b_tensorOf, b_view, b_exists, b_kind, b_first, b_second, b_owner, b_parts, b_partCount, b_value, b_slopeOf, b_order, b_slopes) (nI w) (nI a) x y := by
  have hc : (nI w).toNatClampNeg = w := nI_clamp (by omega)
  have hv25 : vp_in (nI w) 25 := vp_in_nI (by omega) (by decide)
  have hk := Hw.2.1
  have hda := Hw.2.2.2.2 a (by omega)
  unfold wpY_slice
  refine yb_isHandle_t hw hU (br_f ab_10 (br_f (nI_pos (by omega)) ⟨hv25, br_f (by rw [hc, Hw.1]; exact nI_ge ha (by omega)) (br_c (fun _ => hp) (fun h8 => br_c (fun _ => hp) (fun h39 => ?_)))⟩))
  have h0 : ¬ y < 0 := by
    intro z
    refine h8 ?_
    rw [Int32.lt_iff_toInt_lt] at z ⊢
    rw [show (0 : Int32).toInt = 0 from by decide] at z
    rw [show (8 : Int32).toInt = 8 from by decide]
    omega
  obtain ⟨cd, hcd, rfl⟩ := nI_of h0
  have c8 : 8 ≤ cd := by
    apply Nat.le_of_not_lt; intro z; exact h8 (nI_lt (b := 8) z (by decide))
  have c39 : cd ≤ 39 := by
    apply Nat.le_of_not_lt; intro z; exact h39 (nI_lt (a := 39) z hcd)
  rcases ab_lst b_used 24 with ⟨v, hv, hv0, hvl⟩ | vn
  · refine yb_freeHandle_s hv hv0 hvl (br_c (fun _ => hp) (fun _ => ⟨by decide, nm_r (e' := nI (cd / 8)) (pk_div (d := 8) (by omega) (by omega) (by omega)) ⟨by decide, nm_r (e' := nI (cd % 8) - 4) ?_ (yb_dim (by omega) (by omega) ?_)⟩⟩))
    · rw [show nI cd - nI cd / 8 * 8 = nI (cd % 8) from pk_rem (d := 8) (by omega) (by omega) (by omega)]
    rw [Hw.2.2.1 a ha]
    refine br_c (fun _ => hp) (fun f0 => br_c (fun _ => hp) (fun f1 => br_c (fun _ => hp) (fun l0 => br_c (fun l1 => ?_) (fun _ => hp))))
    obtain ⟨fr, hfr, rfl⟩ := nI_of f0
    have ff : fr < dw a := by
      apply Nat.lt_of_not_le; intro z; exact f1 (nI_le z hfr)
    rcases hno with q | q | q
    · exact absurd ⟨cd, c8, c39, rfl⟩ q
    · exact absurd hv0 (q v hv)
    · exact absurd ⟨fr, ff, rfl, l0, l1⟩ (q cd rfl c8 c39)
  · exact yb_freeHandle_n vn (br_t rfl hp)
end
theorem sc_eq {a fr r c x y z k : Nat} {st s : Int32} {E : Nat → Int32} (ha : a < 3) (hs : s = if c ≤ 1 then 0 else E (k + a) * (nI r - 4)) (h0 : (if a = 0 then x else if a = 1 then y else z) < c) (hp : ∀ x, x < c → 4 * x ≤ fr + r * x) : st + nI fr * E (k + a) + nI x * (if 0 = a then s else E k) + nI y * (if 1 = a then s else E (k + 1)) + nI z * (if 2 = a then s else E (k + 2)) = st + nI (sc_c a fr r x 0) * E k + nI (sc_c a fr r y 1) * E (k + 1) + nI (sc_c a fr r z 2) * E (k + 2) := by
  have key : ∀ t, t < c → nI t * s + nI fr * E (k + a) = nI (sc_p fr r t) * E (k + a) := by
    intro t ht
    rw [← sc_2 (hp t ht), hs]
    split
    · have : t = 0 := by omega
      subst this
      rw [nI_0]; grind
    · grind
  rcases (show a = 0 ∨ a = 1 ∨ a = 2 by omega) with rfl | rfl | rfl
  · have := key x (by simpa using h0)
    simp [sc_c] at this ⊢
    grind
  · have := key y (by simpa using h0)
    simp [sc_c] at this ⊢
    grind
  · have := key z (by simpa using h0)
    simp [sc_c] at this ⊢
    grind
theorem i_vc_slice {k : Nat} {u : SX} {v : SY} (I : i_Rel k u v) (hk : k + 5 ≤ 2560) (v1 : Int32) (v2 : Int32) (v3 : Int32) (v4 : Int32) : wpX_slice (fun r u' => wpY_slice (fun r' v' => r' = r ∧ i_Rel (k + 5) u' v') v v1 v2 v3 v4) u v1 v2 v3 v4 := by
  obtain ⟨f_slotsTaken, f_elementsTaken, f_slopeCount, a_handleTaken, a_handleIsView, a_windowRank, a_windowSlot, a_windowStart, a_windowDimension, a_windowStride, a_slotSize, a_slotKind, a_slotTerms, a_slotNeeded, a_slotsByAge, a_values, a_derivatives, a_firstPlaces, a_secondPlaces, a_assigned, a_slopes⟩ := u
  obtain ⟨c_cells, c_slopeCount, b_used, b_rank, b_dims, b_shown, b_tensorOf, b_view, b_exists, b_kind, b_first, b_second, b_owner, b_parts, b_partCount, b_value, b_slopeOf, b_order, b_slopes⟩ := v
  have I' := I
  obtain ⟨rk, sl, d, G, ages, sz, kd, tm, yk, cl, hX, hY, hS⟩ := I'
  have hu := hY.1.1
  by_cases hH : ab_isH a_handleTaken v1
  · obtain ⟨w, hw, rfl, hT⟩ := hH
    obtain ⟨w1, w2, w3, w4⟩ := hX.2.2.2.2 w hw hT
    have yw := hY.2.2.2.2.1 w hw hT
    have hU : ¬ b_used w = 0 := by rw [hu]; exact hT
    by_cases hA : ab_isA (rk w) v2
    · obtain ⟨a, ha, rfl⟩ := hA
      have hk3 := w2.1
      have D0 := w3.2.2.1
      have da := w2.2.2 a (by omega)
      by_cases hno : (¬ ∃ cd, 8 ≤ cd ∧ cd ≤ 39 ∧ v4 = nI cd) ∨ (∀ j, j < 24 → ¬ a_handleTaken j = 0) ∨ (∀ cd, v4 = nI cd → 8 ≤ cd → cd ≤ 39 → ¬ ∃ fr, fr < d w a ∧ v3 = nI fr ∧ ¬ nI fr + (nI (cd / 8) - 1) * (nI (cd % 8) - 4) < 0 ∧ nI fr + (nI (cd / 8) - 1) * (nI (cd % 8) - 4) < nI (d w a))
      · exact xv_slice_n (dw := d w) hw hT w1 w2.1 ha (D0 a (by omega)).1 da.2 hno (yv_slice_n hw hU (rl_row w2 yw) ha (by rw [hu]; exact hno) ⟨rfl, I⟩)
      · have n1 : ∃ cd, 8 ≤ cd ∧ cd ≤ 39 ∧ v4 = nI cd := Classical.byContradiction (fun q => hno (Or.inl q))
        obtain ⟨cd, h8, h39, rfl⟩ := n1
        have n2 : ∃ fr, fr < d w a ∧ v3 = nI fr ∧ ¬ nI fr + (nI (cd / 8) - 1) * (nI (cd % 8) - 4) < 0 ∧ nI fr + (nI (cd / 8) - 1) * (nI (cd % 8) - 4) < nI (d w a) := Classical.byContradiction (fun q => hno (Or.inr (Or.inr (fun cd' e' _ _ => by
          have : cd = cd' ∨ True := Or.inr trivial
          intro r
          by_cases z : cd' < 2 ^ 31
          · have := (nI_eq (by omega) z).mp e'
            subst this; exact q r
          · omega))))
        obtain ⟨fr, hfr, rfl, l0, l1⟩ := n2
        rcases ab_lst a_handleTaken 24 with ⟨v, hv, hv0, hvl⟩ | vn
        · have hpos := sc_1 (r := cd % 8) (c := cd / 8) (by omega) (by omega) (by omega) da.2 hfr l0 l1
          refine xv_slice (dw := d w) hw hT w1 w2.1 ha (fun i hi => (D0 i hi).1) da.2 h8 h39 hfr l0 l1 hv hv0 hvl (fun s hs => ?_)
          rw [w1]
          refine yv_slice (v := v) (t := sl w) (c := fun i j k => cl (G w i j k)) hw hU (rl_row w2 yw) ha h8 h39 hfr l0 l1 (rl_cell hX hY.2.2.1 w3 yw) hv (by rw [hu]; exact hv0) (by rw [hu]; exact hvl) yw.2.2.1 (hX.2.2.1.2.1 _ w3.2.1) (fun R D S r1 r2 d1 d2 s1 s2 => ⟨rfl, ?_⟩)
          refine rl_mk (k + 5) _ _ _ _ ages sz kd tm yk cl (rl_viewX (e := sc_e (d w) a (cd / 8)) (g := fun x y z => G w (sc_c a fr (cd % 8) x 0) (sc_c a fr (cd % 8) y 1) (sc_c a fr (cd % 8) z 2)) hw hv hT (sc_e3 w2 ha (by omega) (by omega)) ?_ hX) (rl_viewY (e := sc_e (d w) a (cd / 8)) hv (rl_hk hX).1 (rl_hk hX).2 r1 r2 d1 d2 s1 s2 hY) hS
          intro x y z hx hy hz
          have r1 := sc_rng hpos hx
          have r2 := sc_rng hpos hy
          have r3 := sc_rng hpos hz
          refine ⟨?_, _, _, _, r1, r2, r3, rfl⟩
          rw [sc_eq (c := cd / 8) (r := cd % 8) (by omega) hs ?_ (fun x hx => (hpos x hx).1)]
          · exact (w3.2.2.2 _ _ _ r1 r2 r3).1
          · unfold sc_e at hx hy hz
            rcases (show a = 0 ∨ a = 1 ∨ a = 2 by omega) with rfl | rfl | rfl
            · simpa using hx
            · simpa using hy
            · simpa using hz
        · exact absurd (Or.inr (Or.inl vn)) hno
    · unfold wpX_slice
      refine xw_hasAxis_f2 hw hT w1 w2.1 hA (br_t rfl ?_)
      exact yv_slice_f2 hw hU yw.1 w2.1 hA ⟨rfl, I⟩
  · unfold wpX_slice
    refine xw_hasAxis_f1 hH (br_t rfl ?_)
    exact yv_slice_f1 (by rw [hu]; exact hH) ⟨rfl, I⟩
