section
variable {c_cells c_slopeCount : Int32} {b_used b_rank b_dims b_shown b_tensorOf b_view b_exists b_kind b_first b_second b_owner b_parts b_partCount b_value b_slopeOf b_order b_slopes : Nat → Int32}
theorem yv_eloop {post : Int32 → SY → Prop} {w a v rk rw t N : Nat} {dw e : Nat → Nat} {c : Nat → Nat → Nat → Nat} (hw : w < 24) (ha : a < 3) (H24 : yb_row b_rank b_dims 24 rk e) (Hw : yb_row b_rank b_dims w rw dw) (hN : e 0 * e 1 * e 2 = N) (hcell : ∀ i j k, i < dw 0 → j < dw 1 → k < dw 2 → b_shown (64 * w + ((i * dw 1 + j) * dw 2 + k)) = nI (c i j k) ∧ c i j k < 320) (hrng : ∀ x y z, x < e 0 → y < e 1 → z < e 2 → ex_x a x y < dw 0 ∧ ex_y a y z < dw 1 ∧ 0 < dw 2) (hv : v < 24) (hv0 : b_used v = 0) (hvl : ∀ j, j < v → ¬ b_used j = 0) (ht : b_tensorOf w = nI t) (ht2 : t < 32) (h : ∀ D S : Nat → Int32, (∀ i, i < rk → D (3 * v + i) = nI (e i)) → (∀ j, (j < 3 * v ∨ 3 * v + 3 ≤ j) → D j = b_dims j) → (∀ i, i < N → S (64 * v + i) = nI (ab_pf (e 0) (e 1) (e 2) (fun x y z => c (ex_x a x y) (ex_y a y z) 0) i)) → (∀ j, j < 1536 → (j < 64 * v ∨ 64 * v + 64 ≤ j) → S j = b_shown j) → post (nI v) (c_cells, c_slopeCount, upd b_used v 1, upd b_rank v (nI rk), D, S, upd b_tensorOf v (nI t), upd b_view v 1, b_exists, b_kind, b_first, b_second, b_owner, b_parts, b_partCount, b_value, b_slopeOf, b_order, b_slopes)) : ∀ (q j : Nat) (S : Nat → Int32), j + q = N → (∀ i, i < j → S (1536 + i) = nI (ab_pf (e 0) (e 1) (e 2) (fun x y z => c (ex_x a x y) (ex_y a y z) 0) i)) → (∀ i, i < 1536 → S i = b_shown i) → wY_expand_139 post (nI w) (nI a) (nI N) c_cells c_slopeCount (q + 1) (nI j) b_used b_rank b_dims S b_tensorOf b_view b_exists b_kind b_first b_second b_owner b_parts b_partCount b_value b_slopeOf b_order b_slopes := by
  have hb4 := H24.2.2.2.2
  have hN64 : N ≤ 64 := hN ▸ ab_sz (hb4 0 (by omega)).2 (hb4 1 (by omega)).2 (hb4 2 (by omega)).2
  have hin : ∀ i : Nat, i / (e 1 * e 2) % e 0 < e 0 ∧ i / e 2 % e 1 < e 1 ∧ i % e 2 < e 2 := fun i => ab_pfi (hb4 0 (by omega)).1 (hb4 1 (by omega)).1 (hb4 2 (by omega)).1
  intro q
  induction q with
  | zero =>
    intro j S hj h1 h2
    have hjN : j = N := by omega
    refine br_t (nI_le (by omega) (by omega)) ⟨vp_in_nI (by omega) (by decide), ?_⟩
    rw [nI_clamp (by omega), ht]
    refine yv_hand (e := e) (c := fun i => ab_pf (e 0) (e 1) (e 2) (fun x y z => c (ex_x a x y) (ex_y a y z) 0) i) (N := N) hv hv0 hvl ht2 H24.1 H24.2.1 hN64 (fun i hi => H24.2.2.1 i hi) (fun i hi => (hb4 i hi).2) (fun i hi => h1 i (by omega)) ?_ (fun D S' d1 d2 s1 s2 => ?_)
    · intro i hi
      obtain ⟨p1, p2, p3⟩ := hin i
      obtain ⟨r1, r2, r3⟩ := hrng _ _ _ p1 p2 p3
      exact (hcell _ _ _ r1 r2 r3).2
    · rw [ab_b1]
      exact h D S' d1 d2 s1 (fun i hi hi2 => by rw [s2 i hi2]; exact h2 i hi)
  | succ q ih =>
    intro j S hj h1 h2
    obtain ⟨p1, p2, p3⟩ := hin j
    obtain ⟨r1, r2, r3⟩ := hrng _ _ _ p1 p2 p3
    have hl := ab_lin r1 r2 r3
    have hsz := ab_sz (Hw.2.2.2.2 0 (by omega)).2 (Hw.2.2.2.2 1 (by omega)).2 (Hw.2.2.2.2 2 (by omega)).2
    obtain ⟨c1, c2⟩ := hcell _ _ _ r1 r2 r3
    have e1 : (1536 : Int32) + nI j = nI (1536 + j) := nI_add 1536 j
    have FIN : ∀ S' : Nat → Int32, S' = upd S ((1536 : Int32) + nI j).toNatClampNeg (vp_nar .short (S (64 * w + ((ex_x a (j / (e 1 * e 2) % e 0) (j / e 2 % e 1) * dw 1 + ex_y a (j / e 2 % e 1) (j % e 2)) * dw 2 + 0))).toInt16.toInt32) → wY_expand_139 post (nI w) (nI a) (nI N) c_cells c_slopeCount (q + 1) (nI (j + 1)) b_used b_rank b_dims S' b_tensorOf b_view b_exists b_kind b_first b_second b_owner b_parts b_partCount b_value b_slopeOf b_order b_slopes := by
      intro S' hS'
      rw [h2 _ (by omega), c1, ab_vs2 (by omega), e1, nI_clamp (by omega)] at hS'
      refine ih (j + 1) S' (by omega) ?_ ?_
      · intro i hi
        rw [hS']
        by_cases z : i = j
        · rw [z, pk_us]; rfl
        · rw [pk_un (by omega)]; exact h1 i (by omega)
      · intro i hi
        rw [hS', pk_un (by omega)]; exact h2 i hi
    refine br_f (nI_ge (by omega) (by omega)) ?_
    rcases (show a = 0 ∨ a = 1 ∨ a = 2 by omega) with rfl | rfl | rfl
    · exact br_t rfl (yb_index1 (h := 24) (by omega) H24 (by omega) (br_f (by decide) (yb_index2 (h := 24) (by omega) H24 (by omega) (yb_cellAt (k := 0) (by omega) Hw r1 r2 r3 ⟨ab_vin e1 (by omega) (by decide), fun S' hS' => nm_r (nI_1 j) (FIN S' hS')⟩))))
    · exact br_f (by decide) (yb_index0 (h := 24) (by omega) H24 (by omega) (br_f (by decide) (yb_index2 (h := 24) (by omega) H24 (by omega) (yb_cellAt (k := 0) (by omega) Hw r1 r2 r3 ⟨ab_vin e1 (by omega) (by decide), fun S' hS' => nm_r (nI_1 j) (FIN S' hS')⟩))))
    · exact br_f (by decide) (yb_index0 (h := 24) (by omega) H24 (by omega) (br_t (by decide) (yb_index1 (h := 24) (by omega) H24 (by omega) (yb_cellAt (k := 0) (by omega) Hw r1 r2 r3 ⟨ab_vin e1 (by omega) (by decide), fun S' hS' => nm_r (nI_1 j) (FIN S' hS')⟩))))
theorem yv_expand {post : Int32 → SY → Prop} {w a v rk t dd : Nat} {dw : Nat → Nat} {c : Nat → Nat → Nat → Nat} (hw : w < 24) (hU : ¬ b_used w = 0) (Hw : yb_row b_rank b_dims w rk dw) (hk : rk < 3) (ha : a ≤ rk) (h1 : 1 ≤ dd) (h4 : dd ≤ 4) (hcell : ∀ i j k, i < dw 0 → j < dw 1 → k < dw 2 → b_shown (64 * w + ((i * dw 1 + j) * dw 2 + k)) = nI (c i j k) ∧ c i j k < 320) (hv : v < 24) (hv0 : b_used v = 0) (hvl : ∀ j, j < v → ¬ b_used j = 0) (ht : b_tensorOf w = nI t) (ht2 : t < 32) (h : ∀ R D S : Nat → Int32, R v = nI (rk + 1) → (∀ h, h < 24 → h ≠ v → R h = b_rank h) → (∀ i, i < rk + 1 → D (3 * v + i) = nI (ex_e dw a dd i)) → (∀ j, j < 72 → (j < 3 * v ∨ 3 * v + 3 ≤ j) → D j = b_dims j) → (∀ i, i < ex_e dw a dd 0 * ex_e dw a dd 1 * ex_e dw a dd 2 → S (64 * v + i) = nI (ab_pf (ex_e dw a dd 0) (ex_e dw a dd 1) (ex_e dw a dd 2) (fun x y z => c (ex_x a x y) (ex_y a y z) 0) i)) → (∀ j, j < 1536 → (j < 64 * v ∨ 64 * v + 64 ≤ j) → S j = b_shown j) → post (nI v) (c_cells, c_slopeCount, upd b_used v 1, R, D, S, upd b_tensorOf v (nI t), upd b_view v 1, b_exists, b_kind, b_first, b_second, b_owner, b_parts, b_partCount, b_value, b_slopeOf, b_order, b_slopes)) : wpY_expand post (c_cells, c_slopeCount, b_used, b_rank, b_dims, b_shown, b_tensorOf, b_view, b_exists, b_kind, b_first, b_second, b_owner, b_parts, b_partCount, b_value, b_slopeOf, b_order, b_slopes) (nI w) (nI a) (nI dd) := by
  have hc : (nI w).toNatClampNeg = w := nI_clamp (by omega)
  have hv25 : vp_in (nI w) 25 := vp_in_nI (by omega) (by decide)
  have hb4 := Hw.2.2.2.2
  have sh := ex_e3 (a := a) (dd := dd) ⟨Hw.2.1, Hw.2.2.2.1, hb4⟩ hk ha h1 h4
  have K : ∀ z0 z1 z2 : Int32, (0 < rk + 1 → yb_bt z2 = nI (ex_e dw a dd 0)) → (1 < rk + 1 → yb_bt z1 = nI (ex_e dw a dd 1)) → (2 < rk + 1 → yb_bt z0 = nI (ex_e dw a dd 2)) → wY_expand_125 post (nI w) (nI a) z0 z1 z2 (nI (rk + 1)) c_cells c_slopeCount b_used b_rank b_dims b_shown b_tensorOf b_view b_exists b_kind b_first b_second b_owner b_parts b_partCount b_value b_slopeOf b_order b_slopes := by
    intro z0 z1 z2 k0 k1 k2
    unfold wY_expand_125
    refine yb_shapeNew (by omega) ?_
    have H24 : yb_row (upd b_rank 24 (nI (rk + 1))) (ab_up3 b_dims 72 (yb_bt z2) (yb_bt z1) (yb_bt z0)) 24 (rk + 1) (ex_e dw a dd) := by
      refine ⟨pk_us, by omega, fun i hi => ?_, sh.2.1, sh.2.2⟩
      rcases (show i = 0 ∨ i = 1 ∨ i = 2 by omega) with rfl | rfl | rfl
      · exact ab_e0.trans (k0 hi)
      · exact ab_e1.trans (k1 hi)
      · exact ab_e2.trans (k2 hi)
    have Hw' : yb_row (upd b_rank 24 (nI (rk + 1))) (ab_up3 b_dims 72 (yb_bt z2) (yb_bt z1) (yb_bt z0)) w rk dw := by
      refine ⟨by rw [pk_un (by omega)]; exact Hw.1, by omega, fun i hi => ?_, Hw.2.2.2.1, hb4⟩
      rw [ab_en (by omega)]; exact Hw.2.2.1 i hi
    refine yb_size (h := 24) (by omega) H24 ⟨ex_e dw a dd 0 * ex_e dw a dd 1 * ex_e dw a dd 2 + 1, ?_⟩
    refine yv_eloop (v := v) (t := t) hw (by omega) H24 Hw' rfl hcell (fun x y z => ex_rng ⟨Hw.2.1, Hw.2.2.2.1, hb4⟩ hk ha) hv hv0 hvl ht ht2 (fun D S f1 f2 f3 f4 => ?_) _ 0 b_shown (by omega) (fun i hi => absurd hi (by omega)) (fun _ _ => rfl)
    refine h _ D S ?_ ?_ f1 ?_ f3 f4
    · rw [pk_us]
    · intro i hi hi2; rw [pk_un hi2, pk_un (by omega)]
    · intro j hj hj2; rw [f2 j hj2, ab_en (by omega)]
  unfold wpY_expand
  refine yb_isHandle_t hw hU (br_f ab_10 ⟨hv25, br_f ?_ (br_f (nI_pos (by omega)) ⟨hv25, br_f ?_ (br_f (nI_nlt (b := 1) h1 (by omega)) (br_f (nI_nlt (a := 4) h4 (by decide)) (yb_freeHandle_s hv hv0 hvl (br_f ?_ ⟨ab_vin ab_iy0 (by omega) (by decide), nm_e ⟨ab_vin (ab_iy (a := 1)) (by omega) (by decide), nm_e ⟨hv25, ?_⟩⟩⟩))))⟩)⟩)
  · rw [hc, Hw.1]; intro z
    have := (nI_eq (a := rk) (b := 3) (by omega) (by decide)).mp z
    omega
  · rw [hc, Hw.1]; exact nI_nlt ha (by omega)
  · intro z
    have := (nI_eq (a := v) (b := 24) (by omega) (by decide)).mp z
    omega
  rw [hc, Hw.1, ab_iy0, nI_clamp (by omega), show nI (3 * w) + 1 = nI (3 * w + 1) from nI_1 _, nI_clamp (by omega), nI_1]
  have b0 := hb4 0 (by omega)
  have b1 := hb4 1 (by omega)
  have f0 : 0 < rk → b_dims (3 * w) = nI (dw 0) := fun z => Hw.2.2.1 0 z
  have f1 : 1 < rk → b_dims (3 * w + 1) = nI (dw 1) := fun z => Hw.2.2.1 1 z
  rcases (show a = 0 ∨ a = 1 ∨ a = 2 by omega) with rfl | rfl | rfl
  · refine br_t rfl (br_f (by decide) (br_t rfl (br_f (by decide) (K _ _ _ (fun _ => yb_btn (by omega)) (fun z => ?_) (fun z => ?_)))))
    · rw [f0 (by omega)]; exact yb_btn (by omega)
    · rw [f1 (by omega)]; exact yb_btn (by omega)
  · refine br_f (by decide) (br_t rfl (br_f (by decide) (K _ _ _ (fun _ => ?_) (fun z => yb_btn (by omega)) (fun z => ?_))))
    · rw [f0 (by omega)]; exact yb_btn (by omega)
    · rw [f1 (by omega)]; exact yb_btn (by omega)
  · refine br_f (by decide) (br_f (by decide) (br_f (by decide) (br_t rfl (K _ _ _ (fun _ => ?_) (fun z => ?_) (fun z => yb_btn (by omega))))))
    · rw [f0 (by omega)]; exact yb_btn (by omega)
    · rw [f1 (by omega)]; exact yb_btn (by omega)
theorem yv_expand_n {post : Int32 → SY → Prop} {w rk : Nat} {x y : Int32} (hw : w < 24) (hU : ¬ b_used w = 0) (hr : b_rank w = nI rk) (hk : rk ≤ 3) (hno : ¬ ab_isD y ∨ rk = 3 ∨ ¬ ab_isA (rk + 1) x ∨ ∀ j, j < 24 → ¬ b_used j = 0) (hp : post (-1) (c_cells, c_slopeCount, b_used, b_rank, b_dims, b_shown, b_tensorOf, b_view, b_exists, b_kind, b_first, b_second, b_owner, b_parts, b_partCount, b_value, b_slopeOf, b_order, b_slopes)) : wpY_expand post (c_cells, c_slopeCount, b_used, b_rank, b_dims, b_shown, b_tensorOf, b_view, b_exists, b_kind, b_first, b_second, b_owner, b_parts, b_partCount, b_value, b_slopeOf, b_order, b_slopes) (nI w) x y := by
  have hc : (nI w).toNatClampNeg = w := nI_clamp (by omega)
  have hv25 : vp_in (nI w) 25 := vp_in_nI (by omega) (by decide)
  unfold wpY_expand
  refine yb_isHandle_t hw hU (br_f ab_10 ⟨hv25, br_c (fun _ => hp) (fun r3 => br_c (fun _ => hp) (fun a0 => ⟨hv25, br_c (fun _ => hp) (fun a1 => br_c (fun _ => hp) (fun d1 => br_c (fun _ => hp) (fun d4 => ?_)))⟩))⟩)
  rw [hc, hr] at r3 a1
  obtain ⟨a, ha, rfl⟩ := nI_of a0
  rcases hno with q | q | q | q
  · exfalso
    have h2 : ¬ y < 0 := by
      rw [Int32.lt_iff_toInt_lt] at d1 ⊢
      rw [show (1 : Int32).toInt = 1 from by decide] at d1
      rw [show (0 : Int32).toInt = 0 from by decide]
      omega
    obtain ⟨j, hj, rfl⟩ := nI_of h2
    refine q ⟨j, ?_, ?_, rfl⟩
    · apply Nat.lt_of_not_le; intro hc; exact d1 (nI_lt (b := 1) (by omega) (by decide))
    · apply Nat.le_of_not_lt; intro hc; exact d4 (nI_lt (a := 4) hc hj)
  · exact absurd (by rw [q]; rfl) r3
  · refine absurd ⟨a, ?_, rfl⟩ q
    have : ¬ rk < a := fun z => a1 (nI_lt z ha)
    omega
  · exact yb_freeHandle_n q (br_t rfl hp)
end
theorem i_vc_expand {k : Nat} {u : SX} {v : SY} (I : i_Rel k u v) (hk : k + 5 ≤ 2560) (v1 : Int32) (v2 : Int32) (v3 : Int32) : wpX_expand (fun r u' => wpY_expand (fun r' v' => r' = r ∧ i_Rel (k + 5) u' v') v v1 v2 v3) u v1 v2 v3 := by
  obtain ⟨f_slotsTaken, f_elementsTaken, f_slopeCount, a_handleTaken, a_handleIsView, a_windowRank, a_windowSlot, a_windowStart, a_windowDimension, a_windowStride, a_slotSize, a_slotKind, a_slotTerms, a_slotNeeded, a_slotsByAge, a_values, a_derivatives, a_firstPlaces, a_secondPlaces, a_assigned, a_slopes⟩ := u
  obtain ⟨c_cells, c_slopeCount, b_used, b_rank, b_dims, b_shown, b_tensorOf, b_view, b_exists, b_kind, b_first, b_second, b_owner, b_parts, b_partCount, b_value, b_slopeOf, b_order, b_slopes⟩ := v
  have I' := I
  obtain ⟨rk, sl, d, G, ages, sz, kd, tm, yk, cl, hX, hY, hS⟩ := I'
  have hu := hY.1.1
  by_cases hH : ab_isH a_handleTaken v1
  · obtain ⟨w, hw, rfl, hT⟩ := hH
    obtain ⟨w1, w2, w3, w4⟩ := hX.2.2.2.2 w hw hT
    have yw := hY.2.2.2.2.1 w hw hT
    have hU : ¬ b_used w = 0 := by rw [hu]; exact hT
    by_cases hno : ¬ ab_isD v3 ∨ rk w = 3 ∨ ¬ ab_isA (rk w + 1) v2 ∨ ∀ j, j < 24 → ¬ a_handleTaken j = 0
    · exact xv_expand_n hw hT w1 w2.1 hno (yv_expand_n hw hU yw.1 w2.1 (by rw [hu]; exact hno) ⟨rfl, I⟩)
    · have n1 : ab_isD v3 := Classical.byContradiction (fun q => hno (Or.inl q))
      have n2 : rk w ≠ 3 := fun q => hno (Or.inr (Or.inl q))
      have n3 : ab_isA (rk w + 1) v2 := Classical.byContradiction (fun q => hno (Or.inr (Or.inr (Or.inl q))))
      obtain ⟨dd, h1, h4, rfl⟩ := n1
      obtain ⟨a, ha, rfl⟩ := n3
      have hk3 : rk w < 3 := by have := w2.1; omega
      rcases ab_lst a_handleTaken 24 with ⟨v, hv, hv0, hvl⟩ | vn
      · refine xv_expand (dw := d w) hw hT w1 hk3 (by omega) h1 h4 (fun i hi => (w3.2.2.1 i hi).1) w2.2.1 hv hv0 hvl ?_
        refine yv_expand (v := v) (t := sl w) (c := fun i j k => cl (G w i j k)) hw hU (rl_row w2 yw) hk3 (by omega) h1 h4 (rl_cell hX hY.2.2.1 w3 yw) hv (by rw [hu]; exact hv0) (by rw [hu]; exact hvl) yw.2.2.1 (hX.2.2.1.2.1 _ w3.2.1) (fun R D S r1 r2 d1 d2 s1 s2 => ⟨rfl, ?_⟩)
        refine rl_mk (k + 5) _ _ _ _ ages sz kd tm yk cl (rl_viewX (e := ex_e (d w) a dd) (g := fun x y z => G w (ex_x a x y) (ex_y a y z) 0) hw hv hT (ex_e3 w2 hk3 (by omega) h1 h4) ?_ hX) (rl_viewY (e := ex_e (d w) a dd) hv (rl_hk hX).1 (rl_hk hX).2 r1 r2 d1 d2 s1 s2 hY) hS
        intro x y z hx hy hz
        obtain ⟨r1, r2, r3⟩ := ex_rng w2 hk3 (by omega) hx hy hz
        refine ⟨?_, _, _, _, r1, r2, r3, rfl⟩
        rw [ex_eq w2 hk3 (by omega) hx hy hz]
        exact (w3.2.2.2 _ _ _ r1 r2 r3).1
      · exact absurd (Or.inr (Or.inr (Or.inr vn))) hno
  · unfold wpX_expand
    refine xw_isHandle_f hH (br_t rfl ?_)
    unfold wpY_expand
    exact yb_isHandle_f (by rw [hu]; exact hH) (br_t rfl ⟨rfl, I⟩)
