section
variable {c_cells c_slopeCount : Int32} {b_used b_rank b_dims b_shown b_tensorOf b_view b_exists b_kind b_first b_second b_owner b_parts b_partCount b_value b_slopeOf b_order b_slopes : Nat → Int32}
theorem yu_inner {post : Int32 → SY → Prop} {J121 : Int32 → Int32 → Int32 → (Nat → Int32) → (Nat → Int32) → (Nat → Int32) → (Nat → Int32) → (Nat → Int32) → (Nat → Int32) → (Nat → Int32) → (Nat → Int32) → (Nat → Int32) → (Nat → Int32) → (Nat → Int32) → (Nat → Int32) → (Nat → Int32) → (Nat → Int32) → (Nat → Int32) → (Nat → Int32) → (Nat → Int32) → Prop} {w p rkw rkp N tt e x y : Nat} {x4 x5 : Int32} {dw dp f : Nat → Nat} {cw cp : Nat → Nat → Nat → Nat} {q : Nat → Nat → Nat} {P0 C0 : Nat → Int32} (hw : w < 24) (hp : p < 24) (Hw : yb_row b_rank b_dims w rkw dw) (Hp : yb_row b_rank b_dims p rkp dp) (hN : N ≤ 64) (ht4 : tt ≤ 4) (he : e < N) (hfi : ∀ i j, i < N → j < N → f i = f j → i = j) (hf : ∀ i, i < N → f i < 320) (hS : ∀ i, i < N → b_shown (1536 + i) = nI (f i)) (hcw : ∀ i j k, i < dw 0 → j < dw 1 → k < dw 2 → b_shown (64 * w + ((i * dw 1 + j) * dw 2 + k)) = nI (cw i j k) ∧ cw i j k < 320) (hcp : ∀ i j k, i < dp 0 → j < dp 1 → k < dp 2 → b_shown (64 * p + ((i * dp 1 + j) * dp 2 + k)) = nI (cp i j k) ∧ cp i j k < 320) (hx : x < dw 0) (hy : y < dp 1) (hw1 : dw 1 = tt) (hp0 : dp 0 = tt) (hq : ∀ t, t < tt → q e (2 * t) = cw x t 0 ∧ q e (2 * t + 1) = cp t y 0) (h : ∀ P C : Nat → Int32, yp_ok f N q (yp_c (2 * tt) (e + 1) 0) P0 C0 P C → J121 (nI (e + 1)) c_cells c_slopeCount b_used b_rank b_dims b_shown b_tensorOf b_view b_exists b_kind b_first b_second b_owner P C b_value b_slopeOf b_order b_slopes) : ∀ (k t : Nat) (P C : Nat → Int32), t + k = tt → yp_ok f N q (yp_c (2 * tt) e (2 * t)) P0 C0 P C → wY_multiply_153 post J121 (nI w) (nI p) (nI tt) x4 x5 (nI e) (nI x) (nI y) (k + 1) (nI t) c_cells c_slopeCount b_used b_rank b_dims b_shown b_tensorOf b_view b_exists b_kind b_first b_second b_owner P C b_value b_slopeOf b_order b_slopes := by
  intro k
  induction k with
  | zero =>
    intro t P C ht A
    have : t = tt := by omega
    subst this
    exact br_t (nI_le (by omega) (by omega)) (nm_r (nI_1 e) (h P C (yp_n A)))
  | succ k ih =>
    intro t P C ht A
    have z1 := (Hw.2.2.2.2 2 (by omega)).1
    have z2 := (Hp.2.2.2.2 2 (by omega)).1
    obtain ⟨c1, c2⟩ := hcw x t 0 hx (by omega) (by omega)
    obtain ⟨d1, d2⟩ := hcp t y 0 (by omega) hy (by omega)
    obtain ⟨q1, q2⟩ := hq t (by omega)
    refine br_f (nI_ge (by omega) (by omega)) (yb_cellAt (k := 0) (by omega) Hw hx (by omega) (by omega) (yb_cellAt (k := 0) (by omega) Hp (by omega) hy (by omega) ?_))
    rw [c1, d1]
    refine yp_part (K := 2 * tt) (m := 2 * t) hN hfi hf he (by omega) (by omega) (hS e he) q1 c2 A (fun P' C' A' => ?_)
    refine yp_part (K := 2 * tt) (m := 2 * t + 1) hN hfi hf he (by omega) (by omega) (hS e he) q2 d2 A' (fun P2 C2 A2 => ?_)
    exact nm_r (nI_1 t) (ih (t + 1) P2 C2 (by omega) (by rw [show 2 * (t + 1) = 2 * t + 1 + 1 by omega]; exact A2))
theorem yu_loop {post : Int32 → SY → Prop} {w p v s N tt : Nat} {dd dw dp f : Nat → Nat} {cw cp : Nat → Nat → Nat → Nat} {P0 C0 : Nat → Int32} (hw : w < 24) (hp : p < 24) (H24 : yb_row b_rank b_dims 24 2 dd) (Hw : yb_row b_rank b_dims w 2 dw) (Hp : yb_row b_rank b_dims p 2 dp) (hw1 : dw 1 = tt) (hp0 : dp 0 = tt) (hd0 : dd 0 = dw 0) (hd1 : dd 1 = dp 1) (hN : dd 0 * dd 1 * dd 2 = N) (hs : s < 32) (hfi : ∀ i j, i < N → j < N → f i = f j → i = j) (hf : ∀ i, i < N → f i < 320) (hS : ∀ i, i < N → b_shown (1536 + i) = nI (f i)) (hcw : ∀ i j k, i < dw 0 → j < dw 1 → k < dw 2 → b_shown (64 * w + ((i * dw 1 + j) * dw 2 + k)) = nI (cw i j k) ∧ cw i j k < 320) (hcp : ∀ i j k, i < dp 0 → j < dp 1 → k < dp 2 → b_shown (64 * p + ((i * dp 1 + j) * dp 2 + k)) = nI (cp i j k) ∧ cp i j k < 320) (hv : v < 24) (hv0 : b_used v = 0) (hvl : ∀ j, j < v → ¬ b_used j = 0) (h : ∀ P C D S : Nat → Int32, yp_ok f N (fun i j => if j % 2 = 0 then cw (i / (dd 1 * dd 2) % dd 0) (j / 2) 0 else cp (j / 2) (i / dd 2 % dd 1) 0) (fun _ => 2 * tt) P0 C0 P C → (∀ a, a < 2 → D (3 * v + a) = nI (dd a)) → (∀ j, (j < 3 * v ∨ 3 * v + 3 ≤ j) → D j = b_dims j) → (∀ i, i < N → S (64 * v + i) = nI (f i)) → (∀ j, (j < 64 * v ∨ 64 * v + 64 ≤ j) → S j = b_shown j) → post (nI v) (c_cells, c_slopeCount, upd b_used v 1, upd b_rank v (nI 2), D, S, upd b_tensorOf v (nI s), upd b_view v 0, b_exists, b_kind, b_first, b_second, b_owner, P, C, b_value, b_slopeOf, b_order, b_slopes)) : ∀ (q j : Nat) (P C : Nat → Int32), j + q = N → yp_ok f N (fun i j => if j % 2 = 0 then cw (i / (dd 1 * dd 2) % dd 0) (j / 2) 0 else cp (j / 2) (i / dd 2 % dd 1) 0) (yp_c (2 * tt) j 0) P0 C0 P C → wY_multiply_121 post (nI w) (nI p) (nI tt) (nI s) (nI N) (q + 1) (nI j) c_cells c_slopeCount b_used b_rank b_dims b_shown b_tensorOf b_view b_exists b_kind b_first b_second b_owner P C b_value b_slopeOf b_order b_slopes := by
  have hb4 := H24.2.2.2.2
  have hN64 : N ≤ 64 := hN ▸ ab_sz (hb4 0 (by omega)).2 (hb4 1 (by omega)).2 (hb4 2 (by omega)).2
  have t4 := (Hw.2.2.2.2 1 (by omega)).2
  intro q
  induction q with
  | zero =>
    intro j P C hj A
    have : j = N := by omega
    subst this
    refine br_t (nI_le (by omega) (by omega)) ?_
    refine yv_hand (e := dd) (c := f) (N := j) hv hv0 hvl hs H24.1 H24.2.1 hN64 (fun a ha => H24.2.2.1 a ha) (fun a ha => (H24.2.2.2.2 a ha).2) hS hf (fun D S d1 d2 s1 s2 => ?_)
    rw [ab_b0]
    exact h P C D S (yp_x A) d1 d2 s1 s2
  | succ q ih =>
    intro j P C hj A
    obtain ⟨i1, i2, i3⟩ := ab_pfi (e := j) (hb4 0 (by omega)).1 (hb4 1 (by omega)).1 (hb4 2 (by omega)).1
    refine br_f (nI_ge (by omega) (by omega)) (yb_index0 (h := 24) (by omega) H24 (by omega) (yb_index1 (h := 24) (by omega) H24 (by omega) ⟨tt + 1, ?_⟩))
    refine yu_inner (cw := cw) (cp := cp) hw hp Hw Hp hN64 (by omega) (by omega) hfi hf hS hcw hcp (by omega) (by omega) hw1 hp0 ?_ (fun P' C' A' => ih (j + 1) P' C' (by omega) A') tt 0 P C (by omega) A
    intro t ht
    refine ⟨?_, ?_⟩
    · rw [if_pos (show 2 * t % 2 = 0 by omega), show 2 * t / 2 = t by omega]
    · rw [if_neg (show ¬ (2 * t + 1) % 2 = 0 by omega), show (2 * t + 1) / 2 = t by omega]
theorem yu_shape {post : Int32 → SY → Prop} {w p rkw rkp : Nat} {dw dp : Nat → Nat} (hw : w < 24) (hp : p < 24) (hU : ¬ b_used w = 0) (hUp : ¬ b_used p = 0) (Hw : yb_row b_rank b_dims w rkw dw) (Hp : yb_row b_rank b_dims p rkp dp) (h : rkw = 2 → rkp = 2 → dp 0 = dw 1 → ∀ (R D : Nat → Int32), R 24 = nI 2 → (∀ h, h < 24 → R h = b_rank h) → (∀ i, i < 2 → D (72 + i) = nI (mu_d (dw 0) (dp 1) i)) → (∀ j, j < 72 → D j = b_dims j) → wpY_tensor (fun r_132 u => match u with | (c_cells, c_slopeCount, b_used, b_rank, b_dims, b_shown, b_tensorOf, b_view, b_exists, b_kind, b_first, b_second, b_owner, b_parts, b_partCount, b_value, b_slopeOf, b_order, b_slopes) => (((0 ≤ r_132 → (wpY_size (fun r_153 => (∃ n121 : Nat, wY_multiply_121 post (nI w) (nI p) (nI (dw 1)) r_132 r_153 n121 0 c_cells c_slopeCount b_used b_rank b_dims b_shown b_tensorOf b_view b_exists b_kind b_first b_second b_owner b_parts b_partCount b_value b_slopeOf b_order b_slopes)) (c_cells, c_slopeCount, b_used, b_rank, b_dims, b_shown, b_tensorOf, b_view, b_exists, b_kind, b_first, b_second, b_owner, b_parts, b_partCount, b_value, b_slopeOf, b_order, b_slopes) 24)) ∧ (¬ 0 ≤ r_132 → (post (-1) (c_cells, c_slopeCount, b_used, b_rank, b_dims, b_shown, b_tensorOf, b_view, b_exists, b_kind, b_first, b_second, b_owner, b_parts, b_partCount, b_value, b_slopeOf, b_order, b_slopes)))))) (c_cells, c_slopeCount, b_used, R, D, b_shown, b_tensorOf, b_view, b_exists, b_kind, b_first, b_second, b_owner, b_parts, b_partCount, b_value, b_slopeOf, b_order, b_slopes) 5 (b_tensorOf w) (b_tensorOf p)) (hf : ¬ (rkw = 2 ∧ rkp = 2 ∧ dp 0 = dw 1) → post (-1) (c_cells, c_slopeCount, b_used, b_rank, b_dims, b_shown, b_tensorOf, b_view, b_exists, b_kind, b_first, b_second, b_owner, b_parts, b_partCount, b_value, b_slopeOf, b_order, b_slopes)) : wpY_multiply post (c_cells, c_slopeCount, b_used, b_rank, b_dims, b_shown, b_tensorOf, b_view, b_exists, b_kind, b_first, b_second, b_owner, b_parts, b_partCount, b_value, b_slopeOf, b_order, b_slopes) (nI w) (nI p) := by
  have cw : (nI w).toNatClampNeg = w := nI_clamp (by omega)
  have cp : (nI p).toNatClampNeg = p := nI_clamp (by omega)
  have hvw : vp_in (nI w) 25 := vp_in_nI (by omega) (by decide)
  have hvp : vp_in (nI p) 25 := vp_in_nI (by omega) (by decide)
  have kw := Hw.2.1
  have kp := Hp.2.1
  have bw := Hw.2.2.2.2
  have bp := Hp.2.2.2.2
  unfold wpY_multiply
  refine yb_isHandle_t hw hU (br_f ab_10 (yb_isHandle_t hp hUp (br_f ab_10 ⟨hvw, ?_⟩)))
  rw [cw, cp, Hw.1, Hp.1]
  by_cases z1 : rkw = 2
  · subst z1
    refine br_t rfl ⟨hvp, ?_⟩
    by_cases z2 : rkp = 2
    · subst z2
      refine br_t rfl (yb_dim (a := 1) (by omega) (by omega) (yb_dim (a := 0) (by omega) (by omega) ?_))
      rw [Hw.2.2.1 1 (by omega), Hp.2.2.1 0 (by omega)]
      have l1 := bw 1 (by omega)
      have l0 := bp 0 (by omega)
      by_cases z3 : dp 0 = dw 1
      · refine br_t (by rw [z3]) (yb_dim (a := 1) (by omega) (by omega) ⟨ab_vin ab_iy0 (by omega) (by decide), ab_vin (ab_iy (a := 1)) (by omega) (by decide), ?_⟩)
        rw [Hw.2.2.1 1 (by omega), ab_iy0, nI_clamp (by omega), show (3 : Int32) * nI p + 1 = nI (3 * p + 1) from ab_iy (a := 1), nI_clamp (by omega), Hp.2.2.1 1 (by omega), show b_dims (3 * w) = nI (dw 0) from Hw.2.2.1 0 (by omega)]
        refine yb_shapeNew (r := 2) (by omega) ⟨hvw, hvp, ?_⟩
        have g0 := bw 0 (by omega)
        have g1 := bp 1 (by omega)
        refine h rfl rfl z3 _ _ pk_us (fun i hi => pk_un (by omega)) (fun i hi => ?_) (fun j hj => ab_en (by omega))
        rcases (show i = 0 ∨ i = 1 by omega) with rfl | rfl
        · refine ab_e0.trans ?_
          rw [yb_btn (by omega)]; rfl
        · refine ab_e1.trans ?_
          rw [yb_btn (by omega)]; rfl
      · refine br_f (fun q => z3 ((nI_eq (by omega) (by omega)).mp q).symm) (hf (fun q => z3 q.2.2))
    · exact br_f (fun q => z2 ((nI_eq (b := 2) (by omega) (by decide)).mp q)) (hf (fun q => z2 q.2.1))
  · exact br_f (fun q => z1 ((nI_eq (b := 2) (by omega) (by decide)).mp q)) (hf (fun q => z1 q.1))
end
theorem i_vc_multiply {k : Nat} {u : SX} {v : SY} (I : i_Rel k u v) (hk : k + 5 ≤ 2560) (v1 : Int32) (v2 : Int32) : wpX_multiply (fun r u' => wpY_multiply (fun r' v' => r' = r ∧ i_Rel (k + 5) u' v') v v1 v2) u v1 v2 := by
  obtain ⟨f_slotsTaken, f_elementsTaken, f_slopeCount, a_handleTaken, a_handleIsView, a_windowRank, a_windowSlot, a_windowStart, a_windowDimension, a_windowStride, a_slotSize, a_slotKind, a_slotTerms, a_slotNeeded, a_slotsByAge, a_values, a_derivatives, a_firstPlaces, a_secondPlaces, a_assigned, a_slopes⟩ := u
  obtain ⟨c_cells, c_slopeCount, b_used, b_rank, b_dims, b_shown, b_tensorOf, b_view, b_exists, b_kind, b_first, b_second, b_owner, b_parts, b_partCount, b_value, b_slopeOf, b_order, b_slopes⟩ := v
  have I' := I
  obtain ⟨rk, sl, d, G, ages, sz, kd, tm, yk, cl, hX, hY, hS⟩ := I'
  have hu := hY.1.1
  by_cases hH : ab_isH a_handleTaken v1
  · obtain ⟨w, hw, rfl, hT⟩ := hH
    by_cases hK : ab_isH a_handleTaken v2
    · obtain ⟨p, hp, rfl, hTp⟩ := hK
      obtain ⟨w1, w2, w3, w4⟩ := hX.2.2.2.2 w hw hT
      obtain ⟨p1, p2, p3, p4⟩ := hX.2.2.2.2 p hp hTp
      have yw := hY.2.2.2.2.1 w hw hT
      have yp := hY.2.2.2.2.1 p hp hTp
      have hU : ¬ b_used w = 0 := by rw [hu]; exact hT
      have hUp : ¬ b_used p = 0 := by rw [hu]; exact hTp
      have hfree : ∀ t, t < 32 → (b_exists t = 0 ↔ a_slotSize t = 0) := fun t ht => (hY.2.2.2.1 t ht).trans (rl_sz0 hX ht).symm
      have Dw := w3.2.2.1
      have Dp := p3.2.2.1
      have b0 := w2.2.2 0 (by omega)
      have b1 := p2.2.2 1 (by omega)
      have b2 := w2.2.2 1 (by omega)
      have H := mu_d3 b0.1 b0.2 b1.1 b1.2
      by_cases hno : rk w = 2 → rk p = 2 → d p 0 = d w 1 → (∀ t, t < 32 → ¬ a_slotSize t = 0) ∨ 320 < (ab_fl sz ages).length + mu_d (d w 0) (d p 1) 0 * mu_d (d w 0) (d p 1) 1 * mu_d (d w 0) (d p 1) 2 ∨ (∀ j, j < 24 → ¬ a_handleTaken j = 0)
      · refine xu_multiply_n (dw := d w) (dp := d p) hw hp hT hTp w1 p1 w2.1 p2.1 (fun i hi => (Dw i hi).1) (fun i hi => (Dp i hi).1) w2.2.2 p2.2.2 hX.2.1.1 hX.2.1.2 hno ?_
        refine yu_shape hw hp hU hUp (rl_row w2 yw) (rl_row p2 yp) (fun e1 e2 e3 R D r24 r1 d24 d1 => ?_) (fun _ => ⟨rfl, I⟩)
        refine yb_tensor_n (rk := 2) (d := mu_d (d w 0) (d p 1)) ⟨r24, by omega, d24, H.2.1, H.2.2⟩ hY.2.1.1 hX.2.1.2 ?_ (br_f (by decide) ⟨rfl, ?_⟩)
        · rw [hu]
          rcases hno e1 e2 e3 with z | z | z
          · exact Or.inl (fun t ht y => z t ht ((hfree t ht).mp y))
          · exact Or.inr (Or.inl z)
          · exact Or.inr (Or.inr z)
        · exact rl_mk (k + 5) rk sl d G ages sz kd tm yk cl hX (rl_scr r1 d1 (fun _ _ => rfl) (rl_hk hX).1 (rl_hk hX).2 hY) hS
      · have r2w : rk w = 2 := Classical.byContradiction (fun z => hno (fun q => absurd q z))
        have r2p : rk p = 2 := Classical.byContradiction (fun z => hno (fun _ q => absurd q z))
        have hin : d p 0 = d w 1 := Classical.byContradiction (fun z => hno (fun _ _ q => absurd q z))
        have hres := fun z => hno (fun _ _ _ => z)
        have dd0 : mu_d (d w 0) (d p 1) 0 = d w 0 := rfl
        have dd1 : mu_d (d w 0) (d p 1) 1 = d p 1 := rfl
        have dd2 : mu_d (d w 0) (d p 1) 2 = 1 := rfl
        generalize hdd : mu_d (d w 0) (d p 1) = dd at *
        rcases ab_lst a_slotSize 32 with ⟨s, hs, hs0, hsl⟩ | sn
        · rcases ab_lst a_handleTaken 24 with ⟨v, hv, hv0, hvl⟩ | vn
          · have hce : (ab_fl sz ages).length + dd 0 * dd 1 * dd 2 ≤ 320 := Nat.le_of_not_lt (fun z => hres (Or.inr (Or.inl z)))
            have hsn : s ∉ ages := (rl_sz0 hX hs).mp hs0
            have hm := rl_m32 hX.2.2.1.1 hX.2.2.1.2.1 hs hsn
            have t32 := hX.2.2.1.2.1 _ w3.2.1
            have u32 := hX.2.2.1.2.1 _ p3.2.1
            have rw2 := rl_row w2 yw
            have rp2 := rl_row p2 yp
            rw [r2w] at w1
            rw [r2p] at p1
            refine xu_multiply (dw := d w) (dp := d p) (dd := dd) hw hp hT hTp w1 p1 (fun i hi => (Dw i hi).1) (fun i hi => (Dp i hi).1) w2.2.2 p2.2.2 hin hdd hX.2.1.1 hce hX.1.1 hm hs hs0 hsl hv hv0 hvl ?_
            rw [w3.1, p3.1]
            refine yu_shape hw hp hU hUp rw2 rp2 (fun _ _ _ R D r24 r1 d24 d1 => ?_) (fun z => absurd ⟨r2w, r2p, hin⟩ z)
            rw [hdd] at d24
            rw [r2w] at rw2
            rw [r2p] at rp2
            have R24 : yb_row R D 24 2 dd := ⟨r24, by omega, d24, H.2.1, H.2.2⟩
            have Hw' : yb_row R D w 2 (d w) := by
              refine ⟨by rw [r1 w hw]; exact rw2.1, rw2.2.1, fun i hi => ?_, rw2.2.2.2.1, rw2.2.2.2.2⟩
              rw [d1 _ (by omega)]; exact rw2.2.2.1 i hi
            have Hp' : yb_row R D p 2 (d p) := by
              refine ⟨by rw [r1 p hp]; exact rp2.1, rp2.2.1, fun i hi => ?_, rp2.2.2.2.1, rp2.2.2.2.2⟩
              rw [d1 _ (by omega)]; exact rp2.2.2.1 i hi
            have cW := rl_cell hX hY.2.2.1 w3 yw
            have cP := rl_cell hX hY.2.2.1 p3 yp
            rw [yw.2.2.1, yp.2.2.1]
            refine yb_tensor_s (kw := 5) (v := v) (L := (ab_fl sz ages).map cl) R24 hY.2.1.1 hce hs ((hfree s hs).mpr hs0) (fun j hj z => hsl j hj ((hfree j (by omega)).mp z)) hv (by rw [hu]; exact hv0) (by rw [hu]; exact hvl) (by omega) (rl_Lst hY.2.2.1) (by rw [List.length_map]) (fun f O C0 V Ro S A => br_t (nI_pos' (by omega)) (yb_size (h := 24) (by omega) R24 ⟨dd 0 * dd 1 * dd 2 + 1, ?_⟩))
            obtain ⟨A1, A2, A3, A4, A5, A6, A7⟩ := A
            have lw : ∀ i j k, i < d w 0 → j < d w 1 → k < d w 2 → S (64 * w + ((i * d w 1 + j) * d w 2 + k)) = nI (cl (G w i j k)) ∧ cl (G w i j k) < 320 := by
              intro i j k hi hj hk'
              have h1 := ab_lin hi hj hk'
              have h2 := ab_sz (w2.2.2 0 (by omega)).2 (w2.2.2 1 (by omega)).2 (w2.2.2 2 (by omega)).2
              have h3 : (i * d w 1 + j) * d w 2 + k < 64 := by omega
              have h4 : 64 * w + ((i * d w 1 + j) * d w 2 + k) < 1536 := by omega
              rw [A7 _ h4]; exact cW i j k hi hj hk'
            have lp : ∀ i j k, i < d p 0 → j < d p 1 → k < d p 2 → S (64 * p + ((i * d p 1 + j) * d p 2 + k)) = nI (cl (G p i j k)) ∧ cl (G p i j k) < 320 := by
              intro i j k hi hj hk'
              have h1 := ab_lin hi hj hk'
              have h2 := ab_sz (p2.2.2 0 (by omega)).2 (p2.2.2 1 (by omega)).2 (p2.2.2 2 (by omega)).2
              have h3 : (i * d p 1 + j) * d p 2 + k < 64 := by omega
              have h4 : 64 * p + ((i * d p 1 + j) * d p 2 + k) < 1536 := by omega
              rw [A7 _ h4]; exact cP i j k hi hj hk'
            refine yu_loop (f := f) (cw := fun i j k => cl (G w i j k)) (cp := fun i j k => cl (G p i j k)) (P0 := b_parts) (C0 := C0) (v := v) (tt := d w 1) hw hp R24 Hw' Hp' rfl hin dd0 dd1 rfl hs A2 (fun i hi => (A1 i hi).1) (fun i hi => (A5 i hi).2) lw lp hv (by rw [hu]; exact hv0) (by rw [hu]; exact hvl) (fun P C D' S' Y e1 e2 s1 s2 => ⟨rfl, ?_⟩) _ 0 b_parts C0 (by omega) (yp_0 ⟨A1, A2, A3, A4, A5, A6, A7⟩)
            have z1 := (w2.2.2 2 (by omega)).1
            have z2 := (p2.2.2 2 (by omega)).1
            have e1w : ∀ x y z, x < d w 0 → y < d p 1 → z < d w 1 → a_windowStart w + nI x * a_windowStride (3 * w) + nI y * 0 + nI z * a_windowStride (3 * w + 1) = nI (G w x z 0) ∧ G w x z 0 / 64 = sl w ∧ G w x z 0 % 64 < sz (sl w) := by
              intro x y z hx hy hz
              obtain ⟨q1, q2⟩ := w3.2.2.2 x z 0 hx hz (by omega)
              refine ⟨?_, q2⟩
              rw [← q1, nI_0]; grind
            have e1p : ∀ x y z, x < d w 0 → y < d p 1 → z < d w 1 → a_windowStart p + nI x * 0 + nI y * a_windowStride (3 * p + 1) + nI z * a_windowStride (3 * p) = nI (G p z y 0) ∧ G p z y 0 / 64 = sl p ∧ G p z y 0 % 64 < sz (sl p) := by
              intro x y z hx hy hz
              obtain ⟨q1, q2⟩ := p3.2.2.2 z y 0 (by omega) hy (by omega)
              refine ⟨?_, q2⟩
              rw [← q1, nI_0]; grind
            have hE : ∀ a, a < 3 → 1 ≤ mu_e (d w 0) (d p 1) (d w 1) a ∧ mu_e (d w 0) (d p 1) (d w 1) a ≤ 4 := by
              intro a ha
              unfold mu_e
              split
              · exact b0
              · split
                · exact b1
                · exact b2
            have hnn : mu_e (d w 0) (d p 1) (d w 1) 0 * mu_e (d w 0) (d p 1) (d w 1) 1 * mu_e (d w 0) (d p 1) (d w 1) 2 = dd 0 * dd 1 * dd 2 * d w 1 := by
              rw [dd0, dd1, dd2, Nat.mul_one]; rfl
            refine rl_mk (k + 5) (ab_fu rk v 2) (mk_f sl v s s (sl w) (sl p)) (mk_f d v s dd (mu_e (d w 0) (d p 1) (d w 1)) (mu_e (d w 0) (d p 1) (d w 1))) (mk_f G v s (mk_g s dd) (fun x y z => G w x z 0) (fun x y z => G p z y 0)) (ages ++ [s]) (ab_fu sz s (dd 0 * dd 1 * dd 2)) (ab_fu kd s 2) (ab_fu tm s (d w 1)) (ab_fu yk s 5) (rl_cl cl f s) ?_ ?_ hS
            · exact rl_resX (e1 := mu_e (d w 0) (d p 1) (d w 1)) (e2 := mu_e (d w 0) (d p 1) (d w 1)) hs hsn hv H rfl hce (by omega) b2.1 b2.2 hE hE hnn hnn w3.2.1 p3.2.1 e1w e1p hX
            · refine rl_resY (tt := d w 1) (kk := 2) (r := 2) (e1 := mu_e (d w 0) (d p 1) (d w 1)) (e2 := mu_e (d w 0) (d p 1) (d w 1)) hs hsn hv H rfl (by omega) b2.2 hE hE w3.2.1 p3.2.1 (fun x y z hx hy hz => (e1w x y z hx hy hz).2.1) (fun x y z hx hy hz => (e1p x y z hx hy hz).2.1) pk_us ?_ e1 ?_ s1 ?_ ⟨A1, A2, A3, A4, A5, A6, A7⟩ (by rw [if_neg (by omega)]; exact Y) (fun z => by omega) ?_ ?_ (yb_btn (by omega)) (fun z => by omega) (fun _ => yb_btn (by omega)) hX hY
              · intro i hi hi2; rw [pk_un hi2]; exact r1 i hi
              · intro j hj hj2; rw [e2 j hj2]; exact d1 j hj
              · intro j hj hj2; rw [s2 j hj2]; exact A7 j hj
              · intro _ i t hi ht
                rw [dd0, dd1, dd2] at hi
                refine ⟨?_, ?_⟩
                · rw [if_pos (show 2 * t % 2 = 0 by omega), show 2 * t / 2 = t by omega]
                  have := mu_lin (g := fun x y z => G w x z 0) b0.1 b1.1 hi ht
                  rw [dd0, dd1, dd2]
                  exact congrArg cl this.symm
                · rw [if_neg (show ¬ (2 * t + 1) % 2 = 0 by omega), show (2 * t + 1) / 2 = t by omega]
                  have := mu_lin (g := fun x y z => G p z y 0) b0.1 b1.1 hi ht
                  rw [dd1, dd2]
                  exact congrArg cl this.symm
              · unfold rl_kr; omega
          · exact absurd (Or.inr (Or.inr vn)) hres
        · exact absurd (Or.inl sn) hres
    · unfold wpX_multiply
      refine xw_isHandle_t hw hT (br_f ab_10 (xw_isHandle_f hK (br_t rfl ?_)))
      unfold wpY_multiply
      exact yb_isHandle_t hw (by rw [hu]; exact hT) (br_f ab_10 (yb_isHandle_f (by rw [hu]; exact hK) (br_t rfl ⟨rfl, I⟩)))
  · unfold wpX_multiply
    refine xw_isHandle_f hH (br_t rfl ?_)
    unfold wpY_multiply
    exact yb_isHandle_f (by rw [hu]; exact hH) (br_t rfl ⟨rfl, I⟩)
