theorem i_vc_gradient {k : Nat} {u : SX} {v : SY} (I : i_Rel k u v) (hk : k + 5 ≤ 2560) (v1 : Int32) (v2 : Int32) : wpX_gradient (fun r u' => wpY_gradient (fun r' v' => r' = r ∧ i_Rel (k + 5) u' v') v v1 v2) u v1 v2 := by
  obtain ⟨f_slotsTaken, f_elementsTaken, f_slopeCount, a_handleTaken, a_handleIsView, a_windowRank, a_windowSlot, a_windowStart, a_windowDimension, a_windowStride, a_slotSize, a_slotKind, a_slotTerms, a_slotNeeded, a_slotsByAge, a_values, a_derivatives, a_firstPlaces, a_secondPlaces, a_assigned, a_slopes⟩ := u
  obtain ⟨c_cells, c_slopeCount, b_used, b_rank, b_dims, b_shown, b_tensorOf, b_view, b_exists, b_kind, b_first, b_second, b_owner, b_parts, b_partCount, b_value, b_slopeOf, b_order, b_slopes⟩ := v
  have I' := I
  obtain ⟨rk, sl, d, G, ages, sz, kd, tm, yk, cl, hX, hY, hS⟩ := I'
  have hu := hY.1.1
  have hvw := hY.1.2
  by_cases hH : ab_isH a_handleTaken v1
  · obtain ⟨w, hw, rfl, hT⟩ := hH
    obtain ⟨w1, w2, w3, w4⟩ := hX.2.2.2.2 w hw hT
    have yw := hY.2.2.2.2.1 w hw hT
    have hU : ¬ b_used w = 0 := by rw [hu]; exact hT
    have nw := (rl_hk hX).2 w hw hT
    unfold wpX_gradient
    refine xw_isHandle_t hw hT (br_f ab_10 ?_)
    by_cases hK : ab_isH a_handleTaken v2
    · obtain ⟨p, hp, rfl, hTp⟩ := hK
      obtain ⟨p1, p2, p3, p4⟩ := hX.2.2.2.2 p hp hTp
      have yp := hY.2.2.2.2.1 p hp hTp
      have hUp : ¬ b_used p = 0 := by rw [hu]; exact hTp
      have npp := (rl_hk hX).2 p hp hTp
      have s32 := hX.2.2.1.2.1 _ p3.2.1
      have xs := hX.2.2.2.1 _ p3.2.1
      have ys := hY.2.2.2.2.2.1 _ p3.2.1
      have kr := rl_krL ys.2.1
      by_cases hlf : a_handleIsView p = 0 ∧ kd (sl p) = 4
      · obtain ⟨hv0, hk4⟩ := hlf
        have Lx : a_slotKind (sl p) = 4 := by rw [xs.2.2.2.1, hk4]; rfl
        have Ly : b_kind (sl p) = 0 := by rw [ys.1, kr.2.2.mp hk4]; rfl
        obtain ⟨st, pf⟩ := p4 hv0
        have sz64 := xs.2.2.1
        have hpl : ∀ e, rl_p d G w e ∈ ab_fl sz ages ∧ rl_p d G w e < 2048 := fun e => rl_pmem hX w3
        refine xw_isLeaf_t hp hTp hv0 p3.1 s32 Lx (br_f ab_10 (xk_compute hX (fun V F0 S0 hd hv => xg_start hw w3 (fun e => (hpl e).2) nw (fun D0 F1 hD0 => nm_r (e' := nI ages.reverse.length - 1) (by rw [hX.1.1, List.length_reverse]) ⟨ages.reverse.length + 1, ?_⟩))))
        refine xg_loop (C := fun S => ab_sm (fun e => S (rl_p d G w e)) (rl_n d w)) (rk := rk) (d := d) (G := G) hX (fun D F S n hD => ?_) ages.reverse [] D0 F1 S0 (by simp) (fun S hS => ?_)
        · refine br_t (by decide) (xw_windowSize (by omega) (p3.2.2.1 0 (by omega)).1 (p3.2.2.1 1 (by omega)).1 (p3.2.2.1 2 (by omega)).1 ⟨vp_in_nI (by omega) (by decide), nm_r (e' := nI (64 * sl p)) (by rw [nI_clamp (by omega), st]) ⟨rl_n d p + 1, ?_⟩⟩)
          refine xg_tail (b := 64 * sl p) (N := rl_n d p) npp (by omega) (fun Sx hSx => ?_) (rl_n d p) 0 a_slopes (by omega) (fun j hj => absurd hj (by omega))
          unfold wpY_gradient
          refine yb_isHandle_t hw hU (br_f ab_10 (yb_isLeaf_t hp hUp (by rw [hvw]; exact hv0) yp.2.2.1 s32 Ly (br_f ab_10 (yb_size (by omega) (rl_row p2 yp) (yb_size (by omega) (rl_row w2 yw) ⟨rl_n d p + 1, ?_⟩)))))
          have hO := hY.2.2.1
          have key : ∀ (i : Nat) (Sl : Nat → Int32), i < rl_n d p → (∀ s, s ∈ ages → kd s = 4 → ∀ j, j < sz s → wo_li cl (nI (cl (rl_p d G p i))) Sl s j) → (∀ s, s ∈ ages → kd s ≠ 4 → ∀ j, j < sz s → wo_re d G kd tm cl V Sl s j) → ab_sm (fun e => Sl (cl (rl_p d G w e))) (rl_n d w) = D (64 * sl p + i) := by
            intro i Sl hi q2 q3
            have h1 := hD (fun q => Sl (cl q)) (fun s hs hks j hj => q3 s hs hks j hj)
            rw [← h1]
            have i64 : i < 64 := Nat.lt_of_lt_of_le hi npp
            rw [← gd_ind (D := D) (a := 64 * sl p + i) (by omega)]
            refine gd_g (fun q hq => ?_)
            unfold gd_w
            have am := (rl_pmem hX p3 (e := i)).1
            by_cases z : q = 64 * sl p + i
            · have qm : q ∈ ab_fl sz ages := by rw [z, ← pf i hi]; exact am
              have qk : kd (q / 64) = 4 := by rw [z, show (64 * sl p + i) / 64 = sl p by omega]; exact hk4
              rw [if_pos z, if_pos ⟨qm, Or.inr qk⟩]
              obtain ⟨a1, a2⟩ := (rl_mem hX).mp qm
              have li := q2 _ a1 qk _ a2
              unfold wo_li at li
              rw [show 64 * (q / 64) + q % 64 = q by omega] at li
              dsimp only
              rw [li, if_pos (by rw [z, pf i hi])]
            · rw [if_neg z]
              by_cases y : q ∈ ab_fl sz ages ∧ (q / 64 ∈ [] ∨ kd (q / 64) = 4)
              · rw [if_pos y]
                have qk : kd (q / 64) = 4 := by
                  rcases y.2 with r | r
                  · exact absurd r (by simp)
                  · exact r
                obtain ⟨a1, a2⟩ := (rl_mem hX).mp y.1
                have li := q2 _ a1 qk _ a2
                unfold wo_li at li
                rw [show 64 * (q / 64) + q % 64 = q by omega] at li
                dsimp only
                rw [li, if_neg (fun e => z ?_)]
                have c1 := (hO.1 _ y.1).1
                have c2 := (hO.1 _ am).1
                have e2 := hO.2.1 _ _ y.1 am ((nI_eq (by omega) (by omega)).mp e)
                rw [e2, pf i hi]
              · rw [if_neg y]
          have L : ∀ (j i : Nat) (W Sl Sy : Nat → Int32), i + j = rl_n d p → (∀ q, q ∈ ab_fl sz ages → kd (q / 64) = 4 → W (cl q) = V q) → (∀ e, e < i → Sy e = D (64 * sl p + e)) → wY_gradient_36 (fun r' v' => r' = 1 ∧ i_Rel (k + 5) (f_slotsTaken, f_elementsTaken, nI (rl_n d p), a_handleTaken, a_handleIsView, a_windowRank, a_windowSlot, a_windowStart, a_windowDimension, a_windowStride, a_slotSize, a_slotKind, a_slotTerms, a_slotNeeded, a_slotsByAge, V, D, F, S, a_assigned, Sx) v') (nI w) (nI p) (nI (rl_n d w)) (j + 1) (nI i) c_cells (nI (rl_n d p)) b_used b_rank b_dims b_shown b_tensorOf b_view b_exists b_kind b_first b_second b_owner b_parts b_partCount W Sl b_order Sy := by
            intro j
            induction j with
            | zero =>
              intro i W Sl Sy hi hW hSy
              have : i = rl_n d p := by omega
              subst this
              refine br_t (nI_le (by omega) (by omega)) ⟨rfl, ?_⟩
              obtain ⟨y1, y2, y3, y4, y5, y6, y7⟩ := hY
              exact rl_mk (k + 5) rk sl d G ages sz kd tm yk cl hX ⟨y1, y2, y3, y4, y5, y6, hW⟩ ⟨rl_n d p, npp, rfl, rfl, fun e he => by rw [hSx e he, hSy e he]⟩
            | succ j ih =>
              intro i W Sl Sy hi hW hSy
              have i64 : i < 64 := by omega
              refine br_f (nI_ge (by omega) (by omega)) ⟨ab_vin ab_i64 (by omega) (by decide), ?_⟩
              rw [ab_i64, nI_clamp (show 64 * p + i < 2 ^ 31 by omega), yp.2.2.2 i (show i < rl_n d p by omega)]
              have hY' : rl_Y rk sl d G ages sz kd tm yk cl a_handleTaken a_handleIsView V c_cells b_used b_rank b_dims b_shown b_tensorOf b_view b_exists b_kind b_first b_second b_owner b_parts b_partCount W b_order := by
                obtain ⟨y1, y2, y3, y4, y5, y6, y7⟩ := hY
                exact ⟨y1, y2, y3, y4, y5, y6, hW⟩
              refine yk_work (V := V) hX hY' hd hW (fun W' Sl' q1 q2 q3 => ⟨vp_in_nI i64 (by decide), nm_r (e' := upd Sy i 0) (by rw [nI_clamp (by omega)]) ⟨rl_n d w + 1, ?_⟩⟩)
              refine yg_sum (cw := fun e => cl (rl_p d G w e)) hw nw i64 (fun e he => ⟨yw.2.2.2 e he, (hO.1 _ (hpl e).1).1⟩) ?_ (rl_n d w) 0 (by omega)
              refine ih (i + 1) W' Sl' _ (by omega) (fun q hq _ => q1 q hq) (fun e he => ?_)
              by_cases z : e = i
              · rw [z, pk_us]; exact key i Sl' (by omega) q2 q3
              · rw [pk_un z]; exact hSy e (by omega)
          exact L (rl_n d p) 0 b_value b_slopeOf b_slopes (by omega) (fun q hq hkq => by rw [hv q hkq]; exact hY.2.2.2.2.2.2 q hq hkq) (fun e he => absurd he (by omega))
        · rw [hD0]
          refine ab_smg (fun e _ => ?_)
          exact if_pos ⟨(hpl e).1, Or.inl (by rw [List.mem_reverse]; exact ((rl_mem hX).mp (hpl e).1).1)⟩
      · refine xw_isLeaf_f hp hTp p3.1 s32 xs.2.2.2.1 xs.2.2.2.2.1 hlf (br_t rfl ?_)
        unfold wpY_gradient
        exact yb_isHandle_t hw hU (br_f ab_10 (yb_isLeaf_f hp hUp yp.2.2.1 s32 ys.1 kr.1 (fun z => hlf ⟨by rw [← hvw]; exact z.1, kr.2.2.mpr z.2⟩) (br_t rfl ⟨rfl, I⟩)))
    · unfold wpX_isLeaf
      refine xw_isHandle_f hK (br_t rfl (br_t rfl ?_))
      unfold wpY_gradient
      refine yb_isHandle_t hw hU (br_f ab_10 ?_)
      unfold wpY_isLeaf
      exact yb_isHandle_f (by rw [hu]; exact hK) (br_t rfl (br_t rfl ⟨rfl, I⟩))
  · unfold wpX_gradient
    refine xw_isHandle_f hH (br_t rfl ?_)
    unfold wpY_gradient
    exact yb_isHandle_f (by rw [hu]; exact hH) (br_t rfl ⟨rfl, I⟩)
