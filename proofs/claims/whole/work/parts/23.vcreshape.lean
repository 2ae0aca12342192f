section
variable {c_cells c_slopeCount : Int32} {b_used b_rank b_dims b_shown b_tensorOf b_view b_exists b_kind b_first b_second b_owner b_parts b_partCount b_value b_slopeOf b_order b_slopes : Nat → Int32}
theorem ym_rrow {q : Nat} (H : sp_ok q) : yb_row (upd b_rank 24 (nI (q % 8))) (ab_up3 b_dims 72 (nI (q / 2 ^ (3 + 3 * 0) % 8)) (nI (q / 2 ^ (3 + 3 * 1) % 8)) (nI (q / 2 ^ (3 + 3 * 2) % 8))) 24 (q % 8) (sp_d q) := by
  have S := sp_sh H
  refine ⟨pk_us, S.1, fun i hi => ?_, S.2.1, S.2.2⟩
  have := S.1
  unfold sp_d
  rw [if_pos hi]
  rcases (show i = 0 ∨ i = 1 ∨ i = 2 by omega) with rfl | rfl | rfl
  · exact ab_e0
  · exact ab_e1
  · exact ab_e2
theorem ym_reshape_n {post : Int32 → SY → Prop} {w c rk : Nat} {x : Int32} {dw : Nat → Nat} (hw : w < 24) (hU : ¬ b_used w = 0) (Hw : yb_row b_rank b_dims w rk dw) (hc : c_cells = nI c) (hc2 : c ≤ 320) (hno : ∀ q, x = nI q → sp_ok q → dw 0 * dw 1 * dw 2 = sp_d q 0 * sp_d q 1 * sp_d q 2 → (∀ t, t < 32 → ¬ b_exists t = 0) ∨ 320 < c + dw 0 * dw 1 * dw 2 ∨ (∀ j, j < 24 → ¬ b_used j = 0)) (h : ∀ R D : Nat → Int32, (∀ h, h < 24 → R h = b_rank h) → (∀ j, j < 72 → D j = b_dims j) → post (-1) (c_cells, c_slopeCount, b_used, R, D, b_shown, b_tensorOf, b_view, b_exists, b_kind, b_first, b_second, b_owner, b_parts, b_partCount, b_value, b_slopeOf, b_order, b_slopes)) : wpY_reshape post (c_cells, c_slopeCount, b_used, b_rank, b_dims, b_shown, b_tensorOf, b_view, b_exists, b_kind, b_first, b_second, b_owner, b_parts, b_partCount, b_value, b_slopeOf, b_order, b_slopes) (nI w) x := by
  by_cases hq : ∃ q, x = nI q ∧ q ≤ 4095 ∧ q % 8 ≤ 3
  · obtain ⟨q, rfl, h1, h2⟩ := hq
    refine ym_reshape_1 hw hU h1 h2 ⟨4, ?_⟩
    have hp := h (upd b_rank 24 (nI (q % 8))) (ab_up3 b_dims 72 (nI (q / 2 ^ (3 + 3 * 0) % 8)) (nI (q / 2 ^ (3 + 3 * 1) % 8)) (nI (q / 2 ^ (3 + 3 * 2) % 8))) (fun i hi => pk_un (by omega)) (fun j hj => ab_en (by omega))
    have L0 : q / 2 ^ (3 + 3 * 0) % 8 < 8 := Nat.mod_lt _ (by omega)
    have L1 : q / 2 ^ (3 + 3 * 1) % 8 < 8 := Nat.mod_lt _ (by omega)
    have L2 : q / 2 ^ (3 + 3 * 2) % 8 < 8 := Nat.mod_lt _ (by omega)
    by_cases k0 : ((0 < q % 8 → 1 ≤ q / 2 ^ (3 + 3 * 0) % 8 ∧ q / 2 ^ (3 + 3 * 0) % 8 ≤ 4) ∧ (q % 8 ≤ 0 → q / 2 ^ (3 + 3 * 0) % 8 = 0))
    · refine yr_step (a := 0) (by omega) h2 ab_e0 L0 k0 ?_
      by_cases k1 : ((1 < q % 8 → 1 ≤ q / 2 ^ (3 + 3 * 1) % 8 ∧ q / 2 ^ (3 + 3 * 1) % 8 ≤ 4) ∧ (q % 8 ≤ 1 → q / 2 ^ (3 + 3 * 1) % 8 = 0))
      · refine yr_step (a := 1) (by omega) h2 ab_e1 L1 k1 ?_
        by_cases k2 : ((2 < q % 8 → 1 ≤ q / 2 ^ (3 + 3 * 2) % 8 ∧ q / 2 ^ (3 + 3 * 2) % 8 ≤ 4) ∧ (q % 8 ≤ 2 → q / 2 ^ (3 + 3 * 2) % 8 = 0))
        · have hok : sp_ok q := ⟨h1, h2, fun a ha => by
            rcases (show a = 0 ∨ a = 1 ∨ a = 2 by omega) with rfl | rfl | rfl
            · exact k0
            · exact k1
            · exact k2⟩
          have R24 := ym_rrow (b_rank := b_rank) (b_dims := b_dims) hok
          have Hw' : yb_row (upd b_rank 24 (nI (q % 8))) (ab_up3 b_dims 72 (nI (q / 2 ^ (3 + 3 * 0) % 8)) (nI (q / 2 ^ (3 + 3 * 1) % 8)) (nI (q / 2 ^ (3 + 3 * 2) % 8))) w rk dw := by
            have := Hw.2.1
            refine ⟨by rw [pk_un (by omega)]; exact Hw.1, Hw.2.1, fun i hi => ?_, Hw.2.2.2.1, Hw.2.2.2.2⟩
            rw [ab_en (by omega)]; exact Hw.2.2.1 i hi
          have n1 := ab_sz (R24.2.2.2.2 0 (by omega)).2 (R24.2.2.2.2 1 (by omega)).2 (R24.2.2.2.2 2 (by omega)).2
          have n2 := ab_sz (Hw.2.2.2.2 0 (by omega)).2 (Hw.2.2.2.2 1 (by omega)).2 (Hw.2.2.2.2 2 (by omega)).2
          refine yr_step (a := 2) (by omega) h2 ab_e2 L2 k2 (br_t (by decide) (yb_size (h := 24) (by omega) R24 (yb_size (by omega) Hw' (br_c (fun z => ⟨vp_in_nI (by omega) (by decide), ?_⟩) (fun _ => hp)))))
          have z2 := (nI_eq (by omega) (by omega)).mp z
          refine yb_tensor_n R24 hc hc2 ?_ (br_f (by decide) hp)
          rw [z2]
          exact hno q rfl hok z2.symm
        · exact yr_stepf (a := 2) (by omega) h2 ab_e2 L2 k2 hp
      · exact yr_stepf (a := 1) (by omega) h2 ab_e1 L1 k1 hp
    · exact yr_stepf (a := 0) (by omega) h2 ab_e0 L0 k0 hp
  · exact ym_reshape_f hw hU hq (h _ _ (fun _ _ => rfl) (fun _ _ => rfl))
theorem ym_reshape {post : Int32 → SY → Prop} {w c q rk s v t n : Nat} {dw dd cw : Nat → Nat} {L : List Nat} (hw : w < 24) (hU : ¬ b_used w = 0) (Hw : yb_row b_rank b_dims w rk dw) (hq : sp_ok q) (hdd : sp_d q = dd) (hn : dd 0 * dd 1 * dd 2 = n) (hsz : dw 0 * dw 1 * dw 2 = n) (hcw : ∀ i, i < n → b_shown (64 * w + i) = nI (cw i) ∧ cw i < 320) (ht : b_tensorOf w = nI t) (ht2 : t < 32) (hc : c_cells = nI c) (hce : c + n ≤ 320) (hs : s < 32) (hs0 : b_exists s = 0) (hsl : ∀ j, j < s → ¬ b_exists j = 0) (hv : v < 24) (hv0 : b_used v = 0) (hvl : ∀ j, j < v → ¬ b_used j = 0) (hL : ∀ j, j < 320 → ¬ b_owner j < 0 → j ∈ L) (hLc : L.length = c) (h : ∀ (f : Nat → Nat) (O C0 V Ro S R D S' P C : Nat → Int32), yb_al b_owner b_partCount b_value b_order b_shown s c n f O C0 V Ro S → yp_ok f n (fun i _ => cw i) (fun _ => 1) b_parts C0 P C → R v = nI (q % 8) → (∀ h, h < 24 → h ≠ v → R h = b_rank h) → (∀ a, a < q % 8 → D (3 * v + a) = nI (dd a)) → (∀ j, j < 72 → (j < 3 * v ∨ 3 * v + 3 ≤ j) → D j = b_dims j) → (∀ i, i < n → S' (64 * v + i) = nI (f i)) → (∀ j, j < 1536 → (j < 64 * v ∨ 64 * v + 64 ≤ j) → S' j = b_shown j) → post (nI v) (nI (c + n), c_slopeCount, upd b_used v 1, R, D, S', upd b_tensorOf v (nI s), upd b_view v 0, upd b_exists s 1, upd b_kind s (nI 6), upd b_first s (yb_bt (nI t)), upd b_second s (yb_bt (-1)), O, P, C, V, b_slopeOf, Ro, b_slopes)) : wpY_reshape post (c_cells, c_slopeCount, b_used, b_rank, b_dims, b_shown, b_tensorOf, b_view, b_exists, b_kind, b_first, b_second, b_owner, b_parts, b_partCount, b_value, b_slopeOf, b_order, b_slopes) (nI w) (nI q) := by
  have R24 := ym_rrow (b_rank := b_rank) (b_dims := b_dims) hq
  rw [hdd] at R24
  have h2 := hq.2.1
  have n1 := ab_sz (R24.2.2.2.2 0 (by omega)).2 (R24.2.2.2.2 1 (by omega)).2 (R24.2.2.2.2 2 (by omega)).2
  have Hw' : yb_row (upd b_rank 24 (nI (q % 8))) (ab_up3 b_dims 72 (nI (q / 2 ^ (3 + 3 * 0) % 8)) (nI (q / 2 ^ (3 + 3 * 1) % 8)) (nI (q / 2 ^ (3 + 3 * 2) % 8))) w rk dw := by
    have := Hw.2.1
    refine ⟨by rw [pk_un (by omega)]; exact Hw.1, Hw.2.1, fun i hi => ?_, Hw.2.2.2.1, Hw.2.2.2.2⟩
    rw [ab_en (by omega)]; exact Hw.2.2.1 i hi
  refine ym_reshape_1 hw hU hq.1 hq.2.1 ⟨4, ?_⟩
  refine yr_step (a := 0) (by omega) h2 ab_e0 (Nat.mod_lt _ (by omega)) (hq.2.2 0 (by omega)) (yr_step (a := 1) (by omega) h2 ab_e1 (Nat.mod_lt _ (by omega)) (hq.2.2 1 (by omega)) (yr_step (a := 2) (by omega) h2 ab_e2 (Nat.mod_lt _ (by omega)) (hq.2.2 2 (by omega)) (br_t (by decide) (yb_size (h := 24) (by omega) R24 (yb_size (by omega) Hw' (br_t (by rw [hn, hsz]) ⟨vp_in_nI (by omega) (by decide), ?_⟩))))))
  rw [nI_clamp (show w < 2 ^ 31 by omega), ht]
  refine yb_tensor_s (kw := 6) R24 hc (by omega) hs hs0 hsl hv hv0 hvl (by omega) hL hLc (fun f O C0 V Ro S A => br_t (nI_pos' (by omega)) ⟨n + 1, ?_⟩)
  rw [hn] at A ⊢
  obtain ⟨A1, A2, A3, A4, A5, A6, A7⟩ := A
  refine ym_rloop (f := f) (cw := cw) (P0 := b_parts) (C0 := C0) (s := s) (r := q % 8) (dd := dd) (v := v) hw R24 (by omega) hs A2 (fun i hi => (A1 i hi).1) (fun i hi => (A5 i hi).2) (fun i hi => by rw [A7 _ (by omega)]; exact hcw i hi) hv hv0 hvl (fun P C D S' Y d1 d2 s1 s2 => ?_) n 0 b_parts C0 (by omega) (yp_0 ⟨A1, A2, A3, A4, A5, A6, A7⟩)
  refine h f O C0 V Ro S _ D S' P C ⟨A1, A2, A3, A4, A5, A6, A7⟩ Y pk_us ?_ d1 ?_ s1 ?_
  · intro i hi hi2; rw [pk_un hi2, pk_un (by omega)]
  · intro j hj hj2; rw [d2 j hj2, ab_en (by omega)]
  · intro j hj hj2; rw [s2 j hj2]; exact A7 j hj
end
theorem i_vc_reshape {k : Nat} {u : SX} {v : SY} (I : i_Rel k u v) (hk : k + 5 ≤ 2560) (v1 : Int32) (v2 : Int32) : wpX_reshape (fun r u' => wpY_reshape (fun r' v' => r' = r ∧ i_Rel (k + 5) u' v') v v1 v2) u v1 v2 := by
  obtain ⟨f_slotsTaken, f_elementsTaken, f_slopeCount, a_handleTaken, a_handleIsView, a_windowRank, a_windowSlot, a_windowStart, a_windowDimension, a_windowStride, a_slotSize, a_slotKind, a_slotTerms, a_slotNeeded, a_slotsByAge, a_values, a_derivatives, a_firstPlaces, a_secondPlaces, a_assigned, a_slopes⟩ := u
  obtain ⟨c_cells, c_slopeCount, b_used, b_rank, b_dims, b_shown, b_tensorOf, b_view, b_exists, b_kind, b_first, b_second, b_owner, b_parts, b_partCount, b_value, b_slopeOf, b_order, b_slopes⟩ := v
  have I' := I
  obtain ⟨rk, sl, d, G, ages, sz, kd, tm, yk, cl, hX, hY, hS⟩ := I'
  have hu := hY.1.1
  by_cases hH : ab_isH a_handleTaken v1
  · obtain ⟨w, hw, rfl, hT⟩ := hH
    obtain ⟨w1, w2, w3, w4⟩ := hX.2.2.2.2 w hw hT
    have yw := hY.2.2.2.2.1 w hw hT
    have hU : ¬ b_used w = 0 := by rw [hu]; exact hT
    have n64 := (rl_hk hX).2 w hw hT
    have hfree : ∀ t, t < 32 → (b_exists t = 0 ↔ a_slotSize t = 0) := fun t ht => (hY.2.2.2.1 t ht).trans (rl_sz0 hX ht).symm
    by_cases hno : ∀ q, v2 = nI q → sp_ok q → d w 0 * d w 1 * d w 2 = sp_d q 0 * sp_d q 1 * sp_d q 2 → (∀ t, t < 32 → ¬ a_slotSize t = 0) ∨ 320 < (ab_fl sz ages).length + d w 0 * d w 1 * d w 2 ∨ (∀ j, j < 24 → ¬ a_handleTaken j = 0)
    · refine xm_reshape_n hw hT (fun a ha => (w3.2.2.1 a ha).1) n64 hX.2.1.1 hX.2.1.2 hno (ym_reshape_n hw hU (rl_row w2 yw) hY.2.1.1 hX.2.1.2 ?_ (fun R D r1 d1 => ⟨rfl, ?_⟩))
      · intro q e1 e2 e3
        rw [hu]
        rcases hno q e1 e2 e3 with z | z | z
        · exact Or.inl (fun t ht y => z t ht ((hfree t ht).mp y))
        · exact Or.inr (Or.inl z)
        · exact Or.inr (Or.inr z)
      · exact rl_mk (k + 5) rk sl d G ages sz kd tm yk cl hX (rl_scr r1 d1 (fun _ _ => rfl) (rl_hk hX).1 (rl_hk hX).2 hY) hS
    · have hex : ∃ q, v2 = nI q ∧ sp_ok q ∧ d w 0 * d w 1 * d w 2 = sp_d q 0 * sp_d q 1 * sp_d q 2 ∧ ¬ ((∀ t, t < 32 → ¬ a_slotSize t = 0) ∨ 320 < (ab_fl sz ages).length + d w 0 * d w 1 * d w 2 ∨ (∀ j, j < 24 → ¬ a_handleTaken j = 0)) := by
        apply Classical.byContradiction
        intro z
        refine hno (fun q e1 e2 e3 => Classical.byContradiction (fun y => z ⟨q, e1, e2, e3, y⟩))
      obtain ⟨q, rfl, hq, hsz, hres⟩ := hex
      rcases ab_lst a_slotSize 32 with ⟨s, hs, hs0, hsl⟩ | sn
      · rcases ab_lst a_handleTaken 24 with ⟨v, hv, hv0, hvl⟩ | vn
        · have hce : (ab_fl sz ages).length + sp_d q 0 * sp_d q 1 * sp_d q 2 ≤ 320 := Nat.le_of_not_lt (fun z => hres (Or.inr (Or.inl (by rw [hsz]; exact z))))
          have hsn : s ∉ ages := (rl_sz0 hX hs).mp hs0
          have hm := rl_m32 hX.2.2.1.1 hX.2.2.1.2.1 hs hsn
          have t32 := hX.2.2.1.2.1 _ w3.2.1
          have H := sp_sh hq
          have D0 := w3.2.2.1
          refine xm_reshape (nh := 0) (dw := d w) hw hT (fun a ha => (D0 a ha).1) hq rfl rfl hsz hX.2.1.1 hce hX.1.1 hm hs hs0 hsl hv hv0 hvl ?_
          rw [w3.1, show a_windowDimension (3 * w) = nI (d w 0) from (D0 0 (by omega)).1, (D0 1 (by omega)).1, (D0 2 (by omega)).1]
          refine ym_reshape (t := sl w) (v := v) (cw := fun i => cl (rl_p d G w i)) (L := (ab_fl sz ages).map cl) hw hU (rl_row w2 yw) hq rfl rfl hsz (fun i hi => ⟨yw.2.2.2 i (by unfold rl_n; rw [hsz]; exact hi), (hY.2.2.1.1 _ (rl_pmem hX w3).1).1⟩) yw.2.2.1 t32 hY.2.1.1 hce hs ((hfree s hs).mpr hs0) (fun j hj z => hsl j hj ((hfree j (by omega)).mp z)) hv (by rw [hu]; exact hv0) (by rw [hu]; exact hvl) (rl_Lst hY.2.2.1) (by rw [List.length_map]) (fun f O C0 V Ro S R D S' P C A Y r1 r2 d1 d2 s1 s2 => ⟨rfl, ?_⟩)
          refine rl_mk (k + 5) (ab_fu rk v (q % 8)) (mk_f sl v s s (sl w) (sl w)) (mk_f d v s (sp_d q) (d w) (d w)) (mk_f G v s (mk_g s (sp_d q)) (G w) (G w)) (ages ++ [s]) (ab_fu sz s (sp_d q 0 * sp_d q 1 * sp_d q 2)) (ab_fu kd s 3) (ab_fu tm s 1) (ab_fu yk s 6) (rl_cl cl f s) ?_ ?_ hS
          · exact rl_resX hs hsn hv H rfl hce (by omega) (by omega) (by omega) (fun a ha => (D0 a ha).2) (fun a ha => (D0 a ha).2) (by rw [Nat.mul_one]; exact hsz) (by rw [Nat.mul_one]; exact hsz) w3.2.1 w3.2.1 w3.2.2.2 w3.2.2.2 hX
          · refine rl_resY (tt := 1) (kk := 3) (q := fun i _ => cl (rl_p d G w i)) hs hsn hv H rfl (by omega) (by omega) (fun a ha => (D0 a ha).2) (fun a ha => (D0 a ha).2) w3.2.1 w3.2.1 (fun x y z hx hy hz => (w3.2.2.2 x y z hx hy hz).2.1) (fun x y z hx hy hz => (w3.2.2.2 x y z hx hy hz).2.1) r1 r2 d1 d2 s1 s2 A Y ?_ (fun z => absurd rfl z) ?_ (yb_btn (by omega)) (fun _ => ⟨by unfold yb_bt; rw [ab_vbm2]; decide, rfl⟩) (fun z => absurd rfl z) hX hY
            · intro _ i t hi ht
              have : t = 0 := by omega
              subst this
              show cl (rl_p d G w i) = cl (rl_p d G w (i * 1 + 0))
              rw [Nat.mul_one, Nat.add_zero]
            · exact Or.inr (Or.inr (Or.inr (Or.inr ⟨rfl, Or.inr rfl⟩)))
        · exact absurd (Or.inr (Or.inr vn)) hres
      · exact absurd (Or.inl sn) hres
  · unfold wpX_reshape
    refine xw_isHandle_f hH (br_t rfl ?_)
    unfold wpY_reshape
    exact yb_isHandle_f (by rw [hu]; exact hH) (br_t rfl ⟨rfl, I⟩)
