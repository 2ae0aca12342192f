theorem ab_back {d0 d1 d2 e : Nat} (h0 : 1 ≤ d0) (h1 : 1 ≤ d1) (h2 : 1 ≤ d2) (he : e < d0 * d1 * d2) : (e / (d1 * d2) % d0 * d1 + e / d2 % d1) * d2 + e % d2 = e := by
  have a1 : e / (d1 * d2) < d0 := by
    rw [Nat.div_lt_iff_lt_mul (Nat.mul_pos h1 h2), ← Nat.mul_assoc]; exact he
  rw [Nat.mod_eq_of_lt a1, Nat.mul_comm d1 d2, ← Nat.div_div_eq_div_mul, Nat.div_add_mod', Nat.div_add_mod']
def mk_g (s : Nat) (dd : Nat → Nat) (x y z : Nat) : Nat := 64 * s + ((x * dd 1 + y) * dd 2 + z)
theorem mk_eq {s r n x y z : Nat} {dd : Nat → Nat} (H : ab_sh3 r dd) (hn : dd 0 * dd 1 * dd 2 = n) (hx : x < dd 0) (hy : y < dd 1) (hz : z < dd 2) : nI (64 * s) + nI x * nI (ab_st r dd 0) + nI y * nI (ab_st r dd 1) + nI z * nI (ab_st r dd 2) = nI (mk_g s dd x y z) ∧ mk_g s dd x y z / 64 = s ∧ mk_g s dd x y z % 64 < n := by
  obtain ⟨hr, h1, hb⟩ := H
  have hl := ab_lin hx hy hz
  have hs := ab_sz (hb 0 (by omega)).2 (hb 1 (by omega)).2 (hb 2 (by omega)).2
  unfold mk_g
  refine ⟨?_, by omega, by omega⟩
  rw [pk_mul, pk_mul, pk_mul, nI_add, nI_add, nI_add]
  refine congrArg nI ?_
  have o0 := h1 0
  have o1 := h1 1
  have o2 := h1 2
  rcases (show r = 0 ∨ r = 1 ∨ r = 2 ∨ r = 3 by omega) with rfl | rfl | rfl | rfl
  · simp [ab_st] at *
    rw [o1, o2]; omega
  · simp [ab_st] at *
    rw [o1, o2]; omega
  · simp [ab_st] at *
    rw [o2, Nat.mul_one, Nat.mul_one]; omega
  · simp only [ab_st]
    simp
    rw [Nat.add_mul, Nat.mul_assoc]; omega
theorem mk_p {s n e : Nat} {dd : Nat → Nat} (hb : ∀ a, a < 3 → 1 ≤ dd a ∧ dd a ≤ 4) (hn : dd 0 * dd 1 * dd 2 = n) (he : e < n) : ab_pf (dd 0) (dd 1) (dd 2) (mk_g s dd) e = 64 * s + e := by
  unfold ab_pf mk_g
  rw [ab_back (hb 0 (by omega)).1 (hb 1 (by omega)).1 (hb 2 (by omega)).1 (by omega)]
theorem lf_row {b_rank b_dims : Nat → Int32} {r : Nat} {dd : Nat → Nat} {z0 z1 z2 : Int32} (H : ab_sh3 r dd) (h0 : 0 < r → z2 = nI (dd 0)) (h1 : 1 < r → z1 = nI (dd 1)) (h2 : 2 < r → z0 = nI (dd 2)) : yb_row (upd b_rank 24 (nI r)) (ab_up3 b_dims 72 (yb_bt z2) (yb_bt z1) (yb_bt z0)) 24 r dd := by
  refine ⟨pk_us, H.1, fun i hi => ?_, H.2.1, H.2.2⟩
  have b0 := H.2.2 0 (by omega)
  have b1 := H.2.2 1 (by omega)
  have b2 := H.2.2 2 (by omega)
  have := H.1
  rcases (show i = 0 ∨ i = 1 ∨ i = 2 by omega) with rfl | rfl | rfl
  · refine ab_e0.trans ?_
    rw [h0 hi]; exact yb_btn (by omega)
  · refine ab_e1.trans ?_
    rw [h1 hi]; exact yb_btn (by omega)
  · refine ab_e2.trans ?_
    rw [h2 hi]; exact yb_btn (by omega)
section
variable {c_cells c_slopeCount : Int32} {b_used b_rank b_dims b_shown b_tensorOf b_view b_exists b_kind b_first b_second b_owner b_parts b_partCount b_value b_slopeOf b_order b_slopes : Nat → Int32}
theorem ym_leaf89_n {post : Int32 → SY → Prop} {r c : Nat} {dd : Nat → Nat} {z0 z1 z2 : Int32} (H : ab_sh3 r dd) (h0 : 0 < r → z2 = nI (dd 0)) (h1 : 1 < r → z1 = nI (dd 1)) (h2 : 2 < r → z0 = nI (dd 2)) (hc : c_cells = nI c) (hc2 : c ≤ 320) (hno : (∀ t, t < 32 → ¬ b_exists t = 0) ∨ 320 < c + dd 0 * dd 1 * dd 2 ∨ (∀ j, j < 24 → ¬ b_used j = 0)) (h : ∀ R D : Nat → Int32, (∀ h, h < 24 → R h = b_rank h) → (∀ j, j < 72 → D j = b_dims j) → post (-1) (c_cells, c_slopeCount, b_used, R, D, b_shown, b_tensorOf, b_view, b_exists, b_kind, b_first, b_second, b_owner, b_parts, b_partCount, b_value, b_slopeOf, b_order, b_slopes)) : wY_leaf_89 post z0 z1 z2 (nI r) c_cells c_slopeCount b_used b_rank b_dims b_shown b_tensorOf b_view b_exists b_kind b_first b_second b_owner b_parts b_partCount b_value b_slopeOf b_order b_slopes := by
  have := H.1
  unfold wY_leaf_89
  refine yb_shapeNew (by omega) ?_
  refine yb_tensor_n (lf_row H h0 h1 h2) hc hc2 hno (br_f (by decide) (h _ _ ?_ ?_))
  · intro i hi; rw [pk_un (by omega)]
  · intro j hj; rw [ab_en (by omega)]
theorem ym_leaf89_s {post : Int32 → SY → Prop} {r c s v n : Nat} {dd : Nat → Nat} {z0 z1 z2 : Int32} {L : List Nat} (H : ab_sh3 r dd) (h0 : 0 < r → z2 = nI (dd 0)) (h1 : 1 < r → z1 = nI (dd 1)) (h2 : 2 < r → z0 = nI (dd 2)) (hn : dd 0 * dd 1 * dd 2 = n) (hc : c_cells = nI c) (hce : c + n ≤ 320) (hs : s < 32) (hs0 : b_exists s = 0) (hsl : ∀ j, j < s → ¬ b_exists j = 0) (hv : v < 24) (hv0 : b_used v = 0) (hvl : ∀ j, j < v → ¬ b_used j = 0) (hL : ∀ j, j < 320 → ¬ b_owner j < 0 → j ∈ L) (hLc : L.length = c) (h : ∀ (f : Nat → Nat) (O P V Ro S R D S' : Nat → Int32), yb_al b_owner b_partCount b_value b_order b_shown s c n f O P V Ro S → R v = nI r → (∀ h, h < 24 → h ≠ v → R h = b_rank h) → (∀ a, a < r → D (3 * v + a) = nI (dd a)) → (∀ j, j < 72 → (j < 3 * v ∨ 3 * v + 3 ≤ j) → D j = b_dims j) → (∀ i, i < n → S' (64 * v + i) = nI (f i)) → (∀ j, j < 1536 → (j < 64 * v ∨ 64 * v + 64 ≤ j) → S' j = b_shown j) → post (nI v) (nI (c + n), c_slopeCount, upd b_used v 1, R, D, S', upd b_tensorOf v (nI s), upd b_view v 0, upd b_exists s 1, upd b_kind s (nI 0), upd b_first s (yb_bt (-1)), upd b_second s (yb_bt (-1)), O, b_parts, P, V, b_slopeOf, Ro, b_slopes)) : wY_leaf_89 post z0 z1 z2 (nI r) c_cells c_slopeCount b_used b_rank b_dims b_shown b_tensorOf b_view b_exists b_kind b_first b_second b_owner b_parts b_partCount b_value b_slopeOf b_order b_slopes := by
  have hr := H.1
  have hn64 := ab_sz (H.2.2 0 (by omega)).2 (H.2.2 1 (by omega)).2 (H.2.2 2 (by omega)).2
  unfold wY_leaf_89
  refine yb_shapeNew (by omega) ?_
  refine yb_tensor_s (kw := 0) (lf_row H h0 h1 h2) hc (by omega) hs hs0 hsl hv hv0 hvl (by omega) hL hLc (fun f O P V Ro S A => br_t (nI_pos' (by omega)) ?_)
  rw [hn] at A
  refine yv_hand (e := dd) (c := f) (N := n) hv hv0 hvl hs pk_us hr (by omega) (fun a ha => (lf_row (b_rank := b_rank) (b_dims := b_dims) H h0 h1 h2).2.2.1 a ha) (fun a ha => (H.2.2 a ha).2) (fun i hi => (A.2.2.2.2.1 i hi).2) (fun i hi => (A.1 i hi).1) (fun D S' d1 d2 s1 s2 => ?_)
  rw [hn, ab_b0]
  refine h f O P V Ro S _ D S' A pk_us ?_ d1 ?_ s1 ?_
  · intro i hi hi2; rw [pk_un hi2, pk_un (by omega)]
  · intro j hj hj2; rw [d2 j hj2, ab_en (by omega)]
  · intro j hj hj2; rw [s2 j hj2]; exact A.2.2.2.2.2.2 j hj
end
theorem i_vc_leaf {k : Nat} {u : SX} {v : SY} (I : i_Rel k u v) (hk : k + 5 ≤ 2560) (v1 : Int32) (v2 : Int32) (v3 : Int32) (v4 : Int32) : wpX_leaf (fun r u' => wpY_leaf (fun r' v' => r' = r ∧ i_Rel (k + 5) u' v') v v1 v2 v3 v4) u v1 v2 v3 v4 := by
  obtain ⟨f_slotsTaken, f_elementsTaken, f_slopeCount, a_handleTaken, a_handleIsView, a_windowRank, a_windowSlot, a_windowStart, a_windowDimension, a_windowStride, a_slotSize, a_slotKind, a_slotTerms, a_slotNeeded, a_slotsByAge, a_values, a_derivatives, a_firstPlaces, a_secondPlaces, a_assigned, a_slopes⟩ := u
  obtain ⟨c_cells, c_slopeCount, b_used, b_rank, b_dims, b_shown, b_tensorOf, b_view, b_exists, b_kind, b_first, b_second, b_owner, b_parts, b_partCount, b_value, b_slopeOf, b_order, b_slopes⟩ := v
  have I' := I
  obtain ⟨rk, sl, d, G, ages, sz, kd, tm, yk, cl, hX, hY, hS⟩ := I'
  have hu := hY.1.1
  by_cases hr : ∃ r, r ≤ 3 ∧ v1 = nI r
  · obtain ⟨r, hr3, rfl⟩ := hr
    by_cases hno : (0 < r ∧ ¬ ab_isD v2) ∨ (1 < r ∧ ¬ ab_isD v3) ∨ (2 < r ∧ ¬ ab_isD v4)
    · refine xm_leaf hr3 (xm_leaf45_f ?_ (ym_leaf_d hr3 hno ⟨rfl, I⟩))
      unfold lf_a
      rcases hno with q | q | q
      · rw [if_pos q.1]; exact Or.inl q.2
      · rw [if_pos q.1]; exact Or.inr (Or.inl q.2)
      · rw [if_pos q.1]; exact Or.inr (Or.inr q.2)
    · have D0 : ∃ a0, (1 ≤ a0 ∧ a0 ≤ 4) ∧ lf_a r 0 v2 = nI a0 ∧ (r ≤ 0 → a0 = 1) := by
        unfold lf_a
        by_cases z : 0 < r
        · have : ab_isD v2 := Classical.byContradiction (fun q => hno (Or.inl ⟨z, q⟩))
          obtain ⟨a, q1, q2, q3⟩ := this
          exact ⟨a, ⟨q1, q2⟩, by rw [if_pos z]; exact q3, fun q => by omega⟩
        · exact ⟨1, by omega, by rw [if_neg z]; rfl, fun _ => rfl⟩
      have D1 : ∃ a0, (1 ≤ a0 ∧ a0 ≤ 4) ∧ lf_a r 1 v3 = nI a0 ∧ (r ≤ 1 → a0 = 1) := by
        unfold lf_a
        by_cases z : 1 < r
        · have : ab_isD v3 := Classical.byContradiction (fun q => hno (Or.inr (Or.inl ⟨z, q⟩)))
          obtain ⟨a, q1, q2, q3⟩ := this
          exact ⟨a, ⟨q1, q2⟩, by rw [if_pos z]; exact q3, fun q => by omega⟩
        · exact ⟨1, by omega, by rw [if_neg z]; rfl, fun _ => rfl⟩
      have D2 : ∃ a0, (1 ≤ a0 ∧ a0 ≤ 4) ∧ lf_a r 2 v4 = nI a0 ∧ (r ≤ 2 → a0 = 1) := by
        unfold lf_a
        by_cases z : 2 < r
        · have : ab_isD v4 := Classical.byContradiction (fun q => hno (Or.inr (Or.inr ⟨z, q⟩)))
          obtain ⟨a, q1, q2, q3⟩ := this
          exact ⟨a, ⟨q1, q2⟩, by rw [if_pos z]; exact q3, fun q => by omega⟩
        · exact ⟨1, by omega, by rw [if_neg z]; rfl, fun _ => rfl⟩
      obtain ⟨a0, p0, q0, o0⟩ := D0
      obtain ⟨a1, p1, q1, o1⟩ := D1
      obtain ⟨a2, p2, q2, o2⟩ := D2
      have H : ab_sh3 r (fun i => if i = 0 then a0 else if i = 1 then a1 else a2) := by
        refine ⟨hr3, fun i j1 j2 => ?_, fun i hi => ?_⟩
        · rcases (show i = 0 ∨ i = 1 ∨ i = 2 by omega) with rfl | rfl | rfl
          · exact o0 j1
          · exact o1 j1
          · exact o2 j1
        · rcases (show i = 0 ∨ i = 1 ∨ i = 2 by omega) with rfl | rfl | rfl
          · exact p0
          · exact p1
          · exact p2
      have x0 : 0 < r → v2 = nI a0 := fun z => by unfold lf_a at q0; rw [if_pos z] at q0; exact q0
      have x1 : 1 < r → v3 = nI a1 := fun z => by unfold lf_a at q1; rw [if_pos z] at q1; exact q1
      have x2 : 2 < r → v4 = nI a2 := fun z => by unfold lf_a at q2; rw [if_pos z] at q2; exact q2
      refine xm_leaf hr3 ?_
      rw [q0, q1, q2]
      generalize hdd : (fun i : Nat => if i = 0 then a0 else if i = 1 then a1 else a2) = dd at H
      have e0 : dd 0 = a0 := by rw [← hdd]; rfl
      have e1 : dd 1 = a1 := by rw [← hdd]; rfl
      have e2 : dd 2 = a2 := by rw [← hdd]; rfl
      rw [← e0] at x0 ⊢
      rw [← e1] at x1 ⊢
      rw [← e2] at x2 ⊢
      have hn64 := ab_sz (H.2.2 0 (by omega)).2 (H.2.2 1 (by omega)).2 (H.2.2 2 (by omega)).2
      have hn1 := ab_sz1 (H.2.2 0 (by omega)).1 (H.2.2 1 (by omega)).1 (H.2.2 2 (by omega)).1
      refine xm_leaf45_t H (nm_r (e' := nI (ab_pk r dd)) (nI_add _ _) ?_)
      have hfree : ∀ t, t < 32 → (b_exists t = 0 ↔ a_slotSize t = 0) := fun t ht => (hY.2.2.2.1 t ht).trans (rl_sz0 hX ht).symm
      by_cases hres : (∀ t, t < 32 → ¬ a_slotSize t = 0) ∨ 320 < (ab_fl sz ages).length + dd 0 * dd 1 * dd 2 ∨ (∀ j, j < 24 → ¬ a_handleTaken j = 0)
      · refine xw_makeTensor_n H hX.2.1.1 hX.2.1.2 hres (br_t (by decide) ?_)
        refine ym_leaf H x0 x1 x2 (fun z2 z1 z0 c0 c1 c2 => ym_leaf89_n H c0 c1 c2 hY.2.1.1 hX.2.1.2 ?_ (fun R D r1 d1 => ⟨rfl, ?_⟩))
        · rw [hu]
          rcases hres with q | q | q
          · exact Or.inl (fun t ht z => q t ht ((hfree t ht).mp z))
          · exact Or.inr (Or.inl q)
          · exact Or.inr (Or.inr q)
        · exact rl_mk (k + 5) rk sl d G ages sz kd tm yk cl hX (rl_scr r1 d1 (fun _ _ => rfl) (rl_hk hX).1 (rl_hk hX).2 hY) hS
      · rcases ab_lst a_slotSize 32 with ⟨s, hs, hs0, hsl⟩ | sn
        · rcases ab_lst a_handleTaken 24 with ⟨v, hv, hv0, hvl⟩ | vn
          · have hce : (ab_fl sz ages).length + dd 0 * dd 1 * dd 2 ≤ 320 := Nat.le_of_not_lt (fun z => hres (Or.inr (Or.inl z)))
            have hsn : s ∉ ages := (rl_sz0 hX hs).mp hs0
            have hm := rl_m32 hX.2.2.1.1 hX.2.2.1.2.1 hs hsn
            refine xw_makeTensor_s H hX.2.1.1 hce hX.1.1 hm hs hs0 hsl hv hv0 hvl (br_f (nI_pos (by omega)) ⟨vp_in_nI (by omega) (by decide), ?_⟩)
            rw [nI_clamp (show v < 2 ^ 31 by omega), pk_us]
            refine xw_clearSlot hs (fun V v1 v2 => ?_)
            refine ym_leaf H x0 x1 x2 (fun z2 z1 z0 c0 c1 c2 => ym_leaf89_s (v := v) (L := (ab_fl sz ages).map cl) H c0 c1 c2 rfl hY.2.1.1 hce hs ((hfree s hs).mpr hs0) (fun j hj z => hsl j hj ((hfree j (by omega)).mp z)) hv (by rw [hu]; exact hv0) (by rw [hu]; exact hvl) (rl_Lst hY.2.2.1) (by rw [List.length_map]) (fun f O P V' Ro S R D S' A r1 r2 d1 d2 s1 s2 => ⟨rfl, ?_⟩))
            have F : ∀ w, w ≠ v → w ≠ 24 + 2 * s → w ≠ 25 + 2 * s → ab_fu sl v s w = sl w ∧ ab_fu d v dd w = d w ∧ ab_fu G v (mk_g s dd) w = G w := fun w z _ _ => ⟨ab_fun z, ab_fun z, ab_fun z⟩
            refine rl_mk (k + 5) (ab_fu rk v r) (ab_fu sl v s) (ab_fu d v dd) (ab_fu G v (mk_g s dd)) (ages ++ [s]) (ab_fu sz s (dd 0 * dd 1 * dd 2)) (ab_fu kd s 4) (ab_fu tm s 1) (ab_fu yk s 0) (rl_cl cl f s) ?_ ?_ hS
            · refine rl_makeX hs hsn hv hn1 hn64 hce (fun w z a b => ⟨ab_fun z, ab_fun z, ab_fun z, pk_un z, pk_un z, fun i hi => ⟨ab_en (by omega), ab_en (by omega)⟩⟩) (by rw [pk_us, ab_fus]) (fun h hh z => ⟨pk_un z, ab_fun z⟩) (by rw [ab_fus, ab_fus]; exact H) (rl_winS rfl (by simp) H.2.2 ?_) ab_fus pk_us ?_ (by omega) (fun z => absurd rfl z) hX
              · intro x y z hx hy hz
                rw [ab_fus]; exact mk_eq H rfl hx hy hz
              · intro e he
                rw [rl_nS] at he
                rw [rl_pS]; exact mk_p H.2.2 rfl he
            · obtain ⟨A1, A2, A3, A4, A5, A6, A7⟩ := A
              refine rl_makeY hs hsn hv hn64 rl_nS F (fun h hh z => ab_fun z) ab_fus ?_ (by rw [ab_fus]; exact r1) r2 (by rw [ab_fus, ab_fus]; exact d1) d2 s1 s2 A1 A2 (fun i hi => ⟨(A3 i hi).1, (A3 i hi).2.2⟩) (fun c hc => ⟨(A4 c hc).1, (A4 c hc).2.2⟩) (fun i hi => (A5 i hi).1) A6 (fun c hc => ⟨(A4 c hc).2.1, fun _ _ => rfl⟩) (Or.inl ⟨rfl, rfl⟩) (fun _ => ⟨by unfold yb_bt; rw [ab_vbm2]; decide, by unfold yb_bt; rw [ab_vbm2]; decide⟩) (fun z => absurd rfl z) (fun _ i hi => v1 i (by omega)) (fun p hp => v2 p ?_) hX hY
              · intro e he
                rw [rl_pS]; exact mk_p H.2.2 rfl he
              · have h1 : p / 64 ≠ s := fun z => hsn (z ▸ ((rl_mem hX).mp hp).1)
                omega
          · exact absurd (Or.inr (Or.inr vn)) hres
        · exact absurd (Or.inl sn) hres
  · exact xm_leaf_f hr (ym_leaf_f hr ⟨rfl, I⟩)
