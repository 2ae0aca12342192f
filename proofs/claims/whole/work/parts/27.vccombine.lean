section
variable {c_cells c_slopeCount : Int32} {b_used b_rank b_dims b_shown b_tensorOf b_view b_exists b_kind b_first b_second b_owner b_parts b_partCount b_value b_slopeOf b_order b_slopes : Nat → Int32}
theorem yc_loop {post : Int32 → SY → Prop} {w p v s r N rkw rkp : Nat} {dd dw dp f : Nat → Nat} {cw cp : Nat → Nat → Nat → Nat} {P0 C0 : Nat → Int32} (hw : w < 24) (hp : p < 24) (H24 : yb_row b_rank b_dims 24 r dd) (Hw : yb_row b_rank b_dims w rkw dw) (Hp : yb_row b_rank b_dims p rkp dp) (hkw : rkw ≤ r) (hkp : rkp ≤ r) (fw : ∀ a, a < r → cb_a rkw r dw a = dd a ∨ cb_a rkw r dw a = 1) (fp : ∀ a, a < r → cb_a rkp r dp a = dd a ∨ cb_a rkp r dp a = 1) (hN : dd 0 * dd 1 * dd 2 = N) (hs : s < 32) (hfi : ∀ i j, i < N → j < N → f i = f j → i = j) (hf : ∀ i, i < N → f i < 320) (hS : ∀ i, i < N → b_shown (1536 + i) = nI (f i)) (hcw : ∀ i j k, i < dw 0 → j < dw 1 → k < dw 2 → b_shown (64 * w + ((i * dw 1 + j) * dw 2 + k)) = nI (cw i j k) ∧ cw i j k < 320) (hcp : ∀ i j k, i < dp 0 → j < dp 1 → k < dp 2 → b_shown (64 * p + ((i * dp 1 + j) * dp 2 + k)) = nI (cp i j k) ∧ cp i j k < 320) (hv : v < 24) (hv0 : b_used v = 0) (hvl : ∀ j, j < v → ¬ b_used j = 0) (h : ∀ P C D S : Nat → Int32, yp_ok f N (fun i j => if j = 0 then ab_pf (dd 0) (dd 1) (dd 2) (fun x y z => cw (cb_c rkw r dw x y z 0) (cb_c rkw r dw x y z 1) (cb_c rkw r dw x y z 2)) i else ab_pf (dd 0) (dd 1) (dd 2) (fun x y z => cp (cb_c rkp r dp x y z 0) (cb_c rkp r dp x y z 1) (cb_c rkp r dp x y z 2)) i) (fun _ => 2) P0 C0 P C → (∀ a, a < r → D (3 * v + a) = nI (dd a)) → (∀ j, (j < 3 * v ∨ 3 * v + 3 ≤ j) → D j = b_dims j) → (∀ i, i < N → S (64 * v + i) = nI (f i)) → (∀ j, (j < 64 * v ∨ 64 * v + 64 ≤ j) → S j = b_shown j) → post (nI v) (c_cells, c_slopeCount, upd b_used v 1, upd b_rank v (nI r), D, S, upd b_tensorOf v (nI s), upd b_view v 0, b_exists, b_kind, b_first, b_second, b_owner, P, C, b_value, b_slopeOf, b_order, b_slopes)) : ∀ (q j : Nat) (P C : Nat → Int32), j + q = N → yp_ok f N (fun i j => if j = 0 then ab_pf (dd 0) (dd 1) (dd 2) (fun x y z => cw (cb_c rkw r dw x y z 0) (cb_c rkw r dw x y z 1) (cb_c rkw r dw x y z 2)) i else ab_pf (dd 0) (dd 1) (dd 2) (fun x y z => cp (cb_c rkp r dp x y z 0) (cb_c rkp r dp x y z 1) (cb_c rkp r dp x y z 2)) i) (yp_c 2 j 0) P0 C0 P C → wY_combine_191 post (nI w) (nI p) (nI s) (nI N) (q + 1) (nI j) c_cells c_slopeCount b_used b_rank b_dims b_shown b_tensorOf b_view b_exists b_kind b_first b_second b_owner P C b_value b_slopeOf b_order b_slopes := by
  have hb4 := H24.2.2.2.2
  have hN64 : N ≤ 64 := hN ▸ ab_sz (hb4 0 (by omega)).2 (hb4 1 (by omega)).2 (hb4 2 (by omega)).2
  have hr3 := H24.2.1
  intro q
  induction q with
  | zero =>
    intro j P C hj A
    have : j = N := by omega
    subst this
    refine br_t (nI_le (by omega) (by omega)) ?_
    refine yv_hand (e := dd) (c := f) (N := j) hv hv0 hvl hs H24.1 H24.2.1 hN64 (fun a ha => H24.2.2.1 a ha) (fun a ha => (H24.2.2.2.2 a ha).2) hS hf (fun D S d1 d2 s1 s2 => ?_)
    rw [ab_b0]
    exact h P C D S (yp_x A) d1 d2 s1 s2
  | succ q ih =>
    intro j P C hj A
    obtain ⟨i1, i2, i3⟩ := ab_pfi (e := j) (hb4 0 (by omega)).1 (hb4 1 (by omega)).1 (hb4 2 (by omega)).1
    have Rw := fun b (hb : b < 3) => cb_rng (b := b) ⟨Hw.2.1, Hw.2.2.2.1, Hw.2.2.2.2⟩ hkw hr3 fw i1 i2 i3 hb
    have Rp := fun b (hb : b < 3) => cb_rng (b := b) ⟨Hp.2.1, Hp.2.2.2.1, Hp.2.2.2.2⟩ hkp hr3 fp i1 i2 i3 hb
    obtain ⟨w1, w2⟩ := hcw _ _ _ (Rw 0 (by omega)) (Rw 1 (by omega)) (Rw 2 (by omega))
    obtain ⟨p1, p2⟩ := hcp _ _ _ (Rp 0 (by omega)) (Rp 1 (by omega)) (Rp 2 (by omega))
    refine br_f (nI_ge (by omega) (by omega)) (yc_spread hw Hw H24 hkw (by omega) fw (yc_spread hp Hp H24 hkp (by omega) fp ?_))
    rw [w1, p1]
    refine yp_part (K := 2) (m := 0) hN64 hfi hf (by omega) (by omega) (by omega) (hS j (by omega)) rfl w2 A (fun P' C' A' => ?_)
    refine yp_part (K := 2) (m := 1) hN64 hfi hf (by omega) (by omega) (by omega) (hS j (by omega)) rfl p2 A' (fun P2 C2 A2 => ?_)
    exact nm_r (nI_1 j) (ih (j + 1) P2 C2 (by omega) (yp_n A2))
end
theorem i_vc_combine {k : Nat} {u : SX} {v : SY} (I : i_Rel k u v) (hk : k + 5 ≤ 2560) (v1 : Int32) (v2 : Int32) (v3 : Int32) : wpX_combine (fun r u' => wpY_combine (fun r' v' => r' = r ∧ i_Rel (k + 5) u' v') v v1 v2 v3) u v1 v2 v3 := by
  obtain ⟨f_slotsTaken, f_elementsTaken, f_slopeCount, a_handleTaken, a_handleIsView, a_windowRank, a_windowSlot, a_windowStart, a_windowDimension, a_windowStride, a_slotSize, a_slotKind, a_slotTerms, a_slotNeeded, a_slotsByAge, a_values, a_derivatives, a_firstPlaces, a_secondPlaces, a_assigned, a_slopes⟩ := u
  obtain ⟨c_cells, c_slopeCount, b_used, b_rank, b_dims, b_shown, b_tensorOf, b_view, b_exists, b_kind, b_first, b_second, b_owner, b_parts, b_partCount, b_value, b_slopeOf, b_order, b_slopes⟩ := v
  have I' := I
  obtain ⟨rk, sl, d, G, ages, sz, kd, tm, yk, cl, hX, hY, hS⟩ := I'
  have hu := hY.1.1
  by_cases hop : ∃ op, op ≤ 2 ∧ v1 = nI op
  · obtain ⟨op, hop, rfl⟩ := hop
    by_cases hH : ab_isH a_handleTaken v2
    · obtain ⟨w, hw, rfl, hT⟩ := hH
      by_cases hK : ab_isH a_handleTaken v3
      · obtain ⟨p, hp, rfl, hTp⟩ := hK
        obtain ⟨w1, w2, w3, w4⟩ := hX.2.2.2.2 w hw hT
        obtain ⟨p1, p2, p3, p4⟩ := hX.2.2.2.2 p hp hTp
        have yw := hY.2.2.2.2.1 w hw hT
        have yp := hY.2.2.2.2.1 p hp hTp
        have hU : ¬ b_used w = 0 := by rw [hu]; exact hT
        have hUp : ¬ b_used p = 0 := by rw [hu]; exact hTp
        have hfree : ∀ t, t < 32 → (b_exists t = 0 ↔ a_slotSize t = 0) := fun t ht => (hY.2.2.2.1 t ht).trans (rl_sz0 hX ht).symm
        have Dw := w3.2.2.1
        have Dp := p3.2.2.1
        generalize hr : (if rk w ≤ rk p then rk p else rk w) = r
        have kw3 := w2.1
        have kp3 := p2.1
        have hkw : rk w ≤ r := by rw [← hr]; split <;> omega
        have hkp : rk p ≤ r := by rw [← hr]; split <;> omega
        have hr3 : r ≤ 3 := by rw [← hr]; split <;> omega
        have cA := fun a (ha : a < r) => cb_a4 (a := a) w2 hkw hr3 ha
        have cB := fun a (ha : a < r) => cb_a4 (a := a) p2 hkp hr3 ha
        have H := cb_d3 hr3 cA cB
        by_cases hno : cb_fit r (cb_a (rk w) r (d w)) (cb_a (rk p) r (d p)) → (∀ t, t < 32 → ¬ a_slotSize t = 0) ∨ 320 < (ab_fl sz ages).length + cb_d r (cb_a (rk w) r (d w)) (cb_a (rk p) r (d p)) 0 * cb_d r (cb_a (rk w) r (d w)) (cb_a (rk p) r (d p)) 1 * cb_d r (cb_a (rk w) r (d w)) (cb_a (rk p) r (d p)) 2 ∨ (∀ j, j < 24 → ¬ a_handleTaken j = 0)
        · refine xc_combine_n (dw := d w) (dp := d p) hop hw hp hT hTp w1 p1 hr.symm hr3 (fun i hi => (Dw i hi).1) (fun i hi => (Dp i hi).1) (fun a ha => (cA a ha).2) (fun a ha => (cB a ha).2) H hX.2.1.1 hX.2.1.2 hno ?_
          have FIN : ∀ R D : Nat → Int32, (∀ h, h < 24 → R h = b_rank h) → (∀ j, j < 72 → D j = b_dims j) → i_Rel (k + 5) (f_slotsTaken, f_elementsTaken, f_slopeCount, a_handleTaken, a_handleIsView, a_windowRank, a_windowSlot, a_windowStart, a_windowDimension, a_windowStride, a_slotSize, a_slotKind, a_slotTerms, a_slotNeeded, a_slotsByAge, a_values, a_derivatives, a_firstPlaces, a_secondPlaces, a_assigned, a_slopes) (c_cells, c_slopeCount, b_used, R, D, b_shown, b_tensorOf, b_view, b_exists, b_kind, b_first, b_second, b_owner, b_parts, b_partCount, b_value, b_slopeOf, b_order, b_slopes) := fun R D r1 d1 => rl_mk (k + 5) rk sl d G ages sz kd tm yk cl hX (rl_scr r1 d1 (fun _ _ => rfl) (rl_hk hX).1 (rl_hk hX).2 hY) hS
          refine yc_shape hop hw hp hU hUp (rl_row w2 yw) (rl_row p2 yp) hr.symm hr3 (fun R D n hf r24 r1 d24 d1 => ?_) (fun R D hf r1 d1 => ⟨rfl, FIN R D r1 d1⟩)
          refine br_t (nI_le (by omega) (by omega)) ⟨vp_in_nI (by omega) (by decide), vp_in_nI (by omega) (by decide), ?_⟩
          refine yb_tensor_n (rk := r) (d := cb_d r (cb_a (rk w) r (d w)) (cb_a (rk p) r (d p))) ⟨r24, hr3, d24, H.2.1, H.2.2⟩ hY.2.1.1 hX.2.1.2 ?_ (br_f (by decide) ⟨rfl, FIN R D r1 d1⟩)
          rw [hu]
          rcases hno hf with z | z | z
          · exact Or.inl (fun t ht y => z t ht ((hfree t ht).mp y))
          · exact Or.inr (Or.inl z)
          · exact Or.inr (Or.inr z)
        · have hfit : cb_fit r (cb_a (rk w) r (d w)) (cb_a (rk p) r (d p)) := Classical.byContradiction (fun z => hno (fun y => absurd y z))
          have hres := fun z => hno (fun _ => z)
          generalize hdd : cb_d r (cb_a (rk w) r (d w)) (cb_a (rk p) r (d p)) = dd at *
          have fw : ∀ a, a < r → cb_a (rk w) r (d w) a = dd a ∨ cb_a (rk w) r (d w) a = 1 := by
            intro a ha
            have f1 := hfit a ha
            have := cA a ha
            have := cB a ha
            rw [← hdd]; unfold cb_d; rw [if_pos ha]
            split <;> omega
          have fp : ∀ a, a < r → cb_a (rk p) r (d p) a = dd a ∨ cb_a (rk p) r (d p) a = 1 := by
            intro a ha
            have f1 := hfit a ha
            have := cA a ha
            have := cB a ha
            rw [← hdd]; unfold cb_d; rw [if_pos ha]
            split <;> omega
          rcases ab_lst a_slotSize 32 with ⟨s, hs, hs0, hsl⟩ | sn
          · rcases ab_lst a_handleTaken 24 with ⟨v, hv, hv0, hvl⟩ | vn
            · have hce : (ab_fl sz ages).length + dd 0 * dd 1 * dd 2 ≤ 320 := Nat.le_of_not_lt (fun z => hres (Or.inr (Or.inl z)))
              have hsn : s ∉ ages := (rl_sz0 hX hs).mp hs0
              have hm := rl_m32 hX.2.2.1.1 hX.2.2.1.2.1 hs hsn
              have t32 := hX.2.2.1.2.1 _ w3.2.1
              have u32 := hX.2.2.1.2.1 _ p3.2.1
              refine xc_combine (dw := d w) (dp := d p) (dd := dd) hop hw hp hT hTp w1 p1 hr.symm hr3 (fun i hi => (Dw i hi).1) (fun i hi => (Dp i hi).1) (fun i hi => (Dw i hi).2.2) (fun i hi => (Dp i hi).2.2) (fun a ha => (cA a ha).2) (fun a ha => (cB a ha).2) hfit hdd H hX.2.1.1 hce hX.1.1 hm hs hs0 hsl hv hv0 hvl ?_
              rw [w3.1, p3.1]
              refine yc_shape hop hw hp hU hUp (rl_row w2 yw) (rl_row p2 yp) hr.symm hr3 (fun R D n hf r24 r1 d24 d1 => ?_) (fun R D hf r1 d1 => absurd hfit hf)
              rw [hdd] at d24
              have R24 : yb_row R D 24 r dd := ⟨r24, hr3, d24, H.2.1, H.2.2⟩
              have Hw' : yb_row R D w (rk w) (d w) := by
                have q := rl_row w2 yw
                refine ⟨by rw [r1 w hw]; exact q.1, q.2.1, fun i hi => ?_, q.2.2.2.1, q.2.2.2.2⟩
                rw [d1 _ (by omega)]; exact q.2.2.1 i hi
              have Hp' : yb_row R D p (rk p) (d p) := by
                have q := rl_row p2 yp
                refine ⟨by rw [r1 p hp]; exact q.1, q.2.1, fun i hi => ?_, q.2.2.2.1, q.2.2.2.2⟩
                rw [d1 _ (by omega)]; exact q.2.2.1 i hi
              have cW := rl_cell hX hY.2.2.1 w3 yw
              have cP := rl_cell hX hY.2.2.1 p3 yp
              refine br_t (nI_le (by omega) (by omega)) ⟨vp_in_nI (by omega) (by decide), vp_in_nI (by omega) (by decide), ?_⟩
              rw [nI_clamp (show w < 2 ^ 31 by omega), nI_clamp (show p < 2 ^ 31 by omega), yw.2.2.1, yp.2.2.1, show (1 : Int32) + nI op = nI (1 + op) from nI_add 1 op]
              refine yb_tensor_s (kw := 1 + op) (v := v) (L := (ab_fl sz ages).map cl) R24 hY.2.1.1 hce hs ((hfree s hs).mpr hs0) (fun j hj z => hsl j hj ((hfree j (by omega)).mp z)) hv (by rw [hu]; exact hv0) (by rw [hu]; exact hvl) (by omega) (rl_Lst hY.2.2.1) (by rw [List.length_map]) (fun f O C0 V Ro S A => br_t (nI_pos' (by omega)) (yb_size (h := 24) (by omega) R24 ⟨dd 0 * dd 1 * dd 2 + 1, ?_⟩))
              obtain ⟨A1, A2, A3, A4, A5, A6, A7⟩ := A
              have bd : ∀ (w e : Nat), w < 24 → e < 64 → 64 * w + e < 1536 := fun w e h1 h2 => by omega
              have lw : ∀ i j k, i < d w 0 → j < d w 1 → k < d w 2 → S (64 * w + ((i * d w 1 + j) * d w 2 + k)) = nI (cl (G w i j k)) ∧ cl (G w i j k) < 320 := by
                intro i j k hi hj hk'
                have h1 := ab_lin hi hj hk'
                have h2 := ab_sz (w2.2.2 0 (by omega)).2 (w2.2.2 1 (by omega)).2 (w2.2.2 2 (by omega)).2
                rw [A7 _ (bd _ _ hw (by omega))]; exact cW i j k hi hj hk'
              have lp : ∀ i j k, i < d p 0 → j < d p 1 → k < d p 2 → S (64 * p + ((i * d p 1 + j) * d p 2 + k)) = nI (cl (G p i j k)) ∧ cl (G p i j k) < 320 := by
                intro i j k hi hj hk'
                have h1 := ab_lin hi hj hk'
                have h2 := ab_sz (p2.2.2 0 (by omega)).2 (p2.2.2 1 (by omega)).2 (p2.2.2 2 (by omega)).2
                rw [A7 _ (bd _ _ hp (by omega))]; exact cP i j k hi hj hk'
              refine yc_loop (f := f) (cw := fun i j k => cl (G w i j k)) (cp := fun i j k => cl (G p i j k)) (P0 := b_parts) (C0 := C0) (v := v) hw hp R24 Hw' Hp' hkw hkp fw fp rfl hs A2 (fun i hi => (A1 i hi).1) (fun i hi => (A5 i hi).2) lw lp hv (by rw [hu]; exact hv0) (by rw [hu]; exact hvl) (fun P C D' S' Y e1 e2 s1 s2 => ⟨rfl, ?_⟩) _ 0 b_parts C0 (by omega) (yp_0 ⟨A1, A2, A3, A4, A5, A6, A7⟩)
              have e1w := fun x y z hx hy hz => w3.2.2.2 _ _ _ (cb_rng (x := x) (y := y) (z := z) (b := 0) w2 hkw hr3 fw hx hy hz (by omega)) (cb_rng (x := x) (y := y) (z := z) (b := 1) w2 hkw hr3 fw hx hy hz (by omega)) (cb_rng (x := x) (y := y) (z := z) (b := 2) w2 hkw hr3 fw hx hy hz (by omega))
              have e1p := fun x y z hx hy hz => p3.2.2.2 _ _ _ (cb_rng (x := x) (y := y) (z := z) (b := 0) p2 hkp hr3 fp hx hy hz (by omega)) (cb_rng (x := x) (y := y) (z := z) (b := 1) p2 hkp hr3 fp hx hy hz (by omega)) (cb_rng (x := x) (y := y) (z := z) (b := 2) p2 hkp hr3 fp hx hy hz (by omega))
              refine rl_mk (k + 5) (ab_fu rk v r) (mk_f sl v s s (sl w) (sl p)) (mk_f d v s dd dd dd) (mk_f G v s (mk_g s dd) (fun x y z => G w (cb_c (rk w) r (d w) x y z 0) (cb_c (rk w) r (d w) x y z 1) (cb_c (rk w) r (d w) x y z 2)) (fun x y z => G p (cb_c (rk p) r (d p) x y z 0) (cb_c (rk p) r (d p) x y z 1) (cb_c (rk p) r (d p) x y z 2))) (ages ++ [s]) (ab_fu sz s (dd 0 * dd 1 * dd 2)) (ab_fu kd s op) (ab_fu tm s 1) (ab_fu yk s (1 + op)) (rl_cl cl f s) ?_ ?_ hS
              · refine rl_resX hs hsn hv H rfl hce (by omega) (by omega) (by omega) H.2.2 H.2.2 (by rw [Nat.mul_one]) (by rw [Nat.mul_one]) w3.2.1 p3.2.1 (fun x y z hx hy hz => ?_) (fun x y z hx hy hz => ?_) hX
                · rw [cb_eq w2 hkw hr3 fw hx hy hz]; exact e1w x y z hx hy hz
                · rw [cb_eq p2 hkp hr3 fp hx hy hz]; exact e1p x y z hx hy hz
              · refine rl_resY (tt := 1) (kk := op) (r := r) hs hsn hv H rfl (by omega) (by omega) H.2.2 H.2.2 w3.2.1 p3.2.1 (fun x y z hx hy hz => (e1w x y z hx hy hz).2.1) (fun x y z hx hy hz => (e1p x y z hx hy hz).2.1) pk_us ?_ e1 ?_ s1 ?_ ⟨A1, A2, A3, A4, A5, A6, A7⟩ (by rw [if_neg (by omega)]; exact Y) (fun z => by omega) ?_ ?_ (yb_btn (by omega)) (fun z => by omega) (fun _ => yb_btn (by omega)) hX hY
                · intro i hi hi2; rw [pk_un hi2]; exact r1 i hi
                · intro j hj hj2; rw [e2 j hj2]; exact d1 j hj
                · intro j hj hj2; rw [s2 j hj2]; exact A7 j hj
                · intro _ i t hi ht
                  have : t = 0 := by omega
                  subst this
                  rw [Nat.mul_one, Nat.add_zero]
                  exact ⟨rfl, rfl⟩
                · unfold rl_kr; omega
            · exact absurd (Or.inr (Or.inr vn)) hres
          · exact absurd (Or.inl sn) hres
      · unfold wpX_combine
        refine br_f (nI_pos (by omega)) (br_f (nI_nlt (a := 2) hop (by decide)) (xw_isHandle_t hw hT (br_f ab_10 (xw_isHandle_f hK (br_t rfl ?_)))))
        unfold wpY_combine
        exact br_f (nI_pos (by omega)) (br_f (nI_nlt (a := 2) hop (by decide)) (yb_isHandle_t hw (by rw [hu]; exact hT) (br_f ab_10 (yb_isHandle_f (by rw [hu]; exact hK) (br_t rfl ⟨rfl, I⟩)))))
    · unfold wpX_combine
      refine br_f (nI_pos (by omega)) (br_f (nI_nlt (a := 2) hop (by decide)) (xw_isHandle_f hH (br_t rfl ?_)))
      unfold wpY_combine
      exact br_f (nI_pos (by omega)) (br_f (nI_nlt (a := 2) hop (by decide)) (yb_isHandle_f (by rw [hu]; exact hH) (br_t rfl ⟨rfl, I⟩)))
  · have Z : ∀ A B : Prop, A → (v1 < 0 → A) ∧ (¬ v1 < 0 → (2 < v1 → A) ∧ (¬ 2 < v1 → B)) := by
      intro A B a
      refine br_c (fun _ => a) (fun h0 => br_c (fun _ => a) (fun h1 => ?_))
      obtain ⟨q, hq, e⟩ := ab_hi (m := 2) (by decide) h0 (Int32.not_lt.mp h1)
      exact absurd ⟨q, hq, e⟩ hop
    exact Z _ _ (Z _ _ ⟨rfl, I⟩)
