section
variable {c_cells c_slopeCount : Int32} {b_used b_rank b_dims b_shown b_tensorOf b_view b_exists b_kind b_first b_second b_owner b_parts b_partCount b_value b_slopeOf b_order b_slopes : Nat → Int32}
theorem yc_al {post : Int32 → Prop} {w rk r a : Nat} {d : Nat → Nat} (hw : w < 25) (H : yb_row b_rank b_dims w rk d) (hk : rk ≤ r) (hr3 : r ≤ 3) (ha : a < r) (hp : post (nI (cb_a rk r d a))) : wpY_aligned post (c_cells, c_slopeCount, b_used, b_rank, b_dims, b_shown, b_tensorOf, b_view, b_exists, b_kind, b_first, b_second, b_owner, b_parts, b_partCount, b_value, b_slopeOf, b_order, b_slopes) (nI w) (nI r) (nI a) := by
  have hc : (nI w).toNatClampNeg = w := nI_clamp (by omega)
  have hv : vp_in (nI w) 25 := vp_in_nI hw (by decide)
  refine ⟨hv, ?_⟩
  rw [hc, H.1]
  unfold cb_a at hp
  by_cases z : a + rk < r
  · rw [if_pos z] at hp
    refine br_f ?_ hp
    rw [show nI a - nI r + nI rk = nI (a + rk) - nI r from by rw [← nI_add]; grind]
    exact Int32.not_le.mpr (pk_sneg (by omega) z)
  · rw [if_neg z] at hp
    rw [show nI a - nI r + nI rk = nI (a + rk - r) from by rw [← pk_sub (by omega), ← nI_add]; grind]
    refine br_t (nI_pos' (by omega)) ⟨hv, yb_dim hw (by omega) ?_⟩
    rw [H.2.2.1 _ (by omega)]; exact hp
theorem yc_sp_s {post : Int32 → Prop} {w rk r a e at' n : Nat} {d dd : Nat → Nat} (hw : w < 25) (H : yb_row b_rank b_dims w rk d) (H24 : yb_row b_rank b_dims 24 r dd) (hk : rk ≤ r) (ha : a < r) (he : e < 64) (h : wY_spread_14 post (nI w) (nI e) (nI r) c_cells c_slopeCount b_used b_rank b_dims b_shown b_tensorOf b_view b_exists b_kind b_first b_second b_owner b_parts b_partCount b_value b_slopeOf b_order b_slopes n (nI (at' * cb_a rk r d a + (if cb_a rk r d a = 1 then 0 else ab_crd (e / (dd 1 * dd 2) % dd 0) (e / dd 2 % dd 1) (e % dd 2) a))) (nI (a + 1))) : wY_spread_14 post (nI w) (nI e) (nI r) c_cells c_slopeCount b_used b_rank b_dims b_shown b_tensorOf b_view b_exists b_kind b_first b_second b_owner b_parts b_partCount b_value b_slopeOf b_order b_slopes (n + 1) (nI at') (nI a) := by
  have hr3 := H24.2.1
  have c4 := cb_a4 (rk := rk) (r := r) (a := a) (d := d) ⟨H.2.1, H.2.2.2.1, H.2.2.2.2⟩ hk hr3 ha
  refine br_f (nI_ge ha (by omega)) (yc_al hw H hk hr3 ha ?_)
  by_cases z : cb_a rk r d a = 1
  · rw [if_pos z] at h
    refine br_t (by rw [z]; rfl) (nm_r (e' := nI (at' * cb_a rk r d a + 0)) ?_ (nm_r (nI_1 a) h))
    rw [pk_mul, Nat.add_zero, Int32.add_zero]
  · rw [if_neg z] at h
    refine br_f (fun q => z ((nI_eq (b := 1) (by omega) (by decide)).mp q)) (yb_index (h := 24) (by omega) H24 (by omega) (by omega) (nm_r ?_ (nm_r (nI_1 a) h)))
    rw [pk_mul, nI_add]
theorem yc_spread {post : Int32 → Prop} {w rk r e : Nat} {d dd : Nat → Nat} (hw : w < 24) (H : yb_row b_rank b_dims w rk d) (H24 : yb_row b_rank b_dims 24 r dd) (hk : rk ≤ r) (he : e < 64) (hfit : ∀ a, a < r → cb_a rk r d a = dd a ∨ cb_a rk r d a = 1) (hp : post (b_shown (64 * w + ((cb_c rk r d (e / (dd 1 * dd 2) % dd 0) (e / dd 2 % dd 1) (e % dd 2) 0 * d 1 + cb_c rk r d (e / (dd 1 * dd 2) % dd 0) (e / dd 2 % dd 1) (e % dd 2) 1) * d 2 + cb_c rk r d (e / (dd 1 * dd 2) % dd 0) (e / dd 2 % dd 1) (e % dd 2) 2)))) : wpY_spread post (c_cells, c_slopeCount, b_used, b_rank, b_dims, b_shown, b_tensorOf, b_view, b_exists, b_kind, b_first, b_second, b_owner, b_parts, b_partCount, b_value, b_slopeOf, b_order, b_slopes) (nI w) (nI e) := by
  have hr3 := H24.2.1
  have h3 : ab_sh3 rk d := ⟨H.2.1, H.2.2.2.1, H.2.2.2.2⟩
  have hb4 := H24.2.2.2.2
  obtain ⟨i1, i2, i3⟩ := ab_pfi (e := e) (hb4 0 (by omega)).1 (hb4 1 (by omega)).1 (hb4 2 (by omega)).1
  have R := fun b (hb : b < 3) => cb_rng (b := b) h3 hk hr3 hfit i1 i2 i3 hb
  have hl := ab_lin (R 0 (by omega)) (R 1 (by omega)) (R 2 (by omega))
  have hs := ab_sz (h3.2.2 0 (by omega)).2 (h3.2.2 1 (by omega)).2 (h3.2.2 2 (by omega)).2
  have X : ∀ (n q a : Nat), a = r → q = (cb_c rk r d (e / (dd 1 * dd 2) % dd 0) (e / dd 2 % dd 1) (e % dd 2) 0 * d 1 + cb_c rk r d (e / (dd 1 * dd 2) % dd 0) (e / dd 2 % dd 1) (e % dd 2) 1) * d 2 + cb_c rk r d (e / (dd 1 * dd 2) % dd 0) (e / dd 2 % dd 1) (e % dd 2) 2 → wY_spread_14 post (nI w) (nI e) (nI r) c_cells c_slopeCount b_used b_rank b_dims b_shown b_tensorOf b_view b_exists b_kind b_first b_second b_owner b_parts b_partCount b_value b_slopeOf b_order b_slopes (n + 1) (nI q) (nI a) := by
    intro n q a e1 e2
    refine br_t (nI_le (by omega) (by omega)) ⟨ab_vin ab_i64 (by omega) (by decide), ?_⟩
    rw [ab_i64, nI_clamp (by omega), e2]; exact hp
  have S : ∀ (n at' a : Nat), a < r → wY_spread_14 post (nI w) (nI e) (nI r) c_cells c_slopeCount b_used b_rank b_dims b_shown b_tensorOf b_view b_exists b_kind b_first b_second b_owner b_parts b_partCount b_value b_slopeOf b_order b_slopes n (nI (at' * cb_a rk r d a + (if cb_a rk r d a = 1 then 0 else ab_crd (e / (dd 1 * dd 2) % dd 0) (e / dd 2 % dd 1) (e % dd 2) a))) (nI (a + 1)) → wY_spread_14 post (nI w) (nI e) (nI r) c_cells c_slopeCount b_used b_rank b_dims b_shown b_tensorOf b_view b_exists b_kind b_first b_second b_owner b_parts b_partCount b_value b_slopeOf b_order b_slopes (n + 1) (nI at') (nI a) := fun n at' a ha hh => yc_sp_s (show w < 25 by omega) H H24 hk ha he hh
  refine nm_r (e' := nI r) H24.1 ⟨r + 1, ?_⟩
  generalize e / (dd 1 * dd 2) % dd 0 = x at *
  generalize e / dd 2 % dd 1 = y at *
  generalize e % dd 2 = z at *
  have o0 := h3.2.1 0
  have o1 := h3.2.1 1
  have o2 := h3.2.1 2
  rcases (show (rk = 0 ∧ r = 0) ∨ (rk = 0 ∧ r = 1) ∨ (rk = 0 ∧ r = 2) ∨ (rk = 0 ∧ r = 3) ∨ (rk = 1 ∧ r = 1) ∨ (rk = 1 ∧ r = 2) ∨ (rk = 1 ∧ r = 3) ∨ (rk = 2 ∧ r = 2) ∨ (rk = 2 ∧ r = 3) ∨ (rk = 3 ∧ r = 3) by omega) with ⟨rfl, rfl⟩ | ⟨rfl, rfl⟩ | ⟨rfl, rfl⟩ | ⟨rfl, rfl⟩ | ⟨rfl, rfl⟩ | ⟨rfl, rfl⟩ | ⟨rfl, rfl⟩ | ⟨rfl, rfl⟩ | ⟨rfl, rfl⟩ | ⟨rfl, rfl⟩
  · exact X 0 0 0 rfl (by simp [cb_c])
  · exact S 1 0 0 (by omega) (X 0 _ _ rfl (by simp [cb_c, cb_a]))
  · exact S 2 0 0 (by omega) (S 1 _ 1 (by omega) (X 0 _ _ rfl (by simp [cb_c, cb_a])))
  · exact S 3 0 0 (by omega) (S 2 _ 1 (by omega) (S 1 _ 2 (by omega) (X 0 _ _ rfl (by simp [cb_c, cb_a]))))
  · refine S 1 0 0 (by omega) (X 0 _ _ rfl ?_)
    rw [o1 (by omega) (by omega), o2 (by omega) (by omega)]
    by_cases q : d 0 = 1 <;> simp [cb_c, cb_a, q, ab_crd]
  · refine S 2 0 0 (by omega) (S 1 _ 1 (by omega) (X 0 _ _ rfl ?_))
    rw [o1 (by omega) (by omega), o2 (by omega) (by omega)]
    by_cases q : d 0 = 1 <;> simp [cb_c, cb_a, q, ab_crd]
  · refine S 3 0 0 (by omega) (S 2 _ 1 (by omega) (S 1 _ 2 (by omega) (X 0 _ _ rfl ?_)))
    rw [o1 (by omega) (by omega), o2 (by omega) (by omega)]
    by_cases q : d 0 = 1 <;> simp [cb_c, cb_a, q, ab_crd]
  · refine S 2 0 0 (by omega) (S 1 _ 1 (by omega) (X 0 _ _ rfl ?_))
    rw [o2 (by omega) (by omega)]
    by_cases q : d 0 = 1 <;> by_cases q1 : d 1 = 1 <;> simp [cb_c, cb_a, q, q1, ab_crd]
  · refine S 3 0 0 (by omega) (S 2 _ 1 (by omega) (S 1 _ 2 (by omega) (X 0 _ _ rfl ?_)))
    rw [o2 (by omega) (by omega)]
    by_cases q : d 0 = 1 <;> by_cases q1 : d 1 = 1 <;> simp [cb_c, cb_a, q, q1, ab_crd]
  · refine S 3 0 0 (by omega) (S 2 _ 1 (by omega) (S 1 _ 2 (by omega) (X 0 _ _ rfl ?_)))
    by_cases q : d 0 = 1 <;> by_cases q1 : d 1 = 1 <;> by_cases q2 : d 2 = 1 <;> simp [cb_c, cb_a, q, q1, q2, ab_crd]
theorem yc_71s {post : Int32 → SY → Prop} {w p rkw rkp r a n : Nat} {x1 : Int32} {dw dp : Nat → Nat} (hw : w < 24) (hp : p < 24) (Hw : yb_row b_rank b_dims w rkw dw) (Hp : yb_row b_rank b_dims p rkp dp) (hkw : rkw ≤ r) (hkp : rkp ≤ r) (hr3 : r ≤ 3) (ha : a < r) (h : (cb_a rkw r dw a = cb_a rkp r dp a ∨ cb_a rkw r dw a = 1 ∨ cb_a rkp r dp a = 1) → wY_combine_71 post x1 (nI w) (nI p) (nI r) c_cells c_slopeCount n (nI (a + 1)) b_used b_rank (upd b_dims (72 + a) (nI (cb_d r (cb_a rkw r dw) (cb_a rkp r dp) a))) b_shown b_tensorOf b_view b_exists b_kind b_first b_second b_owner b_parts b_partCount b_value b_slopeOf b_order b_slopes) (hf : ¬ (cb_a rkw r dw a = cb_a rkp r dp a ∨ cb_a rkw r dw a = 1 ∨ cb_a rkp r dp a = 1) → post (-1) (c_cells, c_slopeCount, b_used, b_rank, b_dims, b_shown, b_tensorOf, b_view, b_exists, b_kind, b_first, b_second, b_owner, b_parts, b_partCount, b_value, b_slopeOf, b_order, b_slopes)) : wY_combine_71 post x1 (nI w) (nI p) (nI r) c_cells c_slopeCount (n + 1) (nI a) b_used b_rank b_dims b_shown b_tensorOf b_view b_exists b_kind b_first b_second b_owner b_parts b_partCount b_value b_slopeOf b_order b_slopes := by
  have c4 := cb_a4 (a := a) ⟨Hw.2.1, Hw.2.2.2.1, Hw.2.2.2.2⟩ hkw hr3 ha
  have c5 := cb_a4 (a := a) ⟨Hp.2.1, Hp.2.2.2.1, Hp.2.2.2.2⟩ hkp hr3 ha
  have e1 : (72 : Int32) + nI a = nI (72 + a) := nI_add 72 a
  have K : (cb_a rkw r dw a = cb_a rkp r dp a ∨ cb_a rkw r dw a = 1 ∨ cb_a rkp r dp a = 1) → wY_combine_121 post (wY_combine_71 post x1 (nI w) (nI p) (nI r) c_cells c_slopeCount n) x1 (nI w) (nI p) (nI r) (nI a) (nI (cb_a rkw r dw a)) (nI (cb_a rkp r dp a)) c_cells c_slopeCount b_used b_rank b_dims b_shown b_tensorOf b_view b_exists b_kind b_first b_second b_owner b_parts b_partCount b_value b_slopeOf b_order b_slopes := by
    intro f
    have h' := h f
    unfold cb_d at h'
    rw [if_pos ha] at h'
    by_cases z : cb_a rkw r dw a ≤ cb_a rkp r dp a
    · rw [if_pos z] at h'
      refine br_t (nI_le z (by omega)) ⟨ab_vin e1 (by omega) (by decide), nm_r (e' := upd b_dims (72 + a) (nI (cb_a rkp r dp a))) ?_ (nm_r (nI_1 a) h')⟩
      rw [e1, nI_clamp (by omega), ab_vb2 (by omega)]
    · rw [if_neg z] at h'
      refine br_f (nI_ge (by omega) (by omega)) ⟨ab_vin e1 (by omega) (by decide), nm_r (e' := upd b_dims (72 + a) (nI (cb_a rkw r dw a))) ?_ (nm_r (nI_1 a) h')⟩
      rw [e1, nI_clamp (by omega), ab_vb2 (by omega)]
  refine br_f (nI_ge ha (by omega)) (yc_al (by omega) Hw hkw hr3 ha (yc_al (by omega) Hp hkp hr3 ha ?_))
  refine br_c (fun z => K (Or.inl ((nI_eq (by omega) (by omega)).mp z))) (fun n1 => br_c (fun z => K (Or.inr (Or.inl ((nI_eq (b := 1) (by omega) (by decide)).mp z)))) (fun n2 => br_c (fun z => K (Or.inr (Or.inr ((nI_eq (b := 1) (by omega) (by decide)).mp z)))) (fun n3 => hf ?_)))
  rintro (q | q | q)
  · exact n1 (by rw [q])
  · exact n2 (by rw [q]; rfl)
  · exact n3 (by rw [q]; rfl)
theorem yc_shape {post : Int32 → SY → Prop} {w p op rkw rkp r : Nat} {dw dp : Nat → Nat} (hop : op ≤ 2) (hw : w < 24) (hp : p < 24) (hU : ¬ b_used w = 0) (hUp : ¬ b_used p = 0) (Hw : yb_row b_rank b_dims w rkw dw) (Hp : yb_row b_rank b_dims p rkp dp) (hr : r = if rkw ≤ rkp then rkp else rkw) (hr3 : r ≤ 3) (ht : ∀ (R D : Nat → Int32) (n : Nat), cb_fit r (cb_a rkw r dw) (cb_a rkp r dp) → R 24 = nI r → (∀ h, h < 24 → R h = b_rank h) → (∀ a, a < r → D (72 + a) = nI (cb_d r (cb_a rkw r dw) (cb_a rkp r dp) a)) → (∀ j, j < 72 → D j = b_dims j) → wY_combine_71 post (nI op) (nI w) (nI p) (nI r) c_cells c_slopeCount (n + 1) (nI r) b_used R D b_shown b_tensorOf b_view b_exists b_kind b_first b_second b_owner b_parts b_partCount b_value b_slopeOf b_order b_slopes) (hf : ∀ R D : Nat → Int32, ¬ cb_fit r (cb_a rkw r dw) (cb_a rkp r dp) → (∀ h, h < 24 → R h = b_rank h) → (∀ j, j < 72 → D j = b_dims j) → post (-1) (c_cells, c_slopeCount, b_used, R, D, b_shown, b_tensorOf, b_view, b_exists, b_kind, b_first, b_second, b_owner, b_parts, b_partCount, b_value, b_slopeOf, b_order, b_slopes)) : wpY_combine post (c_cells, c_slopeCount, b_used, b_rank, b_dims, b_shown, b_tensorOf, b_view, b_exists, b_kind, b_first, b_second, b_owner, b_parts, b_partCount, b_value, b_slopeOf, b_order, b_slopes) (nI op) (nI w) (nI p) := by
  have hkw : rkw ≤ r := by rw [hr]; split <;> omega
  have hkp : rkp ≤ r := by rw [hr]; split <;> omega
  have cw : (nI w).toNatClampNeg = w := nI_clamp (by omega)
  have cp : (nI p).toNatClampNeg = p := nI_clamp (by omega)
  have kw3 := Hw.2.1
  have kp3 := Hp.2.1
  have K : wY_combine_57 post (nI op) (nI w) (nI p) (nI r) c_cells c_slopeCount b_used b_rank b_dims b_shown b_tensorOf b_view b_exists b_kind b_first b_second b_owner b_parts b_partCount b_value b_slopeOf b_order b_slopes := by
    unfold wY_combine_57
    refine yb_shapeNew (by omega) ⟨r + 1, ?_⟩
    have B0 : yb_bt 0 = 0 := yb_btn (n := 0) (by omega)
    rw [B0]
    have R1 : ∀ h, h < 24 → upd b_rank 24 (nI r) h = b_rank h := fun h hh => pk_un (by omega)
    have W1 : ∀ D : Nat → Int32, (∀ j, j < 72 → D j = b_dims j) → yb_row (upd b_rank 24 (nI r)) D w rkw dw := by
      intro D hD
      refine ⟨by rw [R1 w hw]; exact Hw.1, Hw.2.1, fun i hi => ?_, Hw.2.2.2.1, Hw.2.2.2.2⟩
      rw [hD _ (by omega)]; exact Hw.2.2.1 i hi
    have W2 : ∀ D : Nat → Int32, (∀ j, j < 72 → D j = b_dims j) → yb_row (upd b_rank 24 (nI r)) D p rkp dp := by
      intro D hD
      refine ⟨by rw [R1 p hp]; exact Hp.1, Hp.2.1, fun i hi => ?_, Hp.2.2.2.1, Hp.2.2.2.2⟩
      rw [hD _ (by omega)]; exact Hp.2.2.1 i hi
    have S : ∀ (n a : Nat) (D : Nat → Int32), a < r → (∀ j, j < 72 → D j = b_dims j) → ((cb_a rkw r dw a = cb_a rkp r dp a ∨ cb_a rkw r dw a = 1 ∨ cb_a rkp r dp a = 1) → wY_combine_71 post (nI op) (nI w) (nI p) (nI r) c_cells c_slopeCount n (nI (a + 1)) b_used (upd b_rank 24 (nI r)) (upd D (72 + a) (nI (cb_d r (cb_a rkw r dw) (cb_a rkp r dp) a))) b_shown b_tensorOf b_view b_exists b_kind b_first b_second b_owner b_parts b_partCount b_value b_slopeOf b_order b_slopes) → wY_combine_71 post (nI op) (nI w) (nI p) (nI r) c_cells c_slopeCount (n + 1) (nI a) b_used (upd b_rank 24 (nI r)) D b_shown b_tensorOf b_view b_exists b_kind b_first b_second b_owner b_parts b_partCount b_value b_slopeOf b_order b_slopes := by
      intro n a D ha hD hn
      exact yc_71s hw hp (W1 D hD) (W2 D hD) hkw hkp hr3 ha hn (fun z => hf _ _ (fun q => z (q a ha)) R1 hD)
    have D0 : ∀ j, j < 72 → ab_up3 b_dims 72 0 0 0 j = b_dims j := fun j hj => ab_en (by omega)
    have U : ∀ (D : Nat → Int32) (a : Nat) (x : Int32), (∀ j, j < 72 → D j = b_dims j) → ∀ j, j < 72 → upd D (72 + a) x j = b_dims j := fun D a x hD j hj => by rw [pk_un (by omega)]; exact hD j hj
    rcases (show r = 0 ∨ r = 1 ∨ r = 2 ∨ r = 3 by omega) with z | z | z | z
    · rw [show r + 1 = 0 + 1 by omega]
      have := ht (upd b_rank 24 (nI r)) (ab_up3 b_dims 72 0 0 0) 0 (fun a ha => by omega) pk_us R1 (fun a ha => by omega) D0
      rw [z] at this ⊢
      exact this
    · rw [show r + 1 = 1 + 1 by omega]
      refine S 1 0 _ (by omega) D0 (fun k0 => ?_)
      have := ht (upd b_rank 24 (nI r)) (upd (ab_up3 b_dims 72 0 0 0) (72 + 0) (nI (cb_d r (cb_a rkw r dw) (cb_a rkp r dp) 0))) 0 (fun a ha => by rw [show a = 0 by omega]; exact k0) pk_us R1 (fun a ha => by rw [show a = 0 by omega, pk_us]) (U _ _ _ D0)
      rw [show 0 + 1 = r by omega]
      exact this
    · rw [show r + 1 = 2 + 1 by omega]
      refine S 2 0 _ (by omega) D0 (fun k0 => S 1 1 _ (by omega) (U _ _ _ D0) (fun k1 => ?_))
      have := ht (upd b_rank 24 (nI r)) (upd (upd (ab_up3 b_dims 72 0 0 0) (72 + 0) (nI (cb_d r (cb_a rkw r dw) (cb_a rkp r dp) 0))) (72 + 1) (nI (cb_d r (cb_a rkw r dw) (cb_a rkp r dp) 1))) 0 (fun a ha => by
        rcases (show a = 0 ∨ a = 1 by omega) with y | y <;> rw [y]
        · exact k0
        · exact k1) pk_us R1 (fun a ha => by
        rcases (show a = 0 ∨ a = 1 by omega) with y | y <;> rw [y]
        · rw [pk_un (by omega), pk_us]
        · rw [pk_us]) (U _ _ _ (U _ _ _ D0))
      rw [show 1 + 1 = r by omega]
      exact this
    · rw [show r + 1 = 3 + 1 by omega]
      refine S 3 0 _ (by omega) D0 (fun k0 => S 2 1 _ (by omega) (U _ _ _ D0) (fun k1 => S 1 2 _ (by omega) (U _ _ _ (U _ _ _ D0)) (fun k2 => ?_)))
      have := ht (upd b_rank 24 (nI r)) (upd (upd (upd (ab_up3 b_dims 72 0 0 0) (72 + 0) (nI (cb_d r (cb_a rkw r dw) (cb_a rkp r dp) 0))) (72 + 1) (nI (cb_d r (cb_a rkw r dw) (cb_a rkp r dp) 1))) (72 + 2) (nI (cb_d r (cb_a rkw r dw) (cb_a rkp r dp) 2))) 0 (fun a ha => by
        rcases (show a = 0 ∨ a = 1 ∨ a = 2 by omega) with y | y | y <;> rw [y]
        · exact k0
        · exact k1
        · exact k2) pk_us R1 (fun a ha => by
        rcases (show a = 0 ∨ a = 1 ∨ a = 2 by omega) with y | y | y <;> rw [y]
        · rw [pk_un (by omega), pk_un (by omega), pk_us]
        · rw [pk_un (by omega), pk_us]
        · rw [pk_us]) (U _ _ _ (U _ _ _ (U _ _ _ D0)))
      rw [show 2 + 1 = r by omega]
      exact this
  unfold wpY_combine
  refine br_f (nI_pos (by omega)) (br_f (nI_nlt (a := 2) hop (by decide)) (yb_isHandle_t hw hU (br_f ab_10 (yb_isHandle_t hp hUp (br_f ab_10 ⟨vp_in_nI (by omega) (by decide), vp_in_nI (by omega) (by decide), ?_⟩)))))
  rw [cw, cp, Hw.1, Hp.1]
  by_cases z : rkw ≤ rkp
  · rw [if_pos z] at hr
    subst hr
    exact br_t (nI_le z (by omega)) ⟨vp_in_nI (by omega) (by decide), K⟩
  · rw [if_neg z] at hr
    subst hr
    exact br_f (nI_ge (by omega) (by omega)) ⟨vp_in_nI (by omega) (by decide), K⟩
end
