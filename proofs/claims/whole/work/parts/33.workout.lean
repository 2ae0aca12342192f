def ab_lv (k : Nat) (a b x y : Int32) : Int32 := if k = 0 then x + y else if k = 1 then x - y else if k = 2 then x * b + a * y else x
theorem ab_i8 {c a : Nat} : 8 * nI c + nI a = nI (8 * c + a) := by
  show nI 8 * nI c + nI a = _
  rw [pk_mul, nI_add]
section
variable {c_cells c_slopeCount : Int32} {b_used b_rank b_dims b_shown b_tensorOf b_view b_exists b_kind b_first b_second b_owner b_parts b_partCount b_value b_slopeOf b_order b_slopes : Nat → Int32}
theorem yk_x {post : SY → Prop} {J2 : Int32 → (Nat → Int32) → (Nat → Int32) → (Nat → Int32) → (Nat → Int32) → (Nat → Int32) → (Nat → Int32) → (Nat → Int32) → (Nat → Int32) → (Nat → Int32) → (Nat → Int32) → (Nat → Int32) → (Nat → Int32) → (Nat → Int32) → (Nat → Int32) → (Nat → Int32) → (Nat → Int32) → (Nat → Int32) → Prop} {x1 x4 a b : Int32} {c k q m n : Nat} (hc : c < 320) (hm : m ≤ 8) (hq : q = m) (h : J2 (nI (k + 1)) b_used b_rank b_dims b_shown b_tensorOf b_view b_exists b_kind b_first b_second b_owner b_parts b_partCount (upd b_value c a) (upd b_slopeOf c b) b_order b_slopes) : wY_workOut_71 post J2 x1 (nI k) (nI c) x4 (nI m) c_cells c_slopeCount b_used b_rank b_dims b_shown b_tensorOf b_view b_exists b_kind b_first b_second b_owner b_parts b_partCount b_value b_slopeOf b_order b_slopes (n + 1) a b (nI q) := by
  have hv : vp_in (nI c) 320 := vp_in_nI hc (by decide)
  refine br_t (nI_le (by omega) (by omega)) ⟨hv, fun W hW => ⟨hv, fun S hS => nm_r (nI_1 k) ?_⟩⟩
  rw [nI_clamp (by omega)] at hW hS
  subst hW hS
  exact h
theorem yk_p {post : SY → Prop} {J2 : Int32 → (Nat → Int32) → (Nat → Int32) → (Nat → Int32) → (Nat → Int32) → (Nat → Int32) → (Nat → Int32) → (Nat → Int32) → (Nat → Int32) → (Nat → Int32) → (Nat → Int32) → (Nat → Int32) → (Nat → Int32) → (Nat → Int32) → (Nat → Int32) → (Nat → Int32) → (Nat → Int32) → (Nat → Int32) → Prop} {x1 a b : Int32} {c k q m n y u w : Nat} (hc : c < 320) (hm : m ≤ 8) (hq : q + 1 < m) (hy : y = 3 ∨ y = 5) (h1 : b_parts (8 * c + q) = nI u) (h2 : b_parts (8 * c + (q + 1)) = nI w) (hu : u < 320) (hw : w < 320) (h : wY_workOut_71 post J2 x1 (nI k) (nI c) (nI y) (nI m) c_cells c_slopeCount b_used b_rank b_dims b_shown b_tensorOf b_view b_exists b_kind b_first b_second b_owner b_parts b_partCount b_value b_slopeOf b_order b_slopes n (a + b_value u * b_value w) (b + (b_slopeOf u * b_value w + b_value u * b_slopeOf w)) (nI (q + 1 + 1))) : wY_workOut_71 post J2 x1 (nI k) (nI c) (nI y) (nI m) c_cells c_slopeCount b_used b_rank b_dims b_shown b_tensorOf b_view b_exists b_kind b_first b_second b_owner b_parts b_partCount b_value b_slopeOf b_order b_slopes (n + 1) a b (nI q) := by
  have hvu : vp_in (nI u) 320 := vp_in_nI hu (by decide)
  have hvw : vp_in (nI w) 320 := vp_in_nI hw (by decide)
  have cu : (nI u).toNatClampNeg = u := nI_clamp (by omega)
  have cw : (nI w).toNatClampNeg = w := nI_clamp (by omega)
  have e2 : 8 * nI c + nI q + 1 = nI (8 * c + (q + 1)) := by rw [ab_i8, nI_1]; rfl
  refine br_f (nI_ge (by omega) (by omega)) ⟨ab_vin ab_i8 (by omega) (by decide), nm_r (e' := nI u) (by rw [ab_i8, nI_clamp (by omega), h1]) ?_⟩
  have K : wY_workOut_104 post J2 (wY_workOut_71 post J2 x1 (nI k) (nI c) (nI y) (nI m) c_cells c_slopeCount b_used b_rank b_dims b_shown b_tensorOf b_view b_exists b_kind b_first b_second b_owner b_parts b_partCount b_value b_slopeOf b_order b_slopes n) x1 (nI k) (nI c) (nI y) (nI m) a b (nI q) (nI u) c_cells c_slopeCount b_used b_rank b_dims b_shown b_tensorOf b_view b_exists b_kind b_first b_second b_owner b_parts b_partCount b_value b_slopeOf b_order b_slopes := by
    refine ⟨ab_vin e2 (by omega) (by decide), nm_r (e' := nI w) (by rw [e2, nI_clamp (by omega), h2]) ⟨hvu, hvw, nm_r (e' := a + b_value u * b_value w) (by rw [cu, cw]) ⟨hvu, hvw, hvu, hvw, nm_r (e' := b + (b_slopeOf u * b_value w + b_value u * b_slopeOf w)) (by rw [cu, cw]) (nm_r (nI_1 q) (nm_r (nI_1 _) h))⟩⟩⟩
  rcases hy with rfl | rfl
  · exact br_f (by decide) (br_t rfl K)
  · exact br_t rfl K
theorem yk_s {post : SY → Prop} {J2 : Int32 → (Nat → Int32) → (Nat → Int32) → (Nat → Int32) → (Nat → Int32) → (Nat → Int32) → (Nat → Int32) → (Nat → Int32) → (Nat → Int32) → (Nat → Int32) → (Nat → Int32) → (Nat → Int32) → (Nat → Int32) → (Nat → Int32) → (Nat → Int32) → (Nat → Int32) → (Nat → Int32) → (Nat → Int32) → Prop} {x1 a b z : Int32} {c k q m n y u : Nat} (hc : c < 320) (hm : m ≤ 8) (hq : q < m) (hy : y = 1 ∨ y = 2 ∨ y = 4 ∨ y = 6) (hz : z = if y = 2 ∧ q = 1 then -1 else 1) (h1 : b_parts (8 * c + q) = nI u) (hu : u < 320) (h : wY_workOut_71 post J2 x1 (nI k) (nI c) (nI y) (nI m) c_cells c_slopeCount b_used b_rank b_dims b_shown b_tensorOf b_view b_exists b_kind b_first b_second b_owner b_parts b_partCount b_value b_slopeOf b_order b_slopes n (a + z * b_value u) (b + z * b_slopeOf u) (nI (q + 1))) : wY_workOut_71 post J2 x1 (nI k) (nI c) (nI y) (nI m) c_cells c_slopeCount b_used b_rank b_dims b_shown b_tensorOf b_view b_exists b_kind b_first b_second b_owner b_parts b_partCount b_value b_slopeOf b_order b_slopes (n + 1) a b (nI q) := by
  have hvu : vp_in (nI u) 320 := vp_in_nI hu (by decide)
  have cu : (nI u).toNatClampNeg = u := nI_clamp (by omega)
  refine br_f (nI_ge (by omega) (by omega)) ⟨ab_vin ab_i8 (by omega) (by decide), nm_r (e' := nI u) (by rw [ab_i8, nI_clamp (by omega), h1]) ?_⟩
  have K : wY_workOut_199 post J2 (wY_workOut_71 post J2 x1 (nI k) (nI c) (nI y) (nI m) c_cells c_slopeCount b_used b_rank b_dims b_shown b_tensorOf b_view b_exists b_kind b_first b_second b_owner b_parts b_partCount b_value b_slopeOf b_order b_slopes n) x1 (nI k) (nI c) (nI y) (nI m) a b (nI q) (nI u) z c_cells c_slopeCount b_used b_rank b_dims b_shown b_tensorOf b_view b_exists b_kind b_first b_second b_owner b_parts b_partCount b_value b_slopeOf b_order b_slopes := by
    exact ⟨hvu, nm_r (e' := a + z * b_value u) (by rw [cu]) ⟨hvu, nm_r (e' := b + z * b_slopeOf u) (by rw [cu]) (nm_r (nI_1 q) h)⟩⟩
  rcases hy with rfl | rfl | rfl | rfl
  · rw [if_neg (by omega)] at hz; subst hz
    exact br_f (by decide) (br_f (by decide) (br_f (by decide) K))
  · refine br_f (by decide) (br_f (by decide) (br_t rfl ?_))
    by_cases q1 : q = 1
    · rw [if_pos ⟨rfl, q1⟩] at hz; subst hz
      exact br_t (by rw [q1]; rfl) K
    · rw [if_neg (fun r => q1 r.2)] at hz; subst hz
      exact br_f (fun r => q1 ((nI_eq (b := 1) (by omega) (by decide)).mp r)) K
  · rw [if_neg (by omega)] at hz; subst hz
    exact br_f (by decide) (br_f (by decide) (br_f (by decide) K))
  · rw [if_neg (by omega)] at hz; subst hz
    exact br_f (by decide) (br_f (by decide) (br_f (by decide) K))
theorem yk_cell {post : SY → Prop} {J2 : Int32 → (Nat → Int32) → (Nat → Int32) → (Nat → Int32) → (Nat → Int32) → (Nat → Int32) → (Nat → Int32) → (Nat → Int32) → (Nat → Int32) → (Nat → Int32) → (Nat → Int32) → (Nat → Int32) → (Nat → Int32) → (Nat → Int32) → (Nat → Int32) → (Nat → Int32) → (Nat → Int32) → (Nat → Int32) → Prop} {x1 : Int32} {c k kk yy tt : Nat} {c1 c2 : Nat → Nat} (hkr : rl_kr kk yy tt) (hk4 : kk ≠ 4) (hc : c < 320) (ht4 : tt ≤ 4) (h3 : kk = 3 → b_partCount c = nI tt ∧ ∀ t, t < tt → b_parts (8 * c + t) = nI (c1 t)) (h2 : kk ≠ 3 → b_partCount c = nI (2 * tt) ∧ ∀ t, t < tt → b_parts (8 * c + 2 * t) = nI (c1 t) ∧ b_parts (8 * c + (2 * t + 1)) = nI (c2 t)) (hb1 : ∀ t, t < tt → c1 t < 320) (hb2 : ∀ t, t < tt → c2 t < 320) (h : J2 (nI (k + 1)) b_used b_rank b_dims b_shown b_tensorOf b_view b_exists b_kind b_first b_second b_owner b_parts b_partCount (upd b_value c (ab_sm (fun t => ab_tv kk (b_value (c1 t)) (b_value (c2 t))) tt)) (upd b_slopeOf c (ab_sm (fun t => ab_lv kk (b_value (c1 t)) (b_value (c2 t)) (b_slopeOf (c1 t)) (b_slopeOf (c2 t))) tt)) b_order b_slopes) : ∃ n, wY_workOut_71 post J2 x1 (nI k) (nI c) (nI yy) (b_partCount c) c_cells c_slopeCount b_used b_rank b_dims b_shown b_tensorOf b_view b_exists b_kind b_first b_second b_owner b_parts b_partCount b_value b_slopeOf b_order b_slopes n 0 0 0 := by
  rcases hkr with ⟨q1, q2⟩ | ⟨rfl, rfl, rfl⟩ | ⟨rfl, rfl, rfl⟩ | ⟨rfl, hy⟩ | ⟨rfl, hy⟩
  · exact absurd q1 hk4
  · obtain ⟨p0, p1⟩ := h2 (by omega)
    obtain ⟨u1, u2⟩ := p1 0 (by omega)
    rw [p0]
    refine ⟨3, yk_s (z := 1) (q := 0) (u := c1 0) hc (by omega) (by omega) (Or.inl rfl) rfl u1 (hb1 0 (by omega)) (yk_s (z := 1) (u := c2 0) hc (by omega) (by omega) (Or.inl rfl) rfl u2 (hb2 0 (by omega)) (yk_x hc (by omega) (by omega) ?_))⟩
    have e1 : 0 + 1 * b_value (c1 0) + 1 * b_value (c2 0) = ab_sm (fun t => ab_tv 0 (b_value (c1 t)) (b_value (c2 t))) 1 := by
      show _ = 0 + (b_value (c1 0) + b_value (c2 0))
      grind
    have e2 : 0 + 1 * b_slopeOf (c1 0) + 1 * b_slopeOf (c2 0) = ab_sm (fun t => ab_lv 0 (b_value (c1 t)) (b_value (c2 t)) (b_slopeOf (c1 t)) (b_slopeOf (c2 t))) 1 := by
      show _ = 0 + (b_slopeOf (c1 0) + b_slopeOf (c2 0))
      grind
    rw [e1, e2]; exact h
  · obtain ⟨p0, p1⟩ := h2 (by omega)
    obtain ⟨u1, u2⟩ := p1 0 (by omega)
    rw [p0]
    refine ⟨3, yk_s (z := 1) (q := 0) (u := c1 0) hc (by omega) (by omega) (Or.inr (Or.inl rfl)) rfl u1 (hb1 0 (by omega)) (yk_s (z := -1) (u := c2 0) hc (by omega) (by omega) (Or.inr (Or.inl rfl)) rfl u2 (hb2 0 (by omega)) (yk_x hc (by omega) (by omega) ?_))⟩
    have e1 : 0 + 1 * b_value (c1 0) + (-1) * b_value (c2 0) = ab_sm (fun t => ab_tv 1 (b_value (c1 t)) (b_value (c2 t))) 1 := by
      show _ = 0 + (b_value (c1 0) - b_value (c2 0))
      grind
    have e2 : 0 + 1 * b_slopeOf (c1 0) + (-1) * b_slopeOf (c2 0) = ab_sm (fun t => ab_lv 1 (b_value (c1 t)) (b_value (c2 t)) (b_slopeOf (c1 t)) (b_slopeOf (c2 t))) 1 := by
      show _ = 0 + (b_slopeOf (c1 0) - b_slopeOf (c2 0))
      grind
    rw [e1, e2]; exact h
  · obtain ⟨p0, p1⟩ := h2 (by omega)
    rw [p0]
    refine ⟨tt + 1, ?_⟩
    have L : ∀ j t : Nat, t + j = tt → wY_workOut_71 post J2 x1 (nI k) (nI c) (nI yy) (nI (2 * tt)) c_cells c_slopeCount b_used b_rank b_dims b_shown b_tensorOf b_view b_exists b_kind b_first b_second b_owner b_parts b_partCount b_value b_slopeOf b_order b_slopes (j + 1) (ab_sm (fun t => ab_tv 2 (b_value (c1 t)) (b_value (c2 t))) t) (ab_sm (fun t => ab_lv 2 (b_value (c1 t)) (b_value (c2 t)) (b_slopeOf (c1 t)) (b_slopeOf (c2 t))) t) (nI (2 * t)) := by
      intro j
      induction j with
      | zero =>
        intro t ht
        have : t = tt := by omega
        subst this
        exact yk_x hc (by omega) rfl h
      | succ j ih =>
        intro t ht
        obtain ⟨u1, u2⟩ := p1 t (by omega)
        exact yk_p (q := 2 * t) hc (by omega) (by omega) hy u1 u2 (hb1 t (by omega)) (hb2 t (by omega)) (ih (t + 1) (by omega))
    exact L tt 0 (by omega)
  · obtain ⟨p0, p1⟩ := h3 rfl
    rw [p0]
    refine ⟨tt + 1, ?_⟩
    have L : ∀ j t : Nat, t + j = tt → wY_workOut_71 post J2 x1 (nI k) (nI c) (nI yy) (nI tt) c_cells c_slopeCount b_used b_rank b_dims b_shown b_tensorOf b_view b_exists b_kind b_first b_second b_owner b_parts b_partCount b_value b_slopeOf b_order b_slopes (j + 1) (ab_sm (fun t => ab_tv 3 (b_value (c1 t)) (b_value (c2 t))) t) (ab_sm (fun t => ab_lv 3 (b_value (c1 t)) (b_value (c2 t)) (b_slopeOf (c1 t)) (b_slopeOf (c2 t))) t) (nI t) := by
      intro j
      induction j with
      | zero =>
        intro t ht
        have : t = tt := by omega
        subst this
        exact yk_x hc (by omega) rfl h
      | succ j ih =>
        intro t ht
        have := ih (t + 1) (by omega)
        refine yk_s (z := 1) (u := c1 t) hc (by omega) (by omega) (by omega) (by rw [if_neg (by omega)]) (p1 t (by omega)) (hb1 t (by omega)) ?_
        rw [Int32.one_mul, Int32.one_mul]
        exact this
    exact L tt 0 (by omega)
end
