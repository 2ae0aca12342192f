def yb_row (R D : Nat → Int32) (h rk : Nat) (d : Nat → Nat) : Prop := R h = nI rk ∧ rk ≤ 3 ∧ (∀ a, a < rk → D (3 * h + a) = nI (d a)) ∧ (∀ a, rk ≤ a → a < 3 → d a = 1) ∧ (∀ a, a < 3 → 1 ≤ d a ∧ d a ≤ 4)
def yb_bt (x : Int32) : Int32 := vp_nar .byte x.toInt8.toInt32
theorem yb_btn {n : Nat} (h : n < 128) : yb_bt (nI n) = nI n := ab_vb2 h
theorem ab_iy {w a : Nat} : 3 * nI w + nI a = nI (3 * w + a) := by
  show nI 3 * nI w + nI a = _
  rw [pk_mul, nI_add]
theorem ab_i64 {w a : Nat} : 64 * nI w + nI a = nI (64 * w + a) := by
  show nI 64 * nI w + nI a = _
  rw [pk_mul, nI_add]
section
variable {c_cells c_slopeCount : Int32} {b_used b_rank b_dims b_shown b_tensorOf b_view b_exists b_kind b_first b_second b_owner b_parts b_partCount b_value b_slopeOf b_order b_slopes : Nat → Int32}
theorem yb_isHandle_t {post : Int32 → Prop} {h : Nat} (hh : h < 24) (ht : ¬ b_used h = 0) (hp : post 1) : wpY_isHandle post (c_cells, c_slopeCount, b_used, b_rank, b_dims, b_shown, b_tensorOf, b_view, b_exists, b_kind, b_first, b_second, b_owner, b_parts, b_partCount, b_value, b_slopeOf, b_order, b_slopes) (nI h) := by
  refine br_f (nI_pos (by omega)) (br_f (nI_ge (b := 24) hh (by decide)) ⟨vp_in_nI (by omega) (by decide), br_f ?_ hp⟩)
  rw [nI_clamp (by omega)]; exact ht
theorem yb_isHandle_f {post : Int32 → Prop} {x : Int32} (hx : ¬ ab_isH b_used x) (hp : post 0) : wpY_isHandle post (c_cells, c_slopeCount, b_used, b_rank, b_dims, b_shown, b_tensorOf, b_view, b_exists, b_kind, b_first, b_second, b_owner, b_parts, b_partCount, b_value, b_slopeOf, b_order, b_slopes) x := by
  refine br_c (fun _ => hp) (fun h0 => br_c (fun _ => hp) (fun h1 => ?_))
  obtain ⟨j, hj, rfl⟩ := nI_of h0
  have h2 : j < 24 := by
    apply Nat.lt_of_not_le; intro hc; exact h1 (nI_le (a := 24) hc hj)
  refine ⟨vp_in_nI (by omega) (by decide), br_c (fun _ => hp) (fun h3 => ?_)⟩
  rw [nI_clamp hj] at h3
  exact absurd ⟨j, h2, rfl, h3⟩ hx
theorem yb_freeHandle_s {post : Int32 → Prop} {h : Nat} (hh : h < 24) (h0 : b_used h = 0) (hl : ∀ j, j < h → ¬ b_used j = 0) (hp : post (nI h)) : wpY_freeHandle post (c_cells, c_slopeCount, b_used, b_rank, b_dims, b_shown, b_tensorOf, b_view, b_exists, b_kind, b_first, b_second, b_owner, b_parts, b_partCount, b_value, b_slopeOf, b_order, b_slopes) := by
  have H : ∀ d j : Nat, j + d = h → wY_freeHandle_2 post c_cells c_slopeCount b_used b_rank b_dims b_shown b_tensorOf b_view b_exists b_kind b_first b_second b_owner b_parts b_partCount b_value b_slopeOf b_order b_slopes (d + 1) (nI j) := by
    intro d
    induction d with
    | zero =>
      intro j hj
      refine br_f (nI_ge (b := 24) (by omega) (by decide)) ⟨vp_in_nI (by omega) (by decide), br_t ?_ ?_⟩
      · rw [nI_clamp (by omega), show j = h by omega]; exact h0
      · rw [show j = h by omega]; exact hp
    | succ d ih =>
      intro j hj
      refine br_f (nI_ge (b := 24) (by omega) (by decide)) ⟨vp_in_nI (by omega) (by decide), br_f ?_ (nm_r (nI_1 j) (ih (j + 1) (by omega)))⟩
      rw [nI_clamp (by omega)]; exact hl j (by omega)
  exact ⟨h + 1, H h 0 (by omega)⟩
theorem yb_freeHandle_n {post : Int32 → Prop} (hl : ∀ j, j < 24 → ¬ b_used j = 0) (hp : post 24) : wpY_freeHandle post (c_cells, c_slopeCount, b_used, b_rank, b_dims, b_shown, b_tensorOf, b_view, b_exists, b_kind, b_first, b_second, b_owner, b_parts, b_partCount, b_value, b_slopeOf, b_order, b_slopes) := by
  have H : ∀ d j : Nat, j + d = 24 → wY_freeHandle_2 post c_cells c_slopeCount b_used b_rank b_dims b_shown b_tensorOf b_view b_exists b_kind b_first b_second b_owner b_parts b_partCount b_value b_slopeOf b_order b_slopes (d + 1) (nI j) := by
    intro d
    induction d with
    | zero =>
      intro j hj
      refine br_t (nI_le (a := 24) (by omega) (by omega)) ?_
      rw [show j = 24 by omega]; exact hp
    | succ d ih =>
      intro j hj
      refine br_f (nI_ge (b := 24) (by omega) (by decide)) ⟨vp_in_nI (by omega) (by decide), br_f ?_ (nm_r (nI_1 j) (ih (j + 1) (by omega)))⟩
      rw [nI_clamp (by omega)]; exact hl j (by omega)
  exact ⟨25, H 24 0 (by omega)⟩
theorem yb_dim {post : Int32 → Prop} {h a : Nat} (hh : h < 25) (ha : a < 3) (hp : post (b_dims (3 * h + a))) : wpY_dim post (c_cells, c_slopeCount, b_used, b_rank, b_dims, b_shown, b_tensorOf, b_view, b_exists, b_kind, b_first, b_second, b_owner, b_parts, b_partCount, b_value, b_slopeOf, b_order, b_slopes) (nI h) (nI a) := by
  refine ⟨ab_vin ab_iy (by omega) (by decide), ?_⟩
  rw [ab_iy, nI_clamp (by omega)]; exact hp
theorem yb_size_s {post : Int32 → Prop} {n h a rk q dv : Nat} (hh : h < 25) (hr : b_rank h = nI rk) (hk : rk ≤ 3) (ha : a < rk) (hd : b_dims (3 * h + a) = nI dv) (hn : wY_size_4 post (nI h) c_cells c_slopeCount b_used b_rank b_dims b_shown b_tensorOf b_view b_exists b_kind b_first b_second b_owner b_parts b_partCount b_value b_slopeOf b_order b_slopes n (nI (q * dv)) (nI (a + 1))) : wY_size_4 post (nI h) c_cells c_slopeCount b_used b_rank b_dims b_shown b_tensorOf b_view b_exists b_kind b_first b_second b_owner b_parts b_partCount b_value b_slopeOf b_order b_slopes (n + 1) (nI q) (nI a) := by
  refine ⟨vp_in_nI hh (by decide), br_f ?_ (yb_dim hh (by omega) (nm_r ?_ (nm_r (nI_1 a) hn)))⟩
  · rw [nI_clamp (by omega), hr]; exact nI_ge ha (by omega)
  · rw [hd, pk_mul]
theorem yb_size_x {post : Int32 → Prop} {n h a rk q : Nat} (hh : h < 25) (hr : b_rank h = nI rk) (hk : rk ≤ 3) (ha : a = rk) (hp : post (nI q)) : wY_size_4 post (nI h) c_cells c_slopeCount b_used b_rank b_dims b_shown b_tensorOf b_view b_exists b_kind b_first b_second b_owner b_parts b_partCount b_value b_slopeOf b_order b_slopes (n + 1) (nI q) (nI a) := by
  refine ⟨vp_in_nI hh (by decide), br_t ?_ hp⟩
  rw [nI_clamp (by omega), hr]; exact nI_le (by omega) (by omega)
theorem yb_size {post : Int32 → Prop} {h rk : Nat} {d : Nat → Nat} (hh : h < 25) (H : yb_row b_rank b_dims h rk d) (hp : post (nI (d 0 * d 1 * d 2))) : wpY_size post (c_cells, c_slopeCount, b_used, b_rank, b_dims, b_shown, b_tensorOf, b_view, b_exists, b_kind, b_first, b_second, b_owner, b_parts, b_partCount, b_value, b_slopeOf, b_order, b_slopes) (nI h) := by
  obtain ⟨hr, hk, hd, h1, _⟩ := H
  refine ⟨rk + 1, ?_⟩
  rcases (show rk = 0 ∨ rk = 1 ∨ rk = 2 ∨ rk = 3 by omega) with rfl | rfl | rfl | rfl
  · rw [h1 0 (by omega) (by omega), h1 1 (by omega) (by omega), h1 2 (by omega) (by omega)] at hp
    exact yb_size_x (a := 0) (q := 1) hh hr hk rfl hp
  · rw [h1 1 (by omega) (by omega), h1 2 (by omega) (by omega), Nat.mul_one, Nat.mul_one] at hp
    exact yb_size_s (a := 0) (q := 1) hh hr hk (by omega) (hd 0 (by omega)) (yb_size_x hh hr hk rfl (by rw [Nat.one_mul]; exact hp))
  · rw [h1 2 (by omega) (by omega), Nat.mul_one] at hp
    exact yb_size_s (a := 0) (q := 1) hh hr hk (by omega) (hd 0 (by omega)) (yb_size_s hh hr hk (by omega) (hd 1 (by omega)) (yb_size_x hh hr hk rfl (by rw [Nat.one_mul]; exact hp)))
  · exact yb_size_s (a := 0) (q := 1) hh hr hk (by omega) (hd 0 (by omega)) (yb_size_s hh hr hk (by omega) (hd 1 (by omega)) (yb_size_s hh hr hk (by omega) (hd 2 (by omega)) (yb_size_x hh hr hk rfl (by rw [Nat.one_mul]; exact hp))))
theorem yb_index_57 {post : Int32 → Prop} {e q dv : Nat} (he : e < 2 ^ 31) (hq : 1 ≤ q) (hq2 : q < 2 ^ 31) (h1 : 1 ≤ dv) (h2 : dv < 2 ^ 31) (hp : post (nI (e / q % dv))) : wY_index_57 post (nI e) (nI q) (nI dv) c_cells c_slopeCount b_used b_rank b_dims b_shown b_tensorOf b_view b_exists b_kind b_first b_second b_owner b_parts b_partCount b_value b_slopeOf b_order b_slopes := by
  refine br_f (nI_nlt (b := 1) hq hq2) (br_t (nI_le (a := 1) h1 h2) ⟨nI_ne0 hq hq2, nI_ne0 h1 h2, ?_⟩)
  rw [pk_div he hq hq2, pk_rem (Nat.lt_of_le_of_lt (Nat.div_le_self _ _) he) h1 h2]
  exact hp
theorem yb_index_s {post : Int32 → Prop} {n h j rk q dv : Nat} {x2 x3 : Int32} (hh : h < 25) (hr : b_rank h = nI rk) (hk : rk ≤ 3) (ha : j < rk) (hd : b_dims (3 * h + j) = nI dv) (hn : wY_index_8 post (nI h) x2 x3 c_cells c_slopeCount b_used b_rank b_dims b_shown b_tensorOf b_view b_exists b_kind b_first b_second b_owner b_parts b_partCount b_value b_slopeOf b_order b_slopes n (nI (q * dv)) (nI (j + 1))) : wY_index_8 post (nI h) x2 x3 c_cells c_slopeCount b_used b_rank b_dims b_shown b_tensorOf b_view b_exists b_kind b_first b_second b_owner b_parts b_partCount b_value b_slopeOf b_order b_slopes (n + 1) (nI q) (nI j) := by
  refine ⟨vp_in_nI hh (by decide), br_f ?_ (yb_dim hh (by omega) (nm_r ?_ (nm_r (nI_1 j) hn)))⟩
  · rw [nI_clamp (by omega), hr]; exact nI_ge ha (by omega)
  · rw [hd, pk_mul]
theorem yb_index_x {post : Int32 → Prop} {n h j a e rk q : Nat} {d : Nat → Nat} (hh : h < 25) (hr : b_rank h = nI rk) (hk : rk ≤ 3) (hd : ∀ a, a < rk → b_dims (3 * h + a) = nI (d a)) (h1 : ∀ a, rk ≤ a → a < 3 → d a = 1) (hb : ∀ a, a < 3 → 1 ≤ d a ∧ d a ≤ 4) (ha : a < 3) (hj : rk ≤ j) (hj2 : j ≤ 4) (he : e < 2 ^ 31) (hq : 1 ≤ q) (hq2 : q < 2 ^ 31) (hp : post (nI (e / q % d a))) : wY_index_8 post (nI h) (nI e) (nI a) c_cells c_slopeCount b_used b_rank b_dims b_shown b_tensorOf b_view b_exists b_kind b_first b_second b_owner b_parts b_partCount b_value b_slopeOf b_order b_slopes (n + 1) (nI q) (nI j) := by
  have hc : (nI h).toNatClampNeg = h := nI_clamp (by omega)
  have hv : vp_in (nI h) 25 := vp_in_nI hh (by decide)
  have hb' := hb a ha
  refine ⟨hv, br_t ?_ ⟨hv, ?_⟩⟩
  · rw [hc, hr]; exact nI_le hj (by omega)
  · by_cases z : rk ≤ a
    · refine br_t ?_ ?_
      · rw [hc, hr]; exact nI_le z (by omega)
      · rw [h1 a z ha] at hp
        exact yb_index_57 (dv := 1) he hq hq2 (by omega) (by omega) hp
    · refine br_f ?_ (yb_dim hh ha ?_)
      · rw [hc, hr]; exact nI_ge (by omega) (by omega)
      · rw [hd a (by omega)]
        exact yb_index_57 he hq hq2 hb'.1 (by omega) hp
theorem yb_index0 {post : Int32 → Prop} {h rk e : Nat} {d : Nat → Nat} (hh : h < 25) (H : yb_row b_rank b_dims h rk d) (he : e < 2 ^ 31) (hp : post (nI (e / (d 1 * d 2) % d 0))) : wpY_index post (c_cells, c_slopeCount, b_used, b_rank, b_dims, b_shown, b_tensorOf, b_view, b_exists, b_kind, b_first, b_second, b_owner, b_parts, b_partCount, b_value, b_slopeOf, b_order, b_slopes) (nI h) (nI e) 0 := by
  obtain ⟨hr, hk, hd, h1, hb⟩ := H
  refine nm_r (nI_1 0) ⟨4, ?_⟩
  have b1 := hb 1 (by omega)
  have b2 := hb 2 (by omega)
  have hm : d 1 * d 2 ≤ 4 * 4 := Nat.mul_le_mul b1.2 b2.2
  have hm1 : 1 ≤ d 1 * d 2 := Nat.mul_pos b1.1 b2.1
  rcases (show rk ≤ 1 ∨ rk = 2 ∨ rk = 3 by omega) with z | rfl | rfl
  · rw [h1 1 (by omega) (by omega), h1 2 (by omega) (by omega)] at hp
    exact yb_index_x (a := 0) (q := 1) (d := d) hh hr hk hd h1 hb (by omega) z (by omega) he (by omega) (by omega) hp
  · rw [h1 2 (by omega) (by omega), Nat.mul_one] at hp
    exact yb_index_s (j := 1) (q := 1) hh hr hk (by omega) (hd 1 (by omega)) (yb_index_x (a := 0) (d := d) hh hr hk hd h1 hb (by omega) (by omega) (by omega) he (by omega) (by omega) (by rw [Nat.one_mul]; exact hp))
  · exact yb_index_s (j := 1) (q := 1) hh hr hk (by omega) (hd 1 (by omega)) (yb_index_s hh hr hk (by omega) (hd 2 (by omega)) (yb_index_x (a := 0) (d := d) hh hr hk hd h1 hb (by omega) (by omega) (by omega) he (by rw [Nat.one_mul]; exact hm1) (by rw [Nat.one_mul]; omega) (by rw [Nat.one_mul]; exact hp)))
theorem yb_index1 {post : Int32 → Prop} {h rk e : Nat} {d : Nat → Nat} (hh : h < 25) (H : yb_row b_rank b_dims h rk d) (he : e < 2 ^ 31) (hp : post (nI (e / d 2 % d 1))) : wpY_index post (c_cells, c_slopeCount, b_used, b_rank, b_dims, b_shown, b_tensorOf, b_view, b_exists, b_kind, b_first, b_second, b_owner, b_parts, b_partCount, b_value, b_slopeOf, b_order, b_slopes) (nI h) (nI e) 1 := by
  obtain ⟨hr, hk, hd, h1, hb⟩ := H
  refine nm_r (nI_1 1) ⟨4, ?_⟩
  have b2 := hb 2 (by omega)
  rcases (show rk ≤ 2 ∨ rk = 3 by omega) with z | rfl
  · rw [h1 2 (by omega) (by omega)] at hp
    exact yb_index_x (a := 1) (q := 1) (d := d) hh hr hk hd h1 hb (by omega) z (by omega) he (by omega) (by omega) hp
  · exact yb_index_s (j := 2) (q := 1) hh hr hk (by omega) (hd 2 (by omega)) (yb_index_x (a := 1) (d := d) hh hr hk hd h1 hb (by omega) (by omega) (by omega) he (by omega) (by omega) (by rw [Nat.one_mul]; exact hp))
theorem yb_index2 {post : Int32 → Prop} {h rk e : Nat} {d : Nat → Nat} (hh : h < 25) (H : yb_row b_rank b_dims h rk d) (he : e < 2 ^ 31) (hp : post (nI (e % d 2))) : wpY_index post (c_cells, c_slopeCount, b_used, b_rank, b_dims, b_shown, b_tensorOf, b_view, b_exists, b_kind, b_first, b_second, b_owner, b_parts, b_partCount, b_value, b_slopeOf, b_order, b_slopes) (nI h) (nI e) 2 := by
  obtain ⟨hr, hk, hd, h1, hb⟩ := H
  refine nm_r (nI_1 2) ⟨4, ?_⟩
  exact yb_index_x (a := 2) (q := 1) (d := d) hh hr hk hd h1 hb (by omega) hk (by omega) he (by omega) (by omega) (by rw [Nat.div_one]; exact hp)
theorem yb_cellAt {post : Int32 → Prop} {h rk i j k : Nat} {d : Nat → Nat} (hh : h < 25) (H : yb_row b_rank b_dims h rk d) (hi : i < d 0) (hj : j < d 1) (hk : k < d 2) (hp : post (b_shown (64 * h + ((i * d 1 + j) * d 2 + k)))) : wpY_cellAt post (c_cells, c_slopeCount, b_used, b_rank, b_dims, b_shown, b_tensorOf, b_view, b_exists, b_kind, b_first, b_second, b_owner, b_parts, b_partCount, b_value, b_slopeOf, b_order, b_slopes) (nI h) (nI i) (nI j) (nI k) := by
  obtain ⟨hr, hrk, hd, h1, hb⟩ := H
  have hc : (nI h).toNatClampNeg = h := nI_clamp (by omega)
  have hv : vp_in (nI h) 25 := vp_in_nI hh (by decide)
  have hl := ab_lin hi hj hk
  have hs := ab_sz (hb 0 (by omega)).2 (hb 1 (by omega)).2 (hb 2 (by omega)).2
  have H63 : ∀ e : Nat, e = (i * d 1 + j) * d 2 + k → wY_cellAt_63 post (nI h) (nI e) c_cells c_slopeCount b_used b_rank b_dims b_shown b_tensorOf b_view b_exists b_kind b_first b_second b_owner b_parts b_partCount b_value b_slopeOf b_order b_slopes := by
    intro e he
    refine ⟨ab_vin ab_i64 (by omega) (by decide), ?_⟩
    rw [ab_i64, nI_clamp (by omega), he]; exact hp
  have H39 : ∀ e : Nat, e = i * d 1 + j → wY_cellAt_39 post (nI h) (nI k) (nI e) c_cells c_slopeCount b_used b_rank b_dims b_shown b_tensorOf b_view b_exists b_kind b_first b_second b_owner b_parts b_partCount b_value b_slopeOf b_order b_slopes := by
    intro e he
    by_cases z : rk ≤ 2
    · refine ⟨hv, br_t (by rw [hc, hr]; exact nI_le (b := 2) z (by decide)) (H63 e ?_)⟩
      have := h1 2 z (by omega)
      rw [this] at hk ⊢
      omega
    · refine ⟨hv, br_f (by rw [hc, hr]; exact nI_ge (a := 2) (by omega) (by omega)) (yb_dim hh (a := 2) (by omega) (nm_r ?_ (H63 (e * d 2 + k) (by rw [he]))))⟩
      rw [hd 2 (by omega), pk_mul, nI_add]
  have H14 : ∀ e : Nat, e = i → wY_cellAt_14 post (nI h) (nI j) (nI k) (nI e) c_cells c_slopeCount b_used b_rank b_dims b_shown b_tensorOf b_view b_exists b_kind b_first b_second b_owner b_parts b_partCount b_value b_slopeOf b_order b_slopes := by
    intro e he
    by_cases z : rk ≤ 1
    · refine ⟨hv, br_t (by rw [hc, hr]; exact nI_le (b := 1) z (by decide)) (H39 e ?_)⟩
      have := h1 1 z (by omega)
      rw [this] at hj ⊢
      omega
    · refine ⟨hv, br_f (by rw [hc, hr]; exact nI_ge (a := 1) (by omega) (by omega)) (yb_dim hh (a := 1) (by omega) (nm_r ?_ (H39 (e * d 1 + j) (by rw [he]))))⟩
      rw [hd 1 (by omega), pk_mul, nI_add]
  by_cases z : rk ≤ 0
  · refine ⟨hv, br_t (by rw [hc, hr]; exact nI_le (b := 0) z (by decide)) (H14 0 ?_)⟩
    have := h1 0 z (by omega)
    omega
  · exact ⟨hv, br_f (by rw [hc, hr]; exact nI_ge (a := 0) (by omega) (by omega)) (H14 i rfl)⟩
theorem yb_shapeNew {post : SY → Prop} {r : Nat} {x0 x1 x2 : Int32} (hr : r < 128) (h : post (c_cells, c_slopeCount, b_used, upd b_rank 24 (nI r), ab_up3 b_dims 72 (yb_bt x0) (yb_bt x1) (yb_bt x2), b_shown, b_tensorOf, b_view, b_exists, b_kind, b_first, b_second, b_owner, b_parts, b_partCount, b_value, b_slopeOf, b_order, b_slopes)) : wpY_shapeNew post (c_cells, c_slopeCount, b_used, b_rank, b_dims, b_shown, b_tensorOf, b_view, b_exists, b_kind, b_first, b_second, b_owner, b_parts, b_partCount, b_value, b_slopeOf, b_order, b_slopes) (nI r) x0 x1 x2 := by
  refine fun R hR D hD E hE F hF => ?_
  rw [ab_vb2 hr] at hR
  subst hR hD hE hF
  rw [show upd (upd (upd b_dims 72 (vp_nar .byte x0.toInt8.toInt32)) 73 (vp_nar .byte x1.toInt8.toInt32)) 74 (vp_nar .byte x2.toInt8.toInt32) = ab_up3 b_dims 72 (yb_bt x0) (yb_bt x1) (yb_bt x2) from ab_u3s]
  exact h
theorem yb_part {post : SY → Prop} {e c q x : Nat} (he : e < 64) (hs : b_shown (1536 + e) = nI c) (hc : c < 320) (hq : b_partCount c = nI q) (hq8 : q < 8) (hx : x < 320) (h : post (c_cells, c_slopeCount, b_used, b_rank, b_dims, b_shown, b_tensorOf, b_view, b_exists, b_kind, b_first, b_second, b_owner, upd b_parts (8 * c + q) (nI x), upd b_partCount c (nI (q + 1)), b_value, b_slopeOf, b_order, b_slopes)) : wpY_part post (c_cells, c_slopeCount, b_used, b_rank, b_dims, b_shown, b_tensorOf, b_view, b_exists, b_kind, b_first, b_second, b_owner, b_parts, b_partCount, b_value, b_slopeOf, b_order, b_slopes) (nI e) (nI x) := by
  have e1 : (1536 : Int32) + nI e = nI (1536 + e) := nI_add 1536 e
  have cc : (nI c).toNatClampNeg = c := nI_clamp (by omega)
  have e2 : 8 * nI c + nI q = nI (8 * c + q) := by
    show nI 8 * nI c + nI q = _
    rw [pk_mul, nI_add]
  have hv : vp_in (nI c) 320 := vp_in_nI hc (by decide)
  refine ⟨ab_vin e1 (by omega) (by decide), nm_r (e' := nI c) (by rw [e1, nI_clamp (by omega), hs]) ⟨hv, ?_⟩⟩
  rw [cc, hq, e2, nI_clamp (by omega)]
  refine ⟨vp_in_nI (by omega) (by decide), fun P hP => ⟨hv, hv, fun C hC => ?_⟩⟩
  rw [ab_vs2 (by omega)] at hP
  rw [nI_1, ab_vb2 (by omega)] at hC
  subst hP hC
  exact h
end
