def rl_n (d : Nat → Nat → Nat) (w : Nat) : Nat := d w 0 * d w 1 * d w 2
def rl_p (d : Nat → Nat → Nat) (G : Nat → Nat → Nat → Nat → Nat) (w e : Nat) : Nat := ab_pf (d w 0) (d w 1) (d w 2) (G w) e
def rl_win (sl : Nat → Nat) (d : Nat → Nat → Nat) (G : Nat → Nat → Nat → Nat → Nat) (ages : List Nat) (sz : Nat → Nat) (S St D E : Nat → Int32) (w : Nat) : Prop :=
  S w = nI (sl w) ∧ sl w ∈ ages ∧ (∀ a, a < 3 → D (3 * w + a) = nI (d w a) ∧ 1 ≤ d w a ∧ d w a ≤ 4) ∧ (∀ x y z, x < d w 0 → y < d w 1 → z < d w 2 → St w + nI x * E (3 * w) + nI y * E (3 * w + 1) + nI z * E (3 * w + 2) = nI (G w x y z) ∧ G w x y z / 64 = sl w ∧ G w x y z % 64 < sz (sl w))
def rl_or (kd sl : Nat → Nat) : List Nat → List Nat → Prop
  | _, [] => True
  | pre, s :: l => (kd s ≠ 4 → sl (24 + 2 * s) ∈ pre ∧ sl (25 + 2 * s) ∈ pre) ∧ rl_or kd sl (s :: pre) l
def rl_slot (sl : Nat → Nat) (d : Nat → Nat → Nat) (G : Nat → Nat → Nat → Nat → Nat) (ages : List Nat) (sz kd tm : Nat → Nat) (S St D E Sz Kd Tm : Nat → Int32) (s : Nat) : Prop :=
  Sz s = nI (sz s) ∧ 1 ≤ sz s ∧ sz s ≤ 64 ∧ Kd s = nI (kd s) ∧ kd s ≤ 4 ∧ (kd s ≠ 4 → Tm s = nI (tm s) ∧ 1 ≤ tm s ∧ tm s ≤ 4 ∧ rl_n d (24 + 2 * s) = sz s * tm s ∧ rl_n d (25 + 2 * s) = sz s * tm s ∧ rl_win sl d G ages sz S St D E (24 + 2 * s) ∧ rl_win sl d G ages sz S St D E (25 + 2 * s))
def rl_hand (rk sl : Nat → Nat) (d : Nat → Nat → Nat) (G : Nat → Nat → Nat → Nat → Nat) (ages : List Nat) (sz : Nat → Nat) (V R S St D E : Nat → Int32) (h : Nat) : Prop :=
  R h = nI (rk h) ∧ ab_sh3 (rk h) (d h) ∧ rl_win sl d G ages sz S St D E h ∧ (V h = 0 → St h = nI (64 * sl h) ∧ ∀ e, e < rl_n d h → rl_p d G h e = 64 * sl h + e)
def rl_X (rk sl : Nat → Nat) (d : Nat → Nat → Nat) (G : Nat → Nat → Nat → Nat → Nat) (ages : List Nat) (sz kd tm : Nat → Nat) (f_slotsTaken f_elementsTaken : Int32) (T V R S St D E Sz Kd Tm Ag : Nat → Int32) : Prop :=
  (f_slotsTaken = nI ages.length ∧ ∀ i s, ages[i]? = some s → Ag i = nI s) ∧
  (f_elementsTaken = nI (ab_fl sz ages).length ∧ (ab_fl sz ages).length ≤ 320) ∧
  (ages.Nodup ∧ (∀ s, s ∈ ages → s < 32) ∧ (∀ s, s < 32 → s ∉ ages → Sz s = 0) ∧ rl_or kd sl [] ages) ∧
  (∀ s, s ∈ ages → rl_slot sl d G ages sz kd tm S St D E Sz Kd Tm s) ∧
  (∀ h, h < 24 → ¬ T h = 0 → rl_hand rk sl d G ages sz V R S St D E h)
def rl_kr (k y t : Nat) : Prop := (k = 4 ∧ y = 0) ∨ (k = 0 ∧ y = 1 ∧ t = 1) ∨ (k = 1 ∧ y = 2 ∧ t = 1) ∨ (k = 2 ∧ (y = 3 ∨ y = 5)) ∨ (k = 3 ∧ (y = 4 ∨ y = 6))
def rl_pt (d : Nat → Nat → Nat) (G : Nat → Nat → Nat → Nat → Nat) (kd tm cl : Nat → Nat) (P C : Nat → Int32) (s i : Nat) : Prop :=
  (kd s = 3 → C (cl (64 * s + i)) = nI (tm s) ∧ ∀ t, t < tm s → P (8 * cl (64 * s + i) + t) = nI (cl (rl_p d G (24 + 2 * s) (i * tm s + t)))) ∧ (kd s ≠ 3 → C (cl (64 * s + i)) = nI (2 * tm s) ∧ ∀ t, t < tm s → P (8 * cl (64 * s + i) + 2 * t) = nI (cl (rl_p d G (24 + 2 * s) (i * tm s + t))) ∧ P (8 * cl (64 * s + i) + (2 * t + 1)) = nI (cl (rl_p d G (25 + 2 * s) (i * tm s + t))))
def rl_ys (sl : Nat → Nat) (d : Nat → Nat → Nat) (G : Nat → Nat → Nat → Nat → Nat) (sz kd tm yk cl : Nat → Nat) (K F1 F2 P C : Nat → Int32) (s : Nat) : Prop :=
  K s = nI (yk s) ∧ rl_kr (kd s) (yk s) (tm s) ∧ (kd s = 4 → F1 s < 0 ∧ F2 s < 0) ∧ (kd s ≠ 4 → F1 s = nI (sl (24 + 2 * s)) ∧ (kd s = 3 → F2 s < 0 ∧ sl (25 + 2 * s) = sl (24 + 2 * s)) ∧ (kd s ≠ 3 → F2 s = nI (sl (25 + 2 * s))) ∧ ∀ i, i < sz s → rl_pt d G kd tm cl P C s i)
def rl_yh (rk sl : Nat → Nat) (d : Nat → Nat → Nat) (G : Nat → Nat → Nat → Nat → Nat) (cl : Nat → Nat) (R D S T : Nat → Int32) (h : Nat) : Prop :=
  R h = nI (rk h) ∧ (∀ a, a < rk h → D (3 * h + a) = nI (d h a)) ∧ T h = nI (sl h) ∧ ∀ e, e < rl_n d h → S (64 * h + e) = nI (cl (rl_p d G h e))
def rl_own (sz cl : Nat → Nat) (ages : List Nat) (O : Nat → Int32) : Prop :=
  (∀ p, p ∈ ab_fl sz ages → cl p < 320 ∧ O (cl p) = nI (p / 64)) ∧ (∀ p q, p ∈ ab_fl sz ages → q ∈ ab_fl sz ages → cl p = cl q → p = q) ∧ (∀ c, c < 320 → (∀ p, p ∈ ab_fl sz ages → cl p ≠ c) → O c < 0)
def rl_Y (rk sl : Nat → Nat) (d : Nat → Nat → Nat) (G : Nat → Nat → Nat → Nat → Nat) (ages : List Nat) (sz kd tm yk cl : Nat → Nat) (T V vals : Nat → Int32) (c_cells : Int32) (b_used b_rank b_dims b_shown b_tensorOf b_view b_exists b_kind b_first b_second b_owner b_parts b_partCount b_value b_order : Nat → Int32) : Prop :=
  (b_used = T ∧ b_view = V) ∧
  (c_cells = nI (ab_fl sz ages).length ∧ ∀ k p, (ab_fl sz ages)[k]? = some p → b_order k = nI (cl p)) ∧
  rl_own sz cl ages b_owner ∧
  (∀ t, t < 32 → (b_exists t = 0 ↔ t ∉ ages)) ∧
  (∀ h, h < 24 → ¬ T h = 0 → rl_yh rk sl d G cl b_rank b_dims b_shown b_tensorOf h) ∧
  (∀ s, s ∈ ages → rl_ys sl d G sz kd tm yk cl b_kind b_first b_second b_parts b_partCount s) ∧
  (∀ p, p ∈ ab_fl sz ages → kd (p / 64) = 4 → b_value (cl p) = vals p)
def rl_S (f_slopeCount : Int32) (a_slopes : Nat → Int32) (c_slopeCount : Int32) (b_slopes : Nat → Int32) : Prop := ∃ q, q ≤ 64 ∧ f_slopeCount = nI q ∧ c_slopeCount = nI q ∧ ∀ i, i < q → a_slopes i = b_slopes i
/-- the relation: ghost shapes, places, ages and cells that both states are pictures of -/
def i_Rel (k : Nat) (u : SX) (v : SY) : Prop := match u with
  | (f_slotsTaken, f_elementsTaken, f_slopeCount, a_handleTaken, a_handleIsView, a_windowRank, a_windowSlot, a_windowStart, a_windowDimension, a_windowStride, a_slotSize, a_slotKind, a_slotTerms, a_slotNeeded, a_slotsByAge, a_values, a_derivatives, a_firstPlaces, a_secondPlaces, a_assigned, a_slopes) => match v with
    | (c_cells, c_slopeCount, b_used, b_rank, b_dims, b_shown, b_tensorOf, b_view, b_exists, b_kind, b_first, b_second, b_owner, b_parts, b_partCount, b_value, b_slopeOf, b_order, b_slopes) => ∃ (rk sl : Nat → Nat) (d : Nat → Nat → Nat) (G : Nat → Nat → Nat → Nat → Nat) (ages : List Nat) (sz kd tm yk cl : Nat → Nat), rl_X rk sl d G ages sz kd tm f_slotsTaken f_elementsTaken a_handleTaken a_handleIsView a_windowRank a_windowSlot a_windowStart a_windowDimension a_windowStride a_slotSize a_slotKind a_slotTerms a_slotsByAge ∧ rl_Y rk sl d G ages sz kd tm yk cl a_handleTaken a_handleIsView a_values c_cells b_used b_rank b_dims b_shown b_tensorOf b_view b_exists b_kind b_first b_second b_owner b_parts b_partCount b_value b_order ∧ rl_S f_slopeCount a_slopes c_slopeCount b_slopes
theorem i_up {k : Nat} {u : SX} {v : SY} (h : i_Rel k u v) : i_Rel (k + 5) u v := h
section
variable {f_slotsTaken f_elementsTaken f_slopeCount : Int32} {a_handleTaken a_handleIsView a_windowRank a_windowSlot a_windowStart a_windowDimension a_windowStride a_slotSize a_slotKind a_slotTerms a_slotNeeded a_slotsByAge a_values a_derivatives a_firstPlaces a_secondPlaces a_assigned a_slopes : Nat → Int32}
variable {c_cells c_slopeCount : Int32} {b_used b_rank b_dims b_shown b_tensorOf b_view b_exists b_kind b_first b_second b_owner b_parts b_partCount b_value b_slopeOf b_order b_slopes : Nat → Int32}
theorem rl_mk (k : Nat) (rk sl : Nat → Nat) (d : Nat → Nat → Nat) (G : Nat → Nat → Nat → Nat → Nat) (ages : List Nat) (sz kd tm yk cl : Nat → Nat) (hX : rl_X rk sl d G ages sz kd tm f_slotsTaken f_elementsTaken a_handleTaken a_handleIsView a_windowRank a_windowSlot a_windowStart a_windowDimension a_windowStride a_slotSize a_slotKind a_slotTerms a_slotsByAge) (hY : rl_Y rk sl d G ages sz kd tm yk cl a_handleTaken a_handleIsView a_values c_cells b_used b_rank b_dims b_shown b_tensorOf b_view b_exists b_kind b_first b_second b_owner b_parts b_partCount b_value b_order) (hS : rl_S f_slopeCount a_slopes c_slopeCount b_slopes) : i_Rel k (f_slotsTaken, f_elementsTaken, f_slopeCount, a_handleTaken, a_handleIsView, a_windowRank, a_windowSlot, a_windowStart, a_windowDimension, a_windowStride, a_slotSize, a_slotKind, a_slotTerms, a_slotNeeded, a_slotsByAge, a_values, a_derivatives, a_firstPlaces, a_secondPlaces, a_assigned, a_slopes) (c_cells, c_slopeCount, b_used, b_rank, b_dims, b_shown, b_tensorOf, b_view, b_exists, b_kind, b_first, b_second, b_owner, b_parts, b_partCount, b_value, b_slopeOf, b_order, b_slopes) := ⟨rk, sl, d, G, ages, sz, kd, tm, yk, cl, hX, hY, hS⟩
theorem rl_scr {T V vals : Nat → Int32} {rk sl sz kd tm yk cl : Nat → Nat} {d : Nat → Nat → Nat} {G : Nat → Nat → Nat → Nat → Nat} {ages : List Nat} {R D S : Nat → Int32} (hR : ∀ h, h < 24 → R h = b_rank h) (hD : ∀ j, j < 72 → D j = b_dims j) (hS : ∀ j, j < 1536 → S j = b_shown j) (hk : ∀ h, h < 24 → ¬ T h = 0 → rk h ≤ 3) (hn : ∀ h, h < 24 → ¬ T h = 0 → rl_n d h ≤ 64) (H : rl_Y rk sl d G ages sz kd tm yk cl T V vals c_cells b_used b_rank b_dims b_shown b_tensorOf b_view b_exists b_kind b_first b_second b_owner b_parts b_partCount b_value b_order) : rl_Y rk sl d G ages sz kd tm yk cl T V vals c_cells b_used R D S b_tensorOf b_view b_exists b_kind b_first b_second b_owner b_parts b_partCount b_value b_order := by
  obtain ⟨y1, y2, y3, y4, y5, y6, y7⟩ := H
  refine ⟨y1, y2, y3, y4, fun h hh ht => ?_, y6, y7⟩
  obtain ⟨z1, z2, z3, z4⟩ := y5 h hh ht
  refine ⟨(hR h hh).trans z1, fun a ha => ?_, z3, fun e he => ?_⟩
  · rw [hD _ (by have := hk h hh ht; omega)]; exact z2 a ha
  · rw [hS _ (by have := hn h hh ht; omega)]; exact z4 e he
end
theorem i_vc0 : wpX_init (fun u => wpY_init (fun v => i_Rel 0 u v)) := by
  unfold wpX_init
  have L : ∀ d j : Nat, ∀ O : Nat → Int32, j + d = 320 → (∀ i, i < j → O i < 0) → wY_init_159 (fun v => i_Rel 0 (0, 0, 0, (fun _ => 0), (fun _ => 0), (fun _ => 0), (fun _ => 0), (fun _ => 0), (fun _ => 0), (fun _ => 0), (fun _ => 0), (fun _ => 0), (fun _ => 0), (fun _ => 0), (fun _ => 0), (fun _ => 0), (fun _ => 0), (fun _ => 0), (fun _ => 0), (fun _ => 0), (fun _ => 0)) v) 0 0 (d + 1) (nI j) (fun _ => 0) (fun _ => 0) (fun _ => 0) (fun _ => 0) (fun _ => 0) (fun _ => 0) (fun _ => 0) (fun _ => 0) (fun _ => 0) (fun _ => 0) O (fun _ => 0) (fun _ => 0) (fun _ => 0) (fun _ => 0) (fun _ => 0) (fun _ => 0) := by
    intro d
    induction d with
    | zero =>
      intro j O hj hO
      refine br_t (nI_le (a := 320) (by omega) (by omega)) (rl_mk 0 (fun _ => 0) (fun _ => 0) (fun _ _ => 0) (fun _ _ _ _ => 0) [] (fun _ => 0) (fun _ => 0) (fun _ => 0) (fun _ => 0) (fun _ => 0) ?_ ?_ ?_)
      · refine ⟨⟨rfl, fun i s h => ?_⟩, ⟨rfl, Nat.zero_le _⟩, ⟨List.nodup_nil, fun s h => ?_, fun _ _ _ => rfl, trivial⟩, fun s h => ?_, fun h _ hh => absurd rfl hh⟩
        · exact absurd h (by simp)
        · exact absurd h (by simp)
        · exact absurd h (by simp)
      · refine ⟨⟨rfl, rfl⟩, ⟨rfl, fun k p h => ?_⟩, ⟨fun p h => ?_, fun p q h => ?_, fun c hc _ => hO c (by omega)⟩, fun t _ => ⟨fun _ => by simp, fun _ => rfl⟩, fun h _ hh => absurd rfl hh, fun s h => ?_, fun p h => ?_⟩ <;> exact absurd h (by simp [ab_fl])
      · exact ⟨0, by omega, rfl, rfl, fun i h => absurd h (by omega)⟩
    | succ d ih =>
      intro j O hj hO
      refine br_f (nI_ge (b := 320) (by omega) (by decide)) ⟨vp_in_nI (by omega) (by decide), fun O' hO' => nm_r (nI_1 j) (ih (j + 1) O' (by omega) ?_)⟩
      rw [nI_clamp (by omega), ab_vbm] at hO'
      intro i hi
      rw [hO']
      by_cases z : i = j
      · rw [z, pk_us]; decide
      · rw [pk_un z]; exact hO i (by omega)
  exact ⟨321, L 320 0 (fun _ => 0) (by omega) (fun i hi => absurd hi (by omega))⟩
theorem i_vc_live {k : Nat} {u : SX} {v : SY} (I : i_Rel k u v) (hk : k + 5 ≤ 2560) : wpX_live (fun r => wpY_live (fun r' => r' = r ∧ i_Rel (k + 5) u v) v) u := by
  obtain ⟨f_slotsTaken, f_elementsTaken, f_slopeCount, a_handleTaken, a_handleIsView, a_windowRank, a_windowSlot, a_windowStart, a_windowDimension, a_windowStride, a_slotSize, a_slotKind, a_slotTerms, a_slotNeeded, a_slotsByAge, a_values, a_derivatives, a_firstPlaces, a_secondPlaces, a_assigned, a_slopes⟩ := u
  obtain ⟨c_cells, c_slopeCount, b_used, b_rank, b_dims, b_shown, b_tensorOf, b_view, b_exists, b_kind, b_first, b_second, b_owner, b_parts, b_partCount, b_value, b_slopeOf, b_order, b_slopes⟩ := v
  have I' := I
  obtain ⟨rk, sl, d, G, ages, sz, kd, tm, yk, cl, hX, hY, hS⟩ := I'
  exact ⟨hY.2.1.1.trans hX.2.1.1.symm, I⟩
theorem i_vc_slope {k : Nat} {u : SX} {v : SY} (I : i_Rel k u v) (hk : k + 5 ≤ 2560) (v1 : Int32) : wpX_slope (fun r => wpY_slope (fun r' => r' = r ∧ i_Rel (k + 5) u v) v v1) u v1 := by
  obtain ⟨f_slotsTaken, f_elementsTaken, f_slopeCount, a_handleTaken, a_handleIsView, a_windowRank, a_windowSlot, a_windowStart, a_windowDimension, a_windowStride, a_slotSize, a_slotKind, a_slotTerms, a_slotNeeded, a_slotsByAge, a_values, a_derivatives, a_firstPlaces, a_secondPlaces, a_assigned, a_slopes⟩ := u
  obtain ⟨c_cells, c_slopeCount, b_used, b_rank, b_dims, b_shown, b_tensorOf, b_view, b_exists, b_kind, b_first, b_second, b_owner, b_parts, b_partCount, b_value, b_slopeOf, b_order, b_slopes⟩ := v
  have I' := I
  obtain ⟨rk, sl, d, G, ages, sz, kd, tm, yk, cl, hX, hY, q, hq, e1, e2, hs⟩ := I'
  subst e1 e2
  refine br_c (fun h0 => br_t h0 ⟨rfl, I⟩) (fun h0 => ?_)
  obtain ⟨j, hj, rfl⟩ := nI_of h0
  refine br_c (fun h1 => br_f h0 (br_f ?_ ⟨rfl, I⟩)) (fun h1 => ?_)
  · exact Int32.not_lt.mpr h1
  · have hjq : j < q := by
      apply Nat.lt_of_not_le; intro z; exact h1 (nI_le z hj)
    have hv : vp_in (nI j) 64 := vp_in_nI (by omega) (by decide)
    refine ⟨hv, br_f h0 (br_t (nI_lt hjq (by omega)) ⟨hv, ?_, I⟩)⟩
    rw [nI_clamp hj]; exact (hs j hjq).symm
