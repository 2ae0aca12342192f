def ab_isA (rk : Nat) (x : Int32) : Prop := ∃ a, a < rk ∧ x = nI a
theorem ab_notA {rk : Nat} {x : Int32} (hk : rk ≤ 3) (h : ¬ ab_isA rk x) (h0 : ¬ x < 0) (h1 : ¬ nI rk ≤ x) : False := by
  obtain ⟨j, hj, rfl⟩ := nI_of h0
  refine h ⟨j, ?_, rfl⟩
  apply Nat.lt_of_not_le; intro z; exact h1 (nI_le z hj)
def tr_s (a b i : Nat) : Nat := if a = i then b else if b = i then a else i
theorem tr_pick {P : Int32 → Prop} {a b i : Nat} (ha : a < 3) (hb : b < 3) (hi : i < 3) (h : P (nI (tr_s a b i))) : (nI a = nI i → P (nI b)) ∧ (¬ nI a = nI i → (nI b = nI i → P (nI a)) ∧ (¬ nI b = nI i → P (nI i))) := by
  unfold tr_s at h
  by_cases z : a = i
  · rw [if_pos z] at h
    exact br_t (by rw [z]) h
  · rw [if_neg z] at h
    refine br_f (fun q => z ((nI_eq (by omega) (by omega)).mp q)) ?_
    by_cases y : b = i
    · rw [if_pos y] at h; exact br_t (by rw [y]) h
    · rw [if_neg y] at h; exact br_f (fun q => y ((nI_eq (by omega) (by omega)).mp q)) h
theorem tr_lt {a b i : Nat} (ha : a < 3) (hb : b < 3) (hi : i < 3) : tr_s a b i < 3 := by unfold tr_s; split <;> (try split) <;> omega
theorem tr_ltr {a b i r : Nat} (ha : a < r) (hb : b < r) (hi : i < r) : tr_s a b i < r := by unfold tr_s; split <;> (try split) <;> omega
section
variable {f_slotsTaken f_elementsTaken f_slopeCount : Int32} {a_handleTaken a_handleIsView a_windowRank a_windowSlot a_windowStart a_windowDimension a_windowStride a_slotSize a_slotKind a_slotTerms a_slotNeeded a_slotsByAge a_values a_derivatives a_firstPlaces a_secondPlaces a_assigned a_slopes : Nat → Int32}
theorem xw_hasAxis_t {post : Int32 → Prop} {h a rk : Nat} (hh : h < 24) (ht : ¬ a_handleTaken h = 0) (hr : a_windowRank h = nI rk) (hk : rk ≤ 3) (ha : a < rk) (hp : post 1) : wpX_hasAxis post (f_slotsTaken, f_elementsTaken, f_slopeCount, a_handleTaken, a_handleIsView, a_windowRank, a_windowSlot, a_windowStart, a_windowDimension, a_windowStride, a_slotSize, a_slotKind, a_slotTerms, a_slotNeeded, a_slotsByAge, a_values, a_derivatives, a_firstPlaces, a_secondPlaces, a_assigned, a_slopes) (nI h) (nI a) := by
  unfold wpX_hasAxis
  refine xw_isHandle_t hh ht (br_f ab_10 (br_f (nI_pos (by omega)) ⟨vp_in_nI (by omega) (by decide), br_f ?_ hp⟩))
  rw [nI_clamp (by omega), hr]; exact nI_ge ha (by omega)
theorem xw_hasAxis_f1 {post : Int32 → Prop} {x y : Int32} (hx : ¬ ab_isH a_handleTaken x) (hp : post 0) : wpX_hasAxis post (f_slotsTaken, f_elementsTaken, f_slopeCount, a_handleTaken, a_handleIsView, a_windowRank, a_windowSlot, a_windowStart, a_windowDimension, a_windowStride, a_slotSize, a_slotKind, a_slotTerms, a_slotNeeded, a_slotsByAge, a_values, a_derivatives, a_firstPlaces, a_secondPlaces, a_assigned, a_slopes) x y := by
  unfold wpX_hasAxis
  exact xw_isHandle_f hx (br_t rfl hp)
theorem xw_hasAxis_f2 {post : Int32 → Prop} {h rk : Nat} {y : Int32} (hh : h < 24) (ht : ¬ a_handleTaken h = 0) (hr : a_windowRank h = nI rk) (hk : rk ≤ 3) (ha : ¬ ab_isA rk y) (hp : post 0) : wpX_hasAxis post (f_slotsTaken, f_elementsTaken, f_slopeCount, a_handleTaken, a_handleIsView, a_windowRank, a_windowSlot, a_windowStart, a_windowDimension, a_windowStride, a_slotSize, a_slotKind, a_slotTerms, a_slotNeeded, a_slotsByAge, a_values, a_derivatives, a_firstPlaces, a_secondPlaces, a_assigned, a_slopes) (nI h) y := by
  unfold wpX_hasAxis
  refine xw_isHandle_t hh ht (br_f ab_10 (br_c (fun _ => hp) (fun h0 => ⟨vp_in_nI (by omega) (by decide), br_c (fun _ => hp) (fun h1 => ?_)⟩)))
  rw [nI_clamp (by omega), hr] at h1
  exact absurd (ab_notA hk ha h0 h1) id
theorem xv_transpose {post : Int32 → SX → Prop} {w v a b rk : Nat} (hw : w < 24) (hT : ¬ a_handleTaken w = 0) (hr : a_windowRank w = nI rk) (hk : rk ≤ 3) (ha : a < rk) (hb : b < rk) (hv : v < 24) (hv0 : a_handleTaken v = 0) (hvl : ∀ j, j < v → ¬ a_handleTaken j = 0) (h : post (nI v) (f_slotsTaken, f_elementsTaken, f_slopeCount, upd a_handleTaken v 1, upd a_handleIsView v 1, upd a_windowRank v (a_windowRank w), upd a_windowSlot v (a_windowSlot w), upd a_windowStart v (a_windowStart w), ab_up3 a_windowDimension (3 * v) (a_windowDimension (3 * w + tr_s a b 0)) (a_windowDimension (3 * w + tr_s a b 1)) (a_windowDimension (3 * w + tr_s a b 2)), ab_up3 a_windowStride (3 * v) (a_windowStride (3 * w + tr_s a b 0)) (a_windowStride (3 * w + tr_s a b 1)) (a_windowStride (3 * w + tr_s a b 2)), a_slotSize, a_slotKind, a_slotTerms, a_slotNeeded, a_slotsByAge, a_values, a_derivatives, a_firstPlaces, a_secondPlaces, a_assigned, a_slopes)) : wpX_transpose post (f_slotsTaken, f_elementsTaken, f_slopeCount, a_handleTaken, a_handleIsView, a_windowRank, a_windowSlot, a_windowStart, a_windowDimension, a_windowStride, a_slotSize, a_slotKind, a_slotTerms, a_slotNeeded, a_slotsByAge, a_values, a_derivatives, a_firstPlaces, a_secondPlaces, a_assigned, a_slopes) (nI w) (nI a) (nI b) := by
  have hn : w ≠ v := fun e => hT (e ▸ hv0)
  have E : ∀ f : Nat → Int32, upd (upd (ab_up3 f (3 * v) (f (3 * w)) (f (3 * w + 1)) (f (3 * w + 2))) (3 * v + b) (ab_up3 f (3 * v) (f (3 * w)) (f (3 * w + 1)) (f (3 * w + 2)) (3 * w + a))) (3 * v + a) (upd (ab_up3 f (3 * v) (f (3 * w)) (f (3 * w + 1)) (f (3 * w + 2))) (3 * v + b) (ab_up3 f (3 * v) (f (3 * w)) (f (3 * w + 1)) (f (3 * w + 2)) (3 * w + a)) (3 * w + b)) = ab_up3 f (3 * v) (f (3 * w + tr_s a b 0)) (f (3 * w + tr_s a b 1)) (f (3 * w + tr_s a b 2)) := by
    intro f
    rw [pk_un (by omega), ab_en (by omega), ab_en (by omega)]
    rcases (show a = 0 ∨ a = 1 ∨ a = 2 by omega) with rfl | rfl | rfl <;> rcases (show b = 0 ∨ b = 1 ∨ b = 2 by omega) with rfl | rfl | rfl <;> simp [tr_s, ab_u30, ab_u31, ab_u32]
  unfold wpX_transpose
  refine xw_hasAxis_t hw hT hr hk ha (br_f ab_10 (xw_hasAxis_t hw hT hr hk hb (br_f ab_10 (xw_makeView_s hv hw hv0 hvl hT (br_f (nI_pos (by omega)) (xw_copyAxis (by omega) (by omega) (by omega) (by omega) (xw_copyAxis (by omega) (by omega) (by omega) (by omega) ?_)))))))
  rw [E, E]
  exact h
end
section
variable {c_cells c_slopeCount : Int32} {b_used b_rank b_dims b_shown b_tensorOf b_view b_exists b_kind b_first b_second b_owner b_parts b_partCount b_value b_slopeOf b_order b_slopes : Nat → Int32}
theorem yv_tloop {post : Int32 → SY → Prop} {w a b v rk rw t N : Nat} {dw e : Nat → Nat} {c : Nat → Nat → Nat → Nat} (hw : w < 24) (ha : a < 3) (hb : b < 3) (H24 : yb_row b_rank b_dims 24 rk e) (Hw : yb_row b_rank b_dims w rw dw) (hN : e 0 * e 1 * e 2 = N) (hcell : ∀ i j k, i < dw 0 → j < dw 1 → k < dw 2 → b_shown (64 * w + ((i * dw 1 + j) * dw 2 + k)) = nI (c i j k) ∧ c i j k < 320) (hrng : ∀ x y z, x < e 0 → y < e 1 → z < e 2 → ab_crd x y z (tr_s a b 0) < dw 0 ∧ ab_crd x y z (tr_s a b 1) < dw 1 ∧ ab_crd x y z (tr_s a b 2) < dw 2) (hv : v < 24) (hv0 : b_used v = 0) (hvl : ∀ j, j < v → ¬ b_used j = 0) (ht : b_tensorOf w = nI t) (ht2 : t < 32) (h : ∀ D S : Nat → Int32, (∀ i, i < rk → D (3 * v + i) = nI (e i)) → (∀ j, (j < 3 * v ∨ 3 * v + 3 ≤ j) → D j = b_dims j) → (∀ i, i < N → S (64 * v + i) = nI (ab_pf (e 0) (e 1) (e 2) (fun x y z => c (ab_crd x y z (tr_s a b 0)) (ab_crd x y z (tr_s a b 1)) (ab_crd x y z (tr_s a b 2))) i)) → (∀ j, j < 1536 → (j < 64 * v ∨ 64 * v + 64 ≤ j) → S j = b_shown j) → post (nI v) (c_cells, c_slopeCount, upd b_used v 1, upd b_rank v (nI rk), D, S, upd b_tensorOf v (nI t), upd b_view v 1, b_exists, b_kind, b_first, b_second, b_owner, b_parts, b_partCount, b_value, b_slopeOf, b_order, b_slopes)) : ∀ (q j : Nat) (S : Nat → Int32), j + q = N → (∀ i, i < j → S (1536 + i) = nI (ab_pf (e 0) (e 1) (e 2) (fun x y z => c (ab_crd x y z (tr_s a b 0)) (ab_crd x y z (tr_s a b 1)) (ab_crd x y z (tr_s a b 2))) i)) → (∀ i, i < 1536 → S i = b_shown i) → wY_transpose_134 post (nI w) (nI a) (nI b) (nI N) c_cells c_slopeCount (q + 1) (nI j) b_used b_rank b_dims S b_tensorOf b_view b_exists b_kind b_first b_second b_owner b_parts b_partCount b_value b_slopeOf b_order b_slopes := by
  have hb4 := H24.2.2.2.2
  have hN64 : N ≤ 64 := hN ▸ ab_sz (hb4 0 (by omega)).2 (hb4 1 (by omega)).2 (hb4 2 (by omega)).2
  have hin : ∀ i : Nat, i / (e 1 * e 2) % e 0 < e 0 ∧ i / e 2 % e 1 < e 1 ∧ i % e 2 < e 2 := fun i => ab_pfi (hb4 0 (by omega)).1 (hb4 1 (by omega)).1 (hb4 2 (by omega)).1
  intro q
  induction q with
  | zero =>
    intro j S hj h1 h2
    have hjN : j = N := by omega
    refine br_t (nI_le (by omega) (by omega)) ⟨vp_in_nI (by omega) (by decide), ?_⟩
    rw [nI_clamp (by omega), ht]
    refine yv_hand (e := e) (c := fun i => ab_pf (e 0) (e 1) (e 2) (fun x y z => c (ab_crd x y z (tr_s a b 0)) (ab_crd x y z (tr_s a b 1)) (ab_crd x y z (tr_s a b 2))) i) (N := N) hv hv0 hvl ht2 H24.1 H24.2.1 hN64 (fun i hi => H24.2.2.1 i hi) (fun i hi => (hb4 i hi).2) (fun i hi => h1 i (by omega)) ?_ (fun D S' d1 d2 s1 s2 => ?_)
    · intro i hi
      obtain ⟨p1, p2, p3⟩ := hin i
      obtain ⟨r1, r2, r3⟩ := hrng _ _ _ p1 p2 p3
      exact (hcell _ _ _ r1 r2 r3).2
    · rw [ab_b1]
      exact h D S' d1 d2 s1 (fun i hi hi2 => by rw [s2 i hi2]; exact h2 i hi)
  | succ q ih =>
    intro j S hj h1 h2
    obtain ⟨p1, p2, p3⟩ := hin j
    obtain ⟨r1, r2, r3⟩ := hrng _ _ _ p1 p2 p3
    have hl := ab_lin r1 r2 r3
    have hsz := ab_sz (Hw.2.2.2.2 0 (by omega)).2 (Hw.2.2.2.2 1 (by omega)).2 (Hw.2.2.2.2 2 (by omega)).2
    obtain ⟨c1, c2⟩ := hcell _ _ _ r1 r2 r3
    have e1 : (1536 : Int32) + nI j = nI (1536 + j) := nI_add 1536 j
    refine br_f (nI_ge (by omega) (by omega)) ?_
    refine tr_pick (P := fun z => wY_transpose_163 post (wY_transpose_134 post (nI w) (nI a) (nI b) (nI N) c_cells c_slopeCount (q + 1)) (nI w) (nI a) (nI b) (nI N) (nI j) z (nI j) 24 c_cells c_slopeCount b_used b_rank b_dims S b_tensorOf b_view b_exists b_kind b_first b_second b_owner b_parts b_partCount b_value b_slopeOf b_order b_slopes) (i := 0) ha hb (by omega) ?_
    refine yb_index (h := 24) (by omega) H24 (by omega) (tr_lt ha hb (by omega)) ?_
    refine tr_pick (P := fun z => wY_transpose_192 post (wY_transpose_134 post (nI w) (nI a) (nI b) (nI N) c_cells c_slopeCount (q + 1)) (nI w) (nI a) (nI b) (nI N) (nI j) (nI _) z (nI j) 24 c_cells c_slopeCount b_used b_rank b_dims S b_tensorOf b_view b_exists b_kind b_first b_second b_owner b_parts b_partCount b_value b_slopeOf b_order b_slopes) (i := 1) ha hb (by omega) ?_
    refine yb_index (h := 24) (by omega) H24 (by omega) (tr_lt ha hb (by omega)) ?_
    refine tr_pick (P := fun z => wY_transpose_221 post (wY_transpose_134 post (nI w) (nI a) (nI b) (nI N) c_cells c_slopeCount (q + 1)) (nI w) (nI a) (nI b) (nI N) (nI j) (nI _) (nI _) z (nI j) 24 c_cells c_slopeCount b_used b_rank b_dims S b_tensorOf b_view b_exists b_kind b_first b_second b_owner b_parts b_partCount b_value b_slopeOf b_order b_slopes) (i := 2) ha hb (by omega) ?_
    refine yb_index (h := 24) (by omega) H24 (by omega) (tr_lt ha hb (by omega)) ?_
    refine yb_cellAt (by omega) Hw r1 r2 r3 ⟨ab_vin e1 (by omega) (by decide), fun S' hS' => nm_r (nI_1 j) (ih (j + 1) S' (by omega) ?_ ?_)⟩
    · rw [h2 _ (by omega), c1, ab_vs2 (by omega), e1, nI_clamp (by omega)] at hS'
      intro i hi
      rw [hS']
      by_cases z : i = j
      · rw [z, pk_us]; rfl
      · rw [pk_un (by omega)]; exact h1 i (by omega)
    · intro i hi
      rw [hS', e1, nI_clamp (by omega), pk_un (by omega)]; exact h2 i hi
end
