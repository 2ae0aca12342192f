theorem ab_uu {f : Nat → Int32} {k : Nat} {a b : Int32} : upd (upd f k a) k b = upd f k b := by
  funext j; unfold upd; by_cases h : j = k <;> simp [h]
def sc_p (fr r x : Nat) : Nat := fr + r * x - 4 * x
theorem sc_2 {fr r x : Nat} (h : 4 * x ≤ fr + r * x) : nI fr + (nI r - 4) * nI x = nI (sc_p fr r x) := by
  unfold sc_p
  rw [← pk_sub h, ← nI_add, ← pk_mul r x, ← pk_mul 4 x, show nI 4 = 4 from rfl]
  grind
theorem sc_1 {fr r c d : Nat} (hr : r < 8) (hc : 1 ≤ c) (hc4 : c ≤ 4) (hd : d ≤ 4) (hfr : fr < d) (h0 : ¬ nI fr + (nI c - 1) * (nI r - 4) < 0) (h1 : nI fr + (nI c - 1) * (nI r - 4) < nI d) : ∀ x, x < c → 4 * x ≤ fr + r * x ∧ sc_p fr r x < d := by
  have e0 : nI c - 1 = nI (c - 1) := pk_sub (b := 1) hc
  have e : nI fr + (nI c - 1) * (nI r - 4) = nI (fr + r * (c - 1)) - nI (4 * (c - 1)) := by
    rw [e0, ← nI_add, ← pk_mul r, ← pk_mul 4, show nI 4 = 4 from rfl]
    grind
  rw [e] at h0 h1
  have k1 : 4 * (c - 1) ≤ fr + r * (c - 1) := by
    apply Nat.le_of_not_lt; intro z
    exact h0 (pk_sneg (by omega) z)
  rw [pk_sub k1] at h1
  have k3 : r * (c - 1) ≤ 8 * 3 := Nat.mul_le_mul (by omega) (by omega)
  have k2 : fr + r * (c - 1) - 4 * (c - 1) < d := (nI_ltI (by omega) (by omega)).mp h1
  intro x hx
  unfold sc_p
  rcases (show c = 1 ∨ c = 2 ∨ c = 3 ∨ c = 4 by omega) with rfl | rfl | rfl | rfl <;> rcases (show x = 0 ∨ x = 1 ∨ x = 2 ∨ x = 3 by omega) with rfl | rfl | rfl | rfl <;> omega
def sc_c (a fr r x i : Nat) : Nat := if i = a then sc_p fr r x else x
def sc_e (dw : Nat → Nat) (a c i : Nat) : Nat := if i = a then c else dw i
theorem sc_e3 {rk a c : Nat} {dw : Nat → Nat} (h : ab_sh3 rk dw) (ha : a < rk) (hc : 1 ≤ c) (hc4 : c ≤ 4) : ab_sh3 rk (sc_e dw a c) := by
  refine ⟨h.1, fun i h1 h2 => ?_, fun i hi => ?_⟩
  · unfold sc_e; rw [if_neg (by omega)]; exact h.2.1 i h1 h2
  · unfold sc_e; split
    · omega
    · exact h.2.2 i hi
theorem sc_rng {a c fr r x i : Nat} {dw : Nat → Nat} (hp : ∀ x, x < c → 4 * x ≤ fr + r * x ∧ sc_p fr r x < dw a) (hx : x < sc_e dw a c i) : sc_c a fr r x i < dw i := by
  unfold sc_e at hx
  unfold sc_c
  by_cases z : i = a
  · rw [if_pos z] at hx ⊢; rw [z]; exact (hp x hx).2
  · rw [if_neg z] at hx ⊢; exact hx
section
variable {f_slotsTaken f_elementsTaken f_slopeCount : Int32} {a_handleTaken a_handleIsView a_windowRank a_windowSlot a_windowStart a_windowDimension a_windowStride a_slotSize a_slotKind a_slotTerms a_slotNeeded a_slotsByAge a_values a_derivatives a_firstPlaces a_secondPlaces a_assigned a_slopes : Nat → Int32}
theorem xv_slice_n {post : Int32 → SX → Prop} {w a rk : Nat} {x y : Int32} {dw : Nat → Nat} (hw : w < 24) (hT : ¬ a_handleTaken w = 0) (hr : a_windowRank w = nI rk) (hk : rk ≤ 3) (ha : a < rk) (hd : a_windowDimension (3 * w + a) = nI (dw a)) (hd4 : dw a ≤ 4) (hno : (¬ ∃ cd, 8 ≤ cd ∧ cd ≤ 39 ∧ y = nI cd) ∨ (∀ j, j < 24 → ¬ a_handleTaken j = 0) ∨ (∀ cd, y = nI cd → 8 ≤ cd → cd ≤ 39 → ¬ ∃ fr, fr < dw a ∧ x = nI fr ∧ ¬ nI fr + (nI (cd / 8) - 1) * (nI (cd % 8) - 4) < 0 ∧ nI fr + (nI (cd / 8) - 1) * (nI (cd % 8) - 4) < nI (dw a))) (hp : post (-1) (f_slotsTaken, f_elementsTaken, f_slopeCount, a_handleTaken, a_handleIsView, a_windowRank, a_windowSlot, a_windowStart, a_windowDimension, a_windowStride, a_slotSize, a_slotKind, a_slotTerms, a_slotNeeded, a_slotsByAge, a_values, a_derivatives, a_firstPlaces, a_secondPlaces, a_assigned, a_slopes)) : wpX_slice post (f_slotsTaken, f_elementsTaken, f_slopeCount, a_handleTaken, a_handleIsView, a_windowRank, a_windowSlot, a_windowStart, a_windowDimension, a_windowStride, a_slotSize, a_slotKind, a_slotTerms, a_slotNeeded, a_slotsByAge, a_values, a_derivatives, a_firstPlaces, a_secondPlaces, a_assigned, a_slopes) (nI w) (nI a) x y := by
  unfold wpX_slice
  refine xw_hasAxis_t hw hT hr hk ha (br_f ab_10 (br_c (fun _ => hp) (fun h8 => br_c (fun h39 => ?_) (fun _ => hp))))
  have h0 : ¬ y < 0 := by
    intro z
    refine h8 ?_
    rw [Int32.lt_iff_toInt_lt] at z ⊢
    rw [show (0 : Int32).toInt = 0 from by decide] at z
    rw [show (8 : Int32).toInt = 8 from by decide]
    omega
  obtain ⟨cd, hcd, rfl⟩ := nI_of h0
  have c8 : 8 ≤ cd := by
    apply Nat.le_of_not_lt; intro z; exact h8 (nI_lt (b := 8) z (by decide))
  have c39 : cd ≤ 39 := by
    apply Nat.le_of_not_lt; intro z; exact nI_ge (a := 39) z hcd h39
  refine nm_r (pk_shrN (by omega) _ 3 (by decide)) (nm_r (e' := nI (cd % 8) - 4) (by rw [pk_andN (by omega) 3 (by decide)]) ⟨ab_vin ab_ix (by omega) (by decide), nm_r (e' := nI (dw a)) (by rw [ab_ix, nI_clamp (by omega), hd]) (br_c (fun _ => hp) (fun f0 => br_c (fun f1 => nm_e (br_c (fun _ => hp) (fun l0 => br_c (fun l1 => ?_) (fun _ => hp)))) (fun _ => hp)))⟩)
  obtain ⟨fr, hfr, rfl⟩ := nI_of f0
  rcases hno with q | q | q
  · exact absurd ⟨cd, c8, c39, rfl⟩ q
  · exact xw_makeView_n q (br_t (by decide) hp)
  · exact absurd ⟨fr, (nI_ltI hfr (by omega)).mp f1, rfl, l0, l1⟩ (q cd rfl c8 c39)
theorem xv_slice {post : Int32 → SX → Prop} {w v a rk cd fr : Nat} {dw : Nat → Nat} (hw : w < 24) (hT : ¬ a_handleTaken w = 0) (hr : a_windowRank w = nI rk) (hk : rk ≤ 3) (ha : a < rk) (hd : ∀ i, i < 3 → a_windowDimension (3 * w + i) = nI (dw i)) (hd4 : dw a ≤ 4) (h8 : 8 ≤ cd) (h39 : cd ≤ 39) (hfr : fr < dw a) (l0 : ¬ nI fr + (nI (cd / 8) - 1) * (nI (cd % 8) - 4) < 0) (l1 : nI fr + (nI (cd / 8) - 1) * (nI (cd % 8) - 4) < nI (dw a)) (hv : v < 24) (hv0 : a_handleTaken v = 0) (hvl : ∀ j, j < v → ¬ a_handleTaken j = 0) (h : ∀ s : Int32, s = (if cd / 8 ≤ 1 then 0 else a_windowStride (3 * w + a) * (nI (cd % 8) - 4)) → post (nI v) (f_slotsTaken, f_elementsTaken, f_slopeCount, upd a_handleTaken v 1, upd a_handleIsView v 1, upd a_windowRank v (a_windowRank w), upd a_windowSlot v (a_windowSlot w), upd a_windowStart v (a_windowStart w + nI fr * a_windowStride (3 * w + a)), ab_up3 a_windowDimension (3 * v) (nI (sc_e dw a (cd / 8) 0)) (nI (sc_e dw a (cd / 8) 1)) (nI (sc_e dw a (cd / 8) 2)), ab_up3 a_windowStride (3 * v) (if 0 = a then s else a_windowStride (3 * w)) (if 1 = a then s else a_windowStride (3 * w + 1)) (if 2 = a then s else a_windowStride (3 * w + 2)), a_slotSize, a_slotKind, a_slotTerms, a_slotNeeded, a_slotsByAge, a_values, a_derivatives, a_firstPlaces, a_secondPlaces, a_assigned, a_slopes)) : wpX_slice post (f_slotsTaken, f_elementsTaken, f_slopeCount, a_handleTaken, a_handleIsView, a_windowRank, a_windowSlot, a_windowStart, a_windowDimension, a_windowStride, a_slotSize, a_slotKind, a_slotTerms, a_slotNeeded, a_slotsByAge, a_values, a_derivatives, a_firstPlaces, a_secondPlaces, a_assigned, a_slopes) (nI w) (nI a) (nI fr) (nI cd) := by
  have hn : w ≠ v := fun e => hT (e ▸ hv0)
  have cv : (nI v).toNatClampNeg = v := nI_clamp (by omega)
  have hv88 : vp_in (nI v) 88 := vp_in_nI (by omega) (by decide)
  have E1 : ∀ (f : Nat → Int32) (A B C s : Int32), upd (ab_up3 f (3 * v) A B C) (3 * v + a) s = ab_up3 f (3 * v) (if 0 = a then s else A) (if 1 = a then s else B) (if 2 = a then s else C) := by
    intro f A B C s
    rcases (show a = 0 ∨ a = 1 ∨ a = 2 by omega) with rfl | rfl | rfl <;> simp [ab_u30, ab_u31, ab_u32]
  have E2 : ∀ i, (if i = a then nI (cd / 8) else nI (dw i)) = nI (sc_e dw a (cd / 8) i) := by
    intro i; unfold sc_e; split <;> rfl
  unfold wpX_slice
  refine xw_hasAxis_t hw hT hr hk ha (br_f ab_10 (br_f (nI_nlt (b := 8) h8 (by omega)) (br_t (nI_le (b := 39) h39 (by decide)) ?_)))
  refine nm_r (pk_shrN (by omega) _ 3 (by decide)) (nm_r (e' := nI (cd % 8) - 4) (by rw [pk_andN (by omega) 3 (by decide)]) ⟨ab_vin ab_ix (by omega) (by decide), nm_r (e' := nI (dw a)) (by rw [ab_ix, nI_clamp (by omega), hd a (by omega)]) (br_f (nI_pos (by omega)) (br_t (nI_lt hfr (by omega)) (nm_e (br_f l0 (br_t l1 (xw_makeView_s hv hw hv0 hvl hT (br_f (nI_pos (by omega)) ⟨ab_vin ab_ix (by omega) (by decide), nm_r (e' := a_windowStride (3 * w + a)) (by rw [ab_ix, nI_clamp (by omega), ab_en (by omega)]) ⟨hv88, hv88, fun S hS => ?_⟩⟩)))))))⟩)
  rw [cv, pk_us, ab_uu] at hS
  subst hS
  by_cases z : cd / 8 ≤ 1
  · refine br_t (nI_le (b := 1) z (by decide)) (xw_setAxis (by omega) (by omega) ?_)
    rw [E1, E1, hd 1 (by omega), hd 2 (by omega), show 3 * w = 3 * w + 0 from rfl, hd 0 (by omega), E2, E2, E2]
    exact h 0 (by rw [if_pos z])
  · refine br_f (nI_ge (a := 1) (by omega) (by omega)) (xw_setAxis (by omega) (by omega) ?_)
    rw [E1, E1, hd 1 (by omega), hd 2 (by omega), show 3 * w = 3 * w + 0 from rfl, hd 0 (by omega), E2, E2, E2]
    exact h _ (by rw [if_neg z]; rfl)
end
section
variable {c_cells c_slopeCount : Int32} {b_used b_rank b_dims b_shown b_tensorOf b_view b_exists b_kind b_first b_second b_owner b_parts b_partCount b_value b_slopeOf b_order b_slopes : Nat → Int32}
theorem yv_sloop {post : Int32 → SY → Prop} {w a v rk rw t N fr r : Nat} {dw e : Nat → Nat} {c : Nat → Nat → Nat → Nat} (hw : w < 24) (ha : a < 3) (H24 : yb_row b_rank b_dims 24 rk e) (Hw : yb_row b_rank b_dims w rw dw) (hN : e 0 * e 1 * e 2 = N) (hcell : ∀ i j k, i < dw 0 → j < dw 1 → k < dw 2 → b_shown (64 * w + ((i * dw 1 + j) * dw 2 + k)) = nI (c i j k) ∧ c i j k < 320) (hrng : ∀ x i, i < 3 → x < e i → sc_c a fr r x i < dw i) (hst : ∀ x, x < e a → 4 * x ≤ fr + r * x) (hv : v < 24) (hv0 : b_used v = 0) (hvl : ∀ j, j < v → ¬ b_used j = 0) (ht : b_tensorOf w = nI t) (ht2 : t < 32) (h : ∀ D S : Nat → Int32, (∀ i, i < rk → D (3 * v + i) = nI (e i)) → (∀ j, (j < 3 * v ∨ 3 * v + 3 ≤ j) → D j = b_dims j) → (∀ i, i < N → S (64 * v + i) = nI (ab_pf (e 0) (e 1) (e 2) (fun x y z => c (sc_c a fr r x 0) (sc_c a fr r y 1) (sc_c a fr r z 2)) i)) → (∀ j, j < 1536 → (j < 64 * v ∨ 64 * v + 64 ≤ j) → S j = b_shown j) → post (nI v) (c_cells, c_slopeCount, upd b_used v 1, upd b_rank v (nI rk), D, S, upd b_tensorOf v (nI t), upd b_view v 1, b_exists, b_kind, b_first, b_second, b_owner, b_parts, b_partCount, b_value, b_slopeOf, b_order, b_slopes)) : ∀ (q j : Nat) (S : Nat → Int32), j + q = N → (∀ i, i < j → S (1536 + i) = nI (ab_pf (e 0) (e 1) (e 2) (fun x y z => c (sc_c a fr r x 0) (sc_c a fr r y 1) (sc_c a fr r z 2)) i)) → (∀ i, i < 1536 → S i = b_shown i) → wY_slice_170 post (nI w) (nI a) (nI fr) (nI r - 4) (nI N) c_cells c_slopeCount (q + 1) (nI j) b_used b_rank b_dims S b_tensorOf b_view b_exists b_kind b_first b_second b_owner b_parts b_partCount b_value b_slopeOf b_order b_slopes := by
  have hb4 := H24.2.2.2.2
  have hN64 : N ≤ 64 := hN ▸ ab_sz (hb4 0 (by omega)).2 (hb4 1 (by omega)).2 (hb4 2 (by omega)).2
  have hin : ∀ i : Nat, i / (e 1 * e 2) % e 0 < e 0 ∧ i / e 2 % e 1 < e 1 ∧ i % e 2 < e 2 := fun i => ab_pfi (hb4 0 (by omega)).1 (hb4 1 (by omega)).1 (hb4 2 (by omega)).1
  intro q
  induction q with
  | zero =>
    intro j S hj h1 h2
    have hjN : j = N := by omega
    refine br_t (nI_le (by omega) (by omega)) ⟨vp_in_nI (by omega) (by decide), ?_⟩
    rw [nI_clamp (by omega), ht]
    refine yv_hand (e := e) (c := fun i => ab_pf (e 0) (e 1) (e 2) (fun x y z => c (sc_c a fr r x 0) (sc_c a fr r y 1) (sc_c a fr r z 2)) i) (N := N) hv hv0 hvl ht2 H24.1 H24.2.1 hN64 (fun i hi => H24.2.2.1 i hi) (fun i hi => (hb4 i hi).2) (fun i hi => h1 i (by omega)) ?_ (fun D S' d1 d2 s1 s2 => ?_)
    · intro i hi
      obtain ⟨p1, p2, p3⟩ := hin i
      exact (hcell _ _ _ (hrng _ 0 (by omega) p1) (hrng _ 1 (by omega) p2) (hrng _ 2 (by omega) p3)).2
    · rw [ab_b1]
      exact h D S' d1 d2 s1 (fun i hi hi2 => by rw [s2 i hi2]; exact h2 i hi)
  | succ q ih =>
    intro j S hj h1 h2
    obtain ⟨p1, p2, p3⟩ := hin j
    have r1 := hrng _ 0 (by omega) p1
    have r2 := hrng _ 1 (by omega) p2
    have r3 := hrng _ 2 (by omega) p3
    have hl := ab_lin r1 r2 r3
    have hsz := ab_sz (Hw.2.2.2.2 0 (by omega)).2 (Hw.2.2.2.2 1 (by omega)).2 (Hw.2.2.2.2 2 (by omega)).2
    obtain ⟨c1, c2⟩ := hcell _ _ _ r1 r2 r3
    have e1 : (1536 : Int32) + nI j = nI (1536 + j) := nI_add 1536 j
    have FIN : ∀ S' : Nat → Int32, S' = upd S ((1536 : Int32) + nI j).toNatClampNeg (vp_nar .short (S (64 * w + ((sc_c a fr r (j / (e 1 * e 2) % e 0) 0 * dw 1 + sc_c a fr r (j / e 2 % e 1) 1) * dw 2 + sc_c a fr r (j % e 2) 2))).toInt16.toInt32) → wY_slice_170 post (nI w) (nI a) (nI fr) (nI r - 4) (nI N) c_cells c_slopeCount (q + 1) (nI (j + 1)) b_used b_rank b_dims S' b_tensorOf b_view b_exists b_kind b_first b_second b_owner b_parts b_partCount b_value b_slopeOf b_order b_slopes := by
      intro S' hS'
      rw [h2 _ (by omega), c1, ab_vs2 (by omega), e1, nI_clamp (by omega)] at hS'
      refine ih (j + 1) S' (by omega) ?_ ?_
      · intro i hi
        rw [hS']
        by_cases z : i = j
        · rw [z, pk_us]; rfl
        · rw [pk_un (by omega)]; exact h1 i (by omega)
      · intro i hi
        rw [hS', pk_un (by omega)]; exact h2 i hi
    refine br_f (nI_ge (by omega) (by omega)) (yb_index0 (h := 24) (by omega) H24 (by omega) (yb_index1 (h := 24) (by omega) H24 (by omega) (yb_index2 (h := 24) (by omega) H24 (by omega) ?_)))
    rcases (show a = 0 ∨ a = 1 ∨ a = 2 by omega) with rfl | rfl | rfl
    · refine br_t rfl (nm_r (sc_2 (hst _ p1)) (br_t rfl (br_f (by decide) (br_f (by decide) (yb_cellAt (by omega) Hw r1 r2 r3 ⟨ab_vin e1 (by omega) (by decide), fun S' hS' => nm_r (nI_1 j) (FIN S' hS')⟩)))))
    · refine br_f (by decide) (br_t rfl (nm_r (sc_2 (hst _ p2)) (br_f (by decide) (br_t rfl (br_f (by decide) (yb_cellAt (by omega) Hw r1 r2 r3 ⟨ab_vin e1 (by omega) (by decide), fun S' hS' => nm_r (nI_1 j) (FIN S' hS')⟩))))))
    · refine br_f (by decide) (br_f (by decide) (nm_r (sc_2 (hst _ p3)) (br_f (by decide) (br_f (by decide) (br_t rfl (yb_cellAt (by omega) Hw r1 r2 r3 ⟨ab_vin e1 (by omega) (by decide), fun S' hS' => nm_r (nI_1 j) (FIN S' hS')⟩))))))
end
