def yb_al (O0 P0 V0 R0 S0 : Nat → Int32) (s c e : Nat) (f : Nat → Nat) (O P V R S : Nat → Int32) : Prop :=
  (∀ i, i < e → f i < 320 ∧ O0 (f i) < 0) ∧ (∀ i j, i < e → j < e → f i = f j → i = j) ∧ (∀ i, i < e → O (f i) = nI s ∧ P (f i) = 0 ∧ V (f i) = 0) ∧ (∀ j, (∀ i, i < e → j ≠ f i) → O j = O0 j ∧ P j = P0 j ∧ V j = V0 j) ∧ (∀ i, i < e → R (c + i) = nI (f i) ∧ S (1536 + i) = nI (f i)) ∧ (∀ j, j < c → R j = R0 j) ∧ (∀ j, j < 1536 → S j = S0 j)
theorem yb_al0 {O0 P0 V0 R0 S0 : Nat → Int32} {s c : Nat} {f : Nat → Nat} : yb_al O0 P0 V0 R0 S0 s c 0 f O0 P0 V0 R0 S0 :=
  ⟨fun _ h => absurd h (by omega), fun _ _ h => absurd h (by omega), fun _ h => absurd h (by omega), fun _ _ => ⟨rfl, rfl, rfl⟩, fun _ h => absurd h (by omega), fun _ _ => rfl, fun _ _ => rfl⟩
theorem yb_al1 {O0 P0 V0 R0 S0 O P V R S : Nat → Int32} {s c e g : Nat} {f : Nat → Nat} (hs : s < 32) (hg : g < 320) (hf : O g < 0) (H : yb_al O0 P0 V0 R0 S0 s c e f O P V R S) : yb_al O0 P0 V0 R0 S0 s c (e + 1) (ab_fu f e g) (upd O g (nI s)) (upd P g 0) (upd V g 0) (upd R (c + e) (nI g)) (upd S (1536 + e) (nI g)) := by
  obtain ⟨h1, h2, h3, h4, h5, h6, h7⟩ := H
  have hne : ∀ i, i < e → g ≠ f i := by
    intro i hi z
    rw [z, (h3 i hi).1] at hf
    exact nI_pos (by omega) hf
  have fn : ∀ i, i < e → ab_fu f e g i = f i := fun i hi => ab_fun (by omega)
  have fe : ab_fu f e g e = g := ab_fus
  refine ⟨?_, ?_, ?_, ?_, ?_, ?_, ?_⟩
  · intro i hi
    by_cases z : i = e
    · rw [z, fe]; exact ⟨hg, (h4 g hne).1 ▸ hf⟩
    · rw [fn i (by omega)]; exact h1 i (by omega)
  · intro i j hi hj
    by_cases z : i = e
    · by_cases y : j = e
      · omega
      · rw [z, fe, fn j (by omega)]; intro q; exact absurd q (hne j (by omega))
    · by_cases y : j = e
      · rw [y, fe, fn i (by omega)]; intro q; exact absurd q.symm (hne i (by omega))
      · rw [fn i (by omega), fn j (by omega)]; exact h2 i j (by omega) (by omega)
  · intro i hi
    by_cases z : i = e
    · rw [z, fe, pk_us, pk_us, pk_us]; exact ⟨rfl, rfl, rfl⟩
    · have := hne i (by omega)
      rw [fn i (by omega), pk_un (Ne.symm this), pk_un (Ne.symm this), pk_un (Ne.symm this)]; exact h3 i (by omega)
  · intro j hj
    have q : j ≠ g := by have := hj e (by omega); rw [fe] at this; exact this
    rw [pk_un q, pk_un q, pk_un q]
    refine h4 j (fun i hi => ?_)
    have := hj i (by omega)
    rw [fn i hi] at this; exact this
  · intro i hi
    by_cases z : i = e
    · rw [z, fe, pk_us, pk_us]; exact ⟨rfl, rfl⟩
    · rw [fn i (by omega), pk_un (by omega), pk_un (by omega)]; exact h5 i (by omega)
  · intro j hj; rw [pk_un (by omega)]; exact h6 j hj
  · intro j hj; rw [pk_un (by omega)]; exact h7 j hj
theorem yb_free {O0 P0 V0 R0 S0 O P V R S : Nat → Int32} {s c e x : Nat} {f : Nat → Nat} {L : List Nat} (hL : ∀ j, j < 320 → ¬ O0 j < 0 → j ∈ L) (hc : L.length = c) (hce : c + e < 320) (hx : ∀ j, j < x → ¬ O j < 0) (H : yb_al O0 P0 V0 R0 S0 s c e f O P V R S) : ∃ g, x ≤ g ∧ g < 320 ∧ O g < 0 ∧ ∀ j, j < g → ¬ O j < 0 := by
  obtain ⟨h1, h2, h3, h4, h5, h6, h7⟩ := H
  have hex : ∃ g, g < 320 ∧ O g < 0 := by
    apply Classical.byContradiction
    intro hno
    have := ab_pg1 320 (L ++ (List.range e).map f) (fun j hj => by
      rw [List.mem_append]
      by_cases z : ∃ i, i < e ∧ j = f i
      · obtain ⟨i, hi, rfl⟩ := z
        exact Or.inr (List.mem_map.mpr ⟨i, List.mem_range.mpr hi, rfl⟩)
      · refine Or.inl (hL j hj (fun hj0 => hno ⟨j, hj, ?_⟩))
        rw [(h4 j (fun i hi q => z ⟨i, hi, q⟩)).1]; exact hj0)
    rw [List.length_append, List.length_map, List.length_range] at this
    omega
  obtain ⟨g, hg, hl⟩ := pk_least (fun g => g < 320 ∧ O g < 0) hex
  refine ⟨g, ?_, hg.1, hg.2, fun j hj q => hl j hj ⟨by omega, q⟩⟩
  apply Nat.le_of_not_lt
  intro z
  exact hx g z hg.2
section
variable {c_cells c_slopeCount : Int32} {b_used b_rank b_dims b_shown b_tensorOf b_view b_exists b_kind b_first b_second b_owner b_parts b_partCount b_value b_slopeOf b_order b_slopes : Nat → Int32}
theorem yb_handOver {post : Int32 → SY → Prop} {v t r : Nat} {pv : Int32} (hv : v < 24) (h0 : b_used v = 0) (hl : ∀ j, j < v → ¬ b_used j = 0) (ht : t < 32) (hr : b_rank 24 = nI r) (hr3 : r ≤ 3) (h : ∀ D S : Nat → Int32, (∀ a, a < 3 → D (3 * v + a) = vp_nar .byte (b_dims (72 + a))) → (∀ j, (j < 3 * v ∨ 3 * v + 3 ≤ j) → D j = b_dims j) → (∀ e, e < 64 → S (64 * v + e) = vp_nar .short (b_shown (1536 + e))) → (∀ j, (j < 64 * v ∨ 64 * v + 64 ≤ j) → S j = b_shown j) → post (nI v) (c_cells, c_slopeCount, upd b_used v 1, upd b_rank v (nI r), D, S, upd b_tensorOf v (nI t), upd b_view v (vp_nar .boolean pv), b_exists, b_kind, b_first, b_second, b_owner, b_parts, b_partCount, b_value, b_slopeOf, b_order, b_slopes)) : wpY_handOver post (c_cells, c_slopeCount, b_used, b_rank, b_dims, b_shown, b_tensorOf, b_view, b_exists, b_kind, b_first, b_second, b_owner, b_parts, b_partCount, b_value, b_slopeOf, b_order, b_slopes) pv (nI t) := by
  have cv : (nI v).toNatClampNeg = v := nI_clamp (by omega)
  have hv25 : vp_in (nI v) 25 := vp_in_nI (by omega) (by decide)
  unfold wpY_handOver
  refine yb_freeHandle_s hv h0 hl ⟨hv25, fun U hU => ⟨hv25, fun W hW => ⟨hv25, fun T hT => ⟨hv25, fun R hR => ⟨4, ?_⟩⟩⟩⟩⟩
  rw [cv] at hU hW hT hR
  rw [ab_b1] at hU
  rw [ab_vb2 (by omega)] at hT
  rw [hr, ab_vb (by omega)] at hR
  subst hU hW hT hR
  have L : ∀ (D : Nat → Int32), (∀ a, a < 3 → D (3 * v + a) = vp_nar .byte (b_dims (72 + a))) → (∀ j, (j < 3 * v ∨ 3 * v + 3 ≤ j) → D j = b_dims j) → ∀ d j : Nat, ∀ S : Nat → Int32, j + d = 64 → (∀ e, e < j → S (64 * v + e) = vp_nar .short (b_shown (1536 + e))) → (∀ i, (i < 64 * v ∨ 64 * v + 64 ≤ i) → S i = b_shown i) → wY_handOver_79 post (nI v) c_cells c_slopeCount (d + 1) (nI j) (upd b_used v 1) (upd b_rank v (nI r)) D S (upd b_tensorOf v (nI t)) (upd b_view v (vp_nar .boolean pv)) b_exists b_kind b_first b_second b_owner b_parts b_partCount b_value b_slopeOf b_order b_slopes := by
    intro D hD1 hD2 d
    induction d with
    | zero =>
      intro j S hj h1 h2
      refine br_t (nI_le (a := 64) (by omega) (by omega)) (h D S hD1 hD2 ?_ h2)
      intro e he; exact h1 e (by omega)
    | succ d ih =>
      intro j S hj h1 h2
      have e1 : (1536 : Int32) + nI j = nI (1536 + j) := nI_add 1536 j
      have c1 : ((1536 : Int32) + nI j).toNatClampNeg = 1536 + j := by rw [e1]; exact nI_clamp (by omega)
      have c2 : (64 * nI v + nI j).toNatClampNeg = 64 * v + j := by rw [ab_i64]; exact nI_clamp (by omega)
      refine br_f (nI_ge (b := 64) (by omega) (by decide)) ⟨ab_vin e1 (by omega) (by decide), ab_vin ab_i64 (by omega) (by decide), fun Z hZ => nm_r (nI_1 j) (ih (j + 1) Z (by omega) ?_ ?_)⟩
      · intro e he
        rw [hZ, c1, c2]
        by_cases z : e = j
        · rw [z, pk_us, h2 (1536 + j) (by omega)]
        · rw [pk_un (by omega)]; exact h1 e (by omega)
      · intro i hi
        rw [hZ, c2, pk_un (by omega)]; exact h2 i hi
  have s1 : ∀ a, a < 3 → ∀ X : Nat → Int32, (∀ j, (j < 3 * v ∨ 3 * v + 3 ≤ j) → X j = b_dims j) → vp_in (72 + nI a) 75 ∧ vp_in (3 * nI v + nI a) 75 ∧ upd X (3 * nI v + nI a).toNatClampNeg (vp_nar .byte (X (72 + nI a).toNatClampNeg)) = upd X (3 * v + a) (vp_nar .byte (b_dims (72 + a))) := by
    intro a ha X hX
    have e1 : (72 : Int32) + nI a = nI (72 + a) := nI_add 72 a
    refine ⟨ab_vin e1 (by omega) (by decide), ab_vin ab_iy (by omega) (by decide), ?_⟩
    rw [e1, ab_iy, nI_clamp (by omega), nI_clamp (by omega), hX (72 + a) (by omega)]
  obtain ⟨i1, i2, i3⟩ := s1 0 (by omega) b_dims (fun _ _ => rfl)
  refine br_f (by decide) ⟨i1, i2, fun D0 hD0 => nm_r (nI_1 0) ?_⟩
  replace hD0 := hD0.trans i3
  obtain ⟨j1, j2, j3⟩ := s1 1 (by omega) D0 (fun j hj => by rw [hD0, pk_un (by omega)])
  refine br_f (by decide) ⟨j1, j2, fun D1 hD1 => nm_r (nI_1 1) ?_⟩
  replace hD1 := hD1.trans j3
  obtain ⟨k1, k2, k3⟩ := s1 2 (by omega) D1 (fun j hj => by rw [hD1, pk_un (by omega), hD0, pk_un (by omega)])
  refine br_f (by decide) ⟨k1, k2, fun D2 hD2 => nm_r (nI_1 2) ?_⟩
  replace hD2 := hD2.trans k3
  refine br_t (by decide) ⟨65, L D2 ?_ ?_ 64 0 b_shown (by omega) (fun e he => absurd he (by omega)) (fun _ _ => rfl)⟩
  · intro a ha
    rcases (show a = 0 ∨ a = 1 ∨ a = 2 by omega) with rfl | rfl | rfl
    · rw [hD2, pk_un (by omega), hD1, pk_un (by omega), hD0, pk_us]
    · rw [hD2, pk_un (by omega), hD1, pk_us]
    · rw [hD2, pk_us]
  · intro j hj
    rw [hD2, pk_un (by omega), hD1, pk_un (by omega), hD0, pk_un (by omega)]
theorem yb_scan {post : Int32 → SY → Prop} {x1 x2 x3 : Int32} {t : Nat} (ht : t ≤ 32) (hl : ∀ j, j < t → ¬ b_exists j = 0) (hx : t = 32 ∨ b_exists t = 0) (h : wY_tensor_26 post x1 x2 x3 (nI t) c_cells c_slopeCount b_used b_rank b_dims b_shown b_tensorOf b_view b_exists b_kind b_first b_second b_owner b_parts b_partCount b_value b_slopeOf b_order b_slopes) : wpY_tensor post (c_cells, c_slopeCount, b_used, b_rank, b_dims, b_shown, b_tensorOf, b_view, b_exists, b_kind, b_first, b_second, b_owner, b_parts, b_partCount, b_value, b_slopeOf, b_order, b_slopes) x1 x2 x3 := by
  have H : ∀ d j : Nat, j + d = t → wY_tensor_3 post x1 x2 x3 c_cells c_slopeCount b_used b_rank b_dims b_shown b_tensorOf b_view b_exists b_kind b_first b_second b_owner b_parts b_partCount b_value b_slopeOf b_order b_slopes (d + 1) (nI j) := by
    intro d
    induction d with
    | zero =>
      intro j hj
      rw [show j = t by omega]
      rcases hx with z | z
      · exact br_t (by rw [z]; exact nI_le (a := 32) (by omega) (by decide)) h
      · refine br_c (fun _ => h) (fun hn => ?_)
        have : t < 32 := by
          apply Nat.lt_of_not_le; intro q; exact hn (nI_le (a := 32) q (by omega))
        refine ⟨vp_in_nI this (by decide), br_t ?_ h⟩
        rw [nI_clamp (by omega)]; exact z
    | succ d ih =>
      intro j hj
      refine br_f (nI_ge (b := 32) (by omega) (by decide)) ⟨vp_in_nI (by omega) (by decide), br_f ?_ (nm_r (nI_1 j) (ih (j + 1) (by omega)))⟩
      rw [nI_clamp (by omega)]; exact hl j (by omega)
  exact ⟨t + 1, H t 0 (by omega)⟩
theorem yb_tensor_n {post : Int32 → SY → Prop} {x1 x2 x3 : Int32} {rk c : Nat} {d : Nat → Nat} (H : yb_row b_rank b_dims 24 rk d) (hc : c_cells = nI c) (hc2 : c ≤ 320) (hno : (∀ t, t < 32 → ¬ b_exists t = 0) ∨ 320 < c + d 0 * d 1 * d 2 ∨ (∀ j, j < 24 → ¬ b_used j = 0)) (h : post (-1) (c_cells, c_slopeCount, b_used, b_rank, b_dims, b_shown, b_tensorOf, b_view, b_exists, b_kind, b_first, b_second, b_owner, b_parts, b_partCount, b_value, b_slopeOf, b_order, b_slopes)) : wpY_tensor post (c_cells, c_slopeCount, b_used, b_rank, b_dims, b_shown, b_tensorOf, b_view, b_exists, b_kind, b_first, b_second, b_owner, b_parts, b_partCount, b_value, b_slopeOf, b_order, b_slopes) x1 x2 x3 := by
  have hs := ab_sz (H.2.2.2.2 0 (by omega)).2 (H.2.2.2.2 1 (by omega)).2 (H.2.2.2.2 2 (by omega)).2
  have K : ∀ t : Nat, t ≤ 32 → (t = 32 ∨ 320 < c + d 0 * d 1 * d 2 ∨ (∀ j, j < 24 → ¬ b_used j = 0)) → wY_tensor_26 post x1 x2 x3 (nI t) c_cells c_slopeCount b_used b_rank b_dims b_shown b_tensorOf b_view b_exists b_kind b_first b_second b_owner b_parts b_partCount b_value b_slopeOf b_order b_slopes := by
    intro t ht hh
    refine yb_size (h := 24) (by omega) H (br_c (fun _ => h) (fun hn => br_c (fun _ => h) (fun hm => ?_)))
    have ht2 : t ≠ 32 := fun z => hn (by rw [z]; rfl)
    have hm2 : ¬ 320 < c + d 0 * d 1 * d 2 := by
      intro z
      refine hm ?_
      rw [hc, nI_add]
      exact nI_lt (a := 320) z (by omega)
    rcases hh with z | z | z
    · exact absurd z ht2
    · exact absurd z hm2
    · exact yb_freeHandle_n z (br_t rfl h)
  rcases ab_lst b_exists 32 with ⟨t, h1, h2, h3⟩ | hn
  · refine yb_scan (by omega) h3 (Or.inr h2) (K t (by omega) ?_)
    rcases hno with z | z | z
    · exact absurd h2 (z t h1)
    · exact Or.inr (Or.inl z)
    · exact Or.inr (Or.inr z)
  · exact yb_scan (t := 32) (by omega) hn (Or.inl rfl) (K 32 (by omega) (Or.inl rfl))
end
