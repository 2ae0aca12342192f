theorem i_vc_at {k : Nat} {u : SX} {v : SY} (I : i_Rel k u v) (hk : k + 5 ≤ 2560) (v1 : Int32) (v2 : Int32) : wpX_at (fun r u' => wpY_at (fun r' v' => r' = r ∧ i_Rel (k + 5) u' v') v v1 v2) u v1 v2 := by
  obtain ⟨f_slotsTaken, f_elementsTaken, f_slopeCount, a_handleTaken, a_handleIsView, a_windowRank, a_windowSlot, a_windowStart, a_windowDimension, a_windowStride, a_slotSize, a_slotKind, a_slotTerms, a_slotNeeded, a_slotsByAge, a_values, a_derivatives, a_firstPlaces, a_secondPlaces, a_assigned, a_slopes⟩ := u
  obtain ⟨c_cells, c_slopeCount, b_used, b_rank, b_dims, b_shown, b_tensorOf, b_view, b_exists, b_kind, b_first, b_second, b_owner, b_parts, b_partCount, b_value, b_slopeOf, b_order, b_slopes⟩ := v
  have I' := I
  obtain ⟨rk, sl, d, G, ages, sz, kd, tm, yk, cl, hX, hY, hS⟩ := I'
  have hu := hY.1.1
  by_cases hH : ab_isH a_handleTaken v1
  · obtain ⟨w, hw, rfl, hT⟩ := hH
    obtain ⟨w1, w2, w3, w4⟩ := hX.2.2.2.2 w hw hT
    have yw := hY.2.2.2.2.1 w hw hT
    have hU : ¬ b_used w = 0 := by rw [hu]; exact hT
    have n64 := (rl_hk hX).2 w hw hT
    by_cases hE : ab_isE (d w 0 * d w 1 * d w 2) v2
    · obtain ⟨i, hi, rfl⟩ := hE
      have hi64 : i < 64 := Nat.lt_of_lt_of_le hi n64
      obtain ⟨m1, m2⟩ := rl_pmem hX w3 (e := i)
      unfold wpX_at
      refine xw_hasElement_t hw hT (fun a ha => (w3.2.2.1 a ha).1) n64 hi (br_f ab_10 (xk_compute hX (fun V F S hd hv => xl_win_firstPlaces (by omega) w3 (fun F' hF' => ⟨vp_in_nI hi64 (by decide), ?_⟩))))
      rw [nI_clamp (show i < 2 ^ 31 by omega), hF' i hi, nI_clamp (show rl_p d G w i < 2 ^ 31 by omega)]
      refine ⟨vp_in_nI m2 (by decide), ?_⟩
      unfold wpY_at
      refine yb_isHandle_t hw hU (br_f ab_10 (br_f (nI_pos (by omega)) (yb_size (by omega) (rl_row w2 yw) (br_t (nI_lt hi (Nat.lt_of_le_of_lt n64 (by decide))) ?_))))
      refine yk_work (V := V) hX hY hd (fun p hp hk4 => by rw [hv p hk4]; exact hY.2.2.2.2.2.2 p hp hk4) (fun W Sl q1 _ _ => ⟨ab_vin ab_i64 (by omega) (by decide), ?_⟩)
      rw [ab_i64, nI_clamp (show 64 * w + i < 2 ^ 31 by omega), yw.2.2.2 i hi]
      have c320 := (hY.2.2.1.1 _ m1).1
      rw [nI_clamp (show cl (rl_p d G w i) < 2 ^ 31 by omega)]
      refine ⟨vp_in_nI c320 (by decide), q1 _ m1, ?_⟩
      obtain ⟨y1, y2, y3, y4, y5, y6, y7⟩ := hY
      exact rl_mk (k + 5) rk sl d G ages sz kd tm yk cl hX ⟨y1, y2, y3, y4, y5, y6, fun p hp _ => q1 p hp⟩ hS
    · unfold wpX_at
      refine xw_hasElement_f2 hw hT (fun a ha => (w3.2.2.1 a ha).1) n64 hE (br_t rfl ?_)
      unfold wpY_at
      refine yb_isHandle_t hw hU (br_f ab_10 (br_c (fun _ => ⟨rfl, I⟩) (fun h0 => yb_size (by omega) (rl_row w2 yw) (br_c (fun h1 => ?_) (fun _ => ⟨rfl, I⟩)))))
      exact absurd (ab_notE hE h0 h1 (Nat.lt_of_le_of_lt n64 (by decide))) id
  · unfold wpX_at
    refine xw_hasElement_f1 hH (br_t rfl ?_)
    unfold wpY_at
    exact yb_isHandle_f (by rw [hu]; exact hH) (br_t rfl ⟨rfl, I⟩)
section
variable {f_slotsTaken f_elementsTaken f_slopeCount : Int32} {a_handleTaken a_handleIsView a_windowRank a_windowSlot a_windowStart a_windowDimension a_windowStride a_slotSize a_slotKind a_slotTerms a_slotNeeded a_slotsByAge a_values a_derivatives a_firstPlaces a_secondPlaces a_assigned a_slopes : Nat → Int32}
theorem xw_isLeaf_t {post : Int32 → Prop} {w s : Nat} (hw : w < 24) (hT : ¬ a_handleTaken w = 0) (hV : a_handleIsView w = 0) (hS : a_windowSlot w = nI s) (hs : s < 32) (hk : a_slotKind s = 4) (hp : post 1) : wpX_isLeaf post (f_slotsTaken, f_elementsTaken, f_slopeCount, a_handleTaken, a_handleIsView, a_windowRank, a_windowSlot, a_windowStart, a_windowDimension, a_windowStride, a_slotSize, a_slotKind, a_slotTerms, a_slotNeeded, a_slotsByAge, a_values, a_derivatives, a_firstPlaces, a_secondPlaces, a_assigned, a_slopes) (nI w) := by
  have cw : (nI w).toNatClampNeg = w := nI_clamp (by omega)
  unfold wpX_isLeaf
  refine xw_isHandle_t hw hT (br_f ab_10 ⟨vp_in_nI hw (by decide), br_t (by rw [cw]; exact hV) ⟨vp_in_nI (by omega) (by decide), ?_⟩⟩)
  rw [cw, hS, nI_clamp (by omega)]
  exact ⟨vp_in_nI hs (by decide), br_t hk hp⟩
theorem xw_isLeaf_f {post : Int32 → Prop} {w s kk : Nat} (hw : w < 24) (hT : ¬ a_handleTaken w = 0) (hS : a_windowSlot w = nI s) (hs : s < 32) (hk : a_slotKind s = nI kk) (hkk : kk ≤ 4) (hno : ¬ (a_handleIsView w = 0 ∧ kk = 4)) (hp : post 0) : wpX_isLeaf post (f_slotsTaken, f_elementsTaken, f_slopeCount, a_handleTaken, a_handleIsView, a_windowRank, a_windowSlot, a_windowStart, a_windowDimension, a_windowStride, a_slotSize, a_slotKind, a_slotTerms, a_slotNeeded, a_slotsByAge, a_values, a_derivatives, a_firstPlaces, a_secondPlaces, a_assigned, a_slopes) (nI w) := by
  have cw : (nI w).toNatClampNeg = w := nI_clamp (by omega)
  unfold wpX_isLeaf
  refine xw_isHandle_t hw hT (br_f ab_10 ⟨vp_in_nI hw (by decide), br_c (fun v0 => ⟨vp_in_nI (by omega) (by decide), ?_⟩) (fun _ => hp)⟩)
  rw [cw] at v0 ⊢
  rw [hS, nI_clamp (by omega), hk]
  exact ⟨vp_in_nI hs (by decide), br_f (fun z => hno ⟨v0, (nI_eq (b := 4) (by omega) (by decide)).mp z⟩) hp⟩
theorem xa_two {post : Int32 → SX → Prop} {w b N : Nat} {q : Nat → Nat} (hN : N ≤ 64) (hw : w < 24) (hb : b + N ≤ 2048) (hst : a_windowStart w = nI b) (hF : ∀ i, i < N → a_firstPlaces i = nI (q i) ∧ q i < 2048) : ∀ (k i : Nat) (A V : Nat → Int32), i + k = N → (∀ j, j < N → A j = a_values (q j)) → (∀ j, j < i → V (b + j) = a_values (q j)) → (∀ j, (j < b ∨ b + i ≤ j) → V j = a_values j) → (∀ A V : Nat → Int32, (∀ j, j < N → V (b + j) = a_values (q j)) → (∀ j, (j < b ∨ b + N ≤ j) → V j = a_values j) → post 1 (f_slotsTaken, f_elementsTaken, f_slopeCount, a_handleTaken, a_handleIsView, a_windowRank, a_windowSlot, a_windowStart, a_windowDimension, a_windowStride, a_slotSize, a_slotKind, a_slotTerms, a_slotNeeded, a_slotsByAge, V, a_derivatives, a_firstPlaces, a_secondPlaces, A, a_slopes)) → wX_assign_100 post (nI N) (nI b) f_slotsTaken f_elementsTaken f_slopeCount (k + 1) (nI i) a_handleTaken a_handleIsView a_windowRank a_windowSlot a_windowStart a_windowDimension a_windowStride a_slotSize a_slotKind a_slotTerms a_slotNeeded a_slotsByAge V a_derivatives a_firstPlaces a_secondPlaces A a_slopes := by
  intro k
  induction k with
  | zero =>
    intro i A V hi h1 h2 h3 h
    have : i = N := by omega
    subst this
    exact br_t (nI_le (by omega) (by omega)) (h A V h2 h3)
  | succ k ih =>
    intro i A V hi h1 h2 h3 h
    refine br_f (nI_ge (by omega) (by omega)) ⟨vp_in_nI (by omega) (by decide), ab_vin (nI_add _ _) (by omega) (by decide), fun V' hV' => nm_r (nI_1 i) (ih (i + 1) A V' (by omega) h1 ?_ ?_ h)⟩
    · rw [nI_add, nI_clamp (by omega), nI_clamp (by omega)] at hV'
      intro j hj
      rw [hV']
      by_cases z : j = i
      · rw [z, pk_us]; exact h1 i (by omega)
      · rw [pk_un (by omega)]; exact h2 j (by omega)
    · rw [nI_add, nI_clamp (by omega), nI_clamp (by omega)] at hV'
      intro j hj
      rw [hV', pk_un (by omega)]; exact h3 j (by omega)
theorem xa_one {post : Int32 → SX → Prop} {w b N : Nat} {q : Nat → Nat} (hN : N ≤ 64) (hw : w < 24) (hb : b + N ≤ 2048) (hst : a_windowStart w = nI b) (hF : ∀ i, i < N → a_firstPlaces i = nI (q i) ∧ q i < 2048) (h : ∀ A V : Nat → Int32, (∀ j, j < N → V (b + j) = a_values (q j)) → (∀ j, (j < b ∨ b + N ≤ j) → V j = a_values j) → post 1 (f_slotsTaken, f_elementsTaken, f_slopeCount, a_handleTaken, a_handleIsView, a_windowRank, a_windowSlot, a_windowStart, a_windowDimension, a_windowStride, a_slotSize, a_slotKind, a_slotTerms, a_slotNeeded, a_slotsByAge, V, a_derivatives, a_firstPlaces, a_secondPlaces, A, a_slopes)) : ∀ (k i : Nat) (A : Nat → Int32), i + k = N → (∀ j, j < i → A j = a_values (q j)) → wX_assign_57 post (nI w) (nI N) f_slotsTaken f_elementsTaken f_slopeCount (k + 1) (nI i) a_handleTaken a_handleIsView a_windowRank a_windowSlot a_windowStart a_windowDimension a_windowStride a_slotSize a_slotKind a_slotTerms a_slotNeeded a_slotsByAge a_values a_derivatives a_firstPlaces a_secondPlaces A a_slopes := by
  intro k
  induction k with
  | zero =>
    intro i A hi h1
    have : i = N := by omega
    subst this
    refine br_t (nI_le (by omega) (by omega)) ⟨vp_in_nI (by omega) (by decide), nm_r (e' := nI b) (by rw [nI_clamp (by omega), hst]) ⟨i + 1, xa_two hN hw hb hst hF i 0 A a_values (by omega) h1 (fun j hj => absurd hj (by omega)) (fun _ _ => rfl) h⟩⟩
  | succ k ih =>
    intro i A hi h1
    obtain ⟨f1, f2⟩ := hF i (by omega)
    refine br_f (nI_ge (by omega) (by omega)) ⟨vp_in_nI (by omega) (by decide), ?_⟩
    rw [nI_clamp (show i < 2 ^ 31 by omega), f1, nI_clamp (show q i < 2 ^ 31 by omega)]
    refine ⟨vp_in_nI f2 (by decide), vp_in_nI (by omega) (by decide), fun A' hA' => nm_r (nI_1 i) (ih (i + 1) A' (by omega) ?_)⟩
    intro j hj
    rw [hA']
    by_cases z : j = i
    · rw [z, pk_us]
    · rw [pk_un z]; exact h1 j (by omega)
end
section
variable {c_cells c_slopeCount : Int32} {b_used b_rank b_dims b_shown b_tensorOf b_view b_exists b_kind b_first b_second b_owner b_parts b_partCount b_value b_slopeOf b_order b_slopes : Nat → Int32}
theorem yb_isLeaf_t {post : Int32 → Prop} {w s : Nat} (hw : w < 24) (hU : ¬ b_used w = 0) (hV : b_view w = 0) (hS : b_tensorOf w = nI s) (hs : s < 32) (hk : b_kind s = 0) (hp : post 1) : wpY_isLeaf post (c_cells, c_slopeCount, b_used, b_rank, b_dims, b_shown, b_tensorOf, b_view, b_exists, b_kind, b_first, b_second, b_owner, b_parts, b_partCount, b_value, b_slopeOf, b_order, b_slopes) (nI w) := by
  have cw : (nI w).toNatClampNeg = w := nI_clamp (by omega)
  unfold wpY_isLeaf
  refine yb_isHandle_t hw hU (br_f ab_10 ⟨vp_in_nI (by omega) (by decide), br_t (by rw [cw]; exact hV) ⟨vp_in_nI (by omega) (by decide), ?_⟩⟩)
  rw [cw, hS, nI_clamp (by omega)]
  exact ⟨vp_in_nI hs (by decide), br_t hk hp⟩
theorem yb_isLeaf_f {post : Int32 → Prop} {w s kk : Nat} (hw : w < 24) (hU : ¬ b_used w = 0) (hS : b_tensorOf w = nI s) (hs : s < 32) (hk : b_kind s = nI kk) (hkk : kk < 7) (hno : ¬ (b_view w = 0 ∧ kk = 0)) (hp : post 0) : wpY_isLeaf post (c_cells, c_slopeCount, b_used, b_rank, b_dims, b_shown, b_tensorOf, b_view, b_exists, b_kind, b_first, b_second, b_owner, b_parts, b_partCount, b_value, b_slopeOf, b_order, b_slopes) (nI w) := by
  have cw : (nI w).toNatClampNeg = w := nI_clamp (by omega)
  unfold wpY_isLeaf
  refine yb_isHandle_t hw hU (br_f ab_10 ⟨vp_in_nI (by omega) (by decide), br_c (fun v0 => ⟨vp_in_nI (by omega) (by decide), ?_⟩) (fun _ => hp)⟩)
  rw [cw] at v0 ⊢
  rw [hS, nI_clamp (by omega), hk]
  exact ⟨vp_in_nI hs (by decide), br_f (fun z => hno ⟨v0, (nI_eq (b := 0) (by omega) (by decide)).mp z⟩) hp⟩
theorem ya_two {post : Int32 → SY → Prop} {w N : Nat} {cw cp : Nat → Nat} (hN : N ≤ 64) (hw : w < 24) (hcw : ∀ i, i < N → b_shown (64 * w + i) = nI (cw i) ∧ cw i < 320) (hinj : ∀ i j, i < N → j < N → cw i = cw j → i = j) : ∀ (k i : Nat) (A V : Nat → Int32), i + k = N → (∀ j, j < N → A j = b_value (cp j)) → (∀ j, j < i → V (cw j) = b_value (cp j)) → (∀ c, (∀ j, j < i → c ≠ cw j) → V c = b_value c) → (∀ A V : Nat → Int32, (∀ j, j < N → V (cw j) = b_value (cp j)) → (∀ c, (∀ j, j < N → c ≠ cw j) → V c = b_value c) → post 1 (c_cells, c_slopeCount, b_used, b_rank, b_dims, b_shown, b_tensorOf, b_view, b_exists, b_kind, b_first, b_second, b_owner, b_parts, b_partCount, V, A, b_order, b_slopes)) → wY_assign_84 post (nI w) (nI N) c_cells c_slopeCount (k + 1) (nI i) b_used b_rank b_dims b_shown b_tensorOf b_view b_exists b_kind b_first b_second b_owner b_parts b_partCount V A b_order b_slopes := by
  intro k
  induction k with
  | zero =>
    intro i A V hi h1 h2 h3 h
    have : i = N := by omega
    subst this
    exact br_t (nI_le (by omega) (by omega)) (h A V h2 h3)
  | succ k ih =>
    intro i A V hi h1 h2 h3 h
    obtain ⟨c1, c2⟩ := hcw i (by omega)
    refine br_f (nI_ge (by omega) (by omega)) ⟨ab_vin ab_i64 (by omega) (by decide), vp_in_nI (by omega) (by decide), ?_⟩
    rw [ab_i64, nI_clamp (show 64 * w + i < 2 ^ 31 by omega), c1, nI_clamp (show cw i < 2 ^ 31 by omega), nI_clamp (show i < 2 ^ 31 by omega)]
    refine ⟨vp_in_nI c2 (by decide), fun V' hV' => nm_r (nI_1 i) (ih (i + 1) A V' (by omega) h1 ?_ ?_ h)⟩
    · intro j hj
      rw [hV']
      by_cases z : j = i
      · rw [z, pk_us]; exact h1 i (by omega)
      · rw [pk_un (fun q => z (hinj j i (by omega) (by omega) q))]; exact h2 j (by omega)
    · intro c hc
      rw [hV', pk_un (hc i (by omega))]; exact h3 c (fun j hj => hc j (by omega))
theorem ya_one {post : Int32 → SY → Prop} {w p N : Nat} {cw cp : Nat → Nat} (hN : N ≤ 64) (hw : w < 24) (hp : p < 24) (hcw : ∀ i, i < N → b_shown (64 * w + i) = nI (cw i) ∧ cw i < 320) (hcp : ∀ i, i < N → b_shown (64 * p + i) = nI (cp i) ∧ cp i < 320) (hinj : ∀ i j, i < N → j < N → cw i = cw j → i = j) (h : ∀ A V : Nat → Int32, (∀ j, j < N → V (cw j) = b_value (cp j)) → (∀ c, (∀ j, j < N → c ≠ cw j) → V c = b_value c) → post 1 (c_cells, c_slopeCount, b_used, b_rank, b_dims, b_shown, b_tensorOf, b_view, b_exists, b_kind, b_first, b_second, b_owner, b_parts, b_partCount, V, A, b_order, b_slopes)) : ∀ (k i : Nat) (A : Nat → Int32), i + k = N → (∀ j, j < i → A j = b_value (cp j)) → wY_assign_45 post (nI w) (nI p) (nI N) c_cells c_slopeCount (k + 1) (nI i) b_used b_rank b_dims b_shown b_tensorOf b_view b_exists b_kind b_first b_second b_owner b_parts b_partCount b_value A b_order b_slopes := by
  intro k
  induction k with
  | zero =>
    intro i A hi h1
    have : i = N := by omega
    subst this
    exact br_t (nI_le (by omega) (by omega)) ⟨i + 1, ya_two hN hw hcw hinj i 0 A b_value (by omega) h1 (fun j hj => absurd hj (by omega)) (fun _ _ => rfl) h⟩
  | succ k ih =>
    intro i A hi h1
    obtain ⟨c1, c2⟩ := hcp i (by omega)
    refine br_f (nI_ge (by omega) (by omega)) ⟨ab_vin ab_i64 (by omega) (by decide), ?_⟩
    rw [ab_i64, nI_clamp (show 64 * p + i < 2 ^ 31 by omega), c1, nI_clamp (show cp i < 2 ^ 31 by omega), nI_clamp (show i < 2 ^ 31 by omega)]
    refine ⟨vp_in_nI c2 (by decide), vp_in_nI (by omega) (by decide), fun A' hA' => nm_r (nI_1 i) (ih (i + 1) A' (by omega) ?_)⟩
    intro j hj
    rw [hA']
    by_cases z : j = i
    · rw [z, pk_us]
    · rw [pk_un z]; exact h1 j (by omega)
end
theorem ab_pki {r1 r2 : Nat} {d1 d2 : Nat → Nat} (h1 : ab_sh3 r1 d1) (h2 : ab_sh3 r2 d2) (h : ab_pk r1 d1 = ab_pk r2 d2) : d1 0 * d1 1 * d1 2 = d2 0 * d2 1 * d2 2 := by
  obtain ⟨a1, a2, a3, a4, a5⟩ := ab_pkf h1
  obtain ⟨b1, b2, b3, b4, b5⟩ := ab_pkf h2
  have hr : r1 = r2 := by rw [← a2, ← b2, h]
  subst hr
  rw [h] at a3 a4 a5
  have E : ∀ i, i < 3 → d1 i = d2 i := by
    intro i hi
    by_cases z : r1 ≤ i
    · rw [h1.2.1 i z hi, h2.2.1 i z hi]
    · rcases (show i = 0 ∨ i = 1 ∨ i = 2 by omega) with rfl | rfl | rfl
      · rw [← a3 (by omega), ← b3 (by omega)]
      · rw [← a4 (by omega), ← b4 (by omega)]
      · rw [← a5 (by omega), ← b5 (by omega)]
  rw [E 0 (by omega), E 1 (by omega), E 2 (by omega)]
theorem i_vc_assign {k : Nat} {u : SX} {v : SY} (I : i_Rel k u v) (hk : k + 5 ≤ 2560) (v1 : Int32) (v2 : Int32) : wpX_assign (fun r u' => wpY_assign (fun r' v' => r' = r ∧ i_Rel (k + 5) u' v') v v1 v2) u v1 v2 := by
  obtain ⟨f_slotsTaken, f_elementsTaken, f_slopeCount, a_handleTaken, a_handleIsView, a_windowRank, a_windowSlot, a_windowStart, a_windowDimension, a_windowStride, a_slotSize, a_slotKind, a_slotTerms, a_slotNeeded, a_slotsByAge, a_values, a_derivatives, a_firstPlaces, a_secondPlaces, a_assigned, a_slopes⟩ := u
  obtain ⟨c_cells, c_slopeCount, b_used, b_rank, b_dims, b_shown, b_tensorOf, b_view, b_exists, b_kind, b_first, b_second, b_owner, b_parts, b_partCount, b_value, b_slopeOf, b_order, b_slopes⟩ := v
  have I' := I
  obtain ⟨rk, sl, d, G, ages, sz, kd, tm, yk, cl, hX, hY, hS⟩ := I'
  have hu := hY.1.1
  have hvw := hY.1.2
  by_cases hH : ab_isH a_handleTaken v1
  · obtain ⟨w, hw, rfl, hT⟩ := hH
    obtain ⟨w1, w2, w3, w4⟩ := hX.2.2.2.2 w hw hT
    have yw := hY.2.2.2.2.1 w hw hT
    have hU : ¬ b_used w = 0 := by rw [hu]; exact hT
    have s32 := hX.2.2.1.2.1 _ w3.2.1
    have xs := hX.2.2.2.1 _ w3.2.1
    have ys := hY.2.2.2.2.2.1 _ w3.2.1
    have kr := rl_krL ys.2.1
    have nw := (rl_hk hX).2 w hw hT
    by_cases hlf : a_handleIsView w = 0 ∧ kd (sl w) = 4
    · obtain ⟨hv0, hk4⟩ := hlf
      have Lx : a_slotKind (sl w) = 4 := by rw [xs.2.2.2.1, hk4]; rfl
      have Ly : b_kind (sl w) = 0 := by rw [ys.1, kr.2.2.mp hk4]; rfl
      unfold wpX_assign
      refine xw_isLeaf_t hw hT hv0 w3.1 s32 Lx (br_f ab_10 ?_)
      by_cases hK : ab_isH a_handleTaken v2
      · obtain ⟨p, hp, rfl, hTp⟩ := hK
        obtain ⟨p1, p2, p3, p4⟩ := hX.2.2.2.2 p hp hTp
        have yp := hY.2.2.2.2.1 p hp hTp
        have hUp : ¬ b_used p = 0 := by rw [hu]; exact hTp
        have npp := (rl_hk hX).2 p hp hTp
        have pw := (ab_pkf w2).1
        have pp := (ab_pkf p2).1
        refine xw_isHandle_t hp hTp (br_f ab_10 (xw_packedShape (by omega) w2 w1 (fun a ha => (w3.2.2.1 a ha).1) (xw_packedShape (by omega) p2 p1 (fun a ha => (p3.2.2.1 a ha).1) ?_)))
        by_cases hsh : ab_pk (rk w) (d w) = ab_pk (rk p) (d p)
        · have hn : rl_n d w = rl_n d p := ab_pki w2 p2 hsh
          obtain ⟨st, pf⟩ := w4 hv0
          refine br_t (by rw [hsh]) (xk_compute hX (fun V F S hd hv => xl_win_firstPlaces (by omega) p3 (fun F' hF' => ⟨rl_n d p + 1, ?_⟩)))
          have sz64 := xs.2.2.1
          refine xa_one (w := w) (b := 64 * sl w) (N := rl_n d p) (q := fun i => rl_p d G p i) npp hw (by omega) st (fun i hi => ⟨hF' i hi, (rl_pmem hX p3).2⟩) (fun A V' v1 v2 => ?_) (rl_n d p) 0 a_assigned (by omega) (fun j hj => absurd hj (by omega))
          unfold wpY_assign
          refine yb_isLeaf_t hw hU (by rw [hvw]; exact hv0) yw.2.2.1 s32 Ly (br_f ab_10 (yb_isHandle_t hp hUp (br_f ab_10 (yb_shape hw hU (rl_row w2 yw) (yb_shape hp hUp (rl_row p2 yp) (br_t (by rw [hsh]) ?_))))))
          refine yk_work (V := V) hX hY hd (fun p hp hk4 => by rw [hv p hk4]; exact hY.2.2.2.2.2.2 p hp hk4) (fun W Sl q1 _ _ => yb_size (by omega) (rl_row w2 yw) ⟨rl_n d w + 1, ?_⟩)
          have hO := hY.2.2.1
          refine ya_one (w := w) (p := p) (N := rl_n d w) (cw := fun i => cl (rl_p d G w i)) (cp := fun i => cl (rl_p d G p i)) nw hw hp (fun i hi => ⟨yw.2.2.2 i hi, (hO.1 _ (rl_pmem hX w3).1).1⟩) (fun i hi => ⟨yp.2.2.2 i (by rw [← hn]; exact hi), (hO.1 _ (rl_pmem hX p3).1).1⟩) ?_ (fun A' W' x1 x2 => ⟨rfl, ?_⟩) (rl_n d w) 0 Sl (by omega) (fun j hj => absurd hj (by omega))
          · intro i j hi hj e
            have e1 := hO.2.1 _ _ (rl_pmem hX w3).1 (rl_pmem hX w3).1 e
            rw [pf i hi, pf j hj] at e1
            omega
          · obtain ⟨y1, y2, y3, y4, y5, y6, y7⟩ := hY
            refine rl_mk (k + 5) rk sl d G ages sz kd tm yk cl hX ⟨y1, y2, y3, y4, y5, y6, fun r hr hkr => ?_⟩ hS
            by_cases z : ∃ j, j < rl_n d w ∧ r = 64 * sl w + j
            · obtain ⟨j, hj, rfl⟩ := z
              rw [v1 j (by rw [← hn]; exact hj), ← pf j hj, x1 j hj]
              exact q1 _ (rl_pmem hX p3).1
            · rw [x2 (cl r) (fun j hj e => z ⟨j, hj, by rw [← pf j hj]; exact hO.2.1 _ _ hr (rl_pmem hX w3).1 e⟩), q1 r hr]
              refine (v2 r ?_).symm
              apply Classical.byContradiction
              intro y
              exact z ⟨r - 64 * sl w, by rw [hn]; omega, by omega⟩
        · refine br_f (fun z => hsh ((nI_eq (by omega) (by omega)).mp z)) ?_
          unfold wpY_assign
          exact yb_isLeaf_t hw hU (by rw [hvw]; exact hv0) yw.2.2.1 s32 Ly (br_f ab_10 (yb_isHandle_t hp hUp (br_f ab_10 (yb_shape hw hU (rl_row w2 yw) (yb_shape hp hUp (rl_row p2 yp) (br_f (fun z => hsh ((nI_eq (by omega) (by omega)).mp z)) ⟨rfl, I⟩))))))
      · refine xw_isHandle_f hK (br_t rfl ?_)
        unfold wpY_assign
        exact yb_isLeaf_t hw hU (by rw [hvw]; exact hv0) yw.2.2.1 s32 Ly (br_f ab_10 (yb_isHandle_f (by rw [hu]; exact hK) (br_t rfl ⟨rfl, I⟩)))
    · unfold wpX_assign
      refine xw_isLeaf_f hw hT w3.1 s32 xs.2.2.2.1 xs.2.2.2.2.1 hlf (br_t rfl ?_)
      unfold wpY_assign
      exact yb_isLeaf_f hw hU yw.2.2.1 s32 ys.1 kr.1 (fun z => hlf ⟨by rw [← hvw]; exact z.1, kr.2.2.mpr z.2⟩) (br_t rfl ⟨rfl, I⟩)
  · unfold wpX_assign wpX_isLeaf
    refine xw_isHandle_f hH (br_t rfl (br_t rfl ?_))
    unfold wpY_assign wpY_isLeaf
    exact yb_isHandle_f (by rw [hu]; exact hH) (br_t rfl (br_t rfl ⟨rfl, I⟩))
