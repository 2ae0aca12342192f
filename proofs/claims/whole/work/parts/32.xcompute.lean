def cp_df (d : Nat → Nat → Nat) (G : Nat → Nat → Nat → Nat → Nat) (sz kd tm : Nat → Nat) (V : Nat → Int32) (s : Nat) : Prop := ∀ i, i < sz s → V (64 * s + i) = ab_sm (fun t => ab_tv (kd s) (V (rl_p d G (24 + 2 * s) (i * tm s + t))) (V (rl_p d G (25 + 2 * s) (i * tm s + t)))) (tm s)
section
variable {f_slotsTaken f_elementsTaken f_slopeCount : Int32} {a_handleTaken a_handleIsView a_windowRank a_windowSlot a_windowStart a_windowDimension a_windowStride a_slotSize a_slotKind a_slotTerms a_slotNeeded a_slotsByAge a_values a_derivatives a_firstPlaces a_secondPlaces a_assigned a_slopes : Nat → Int32}
theorem xk_tv {post : Int32 → Prop} {k : Nat} {a b : Int32} (hk : k ≤ 3) (h : post (ab_tv k a b)) : wpX_termValue post (f_slotsTaken, f_elementsTaken, f_slopeCount, a_handleTaken, a_handleIsView, a_windowRank, a_windowSlot, a_windowStart, a_windowDimension, a_windowStride, a_slotSize, a_slotKind, a_slotTerms, a_slotNeeded, a_slotsByAge, a_values, a_derivatives, a_firstPlaces, a_secondPlaces, a_assigned, a_slopes) (nI k) a b := by
  unfold ab_tv at h
  rcases (show k = 0 ∨ k = 1 ∨ k = 2 ∨ k = 3 by omega) with rfl | rfl | rfl | rfl
  · exact br_f (by decide) (br_f (by decide) (br_t rfl h))
  · exact br_f (by decide) (br_f (by decide) (br_f (by decide) (br_t rfl h)))
  · exact br_f (by decide) (br_f (by decide) (br_f (by decide) (br_f (by decide) (br_t rfl h))))
  · exact br_f (by decide) (br_t (by decide) h)
theorem xk_in {post : SX → Prop} {J49 : Int32 → Int32 → (Nat → Int32) → (Nat → Int32) → (Nat → Int32) → (Nat → Int32) → (Nat → Int32) → (Nat → Int32) → (Nat → Int32) → (Nat → Int32) → (Nat → Int32) → (Nat → Int32) → (Nat → Int32) → (Nat → Int32) → (Nat → Int32) → (Nat → Int32) → (Nat → Int32) → (Nat → Int32) → (Nat → Int32) → (Nat → Int32) → Prop} {s i kk tt : Nat} {x3 : Int32} {q1 q2 : Nat → Nat} {V0 : Nat → Int32} (hs : s < 32) (hi : i < 64) (hk : kk ≤ 3) (hkd : a_slotKind s = nI kk) (ht4 : tt ≤ 4) (hl : ∀ t, t < tt → i * tt + t < 64) (hF : ∀ t, t < tt → a_firstPlaces (i * tt + t) = nI (q1 (i * tt + t)) ∧ q1 (i * tt + t) < 2048) (hS : ∀ t, t < tt → a_secondPlaces (i * tt + t) = nI (q2 (i * tt + t)) ∧ q2 (i * tt + t) < 2048) (hV : ∀ t, t < tt → a_values (q1 (i * tt + t)) = V0 (q1 (i * tt + t)) ∧ a_values (q2 (i * tt + t)) = V0 (q2 (i * tt + t))) (h : J49 (nI (i * tt + tt)) (nI (i + 1)) a_handleTaken a_handleIsView a_windowRank a_windowSlot a_windowStart a_windowDimension a_windowStride a_slotSize a_slotKind a_slotTerms a_slotNeeded a_slotsByAge (upd a_values (64 * s + i) (ab_sm (fun t => ab_tv kk (V0 (q1 (i * tt + t))) (V0 (q2 (i * tt + t)))) tt)) a_derivatives a_firstPlaces a_secondPlaces a_assigned a_slopes) : ∀ k t : Nat, t + k = tt → wX_computeSlot_61 post J49 (nI s) x3 (nI tt) (nI i) f_slotsTaken f_elementsTaken f_slopeCount a_handleTaken a_handleIsView a_windowRank a_windowSlot a_windowStart a_windowDimension a_windowStride a_slotSize a_slotKind a_slotTerms a_slotNeeded a_slotsByAge a_values a_derivatives a_firstPlaces a_secondPlaces a_assigned a_slopes (k + 1) (nI (i * tt + t)) (ab_sm (fun t => ab_tv kk (V0 (q1 (i * tt + t))) (V0 (q2 (i * tt + t)))) t) (nI t) := by
  intro k
  induction k with
  | zero =>
    intro t ht
    have : t = tt := by omega
    subst this
    have e1 : nI s * 64 + nI i = nI (64 * s + i) := by
      show nI s * nI 64 + nI i = _
      rw [pk_mul, nI_add, Nat.mul_comm]
    refine br_t (nI_le (by omega) (by omega)) ⟨ab_vin e1 (by omega) (by decide), fun V hV' => nm_r (nI_1 i) ?_⟩
    rw [e1, nI_clamp (by omega)] at hV'
    subst hV'
    exact h
  | succ k ih =>
    intro t ht
    have l64 := hl t (by omega)
    obtain ⟨f1, f2⟩ := hF t (by omega)
    obtain ⟨g1, g2⟩ := hS t (by omega)
    obtain ⟨v1, v2⟩ := hV t (by omega)
    have hv64 : vp_in (nI (i * tt + t)) 64 := vp_in_nI l64 (by decide)
    refine br_f (nI_ge (by omega) (by omega)) ?_
    rw [nI_clamp (show i * tt + t < 2 ^ 31 by omega), nI_clamp (show s < 2 ^ 31 by omega), f1, g1, hkd, nI_clamp (show q1 (i * tt + t) < 2 ^ 31 by omega), nI_clamp (show q2 (i * tt + t) < 2 ^ 31 by omega), v1, v2]
    refine ⟨vp_in_nI hs (by decide), hv64, vp_in_nI f2 (by decide), hv64, vp_in_nI g2 (by decide), xk_tv hk (nm_e (nm_r (nI_1 _) (nm_r (nI_1 t) (ih (t + 1) (by omega)))))⟩
theorem xk_slot {post : SX → Prop} {rk sl sz kd tm : Nat → Nat} {d : Nat → Nat → Nat} {G : Nat → Nat → Nat → Nat → Nat} {ages : List Nat} {s : Nat} (hX : rl_X rk sl d G ages sz kd tm f_slotsTaken f_elementsTaken a_handleTaken a_handleIsView a_windowRank a_windowSlot a_windowStart a_windowDimension a_windowStride a_slotSize a_slotKind a_slotTerms a_slotsByAge) (hs : s ∈ ages) (hk4 : kd s ≠ 4) (h1 : sl (24 + 2 * s) ≠ s) (h2 : sl (25 + 2 * s) ≠ s) (h : ∀ V F S : Nat → Int32, (∀ i, i < sz s → V (64 * s + i) = ab_sm (fun t => ab_tv (kd s) (a_values (rl_p d G (24 + 2 * s) (i * tm s + t))) (a_values (rl_p d G (25 + 2 * s) (i * tm s + t)))) (tm s)) → (∀ j, j / 64 ≠ s → V j = a_values j) → post (f_slotsTaken, f_elementsTaken, f_slopeCount, a_handleTaken, a_handleIsView, a_windowRank, a_windowSlot, a_windowStart, a_windowDimension, a_windowStride, a_slotSize, a_slotKind, a_slotTerms, a_slotNeeded, a_slotsByAge, V, a_derivatives, F, S, a_assigned, a_slopes)) : wpX_computeSlot post (f_slotsTaken, f_elementsTaken, f_slopeCount, a_handleTaken, a_handleIsView, a_windowRank, a_windowSlot, a_windowStart, a_windowDimension, a_windowStride, a_slotSize, a_slotKind, a_slotTerms, a_slotNeeded, a_slotsByAge, a_values, a_derivatives, a_firstPlaces, a_secondPlaces, a_assigned, a_slopes) (nI s) := by
  have s32 := hX.2.2.1.2.1 s hs
  obtain ⟨z1, z2, z3, z4, z5, z6⟩ := hX.2.2.2.1 s hs
  obtain ⟨q1, q2, q3, q4, q5, q6, q7⟩ := z6 hk4
  have cs : (nI s).toNatClampNeg = s := nI_clamp (by omega)
  have n1 : sz s * tm s ≤ 64 := by
    rw [← q4]
    exact ab_sz (q6.2.2.1 0 (by omega)).2.2 (q6.2.2.1 1 (by omega)).2.2 (q6.2.2.1 2 (by omega)).2.2
  have lin : ∀ i t, i < sz s → t < tm s → i * tm s + t < sz s * tm s := fun i t hi ht => ab_lin1 hi ht
  unfold wpX_computeSlot
  refine xw_firstSource (xl_win_firstPlaces (by omega) q6 (fun F hF => ?_))
  rw [show nI (24 + 2 * s) + 1 = nI (25 + 2 * s) from by rw [nI_1]; congr 1; omega]
  refine xl_win_secondPlaces (by omega) q7 (fun S hS => ⟨vp_in_nI s32 (by decide), nm_r (e' := nI (sz s)) (by rw [cs, z1]) ⟨vp_in_nI s32 (by decide), nm_r (e' := nI (tm s)) (by rw [cs, q1]) ⟨sz s + 1, ?_⟩⟩⟩)
  have p1 : ∀ e, rl_p d G (24 + 2 * s) e < 2048 ∧ rl_p d G (24 + 2 * s) e / 64 ≠ s := fun e => ⟨(rl_pmem hX q6).2, by rw [(rl_pin q6).1]; exact h1⟩
  have p2 : ∀ e, rl_p d G (25 + 2 * s) e < 2048 ∧ rl_p d G (25 + 2 * s) e / 64 ≠ s := fun e => ⟨(rl_pmem hX q7).2, by rw [(rl_pin q7).1]; exact h2⟩
  have L : ∀ (k i : Nat) (V : Nat → Int32), i + k = sz s → (∀ i', i' < i → V (64 * s + i') = ab_sm (fun t => ab_tv (kd s) (a_values (rl_p d G (24 + 2 * s) (i' * tm s + t))) (a_values (rl_p d G (25 + 2 * s) (i' * tm s + t)))) (tm s)) → (∀ j, j / 64 ≠ s → V j = a_values j) → wX_computeSlot_49 post (nI s) (nI (sz s)) (nI (tm s)) f_slotsTaken f_elementsTaken f_slopeCount (k + 1) (nI (i * tm s)) (nI i) a_handleTaken a_handleIsView a_windowRank a_windowSlot a_windowStart a_windowDimension a_windowStride a_slotSize a_slotKind a_slotTerms a_slotNeeded a_slotsByAge V a_derivatives F S a_assigned a_slopes := by
    intro k
    induction k with
    | zero =>
      intro i V hi v1 v2
      exact br_t (nI_le (by omega) (by omega)) (h V F S (fun i' hi' => v1 i' (by omega)) v2)
    | succ k ih =>
      intro i V hi v1 v2
      refine br_f (nI_ge (by omega) (by omega)) ⟨tm s + 1, ?_⟩
      refine xk_in (kk := kd s) (q1 := rl_p d G (24 + 2 * s)) (q2 := rl_p d G (25 + 2 * s)) (V0 := a_values) s32 (by omega) (by omega) z4 q3 (fun t ht => by have := lin i t (by omega) ht; omega) (fun t ht => ⟨hF _ (by rw [q4]; exact lin i t (by omega) ht), (p1 _).1⟩) (fun t ht => ⟨hS _ (by rw [q5]; exact lin i t (by omega) ht), (p2 _).1⟩) (fun t ht => ⟨v2 _ (p1 _).2, v2 _ (p2 _).2⟩) ?_ (tm s) 0 (by omega)
      rw [show i * tm s + tm s = (i + 1) * tm s from by rw [Nat.add_mul, Nat.one_mul]]
      refine ih (i + 1) _ (by omega) ?_ ?_
      · intro i' hi'
        by_cases z : i' = i
        · rw [z, pk_us]
        · rw [pk_un (by omega)]; exact v1 i' (by omega)
      · intro j hj
        rw [pk_un (by omega)]; exact v2 j hj
  have := L (sz s) 0 a_values (by omega) (fun i' hi' => absurd hi' (by omega)) (fun _ _ => rfl)
  rw [Nat.zero_mul] at this
  exact this
theorem xk_compute {post : SX → Prop} {rk sl sz kd tm : Nat → Nat} {d : Nat → Nat → Nat} {G : Nat → Nat → Nat → Nat → Nat} {ages : List Nat} (hX : rl_X rk sl d G ages sz kd tm f_slotsTaken f_elementsTaken a_handleTaken a_handleIsView a_windowRank a_windowSlot a_windowStart a_windowDimension a_windowStride a_slotSize a_slotKind a_slotTerms a_slotsByAge) (h : ∀ V F S : Nat → Int32, (∀ s, s ∈ ages → kd s ≠ 4 → cp_df d G sz kd tm V s) → (∀ p, kd (p / 64) = 4 → V p = a_values p) → post (f_slotsTaken, f_elementsTaken, f_slopeCount, a_handleTaken, a_handleIsView, a_windowRank, a_windowSlot, a_windowStart, a_windowDimension, a_windowStride, a_slotSize, a_slotKind, a_slotTerms, a_slotNeeded, a_slotsByAge, V, a_derivatives, F, S, a_assigned, a_slopes)) : wpX_computeResults post (f_slotsTaken, f_elementsTaken, f_slopeCount, a_handleTaken, a_handleIsView, a_windowRank, a_windowSlot, a_windowStart, a_windowDimension, a_windowStride, a_slotSize, a_slotKind, a_slotTerms, a_slotNeeded, a_slotsByAge, a_values, a_derivatives, a_firstPlaces, a_secondPlaces, a_assigned, a_slopes) := by
  have L : ∀ (rest pre : List Nat) (V F S : Nat → Int32), ages = pre.reverse ++ rest → rl_or kd sl pre rest → (∀ s, s ∈ pre → kd s ≠ 4 → (sl (24 + 2 * s) ∈ pre ∧ sl (25 + 2 * s) ∈ pre) ∧ cp_df d G sz kd tm V s) → (∀ p, kd (p / 64) = 4 → V p = a_values p) → wX_computeResults_2 post (rest.length + 1) (nI pre.length) f_slotsTaken f_elementsTaken f_slopeCount a_handleTaken a_handleIsView a_windowRank a_windowSlot a_windowStart a_windowDimension a_windowStride a_slotSize a_slotKind a_slotTerms a_slotNeeded a_slotsByAge V a_derivatives F S a_assigned a_slopes := by
    intro rest
    induction rest with
    | nil =>
      intro pre V F S ha ho hd hv
      rw [List.append_nil] at ha
      have m32 := ab_pg2 32 ages hX.2.2.1.1 hX.2.2.1.2.1
      have hlen : ages.length = pre.length := by rw [ha, List.length_reverse]
      refine br_t (by rw [hX.1.1, hlen]; exact nI_le (by omega) (by omega)) (h V F S (fun s hs hk => ?_) hv)
      rw [ha, List.mem_reverse] at hs
      exact (hd s hs hk).2
    | cons s rest ih =>
      intro pre V F S ha ho hd hv
      have m32 := ab_pg2 32 ages hX.2.2.1.1 hX.2.2.1.2.1
      have hlen : ages.length = pre.length + (rest.length + 1) := by rw [ha, List.length_append, List.length_reverse, List.length_cons]
      have hget : ages[pre.length]? = some s := by
        rw [ha, List.getElem?_append_right (by rw [List.length_reverse]; omega), List.length_reverse, Nat.sub_self]; rfl
      have hAg := hX.1.2 _ _ hget
      have hs : s ∈ ages := by rw [ha]; simp
      have s32 := hX.2.2.1.2.1 s hs
      have hsp : s ∉ pre := by
        have hn := hX.2.2.1.1
        rw [ha, List.nodup_append] at hn
        intro z
        exact hn.2.2 s (List.mem_reverse.mpr z) s (by simp) rfl
      have xs := hX.2.2.2.1 s hs
      have hA' : ages = (s :: pre).reverse ++ rest := by rw [ha]; simp
      refine br_f (by rw [hX.1.1, hlen]; exact nI_ge (by omega) (by omega)) ⟨vp_in_nI (by omega) (by decide), nm_r (e' := nI s) (by rw [nI_clamp (by omega), hAg]) ⟨vp_in_nI s32 (by decide), ?_⟩⟩
      rw [nI_clamp (show s < 2 ^ 31 by omega), xs.2.2.2.1]
      by_cases k4 : kd s = 4
      · refine br_t (by rw [k4]; rfl) (nm_r (nI_1 _) (ih (s :: pre) V F S hA' ho.2 ?_ hv))
        intro t ht htk
        rcases List.mem_cons.mp ht with q | q
        · rw [q] at htk; exact absurd k4 htk
        · obtain ⟨a, b⟩ := hd t q htk
          exact ⟨⟨List.mem_cons_of_mem _ a.1, List.mem_cons_of_mem _ a.2⟩, b⟩
      · obtain ⟨o1, o2⟩ := ho.1 k4
        refine br_f (fun z => k4 ((nI_eq (b := 4) (by have := xs.2.2.2.2.1; omega) (by decide)).mp z)) ?_
        refine xk_slot (d := d) (G := G) (rk := rk) hX hs k4 (fun z => hsp (z ▸ o1)) (fun z => hsp (z ▸ o2)) (fun V' F' S' v1 v2 => nm_r (nI_1 _) (ih (s :: pre) V' F' S' hA' ho.2 ?_ ?_))
        · have rd : ∀ t, t ∈ ages → kd t ≠ 4 → sl (24 + 2 * t) ≠ s → sl (25 + 2 * t) ≠ s → ∀ e, V' (rl_p d G (24 + 2 * t) e) = V (rl_p d G (24 + 2 * t) e) ∧ V' (rl_p d G (25 + 2 * t) e) = V (rl_p d G (25 + 2 * t) e) := by
            intro t ht htk e1 e2 e
            obtain ⟨_, _, _, _, _, w6, w7⟩ := (hX.2.2.2.1 t ht).2.2.2.2.2 htk
            exact ⟨v2 _ (by rw [(rl_pin w6).1]; exact e1), v2 _ (by rw [(rl_pin w7).1]; exact e2)⟩
          intro t ht htk
          rcases List.mem_cons.mp ht with q | q
          · subst q
            refine ⟨⟨List.mem_cons_of_mem _ o1, List.mem_cons_of_mem _ o2⟩, fun i hi => ?_⟩
            rw [v1 i hi]
            refine ab_smg (fun r hr => ?_)
            obtain ⟨a, b⟩ := rd t hs htk (fun z => hsp (z ▸ o1)) (fun z => hsp (z ▸ o2)) (i * tm t + r)
            rw [a, b]
          · obtain ⟨a, b⟩ := hd t q htk
            have hta : t ∈ ages := by rw [ha]; simp [q]
            refine ⟨⟨List.mem_cons_of_mem _ a.1, List.mem_cons_of_mem _ a.2⟩, fun i hi => ?_⟩
            have hts : t ≠ s := fun z => hsp (z ▸ q)
            have i64 := (hX.2.2.2.1 t hta).2.2.1
            rw [v2 (64 * t + i) (by omega), b i hi]
            refine ab_smg (fun r hr => ?_)
            obtain ⟨a', b'⟩ := rd t hta htk (fun z => hsp (z ▸ a.1)) (fun z => hsp (z ▸ a.2)) (i * tm t + r)
            rw [a', b']
        · intro p hp
          rw [v2 p (fun z => k4 (z ▸ hp))]; exact hv p hp
  exact ⟨ages.length + 1, L ages [] a_values a_firstPlaces a_secondPlaces rfl hX.2.2.1.2.2.2 (fun s hs => absurd hs (by simp)) (fun _ _ => rfl)⟩
end
