def gd_w (kd : Nat → Nat) (fl : List Nat) (l : List Nat) (S : Nat → Int32) (p : Nat) : Int32 := if p ∈ fl ∧ (p / 64 ∈ l ∨ kd (p / 64) = 4) then S p else 0
section
variable {f_slotsTaken f_elementsTaken f_slopeCount : Int32} {a_handleTaken a_handleIsView a_windowRank a_windowSlot a_windowStart a_windowDimension a_windowStride a_slotSize a_slotKind a_slotTerms a_slotNeeded a_slotsByAge a_values a_derivatives a_firstPlaces a_secondPlaces a_assigned a_slopes : Nat → Int32}
theorem xg_tail {post : Int32 → SX → Prop} {b N : Nat} (hN : N ≤ 64) (hb : b + N ≤ 2048) (h : ∀ S : Nat → Int32, (∀ i, i < N → S i = a_derivatives (b + i)) → post 1 (f_slotsTaken, f_elementsTaken, nI N, a_handleTaken, a_handleIsView, a_windowRank, a_windowSlot, a_windowStart, a_windowDimension, a_windowStride, a_slotSize, a_slotKind, a_slotTerms, a_slotNeeded, a_slotsByAge, a_values, a_derivatives, a_firstPlaces, a_secondPlaces, a_assigned, S)) : ∀ (k i : Nat) (S : Nat → Int32), i + k = N → (∀ j, j < i → S j = a_derivatives (b + j)) → wX_gradient_86 post (nI N) (nI b) f_slotsTaken f_elementsTaken f_slopeCount (k + 1) (nI i) a_handleTaken a_handleIsView a_windowRank a_windowSlot a_windowStart a_windowDimension a_windowStride a_slotSize a_slotKind a_slotTerms a_slotNeeded a_slotsByAge a_values a_derivatives a_firstPlaces a_secondPlaces a_assigned S := by
  intro k
  induction k with
  | zero =>
    intro i S hi h1
    have : i = N := by omega
    subst this
    exact br_t (nI_le (by omega) (by omega)) (h S h1)
  | succ k ih =>
    intro i S hi h1
    refine br_f (nI_ge (by omega) (by omega)) ⟨ab_vin (nI_add _ _) (by omega) (by decide), vp_in_nI (by omega) (by decide), fun S' hS' => nm_r (nI_1 i) (ih (i + 1) S' (by omega) ?_)⟩
    rw [nI_add, nI_clamp (by omega), nI_clamp (by omega)] at hS'
    intro j hj
    rw [hS']
    by_cases z : j = i
    · rw [z, pk_us]
    · rw [pk_un z]; exact h1 j (by omega)
theorem xg_loop {post : Int32 → SX → Prop} {rk sl sz kd tm : Nat → Nat} {d : Nat → Nat → Nat} {G : Nat → Nat → Nat → Nat → Nat} {ages : List Nat} {x2 : Int32} {C : (Nat → Int32) → Int32} (hX : rl_X rk sl d G ages sz kd tm f_slotsTaken f_elementsTaken a_handleTaken a_handleIsView a_windowRank a_windowSlot a_windowStart a_windowDimension a_windowStride a_slotSize a_slotKind a_slotTerms a_slotsByAge) (h : ∀ (D F S : Nat → Int32) (n : Nat), (∀ S : Nat → Int32, (∀ s, s ∈ ages → kd s ≠ 4 → ∀ i, i < sz s → S (64 * s + i) = gd_t kd tm d G a_values S s i) → gd_L D (gd_w kd (ab_fl sz ages) [] S) = C S) → wX_gradient_34 post x2 (n + 1) (-1) f_slotsTaken f_elementsTaken f_slopeCount a_handleTaken a_handleIsView a_windowRank a_windowSlot a_windowStart a_windowDimension a_windowStride a_slotSize a_slotKind a_slotTerms a_slotNeeded a_slotsByAge a_values D F S a_assigned a_slopes) : ∀ (rl done : List Nat) (D F S : Nat → Int32), ages = rl.reverse ++ done → (∀ S : Nat → Int32, (∀ s, s ∈ ages → kd s ≠ 4 → ∀ i, i < sz s → S (64 * s + i) = gd_t kd tm d G a_values S s i) → gd_L D (gd_w kd (ab_fl sz ages) rl S) = C S) → wX_gradient_34 post x2 (rl.length + 1) (nI rl.length - 1) f_slotsTaken f_elementsTaken f_slopeCount a_handleTaken a_handleIsView a_windowRank a_windowSlot a_windowStart a_windowDimension a_windowStride a_slotSize a_slotKind a_slotTerms a_slotNeeded a_slotsByAge a_values D F S a_assigned a_slopes := by
  intro rl
  induction rl with
  | nil =>
    intro done D F S ha hI
    have := h D F S 0 hI
    exact this
  | cons s rl ih =>
    intro done D F S ha hI
    have m32 := ab_pg2 32 ages hX.2.2.1.1 hX.2.2.1.2.1
    have ha' : ages = rl.reverse ++ (s :: done) := by rw [ha]; simp
    have hlen : ages.length = rl.length + (done.length + 1) := by rw [ha', List.length_append, List.length_reverse, List.length_cons]
    have hget : ages[rl.length]? = some s := by
      rw [ha', List.getElem?_append_right (by rw [List.length_reverse]; omega), List.length_reverse, Nat.sub_self]; rfl
    have hAg := hX.1.2 _ _ hget
    have hs : s ∈ ages := by rw [ha']; simp
    have s32 := hX.2.2.1.2.1 s hs
    have hsp : s ∉ rl := by
      have hn := hX.2.2.1.1
      rw [ha', List.nodup_append] at hn
      intro z
      exact hn.2.2 s (List.mem_reverse.mpr z) s (by simp) rfl
    have xs := hX.2.2.2.1 s hs
    have e0 : nI (s :: rl).length - 1 = nI rl.length := nI_pred _
    have e1 : nI rl.length + (-1) = nI rl.length - 1 := by grind
    rw [e0]
    refine br_f (nI_pos (by omega)) ⟨vp_in_nI (by omega) (by decide), nm_r (e' := nI s) (by rw [nI_clamp (by omega), hAg]) ⟨vp_in_nI s32 (by decide), ?_⟩⟩
    rw [nI_clamp (show s < 2 ^ 31 by omega), xs.2.2.2.1]
    by_cases k4 : kd s = 4
    · refine br_t (by rw [k4]; rfl) (nm_r e1 (ih (s :: done) D F S ha' (fun S' hS' => ?_)))
      rw [← hI S' hS']
      refine gd_g (fun p _ => ?_)
      unfold gd_w
      by_cases z : p ∈ ab_fl sz ages ∧ (p / 64 ∈ rl ∨ kd (p / 64) = 4)
      · rw [if_pos z, if_pos ⟨z.1, by rcases z.2 with q | q; exact Or.inl (List.mem_cons_of_mem _ q); exact Or.inr q⟩]
      · rw [if_neg z, if_neg (fun y => z ⟨y.1, by
          rcases y.2 with q | q
          · rcases List.mem_cons.mp q with r | r
            · exact Or.inr (by rw [r]; exact k4)
            · exact Or.inl r
          · exact Or.inr q⟩)]
    · have ho := hX.2.2.1.2.2.2
      rw [ha'] at ho
      obtain ⟨o1, o2⟩ := rl_orS ho k4
      rw [List.nil_append, List.mem_reverse] at o1 o2
      obtain ⟨u1, u2, u3, u4, u5, u6, u7⟩ := xs.2.2.2.2.2 k4
      refine br_f (fun z => k4 ((nI_eq (b := 4) (by have := xs.2.2.2.2.1; omega) (by decide)).mp z)) ?_
      refine xg_pass (d := d) (G := G) (rk := rk) hX hs k4 (fun z => hsp (z ▸ o1)) (fun z => hsp (z ▸ o2)) (fun D' F' S' d1 => nm_r e1 (ih (s :: done) D' F' S' ha' (fun S2 hS2 => ?_)))
      rw [d1, ← hI S2 hS2]
      have i64 := xs.2.2.1
      have mem : ∀ i, i < sz s → 64 * s + i ∈ ab_fl sz ages := by
        intro i hi
        rw [rl_mem hX, show (64 * s + i) / 64 = s by omega, show (64 * s + i) % 64 = i by omega]
        exact ⟨hs, hi⟩
      have T : ∀ i, i < sz s → gd_t kd tm d G a_values (gd_w kd (ab_fl sz ages) rl S2) s i = S2 (64 * s + i) := by
        intro i hi
        rw [hS2 s hs k4 i hi]
        unfold gd_t
        refine ab_smg (fun t _ => ?_)
        have g1 : gd_w kd (ab_fl sz ages) rl S2 (rl_p d G (24 + 2 * s) (i * tm s + t)) = S2 (rl_p d G (24 + 2 * s) (i * tm s + t)) := if_pos ⟨(rl_pmem hX u6).1, Or.inl (by rw [(rl_pin u6).1]; exact o1)⟩
        have g2 : gd_w kd (ab_fl sz ages) rl S2 (rl_p d G (25 + 2 * s) (i * tm s + t)) = S2 (rl_p d G (25 + 2 * s) (i * tm s + t)) := if_pos ⟨(rl_pmem hX u7).1, Or.inl (by rw [(rl_pin u7).1]; exact o2)⟩
        rw [g1, g2]
      rw [ab_smg (g := fun i => D (64 * s + i) * S2 (64 * s + i)) (fun i hi => by rw [T i hi])]
      have sg := gd_seg (D := D) (f := gd_w kd (ab_fl sz ages) rl S2) (g := fun i => S2 (64 * s + i)) (b := 64 * s) (sz s) (by omega)
      rw [← sg]
      refine gd_g (fun p _ => ?_)
      unfold gd_w
      by_cases z : 64 * s ≤ p ∧ p < 64 * s + sz s
      · have ps : p / 64 = s := by omega
        rw [if_pos z, if_neg (fun y => by
          rcases y.2 with q | q
          · rw [ps] at q; exact hsp q
          · rw [ps] at q; exact k4 q), if_pos ⟨by have := mem (p - 64 * s) (by omega); rw [show 64 * s + (p - 64 * s) = p by omega] at this; exact this, Or.inl (by rw [ps]; simp)⟩, show 64 * s + (p - 64 * s) = p by omega, Int32.zero_add]
      · rw [if_neg z]
        by_cases y : p ∈ ab_fl sz ages ∧ (p / 64 ∈ rl ∨ kd (p / 64) = 4)
        · rw [if_pos y, if_pos ⟨y.1, by rcases y.2 with q | q; exact Or.inl (List.mem_cons_of_mem _ q); exact Or.inr q⟩]
        · rw [if_neg y, if_neg (fun x => y ⟨x.1, by
            rcases x.2 with q | q
            · rcases List.mem_cons.mp q with r | r
              · have := ((rl_mem hX).mp x.1).2
                rw [r] at this
                exact absurd (show 64 * s ≤ p ∧ p < 64 * s + sz s by omega) z
              · exact Or.inl r
            · exact Or.inr q⟩)]
end
section
variable {c_cells c_slopeCount : Int32} {b_used b_rank b_dims b_shown b_tensorOf b_view b_exists b_kind b_first b_second b_owner b_parts b_partCount b_value b_slopeOf b_order b_slopes : Nat → Int32}
theorem yg_sum {post : Int32 → SY → Prop} {J36 : Int32 → Int32 → Int32 → (Nat → Int32) → (Nat → Int32) → (Nat → Int32) → (Nat → Int32) → (Nat → Int32) → (Nat → Int32) → (Nat → Int32) → (Nat → Int32) → (Nat → Int32) → (Nat → Int32) → (Nat → Int32) → (Nat → Int32) → (Nat → Int32) → (Nat → Int32) → (Nat → Int32) → (Nat → Int32) → (Nat → Int32) → Prop} {w n i : Nat} {x2 : Int32} {cw : Nat → Nat} (hw : w < 24) (hn : n ≤ 64) (hi : i < 64) (hcw : ∀ e, e < n → b_shown (64 * w + e) = nI (cw e) ∧ cw e < 320) (h : J36 (nI (i + 1)) c_cells c_slopeCount b_used b_rank b_dims b_shown b_tensorOf b_view b_exists b_kind b_first b_second b_owner b_parts b_partCount b_value b_slopeOf b_order (upd b_slopes i (ab_sm (fun e => b_slopeOf (cw e)) n))) : ∀ k e : Nat, e + k = n → wY_gradient_72 post J36 (nI w) x2 (nI n) (nI i) c_cells c_slopeCount (k + 1) (nI e) b_used b_rank b_dims b_shown b_tensorOf b_view b_exists b_kind b_first b_second b_owner b_parts b_partCount b_value b_slopeOf b_order (upd b_slopes i (ab_sm (fun e => b_slopeOf (cw e)) e)) := by
  intro k
  induction k with
  | zero =>
    intro e he
    have : e = n := by omega
    subst this
    exact br_t (nI_le (by omega) (by omega)) (nm_r (nI_1 i) h)
  | succ k ih =>
    intro e he
    obtain ⟨c1, c2⟩ := hcw e (by omega)
    have hv : vp_in (nI i) 64 := vp_in_nI hi (by decide)
    refine br_f (nI_ge (by omega) (by omega)) ⟨hv, ab_vin ab_i64 (by omega) (by decide), ?_⟩
    rw [ab_i64, nI_clamp (show 64 * w + e < 2 ^ 31 by omega), c1, nI_clamp (show cw e < 2 ^ 31 by omega), nI_clamp (show i < 2 ^ 31 by omega), pk_us, ab_uu]
    exact ⟨vp_in_nI c2 (by decide), hv, nm_e (nm_r (nI_1 e) (ih (e + 1) (by omega)))⟩
end
