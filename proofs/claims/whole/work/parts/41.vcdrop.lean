theorem i_vc_drop {k : Nat} {u : SX} {v : SY} (I : i_Rel k u v) (hk : k + 5 ≤ 2560) (v1 : Int32) : wpX_drop (fun r u' => wpY_drop (fun r' v' => r' = r ∧ i_Rel (k + 5) u' v') v v1) u v1 := by
  obtain ⟨f_slotsTaken, f_elementsTaken, f_slopeCount, a_handleTaken, a_handleIsView, a_windowRank, a_windowSlot, a_windowStart, a_windowDimension, a_windowStride, a_slotSize, a_slotKind, a_slotTerms, a_slotNeeded, a_slotsByAge, a_values, a_derivatives, a_firstPlaces, a_secondPlaces, a_assigned, a_slopes⟩ := u
  obtain ⟨c_cells, c_slopeCount, b_used, b_rank, b_dims, b_shown, b_tensorOf, b_view, b_exists, b_kind, b_first, b_second, b_owner, b_parts, b_partCount, b_value, b_slopeOf, b_order, b_slopes⟩ := v
  have I' := I
  obtain ⟨rk, sl, d, G, ages, sz, kd, tm, yk, cl, hX, hY, hS⟩ := I'
  have hu := hY.1.1
  have hvw := hY.1.2
  by_cases hH : ab_isH a_handleTaken v1
  · obtain ⟨w, hw, rfl, hT⟩ := hH
    have hU : ¬ b_used w = 0 := by rw [hu]; exact hT
    have cw : (nI w).toNatClampNeg = w := nI_clamp (by omega)
    have hsub : ∀ h, h < 24 → ¬ upd a_handleTaken w 0 h = 0 → ¬ a_handleTaken h = 0 := by
      intro h hh ht
      by_cases z : h = w
      · rw [z, pk_us] at ht; exact absurd rfl ht
      · rw [pk_un z] at ht; exact ht
    unfold wpX_drop
    refine xw_isHandle_t hw hT (br_f ab_10 ⟨vp_in_nI hw (by decide), nm_r (e' := upd a_handleTaken w 0) (by rw [cw, ab_b0]) (xd_mark (T := a_handleTaken) hX hsub (fun N hok => ?_))⟩)
    have m32 := ab_pg2 32 ages hX.2.2.1.1 hX.2.2.1.2.1
    have s32 := hX.2.2.1.2.1
    have szl : ∀ s, s ∈ ages → sz s ≤ 64 := fun s hs => (hX.2.2.2.1 s hs).2.2.1
    refine xd_free (sz := sz) (ages := ages) hX.1.1 hX.1.2 hX.2.1.1 hX.2.1.2 m32 hX.2.2.1.1 s32 (fun s hs => (hX.2.2.2.1 s hs).1) (fun Sz Ag a1 z1 z2 => ?_)
    have hMa : ∀ s, s < 32 → ¬ N s = 0 → s ∈ ages := by
      intro s hs hN
      rcases hok.2.2 s hs hN with ⟨h, hh, ht, es⟩ | ⟨t, ht, hNt, hkt, es⟩
      · rw [← es]; exact (hX.2.2.2.2 h hh (hsub h hh ht)).2.2.1.2.1
      · obtain ⟨_, _, _, _, _, w6, w7⟩ := (hX.2.2.2.1 t ht).2.2.2.2.2 hkt
        rcases es with q | q
        · rw [q]; exact w6.2.1
        · rw [q]; exact w7.2.1
    have mf : ∀ s, s ∈ ages.filter (dr_m N) ↔ s ∈ ages ∧ ¬ N s = 0 := fun s => by rw [List.mem_filter, dr_mt]
    unfold wpY_drop
    refine yb_isHandle_t hw hU (br_f ab_10 ⟨vp_in_nI (by omega) (by decide), nm_r (e' := upd a_handleTaken w 0) (by rw [cw, ab_b0, hu]) ?_⟩)
    refine yd_settle (sl := sl) (kd := kd) (ages := ages) (N := N) hok hX.2.2.1.2.2.2 hX.2.2.1.1 m32 s32 hMa (fun h hh ht => ?_) (fun t ht => ?_) (fun E hE => ?_)
    · have th := hsub h hh ht
      have yh := hY.2.2.2.2.1 h hh th
      exact ⟨yh.2.2.1, s32 _ (hX.2.2.2.2 h hh th).2.2.1.2.1⟩
    · have ys := hY.2.2.2.2.2.1 t ht
      refine ⟨ys.2.2.1, fun hkt => ?_⟩
      obtain ⟨f1, f2, f3, f4⟩ := ys.2.2.2 hkt
      obtain ⟨_, _, _, _, _, w6, w7⟩ := (hX.2.2.2.1 t ht).2.2.2.2.2 hkt
      refine ⟨f1, s32 _ w6.2.1, ?_, s32 _ w7.2.1⟩
      by_cases k3 : kd t = 3
      · exact Or.inl (f2 k3)
      · exact Or.inr (f3 k3)
    · have hO := hY.2.2.1
      have pm : ∀ p, p ∈ ab_fl sz ages → p / 64 ∈ ages ∧ p / 64 < 32 := fun p hp => ⟨((rl_mem hX).mp hp).1, s32 _ ((rl_mem hX).mp hp).1⟩
      have eqm : ∀ p, p ∈ ab_fl sz ages → (fun p => dr_m E (p / 64)) p = (fun p => dr_m N (p / 64)) p := by
        intro p hp
        have := hE (p / 64) (pm p hp).2
        show dr_m E (p / 64) = dr_m N (p / 64)
        unfold dr_m
        exact decide_eq_decide.mpr this
      have flf : (ab_fl sz ages).filter (fun p => dr_m E (p / 64)) = ab_fl sz (ages.filter (dr_m N)) := by
        rw [List.filter_congr eqm]; exact dr_flf (m := dr_m N) szl
      refine yd_142 (fl := ab_fl sz ages) (cl := cl) (dr_nod szl hX.2.2.1.1) hY.2.1.1 hX.2.1.2 (fun p hp => ⟨(hO.1 p hp).1, (hO.1 p hp).2, (pm p hp).2⟩) hO.2.1 hY.2.1.2 (fun O R r1 o1 o2 => ⟨rfl, ?_⟩)
      rw [flf] at r1 ⊢
      have fm : ∀ p, p ∈ ab_fl sz (ages.filter (dr_m N)) ↔ p ∈ ab_fl sz ages ∧ ¬ N (p / 64) = 0 := by
        intro p
        rw [← flf, List.mem_filter]
        constructor
        · rintro ⟨a, b⟩
          exact ⟨a, (hE _ (pm p a).2).mp (dr_mt.mp b)⟩
        · rintro ⟨a, b⟩
          exact ⟨a, dr_mt.mpr ((hE _ (pm p a).2).mpr b)⟩
      have clo : ∀ s, s ∈ ages → ¬ N s = 0 → kd s ≠ 4 → sl (24 + 2 * s) ∈ ages.filter (dr_m N) ∧ sl (25 + 2 * s) ∈ ages.filter (dr_m N) := by
        intro s hs hN hks
        obtain ⟨a, b⟩ := hok.2.1 s hs hN hks
        obtain ⟨_, _, _, _, _, w6, w7⟩ := (hX.2.2.2.1 s hs).2.2.2.2.2 hks
        exact ⟨(mf _).mpr ⟨w6.2.1, a⟩, (mf _).mpr ⟨w7.2.1, b⟩⟩
      refine rl_mk (k + 5) rk sl d G (ages.filter (dr_m N)) sz kd tm yk cl ?_ ?_ hS
      · obtain ⟨x1, x2, ⟨x3, x4, x5, x6⟩, x7, x8⟩ := hX
        refine ⟨⟨rfl, a1⟩, ⟨rfl, ?_⟩, ⟨x3.filter _, fun s hs => x4 s ((mf s).mp hs).1, fun s hs hn => ?_, ?_⟩, fun s hs => ?_, fun h hh ht => ?_⟩
        · rw [← flf]
          exact Nat.le_trans (List.length_filter_le _ _) x2.2
        · by_cases z : s ∈ ages
          · refine z1 s z ?_
            apply Classical.byContradiction
            intro y
            exact hn ((mf s).mpr ⟨z, y⟩)
          · rw [z2 s (Or.inl z)]; exact x5 s hs z
        · have := dr_or (m := dr_m N) x6 (fun s hs hm hks => ?_)
          · exact this
          · obtain ⟨a, b⟩ := hok.2.1 s hs (dr_mt.mp hm) hks
            exact ⟨dr_mt.mpr a, dr_mt.mpr b⟩
        · obtain ⟨h1, h2⟩ := (mf s).mp hs
          obtain ⟨q1, q2, q3, q4, q5, q6⟩ := x7 s h1
          refine ⟨by rw [z2 s (Or.inr h2)]; exact q1, q2, q3, q4, q5, fun hks => ?_⟩
          obtain ⟨u1, u2, u3, u4, u5, u6, u7⟩ := q6 hks
          obtain ⟨c1, c2⟩ := clo s h1 h2 hks
          exact ⟨u1, u2, u3, u4, u5, rl_winM c1 u6, rl_winM c2 u7⟩
        · have th := hsub h hh ht
          obtain ⟨y1, y2, y3, y4⟩ := x8 h hh th
          exact ⟨y1, y2, rl_winM ((mf _).mpr ⟨y3.2.1, hok.1 h hh ht⟩) y3, y4⟩
      · obtain ⟨y1, y2, y3, y4, y5, y6, y7⟩ := hY
        refine ⟨⟨rfl, hvw⟩, ⟨rfl, r1⟩, ⟨fun p hp => ?_, fun p q hp hq => ?_, fun c hc hno => ?_⟩, fun t ht => ?_, fun h hh ht => y5 h hh (hsub h hh ht), fun s hs => y6 s ((mf s).mp hs).1, fun p hp => y7 p ((fm p).mp hp).1⟩
        · obtain ⟨p1, p2⟩ := (fm p).mp hp
          refine ⟨(y3.1 p p1).1, ?_⟩
          rw [o2 (cl p) (fun q hq hEq e => ?_)]
          · exact (y3.1 p p1).2
          · have := y3.2.1 _ _ p1 hq e
            subst this
            exact (hE _ (pm p p1).2).mpr p2 hEq
        · exact y3.2.1 p q ((fm p).mp hp).1 ((fm q).mp hq).1
        · by_cases z : ∃ p, p ∈ ab_fl sz ages ∧ cl p = c
          · obtain ⟨p, hp, rfl⟩ := z
            refine o1 p hp ?_
            apply Classical.byContradiction
            intro y
            exact hno p ((fm p).mpr ⟨hp, (hE _ (pm p hp).2).mp y⟩) rfl
          · rw [o2 c (fun p hp _ e => z ⟨p, hp, e.symm⟩)]
            exact y3.2.2 c hc (fun p hp e => z ⟨p, hp, e⟩)
        · rw [mf]
          constructor
          · intro z q
            exact (hE t ht).mpr q.2 z
          · intro q
            apply Classical.byContradiction
            intro y
            have := (hE t ht).mp y
            exact q ⟨hMa t ht this, this⟩
  · unfold wpX_drop
    refine xw_isHandle_f hH (br_t rfl ?_)
    unfold wpY_drop
    exact yb_isHandle_f (by rw [hu]; exact hH) (br_t rfl ⟨rfl, I⟩)
