def wo_li (cl : Nat → Nat) (leaf : Int32) (Sl : Nat → Int32) (s i : Nat) : Prop := Sl (cl (64 * s + i)) = if nI (cl (64 * s + i)) = leaf then 1 else 0
def wo_re (d : Nat → Nat → Nat) (G : Nat → Nat → Nat → Nat → Nat) (kd tm cl : Nat → Nat) (V Sl : Nat → Int32) (s i : Nat) : Prop := Sl (cl (64 * s + i)) = ab_sm (fun t => ab_lv (kd s) (V (rl_p d G (24 + 2 * s) (i * tm s + t))) (V (rl_p d G (25 + 2 * s) (i * tm s + t))) (Sl (cl (rl_p d G (24 + 2 * s) (i * tm s + t)))) (Sl (cl (rl_p d G (25 + 2 * s) (i * tm s + t))))) (tm s)
theorem wo_fr {d : Nat → Nat → Nat} {G : Nat → Nat → Nat → Nat → Nat} {kd tm cl : Nat → Nat} {V Sl : Nat → Int32} {s i c : Nat} {v : Int32} (h0 : cl (64 * s + i) ≠ c) (h1 : ∀ e, cl (rl_p d G (24 + 2 * s) e) ≠ c) (h2 : ∀ e, cl (rl_p d G (25 + 2 * s) e) ≠ c) (H : wo_re d G kd tm cl V Sl s i) : wo_re d G kd tm cl V (upd Sl c v) s i := by
  unfold wo_re at H ⊢
  rw [pk_un h0, H]
  refine ab_smg (fun t ht => ?_)
  rw [pk_un (h1 _), pk_un (h2 _)]
section
variable {f_slotsTaken f_elementsTaken f_slopeCount : Int32} {a_handleTaken a_handleIsView a_windowRank a_windowSlot a_windowStart a_windowDimension a_windowStride a_slotSize a_slotKind a_slotTerms a_slotNeeded a_slotsByAge a_values a_derivatives a_firstPlaces a_secondPlaces a_assigned a_slopes : Nat → Int32}
variable {c_cells c_slopeCount : Int32} {b_used b_rank b_dims b_shown b_tensorOf b_view b_exists b_kind b_first b_second b_owner b_parts b_partCount b_value b_slopeOf b_order b_slopes : Nat → Int32}
theorem yk_work {post : SY → Prop} {rk sl sz kd tm yk cl : Nat → Nat} {d : Nat → Nat → Nat} {G : Nat → Nat → Nat → Nat → Nat} {ages : List Nat} {leaf : Int32} {V : Nat → Int32} (hX : rl_X rk sl d G ages sz kd tm f_slotsTaken f_elementsTaken a_handleTaken a_handleIsView a_windowRank a_windowSlot a_windowStart a_windowDimension a_windowStride a_slotSize a_slotKind a_slotTerms a_slotsByAge) (hY : rl_Y rk sl d G ages sz kd tm yk cl a_handleTaken a_handleIsView a_values c_cells b_used b_rank b_dims b_shown b_tensorOf b_view b_exists b_kind b_first b_second b_owner b_parts b_partCount b_value b_order) (hD : ∀ s, s ∈ ages → kd s ≠ 4 → cp_df d G sz kd tm V s) (hV : ∀ p, p ∈ ab_fl sz ages → kd (p / 64) = 4 → b_value (cl p) = V p) (h : ∀ W Sl : Nat → Int32, (∀ p, p ∈ ab_fl sz ages → W (cl p) = V p) → (∀ s, s ∈ ages → kd s = 4 → ∀ i, i < sz s → wo_li cl leaf Sl s i) → (∀ s, s ∈ ages → kd s ≠ 4 → ∀ i, i < sz s → wo_re d G kd tm cl V Sl s i) → post (c_cells, c_slopeCount, b_used, b_rank, b_dims, b_shown, b_tensorOf, b_view, b_exists, b_kind, b_first, b_second, b_owner, b_parts, b_partCount, W, Sl, b_order, b_slopes)) : wpY_workOut post (c_cells, c_slopeCount, b_used, b_rank, b_dims, b_shown, b_tensorOf, b_view, b_exists, b_kind, b_first, b_second, b_owner, b_parts, b_partCount, b_value, b_slopeOf, b_order, b_slopes) leaf := by
  have hO := hY.2.2.1
  have mem : ∀ s i, s ∈ ages → i < sz s → 64 * s + i ∈ ab_fl sz ages := by
    intro s i hs hi
    have := (hX.2.2.2.1 s hs).2.2.1
    rw [rl_mem hX, show (64 * s + i) / 64 = s by omega, show (64 * s + i) % 64 = i by omega]
    exact ⟨hs, hi⟩
  have tot := hX.2.1.2
  have L : ∀ (rest pre : List Nat) (W Sl : Nat → Int32), ages = pre.reverse ++ rest → rl_or kd sl pre rest → (∀ p, p ∈ ab_fl sz ages → (p / 64 ∈ pre ∨ kd (p / 64) = 4) → W (cl p) = V p) → (∀ s, s ∈ pre → kd s = 4 → ∀ i, i < sz s → wo_li cl leaf Sl s i) → (∀ s, s ∈ pre → kd s ≠ 4 → (sl (24 + 2 * s) ∈ pre ∧ sl (25 + 2 * s) ∈ pre) ∧ ∀ i, i < sz s → wo_re d G kd tm cl V Sl s i) → ∀ n, (ab_fl sz rest).length < n → wY_workOut_2 post leaf c_cells c_slopeCount n (nI (ab_fl sz pre.reverse).length) b_used b_rank b_dims b_shown b_tensorOf b_view b_exists b_kind b_first b_second b_owner b_parts b_partCount W Sl b_order b_slopes := by
    intro rest
    induction rest with
    | nil =>
      intro pre W Sl ha ho A B C n hn
      rw [List.append_nil] at ha
      obtain ⟨m, rfl⟩ : ∃ m, n = m + 1 := ⟨n - 1, by omega⟩
      refine br_t (by rw [hY.2.1.1, ha]; exact nI_le (by omega) (by rw [← ha]; omega)) (h W Sl ?_ ?_ ?_)
      · intro p hp
        refine A p hp (Or.inl ?_)
        have := ((rl_mem hX).mp hp).1
        rw [ha, List.mem_reverse] at this; exact this
      · intro s hs; rw [ha, List.mem_reverse] at hs; exact B s hs
      · intro s hs hk; rw [ha, List.mem_reverse] at hs; exact (C s hs hk).2
    | cons s rest ih =>
      intro pre W0 Sl0 ha ho A0 B0 C0 n0 hn0
      have hs : s ∈ ages := by rw [ha]; simp
      have s32 := hX.2.2.1.2.1 s hs
      have hsp : s ∉ pre := by
        have hn := hX.2.2.1.1
        rw [ha, List.nodup_append] at hn
        intro z
        exact hn.2.2 s (List.mem_reverse.mpr z) s (by simp) rfl
      have hpa : ∀ t, t ∈ pre → t ∈ ages := fun t ht => by rw [ha]; simp [ht]
      have xs := hX.2.2.2.1 s hs
      have ys := hY.2.2.2.2.2.1 s hs
      have kr := rl_krL ys.2.1
      have hA' : ages = (s :: pre).reverse ++ rest := by rw [ha]; simp
      have hfl : ab_fl sz ages = ab_fl sz pre.reverse ++ (ab_pl sz s ++ ab_fl sz rest) := by rw [ha, ab_fla, ab_flc]
      have hlen : (ab_fl sz ages).length = (ab_fl sz pre.reverse).length + (sz s + (ab_fl sz rest).length) := by
        rw [hfl, List.length_append, List.length_append, ab_pll]
      have hl2 : (ab_fl sz (s :: pre).reverse).length = (ab_fl sz pre.reverse).length + sz s := by
        rw [List.reverse_cons, ab_fla, ab_flc, ab_fln, List.append_nil, List.length_append, ab_pll]
      have hget : ∀ i, i < sz s → (ab_fl sz ages)[(ab_fl sz pre.reverse).length + i]? = some (64 * s + i) := by
        intro i hi
        rw [hfl, List.getElem?_append_right (by omega), show (ab_fl sz pre.reverse).length + i - (ab_fl sz pre.reverse).length = i by omega, List.getElem?_append_left (by rw [ab_pll]; exact hi)]
        unfold ab_pl
        rw [List.getElem?_map, List.getElem?_range hi]
        rfl
      have q1of : ∀ t, t ∈ ages → kd t ≠ 4 → ∀ e, rl_p d G (24 + 2 * t) e ∈ ab_fl sz ages ∧ rl_p d G (24 + 2 * t) e / 64 = sl (24 + 2 * t) ∧ rl_p d G (25 + 2 * t) e ∈ ab_fl sz ages ∧ rl_p d G (25 + 2 * t) e / 64 = sl (25 + 2 * t) := by
        intro t ht hk e
        obtain ⟨_, _, _, _, _, w6, w7⟩ := (hX.2.2.2.1 t ht).2.2.2.2.2 hk
        exact ⟨(rl_pmem hX w6).1, (rl_pin w6).1, (rl_pmem hX w7).1, (rl_pin w7).1⟩
      have M : ∀ (j i : Nat) (W Sl : Nat → Int32), i + j = sz s → (∀ p, p ∈ ab_fl sz ages → (p / 64 ∈ pre ∨ kd (p / 64) = 4 ∨ (p / 64 = s ∧ p % 64 < i)) → W (cl p) = V p) → (∀ s, s ∈ pre → kd s = 4 → ∀ i, i < sz s → wo_li cl leaf Sl s i) → (∀ s, s ∈ pre → kd s ≠ 4 → (sl (24 + 2 * s) ∈ pre ∧ sl (25 + 2 * s) ∈ pre) ∧ ∀ i, i < sz s → wo_re d G kd tm cl V Sl s i) → (∀ i', i' < i → (kd s = 4 → wo_li cl leaf Sl s i') ∧ (kd s ≠ 4 → wo_re d G kd tm cl V Sl s i')) → ∀ n, j + (ab_fl sz rest).length < n → wY_workOut_2 post leaf c_cells c_slopeCount n (nI ((ab_fl sz pre.reverse).length + i)) b_used b_rank b_dims b_shown b_tensorOf b_view b_exists b_kind b_first b_second b_owner b_parts b_partCount W Sl b_order b_slopes := by
        intro j
        induction j with
        | zero =>
          intro i W Sl hi A B C E n hn
          have hi' : i = sz s := by omega
          rw [hi', ← hl2]
          refine ih (s :: pre) W Sl hA' ho.2 ?_ ?_ ?_ n (by omega)
          · intro p hp hc
            refine A p hp ?_
            rcases hc with q | q
            · rcases List.mem_cons.mp q with r | r
              · exact Or.inr (Or.inr ⟨r, by have := ((rl_mem hX).mp hp).2; rw [r] at this; omega⟩)
              · exact Or.inl r
            · exact Or.inr (Or.inl q)
          · intro t ht hk i' hi'
            rcases List.mem_cons.mp ht with r | r
            · subst r; exact (E i' (by omega)).1 hk
            · exact B t r hk i' hi'
          · intro t ht hk
            rcases List.mem_cons.mp ht with r | r
            · subst r
              obtain ⟨o1, o2⟩ := ho.1 hk
              exact ⟨⟨List.mem_cons_of_mem _ o1, List.mem_cons_of_mem _ o2⟩, fun i' hi' => (E i' (by omega)).2 hk⟩
            · obtain ⟨a, b⟩ := C t r hk
              exact ⟨⟨List.mem_cons_of_mem _ a.1, List.mem_cons_of_mem _ a.2⟩, b⟩
        | succ j ihj =>
          intro i W Sl hi A B C E n hn
          obtain ⟨m, rfl⟩ : ∃ m, n = m + 1 := ⟨n - 1, by omega⟩
          have hp := mem s i hs (by omega)
          obtain ⟨hc, hown⟩ := hO.1 _ hp
          have i64 : i < 64 := by have := xs.2.2.1; omega
          rw [show (64 * s + i) / 64 = s by omega] at hown
          have hord := hY.2.1.2 _ _ (hget i (by omega))
          have inj : ∀ p, p ∈ ab_fl sz ages → p ≠ 64 * s + i → cl p ≠ cl (64 * s + i) := fun p hp' z y => z (hO.2.1 _ _ hp' hp y)
          have hvc : vp_in (nI (cl (64 * s + i))) 320 := vp_in_nI hc (by decide)
          have cc : (nI (cl (64 * s + i))).toNatClampNeg = cl (64 * s + i) := nI_clamp (by omega)
          have cs : (nI s).toNatClampNeg = s := nI_clamp (by omega)
          have frp : ∀ (v : Int32), (∀ t, t ∈ pre → kd t = 4 → ∀ i', i' < sz t → wo_li cl leaf (upd Sl (cl (64 * s + i)) v) t i') ∧ (∀ t, t ∈ pre → kd t ≠ 4 → (sl (24 + 2 * t) ∈ pre ∧ sl (25 + 2 * t) ∈ pre) ∧ ∀ i', i' < sz t → wo_re d G kd tm cl V (upd Sl (cl (64 * s + i)) v) t i') := by
            intro v
            have hne : ∀ t i', t ∈ pre → i' < sz t → 64 * t + i' ≠ 64 * s + i := by
              intro t i' ht hi' z
              have := (hX.2.2.2.1 t (hpa t ht)).2.2.1
              have : t = s := by omega
              exact hsp (this ▸ ht)
            refine ⟨fun t ht hk i' hi' => ?_, fun t ht hk => ⟨(C t ht hk).1, fun i' hi' => ?_⟩⟩
            · unfold wo_li
              rw [pk_un (inj _ (mem t i' (hpa t ht) hi') (hne t i' ht hi'))]
              exact B t ht hk i' hi'
            · obtain ⟨⟨a1, a2⟩, b⟩ := C t ht hk
              refine wo_fr (inj _ (mem t i' (hpa t ht) hi') (hne t i' ht hi')) (fun e => ?_) (fun e => ?_) (b i' hi')
              · obtain ⟨m1, m2, m3, m4⟩ := q1of t (hpa t ht) hk e
                refine inj _ m1 (fun z => hsp ?_)
                have : sl (24 + 2 * t) = s := by rw [← m2, z]; omega
                exact this ▸ a1
              · obtain ⟨m1, m2, m3, m4⟩ := q1of t (hpa t ht) hk e
                refine inj _ m3 (fun z => hsp ?_)
                have : sl (25 + 2 * t) = s := by rw [← m4, z]; omega
                exact this ▸ a2
          refine br_f (by rw [hY.2.1.1, hlen]; exact nI_ge (by omega) (by omega)) ⟨vp_in_nI (by omega) (by decide), nm_r (e' := nI (cl (64 * s + i))) (by rw [nI_clamp (by omega), hord]) ⟨hvc, ?_⟩⟩
          rw [cc, hown, cs, ys.1]
          refine ⟨vp_in_nI s32 (by decide), nm_e ⟨hvc, nm_e ?_⟩⟩
          by_cases k4 : kd s = 4
          · have y0 := kr.2.2.mp k4
            refine br_t (by rw [y0]; rfl) ?_
            have NX : ∀ v : Int32, v = (if nI (cl (64 * s + i)) = leaf then 1 else 0) → wY_workOut_2 post leaf c_cells c_slopeCount m (nI ((ab_fl sz pre.reverse).length + i + 1)) b_used b_rank b_dims b_shown b_tensorOf b_view b_exists b_kind b_first b_second b_owner b_parts b_partCount W (upd Sl (cl (64 * s + i)) v) b_order b_slopes := by
              intro v hv
              obtain ⟨f1, f2⟩ := frp v
              refine ihj (i + 1) W _ (by omega) ?_ f1 f2 ?_ m (by omega)
              · intro p hp' hc'
                refine A p hp' ?_
                rcases hc' with q | q | q
                · exact Or.inl q
                · exact Or.inr (Or.inl q)
                · exact Or.inr (Or.inl (by rw [q.1]; exact k4))
              · intro i' hi'
                refine ⟨fun _ => ?_, fun z => absurd k4 z⟩
                unfold wo_li
                by_cases z : i' = i
                · rw [z, pk_us, hv]
                · rw [pk_un (inj _ (mem s i' hs (by omega)) (by omega))]
                  exact (E i' (by omega)).1 k4
            refine br_c (fun z => ⟨hvc, nm_e (nm_r (nI_1 _) (NX 1 (by rw [if_pos z])))⟩) (fun z => ⟨hvc, nm_e (nm_r (nI_1 _) (NX 0 (by rw [if_neg z])))⟩)
          · have y0 : yk s ≠ 0 := fun z => k4 (kr.2.2.mpr z)
            obtain ⟨f1, f2, f3, f4⟩ := ys.2.2.2 k4
            obtain ⟨u1, u2, u3, u4, u5, u6, u7⟩ := xs.2.2.2.2.2 k4
            obtain ⟨o1, o2⟩ := ho.1 k4
            have pt := f4 i (by omega)
            have Q := q1of s hs k4
            refine br_f (fun z => y0 ((nI_eq (b := 0) (by omega) (by decide)).mp z)) ?_
            refine yk_cell (kk := kd s) (tt := tm s) (c1 := fun t => cl (rl_p d G (24 + 2 * s) (i * tm s + t))) (c2 := fun t => cl (rl_p d G (25 + 2 * s) (i * tm s + t))) ys.2.1 k4 hc u3 pt.1 pt.2 (fun t ht => (hO.1 _ (Q _).1).1) (fun t ht => (hO.1 _ (Q _).2.2.1).1) ?_
            have ew : ∀ t, W (cl (rl_p d G (24 + 2 * s) (i * tm s + t))) = V (rl_p d G (24 + 2 * s) (i * tm s + t)) := fun t => A _ (Q _).1 (Or.inl (by rw [(Q _).2.1]; exact o1))
            have ew2 : ∀ t, W (cl (rl_p d G (25 + 2 * s) (i * tm s + t))) = V (rl_p d G (25 + 2 * s) (i * tm s + t)) := fun t => A _ (Q _).2.2.1 (Or.inl (by rw [(Q _).2.2.2]; exact o2))
            have ev : ab_sm (fun t => ab_tv (kd s) (W (cl (rl_p d G (24 + 2 * s) (i * tm s + t)))) (W (cl (rl_p d G (25 + 2 * s) (i * tm s + t))))) (tm s) = V (64 * s + i) := by
              rw [hD s hs k4 i (by omega)]
              exact ab_smg (fun t _ => by rw [ew t, ew2 t])
            have es : ab_sm (fun t => ab_lv (kd s) (W (cl (rl_p d G (24 + 2 * s) (i * tm s + t)))) (W (cl (rl_p d G (25 + 2 * s) (i * tm s + t)))) (Sl (cl (rl_p d G (24 + 2 * s) (i * tm s + t)))) (Sl (cl (rl_p d G (25 + 2 * s) (i * tm s + t))))) (tm s) = ab_sm (fun t => ab_lv (kd s) (V (rl_p d G (24 + 2 * s) (i * tm s + t))) (V (rl_p d G (25 + 2 * s) (i * tm s + t))) (Sl (cl (rl_p d G (24 + 2 * s) (i * tm s + t)))) (Sl (cl (rl_p d G (25 + 2 * s) (i * tm s + t))))) (tm s) := ab_smg (fun t _ => by rw [ew t, ew2 t])
            rw [ev, es]
            have s1 : ∀ e, cl (rl_p d G (24 + 2 * s) e) ≠ cl (64 * s + i) := by
              intro e
              refine inj _ (Q e).1 (fun z => hsp ?_)
              have : sl (24 + 2 * s) = s := by rw [← (Q e).2.1, z]; omega
              rw [this] at o1; exact o1
            have s2 : ∀ e, cl (rl_p d G (25 + 2 * s) e) ≠ cl (64 * s + i) := by
              intro e
              refine inj _ (Q e).2.2.1 (fun z => hsp ?_)
              have : sl (25 + 2 * s) = s := by rw [← (Q e).2.2.2, z]; omega
              rw [this] at o2; exact o2
            obtain ⟨g1, g2⟩ := frp (ab_sm (fun t => ab_lv (kd s) (V (rl_p d G (24 + 2 * s) (i * tm s + t))) (V (rl_p d G (25 + 2 * s) (i * tm s + t))) (Sl (cl (rl_p d G (24 + 2 * s) (i * tm s + t)))) (Sl (cl (rl_p d G (25 + 2 * s) (i * tm s + t))))) (tm s))
            refine ihj (i + 1) _ _ (by omega) ?_ g1 g2 ?_ m (by omega)
            · intro p hp' hc'
              by_cases z : p = 64 * s + i
              · rw [z, pk_us]
              · rw [pk_un (inj p hp' z)]
                refine A p hp' ?_
                rcases hc' with q | q | q
                · exact Or.inl q
                · exact Or.inr (Or.inl q)
                · exact Or.inr (Or.inr ⟨q.1, by omega⟩)
            · intro i' hi'
              refine ⟨fun z => absurd z k4, fun _ => ?_⟩
              by_cases z : i' = i
              · subst z
                unfold wo_re
                rw [pk_us]
                refine ab_smg (fun t ht => ?_)
                rw [pk_un (s1 _), pk_un (s2 _)]
              · exact wo_fr (inj _ (mem s i' hs (by omega)) (by omega)) s1 s2 ((E i' (by omega)).2 k4)
      have hlr : (ab_fl sz (s :: rest)).length = sz s + (ab_fl sz rest).length := by rw [ab_flc, List.length_append, ab_pll]
      exact M (sz s) 0 W0 Sl0 (by omega) (fun p hp hc => A0 p hp (by rcases hc with q | q | q; exact Or.inl q; exact Or.inr q; exact absurd q.2 (by omega))) B0 C0 (fun i' hi' => absurd hi' (by omega)) n0 (by omega)
  exact ⟨(ab_fl sz ages).length + 1, L ages [] b_value b_slopeOf rfl hX.2.2.1.2.2.2 (fun p hp hc => by
    rcases hc with q | q
    · exact absurd q (by simp)
    · exact hV p hp q) (fun s hs => absurd hs (by simp)) (fun s hs => absurd hs (by simp)) _ (by omega)⟩
end
