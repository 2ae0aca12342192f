section
variable {c_cells c_slopeCount : Int32} {b_used b_rank b_dims b_shown b_tensorOf b_view b_exists b_kind b_first b_second b_owner b_parts b_partCount b_value b_slopeOf b_order b_slopes : Nat → Int32}
theorem yd_142 {post : SY → Prop} {fl : List Nat} {cl : Nat → Nat} (hnd : fl.Nodup) (hc : c_cells = nI fl.length) (hl : fl.length ≤ 320) (h1 : ∀ p, p ∈ fl → cl p < 320 ∧ b_owner (cl p) = nI (p / 64) ∧ p / 64 < 32) (hinj : ∀ p q, p ∈ fl → q ∈ fl → cl p = cl q → p = q) (hord : ∀ i p, fl[i]? = some p → b_order i = nI (cl p)) (h : ∀ O R : Nat → Int32, (∀ i p, (fl.filter (fun p => dr_m b_exists (p / 64)))[i]? = some p → R i = nI (cl p)) → (∀ p, p ∈ fl → b_exists (p / 64) = 0 → O (cl p) < 0) → (∀ c, (∀ p, p ∈ fl → b_exists (p / 64) = 0 → c ≠ cl p) → O c = b_owner c) → post (nI (fl.filter (fun p => dr_m b_exists (p / 64))).length, c_slopeCount, b_used, b_rank, b_dims, b_shown, b_tensorOf, b_view, b_exists, b_kind, b_first, b_second, O, b_parts, b_partCount, b_value, b_slopeOf, R, b_slopes)) : ∃ n, wY_settle_142 post c_cells c_slopeCount n 0 0 b_used b_rank b_dims b_shown b_tensorOf b_view b_exists b_kind b_first b_second b_owner b_parts b_partCount b_value b_slopeOf b_order b_slopes := by
  have L : ∀ (rest pre : List Nat) (O R : Nat → Int32), fl = pre ++ rest → (∀ i p, (pre.filter (fun p => dr_m b_exists (p / 64)))[i]? = some p → R i = nI (cl p)) → (∀ i p, rest[i]? = some p → R (pre.length + i) = nI (cl p)) → (∀ p, p ∈ pre → b_exists (p / 64) = 0 → O (cl p) < 0) → (∀ c, (∀ p, p ∈ pre → b_exists (p / 64) = 0 → c ≠ cl p) → O c = b_owner c) → wY_settle_142 post c_cells c_slopeCount (rest.length + 1) (nI (pre.filter (fun p => dr_m b_exists (p / 64))).length) (nI pre.length) b_used b_rank b_dims b_shown b_tensorOf b_view b_exists b_kind b_first b_second O b_parts b_partCount b_value b_slopeOf R b_slopes := by
    intro rest
    induction rest with
    | nil =>
      intro pre O R ha r1 r2 o1 o2
      rw [List.append_nil] at ha
      subst ha
      exact br_t (by rw [hc]; exact nI_le (by omega) (by omega)) (h O R r1 o1 o2)
    | cons p rest ih =>
      intro pre O R ha r1 r2 o1 o2
      have hp : p ∈ fl := by rw [ha]; simp
      have hlen : fl.length = pre.length + (rest.length + 1) := by rw [ha, List.length_append, List.length_cons]
      have hfl : (pre.filter (fun p => dr_m b_exists (p / 64))).length ≤ pre.length := List.length_filter_le _ _
      have hpp : p ∉ pre := by
        rw [ha, List.nodup_append] at hnd
        intro z
        exact hnd.2.2 p z p (by simp) rfl
      have hin : ∀ q, q ∈ pre → q ∈ fl := fun q hq => by rw [ha]; simp [hq]
      have ha' : fl = (pre ++ [p]) ++ rest := by rw [ha]; simp
      obtain ⟨c1, c2, c3⟩ := h1 p hp
      have hR0 := r2 0 p (by simp)
      rw [Nat.add_zero] at hR0
      have hvc : vp_in (nI (cl p)) 320 := vp_in_nI c1 (by decide)
      have cc : (nI (cl p)).toNatClampNeg = cl p := nI_clamp (by omega)
      have hOp : O (cl p) = nI (p / 64) := by
        rw [o2 (cl p) (fun q hq _ e => hpp (hinj _ _ hp (hin q hq) e ▸ hq)), c2]
      have nl : (pre ++ [p]).length = pre.length + 1 := by rw [List.length_append]; rfl
      refine br_f (by rw [hc]; exact nI_ge (by omega) (by omega)) ⟨vp_in_nI (by omega) (by decide), nm_r (e' := nI (cl p)) (by rw [nI_clamp (by omega), hR0]) ⟨hvc, ?_⟩⟩
      rw [cc, hOp, nI_clamp (show p / 64 < 2 ^ 31 by omega)]
      refine ⟨vp_in_nI c3 (by decide), ?_⟩
      by_cases z : b_exists (p / 64) = 0
      · have fz : ¬ dr_m b_exists (p / 64) = true := fun q => dr_mt.mp q z
        have ff : (pre ++ [p]).filter (fun p => dr_m b_exists (p / 64)) = pre.filter (fun p => dr_m b_exists (p / 64)) := by rw [List.filter_append, List.filter_cons_of_neg (p := fun p => dr_m b_exists (p / 64)) fz]; simp
        refine br_t z ⟨hvc, nm_r (e' := upd O (cl p) (-1)) (by rw [ab_vbm]) (nm_r (e' := nI (pre ++ [p]).length) (by rw [nI_1, nl]) ?_)⟩
        have := ih (pre ++ [p]) (upd O (cl p) (-1)) R ha' (by rw [ff]; exact r1) ?_ ?_ ?_
        · rw [ff] at this; exact this
        · intro i q hq
          rw [nl, Nat.add_assoc, Nat.add_comm 1 i]
          exact r2 (i + 1) q (by simpa using hq)
        · intro q hq hE
          by_cases y : cl q = cl p
          · rw [y, pk_us]; decide
          · rw [pk_un y]
            rcases List.mem_append.mp hq with r | r
            · exact o1 q r hE
            · exact absurd (congrArg cl (show q = p by simpa using r)) y
        · intro c hcn
          rw [pk_un (hcn p (by simp) z)]
          exact o2 c (fun q hq hE => hcn q (List.mem_append_left _ hq) hE)
      · have fz : dr_m b_exists (p / 64) = true := dr_mt.mpr z
        have ff : (pre ++ [p]).filter (fun p => dr_m b_exists (p / 64)) = pre.filter (fun p => dr_m b_exists (p / 64)) ++ [p] := by rw [List.filter_append, List.filter_cons_of_pos (p := fun p => dr_m b_exists (p / 64)) fz]; simp
        have fl1 : ((pre ++ [p]).filter (fun p => dr_m b_exists (p / 64))).length = (pre.filter (fun p => dr_m b_exists (p / 64))).length + 1 := by rw [ff, List.length_append]; rfl
        refine br_f z (nm_r (e' := nI ((pre ++ [p]).filter (fun p => dr_m b_exists (p / 64))).length) (by rw [nI_1, fl1]) ⟨vp_in_nI (by omega) (by decide), nm_r (e' := upd R (pre.filter (fun p => dr_m b_exists (p / 64))).length (nI (cl p))) (by rw [nI_clamp (by omega), ab_vs2 (by omega)]) (nm_r (e' := nI (pre ++ [p]).length) (by rw [nI_1, nl]) ?_)⟩)
        refine ih (pre ++ [p]) O _ ha' ?_ ?_ ?_ ?_
        · intro i q hq
          rw [ff] at hq
          by_cases y : i = (pre.filter (fun p => dr_m b_exists (p / 64))).length
          · subst y
            rw [List.getElem?_append_right (by omega)] at hq
            simp at hq
            rw [pk_us, hq]
          · rw [pk_un y]
            by_cases x : i < (pre.filter (fun p => dr_m b_exists (p / 64))).length
            · rw [List.getElem?_append_left x] at hq; exact r1 i q hq
            · rw [List.getElem?_append_right (by omega), List.getElem?_eq_none (by simp; omega)] at hq
              exact absurd hq (by simp)
        · intro i q hq
          rw [nl, pk_un (by omega), Nat.add_assoc, Nat.add_comm 1 i]
          exact r2 (i + 1) q (by simpa using hq)
        · intro q hq hE
          rcases List.mem_append.mp hq with r | r
          · exact o1 q r hE
          · have : q = p := by simpa using r
            subst this; exact absurd hE z
        · intro c hcn
          exact o2 c (fun q hq hE => hcn q (List.mem_append_left _ hq) hE)
  exact ⟨fl.length + 1, L fl [] b_owner b_order rfl (fun i p hp => absurd hp (by simp)) (fun i p hp => by rw [List.length_nil, Nat.zero_add]; exact hord i p hp) (fun p hp => absurd hp (by simp)) (fun _ _ => rfl)⟩
theorem yd_round {post : SY → Prop} {J58 : Int32 → (Nat → Int32) → (Nat → Int32) → (Nat → Int32) → (Nat → Int32) → (Nat → Int32) → (Nat → Int32) → (Nat → Int32) → (Nat → Int32) → (Nat → Int32) → (Nat → Int32) → (Nat → Int32) → (Nat → Int32) → (Nat → Int32) → (Nat → Int32) → (Nat → Int32) → (Nat → Int32) → (Nat → Int32) → Prop} {M : Nat → Prop} {kd s1 s2 : Nat → Nat} {x : Nat} {E0 : Nat → Int32} (hF : ∀ t, t < 32 → M t → (kd t = 4 → b_first t < 0 ∧ b_second t < 0) ∧ (kd t ≠ 4 → b_first t = nI (s1 t) ∧ s1 t < 32 ∧ M (s1 t) ∧ ((b_second t < 0 ∧ s2 t = s1 t) ∨ b_second t = nI (s2 t)) ∧ s2 t < 32 ∧ M (s2 t))) (h : ∀ E : Nat → Int32, (∀ r, ¬ E0 r = 0 → ¬ E r = 0) → (∀ r, r < 32 → ¬ E r = 0 → M r) → (∀ r, r < 32 → ¬ E0 r = 0 → kd r ≠ 4 → ¬ E (s1 r) = 0 ∧ ¬ E (s2 r) = 0) → J58 (nI (x + 1)) b_used b_rank b_dims b_shown b_tensorOf b_view E b_kind b_first b_second b_owner b_parts b_partCount b_value b_slopeOf b_order b_slopes) : ∀ (k t : Nat) (E : Nat → Int32), t + k = 32 → (∀ r, ¬ E0 r = 0 → ¬ E r = 0) → (∀ r, r < 32 → ¬ E r = 0 → M r) → (∀ r, r < t → ¬ E0 r = 0 → kd r ≠ 4 → ¬ E (s1 r) = 0 ∧ ¬ E (s2 r) = 0) → wY_settle_66 post J58 (nI x) c_cells c_slopeCount (k + 1) (nI t) b_used b_rank b_dims b_shown b_tensorOf b_view E b_kind b_first b_second b_owner b_parts b_partCount b_value b_slopeOf b_order b_slopes := by
  intro k
  induction k with
  | zero =>
    intro t E ht a b c
    exact br_t (nI_le (a := 32) (by omega) (by omega)) (nm_r (nI_1 x) (h E a b (fun r hr => c r (by omega))))
  | succ k ih =>
    intro t E ht a b c
    have hv : vp_in (nI t) 32 := vp_in_nI (by omega) (by decide)
    have ct : (nI t).toNatClampNeg = t := nI_clamp (by omega)
    refine br_f (nI_ge (b := 32) (by omega) (by decide)) ⟨hv, ?_⟩
    rw [ct]
    refine br_c (fun z => nm_r (nI_1 t) (ih (t + 1) E (by omega) a b (fun r hr hE hk => ?_))) (fun z => ⟨hv, ?_⟩)
    · by_cases y : r = t
      · rw [y] at hE; exact absurd z (a t hE)
      · exact c r (by omega) hE hk
    obtain ⟨f4, f5⟩ := hF t (by omega) (b t (by omega) z)
    by_cases k4 : kd t = 4
    · obtain ⟨g1, g2⟩ := f4 k4
      refine br_t g1 ⟨hv, br_t (by rw [ct]; exact g2) (nm_r (nI_1 t) (ih (t + 1) E (by omega) a b (fun r hr hE hk => ?_)))⟩
      by_cases y : r = t
      · rw [y] at hk; exact absurd k4 hk
      · exact c r (by omega) hE hk
    · obtain ⟨g1, g2, g3, g4, g5, g6⟩ := f5 k4
      refine br_f (by rw [g1]; exact nI_pos (by omega)) ⟨hv, ?_⟩
      rw [g1]
      refine ⟨vp_in_nI g2 (by decide), nm_r (e' := upd E (s1 t) 1) (by rw [nI_clamp (by omega), ab_b1]) ⟨hv, ?_⟩⟩
      rw [ct]
      have a1 : ∀ r, ¬ E0 r = 0 → ¬ upd E (s1 t) 1 r = 0 := fun r hr => dr_up (a r hr)
      have b1 : ∀ r, r < 32 → ¬ upd E (s1 t) 1 r = 0 → M r := by
        intro r hr hE
        by_cases y : r = s1 t
        · rw [y]; exact g3
        · rw [pk_un y] at hE; exact b r hr hE
      have m1 : ¬ upd E (s1 t) 1 (s1 t) = 0 := by rw [pk_us]; exact ab_10
      rcases g4 with ⟨q1, q2⟩ | q
      · refine br_t q1 (nm_r (nI_1 t) (ih (t + 1) _ (by omega) a1 b1 (fun r hr hE hk => ?_)))
        by_cases y : r = t
        · rw [y, q2]; exact ⟨m1, m1⟩
        · obtain ⟨e1, e2⟩ := c r (by omega) hE hk
          exact ⟨dr_up e1, dr_up e2⟩
      · refine br_f (by rw [q]; exact nI_pos (by omega)) ⟨hv, ?_⟩
        rw [q]
        refine ⟨vp_in_nI g5 (by decide), nm_r (e' := upd (upd E (s1 t) 1) (s2 t) 1) (by rw [nI_clamp (by omega), ab_b1]) (nm_r (nI_1 t) (ih (t + 1) _ (by omega) (fun r hr => dr_up (a1 r hr)) ?_ (fun r hr hE hk => ?_)))⟩
        · intro r hr hE
          by_cases y : r = s2 t
          · rw [y]; exact g6
          · rw [pk_un y] at hE; exact b1 r hr hE
        · by_cases y : r = t
          · rw [y]; exact ⟨dr_up m1, by rw [pk_us]; exact ab_10⟩
          · obtain ⟨e1, e2⟩ := c r (by omega) hE hk
            exact ⟨dr_up (dr_up e1), dr_up (dr_up e2)⟩
theorem yd_settle {post : SY → Prop} {sl kd : Nat → Nat} {ages : List Nat} {N : Nat → Int32} (hok : dr_ok b_used sl kd ages N) (hor : rl_or kd sl [] ages) (hnd : ages.Nodup) (hl32 : ages.length ≤ 32) (hS : ∀ s, s ∈ ages → s < 32) (hMa : ∀ s, s < 32 → ¬ N s = 0 → s ∈ ages) (hT : ∀ h, h < 24 → ¬ b_used h = 0 → b_tensorOf h = nI (sl h) ∧ sl h < 32) (hF : ∀ t, t ∈ ages → (kd t = 4 → b_first t < 0 ∧ b_second t < 0) ∧ (kd t ≠ 4 → b_first t = nI (sl (24 + 2 * t)) ∧ sl (24 + 2 * t) < 32 ∧ ((b_second t < 0 ∧ sl (25 + 2 * t) = sl (24 + 2 * t)) ∨ b_second t = nI (sl (25 + 2 * t))) ∧ sl (25 + 2 * t) < 32)) (h : ∀ E : Nat → Int32, (∀ t, t < 32 → (¬ E t = 0 ↔ ¬ N t = 0)) → ∃ n, wY_settle_142 post c_cells c_slopeCount n 0 0 b_used b_rank b_dims b_shown b_tensorOf b_view E b_kind b_first b_second b_owner b_parts b_partCount b_value b_slopeOf b_order b_slopes) : wpY_settle post (c_cells, c_slopeCount, b_used, b_rank, b_dims, b_shown, b_tensorOf, b_view, b_exists, b_kind, b_first, b_second, b_owner, b_parts, b_partCount, b_value, b_slopeOf, b_order, b_slopes) := by
  obtain ⟨k1, k2, k3⟩ := hok
  have C : ∀ (k r : Nat) (E : Nat → Int32), r + k = 32 → (∀ t, t < 32 → ¬ E t = 0 → ¬ N t = 0) → (∀ h, h < 24 → ¬ b_used h = 0 → ¬ E (sl h) = 0) → (∀ i s, ages[i]? = some s → ¬ N s = 0 → ages.length ≤ i + r → ¬ E s = 0) → wY_settle_58 post c_cells c_slopeCount (k + 1) (nI r) b_used b_rank b_dims b_shown b_tensorOf b_view E b_kind b_first b_second b_owner b_parts b_partCount b_value b_slopeOf b_order b_slopes := by
    intro k
    induction k with
    | zero =>
      intro r E hr e1 e2 e3
      refine br_t (nI_le (a := 32) (by omega) (by omega)) (h E (fun t ht => ⟨e1 t ht, fun hN => ?_⟩))
      obtain ⟨i, hi, ei⟩ := List.mem_iff_getElem.mp (hMa t ht hN)
      exact e3 i t (by rw [List.getElem?_eq_getElem hi, ei]) hN (by omega)
    | succ k ih =>
      intro r E hr e1 e2 e3
      refine br_f (nI_ge (b := 32) (by omega) (by decide)) ⟨33, ?_⟩
      refine yd_round (M := fun t => ¬ N t = 0) (kd := kd) (s1 := fun t => sl (24 + 2 * t)) (s2 := fun t => sl (25 + 2 * t)) (E0 := E) (fun t ht hM => ?_) (fun E' f1 f2 f3 => ih (r + 1) E' (by omega) f2 (fun h' hh hu => f1 _ (e2 h' hh hu)) (fun i s hi hN hl => ?_)) 32 0 E (by omega) (fun _ q => q) e1 (fun q hq => absurd hq (by omega))
      · have hta := hMa t ht hM
        obtain ⟨g1, g2⟩ := hF t hta
        refine ⟨g1, fun hk => ?_⟩
        obtain ⟨x1, x2, x3, x4⟩ := g2 hk
        obtain ⟨m1, m2⟩ := k2 t hta hM hk
        exact ⟨x1, x2, m1, x3, x4, m2⟩
      · obtain ⟨li, ei⟩ := List.getElem?_eq_some_iff.mp hi
        have hsa : s ∈ ages := List.mem_of_getElem? hi
        have hM32 : s < 32 := hS s hsa
        rcases k3 s hM32 hN with ⟨h', hh, hu, es⟩ | ⟨t, ht, hNt, hk, hs⟩
        · rw [← es]; exact f1 _ (e2 h' hh hu)
        · obtain ⟨i', li', ei'⟩ := List.mem_iff_getElem.mp ht
          have hi' : ages[i']? = some t := by rw [List.getElem?_eq_getElem li', ei']
          have lt := dr_ix hor hnd hi hi' hk hs
          have hEt := e3 i' t hi' hNt (by omega)
          obtain ⟨q1, q2⟩ := f3 t (hS t ht) hEt hk
          rcases hs with q | q
          · rw [q]; exact q1
          · rw [q]; exact q2
  have B : ∀ (k j : Nat) (E : Nat → Int32), j + k = 24 → (∀ t, t < 32 → ¬ E t = 0 → ¬ N t = 0) → (∀ h, h < j → ¬ b_used h = 0 → ¬ E (sl h) = 0) → wY_settle_23 post c_cells c_slopeCount (k + 1) (nI j) b_used b_rank b_dims b_shown b_tensorOf b_view E b_kind b_first b_second b_owner b_parts b_partCount b_value b_slopeOf b_order b_slopes := by
    intro k
    induction k with
    | zero =>
      intro j E hj e1 e2
      refine br_t (nI_le (a := 24) (by omega) (by omega)) ⟨33, C 32 0 E (by omega) e1 (fun h' hh => e2 h' (by omega)) (fun i s hi hN hl => ?_)⟩
      have := (List.getElem?_eq_some_iff.mp hi).1
      omega
    | succ k ih =>
      intro j E hj e1 e2
      have cj : (nI j).toNatClampNeg = j := nI_clamp (by omega)
      have hvj : vp_in (nI j) 25 := vp_in_nI (by omega) (by decide)
      refine br_f (nI_ge (b := 24) (by omega) (by decide)) ⟨hvj, ?_⟩
      rw [cj]
      refine br_c (fun t0 => nm_r (nI_1 j) (ih (j + 1) E (by omega) e1 (fun h' hh ht => ?_))) (fun t0 => ⟨hvj, ?_⟩)
      · by_cases z : h' = j
        · rw [z] at ht; exact absurd t0 ht
        · exact e2 h' (by omega) ht
      · obtain ⟨g1, g2⟩ := hT j (by omega) t0
        rw [g1]
        refine ⟨vp_in_nI g2 (by decide), nm_r (e' := upd E (sl j) 1) (by rw [nI_clamp (by omega), ab_b1]) (nm_r (nI_1 j) (ih (j + 1) _ (by omega) (fun t ht hE => ?_) (fun h' hh ht => ?_)))⟩
        · by_cases z : t = sl j
          · rw [z]; exact k1 j (by omega) t0
          · rw [pk_un z] at hE; exact e1 t ht hE
        · by_cases z : h' = j
          · rw [z, pk_us]; exact ab_10
          · exact dr_up (e2 h' (by omega) ht)
  have A : ∀ (k j : Nat) (E : Nat → Int32), j + k = 32 → (∀ t, t < j → E t = 0) → wY_settle_2 post c_cells c_slopeCount (k + 1) (nI j) b_used b_rank b_dims b_shown b_tensorOf b_view E b_kind b_first b_second b_owner b_parts b_partCount b_value b_slopeOf b_order b_slopes := by
    intro k
    induction k with
    | zero =>
      intro j E hj h0
      exact br_t (nI_le (a := 32) (by omega) (by omega)) ⟨25, B 24 0 E (by omega) (fun t ht hE => absurd (h0 t (by omega)) hE) (fun h' hh => absurd hh (by omega))⟩
    | succ k ih =>
      intro j E hj h0
      refine br_f (nI_ge (b := 32) (by omega) (by decide)) ⟨vp_in_nI (by omega) (by decide), fun E' hE' => nm_r (nI_1 j) (ih (j + 1) E' (by omega) ?_)⟩
      rw [nI_clamp (by omega), ab_b0] at hE'
      intro t ht
      rw [hE']
      by_cases z : t = j
      · rw [z, pk_us]
      · rw [pk_un z]; exact h0 t (by omega)
  exact ⟨33, A 32 0 b_exists (by omega) (fun t ht => absurd ht (by omega))⟩
end
