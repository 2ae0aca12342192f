def dr_m (N : Nat → Int32) (s : Nat) : Bool := decide (¬ N s = 0)
theorem dr_mt {N : Nat → Int32} {s : Nat} : dr_m N s = true ↔ ¬ N s = 0 := by unfold dr_m; exact decide_eq_true_iff
theorem dr_plf {sz : Nat → Nat} {s : Nat} {m : Nat → Bool} (h : sz s ≤ 64) : (ab_pl sz s).filter (fun p => m (p / 64)) = if m s = true then ab_pl sz s else [] := by
  by_cases z : m s = true
  · rw [if_pos z, List.filter_eq_self]
    intro p hp
    rw [ab_plm h] at hp
    rw [hp.1]; exact z
  · rw [if_neg z, List.filter_eq_nil_iff]
    intro p hp
    rw [ab_plm h] at hp
    rw [hp.1]; exact z
theorem dr_flf {sz : Nat → Nat} {m : Nat → Bool} : ∀ {l : List Nat}, (∀ s, s ∈ l → sz s ≤ 64) → (ab_fl sz l).filter (fun p => m (p / 64)) = ab_fl sz (l.filter m) := by
  intro l
  induction l with
  | nil => intro _; rfl
  | cons s l ih =>
    intro h
    rw [ab_flc, List.filter_append, dr_plf (h s (by simp)), ih (fun t ht => h t (List.mem_cons_of_mem _ ht))]
    by_cases z : m s = true
    · rw [if_pos z, List.filter_cons_of_pos z, ab_flc]
    · rw [if_neg z, List.filter_cons_of_neg z, List.nil_append]
theorem dr_nod {sz : Nat → Nat} : ∀ {l : List Nat}, (∀ s, s ∈ l → sz s ≤ 64) → l.Nodup → (ab_fl sz l).Nodup := by
  intro l
  induction l with
  | nil => intro _ _; exact List.nodup_nil
  | cons s l ih =>
    intro h hn
    rw [List.nodup_cons] at hn
    rw [ab_flc, List.nodup_append]
    refine ⟨?_, ih (fun t ht => h t (List.mem_cons_of_mem _ ht)) hn.2, ?_⟩
    · unfold ab_pl
      refine List.Pairwise.map _ ?_ List.nodup_range
      intro a b hab; omega
    · intro p hp q hq z
      subst z
      rw [ab_plm (h s (by simp))] at hp
      rw [ab_flm (fun t ht => h t (List.mem_cons_of_mem _ ht))] at hq
      rw [hp.1] at hq
      exact hn.1 hq.1
theorem dr_or {kd sl : Nat → Nat} {m : Nat → Bool} : ∀ {l pre : List Nat}, rl_or kd sl pre l → (∀ s, s ∈ l → m s = true → kd s ≠ 4 → m (sl (24 + 2 * s)) = true ∧ m (sl (25 + 2 * s)) = true) → rl_or kd sl (pre.filter m) (l.filter m) := by
  intro l
  induction l with
  | nil => intro pre _ _; trivial
  | cons s l ih =>
    intro pre H h
    have h2 := ih H.2 (fun t ht => h t (List.mem_cons_of_mem _ ht))
    by_cases z : m s = true
    · rw [List.filter_cons_of_pos z] at h2 ⊢
      refine ⟨fun hk => ?_, h2⟩
      obtain ⟨a, b⟩ := h s (by simp) z hk
      obtain ⟨c, e⟩ := H.1 hk
      exact ⟨List.mem_filter.mpr ⟨c, a⟩, List.mem_filter.mpr ⟨e, b⟩⟩
    · rw [List.filter_cons_of_neg z] at h2 ⊢
      exact h2
theorem dr_inj : ∀ {l : List Nat} {i j x : Nat}, l.Nodup → l[i]? = some x → l[j]? = some x → i = j := by
  intro l
  induction l with
  | nil => intro i j x _ h; exact absurd h (by simp)
  | cons a l ih =>
    intro i j x hn h1 h2
    rw [List.nodup_cons] at hn
    cases i with
    | zero =>
      cases j with
      | zero => rfl
      | succ j =>
        have e1 : a = x := by simpa using h1
        have e2 : l[j]? = some x := by simpa using h2
        subst e1
        exact absurd (List.mem_of_getElem? e2) hn.1
    | succ i =>
      cases j with
      | zero =>
        have e1 : a = x := by simpa using h2
        have e2 : l[i]? = some x := by simpa using h1
        subst e1
        exact absurd (List.mem_of_getElem? e2) hn.1
      | succ j =>
        have := ih (i := i) (j := j) (x := x) hn.2 (by simpa using h1) (by simpa using h2)
        omega
theorem dr_ix {kd sl : Nat → Nat} {ages : List Nat} {i i' s s' : Nat} (H : rl_or kd sl [] ages) (hn : ages.Nodup) (h1 : ages[i]? = some s) (h2 : ages[i']? = some s') (hk : kd s' ≠ 4) (hs : s = sl (24 + 2 * s') ∨ s = sl (25 + 2 * s')) : i < i' := by
  obtain ⟨l2, e2⟩ := List.getElem?_eq_some_iff.mp h2
  have sp : ages = ages.take i' ++ s' :: ages.drop (i' + 1) := by
    rw [← e2, ← List.drop_eq_getElem_cons l2, List.take_append_drop]
  rw [sp] at H
  obtain ⟨o1, o2⟩ := rl_orS H hk
  rw [List.nil_append] at o1 o2
  have hm : s ∈ ages.take i' := by rcases hs with q | q <;> rw [q] <;> assumption
  obtain ⟨j, hj, ej⟩ := List.mem_take_iff_getElem.mp hm
  obtain ⟨l1, e1⟩ := List.getElem?_eq_some_iff.mp h1
  have : j = i := by
    have hj2 : j < ages.length := by omega
    exact dr_inj hn (by rw [List.getElem?_eq_getElem hj2, ej]) h1
  omega
theorem rl_winM {sl sz : Nat → Nat} {d : Nat → Nat → Nat} {G : Nat → Nat → Nat → Nat → Nat} {ages ages' : List Nat} {S St D E : Nat → Int32} {w : Nat} (h : sl w ∈ ages') (H : rl_win sl d G ages sz S St D E w) : rl_win sl d G ages' sz S St D E w := ⟨H.1, h, H.2.2.1, H.2.2.2⟩
def dr_ok (T : Nat → Int32) (sl kd : Nat → Nat) (ages : List Nat) (N : Nat → Int32) : Prop := (∀ h, h < 24 → ¬ T h = 0 → ¬ N (sl h) = 0) ∧ (∀ s, s ∈ ages → ¬ N s = 0 → kd s ≠ 4 → ¬ N (sl (24 + 2 * s)) = 0 ∧ ¬ N (sl (25 + 2 * s)) = 0) ∧ (∀ s, s < 32 → ¬ N s = 0 → (∃ h, h < 24 ∧ ¬ T h = 0 ∧ sl h = s) ∨ (∃ t, t ∈ ages ∧ ¬ N t = 0 ∧ kd t ≠ 4 ∧ (s = sl (24 + 2 * t) ∨ s = sl (25 + 2 * t))))
theorem dr_up {N : Nat → Int32} {k t : Nat} (h : ¬ N t = 0) : ¬ upd N k 1 t = 0 := by
  by_cases z : t = k
  · rw [z, pk_us]; exact ab_10
  · rw [pk_un z]; exact h
section
variable {f_slotsTaken f_elementsTaken f_slopeCount : Int32} {a_handleTaken a_handleIsView a_windowRank a_windowSlot a_windowStart a_windowDimension a_windowStride a_slotSize a_slotKind a_slotTerms a_slotNeeded a_slotsByAge a_values a_derivatives a_firstPlaces a_secondPlaces a_assigned a_slopes : Nat → Int32}
theorem xd_mark {post : SX → Prop} {rk sl sz kd tm : Nat → Nat} {d : Nat → Nat → Nat} {G : Nat → Nat → Nat → Nat → Nat} {ages : List Nat} {T : Nat → Int32} (hX : rl_X rk sl d G ages sz kd tm f_slotsTaken f_elementsTaken T a_handleIsView a_windowRank a_windowSlot a_windowStart a_windowDimension a_windowStride a_slotSize a_slotKind a_slotTerms a_slotsByAge) (hT : ∀ h, h < 24 → ¬ a_handleTaken h = 0 → ¬ T h = 0) (h : ∀ N : Nat → Int32, dr_ok a_handleTaken sl kd ages N → post (f_slotsTaken, f_elementsTaken, f_slopeCount, a_handleTaken, a_handleIsView, a_windowRank, a_windowSlot, a_windowStart, a_windowDimension, a_windowStride, a_slotSize, a_slotKind, a_slotTerms, N, a_slotsByAge, a_values, a_derivatives, a_firstPlaces, a_secondPlaces, a_assigned, a_slopes)) : wpX_markNeededSlots post (f_slotsTaken, f_elementsTaken, f_slopeCount, a_handleTaken, a_handleIsView, a_windowRank, a_windowSlot, a_windowStart, a_windowDimension, a_windowStride, a_slotSize, a_slotKind, a_slotTerms, a_slotNeeded, a_slotsByAge, a_values, a_derivatives, a_firstPlaces, a_secondPlaces, a_assigned, a_slopes) := by
  have A : ∀ (k j : Nat) (N : Nat → Int32), j + k = 32 → (∀ t, t < j → N t = 0) → wX_markNeededSlots_2 post f_slotsTaken f_elementsTaken f_slopeCount (k + 1) (nI j) a_handleTaken a_handleIsView a_windowRank a_windowSlot a_windowStart a_windowDimension a_windowStride a_slotSize a_slotKind a_slotTerms N a_slotsByAge a_values a_derivatives a_firstPlaces a_secondPlaces a_assigned a_slopes := by
    intro k
    induction k with
    | zero =>
      intro j N hj h0
      refine br_t (nI_le (a := 32) (by omega) (by omega)) ⟨25, ?_⟩
      have B : ∀ (k j : Nat) (N : Nat → Int32), j + k = 24 → (∀ h, h < j → ¬ a_handleTaken h = 0 → ¬ N (sl h) = 0) → (∀ s, s < 32 → ¬ N s = 0 → ∃ h, h < 24 ∧ ¬ a_handleTaken h = 0 ∧ sl h = s) → wX_markNeededSlots_23 post f_slotsTaken f_elementsTaken f_slopeCount (k + 1) (nI j) a_handleTaken a_handleIsView a_windowRank a_windowSlot a_windowStart a_windowDimension a_windowStride a_slotSize a_slotKind a_slotTerms N a_slotsByAge a_values a_derivatives a_firstPlaces a_secondPlaces a_assigned a_slopes := by
        intro k
        induction k with
        | zero =>
          intro j N hj b1 b2
          refine br_t (nI_le (a := 24) (by omega) (by omega)) (nm_r (e' := nI ages.reverse.length - 1) (by rw [hX.1.1, List.length_reverse]) ⟨ages.reverse.length + 1, ?_⟩)
          have C : ∀ (rl done : List Nat) (N : Nat → Int32), ages = rl.reverse ++ done → (∀ h, h < 24 → ¬ a_handleTaken h = 0 → ¬ N (sl h) = 0) → (∀ s, s ∈ done → ¬ N s = 0 → kd s ≠ 4 → ¬ N (sl (24 + 2 * s)) = 0 ∧ ¬ N (sl (25 + 2 * s)) = 0) → (∀ s, s < 32 → ¬ N s = 0 → (∃ h, h < 24 ∧ ¬ a_handleTaken h = 0 ∧ sl h = s) ∨ (∃ t, t ∈ ages ∧ ¬ N t = 0 ∧ kd t ≠ 4 ∧ (s = sl (24 + 2 * t) ∨ s = sl (25 + 2 * t)))) → wX_markNeededSlots_63 post f_slotsTaken f_elementsTaken f_slopeCount (rl.length + 1) (nI rl.length - 1) a_handleTaken a_handleIsView a_windowRank a_windowSlot a_windowStart a_windowDimension a_windowStride a_slotSize a_slotKind a_slotTerms N a_slotsByAge a_values a_derivatives a_firstPlaces a_secondPlaces a_assigned a_slopes := by
            intro rl
            induction rl with
            | nil =>
              intro done N ha c1 c2 c3
              have ha' : ages = done := by simpa using ha
              exact br_t (by decide) (h N ⟨c1, by rw [ha']; exact c2, c3⟩)
            | cons s rl ih =>
              intro done N ha c1 c2 c3
              have m32 := ab_pg2 32 ages hX.2.2.1.1 hX.2.2.1.2.1
              have ha' : ages = rl.reverse ++ (s :: done) := by rw [ha]; simp
              have hlen : ages.length = rl.length + (done.length + 1) := by rw [ha', List.length_append, List.length_reverse, List.length_cons]
              have hget : ages[rl.length]? = some s := by
                rw [ha', List.getElem?_append_right (by rw [List.length_reverse]; omega), List.length_reverse, Nat.sub_self]; rfl
              have hAg := hX.1.2 _ _ hget
              have hs : s ∈ ages := by rw [ha']; simp
              have s32 := hX.2.2.1.2.1 s hs
              have xs := hX.2.2.2.1 s hs
              have e0 : nI (s :: rl).length - 1 = nI rl.length := nI_pred _
              have e1 : nI rl.length + (-1) = nI rl.length - 1 := by grind
              have cs : (nI s).toNatClampNeg = s := nI_clamp (by omega)
              have hvs : vp_in (nI s) 32 := vp_in_nI s32 (by decide)
              rw [e0]
              refine br_f (nI_pos (by omega)) ⟨vp_in_nI (by omega) (by decide), nm_r (e' := nI s) (by rw [nI_clamp (by omega), hAg]) ⟨hvs, ?_⟩⟩
              rw [cs]
              refine br_c (fun n0 => nm_r e1 (ih (s :: done) N ha' c1 (fun t ht hN hk => ?_) c3)) (fun n0 => ⟨hvs, ?_⟩)
              · rcases List.mem_cons.mp ht with q | q
                · rw [q] at hN; exact absurd n0 hN
                · exact c2 t q hN hk
              · rw [xs.2.2.2.1]
                by_cases k4 : kd s = 4
                · refine br_t (by rw [k4]; rfl) (nm_r e1 (ih (s :: done) N ha' c1 (fun t ht hN hk => ?_) c3))
                  rcases List.mem_cons.mp ht with q | q
                  · rw [q] at hk; exact absurd k4 hk
                  · exact c2 t q hN hk
                · have ho := hX.2.2.1.2.2.2
                  rw [ha'] at ho
                  obtain ⟨o1, o2⟩ := rl_orS ho k4
                  rw [List.nil_append] at o1 o2
                  obtain ⟨u1, u2, u3, u4, u5, u6, u7⟩ := xs.2.2.2.2.2 k4
                  have t1 := hX.2.2.1.2.1 _ u6.2.1
                  have t2 := hX.2.2.1.2.1 _ u7.2.1
                  refine br_f (fun z => k4 ((nI_eq (b := 4) (by have := xs.2.2.2.2.1; omega) (by decide)).mp z)) (xw_firstSource ⟨vp_in_nI (by omega) (by decide), ?_⟩)
                  rw [show nI (24 + 2 * s) + 1 = nI (25 + 2 * s) from by rw [nI_1]; congr 1; omega, nI_clamp (show 24 + 2 * s < 2 ^ 31 by omega), nI_clamp (show 25 + 2 * s < 2 ^ 31 by omega), u6.1, u7.1, nI_clamp (show sl (24 + 2 * s) < 2 ^ 31 by omega), nI_clamp (show sl (25 + 2 * s) < 2 ^ 31 by omega), ab_b1]
                  refine ⟨vp_in_nI t1 (by decide), fun N1 hN1 => ⟨vp_in_nI (by omega) (by decide), vp_in_nI t2 (by decide), fun N2 hN2 => nm_r e1 (ih (s :: done) N2 ha' ?_ ?_ ?_)⟩⟩
                  all_goals subst hN1 hN2
                  · intro h' hh ht; exact dr_up (dr_up (c1 h' hh ht))
                  · intro t ht hN hk
                    have m1 : ¬ upd (upd N (sl (24 + 2 * s)) 1) (sl (25 + 2 * s)) 1 (sl (24 + 2 * s)) = 0 := dr_up (by rw [pk_us]; exact ab_10)
                    have m2 : ¬ upd (upd N (sl (24 + 2 * s)) 1) (sl (25 + 2 * s)) 1 (sl (25 + 2 * s)) = 0 := by rw [pk_us]; exact ab_10
                    rcases List.mem_cons.mp ht with q | q
                    · subst q; exact ⟨m1, m2⟩
                    · have hnd := hX.2.2.1.1
                      rw [ha', List.nodup_append] at hnd
                      have n1 : t ≠ sl (24 + 2 * s) := fun z => hnd.2.2 _ o1 t (List.mem_cons_of_mem _ q) z.symm
                      have n2 : t ≠ sl (25 + 2 * s) := fun z => hnd.2.2 _ o2 t (List.mem_cons_of_mem _ q) z.symm
                      rw [pk_un n2, pk_un n1] at hN
                      obtain ⟨a, b⟩ := c2 t q hN hk
                      exact ⟨dr_up (dr_up a), dr_up (dr_up b)⟩
                  · intro t ht hN
                    by_cases z2 : t = sl (25 + 2 * s)
                    · exact Or.inr ⟨s, hs, dr_up (dr_up n0), k4, Or.inr z2⟩
                    · by_cases z1 : t = sl (24 + 2 * s)
                      · exact Or.inr ⟨s, hs, dr_up (dr_up n0), k4, Or.inl z1⟩
                      · rw [pk_un z2, pk_un z1] at hN
                        rcases c3 t ht hN with q | ⟨r, r1, r2, r3, r4⟩
                        · exact Or.inl q
                        · exact Or.inr ⟨r, r1, dr_up (dr_up r2), r3, r4⟩
          exact C ages.reverse [] N (by simp) (fun h hh => b1 h (by omega)) (fun s hs => absurd hs (by simp)) (fun s hs hN => Or.inl (b2 s hs hN))
        | succ k ih =>
          intro j N hj b1 b2
          refine br_f (nI_ge (b := 24) (by omega) (by decide)) ⟨vp_in_nI (by omega) (by decide), ?_⟩
          rw [nI_clamp (show j < 2 ^ 31 by omega)]
          refine br_c (fun t0 => nm_r (nI_1 j) (ih (j + 1) N (by omega) (fun h' hh ht => ?_) b2)) (fun t0 => ⟨vp_in_nI (by omega) (by decide), ?_⟩)
          · by_cases z : h' = j
            · rw [z] at ht; exact absurd t0 ht
            · exact b1 h' (by omega) ht
          · obtain ⟨w1, w2, w3, w4⟩ := hX.2.2.2.2 j (by omega) (hT j (by omega) t0)
            have t32 := hX.2.2.1.2.1 _ w3.2.1
            rw [w3.1, nI_clamp (show sl j < 2 ^ 31 by omega), ab_b1]
            refine ⟨vp_in_nI t32 (by decide), fun N' hN' => nm_r (nI_1 j) (ih (j + 1) N' (by omega) (fun h' hh ht => ?_) (fun s hs hN => ?_))⟩
            · rw [hN']
              by_cases z : h' = j
              · rw [z, pk_us]; exact ab_10
              · exact dr_up (b1 h' (by omega) ht)
            · rw [hN'] at hN
              by_cases z : s = sl j
              · exact ⟨j, by omega, t0, z.symm⟩
              · rw [pk_un z] at hN; exact b2 s hs hN
      exact B 24 0 N (by omega) (fun h hh => absurd hh (by omega)) (fun s hs hN => absurd (h0 s (by omega)) hN)
    | succ k ih =>
      intro j N hj h0
      refine br_f (nI_ge (b := 32) (by omega) (by decide)) ⟨vp_in_nI (by omega) (by decide), fun N' hN' => nm_r (nI_1 j) (ih (j + 1) N' (by omega) ?_)⟩
      rw [nI_clamp (by omega), ab_b0] at hN'
      intro t ht
      rw [hN']
      by_cases z : t = j
      · rw [z, pk_us]
      · rw [pk_un z]; exact h0 t (by omega)
  exact ⟨33, A 32 0 a_slotNeeded (by omega) (fun t ht => absurd ht (by omega))⟩
theorem xd_free {post : SX → Prop} {sz : Nat → Nat} {ages : List Nat} (hm : f_slotsTaken = nI ages.length) (hAg : ∀ i s, ages[i]? = some s → a_slotsByAge i = nI s) (hel : f_elementsTaken = nI (ab_fl sz ages).length) (htot : (ab_fl sz ages).length ≤ 320) (hl32 : ages.length ≤ 32) (hnd : ages.Nodup) (hs32 : ∀ s, s ∈ ages → s < 32) (hsz : ∀ s, s ∈ ages → a_slotSize s = nI (sz s)) (h : ∀ Sz Ag : Nat → Int32, (∀ i s, (ages.filter (dr_m a_slotNeeded))[i]? = some s → Ag i = nI s) → (∀ s, s ∈ ages → a_slotNeeded s = 0 → Sz s = 0) → (∀ s, (s ∉ ages ∨ ¬ a_slotNeeded s = 0) → Sz s = a_slotSize s) → post (nI (ages.filter (dr_m a_slotNeeded)).length, nI (ab_fl sz (ages.filter (dr_m a_slotNeeded))).length, f_slopeCount, a_handleTaken, a_handleIsView, a_windowRank, a_windowSlot, a_windowStart, a_windowDimension, a_windowStride, Sz, a_slotKind, a_slotTerms, a_slotNeeded, Ag, a_values, a_derivatives, a_firstPlaces, a_secondPlaces, a_assigned, a_slopes)) : wpX_freeOtherSlots post (f_slotsTaken, f_elementsTaken, f_slopeCount, a_handleTaken, a_handleIsView, a_windowRank, a_windowSlot, a_windowStart, a_windowDimension, a_windowStride, a_slotSize, a_slotKind, a_slotTerms, a_slotNeeded, a_slotsByAge, a_values, a_derivatives, a_firstPlaces, a_secondPlaces, a_assigned, a_slopes) := by
  have L : ∀ (rest pre : List Nat) (Sz Ag : Nat → Int32), ages = pre ++ rest → (∀ i s, (pre.filter (dr_m a_slotNeeded))[i]? = some s → Ag i = nI s) → (∀ i s, rest[i]? = some s → Ag (pre.length + i) = nI s) → (∀ s, s ∈ pre → a_slotNeeded s = 0 → Sz s = 0) → (∀ s, (s ∉ pre ∨ ¬ a_slotNeeded s = 0) → Sz s = a_slotSize s) → wX_freeOtherSlots_4 post f_slotsTaken f_slopeCount (rest.length + 1) (nI (pre.filter (dr_m a_slotNeeded)).length) (nI pre.length) (nI ((ab_fl sz (pre.filter (dr_m a_slotNeeded))).length + (ab_fl sz rest).length)) a_handleTaken a_handleIsView a_windowRank a_windowSlot a_windowStart a_windowDimension a_windowStride Sz a_slotKind a_slotTerms a_slotNeeded Ag a_values a_derivatives a_firstPlaces a_secondPlaces a_assigned a_slopes := by
    intro rest
    induction rest with
    | nil =>
      intro pre Sz Ag ha h1 h2 h3 h4
      rw [List.append_nil] at ha
      subst ha
      refine br_t (by rw [hm]; exact nI_le (by omega) (by omega)) ?_
      have := h Sz Ag h1 h3 h4
      exact this
    | cons s rest ih =>
      intro pre Sz Ag ha h1 h2 h3 h4
      have hs : s ∈ ages := by rw [ha]; simp
      have s32 := hs32 s hs
      have hlen : ages.length = pre.length + (rest.length + 1) := by rw [ha, List.length_append, List.length_cons]
      have hfl : (pre.filter (dr_m a_slotNeeded)).length ≤ pre.length := List.length_filter_le _ _
      have hsp : s ∉ pre := by
        rw [ha, List.nodup_append] at hnd
        intro z
        exact hnd.2.2 s z s (by simp) rfl
      have ha' : ages = (pre ++ [s]) ++ rest := by rw [ha]; simp
      have hA0 := h2 0 s (by simp)
      rw [Nat.add_zero] at hA0
      have hvs : vp_in (nI s) 32 := vp_in_nI s32 (by decide)
      have cs : (nI s).toNatClampNeg = s := nI_clamp (by omega)
      have lc : (ab_fl sz (s :: rest)).length = sz s + (ab_fl sz rest).length := by rw [ab_flc, List.length_append, ab_pll]
      refine br_f (by rw [hm]; exact nI_ge (by omega) (by omega)) ⟨vp_in_nI (by omega) (by decide), nm_r (e' := nI s) (by rw [nI_clamp (by omega), hA0]) ⟨hvs, ?_⟩⟩
      rw [cs]
      have nl : (pre ++ [s]).length = pre.length + 1 := by rw [List.length_append]; rfl
      by_cases z : a_slotNeeded s = 0
      · have fz : ¬ dr_m a_slotNeeded s = true := fun q => dr_mt.mp q z
        have ff : (pre ++ [s]).filter (dr_m a_slotNeeded) = pre.filter (dr_m a_slotNeeded) := by rw [List.filter_append, List.filter_cons_of_neg fz]; simp
        refine br_t z ⟨hvs, nm_r (e' := nI ((ab_fl sz (pre.filter (dr_m a_slotNeeded))).length + (ab_fl sz rest).length)) ?_ ⟨hvs, nm_r (e' := upd Sz s 0) rfl (nm_r (e' := nI (pre ++ [s]).length) (by rw [nI_1, nl]) ?_)⟩⟩
        · rw [h4 s (Or.inl hsp), hsz s hs, pk_sub (by omega), lc]
          congr 1; omega
        · have := ih (pre ++ [s]) (upd Sz s 0) Ag ha' (by rw [ff]; exact h1) ?_ ?_ ?_
          · rw [ff] at this; exact this
          · intro i t ht
            rw [nl, Nat.add_assoc, Nat.add_comm 1 i]
            exact h2 (i + 1) t (by simpa using ht)
          · intro t ht hN
            by_cases y : t = s
            · rw [y, pk_us]
            · rw [pk_un y]
              refine h3 t ?_ hN
              rcases List.mem_append.mp ht with q | q
              · exact q
              · exact absurd (by simpa using q) y
          · intro t ht
            have y : t ≠ s := by
              intro y; subst y
              rcases ht with q | q
              · exact q (by simp)
              · exact q z
            rw [pk_un y]
            refine h4 t ?_
            rcases ht with q | q
            · exact Or.inl (fun r => q (List.mem_append_left _ r))
            · exact Or.inr q
      · have fz : dr_m a_slotNeeded s = true := dr_mt.mpr z
        have ff : (pre ++ [s]).filter (dr_m a_slotNeeded) = pre.filter (dr_m a_slotNeeded) ++ [s] := by rw [List.filter_append, List.filter_cons_of_pos fz]; simp
        have fl1 : ((pre ++ [s]).filter (dr_m a_slotNeeded)).length = (pre.filter (dr_m a_slotNeeded)).length + 1 := by rw [ff, List.length_append]; rfl
        refine br_f z ⟨vp_in_nI (by omega) (by decide), nm_r (e' := upd Ag (pre.filter (dr_m a_slotNeeded)).length (nI s)) (by rw [nI_clamp (by omega)]) (nm_r (e' := nI ((pre ++ [s]).filter (dr_m a_slotNeeded)).length) (by rw [nI_1, fl1]) (nm_r (e' := nI (pre ++ [s]).length) (by rw [nI_1, nl]) ?_))⟩
        have el : (ab_fl sz (pre.filter (dr_m a_slotNeeded))).length + (ab_fl sz (s :: rest)).length = (ab_fl sz ((pre ++ [s]).filter (dr_m a_slotNeeded))).length + (ab_fl sz rest).length := by
          rw [ff, ab_fla, List.length_append, lc, ab_flc, ab_fln, List.append_nil, ab_pll]; omega
        rw [el]
        refine ih (pre ++ [s]) Sz _ ha' ?_ ?_ ?_ ?_
        · intro i t ht
          rw [ff] at ht
          by_cases y : i = (pre.filter (dr_m a_slotNeeded)).length
          · subst y
            rw [List.getElem?_append_right (by omega)] at ht
            simp at ht
            rw [pk_us, ht]
          · rw [pk_un y]
            by_cases x : i < (pre.filter (dr_m a_slotNeeded)).length
            · rw [List.getElem?_append_left x] at ht; exact h1 i t ht
            · rw [List.getElem?_append_right (by omega), List.getElem?_eq_none (by simp; omega)] at ht
              exact absurd ht (by simp)
        · intro i t ht
          rw [nl, pk_un (by omega), Nat.add_assoc, Nat.add_comm 1 i]
          exact h2 (i + 1) t (by simpa using ht)
        · intro t ht hN
          refine h3 t ?_ hN
          rcases List.mem_append.mp ht with q | q
          · exact q
          · have : t = s := by simpa using q
            subst this; exact absurd hN z
        · intro t ht
          refine h4 t ?_
          rcases ht with q | q
          · exact Or.inl (fun r => q (List.mem_append_left _ r))
          · exact Or.inr q
  have := L ages [] a_slotSize a_slotsByAge rfl (fun i s hs => absurd hs (by simp)) (fun i s hs => by rw [List.length_nil, Nat.zero_add]; exact hAg i s hs) (fun s hs => absurd hs (by simp)) (fun _ _ => rfl)
  rw [List.filter_nil, ab_fln, List.length_nil, Nat.zero_add, ← hel] at this
  exact ⟨ages.length + 1, this⟩
end
