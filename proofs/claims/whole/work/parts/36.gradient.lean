theorem sm_pt {F F' : Nat → Int32} {k : Nat} (h : ∀ p, p ≠ k → F' p = F p) : ∀ N : Nat, k < N → ab_sm F' N = ab_sm F N + (F' k - F k) := by
  intro N
  induction N with
  | zero => intro h; omega
  | succ N ih =>
    intro hk
    show ab_sm F' N + F' N = ab_sm F N + F N + (F' k - F k)
    by_cases z : k = N
    · subst z
      rw [ab_smg (fun i hi => h i (by omega))]
      grind
    · rw [ih (by omega), h N (fun q => z q.symm)]
      grind
theorem sm_0 {F : Nat → Int32} : ∀ N : Nat, (∀ p, p < N → F p = 0) → ab_sm F N = 0 := by
  intro N
  induction N with
  | zero => intro _; rfl
  | succ N ih =>
    intro h
    show ab_sm F N + F N = 0
    rw [ih (fun p hp => h p (by omega)), h N (by omega)]; rfl
def gd_L (D f : Nat → Int32) : Int32 := ab_sm (fun p => D p * f p) 2048
theorem gd_u {D f : Nat → Int32} {k : Nat} {x : Int32} (hk : k < 2048) : gd_L (upd D k (D k + x)) f = gd_L D f + x * f k := by
  unfold gd_L
  rw [sm_pt (F := fun p => D p * f p) (F' := fun p => upd D k (D k + x) p * f p) (k := k) (fun p hp => by rw [pk_un hp]) 2048 hk]
  rw [pk_us]
  grind
theorem gd_g {D f g : Nat → Int32} (h : ∀ p, p < 2048 → f p = g p) : gd_L D f = gd_L D g := ab_smg (fun p hp => by rw [h p hp])
theorem gd_seg {D f : Nat → Int32} {g : Nat → Int32} {b : Nat} : ∀ n : Nat, b + n ≤ 2048 → gd_L D (fun p => if b ≤ p ∧ p < b + n then f p + g (p - b) else f p) = gd_L D f + ab_sm (fun i => D (b + i) * g i) n := by
  intro n
  induction n with
  | zero =>
    intro _
    rw [gd_g (g := f) (fun p _ => by rw [if_neg (by omega)])]
    show _ = gd_L D f + 0
    grind
  | succ n ih =>
    intro hb
    show _ = gd_L D f + (ab_sm (fun i => D (b + i) * g i) n + D (b + n) * g n)
    rw [← Int32.add_assoc, ← ih (by omega)]
    unfold gd_L
    rw [sm_pt (F := fun p => D p * (if b ≤ p ∧ p < b + n then f p + g (p - b) else f p)) (k := b + n) ?_ 2048 (by omega)]
    · dsimp only
      rw [if_pos (by omega), if_neg (by omega), show b + n - b = n by omega]
      grind
    · intro p hp
      dsimp only
      by_cases z : b ≤ p ∧ p < b + n
      · rw [if_pos z, if_pos (by omega)]
      · rw [if_neg z, if_neg (by omega)]
theorem gd_ind {D : Nat → Int32} {a : Nat} (ha : a < 2048) : gd_L D (fun p => if p = a then 1 else 0) = D a := by
  unfold gd_L
  rw [sm_pt (F := fun _ => 0) (k := a) (fun p hp => by dsimp only; rw [if_neg hp]; grind) 2048 ha, sm_0 2048 (fun _ _ => rfl)]
  dsimp only
  rw [if_pos rfl]; grind
def gd_t (kd tm : Nat → Nat) (d : Nat → Nat → Nat) (G : Nat → Nat → Nat → Nat → Nat) (V f : Nat → Int32) (s i : Nat) : Int32 := ab_sm (fun t => ab_lv (kd s) (V (rl_p d G (24 + 2 * s) (i * tm s + t))) (V (rl_p d G (25 + 2 * s) (i * tm s + t))) (f (rl_p d G (24 + 2 * s) (i * tm s + t))) (f (rl_p d G (25 + 2 * s) (i * tm s + t)))) (tm s)
theorem rl_orS {kd sl : Nat → Nat} {s : Nat} {l2 : List Nat} : ∀ {l1 pre : List Nat}, rl_or kd sl pre (l1 ++ s :: l2) → kd s ≠ 4 → sl (24 + 2 * s) ∈ pre ++ l1 ∧ sl (25 + 2 * s) ∈ pre ++ l1 := by
  intro l1
  induction l1 with
  | nil => intro pre H hk; rw [List.append_nil]; exact H.1 hk
  | cons t l1 ih =>
    intro pre H hk
    obtain ⟨h1, h2⟩ := ih H.2 hk
    simp only [List.mem_append, List.mem_cons] at h1 h2 ⊢
    exact ⟨by rcases h1 with (q | q) | q <;> simp [q], by rcases h2 with (q | q) | q <;> simp [q]⟩
section
variable {f_slotsTaken f_elementsTaken f_slopeCount : Int32} {a_handleTaken a_handleIsView a_windowRank a_windowSlot a_windowStart a_windowDimension a_windowStride a_slotSize a_slotKind a_slotTerms a_slotNeeded a_slotsByAge a_values a_derivatives a_firstPlaces a_secondPlaces a_assigned a_slopes : Nat → Int32}
theorem xg_term {post : SX → Prop} {kk q1 q2 : Nat} {x : Int32} (hk : kk ≤ 3) (h1 : q1 < 2048) (h2 : q2 < 2048) (h : ∀ D : Nat → Int32, (∀ f, gd_L D f = gd_L a_derivatives f + x * ab_lv kk (a_values q1) (a_values q2) (f q1) (f q2)) → (∀ p, p ≠ q1 → p ≠ q2 → D p = a_derivatives p) → post (f_slotsTaken, f_elementsTaken, f_slopeCount, a_handleTaken, a_handleIsView, a_windowRank, a_windowSlot, a_windowStart, a_windowDimension, a_windowStride, a_slotSize, a_slotKind, a_slotTerms, a_slotNeeded, a_slotsByAge, a_values, D, a_firstPlaces, a_secondPlaces, a_assigned, a_slopes)) : wpX_passTerm post (f_slotsTaken, f_elementsTaken, f_slopeCount, a_handleTaken, a_handleIsView, a_windowRank, a_windowSlot, a_windowStart, a_windowDimension, a_windowStride, a_slotSize, a_slotKind, a_slotTerms, a_slotNeeded, a_slotsByAge, a_values, a_derivatives, a_firstPlaces, a_secondPlaces, a_assigned, a_slopes) (nI kk) x (nI q1) (nI q2) := by
  have v1 : vp_in (nI q1) 2048 := vp_in_nI h1 (by decide)
  have v2 : vp_in (nI q2) 2048 := vp_in_nI h2 (by decide)
  have c1 : (nI q1).toNatClampNeg = q1 := nI_clamp (by omega)
  have c2 : (nI q2).toNatClampNeg = q2 := nI_clamp (by omega)
  rcases (show kk = 0 ∨ kk = 1 ∨ kk = 2 ∨ kk = 3 by omega) with rfl | rfl | rfl | rfl
  · refine br_f (by decide) (br_f (by decide) (br_t rfl ⟨v1, v1, fun D hD => ⟨v2, v2, fun D2 hD2 => h D2 (fun f => ?_) (fun p p1 p2 => ?_)⟩⟩))
    · rw [hD2, c2, gd_u h2, hD, c1, gd_u h1]
      show _ = _ + x * (f q1 + f q2)
      grind
    · rw [hD2, c2, pk_un p2, hD, c1, pk_un p1]
  · refine br_f (by decide) (br_f (by decide) (br_f (by decide) (br_t rfl ⟨v1, v1, fun D hD => ⟨v2, v2, fun D2 hD2 => h D2 (fun f => ?_) (fun p p1 p2 => ?_)⟩⟩)))
    · rw [hD2, c2, show D q2 - x = D q2 + (-x) by grind, gd_u h2, hD, c1, gd_u h1]
      show _ = _ + x * (f q1 - f q2)
      grind
    · rw [hD2, c2, pk_un p2, hD, c1, pk_un p1]
  · refine br_f (by decide) (br_f (by decide) (br_f (by decide) (br_f (by decide) (br_t rfl ⟨v1, v2, v1, fun D hD => ⟨v2, v1, v2, fun D2 hD2 => h D2 (fun f => ?_) (fun p p1 p2 => ?_)⟩⟩))))
    · rw [hD2, c2, c1, gd_u h2, hD, c1, c2, gd_u h1]
      show _ = _ + x * (f q1 * a_values q2 + a_values q1 * f q2)
      grind
    · rw [hD2, c2, pk_un p2, hD, c1, pk_un p1]
  · refine br_f (by decide) (br_t (by decide) ⟨v1, v1, fun D hD => h D (fun f => ?_) (fun p p1 p2 => ?_)⟩)
    · rw [hD, c1, gd_u h1]
      show _ = _ + x * f q1
      rfl
    · rw [hD, c1, pk_un p1]
theorem xg_in {post : SX → Prop} {J49 : Int32 → Int32 → Int32 → Int32 → Int32 → (Nat → Int32) → (Nat → Int32) → (Nat → Int32) → (Nat → Int32) → (Nat → Int32) → (Nat → Int32) → (Nat → Int32) → (Nat → Int32) → (Nat → Int32) → (Nat → Int32) → (Nat → Int32) → (Nat → Int32) → (Nat → Int32) → (Nat → Int32) → (Nat → Int32) → (Nat → Int32) → (Nat → Int32) → (Nat → Int32) → Prop} {s i kk tt : Nat} {x3 x7 : Int32} {q1 q2 : Nat → Nat} {D0 : Nat → Int32} (hs : s < 32) (hi : i < 64) (hk : kk ≤ 3) (hkd : a_slotKind s = nI kk) (ht4 : tt ≤ 4) (hl : ∀ t, t < tt → i * tt + t < 64) (hF : ∀ t, t < tt → a_firstPlaces (i * tt + t) = nI (q1 (i * tt + t)) ∧ q1 (i * tt + t) < 2048) (hS : ∀ t, t < tt → a_secondPlaces (i * tt + t) = nI (q2 (i * tt + t)) ∧ q2 (i * tt + t) < 2048) (h : ∀ D : Nat → Int32, (∀ f, gd_L D f = gd_L D0 f + x7 * ab_sm (fun t => ab_lv kk (a_values (q1 (i * tt + t))) (a_values (q2 (i * tt + t))) (f (q1 (i * tt + t))) (f (q2 (i * tt + t)))) tt) → (∀ p, (∀ e, p ≠ q1 e) → (∀ e, p ≠ q2 e) → D p = D0 p) → J49 (nI (i * tt + tt)) (nI (i + 1)) f_slotsTaken f_elementsTaken f_slopeCount a_handleTaken a_handleIsView a_windowRank a_windowSlot a_windowStart a_windowDimension a_windowStride a_slotSize a_slotKind a_slotTerms a_slotNeeded a_slotsByAge a_values D a_firstPlaces a_secondPlaces a_assigned a_slopes) : ∀ (k t : Nat) (D : Nat → Int32), t + k = tt → (∀ f, gd_L D f = gd_L D0 f + x7 * ab_sm (fun t => ab_lv kk (a_values (q1 (i * tt + t))) (a_values (q2 (i * tt + t))) (f (q1 (i * tt + t))) (f (q2 (i * tt + t)))) t) → (∀ p, (∀ e, p ≠ q1 e) → (∀ e, p ≠ q2 e) → D p = D0 p) → wX_passDerivatives_72 post J49 (nI s) x3 (nI tt) (nI i) x7 (k + 1) (nI (i * tt + t)) (nI t) f_slotsTaken f_elementsTaken f_slopeCount a_handleTaken a_handleIsView a_windowRank a_windowSlot a_windowStart a_windowDimension a_windowStride a_slotSize a_slotKind a_slotTerms a_slotNeeded a_slotsByAge a_values D a_firstPlaces a_secondPlaces a_assigned a_slopes := by
  intro k
  induction k with
  | zero =>
    intro t D ht h1 h2
    have : t = tt := by omega
    subst this
    exact br_t (nI_le (by omega) (by omega)) (nm_r (nI_1 i) (h D h1 h2))
  | succ k ih =>
    intro t D ht h1 h2
    have l64 := hl t (by omega)
    obtain ⟨f1, f2⟩ := hF t (by omega)
    obtain ⟨g1, g2⟩ := hS t (by omega)
    have hv64 : vp_in (nI (i * tt + t)) 64 := vp_in_nI l64 (by decide)
    refine br_f (nI_ge (by omega) (by omega)) ⟨vp_in_nI hs (by decide), hv64, hv64, ?_⟩
    rw [nI_clamp (show i * tt + t < 2 ^ 31 by omega), nI_clamp (show s < 2 ^ 31 by omega), f1, g1, hkd]
    refine xg_term hk f2 g2 (fun D' d1 d2 => nm_r (nI_1 _) (nm_r (nI_1 t) (ih (t + 1) D' (by omega) (fun f => ?_) (fun p p1 p2 => ?_))))
    · rw [d1 f, h1 f]
      show _ = gd_L D0 f + x7 * (ab_sm _ t + _)
      grind
    · rw [d2 p (p1 _) (p2 _)]; exact h2 p p1 p2
theorem xg_pass {post : SX → Prop} {rk sl sz kd tm : Nat → Nat} {d : Nat → Nat → Nat} {G : Nat → Nat → Nat → Nat → Nat} {ages : List Nat} {s : Nat} (hX : rl_X rk sl d G ages sz kd tm f_slotsTaken f_elementsTaken a_handleTaken a_handleIsView a_windowRank a_windowSlot a_windowStart a_windowDimension a_windowStride a_slotSize a_slotKind a_slotTerms a_slotsByAge) (hs : s ∈ ages) (hk4 : kd s ≠ 4) (h1 : sl (24 + 2 * s) ≠ s) (h2 : sl (25 + 2 * s) ≠ s) (h : ∀ D F S : Nat → Int32, (∀ f, gd_L D f = gd_L a_derivatives f + ab_sm (fun i => a_derivatives (64 * s + i) * gd_t kd tm d G a_values f s i) (sz s)) → post (f_slotsTaken, f_elementsTaken, f_slopeCount, a_handleTaken, a_handleIsView, a_windowRank, a_windowSlot, a_windowStart, a_windowDimension, a_windowStride, a_slotSize, a_slotKind, a_slotTerms, a_slotNeeded, a_slotsByAge, a_values, D, F, S, a_assigned, a_slopes)) : wpX_passDerivatives post (f_slotsTaken, f_elementsTaken, f_slopeCount, a_handleTaken, a_handleIsView, a_windowRank, a_windowSlot, a_windowStart, a_windowDimension, a_windowStride, a_slotSize, a_slotKind, a_slotTerms, a_slotNeeded, a_slotsByAge, a_values, a_derivatives, a_firstPlaces, a_secondPlaces, a_assigned, a_slopes) (nI s) := by
  have s32 := hX.2.2.1.2.1 s hs
  obtain ⟨z1, z2, z3, z4, z5, z6⟩ := hX.2.2.2.1 s hs
  obtain ⟨q1, q2, q3, q4, q5, q6, q7⟩ := z6 hk4
  have cs : (nI s).toNatClampNeg = s := nI_clamp (by omega)
  have n1 : sz s * tm s ≤ 64 := by
    rw [← q4]
    exact ab_sz (q6.2.2.1 0 (by omega)).2.2 (q6.2.2.1 1 (by omega)).2.2 (q6.2.2.1 2 (by omega)).2.2
  have lin : ∀ i t, i < sz s → t < tm s → i * tm s + t < sz s * tm s := fun i t hi ht => ab_lin1 hi ht
  unfold wpX_passDerivatives
  refine xw_firstSource (xl_win_firstPlaces (by omega) q6 (fun F hF => ?_))
  rw [show nI (24 + 2 * s) + 1 = nI (25 + 2 * s) from by rw [nI_1]; congr 1; omega]
  refine xl_win_secondPlaces (by omega) q7 (fun S hS => ⟨vp_in_nI s32 (by decide), nm_r (e' := nI (sz s)) (by rw [cs, z1]) ⟨vp_in_nI s32 (by decide), nm_r (e' := nI (tm s)) (by rw [cs, q1]) ⟨sz s + 1, ?_⟩⟩⟩)
  have p1 : ∀ e, rl_p d G (24 + 2 * s) e < 2048 ∧ rl_p d G (24 + 2 * s) e / 64 ≠ s := fun e => ⟨(rl_pmem hX q6).2, by rw [(rl_pin q6).1]; exact h1⟩
  have p2 : ∀ e, rl_p d G (25 + 2 * s) e < 2048 ∧ rl_p d G (25 + 2 * s) e / 64 ≠ s := fun e => ⟨(rl_pmem hX q7).2, by rw [(rl_pin q7).1]; exact h2⟩
  have L : ∀ (k i : Nat) (D : Nat → Int32), i + k = sz s → (∀ f, gd_L D f = gd_L a_derivatives f + ab_sm (fun i => a_derivatives (64 * s + i) * gd_t kd tm d G a_values f s i) i) → (∀ p, p / 64 = s → D p = a_derivatives p) → wX_passDerivatives_49 post (nI s) (nI (sz s)) (nI (tm s)) (k + 1) (nI (i * tm s)) (nI i) f_slotsTaken f_elementsTaken f_slopeCount a_handleTaken a_handleIsView a_windowRank a_windowSlot a_windowStart a_windowDimension a_windowStride a_slotSize a_slotKind a_slotTerms a_slotNeeded a_slotsByAge a_values D F S a_assigned a_slopes := by
    intro k
    induction k with
    | zero =>
      intro i D hi d1 d2
      have : i = sz s := by omega
      subst this
      exact br_t (nI_le (by omega) (by omega)) (h D F S d1)
    | succ k ih =>
      intro i D hi d1 d2
      have e1 : nI s * 64 + nI i = nI (64 * s + i) := by
        show nI s * nI 64 + nI i = _
        rw [pk_mul, nI_add, Nat.mul_comm]
      refine br_f (nI_ge (by omega) (by omega)) ⟨ab_vin e1 (by omega) (by decide), nm_r (e' := a_derivatives (64 * s + i)) (by rw [e1, nI_clamp (by omega)]; exact d2 _ (by omega)) ⟨tm s + 1, ?_⟩⟩
      refine xg_in (kk := kd s) (q1 := rl_p d G (24 + 2 * s)) (q2 := rl_p d G (25 + 2 * s)) (D0 := D) s32 (by omega) (by omega) z4 q3 (fun t ht => by have := lin i t (by omega) ht; omega) (fun t ht => ⟨hF _ (by rw [q4]; exact lin i t (by omega) ht), (p1 _).1⟩) (fun t ht => ⟨hS _ (by rw [q5]; exact lin i t (by omega) ht), (p2 _).1⟩) (fun D' x1 x2 => ?_) (tm s) 0 D (by omega) (fun f => ?_) (fun _ _ _ => rfl)
      · rw [show i * tm s + tm s = (i + 1) * tm s from by rw [Nat.add_mul, Nat.one_mul]]
        refine ih (i + 1) D' (by omega) (fun f => ?_) (fun p hp => ?_)
        · rw [x1 f, d1 f]
          show _ = gd_L a_derivatives f + (ab_sm _ i + a_derivatives (64 * s + i) * gd_t kd tm d G a_values f s i)
          unfold gd_t
          grind
        · rw [x2 p (fun e z => (p1 e).2 (z ▸ hp)) (fun e z => (p2 e).2 (z ▸ hp))]; exact d2 p hp
      · show gd_L D f = gd_L D f + a_derivatives (64 * s + i) * 0
        grind
  have := L (sz s) 0 a_derivatives (by omega) (fun f => by show gd_L a_derivatives f = gd_L a_derivatives f + 0; grind) (fun _ _ => rfl)
  rw [Nat.zero_mul] at this
  exact this
theorem xg_start {post : SX → Prop} {sl sz : Nat → Nat} {d : Nat → Nat → Nat} {G : Nat → Nat → Nat → Nat → Nat} {ages : List Nat} {w : Nat} (hw : w < 24) (W : rl_win sl d G ages sz a_windowSlot a_windowStart a_windowDimension a_windowStride w) (hp : ∀ e, rl_p d G w e < 2048) (hn : rl_n d w ≤ 64) (h : ∀ D F : Nat → Int32, (∀ f, gd_L D f = ab_sm (fun e => f (rl_p d G w e)) (rl_n d w)) → post (f_slotsTaken, f_elementsTaken, f_slopeCount, a_handleTaken, a_handleIsView, a_windowRank, a_windowSlot, a_windowStart, a_windowDimension, a_windowStride, a_slotSize, a_slotKind, a_slotTerms, a_slotNeeded, a_slotsByAge, a_values, D, F, a_secondPlaces, a_assigned, a_slopes)) : wpX_startDerivatives post (f_slotsTaken, f_elementsTaken, f_slopeCount, a_handleTaken, a_handleIsView, a_windowRank, a_windowSlot, a_windowStart, a_windowDimension, a_windowStride, a_slotSize, a_slotKind, a_slotTerms, a_slotNeeded, a_slotsByAge, a_values, a_derivatives, a_firstPlaces, a_secondPlaces, a_assigned, a_slopes) (nI w) := by
  have L : ∀ (k j : Nat) (D : Nat → Int32), j + k = 2048 → (∀ p, p < j → D p = 0) → wX_startDerivatives_2 post (nI w) f_slotsTaken f_elementsTaken f_slopeCount (k + 1) (nI j) a_handleTaken a_handleIsView a_windowRank a_windowSlot a_windowStart a_windowDimension a_windowStride a_slotSize a_slotKind a_slotTerms a_slotNeeded a_slotsByAge a_values D a_firstPlaces a_secondPlaces a_assigned a_slopes := by
    intro k
    induction k with
    | zero =>
      intro j D hj h1
      have : j = 2048 := by omega
      subst this
      refine br_t (nI_le (a := 2048) (by omega) (by omega)) (xl_win_firstPlaces (by omega) W (fun F hF => ⟨rl_n d w + 1, ?_⟩))
      have M : ∀ (k i : Nat) (D : Nat → Int32), i + k = rl_n d w → (∀ f, gd_L D f = ab_sm (fun e => f (rl_p d G w e)) i) → wX_startDerivatives_34 post (nI (rl_n d w)) f_slotsTaken f_elementsTaken f_slopeCount (k + 1) (nI i) a_handleTaken a_handleIsView a_windowRank a_windowSlot a_windowStart a_windowDimension a_windowStride a_slotSize a_slotKind a_slotTerms a_slotNeeded a_slotsByAge a_values D F a_secondPlaces a_assigned a_slopes := by
        intro k
        induction k with
        | zero =>
          intro i D hi d1
          have : i = rl_n d w := by omega
          subst this
          exact br_t (nI_le (by omega) (by omega)) (h D F d1)
        | succ k ih =>
          intro i D hi d1
          have f1 := hF i (by omega)
          have f2 := hp i
          refine br_f (nI_ge (by omega) (by omega)) ⟨vp_in_nI (by omega) (by decide), ?_⟩
          rw [nI_clamp (show i < 2 ^ 31 by omega), f1, nI_clamp (show rl_p d G w i < 2 ^ 31 by omega)]
          refine ⟨vp_in_nI f2 (by decide), vp_in_nI f2 (by decide), fun D' hD' => nm_r (nI_1 i) (ih (i + 1) D' (by omega) (fun f => ?_))⟩
          rw [hD', gd_u f2, d1 f]
          show _ = ab_sm _ i + f (rl_p d G w i)
          rw [Int32.one_mul]
      refine M (rl_n d w) 0 D (by omega) (fun f => ?_)
      exact sm_0 2048 (fun p hp' => by rw [h1 p hp']; grind)
    | succ k ih =>
      intro j D hj h1
      refine br_f (nI_ge (b := 2048) (by omega) (by decide)) ⟨vp_in_nI (by omega) (by decide), fun D' hD' => nm_r (nI_1 j) (ih (j + 1) D' (by omega) ?_)⟩
      rw [nI_clamp (by omega)] at hD'
      intro p hp'
      rw [hD']
      by_cases z : p = j
      · rw [z, pk_us]
      · rw [pk_un z]; exact h1 p (by omega)
  exact ⟨2049, L 2048 0 a_derivatives (by omega) (fun p hp' => absurd hp' (by omega))⟩
end
