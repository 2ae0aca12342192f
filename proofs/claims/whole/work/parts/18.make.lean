theorem rl_winA {sl sz : Nat → Nat} {d : Nat → Nat → Nat} {G : Nat → Nat → Nat → Nat → Nat} {ages : List Nat} {S St D E : Nat → Int32} {w s n : Nat} (hs : s ∉ ages) (H : rl_win sl d G ages sz S St D E w) : rl_win sl d G (ages ++ [s]) (ab_fu sz s n) S St D E w := by
  obtain ⟨h1, h2, h3, h4⟩ := H
  refine ⟨h1, List.mem_append_left _ h2, h3, ?_⟩
  have hne : sl w ≠ s := fun z => hs (z ▸ h2)
  rw [ab_fun hne]
  exact h4
theorem rl_winF {sl sl' sz : Nat → Nat} {d d' : Nat → Nat → Nat} {G G' : Nat → Nat → Nat → Nat → Nat} {ages : List Nat} {S St D E S' St' D' E' : Nat → Int32} {w : Nat} (F : sl' w = sl w ∧ d' w = d w ∧ G' w = G w ∧ S' w = S w ∧ St' w = St w ∧ (∀ a, a < 3 → D' (3 * w + a) = D (3 * w + a) ∧ E' (3 * w + a) = E (3 * w + a))) (H : rl_win sl d G ages sz S St D E w) : rl_win sl' d' G' ages sz S' St' D' E' w := by
  obtain ⟨h1, h2, h3, h4⟩ := H
  obtain ⟨f1, f2, f3, f4, f5, f6⟩ := F
  unfold rl_win
  rw [f1, f2, f3, f4, f5, show E' (3 * w) = E (3 * w) from (f6 0 (by omega)).2, (f6 1 (by omega)).2, (f6 2 (by omega)).2]
  exact ⟨h1, h2, fun a ha => by rw [(f6 a ha).1]; exact h3 a ha, h4⟩
theorem rl_orA {kd sl : Nat → Nat} {s : Nat} : ∀ {l pre : List Nat}, rl_or kd sl pre l → (kd s ≠ 4 → sl (24 + 2 * s) ∈ pre ++ l ∧ sl (25 + 2 * s) ∈ pre ++ l) → rl_or kd sl pre (l ++ [s]) := by
  intro l
  induction l with
  | nil => intro pre _ h; simp at h; exact ⟨h, trivial⟩
  | cons t l ih =>
    intro pre H h
    refine ⟨H.1, ih H.2 (fun z => ?_)⟩
    obtain ⟨h1, h2⟩ := h z
    simp only [List.mem_append, List.mem_cons] at h1 h2 ⊢
    exact ⟨by rcases h1 with q | q | q <;> simp [q], by rcases h2 with q | q | q <;> simp [q]⟩
theorem rl_fl {sz : Nat → Nat} {ages : List Nat} {s n : Nat} (hs : s ∉ ages) : ab_fl (ab_fu sz s n) (ages ++ [s]) = ab_fl sz ages ++ (List.range n).map (fun i => 64 * s + i) := by
  have hne : ∀ t, t ∈ ages → ab_fu sz s n t = sz t := fun t ht => ab_fun (fun z => hs (z ▸ ht))
  rw [ab_fla, ab_flg hne, ab_flc, ab_fln, List.append_nil]
  unfold ab_pl
  rw [ab_fus]
theorem rl_makeX {rk rk' sl sl' sz kd tm : Nat → Nat} {d d' : Nat → Nat → Nat} {G G' : Nat → Nat → Nat → Nat → Nat} {ages : List Nat} {fs fe : Int32} {T V R S St D E Sz Kd Tm Ag R' S' St' D' E' : Nat → Int32} {s v n kk tt : Nat} (hs : s < 32) (hsn : s ∉ ages) (hv : v < 24) (hn1 : 1 ≤ n) (hn64 : n ≤ 64) (hc : (ab_fl sz ages).length + n ≤ 320) (F : ∀ w, w ≠ v → w ≠ 24 + 2 * s → w ≠ 25 + 2 * s → sl' w = sl w ∧ d' w = d w ∧ G' w = G w ∧ S' w = S w ∧ St' w = St w ∧ (∀ a, a < 3 → D' (3 * w + a) = D (3 * w + a) ∧ E' (3 * w + a) = E (3 * w + a))) (hR : R' v = nI (rk' v)) (hR' : ∀ h, h < 24 → h ≠ v → R' h = R h ∧ rk' h = rk h) (hsh : ab_sh3 (rk' v) (d' v)) (W0 : rl_win sl' d' G' (ages ++ [s]) (ab_fu sz s n) S' St' D' E' v) (hsl : sl' v = s) (hst : St' v = nI (64 * s)) (hp : ∀ e, e < rl_n d' v → rl_p d' G' v e = 64 * s + e) (hkk : kk ≤ 4) (W1 : kk ≠ 4 → 1 ≤ tt ∧ tt ≤ 4 ∧ rl_n d' (24 + 2 * s) = n * tt ∧ rl_n d' (25 + 2 * s) = n * tt ∧ rl_win sl' d' G' ages sz S' St' D' E' (24 + 2 * s) ∧ rl_win sl' d' G' ages sz S' St' D' E' (25 + 2 * s)) (H : rl_X rk sl d G ages sz kd tm fs fe T V R S St D E Sz Kd Tm Ag) : rl_X rk' sl' d' G' (ages ++ [s]) (ab_fu sz s n) (ab_fu kd s kk) (ab_fu tm s tt) (nI (ages.length + 1)) (nI ((ab_fl sz ages).length + n)) (upd T v 1) (upd V v 0) R' S' St' D' E' (upd Sz s (nI n)) (upd Kd s (nI kk)) (upd Tm s (nI tt)) (upd Ag ages.length (nI s)) := by
  obtain ⟨⟨x1, x1'⟩, x2, ⟨x3, x4, x5, x6⟩, x7, x8⟩ := H
  have hl : (ab_fl (ab_fu sz s n) (ages ++ [s])).length = (ab_fl sz ages).length + n := by
    rw [rl_fl hsn, List.length_append, List.length_map, List.length_range]
  refine ⟨⟨?_, ?_⟩, ⟨?_, ?_⟩, ⟨?_, ?_, ?_, ?_⟩, ?_, ?_⟩
  · rw [List.length_append]; rfl
  · intro i t ht
    by_cases z : i = ages.length
    · subst z
      rw [List.getElem?_append_right (by omega)] at ht
      simp at ht
      rw [pk_us, ht]
    · rw [pk_un z]
      by_cases y : i < ages.length
      · rw [List.getElem?_append_left y] at ht; exact x1' i t ht
      · rw [List.getElem?_append_right (by omega), List.getElem?_eq_none (by simp; omega)] at ht
        exact absurd ht (by simp)
  · rw [hl]
  · rw [hl]; exact hc
  · rw [List.nodup_append]
    refine ⟨x3, by simp, ?_⟩
    intro a ha b hb
    simp at hb
    rw [hb]; exact fun z => hsn (z ▸ ha)
  · intro t ht
    simp at ht
    rcases ht with q | q
    · exact x4 t q
    · rw [q]; exact hs
  · intro t ht hta
    simp at hta
    rw [pk_un hta.2]; exact x5 t ht hta.1
  · refine rl_orA (rl_orC (fun t ht => ?_) x6) (fun z => ?_)
    · have ts : t ≠ s := fun z => hsn (z ▸ ht)
      exact ⟨ab_fun ts, (F _ (by omega) (by omega) (by omega)).1, (F _ (by omega) (by omega) (by omega)).1⟩
    · rw [ab_fus] at z
      obtain ⟨_, _, _, _, w1, w2⟩ := W1 z
      rw [List.nil_append]
      exact ⟨w1.2.1, w2.2.1⟩
  · intro t ht
    by_cases ts : t = s
    · subst ts
      unfold rl_slot
      rw [ab_fus, ab_fus, ab_fus, pk_us, pk_us, pk_us]
      refine ⟨rfl, hn1, hn64, rfl, hkk, fun z => ?_⟩
      obtain ⟨q1, q2, q3, q4, q5, q6⟩ := W1 z
      exact ⟨rfl, q1, q2, q3, q4, rl_winA hsn q5, rl_winA hsn q6⟩
    · have hta : t ∈ ages := by
        simp at ht
        rcases ht with q | q
        · exact q
        · exact absurd q ts
      obtain ⟨z1, z2, z3, z4, z5, z6⟩ := x7 t hta
      unfold rl_slot
      rw [ab_fun ts, ab_fun ts, ab_fun ts, pk_un ts, pk_un ts, pk_un ts]
      refine ⟨z1, z2, z3, z4, z5, fun z => ?_⟩
      obtain ⟨q1, q2, q3, q4, q5, q6, q7⟩ := z6 z
      have f1 := F (24 + 2 * t) (by omega) (by omega) (by omega)
      have f2 := F (25 + 2 * t) (by omega) (by omega) (by omega)
      refine ⟨q1, q2, q3, ?_, ?_, rl_winA hsn (rl_winF f1 q6), rl_winA hsn (rl_winF f2 q7)⟩
      · unfold rl_n; rw [f1.2.1]; exact q4
      · unfold rl_n; rw [f2.2.1]; exact q5
  · intro h hh ht
    by_cases z : h = v
    · subst z
      refine ⟨hR, hsh, W0, fun _ => ?_⟩
      rw [hsl]
      exact ⟨hst, hp⟩
    · rw [pk_un z] at ht
      obtain ⟨y1, y2, y3, y4⟩ := x8 h hh ht
      have f1 := F h z (by omega) (by omega)
      obtain ⟨r1, r2⟩ := hR' h hh z
      refine ⟨?_, ?_, rl_winA hsn (rl_winF f1 y3), ?_⟩
      · rw [r1, r2]; exact y1
      · rw [r2, f1.2.1]; exact y2
      · rw [pk_un z, f1.1, f1.2.2.2.2.1]
        unfold rl_n rl_p
        rw [f1.2.1, f1.2.2.1]
        exact y4
def rl_cl (cl f : Nat → Nat) (s p : Nat) : Nat := if p / 64 = s then f (p % 64) else cl p
theorem rl_cl1 {cl f : Nat → Nat} {s i : Nat} (hi : i < 64) : rl_cl cl f s (64 * s + i) = f i := by
  unfold rl_cl; rw [if_pos (by omega), show (64 * s + i) % 64 = i by omega]
theorem rl_cl2 {cl f : Nat → Nat} {s p : Nat} (h : p / 64 ≠ s) : rl_cl cl f s p = cl p := if_neg h
theorem rl_makeY {rk rk' sl sl' sz kd tm yk cl f : Nat → Nat} {d d' : Nat → Nat → Nat} {G G' : Nat → Nat → Nat → Nat → Nat} {ages : List Nat} {fs fe c_cells f1 f2 pv : Int32} {T V R S St D E Sz Kd Tm Ag vals vals' : Nat → Int32} {b_used b_rank b_dims b_shown b_tensorOf b_view b_exists b_kind b_first b_second b_owner b_parts b_partCount b_value b_order yR yD yS yO yP yC yV yOr : Nat → Int32} {s v n kk tt yy : Nat} (hs : s < 32) (hsn : s ∉ ages) (hv : v < 24) (hn64 : n ≤ 64) (hrn : rl_n d' v = n) (F : ∀ w, w ≠ v → w ≠ 24 + 2 * s → w ≠ 25 + 2 * s → sl' w = sl w ∧ d' w = d w ∧ G' w = G w) (hrk : ∀ h, h < 24 → h ≠ v → rk' h = rk h) (hsl : sl' v = s) (hp : ∀ e, e < n → rl_p d' G' v e = 64 * s + e) (hR : yR v = nI (rk' v)) (hR' : ∀ h, h < 24 → h ≠ v → yR h = b_rank h) (hD : ∀ a, a < rk' v → yD (3 * v + a) = nI (d' v a)) (hD' : ∀ j, j < 72 → (j < 3 * v ∨ 3 * v + 3 ≤ j) → yD j = b_dims j) (hS : ∀ i, i < n → yS (64 * v + i) = nI (f i)) (hS' : ∀ j, j < 1536 → (j < 64 * v ∨ 64 * v + 64 ≤ j) → yS j = b_shown j) (hf : ∀ i, i < n → f i < 320 ∧ b_owner (f i) < 0) (hfi : ∀ i j, i < n → j < n → f i = f j → i = j) (hO : ∀ i, i < n → yO (f i) = nI s ∧ yV (f i) = 0) (hO' : ∀ c, (∀ i, i < n → c ≠ f i) → yO c = b_owner c ∧ yV c = b_value c) (hOr : ∀ i, i < n → yOr ((ab_fl sz ages).length + i) = nI (f i)) (hOr' : ∀ j, j < (ab_fl sz ages).length → yOr j = b_order j) (hP' : ∀ c, (∀ i, i < n → c ≠ f i) → yC c = b_partCount c ∧ ∀ j, j < 8 → yP (8 * c + j) = b_parts (8 * c + j)) (hkr : rl_kr kk yy tt) (hk4 : kk = 4 → f1 < 0 ∧ f2 < 0) (hk3 : kk ≠ 4 → f1 = nI (sl' (24 + 2 * s)) ∧ (kk = 3 → f2 < 0 ∧ sl' (25 + 2 * s) = sl' (24 + 2 * s)) ∧ (kk ≠ 3 → f2 = nI (sl' (25 + 2 * s))) ∧ ∀ i, i < n → rl_pt d' G' (ab_fu kd s kk) (ab_fu tm s tt) (rl_cl cl f s) yP yC s i) (hvl : kk = 4 → ∀ i, i < n → vals' (64 * s + i) = 0) (hvl' : ∀ p, p ∈ ab_fl sz ages → vals' p = vals p) (HX : rl_X rk sl d G ages sz kd tm fs fe T V R S St D E Sz Kd Tm Ag) (H : rl_Y rk sl d G ages sz kd tm yk cl T V vals c_cells b_used b_rank b_dims b_shown b_tensorOf b_view b_exists b_kind b_first b_second b_owner b_parts b_partCount b_value b_order) : rl_Y rk' sl' d' G' (ages ++ [s]) (ab_fu sz s n) (ab_fu kd s kk) (ab_fu tm s tt) (ab_fu yk s yy) (rl_cl cl f s) (upd T v 1) (upd V v pv) vals' (nI ((ab_fl sz ages).length + n)) (upd b_used v 1) yR yD yS (upd b_tensorOf v (nI s)) (upd b_view v pv) (upd b_exists s 1) (upd b_kind s (nI yy)) (upd b_first s f1) (upd b_second s f2) yO yP yC yV yOr := by
  obtain ⟨⟨y1, y1'⟩, ⟨y2, y2'⟩, ⟨o1, o2, o3⟩, y4, y5, y6, y7⟩ := H
  subst y1 y1'
  have hl := rl_fl (sz := sz) (n := n) hsn
  have hold : ∀ p, p ∈ ab_fl sz ages → p / 64 ≠ s := fun p hp z => hsn (z ▸ ((rl_mem HX).mp hp).1)
  have hcl : ∀ p, p ∈ ab_fl sz ages → rl_cl cl f s p = cl p := fun p hp => rl_cl2 (hold p hp)
  have hne : ∀ p, p ∈ ab_fl sz ages → ∀ i, i < n → cl p ≠ f i := by
    intro p hp i hi z
    have h1 := (o1 p hp).2
    have h2 := (hf i hi).2
    rw [← z, h1] at h2
    have h3 : p / 64 < 32 := HX.2.2.1.2.1 _ ((rl_mem HX).mp hp).1
    exact nI_pos (by omega) h2
  have hmem : ∀ p, p ∈ ab_fl (ab_fu sz s n) (ages ++ [s]) ↔ p ∈ ab_fl sz ages ∨ ∃ i, i < n ∧ p = 64 * s + i := by
    intro p
    rw [hl, List.mem_append, List.mem_map]
    constructor
    · rintro (q | ⟨i, hi, rfl⟩)
      · exact Or.inl q
      · exact Or.inr ⟨i, List.mem_range.mp hi, rfl⟩
    · rintro (q | ⟨i, hi, rfl⟩)
      · exact Or.inl q
      · exact Or.inr ⟨i, List.mem_range.mpr hi, rfl⟩
  refine ⟨⟨rfl, rfl⟩, ⟨?_, ?_⟩, ⟨?_, ?_, ?_⟩, ?_, ?_, ?_, ?_⟩
  · rw [hl, List.length_append, List.length_map, List.length_range]
  · intro k p hk
    rw [hl] at hk
    by_cases z : k < (ab_fl sz ages).length
    · rw [List.getElem?_append_left z] at hk
      rw [hOr' k z, hcl p (List.mem_of_getElem? hk)]
      exact y2' k p hk
    · rw [List.getElem?_append_right (by omega)] at hk
      have hkn : k - (ab_fl sz ages).length < n := by
        have := (List.getElem?_eq_some_iff.mp hk).1
        simpa using this
      rw [List.getElem?_map, List.getElem?_range hkn] at hk
      simp at hk
      rw [← hk, rl_cl1 (by omega), ← hOr _ hkn]
      congr 1; omega
  · intro p hp
    rcases (hmem p).mp hp with q | ⟨i, hi, rfl⟩
    · rw [hcl p q, (hO' (cl p) (hne p q)).1]; exact o1 p q
    · rw [rl_cl1 (by omega), (hO i hi).1, show (64 * s + i) / 64 = s by omega]
      exact ⟨(hf i hi).1, rfl⟩
  · intro p q hp hq
    rcases (hmem p).mp hp with a | ⟨i, hi, rfl⟩
    · rcases (hmem q).mp hq with b | ⟨j, hj, rfl⟩
      · rw [hcl p a, hcl q b]; exact o2 p q a b
      · rw [hcl p a, rl_cl1 (by omega)]; intro z; exact absurd z (hne p a j hj)
    · rcases (hmem q).mp hq with b | ⟨j, hj, rfl⟩
      · rw [hcl q b, rl_cl1 (by omega)]; intro z; exact absurd z.symm (hne q b i hi)
      · rw [rl_cl1 (by omega), rl_cl1 (by omega)]; intro z; rw [hfi i j hi hj z]
  · intro c hc hno
    have h1 : ∀ i, i < n → c ≠ f i := by
      intro i hi z
      refine hno (64 * s + i) ((hmem _).mpr (Or.inr ⟨i, hi, rfl⟩)) ?_
      rw [rl_cl1 (by omega)]; exact z.symm
    rw [(hO' c h1).1]
    refine o3 c hc (fun p hp z => hno p ((hmem p).mpr (Or.inl hp)) ?_)
    rw [hcl p hp]; exact z
  · intro t ht
    by_cases z : t = s
    · subst z
      rw [pk_us]
      simp
    · rw [pk_un z, y4 t ht]
      simp [z]
  · intro h hh ht
    by_cases z : h = v
    · subst z
      refine ⟨hR, hD, ?_, ?_⟩
      · rw [pk_us, hsl]
      · intro e he
        rw [hrn] at he
        rw [hS e he, hp e he, rl_cl1 (by omega)]
    · rw [pk_un z] at ht
      obtain ⟨q1, q2, q3, q4⟩ := y5 h hh ht
      obtain ⟨g1, g2, g3⟩ := F h z (by omega) (by omega)
      have xh := HX.2.2.2.2 h hh ht
      have k1 := (rl_hk HX).1 h hh ht
      have k2 := (rl_hk HX).2 h hh ht
      refine ⟨?_, ?_, ?_, ?_⟩
      · rw [hR' h hh z, hrk h hh z]; exact q1
      · rw [hrk h hh z, g2]; intro a ha; rw [hD' _ (by omega) (by omega)]; exact q2 a ha
      · rw [pk_un z, g1]; exact q3
      · unfold rl_n rl_p
        rw [g2, g3]
        intro e he
        have m1 := (rl_pmem HX xh.2.2.1 (e := e)).1
        have he' : e < rl_n d h := he
        rw [hS' _ (by omega) (by omega)]
        have := q4 e he'
        rw [this]
        exact congrArg nI (hcl _ m1).symm
  · intro t ht
    by_cases z : t = s
    · subst z
      unfold rl_ys
      rw [pk_us, pk_us, pk_us, ab_fus, ab_fus, ab_fus, ab_fus]
      exact ⟨rfl, hkr, hk4, hk3⟩
    · have hta : t ∈ ages := by
        simp at ht
        rcases ht with q | q
        · exact q
        · exact absurd q z
      obtain ⟨q1, q2, q3, q4⟩ := y6 t hta
      have xs := HX.2.2.2.1 t hta
      unfold rl_ys
      rw [pk_un z, pk_un z, pk_un z, ab_fun z, ab_fun z, ab_fun z, ab_fun z]
      refine ⟨q1, q2, q3, fun k4 => ?_⟩
      obtain ⟨p1, p2, p3, p4⟩ := q4 k4
      obtain ⟨g1, g2, g3⟩ := F (24 + 2 * t) (by omega) (by omega) (by omega)
      obtain ⟨j1, j2, j3⟩ := F (25 + 2 * t) (by omega) (by omega) (by omega)
      obtain ⟨u1, u2, u3, u4, u5, u6, u7⟩ := xs.2.2.2.2.2 k4
      rw [g1, j1]
      refine ⟨p1, p2, p3, fun i hi => ?_⟩
      have hi' : i < sz t := hi
      have m0 : 64 * t + i ∈ ab_fl sz ages := by
        have := xs.2.2.1
        rw [rl_mem HX, show (64 * t + i) / 64 = t by omega, show (64 * t + i) % 64 = i by omega]
        exact ⟨hta, hi'⟩
      have e1 : ∀ j, rl_p d' G' (24 + 2 * t) j = rl_p d G (24 + 2 * t) j := fun j => by unfold rl_p; rw [g2, g3]
      have e2 : ∀ j, rl_p d' G' (25 + 2 * t) j = rl_p d G (25 + 2 * t) j := fun j => by unfold rl_p; rw [j2, j3]
      obtain ⟨a1, a2⟩ := p4 i hi
      obtain ⟨c1, c2⟩ := hP' _ (hne _ m0)
      unfold rl_pt
      rw [ab_fun z, ab_fun z, hcl _ m0, c1]
      refine ⟨fun k => ⟨(a1 k).1, fun r hr => ?_⟩, fun k => ⟨(a2 k).1, fun r hr => ?_⟩⟩
      · rw [e1, hcl _ (rl_pmem HX u6).1, c2 r (by omega)]; exact (a1 k).2 r hr
      · rw [e1, e2, hcl _ (rl_pmem HX u6).1, hcl _ (rl_pmem HX u7).1, c2 _ (by omega), c2 _ (by omega)]; exact (a2 k).2 r hr
  · intro p hp hk
    rcases (hmem p).mp hp with q | ⟨i, hi, rfl⟩
    · rw [ab_fun (hold p q)] at hk
      rw [hcl p q, (hO' (cl p) (hne p q)).2, hvl' p q]
      exact y7 p q hk
    · rw [show (64 * s + i) / 64 = s by omega, ab_fus] at hk
      rw [rl_cl1 (by omega), (hO i hi).2, hvl hk i hi]
