theorem rl_nN {d : Nat → Nat → Nat} {e : Nat → Nat} {w v : Nat} (h : w ≠ v) : rl_n (ab_fu d v e) w = rl_n d w := by unfold rl_n; rw [ab_fun h]
theorem rl_pN {d : Nat → Nat → Nat} {G : Nat → Nat → Nat → Nat → Nat} {e : Nat → Nat} {g : Nat → Nat → Nat → Nat} {w v j : Nat} (h : w ≠ v) : rl_p (ab_fu d v e) (ab_fu G v g) w j = rl_p d G w j := by unfold rl_p; rw [ab_fun h, ab_fun h]
theorem rl_nS {d : Nat → Nat → Nat} {e : Nat → Nat} {v : Nat} : rl_n (ab_fu d v e) v = e 0 * e 1 * e 2 := by unfold rl_n; rw [ab_fus]
theorem rl_pS {d : Nat → Nat → Nat} {G : Nat → Nat → Nat → Nat → Nat} {e : Nat → Nat} {g : Nat → Nat → Nat → Nat} {v j : Nat} : rl_p (ab_fu d v e) (ab_fu G v g) v j = ab_pf (e 0) (e 1) (e 2) g j := by unfold rl_p; rw [ab_fus, ab_fus]
theorem rl_winV {sl sz : Nat → Nat} {d : Nat → Nat → Nat} {G : Nat → Nat → Nat → Nat → Nat} {ages : List Nat} {S St D E : Nat → Int32} {w v t : Nat} {e : Nat → Nat} {g : Nat → Nat → Nat → Nat} {b st D0 D1 D2 E0 E1 E2 : Int32} (h : w ≠ v) (H : rl_win sl d G ages sz S St D E w) : rl_win (ab_fu sl v t) (ab_fu d v e) (ab_fu G v g) ages sz (upd S v b) (upd St v st) (ab_up3 D (3 * v) D0 D1 D2) (ab_up3 E (3 * v) E0 E1 E2) w := by
  obtain ⟨h1, h2, h3, h4⟩ := H
  unfold rl_win
  rw [ab_fun h, ab_fun h, ab_fun h, pk_un h, pk_un h, ab_en (by omega), ab_en (by omega), ab_en (by omega)]
  refine ⟨h1, h2, fun a ha => ?_, h4⟩
  rw [ab_en (by omega)]
  exact h3 a ha
theorem rl_winS {sl sz : Nat → Nat} {d : Nat → Nat → Nat} {G : Nat → Nat → Nat → Nat → Nat} {ages : List Nat} {S St D E : Nat → Int32} {v t : Nat} {e : Nat → Nat} {g : Nat → Nat → Nat → Nat} {b st E0 E1 E2 : Int32} (hb : b = nI t) (ht : t ∈ ages) (he : ∀ a, a < 3 → 1 ≤ e a ∧ e a ≤ 4) (hg : ∀ x y z, x < e 0 → y < e 1 → z < e 2 → st + nI x * E0 + nI y * E1 + nI z * E2 = nI (g x y z) ∧ g x y z / 64 = t ∧ g x y z % 64 < sz t) : rl_win (ab_fu sl v t) (ab_fu d v e) (ab_fu G v g) ages sz (upd S v b) (upd St v st) (ab_up3 D (3 * v) (nI (e 0)) (nI (e 1)) (nI (e 2))) (ab_up3 E (3 * v) E0 E1 E2) v := by
  unfold rl_win
  rw [ab_fus, ab_fus, ab_fus, pk_us, pk_us, ab_e0, ab_e1, ab_e2]
  refine ⟨hb, ht, fun a ha => ?_, hg⟩
  rcases (show a = 0 ∨ a = 1 ∨ a = 2 by omega) with rfl | rfl | rfl
  · exact ⟨ab_e0, he 0 ha⟩
  · exact ⟨ab_e1, he 1 ha⟩
  · exact ⟨ab_e2, he 2 ha⟩
theorem rl_orC {kd kd' sl sl' : Nat → Nat} : ∀ {l pre : List Nat}, (∀ s, s ∈ l → kd' s = kd s ∧ sl' (24 + 2 * s) = sl (24 + 2 * s) ∧ sl' (25 + 2 * s) = sl (25 + 2 * s)) → rl_or kd sl pre l → rl_or kd' sl' pre l := by
  intro l
  induction l with
  | nil => intro pre _ _; trivial
  | cons s l ih =>
    intro pre h H
    obtain ⟨h1, h2, h3⟩ := h s (by simp)
    refine ⟨?_, ih (fun t ht => h t (List.mem_cons_of_mem _ ht)) H.2⟩
    rw [h1, h2, h3]; exact H.1
theorem rl_viewX {rk sl sz kd tm : Nat → Nat} {d : Nat → Nat → Nat} {G : Nat → Nat → Nat → Nat → Nat} {ages : List Nat} {fs fe : Int32} {T V R S St D E Sz Kd Tm Ag : Nat → Int32} {w v r : Nat} {e : Nat → Nat} {g : Nat → Nat → Nat → Nat} {st s0 s1 s2 : Int32} (hw : w < 24) (hv : v < 24) (hT : ¬ T w = 0) (he : ab_sh3 r e) (hg : ∀ x y z, x < e 0 → y < e 1 → z < e 2 → st + nI x * s0 + nI y * s1 + nI z * s2 = nI (g x y z) ∧ ∃ x' y' z', x' < d w 0 ∧ y' < d w 1 ∧ z' < d w 2 ∧ g x y z = G w x' y' z') (H : rl_X rk sl d G ages sz kd tm fs fe T V R S St D E Sz Kd Tm Ag) : rl_X (ab_fu rk v r) (ab_fu sl v (sl w)) (ab_fu d v e) (ab_fu G v g) ages sz kd tm fs fe (upd T v 1) (upd V v 1) (upd R v (nI r)) (upd S v (S w)) (upd St v st) (ab_up3 D (3 * v) (nI (e 0)) (nI (e 1)) (nI (e 2))) (ab_up3 E (3 * v) s0 s1 s2) Sz Kd Tm Ag := by
  obtain ⟨x1, x2, ⟨x3, x4, x5, x6⟩, x7, x8⟩ := H
  refine ⟨x1, x2, ⟨x3, x4, x5, rl_orC (fun s _ => ⟨rfl, ab_fun (by omega), ab_fun (by omega)⟩) x6⟩, fun s hs => ?_, fun h hh hh0 => ?_⟩
  · obtain ⟨z1, z2, z3, z4, z5, z6⟩ := x7 s hs
    refine ⟨z1, z2, z3, z4, z5, fun hk => ?_⟩
    obtain ⟨q1, q2, q3, q4, q5, q6, q7⟩ := z6 hk
    rw [rl_nN (by omega), rl_nN (by omega)]
    exact ⟨q1, q2, q3, q4, q5, rl_winV (by omega) q6, rl_winV (by omega) q7⟩
  · obtain ⟨w1, w2, w3, w4⟩ := x8 w hw hT
    by_cases z : h = v
    · subst z
      refine ⟨?_, ?_, rl_winS w3.1 w3.2.1 he.2.2 ?_, ?_⟩
      · rw [pk_us, ab_fus]
      · rw [ab_fus, ab_fus]; exact he
      · intro x y z hx hy hz
        obtain ⟨g1, x', y', z', hx', hy', hz', g2⟩ := hg x y z hx hy hz
        have := w3.2.2.2 x' y' z' hx' hy' hz'
        rw [g2] at g1 ⊢
        exact ⟨g1, this.2⟩
      · rw [pk_us]; intro q; exact absurd q ab_10
    · rw [pk_un z] at hh0
      obtain ⟨y1, y2, y3, y4⟩ := x8 h hh hh0
      refine ⟨?_, ?_, rl_winV z y3, ?_⟩
      · rw [pk_un z, ab_fun z]; exact y1
      · rw [ab_fun z, ab_fun z]; exact y2
      · rw [pk_un z, pk_un z, ab_fun z, rl_nN z]
        intro q
        refine ⟨(y4 q).1, fun e' he' => ?_⟩
        rw [rl_pN z]; exact (y4 q).2 e' he'
theorem rl_ysN {sl sz kd tm yk cl : Nat → Nat} {d : Nat → Nat → Nat} {G : Nat → Nat → Nat → Nat → Nat} {K F1 F2 P C : Nat → Int32} {s v t : Nat} {e : Nat → Nat} {g : Nat → Nat → Nat → Nat} (hv : v ≠ 24 + 2 * s) (hv' : v ≠ 25 + 2 * s) (H : rl_ys sl d G sz kd tm yk cl K F1 F2 P C s) : rl_ys (ab_fu sl v t) (ab_fu d v e) (ab_fu G v g) sz kd tm yk cl K F1 F2 P C s := by
  obtain ⟨h1, h2, h3, h4⟩ := H
  refine ⟨h1, h2, h3, fun hk => ?_⟩
  obtain ⟨q1, q2, q3, q4⟩ := h4 hk
  rw [ab_fun (Ne.symm hv), ab_fun (Ne.symm hv')]
  refine ⟨q1, q2, q3, fun i hi => ?_⟩
  obtain ⟨p1, p2⟩ := q4 i hi
  refine ⟨fun z => ⟨(p1 z).1, fun t ht => ?_⟩, fun z => ⟨(p2 z).1, fun t ht => ?_⟩⟩
  · rw [rl_pN (Ne.symm hv)]; exact (p1 z).2 t ht
  · rw [rl_pN (Ne.symm hv), rl_pN (Ne.symm hv')]; exact (p2 z).2 t ht
theorem rl_viewY {rk sl sz kd tm yk cl : Nat → Nat} {d : Nat → Nat → Nat} {G : Nat → Nat → Nat → Nat → Nat} {ages : List Nat} {T V vals : Nat → Int32} {c_cells pv : Int32} {b_used b_rank b_dims b_shown b_tensorOf b_view b_exists b_kind b_first b_second b_owner b_parts b_partCount b_value b_order R D S : Nat → Int32} {v r t : Nat} {e : Nat → Nat} {g : Nat → Nat → Nat → Nat} (hv : v < 24) (hk : ∀ h, h < 24 → ¬ T h = 0 → rk h ≤ 3) (hn : ∀ h, h < 24 → ¬ T h = 0 → rl_n d h ≤ 64) (hR : R v = nI r) (hR' : ∀ h, h < 24 → h ≠ v → R h = b_rank h) (hD : ∀ a, a < r → D (3 * v + a) = nI (e a)) (hD' : ∀ j, j < 72 → (j < 3 * v ∨ 3 * v + 3 ≤ j) → D j = b_dims j) (hS : ∀ i, i < e 0 * e 1 * e 2 → S (64 * v + i) = nI (cl (ab_pf (e 0) (e 1) (e 2) g i))) (hS' : ∀ j, j < 1536 → (j < 64 * v ∨ 64 * v + 64 ≤ j) → S j = b_shown j) (H : rl_Y rk sl d G ages sz kd tm yk cl T V vals c_cells b_used b_rank b_dims b_shown b_tensorOf b_view b_exists b_kind b_first b_second b_owner b_parts b_partCount b_value b_order) : rl_Y (ab_fu rk v r) (ab_fu sl v t) (ab_fu d v e) (ab_fu G v g) ages sz kd tm yk cl (upd T v 1) (upd V v pv) vals c_cells (upd b_used v 1) R D S (upd b_tensorOf v (nI t)) (upd b_view v pv) b_exists b_kind b_first b_second b_owner b_parts b_partCount b_value b_order := by
  obtain ⟨⟨y1, y1'⟩, y2, y3, y4, y5, y6, y7⟩ := H
  subst y1 y1'
  refine ⟨⟨rfl, rfl⟩, y2, y3, y4, fun h hh ht => ?_, fun s hs => rl_ysN (by omega) (by omega) (y6 s hs), y7⟩
  by_cases z : h = v
  · subst z
    refine ⟨?_, ?_, ?_, ?_⟩
    · rw [ab_fus]; exact hR
    · rw [ab_fus, ab_fus]; exact hD
    · rw [pk_us, ab_fus]
    · rw [rl_nS]; intro i hi; rw [rl_pS]; exact hS i hi
  · rw [pk_un z] at ht
    obtain ⟨q1, q2, q3, q4⟩ := y5 h hh ht
    have k1 := hk h hh ht
    have k2 := hn h hh ht
    refine ⟨?_, ?_, ?_, ?_⟩
    · rw [ab_fun z, hR' h hh z]; exact q1
    · rw [ab_fun z, ab_fun z]; intro a ha; rw [hD' _ (by omega) (by omega)]; exact q2 a ha
    · rw [pk_un z, ab_fun z]; exact q3
    · rw [rl_nN z]; intro i hi; rw [rl_pN z, hS' _ (by omega) (by omega)]; exact q4 i hi
section
variable {c_cells c_slopeCount : Int32} {b_used b_rank b_dims b_shown b_tensorOf b_view b_exists b_kind b_first b_second b_owner b_parts b_partCount b_value b_slopeOf b_order b_slopes : Nat → Int32}
def ab_crd (x y z a : Nat) : Nat := if a = 0 then x else if a = 1 then y else z
theorem yb_index {post : Int32 → Prop} {h rk e a : Nat} {d : Nat → Nat} (hh : h < 25) (H : yb_row b_rank b_dims h rk d) (he : e < 2 ^ 31) (ha : a < 3) (hp : post (nI (ab_crd (e / (d 1 * d 2) % d 0) (e / d 2 % d 1) (e % d 2) a))) : wpY_index post (c_cells, c_slopeCount, b_used, b_rank, b_dims, b_shown, b_tensorOf, b_view, b_exists, b_kind, b_first, b_second, b_owner, b_parts, b_partCount, b_value, b_slopeOf, b_order, b_slopes) (nI h) (nI e) (nI a) := by
  rcases (show a = 0 ∨ a = 1 ∨ a = 2 by omega) with rfl | rfl | rfl
  · exact yb_index0 hh H he hp
  · exact yb_index1 hh H he hp
  · exact yb_index2 hh H he hp
theorem yv_hand {post : Int32 → SY → Prop} {v t r : Nat} {pv : Int32} {e c : Nat → Nat} {N : Nat} (hv : v < 24) (h0 : b_used v = 0) (hl : ∀ j, j < v → ¬ b_used j = 0) (ht : t < 32) (hr : b_rank 24 = nI r) (hr3 : r ≤ 3) (hN : N ≤ 64) (hD : ∀ a, a < r → b_dims (72 + a) = nI (e a)) (he : ∀ a, a < 3 → e a ≤ 4) (hS : ∀ i, i < N → b_shown (1536 + i) = nI (c i)) (hc : ∀ i, i < N → c i < 320) (h : ∀ D S : Nat → Int32, (∀ a, a < r → D (3 * v + a) = nI (e a)) → (∀ j, (j < 3 * v ∨ 3 * v + 3 ≤ j) → D j = b_dims j) → (∀ i, i < N → S (64 * v + i) = nI (c i)) → (∀ j, (j < 64 * v ∨ 64 * v + 64 ≤ j) → S j = b_shown j) → post (nI v) (c_cells, c_slopeCount, upd b_used v 1, upd b_rank v (nI r), D, S, upd b_tensorOf v (nI t), upd b_view v (vp_nar .boolean pv), b_exists, b_kind, b_first, b_second, b_owner, b_parts, b_partCount, b_value, b_slopeOf, b_order, b_slopes)) : wpY_handOver post (c_cells, c_slopeCount, b_used, b_rank, b_dims, b_shown, b_tensorOf, b_view, b_exists, b_kind, b_first, b_second, b_owner, b_parts, b_partCount, b_value, b_slopeOf, b_order, b_slopes) pv (nI t) := by
  refine yb_handOver hv h0 hl ht hr hr3 (fun D S d1 d2 s1 s2 => h D S ?_ d2 ?_ s2)
  · intro a ha
    have := he a (by omega)
    rw [d1 a (by omega), hD a ha, ab_vb (by omega)]
  · intro i hi
    have := hc i hi
    rw [s1 i (by omega), hS i hi, ab_vs (by omega)]
end
