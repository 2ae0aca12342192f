def mk_f {α : Type} (f : Nat → α) (v s : Nat) (a b c : α) : Nat → α := ab_fu (ab_fu (ab_fu f v a) (24 + 2 * s) b) (25 + 2 * s) c
def mk_u (f : Nat → Int32) (v s : Nat) (a b c : Int32) : Nat → Int32 := upd (upd (upd f v a) (24 + 2 * s) b) (25 + 2 * s) c
def mk_3 (f : Nat → Int32) (v s : Nat) (a0 a1 a2 b0 b1 b2 c0 c1 c2 : Int32) : Nat → Int32 := ab_up3 (ab_up3 (ab_up3 f (3 * v) a0 a1 a2) (3 * (24 + 2 * s)) b0 b1 b2) (3 * (25 + 2 * s)) c0 c1 c2
theorem mk_fn {α : Type} {f : Nat → α} {v s w : Nat} {a b c : α} (h0 : w ≠ v) (h1 : w ≠ 24 + 2 * s) (h2 : w ≠ 25 + 2 * s) : mk_f f v s a b c w = f w := by unfold mk_f; rw [ab_fun h2, ab_fun h1, ab_fun h0]
theorem mk_f0 {α : Type} {f : Nat → α} {v s : Nat} {a b c : α} (hv : v < 24) : mk_f f v s a b c v = a := by unfold mk_f; rw [ab_fun (by omega), ab_fun (by omega), ab_fus]
theorem mk_f1 {α : Type} {f : Nat → α} {v s : Nat} {a b c : α} : mk_f f v s a b c (24 + 2 * s) = b := by unfold mk_f; rw [ab_fun (by omega), ab_fus]
theorem mk_f2 {α : Type} {f : Nat → α} {v s : Nat} {a b c : α} : mk_f f v s a b c (25 + 2 * s) = c := by unfold mk_f; rw [ab_fus]
theorem mk_un {f : Nat → Int32} {v s w : Nat} {a b c : Int32} (h0 : w ≠ v) (h1 : w ≠ 24 + 2 * s) (h2 : w ≠ 25 + 2 * s) : mk_u f v s a b c w = f w := by unfold mk_u; rw [pk_un h2, pk_un h1, pk_un h0]
theorem mk_u0 {f : Nat → Int32} {v s : Nat} {a b c : Int32} (hv : v < 24) : mk_u f v s a b c v = a := by unfold mk_u; rw [pk_un (by omega), pk_un (by omega), pk_us]
theorem mk_3n {f : Nat → Int32} {v s w i : Nat} {a0 a1 a2 b0 b1 b2 c0 c1 c2 : Int32} (hi : i < 3) (h0 : w ≠ v) (h1 : w ≠ 24 + 2 * s) (h2 : w ≠ 25 + 2 * s) : mk_3 f v s a0 a1 a2 b0 b1 b2 c0 c1 c2 (3 * w + i) = f (3 * w + i) := by unfold mk_3; rw [ab_en (by omega), ab_en (by omega), ab_en (by omega)]
theorem rl_resX {rk sl sz kd tm : Nat → Nat} {d : Nat → Nat → Nat} {G : Nat → Nat → Nat → Nat → Nat} {ages : List Nat} {fs fe : Int32} {T V R S St D E Sz Kd Tm Ag : Nat → Int32} {s v n r kk tt t1 t2 : Nat} {dd e1 e2 : Nat → Nat} {g1 g2 : Nat → Nat → Nat → Nat} {x1 x2 st1 st2 p0 p1 p2 r0 r1 r2 : Int32} (hs : s < 32) (hsn : s ∉ ages) (hv : v < 24) (H : ab_sh3 r dd) (hn : dd 0 * dd 1 * dd 2 = n) (hc : (ab_fl sz ages).length + n ≤ 320) (hkk : kk < 4) (hts : 1 ≤ tt) (htl : tt ≤ 4) (he1 : ∀ a, a < 3 → 1 ≤ e1 a ∧ e1 a ≤ 4) (he2 : ∀ a, a < 3 → 1 ≤ e2 a ∧ e2 a ≤ 4) (hn1 : e1 0 * e1 1 * e1 2 = n * tt) (hn2 : e2 0 * e2 1 * e2 2 = n * tt) (ht1 : t1 ∈ ages) (ht2 : t2 ∈ ages) (q1 : ∀ x y z, x < e1 0 → y < e1 1 → z < e1 2 → st1 + nI x * p0 + nI y * p1 + nI z * p2 = nI (g1 x y z) ∧ g1 x y z / 64 = t1 ∧ g1 x y z % 64 < sz t1) (q2 : ∀ x y z, x < e2 0 → y < e2 1 → z < e2 2 → st2 + nI x * r0 + nI y * r1 + nI z * r2 = nI (g2 x y z) ∧ g2 x y z / 64 = t2 ∧ g2 x y z % 64 < sz t2) (HX : rl_X rk sl d G ages sz kd tm fs fe T V R S St D E Sz Kd Tm Ag) : rl_X (ab_fu rk v r) (mk_f sl v s s t1 t2) (mk_f d v s dd e1 e2) (mk_f G v s (mk_g s dd) g1 g2) (ages ++ [s]) (ab_fu sz s n) (ab_fu kd s kk) (ab_fu tm s tt) (nI (ages.length + 1)) (nI ((ab_fl sz ages).length + n)) (upd T v 1) (upd V v 0) (mk_u R v s (nI r) x1 x2) (mk_u S v s (nI s) (nI t1) (nI t2)) (mk_u St v s (nI (64 * s)) st1 st2) (mk_3 D v s (nI (dd 0)) (nI (dd 1)) (nI (dd 2)) (nI (e1 0)) (nI (e1 1)) (nI (e1 2)) (nI (e2 0)) (nI (e2 1)) (nI (e2 2))) (mk_3 E v s (nI (ab_st r dd 0)) (nI (ab_st r dd 1)) (nI (ab_st r dd 2)) p0 p1 p2 r0 r1 r2) (upd Sz s (nI n)) (upd Kd s (nI kk)) (upd Tm s (nI tt)) (upd Ag ages.length (nI s)) := by
  have hn64 := ab_sz (H.2.2 0 (by omega)).2 (H.2.2 1 (by omega)).2 (H.2.2 2 (by omega)).2
  have hnn1 := ab_sz1 (H.2.2 0 (by omega)).1 (H.2.2 1 (by omega)).1 (H.2.2 2 (by omega)).1
  refine rl_makeX hs hsn hv (by omega) (by omega) hc (fun w a b c => ⟨mk_fn a b c, mk_fn a b c, mk_fn a b c, mk_un a b c, mk_un a b c, fun i hi => ⟨mk_3n hi a b c, mk_3n hi a b c⟩⟩) ?_ ?_ ?_ ?_ (mk_f0 hv) (mk_u0 hv) ?_ (by omega) (fun _ => ⟨hts, htl, ?_, ?_, ?_, ?_⟩) HX
  · rw [mk_u0 hv, ab_fus]
  · intro h hh z
    exact ⟨mk_un z (by omega) (by omega), ab_fun z⟩
  · rw [ab_fus, mk_f0 hv]; exact H
  · refine rl_winV (by omega) (rl_winV (by omega) (rl_winS rfl (by simp) H.2.2 ?_))
    intro x y z hx hy hz
    rw [ab_fus]; exact mk_eq H hn hx hy hz
  · intro e he
    unfold rl_n at he
    unfold rl_p
    rw [mk_f0 hv] at he ⊢
    rw [mk_f0 hv]
    exact mk_p H.2.2 rfl he
  · unfold rl_n; rw [mk_f1]; exact hn1
  · unfold rl_n; rw [mk_f2]; exact hn2
  · exact rl_winV (by omega) (rl_winS rfl ht1 he1 q1)
  · exact rl_winS rfl ht2 he2 q2
def yp_ok (f : Nat → Nat) (n : Nat) (q : Nat → Nat → Nat) (cnt : Nat → Nat) (P0 C0 P C : Nat → Int32) : Prop := (∀ i, i < n → C (f i) = nI (cnt i) ∧ ∀ j, j < cnt i → P (8 * f i + j) = nI (q i j)) ∧ (∀ c, (∀ i, i < n → c ≠ f i) → C c = C0 c ∧ ∀ j, j < 8 → P (8 * c + j) = P0 (8 * c + j))
theorem yp_cg {f : Nat → Nat} {n : Nat} {q : Nat → Nat → Nat} {cnt cnt' : Nat → Nat} {P0 C0 P C : Nat → Int32} (h : ∀ i, i < n → cnt' i = cnt i) (H : yp_ok f n q cnt P0 C0 P C) : yp_ok f n q cnt' P0 C0 P C := by
  refine ⟨fun i hi => ?_, H.2⟩
  rw [h i hi]; exact H.1 i hi
theorem yp_step {f : Nat → Nat} {n i : Nat} {q : Nat → Nat → Nat} {cnt : Nat → Nat} {P0 C0 P C : Nat → Int32} (hfi : ∀ i j, i < n → j < n → f i = f j → i = j) (hi : i < n) (hc : ∀ j, j < n → cnt j ≤ 8) (h8 : cnt i < 8) (H : yp_ok f n q cnt P0 C0 P C) : yp_ok f n q (ab_fu cnt i (cnt i + 1)) P0 C0 (upd P (8 * f i + cnt i) (nI (q i (cnt i)))) (upd C (f i) (nI (cnt i + 1))) := by
  obtain ⟨h1, h2⟩ := H
  refine ⟨fun j hj => ?_, fun c hcn => ?_⟩
  · by_cases z : j = i
    · subst z
      rw [ab_fus, pk_us]
      refine ⟨rfl, fun t ht => ?_⟩
      by_cases y : t = cnt j
      · rw [y, pk_us]
      · rw [pk_un (by omega)]; exact (h1 j hj).2 t (by omega)
    · have hne : f j ≠ f i := fun e => z (hfi j i hj hi e)
      have := hc j hj
      rw [ab_fun z, pk_un hne]
      refine ⟨(h1 j hj).1, fun t ht => ?_⟩
      rw [pk_un (by omega)]; exact (h1 j hj).2 t ht
  · have hne := hcn i hi
    rw [pk_un hne]
    refine ⟨(h2 c hcn).1, fun t ht => ?_⟩
    rw [pk_un (by omega)]; exact (h2 c hcn).2 t ht
def yp_c (K e m i : Nat) : Nat := if i < e then K else if i = e then m else 0
theorem yp_n {f : Nat → Nat} {n K e : Nat} {q : Nat → Nat → Nat} {P0 C0 P C : Nat → Int32} (H : yp_ok f n q (yp_c K e K) P0 C0 P C) : yp_ok f n q (yp_c K (e + 1) 0) P0 C0 P C := by
  refine yp_cg (fun i hi => ?_) H
  unfold yp_c
  by_cases a : i < e
  · rw [if_pos (by omega), if_pos a]
  · by_cases b : i = e
    · rw [if_pos (by omega), if_neg a, if_pos b]
    · rw [if_neg (by omega), if_neg a, if_neg b]; split <;> rfl
theorem yp_x {f : Nat → Nat} {n K : Nat} {q : Nat → Nat → Nat} {P0 C0 P C : Nat → Int32} (H : yp_ok f n q (yp_c K n 0) P0 C0 P C) : yp_ok f n q (fun _ => K) P0 C0 P C := by
  refine yp_cg (fun i hi => ?_) H
  unfold yp_c; rw [if_pos hi]
theorem yp_0 {O0 P0 V0 R0 S0 O C V R S : Nat → Int32} {s c n K : Nat} {f : Nat → Nat} {q : Nat → Nat → Nat} {P : Nat → Int32} (A : yb_al O0 P0 V0 R0 S0 s c n f O C V R S) : yp_ok f n q (yp_c K 0 0) P C P C := by
  refine ⟨fun i hi => ?_, fun _ _ => ⟨rfl, fun _ _ => rfl⟩⟩
  have e : yp_c K 0 0 i = 0 := by unfold yp_c; rw [if_neg (by omega)]; split <;> rfl
  rw [e]
  exact ⟨(A.2.2.1 i hi).2.1, fun j hj => absurd hj (by omega)⟩
section
variable {c_cells c_slopeCount : Int32} {b_used b_rank b_dims b_shown b_tensorOf b_view b_exists b_kind b_first b_second b_owner b_parts b_partCount b_value b_slopeOf b_order b_slopes : Nat → Int32}
theorem yp_part {post : SY → Prop} {f : Nat → Nat} {n K e m x : Nat} {q : Nat → Nat → Nat} {P0 C0 : Nat → Int32} (hn : n ≤ 64) (hfi : ∀ i j, i < n → j < n → f i = f j → i = j) (hf : ∀ i, i < n → f i < 320) (he : e < n) (hm : m < K) (hK : K ≤ 8) (hS : b_shown (1536 + e) = nI (f e)) (hx : q e m = x) (hx2 : x < 320) (H : yp_ok f n q (yp_c K e m) P0 C0 b_parts b_partCount) (h : ∀ P C : Nat → Int32, yp_ok f n q (yp_c K e (m + 1)) P0 C0 P C → post (c_cells, c_slopeCount, b_used, b_rank, b_dims, b_shown, b_tensorOf, b_view, b_exists, b_kind, b_first, b_second, b_owner, P, C, b_value, b_slopeOf, b_order, b_slopes)) : wpY_part post (c_cells, c_slopeCount, b_used, b_rank, b_dims, b_shown, b_tensorOf, b_view, b_exists, b_kind, b_first, b_second, b_owner, b_parts, b_partCount, b_value, b_slopeOf, b_order, b_slopes) (nI e) (nI x) := by
  have ce : yp_c K e m e = m := by unfold yp_c; rw [if_neg (by omega), if_pos rfl]
  have h1 := (H.1 e he).1
  rw [ce] at h1
  refine yb_part (by omega) hS (hf e he) h1 (by omega) hx2 (h _ _ ?_)
  have := yp_step hfi he (fun j _ => ?_) (by rw [ce]; omega) H
  · rw [ce, hx] at this
    refine yp_cg (fun i hi => ?_) this
    by_cases z : i = e
    · subst z; rw [ab_fus]; unfold yp_c; rw [if_neg (by omega), if_pos rfl]
    · rw [ab_fun z]; unfold yp_c; rw [if_neg z, if_neg z]
  · unfold yp_c; split
    · omega
    · split <;> omega
end
theorem rl_resY {rk sl sz kd tm yk cl f : Nat → Nat} {d : Nat → Nat → Nat} {G : Nat → Nat → Nat → Nat → Nat} {ages : List Nat} {fs fe c_cells f1 f2 pv : Int32} {T V R S St D E Sz Kd Tm Ag vals : Nat → Int32} {b_used b_rank b_dims b_shown b_tensorOf b_view b_exists b_kind b_first b_second b_owner b_parts b_partCount b_value b_order yR yD yS yO yP yC yV yOr C0 S0 : Nat → Int32} {s v n r kk tt t1 t2 yy : Nat} {dd e1 e2 : Nat → Nat} {g1 g2 : Nat → Nat → Nat → Nat} {q : Nat → Nat → Nat} (hs : s < 32) (hsn : s ∉ ages) (hv : v < 24) (H3 : ab_sh3 r dd) (hn : dd 0 * dd 1 * dd 2 = n) (hkk : kk < 4) (htl : tt ≤ 4) (he1 : ∀ a, a < 3 → 1 ≤ e1 a ∧ e1 a ≤ 4) (he2 : ∀ a, a < 3 → 1 ≤ e2 a ∧ e2 a ≤ 4) (ht1 : t1 ∈ ages) (ht2 : t2 ∈ ages) (q1 : ∀ x y z, x < e1 0 → y < e1 1 → z < e1 2 → g1 x y z / 64 = t1) (q2 : ∀ x y z, x < e2 0 → y < e2 1 → z < e2 2 → g2 x y z / 64 = t2) (hR : yR v = nI r) (hR' : ∀ h, h < 24 → h ≠ v → yR h = b_rank h) (hD : ∀ a, a < r → yD (3 * v + a) = nI (dd a)) (hD' : ∀ j, j < 72 → (j < 3 * v ∨ 3 * v + 3 ≤ j) → yD j = b_dims j) (hS : ∀ i, i < n → yS (64 * v + i) = nI (f i)) (hS' : ∀ j, j < 1536 → (j < 64 * v ∨ 64 * v + 64 ≤ j) → yS j = b_shown j) (A : yb_al b_owner b_partCount b_value b_order b_shown s (ab_fl sz ages).length n f yO C0 yV yOr S0) (Y : yp_ok f n q (fun _ => if kk = 3 then tt else 2 * tt) b_parts C0 yP yC) (hq3 : kk = 3 → ∀ i t, i < n → t < tt → q i t = cl (ab_pf (e1 0) (e1 1) (e1 2) g1 (i * tt + t))) (hq2 : kk ≠ 3 → ∀ i t, i < n → t < tt → q i (2 * t) = cl (ab_pf (e1 0) (e1 1) (e1 2) g1 (i * tt + t)) ∧ q i (2 * t + 1) = cl (ab_pf (e2 0) (e2 1) (e2 2) g2 (i * tt + t))) (hkr : rl_kr kk yy tt) (hf1 : f1 = nI t1) (hf3 : kk = 3 → f2 < 0 ∧ t2 = t1) (hf2 : kk ≠ 3 → f2 = nI t2) (HX : rl_X rk sl d G ages sz kd tm fs fe T V R S St D E Sz Kd Tm Ag) (H : rl_Y rk sl d G ages sz kd tm yk cl T V vals c_cells b_used b_rank b_dims b_shown b_tensorOf b_view b_exists b_kind b_first b_second b_owner b_parts b_partCount b_value b_order) : rl_Y (ab_fu rk v r) (mk_f sl v s s t1 t2) (mk_f d v s dd e1 e2) (mk_f G v s (mk_g s dd) g1 g2) (ages ++ [s]) (ab_fu sz s n) (ab_fu kd s kk) (ab_fu tm s tt) (ab_fu yk s yy) (rl_cl cl f s) (upd T v 1) (upd V v pv) vals (nI ((ab_fl sz ages).length + n)) (upd b_used v 1) yR yD yS (upd b_tensorOf v (nI s)) (upd b_view v pv) (upd b_exists s 1) (upd b_kind s (nI yy)) (upd b_first s f1) (upd b_second s f2) yO yP yC yV yOr := by
  have hn64 := ab_sz (H3.2.2 0 (by omega)).2 (H3.2.2 1 (by omega)).2 (H3.2.2 2 (by omega)).2
  obtain ⟨A1, A2, A3, A4, A5, A6, A7⟩ := A
  have z1 : ∀ j, ab_pf (e1 0) (e1 1) (e1 2) g1 j / 64 ≠ s := by
    intro j z
    obtain ⟨i1, i2, i3⟩ := ab_pfi (e := j) (he1 0 (by omega)).1 (he1 1 (by omega)).1 (he1 2 (by omega)).1
    have := q1 _ _ _ i1 i2 i3
    unfold ab_pf at z
    rw [this] at z
    exact hsn (z ▸ ht1)
  have z2 : ∀ j, ab_pf (e2 0) (e2 1) (e2 2) g2 j / 64 ≠ s := by
    intro j z
    obtain ⟨i1, i2, i3⟩ := ab_pfi (e := j) (he2 0 (by omega)).1 (he2 1 (by omega)).1 (he2 2 (by omega)).1
    have := q2 _ _ _ i1 i2 i3
    unfold ab_pf at z
    rw [this] at z
    exact hsn (z ▸ ht2)
  refine rl_makeY hs hsn hv (by omega) ?_ (fun w a b c => ⟨mk_fn a b c, mk_fn a b c, mk_fn a b c⟩) (fun h hh z => ab_fun z) (mk_f0 hv) ?_ (by rw [ab_fus]; exact hR) hR' (by rw [ab_fus, mk_f0 hv]; exact hD) hD' hS hS' A1 A2 (fun i hi => ⟨(A3 i hi).1, (A3 i hi).2.2⟩) (fun c hc => ⟨(A4 c hc).1, (A4 c hc).2.2⟩) (fun i hi => (A5 i hi).1) A6 (fun c hc => ⟨(Y.2 c hc).1.trans (A4 c hc).2.1, (Y.2 c hc).2⟩) hkr (fun z => by omega) (fun _ => ?_) (fun z => by omega) (fun p _ => rfl) HX H
  · unfold rl_n; rw [mk_f0 hv]; exact hn
  · intro e he
    unfold rl_p
    rw [mk_f0 hv, mk_f0 hv]
    exact mk_p H3.2.2 hn he
  · rw [mk_f1, mk_f2]
    refine ⟨hf1, hf3, hf2, fun i hi => ?_⟩
    have ci : rl_cl cl f s (64 * s + i) = f i := rl_cl1 (by omega)
    have p1 : ∀ j, rl_p (mk_f d v s dd e1 e2) (mk_f G v s (mk_g s dd) g1 g2) (24 + 2 * s) j = ab_pf (e1 0) (e1 1) (e1 2) g1 j := fun j => by unfold rl_p; rw [mk_f1, mk_f1]
    have p2 : ∀ j, rl_p (mk_f d v s dd e1 e2) (mk_f G v s (mk_g s dd) g1 g2) (25 + 2 * s) j = ab_pf (e2 0) (e2 1) (e2 2) g2 j := fun j => by unfold rl_p; rw [mk_f2, mk_f2]
    obtain ⟨y1, y2⟩ := Y.1 i hi
    unfold rl_pt
    rw [ci, ab_fus, ab_fus]
    refine ⟨fun k3 => ?_, fun k3 => ?_⟩
    · dsimp only at y1 y2
      rw [if_pos k3] at y1 y2
      refine ⟨y1, fun t ht => ?_⟩
      rw [p1, rl_cl2 (z1 _), y2 t ht, hq3 k3 i t hi ht]
    · dsimp only at y1 y2
      rw [if_neg k3] at y1 y2
      refine ⟨y1, fun t ht => ?_⟩
      obtain ⟨a1, a2⟩ := hq2 k3 i t hi ht
      rw [p1, p2, rl_cl2 (z1 _), rl_cl2 (z2 _), y2 (2 * t) (by omega), y2 (2 * t + 1) (by omega), a1, a2]
      exact ⟨rfl, rfl⟩
