section
variable {c_cells c_slopeCount : Int32} {b_used b_rank b_dims b_shown b_tensorOf b_view b_exists b_kind b_first b_second b_owner b_parts b_partCount b_value b_slopeOf b_order b_slopes : Nat → Int32}
theorem yb_get {post : Int32 → SY → Prop} {J : Int32 → Int32 → Int32 → (Nat → Int32) → (Nat → Int32) → (Nat → Int32) → (Nat → Int32) → (Nat → Int32) → (Nat → Int32) → (Nat → Int32) → (Nat → Int32) → (Nat → Int32) → (Nat → Int32) → (Nat → Int32) → (Nat → Int32) → (Nat → Int32) → (Nat → Int32) → (Nat → Int32) → (Nat → Int32) → (Nat → Int32) → Prop} {s g e c : Nat} {x5 : Int32} (hs : s < 32) (hg : g < 320) (he : e < 64) (hc : c < 320) (h0 : b_owner g < 0) (hcc : c_cells = nI c) (h : J (nI g) (nI (e + 1)) (nI (c + 1)) b_used b_rank b_dims (upd b_shown (1536 + e) (nI g)) b_tensorOf b_view b_exists b_kind b_first b_second (upd b_owner g (nI s)) b_parts (upd b_partCount g 0) (upd b_value g 0) b_slopeOf (upd b_order c (nI g)) b_slopes) : ∀ d x : Nat, x + d = g → (∀ j, x ≤ j → j < g → ¬ b_owner j < 0) → wY_tensor_113 post J (nI s) x5 (nI e) c_cells c_slopeCount b_used b_rank b_dims b_shown b_tensorOf b_view b_exists b_kind b_first b_second b_owner b_parts b_partCount b_value b_slopeOf b_order b_slopes (d + 1) (nI x) := by
  intro d
  induction d with
  | zero =>
    intro x hx hl
    have hxg : x = g := by omega
    subst hxg
    have cx : (nI x).toNatClampNeg = x := nI_clamp (by omega)
    have hv : vp_in (nI x) 320 := vp_in_nI hg (by decide)
    have e1 : (1536 : Int32) + nI e = nI (1536 + e) := nI_add 1536 e
    have c1 : ((1536 : Int32) + nI e).toNatClampNeg = 1536 + e := by rw [e1]; exact nI_clamp (by omega)
    have cc : c_cells.toNatClampNeg = c := by rw [hcc]; exact nI_clamp (by omega)
    refine ⟨hv, br_t (by rw [cx]; exact h0) ⟨hv, fun O hO => ⟨hv, fun P hP => ⟨hv, fun V hV => nm_r (by rw [hcc, nI_1]) ⟨ab_vin hcc hc (by decide), fun R hR => ⟨ab_vin e1 (by omega) (by decide), fun S hS => nm_r (nI_1 e) ?_⟩⟩⟩⟩⟩⟩
    rw [cx, ab_vb2 (by omega)] at hO
    rw [cx, show vp_nar .byte 0 = 0 from ab_vb (n := 0) (by omega)] at hP
    rw [cx] at hV
    rw [cc, ab_vs2 (by omega)] at hR
    rw [c1, ab_vs2 (by omega)] at hS
    subst hO hP hV hR hS
    exact h
  | succ d ih =>
    intro x hx hl
    refine ⟨vp_in_nI (by omega) (by decide), br_f ?_ (nm_r (nI_1 x) (ih (x + 1) (by omega) (fun j h1 h2 => hl j (by omega) h2)))⟩
    rw [nI_clamp (by omega)]; exact hl x (by omega) (by omega)
theorem yb_tensor_s {post : Int32 → SY → Prop} {x2 x3 : Int32} {rk c s v kw : Nat} {d : Nat → Nat} {L : List Nat} (H : yb_row b_rank b_dims 24 rk d) (hc : c_cells = nI c) (hce : c + d 0 * d 1 * d 2 ≤ 320) (hs : s < 32) (hs0 : b_exists s = 0) (hsl : ∀ j, j < s → ¬ b_exists j = 0) (hv : v < 24) (hv0 : b_used v = 0) (hvl : ∀ j, j < v → ¬ b_used j = 0) (hkw : kw < 128) (hL : ∀ j, j < 320 → ¬ b_owner j < 0 → j ∈ L) (hLc : L.length = c) (h : ∀ (f : Nat → Nat) (O P V R S : Nat → Int32), yb_al b_owner b_partCount b_value b_order b_shown s c (d 0 * d 1 * d 2) f O P V R S → post (nI s) (nI (c + d 0 * d 1 * d 2), c_slopeCount, b_used, b_rank, b_dims, S, b_tensorOf, b_view, upd b_exists s 1, upd b_kind s (nI kw), upd b_first s (yb_bt x2), upd b_second s (yb_bt x3), O, b_parts, P, V, b_slopeOf, R, b_slopes)) : wpY_tensor post (c_cells, c_slopeCount, b_used, b_rank, b_dims, b_shown, b_tensorOf, b_view, b_exists, b_kind, b_first, b_second, b_owner, b_parts, b_partCount, b_value, b_slopeOf, b_order, b_slopes) (nI kw) x2 x3 := by
  have hn := ab_sz (H.2.2.2.2 0 (by omega)).2 (H.2.2.2.2 1 (by omega)).2 (H.2.2.2.2 2 (by omega)).2
  refine yb_scan (t := s) (by omega) hsl (Or.inr hs0) ?_
  refine yb_size (h := 24) (by omega) H (br_f ?_ (br_f ?_ (yb_freeHandle_s hv hv0 hvl (br_f ?_ ?_))))
  · intro z
    have := (nI_eq (a := s) (b := 32) (by omega) (by decide)).mp z
    omega
  · rw [hc, nI_add]; exact nI_nlt (a := 320) hce (by decide)
  · intro z
    have := (nI_eq (a := v) (b := 24) (by omega) (by decide)).mp z
    omega
  have hvs : vp_in (nI s) 32 := vp_in_nI hs (by decide)
  have cs : (nI s).toNatClampNeg = s := nI_clamp (by omega)
  generalize hN : d 0 * d 1 * d 2 = N at *
  refine ⟨hvs, fun E hE => ⟨hvs, fun K hK => ⟨hvs, fun F hF => ⟨hvs, fun G hG => ⟨N + 1, ?_⟩⟩⟩⟩⟩
  rw [cs, ab_b1] at hE
  rw [cs, ab_vb2 hkw] at hK
  rw [cs] at hF hG
  have L2 : ∀ q e x : Nat, ∀ (f : Nat → Nat) (O P V R S : Nat → Int32), e + q = N → (∀ j, j < x → ¬ O j < 0) → x ≤ 320 → yb_al b_owner b_partCount b_value b_order b_shown s c e f O P V R S → wY_tensor_106 post (nI s) (nI N) c_slopeCount (q + 1) (nI x) (nI e) (nI (c + e)) b_used b_rank b_dims S b_tensorOf b_view E K F G O b_parts P V b_slopeOf R b_slopes := by
    intro q
    induction q with
    | zero =>
      intro e x f O P V R S he hx hx2 A
      refine br_t (nI_le (by omega) (by omega)) ?_
      have : e = N := by omega
      subst this
      subst hE hK hF hG
      exact h f O P V R S A
    | succ q ih =>
      intro e x f O P V R S he hx hx2 A
      obtain ⟨g, g1, g2, g3, g4⟩ := yb_free hL hLc (by omega) hx A
      refine br_f (nI_ge (by omega) (by omega)) ⟨g - x + 1, yb_get hs g2 (by omega) (by omega) g3 rfl ?_ (g - x) x (by omega) (fun j _ hj => g4 j hj)⟩
      refine ih (e + 1) g (ab_fu f e g) _ _ _ _ _ (by omega) ?_ (by omega) (yb_al1 hs g2 g3 A)
      intro j hj
      rw [pk_un (by omega)]; exact g4 j hj
  rw [hc]
  exact L2 N 0 0 (fun _ => 0) b_owner b_partCount b_value b_order b_shown (by omega) (fun j hj => absurd hj (by omega)) (by omega) yb_al0
end
