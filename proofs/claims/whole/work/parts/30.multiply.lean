def mu_d (a b i : Nat) : Nat := if i = 0 then a else if i = 1 then b else 1
def mu_e (a b c i : Nat) : Nat := if i = 0 then a else if i = 1 then b else c
theorem mu_d3 {a b : Nat} (h1 : 1 ≤ a) (h2 : a ≤ 4) (h3 : 1 ≤ b) (h4 : b ≤ 4) : ab_sh3 2 (mu_d a b) := by
  refine ⟨by omega, fun i j1 j2 => ?_, fun i hi => ?_⟩
  · unfold mu_d; rw [if_neg (by omega), if_neg (by omega)]
  · unfold mu_d; split
    · omega
    · split <;> omega
theorem mu_lin {a b c i t : Nat} {g : Nat → Nat → Nat → Nat} (ha : 1 ≤ a) (hb : 1 ≤ b) (hi : i < a * b * 1) (ht : t < c) : ab_pf a b c g (i * c + t) = g (i / (b * 1) % a) (i / 1 % b) t := by
  have bk := ab_back ha hb (show 1 ≤ 1 by omega) hi
  obtain ⟨i1, i2, i3⟩ := ab_pfi (e := i) ha hb (show 1 ≤ 1 by omega)
  have e : i * c + t = (i / (b * 1) % a * b + i / 1 % b) * c + t := by
    rw [show i / (b * 1) % a * b + i / 1 % b = i by omega]
  rw [e]
  exact ab_pfl i1 i2 ht
section
variable {f_slotsTaken f_elementsTaken f_slopeCount : Int32} {a_handleTaken a_handleIsView a_windowRank a_windowSlot a_windowStart a_windowDimension a_windowStride a_slotSize a_slotKind a_slotTerms a_slotNeeded a_slotsByAge a_values a_derivatives a_firstPlaces a_secondPlaces a_assigned a_slopes : Nat → Int32}
theorem xu_multiply {post : Int32 → SX → Prop} {w p v s c m : Nat} {dd dw dp : Nat → Nat} (hw : w < 24) (hp : p < 24) (hT : ¬ a_handleTaken w = 0) (hTp : ¬ a_handleTaken p = 0) (hrw : a_windowRank w = 2) (hrp : a_windowRank p = 2) (hdw : ∀ i, i < 3 → a_windowDimension (3 * w + i) = nI (dw i)) (hdp : ∀ i, i < 3 → a_windowDimension (3 * p + i) = nI (dp i)) (hw4 : ∀ i, i < 3 → 1 ≤ dw i ∧ dw i ≤ 4) (hp4 : ∀ i, i < 3 → 1 ≤ dp i ∧ dp i ≤ 4) (hin : dp 0 = dw 1) (hdd : mu_d (dw 0) (dp 1) = dd) (hc : f_elementsTaken = nI c) (hce : c + dd 0 * dd 1 * dd 2 ≤ 320) (hm : f_slotsTaken = nI m) (hm2 : m < 32) (hs : s < 32) (hs0 : a_slotSize s = 0) (hsl : ∀ j, j < s → ¬ a_slotSize j = 0) (hv : v < 24) (hv0 : a_handleTaken v = 0) (hvl : ∀ j, j < v → ¬ a_handleTaken j = 0) (h : post (nI v) (nI (m + 1), nI (c + dd 0 * dd 1 * dd 2), f_slopeCount, upd a_handleTaken v 1, upd a_handleIsView v 0, mk_u a_windowRank v s (nI 2) 3 3, mk_u a_windowSlot v s (nI s) (a_windowSlot w) (a_windowSlot p), mk_u a_windowStart v s (nI (64 * s)) (a_windowStart w) (a_windowStart p), mk_3 a_windowDimension v s (nI (dd 0)) (nI (dd 1)) (nI (dd 2)) (nI (dw 0)) (nI (dp 1)) (nI (dw 1)) (nI (dw 0)) (nI (dp 1)) (nI (dw 1)), mk_3 a_windowStride v s (nI (ab_st 2 dd 0)) (nI (ab_st 2 dd 1)) (nI (ab_st 2 dd 2)) (a_windowStride (3 * w)) 0 (a_windowStride (3 * w + 1)) 0 (a_windowStride (3 * p + 1)) (a_windowStride (3 * p)), upd a_slotSize s (nI (dd 0 * dd 1 * dd 2)), upd a_slotKind s 2, upd a_slotTerms s (nI (dw 1)), a_slotNeeded, upd a_slotsByAge m (nI s), a_values, a_derivatives, a_firstPlaces, a_secondPlaces, a_assigned, a_slopes)) : wpX_multiply post (f_slotsTaken, f_elementsTaken, f_slopeCount, a_handleTaken, a_handleIsView, a_windowRank, a_windowSlot, a_windowStart, a_windowDimension, a_windowStride, a_slotSize, a_slotKind, a_slotTerms, a_slotNeeded, a_slotsByAge, a_values, a_derivatives, a_firstPlaces, a_secondPlaces, a_assigned, a_slopes) (nI w) (nI p) := by
  have hn : w ≠ v := fun e => hT (e ▸ hv0)
  have hnp : p ≠ v := fun e => hTp (e ▸ hv0)
  have cw : (nI w).toNatClampNeg = w := nI_clamp (by omega)
  have cp : (nI p).toNatClampNeg = p := nI_clamp (by omega)
  have b0 := hw4 0 (by omega)
  have b1 := hp4 1 (by omega)
  have b2 := hw4 1 (by omega)
  have H : ab_sh3 2 dd := hdd ▸ mu_d3 b0.1 b0.2 b1.1 b1.2
  have k0 : a_windowDimension (3 * w) = nI (dw 0) := hdw 0 (by omega)
  have k1 : a_windowDimension (3 * p) = nI (dp 0) := hdp 0 (by omega)
  have c0 : (nI w * 3).toNatClampNeg = 3 * w := by rw [ab_ix3]; exact nI_clamp (by omega)
  have c1 : (nI p * 3).toNatClampNeg = 3 * p := by rw [ab_ix3]; exact nI_clamp (by omega)
  have c2 : (nI w * 3 + 1).toNatClampNeg = 3 * w + 1 := by rw [show nI w * 3 + 1 = nI (3 * w + 1) from ab_ix (a := 1)]; exact nI_clamp (by omega)
  have c3 : (nI p * 3 + 1).toNatClampNeg = 3 * p + 1 := by rw [show nI p * 3 + 1 = nI (3 * p + 1) from ab_ix (a := 1)]; exact nI_clamp (by omega)
  have hpk : 2 + dw 0 * 2 ^ (3 + 3 * 0) + dp 1 * 2 ^ (3 + 3 * 1) = ab_pk 2 dd := by
    rw [← hdd]; simp [ab_pk, mu_d]; omega
  unfold wpX_multiply
  refine xw_isHandle_t hw hT (br_f ab_10 (xw_isHandle_t hp hTp (br_f ab_10 ⟨vp_in_nI (by omega) (by decide), br_t (by rw [cw]; exact hrw) ⟨vp_in_nI (by omega) (by decide), br_t (by rw [cp]; exact hrp) ⟨ab_vin ab_ix3 (by omega) (by decide), nm_r (e' := nI (dw 0)) (by rw [c0, k0]) ⟨ab_vin (ab_ix (a := 1)) (by omega) (by decide), nm_r (e' := nI (dw 1)) (by rw [c2]; exact hdw 1 (by omega)) ⟨ab_vin (ab_ix (a := 1)) (by omega) (by decide), nm_r (e' := nI (dp 1)) (by rw [c3]; exact hdp 1 (by omega)) ⟨ab_vin ab_ix3 (by omega) (by decide), br_t (by rw [c1, k1, hin]) (xw_packedDim (a := 0) (by omega) (by omega) (xw_packedDim (a := 1) (by omega) (by omega) (nm_r (e' := nI (ab_pk 2 dd)) ?_ ?_)))⟩⟩⟩⟩⟩⟩)))
  · rw [show (2 : Int32) + nI (dw 0 * 2 ^ (3 + 3 * 0)) = nI (2 + dw 0 * 2 ^ (3 + 3 * 0)) from nI_add 2 _, nI_add, hpk]
  refine xw_makeTensor_s H hc hce hm hm2 hs hs0 hsl hv hv0 hvl (br_f (nI_pos (by omega)) ⟨vp_in_nI (by omega) (by decide), ?_⟩)
  rw [nI_clamp (show v < 2 ^ 31 by omega), pk_us]
  refine xw_firstSource ?_
  rw [show nI (24 + 2 * s) + 1 = nI (25 + 2 * s) from by rw [nI_1]; congr 1; omega]
  refine xw_startWindow (by omega) (by omega) (xw_copyAxis (a := 0) (b := 0) (by omega) (by omega) (by omega) (by omega) ?_)
  rw [ab_u30z, ab_u30z, ab_en (by omega), ab_en (by omega), ab_en (by omega), ab_en (by omega), hdw 0 (by omega)]
  refine xw_setAxis (a := 1) (by omega) (by omega) ?_
  rw [ab_u31, ab_u31]
  refine xw_copyAxis (a := 1) (b := 2) (by omega) (by omega) (by omega) (by omega) ?_
  rw [ab_u32, ab_u32, ab_en (by omega), ab_en (by omega), ab_en (by omega), ab_en (by omega), hdw 1 (by omega)]
  refine xw_startWindow (by omega) (by omega) (xw_setAxis (a := 0) (by omega) (by omega) ?_)
  rw [ab_u30z, ab_u30z]
  refine xw_copyAxis (a := 1) (b := 1) (by omega) (by omega) (by omega) (by omega) ?_
  rw [ab_u31, ab_u31, ab_en (by omega), ab_en (by omega), ab_en (by omega), ab_en (by omega), ab_en (by omega), ab_en (by omega), hdp 1 (by omega)]
  refine xw_copyAxis (a := 0) (b := 2) (by omega) (by omega) (by omega) (by omega) ?_
  rw [ab_u32, ab_u32, ab_en (by omega), ab_en (by omega), ab_en (by omega), ab_en (by omega), ab_en (by omega), ab_en (by omega), hdp 0 (by omega), hin, pk_un (show p ≠ 24 + 2 * s by omega), pk_un (show p ≠ 24 + 2 * s by omega), pk_un hnp, pk_un hnp, pk_un hn, pk_un hn]
  exact h
theorem xu_multiply_n {post : Int32 → SX → Prop} {w p c rkw rkp : Nat} {dw dp : Nat → Nat} (hw : w < 24) (hp : p < 24) (hT : ¬ a_handleTaken w = 0) (hTp : ¬ a_handleTaken p = 0) (hrw : a_windowRank w = nI rkw) (hrp : a_windowRank p = nI rkp) (hkw : rkw ≤ 3) (hkp : rkp ≤ 3) (hdw : ∀ i, i < 3 → a_windowDimension (3 * w + i) = nI (dw i)) (hdp : ∀ i, i < 3 → a_windowDimension (3 * p + i) = nI (dp i)) (hw4 : ∀ i, i < 3 → 1 ≤ dw i ∧ dw i ≤ 4) (hp4 : ∀ i, i < 3 → 1 ≤ dp i ∧ dp i ≤ 4) (hc : f_elementsTaken = nI c) (hc2 : c ≤ 320) (hno : rkw = 2 → rkp = 2 → dp 0 = dw 1 → (∀ t, t < 32 → ¬ a_slotSize t = 0) ∨ 320 < c + mu_d (dw 0) (dp 1) 0 * mu_d (dw 0) (dp 1) 1 * mu_d (dw 0) (dp 1) 2 ∨ (∀ j, j < 24 → ¬ a_handleTaken j = 0)) (h : post (-1) (f_slotsTaken, f_elementsTaken, f_slopeCount, a_handleTaken, a_handleIsView, a_windowRank, a_windowSlot, a_windowStart, a_windowDimension, a_windowStride, a_slotSize, a_slotKind, a_slotTerms, a_slotNeeded, a_slotsByAge, a_values, a_derivatives, a_firstPlaces, a_secondPlaces, a_assigned, a_slopes)) : wpX_multiply post (f_slotsTaken, f_elementsTaken, f_slopeCount, a_handleTaken, a_handleIsView, a_windowRank, a_windowSlot, a_windowStart, a_windowDimension, a_windowStride, a_slotSize, a_slotKind, a_slotTerms, a_slotNeeded, a_slotsByAge, a_values, a_derivatives, a_firstPlaces, a_secondPlaces, a_assigned, a_slopes) (nI w) (nI p) := by
  have cw : (nI w).toNatClampNeg = w := nI_clamp (by omega)
  have cp : (nI p).toNatClampNeg = p := nI_clamp (by omega)
  have b0 := hw4 0 (by omega)
  have b1 := hp4 1 (by omega)
  have b2 := hw4 1 (by omega)
  have b3 := hp4 0 (by omega)
  have k0 : a_windowDimension (3 * w) = nI (dw 0) := hdw 0 (by omega)
  have k1 : a_windowDimension (3 * p) = nI (dp 0) := hdp 0 (by omega)
  have c0 : (nI w * 3).toNatClampNeg = 3 * w := by rw [ab_ix3]; exact nI_clamp (by omega)
  have c1 : (nI p * 3).toNatClampNeg = 3 * p := by rw [ab_ix3]; exact nI_clamp (by omega)
  have c2 : (nI w * 3 + 1).toNatClampNeg = 3 * w + 1 := by rw [show nI w * 3 + 1 = nI (3 * w + 1) from ab_ix (a := 1)]; exact nI_clamp (by omega)
  have c3 : (nI p * 3 + 1).toNatClampNeg = 3 * p + 1 := by rw [show nI p * 3 + 1 = nI (3 * p + 1) from ab_ix (a := 1)]; exact nI_clamp (by omega)
  have hpk : 2 + dw 0 * 2 ^ (3 + 3 * 0) + dp 1 * 2 ^ (3 + 3 * 1) = ab_pk 2 (mu_d (dw 0) (dp 1)) := by
    simp [ab_pk, mu_d]; omega
  unfold wpX_multiply
  refine xw_isHandle_t hw hT (br_f ab_10 (xw_isHandle_t hp hTp (br_f ab_10 ⟨vp_in_nI (by omega) (by decide), br_c (fun r1 => ⟨vp_in_nI (by omega) (by decide), br_c (fun r2 => ⟨ab_vin ab_ix3 (by omega) (by decide), nm_r (e' := nI (dw 0)) (by rw [c0, k0]) ⟨ab_vin (ab_ix (a := 1)) (by omega) (by decide), nm_r (e' := nI (dw 1)) (by rw [c2]; exact hdw 1 (by omega)) ⟨ab_vin (ab_ix (a := 1)) (by omega) (by decide), nm_r (e' := nI (dp 1)) (by rw [c3]; exact hdp 1 (by omega)) ⟨ab_vin ab_ix3 (by omega) (by decide), br_c (fun r3 => xw_packedDim (a := 0) (by omega) (by omega) (xw_packedDim (a := 1) (by omega) (by omega) (nm_r (e' := nI (ab_pk 2 (mu_d (dw 0) (dp 1)))) ?_ ?_))) (fun _ => h)⟩⟩⟩⟩) (fun _ => h)⟩) (fun _ => h)⟩)))
  · rw [show (2 : Int32) + nI (dw 0 * 2 ^ (3 + 3 * 0)) = nI (2 + dw 0 * 2 ^ (3 + 3 * 0)) from nI_add 2 _, nI_add, hpk]
  rw [cw, hrw] at r1
  rw [cp, hrp] at r2
  rw [c1, k1] at r3
  have e1 := (nI_eq (b := 2) (by omega) (by decide)).mp r1
  have e2 := (nI_eq (b := 2) (by omega) (by decide)).mp r2
  have e3 := (nI_eq (by omega) (by omega)).mp r3
  exact xw_makeTensor_n (mu_d3 b0.1 b0.2 b1.1 b1.2) hc hc2 (hno e1 e2 e3) (br_t (by decide) h)
end
