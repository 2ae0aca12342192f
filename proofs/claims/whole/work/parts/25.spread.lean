theorem cb_sE {E E' : Nat → Int32} {k rk r a : Nat} {d dd : Nat → Nat} (hk : rk ≤ 3) (h : ∀ i, i < 3 → E' (k + i) = E (k + i)) : cb_s E' k rk r d dd a = cb_s E k rk r d dd a := by
  unfold cb_s
  by_cases z : a < r ∧ r ≤ a + rk ∧ d (a + rk - r) = dd a
  · rw [if_pos z, if_pos z]; exact h _ (by omega)
  · rw [if_neg z, if_neg z]
section
variable {f_slotsTaken f_elementsTaken f_slopeCount : Int32} {a_handleTaken a_handleIsView a_windowRank a_windowSlot a_windowStart a_windowDimension a_windowStride a_slotSize a_slotKind a_slotTerms a_slotNeeded a_slotsByAge a_values a_derivatives a_firstPlaces a_secondPlaces a_assigned a_slopes : Nat → Int32}
theorem xc_spread {post : SX → Prop} {w t v rk r : Nat} {d dd : Nat → Nat} (hw : w < 24) (ht : t < 88) (ht2 : 24 ≤ t) (hv : v < 24) (hk : rk ≤ r) (hr3 : r ≤ 3) (hrw : a_windowRank w = nI rk) (hrv : a_windowRank v = nI r) (hdw : ∀ i, i < 3 → a_windowDimension (3 * w + i) = nI (d i)) (hdv : ∀ i, i < 3 → a_windowDimension (3 * v + i) = nI (dd i)) (h4 : ∀ i, i < 3 → d i ≤ 4) (h5 : ∀ i, i < 3 → dd i ≤ 4) (h1 : ∀ i, r ≤ i → i < 3 → dd i = 1) (h : post (f_slotsTaken, f_elementsTaken, f_slopeCount, a_handleTaken, a_handleIsView, upd a_windowRank t (nI r), upd a_windowSlot t (a_windowSlot w), upd a_windowStart t (a_windowStart w), ab_up3 a_windowDimension (3 * t) (nI (dd 0)) (nI (dd 1)) (nI (dd 2)), ab_up3 a_windowStride (3 * t) (cb_s a_windowStride (3 * w) rk r d dd 0) (cb_s a_windowStride (3 * w) rk r d dd 1) (cb_s a_windowStride (3 * w) rk r d dd 2), a_slotSize, a_slotKind, a_slotTerms, a_slotNeeded, a_slotsByAge, a_values, a_derivatives, a_firstPlaces, a_secondPlaces, a_assigned, a_slopes)) : wpX_spreadWindow post (f_slotsTaken, f_elementsTaken, f_slopeCount, a_handleTaken, a_handleIsView, a_windowRank, a_windowSlot, a_windowStart, a_windowDimension, a_windowStride, a_slotSize, a_slotKind, a_slotTerms, a_slotNeeded, a_slotsByAge, a_values, a_derivatives, a_firstPlaces, a_secondPlaces, a_assigned, a_slopes) (nI w) (nI t) (nI v) := by
  have cv : (nI v).toNatClampNeg = v := nI_clamp (by omega)
  have cw : (nI w).toNatClampNeg = w := nI_clamp (by omega)
  have Z : ∀ a, r ≤ a → cb_s a_windowStride (3 * w) rk r d dd a = 0 := by
    intro a ha; unfold cb_s; rw [if_neg (by omega)]
  have Ew : ∀ (f : Nat → Int32) (A B C : Int32) (i : Nat), i < 3 → ab_up3 f (3 * t) A B C (3 * w + i) = f (3 * w + i) := fun f A B C i hi => ab_en (by omega)
  have Ev : ∀ (f : Nat → Int32) (A B C : Int32) (i : Nat), i < 3 → ab_up3 f (3 * t) A B C (3 * v + i) = f (3 * v + i) := fun f A B C i hi => ab_en (by omega)
  have Cs : ∀ (A B C : Int32) (a : Nat), cb_s (ab_up3 a_windowStride (3 * t) A B C) (3 * w) rk r d dd a = cb_s a_windowStride (3 * w) rk r d dd a := fun A B C a => cb_sE (by omega) (fun i hi => Ew _ _ _ _ i hi)
  refine ⟨vp_in_nI (by omega) (by decide), nm_r (e' := nI r) (by rw [cv, hrv]) ⟨vp_in_nI (by omega) (by decide), nm_r (e' := nI (r - rk)) (by rw [cw, hrw, pk_sub hk]) (xw_startWindow ht (by omega) ⟨r + 1, ?_⟩)⟩⟩
  have X : ∀ (n a : Nat) (D E : Nat → Int32), a = r → D = ab_up3 a_windowDimension (3 * t) (nI (dd 0)) (nI (dd 1)) (nI (dd 2)) → E = ab_up3 a_windowStride (3 * t) (cb_s a_windowStride (3 * w) rk r d dd 0) (cb_s a_windowStride (3 * w) rk r d dd 1) (cb_s a_windowStride (3 * w) rk r d dd 2) → wX_spreadWindow_30 post (nI w) (nI t) (nI v) (nI r) (nI (r - rk)) (n + 1) (nI a) f_slotsTaken f_elementsTaken f_slopeCount a_handleTaken a_handleIsView (upd a_windowRank t (nI r)) (upd a_windowSlot t (a_windowSlot w)) (upd a_windowStart t (a_windowStart w)) D E a_slotSize a_slotKind a_slotTerms a_slotNeeded a_slotsByAge a_values a_derivatives a_firstPlaces a_secondPlaces a_assigned a_slopes := by
    intro n a D E e1 e2 e3
    rw [e2, e3]
    exact br_t (nI_le (by omega) (by omega)) h
  have S : ∀ (n a : Nat) (A B C A' B' C' : Int32), a < r → wX_spreadWindow_30 post (nI w) (nI t) (nI v) (nI r) (nI (r - rk)) n (nI (a + 1)) f_slotsTaken f_elementsTaken f_slopeCount a_handleTaken a_handleIsView (upd a_windowRank t (nI r)) (upd a_windowSlot t (a_windowSlot w)) (upd a_windowStart t (a_windowStart w)) (upd (ab_up3 a_windowDimension (3 * t) A B C) (3 * t + a) (nI (dd a))) (upd (ab_up3 a_windowStride (3 * t) A' B' C') (3 * t + a) (cb_s a_windowStride (3 * w) rk r d dd a)) a_slotSize a_slotKind a_slotTerms a_slotNeeded a_slotsByAge a_values a_derivatives a_firstPlaces a_secondPlaces a_assigned a_slopes → wX_spreadWindow_30 post (nI w) (nI t) (nI v) (nI r) (nI (r - rk)) (n + 1) (nI a) f_slotsTaken f_elementsTaken f_slopeCount a_handleTaken a_handleIsView (upd a_windowRank t (nI r)) (upd a_windowSlot t (a_windowSlot w)) (upd a_windowStart t (a_windowStart w)) (ab_up3 a_windowDimension (3 * t) A B C) (ab_up3 a_windowStride (3 * t) A' B' C') a_slotSize a_slotKind a_slotTerms a_slotNeeded a_slotsByAge a_values a_derivatives a_firstPlaces a_secondPlaces a_assigned a_slopes := by
    intro n a A B C A' B' C' ha hn
    refine xc_sp_s (d := d) (dd := dd) hw ht hv hk hr3 ha (fun i hi => by rw [Ew _ _ _ _ i hi]; exact hdw i hi) (by rw [Ev _ _ _ _ a (by omega)]; exact hdv a (by omega)) h4 (h5 a (by omega)) ?_
    rw [Cs]
    exact hn
  rcases (show r = 0 ∨ r = 1 ∨ r = 2 ∨ r = 3 by omega) with z | z | z | z
  · have o0 := h1 0 (by omega) (by omega)
    have o1 := h1 1 (by omega) (by omega)
    have o2 := h1 2 (by omega) (by omega)
    rw [Z 0 (by omega), Z 1 (by omega), Z 2 (by omega), o0, o1, o2] at X
    rw [show r + 1 = 0 + 1 by omega]
    exact X 0 0 _ _ (by omega) rfl rfl
  · have o1 := h1 1 (by omega) (by omega)
    have o2 := h1 2 (by omega) (by omega)
    rw [Z 1 (by omega), Z 2 (by omega), o1, o2] at X
    rw [show r + 1 = 1 + 1 by omega]
    refine S 1 0 _ _ _ _ _ _ (by omega) (X 0 _ _ _ (by omega) ?_ ?_)
    · rw [ab_u30z]; rfl
    · rw [ab_u30z]
  · have o2 := h1 2 (by omega) (by omega)
    rw [Z 2 (by omega), o2] at X
    rw [show r + 1 = 2 + 1 by omega]
    refine S 2 0 _ _ _ _ _ _ (by omega) ?_
    rw [ab_u30z, ab_u30z]
    refine S 1 1 _ _ _ _ _ _ (by omega) (X 0 _ _ _ (by omega) ?_ ?_)
    · rw [ab_u31]; rfl
    · rw [ab_u31]
  · rw [show r + 1 = 3 + 1 by omega]
    refine S 3 0 _ _ _ _ _ _ (by omega) ?_
    rw [ab_u30z, ab_u30z]
    refine S 2 1 _ _ _ _ _ _ (by omega) ?_
    rw [ab_u31, ab_u31]
    refine S 1 2 _ _ _ _ _ _ (by omega) (X 0 _ _ _ (by omega) ?_ ?_)
    · rw [ab_u32]
    · rw [ab_u32]
theorem xc_combine {post : Int32 → SX → Prop} {w p v s r c m op rkw rkp : Nat} {dd dw dp : Nat → Nat} (hop : op ≤ 2) (hw : w < 24) (hp : p < 24) (hT : ¬ a_handleTaken w = 0) (hTp : ¬ a_handleTaken p = 0) (hrw : a_windowRank w = nI rkw) (hrp : a_windowRank p = nI rkp) (hr : r = if rkw ≤ rkp then rkp else rkw) (hr3 : r ≤ 3) (hdw : ∀ i, i < 3 → a_windowDimension (3 * w + i) = nI (dw i)) (hdp : ∀ i, i < 3 → a_windowDimension (3 * p + i) = nI (dp i)) (hw4 : ∀ i, i < 3 → dw i ≤ 4) (hp4 : ∀ i, i < 3 → dp i ≤ 4) (h4 : ∀ a, a < r → cb_a rkw r dw a ≤ 4) (h5 : ∀ a, a < r → cb_a rkp r dp a ≤ 4) (hfit : cb_fit r (cb_a rkw r dw) (cb_a rkp r dp)) (hdd : cb_d r (cb_a rkw r dw) (cb_a rkp r dp) = dd) (H : ab_sh3 r dd) (hc : f_elementsTaken = nI c) (hce : c + dd 0 * dd 1 * dd 2 ≤ 320) (hm : f_slotsTaken = nI m) (hm2 : m < 32) (hs : s < 32) (hs0 : a_slotSize s = 0) (hsl : ∀ j, j < s → ¬ a_slotSize j = 0) (hv : v < 24) (hv0 : a_handleTaken v = 0) (hvl : ∀ j, j < v → ¬ a_handleTaken j = 0) (h : post (nI v) (nI (m + 1), nI (c + dd 0 * dd 1 * dd 2), f_slopeCount, upd a_handleTaken v 1, upd a_handleIsView v 0, mk_u a_windowRank v s (nI r) (nI r) (nI r), mk_u a_windowSlot v s (nI s) (a_windowSlot w) (a_windowSlot p), mk_u a_windowStart v s (nI (64 * s)) (a_windowStart w) (a_windowStart p), mk_3 a_windowDimension v s (nI (dd 0)) (nI (dd 1)) (nI (dd 2)) (nI (dd 0)) (nI (dd 1)) (nI (dd 2)) (nI (dd 0)) (nI (dd 1)) (nI (dd 2)), mk_3 a_windowStride v s (nI (ab_st r dd 0)) (nI (ab_st r dd 1)) (nI (ab_st r dd 2)) (cb_s a_windowStride (3 * w) rkw r dw dd 0) (cb_s a_windowStride (3 * w) rkw r dw dd 1) (cb_s a_windowStride (3 * w) rkw r dw dd 2) (cb_s a_windowStride (3 * p) rkp r dp dd 0) (cb_s a_windowStride (3 * p) rkp r dp dd 1) (cb_s a_windowStride (3 * p) rkp r dp dd 2), upd a_slotSize s (nI (dd 0 * dd 1 * dd 2)), upd a_slotKind s (nI op), upd a_slotTerms s 1, a_slotNeeded, upd a_slotsByAge m (nI s), a_values, a_derivatives, a_firstPlaces, a_secondPlaces, a_assigned, a_slopes)) : wpX_combine post (f_slotsTaken, f_elementsTaken, f_slopeCount, a_handleTaken, a_handleIsView, a_windowRank, a_windowSlot, a_windowStart, a_windowDimension, a_windowStride, a_slotSize, a_slotKind, a_slotTerms, a_slotNeeded, a_slotsByAge, a_values, a_derivatives, a_firstPlaces, a_secondPlaces, a_assigned, a_slopes) (nI op) (nI w) (nI p) := by
  have hn : w ≠ v := fun e => hT (e ▸ hv0)
  have hnp : p ≠ v := fun e => hTp (e ▸ hv0)
  have hkw : rkw ≤ r := by rw [hr]; split <;> omega
  have hkp : rkp ≤ r := by rw [hr]; split <;> omega
  unfold wpX_combine
  refine br_f (nI_pos (by omega)) (br_f (nI_nlt (a := 2) hop (by decide)) (xw_isHandle_t hw hT (br_f ab_10 (xw_isHandle_t hp hTp (br_f ab_10 (xc_common hw hp hrw hrp hr hr3 hdw hdp h4 h5 (fun _ => br_t (nI_pos' (by have := (ab_pkf H).1; rw [hdd]; omega)) ?_) (fun z => absurd hfit z)))))))
  rw [hdd]
  refine xw_makeTensor_s H hc hce hm hm2 hs hs0 hsl hv hv0 hvl (br_f (nI_pos (by omega)) ⟨vp_in_nI (by omega) (by decide), ?_⟩)
  rw [nI_clamp (by omega), pk_us]
  have b5 : ∀ i, i < 3 → dd i ≤ 4 := fun i hi => (H.2.2 i hi).2
  refine xw_firstSource (xc_spread (rk := rkw) (r := r) (d := dw) (dd := dd) hw (by omega) (by omega) hv hkw hr3 (by rw [pk_un hn]; exact hrw) pk_us (fun i hi => by rw [ab_en (by omega)]; exact hdw i hi) (fun i hi => ?_) hw4 b5 H.2.1 ?_)
  · rcases (show i = 0 ∨ i = 1 ∨ i = 2 by omega) with rfl | rfl | rfl
    · exact ab_e0
    · exact ab_e1
    · exact ab_e2
  rw [show nI (24 + 2 * s) + 1 = nI (25 + 2 * s) from by rw [nI_1]; congr 1; omega]
  refine xc_spread (rk := rkp) (r := r) (d := dp) (dd := dd) hp (by omega) (by omega) hv hkp hr3 (by rw [pk_un (by omega), pk_un hnp]; exact hrp) (by rw [pk_un (by omega)]; exact pk_us) (fun i hi => by rw [ab_en (by omega), ab_en (by omega)]; exact hdp i hi) (fun i hi => ?_) hp4 b5 H.2.1 ?_
  · rw [ab_en (by omega)]
    rcases (show i = 0 ∨ i = 1 ∨ i = 2 by omega) with rfl | rfl | rfl
    · exact ab_e0
    · exact ab_e1
    · exact ab_e2
  have C1 : ∀ (A B C : Int32) (a : Nat), cb_s (ab_up3 a_windowStride (3 * v) A B C) (3 * w) rkw r dw dd a = cb_s a_windowStride (3 * w) rkw r dw dd a := fun A B C a => cb_sE (by omega) (fun i hi => ab_en (by omega))
  have C2 : ∀ (A B C A' B' C' : Int32) (a : Nat), cb_s (ab_up3 (ab_up3 a_windowStride (3 * v) A B C) (3 * (24 + 2 * s)) A' B' C') (3 * p) rkp r dp dd a = cb_s a_windowStride (3 * p) rkp r dp dd a := fun A B C A' B' C' a => cb_sE (by omega) (fun i hi => by rw [ab_en (by omega), ab_en (by omega)])
  rw [C2, C2, C2, C1, C1, C1, pk_un (show p ≠ 24 + 2 * s by omega), pk_un (show p ≠ 24 + 2 * s by omega), pk_un hnp, pk_un hnp, pk_un hn, pk_un hn]
  exact h
theorem xc_combine_n {post : Int32 → SX → Prop} {w p r c op rkw rkp : Nat} {dw dp : Nat → Nat} (hop : op ≤ 2) (hw : w < 24) (hp : p < 24) (hT : ¬ a_handleTaken w = 0) (hTp : ¬ a_handleTaken p = 0) (hrw : a_windowRank w = nI rkw) (hrp : a_windowRank p = nI rkp) (hr : r = if rkw ≤ rkp then rkp else rkw) (hr3 : r ≤ 3) (hdw : ∀ i, i < 3 → a_windowDimension (3 * w + i) = nI (dw i)) (hdp : ∀ i, i < 3 → a_windowDimension (3 * p + i) = nI (dp i)) (h4 : ∀ a, a < r → cb_a rkw r dw a ≤ 4) (h5 : ∀ a, a < r → cb_a rkp r dp a ≤ 4) (H : ab_sh3 r (cb_d r (cb_a rkw r dw) (cb_a rkp r dp))) (hc : f_elementsTaken = nI c) (hc2 : c ≤ 320) (hno : cb_fit r (cb_a rkw r dw) (cb_a rkp r dp) → (∀ t, t < 32 → ¬ a_slotSize t = 0) ∨ 320 < c + cb_d r (cb_a rkw r dw) (cb_a rkp r dp) 0 * cb_d r (cb_a rkw r dw) (cb_a rkp r dp) 1 * cb_d r (cb_a rkw r dw) (cb_a rkp r dp) 2 ∨ (∀ j, j < 24 → ¬ a_handleTaken j = 0)) (h : post (-1) (f_slotsTaken, f_elementsTaken, f_slopeCount, a_handleTaken, a_handleIsView, a_windowRank, a_windowSlot, a_windowStart, a_windowDimension, a_windowStride, a_slotSize, a_slotKind, a_slotTerms, a_slotNeeded, a_slotsByAge, a_values, a_derivatives, a_firstPlaces, a_secondPlaces, a_assigned, a_slopes)) : wpX_combine post (f_slotsTaken, f_elementsTaken, f_slopeCount, a_handleTaken, a_handleIsView, a_windowRank, a_windowSlot, a_windowStart, a_windowDimension, a_windowStride, a_slotSize, a_slotKind, a_slotTerms, a_slotNeeded, a_slotsByAge, a_values, a_derivatives, a_firstPlaces, a_secondPlaces, a_assigned, a_slopes) (nI op) (nI w) (nI p) := by
  unfold wpX_combine
  refine br_f (nI_pos (by omega)) (br_f (nI_nlt (a := 2) hop (by decide)) (xw_isHandle_t hw hT (br_f ab_10 (xw_isHandle_t hp hTp (br_f ab_10 (xc_common hw hp hrw hrp hr hr3 hdw hdp h4 h5 (fun z => br_t (nI_pos' (by have := (ab_pkf H).1; omega)) ?_) (fun z => br_f (by decide) h)))))))
  exact xw_makeTensor_n H hc hc2 (hno z) (br_t (by decide) h)
end
