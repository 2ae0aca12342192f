theorem ab_nb {n : Nat} (h : n < 128) : (nI n).toInt8.toInt32 = nI n := lg_i2b_small (by rw [nI_toInt (by omega)]; omega) (by rw [nI_toInt (by omega)]; omega)
theorem ab_ns {n : Nat} (h : n < 32768) : (nI n).toInt16.toInt32 = nI n := lg_i2s_small (by rw [nI_toInt (by omega)]; omega) (by rw [nI_toInt (by omega)]; omega)
theorem ab_vb {n : Nat} (h : n < 128) : vp_nar .byte (nI n) = nI n := by rw [vp_nar_byte, ab_nb h]
theorem ab_vb2 {n : Nat} (h : n < 128) : vp_nar .byte (nI n).toInt8.toInt32 = nI n := by rw [pk_vb, ab_nb h]
theorem ab_vs {n : Nat} (h : n < 32768) : vp_nar .short (nI n) = nI n := by rw [vp_nar_short, ab_ns h]
theorem ab_vs2 {n : Nat} (h : n < 32768) : vp_nar .short (nI n).toInt16.toInt32 = nI n := by rw [pk_vs, ab_ns h]
theorem ab_vbm : vp_nar .byte (-1) = -1 := by rw [vp_nar_byte]; decide
theorem ab_vbm2 : vp_nar .byte (-1 : Int32).toInt8.toInt32 = -1 := by rw [pk_vb]; decide
theorem ab_b0 : vp_nar .boolean 0 = 0 := by show (0 : Int32) &&& 1 = 0; decide
theorem ab_b1 : vp_nar .boolean 1 = 1 := by show (1 : Int32) &&& 1 = 1; decide
theorem ab_10 : ¬ (1 : Int32) = 0 := by decide
theorem ab_at {α : Sort _} {P : α → Prop} {x y : α} (e : x = y) (h : P y) : P x := e ▸ h
theorem ab_vin {x : Int32} {n N : Nat} (e : x = nI n) (h : n < N) (hN : N < 2 ^ 31) : vp_in x N := by subst e; exact vp_in_nI h hN
def ab_up3 (f : Nat → Int32) (k : Nat) (a b c : Int32) : Nat → Int32 := fun j => if j = k then a else if j = k + 1 then b else if j = k + 2 then c else f j
theorem ab_u30 {f : Nat → Int32} {k : Nat} {a b c v : Int32} : upd (ab_up3 f k a b c) k v = ab_up3 f k v b c := by
  funext j; unfold upd ab_up3; by_cases h : j = k <;> simp [h]
theorem ab_u31 {f : Nat → Int32} {k : Nat} {a b c v : Int32} : upd (ab_up3 f k a b c) (k + 1) v = ab_up3 f k a v c := by
  funext j; unfold upd ab_up3
  by_cases h : j = k + 1
  · subst h; simp
  · simp [h]
theorem ab_u32 {f : Nat → Int32} {k : Nat} {a b c v : Int32} : upd (ab_up3 f k a b c) (k + 2) v = ab_up3 f k a b v := by
  funext j; unfold upd ab_up3
  by_cases h : j = k + 2
  · subst h; simp
  · simp [h]
theorem ab_u3s {f : Nat → Int32} {k : Nat} {a b c : Int32} : upd (upd (upd f k a) (k + 1) b) (k + 2) c = ab_up3 f k a b c := by
  funext j; unfold upd ab_up3
  by_cases h : j = k
  · subst h; simp
  · by_cases h1 : j = k + 1
    · subst h1; simp
    · by_cases h2 : j = k + 2 <;> simp [h, h1, h2]
theorem ab_u3r {f : Nat → Int32} {k : Nat} {a b c : Int32} : upd (upd (upd f (k + 2) c) (k + 1) b) k a = ab_up3 f k a b c := by
  funext j; unfold upd ab_up3
  by_cases h : j = k
  · subst h; simp
  · by_cases h1 : j = k + 1
    · subst h1; simp
    · by_cases h2 : j = k + 2 <;> simp [h, h1, h2]
theorem ab_e0 {f : Nat → Int32} {k : Nat} {a b c : Int32} : ab_up3 f k a b c k = a := if_pos rfl
theorem ab_e1 {f : Nat → Int32} {k : Nat} {a b c : Int32} : ab_up3 f k a b c (k + 1) = b := by unfold ab_up3; simp
theorem ab_e2 {f : Nat → Int32} {k : Nat} {a b c : Int32} : ab_up3 f k a b c (k + 2) = c := by unfold ab_up3; simp
theorem ab_en {f : Nat → Int32} {k j : Nat} {a b c : Int32} (h : j < k ∨ k + 3 ≤ j) : ab_up3 f k a b c j = f j := by
  unfold ab_up3; rw [if_neg (by omega), if_neg (by omega), if_neg (by omega)]
def ab_fu {α : Type} (f : Nat → α) (k : Nat) (v : α) : Nat → α := fun j => if j = k then v else f j
theorem ab_fus {α : Type} {f : Nat → α} {k : Nat} {v : α} : ab_fu f k v k = v := if_pos rfl
theorem ab_fun {α : Type} {f : Nat → α} {k j : Nat} {v : α} (h : j ≠ k) : ab_fu f k v j = f j := if_neg h
theorem ab_pg1 : ∀ (N : Nat) (l : List Nat), (∀ c, c < N → c ∈ l) → N ≤ l.length := by
  intro N
  induction N with
  | zero => intro l _; omega
  | succ N ih =>
    intro l h
    have hm := h N (by omega)
    have h2 := ih (l.erase N) (fun c hc => (List.mem_erase_of_ne (by omega)).mpr (h c (by omega)))
    rw [List.length_erase_of_mem hm] at h2
    have : 0 < l.length := List.length_pos_of_mem hm
    omega
theorem ab_pg2 : ∀ (N : Nat) (l : List Nat), l.Nodup → (∀ x, x ∈ l → x < N) → l.length ≤ N := by
  intro N
  induction N with
  | zero =>
    intro l _ h
    match l with
    | [] => simp
    | a :: l => exact absurd (h a (by simp)) (by omega)
  | succ N ih =>
    intro l hn h
    have h2 := ih (l.erase N) (hn.erase N) (fun x hx => by
      have := (hn.mem_erase_iff).mp hx
      have := h x this.2
      omega)
    by_cases hm : N ∈ l
    · rw [List.length_erase_of_mem hm] at h2; omega
    · rw [List.erase_of_not_mem hm] at h2; omega
def ab_pf (d0 d1 d2 : Nat) (g : Nat → Nat → Nat → Nat) (e : Nat) : Nat := g (e / (d1 * d2) % d0) (e / d2 % d1) (e % d2)
theorem ab_co2 {d1 d2 x y z : Nat} (hz : z < d2) : ((x * d1 + y) * d2 + z) % d2 = z := by
  rw [Nat.mul_comm, Nat.mul_add_mod]; exact Nat.mod_eq_of_lt hz
theorem ab_cod {d2 w z : Nat} (hz : z < d2) : (w * d2 + z) / d2 = w := by
  rw [Nat.mul_comm, Nat.mul_add_div (by omega), Nat.div_eq_of_lt hz]; omega
theorem ab_co1 {d1 d2 x y z : Nat} (hy : y < d1) (hz : z < d2) : ((x * d1 + y) * d2 + z) / d2 % d1 = y := by
  rw [ab_cod hz, Nat.mul_comm, Nat.mul_add_mod]; exact Nat.mod_eq_of_lt hy
theorem ab_co0 {d0 d1 d2 x y z : Nat} (hx : x < d0) (hy : y < d1) (hz : z < d2) : ((x * d1 + y) * d2 + z) / (d1 * d2) % d0 = x := by
  rw [Nat.mul_comm d1 d2, ← Nat.div_div_eq_div_mul, ab_cod hz, ab_cod hy]; exact Nat.mod_eq_of_lt hx
theorem ab_pfl {d0 d1 d2 x y z : Nat} {g : Nat → Nat → Nat → Nat} (hx : x < d0) (hy : y < d1) (hz : z < d2) : ab_pf d0 d1 d2 g ((x * d1 + y) * d2 + z) = g x y z := by
  unfold ab_pf; rw [ab_co0 hx hy hz, ab_co1 hy hz, ab_co2 hz]
theorem ab_lin1 {d1 x y d0 : Nat} (hx : x < d0) (hy : y < d1) : x * d1 + y < d0 * d1 := by
  have : (x + 1) * d1 ≤ d0 * d1 := Nat.mul_le_mul_right d1 hx
  rw [Nat.add_mul, Nat.one_mul] at this
  omega
theorem ab_lin {d0 d1 d2 x y z : Nat} (hx : x < d0) (hy : y < d1) (hz : z < d2) : (x * d1 + y) * d2 + z < d0 * d1 * d2 := ab_lin1 (ab_lin1 hx hy) hz
theorem ab_sz {a b c : Nat} (ha : a ≤ 4) (hb : b ≤ 4) (hc : c ≤ 4) : a * b * c ≤ 64 := by
  have h1 : a * b ≤ 4 * 4 := Nat.mul_le_mul ha hb
  exact Nat.mul_le_mul h1 hc
theorem ab_sz1 {a b c : Nat} (ha : 1 ≤ a) (hb : 1 ≤ b) (hc : 1 ≤ c) : 1 ≤ a * b * c := Nat.mul_pos (Nat.mul_pos ha hb) hc
theorem ab_pfi {d0 d1 d2 e : Nat} (h0 : 1 ≤ d0) (h1 : 1 ≤ d1) (h2 : 1 ≤ d2) : e / (d1 * d2) % d0 < d0 ∧ e / d2 % d1 < d1 ∧ e % d2 < d2 := ⟨Nat.mod_lt _ h0, Nat.mod_lt _ h1, Nat.mod_lt _ h2⟩
def ab_pl (sz : Nat → Nat) (s : Nat) : List Nat := (List.range (sz s)).map (fun i => 64 * s + i)
def ab_fl (sz : Nat → Nat) (l : List Nat) : List Nat := l.flatMap (ab_pl sz)
theorem ab_plm {sz : Nat → Nat} {s p : Nat} (h : sz s ≤ 64) : p ∈ ab_pl sz s ↔ p / 64 = s ∧ p % 64 < sz s := by
  unfold ab_pl
  rw [List.mem_map]
  constructor
  · rintro ⟨i, hi, rfl⟩
    rw [List.mem_range] at hi
    omega
  · rintro ⟨h1, h2⟩
    exact ⟨p % 64, List.mem_range.mpr h2, by omega⟩
theorem ab_flm {sz : Nat → Nat} {l : List Nat} {p : Nat} (h : ∀ s, s ∈ l → sz s ≤ 64) : p ∈ ab_fl sz l ↔ p / 64 ∈ l ∧ p % 64 < sz (p / 64) := by
  unfold ab_fl
  rw [List.mem_flatMap]
  constructor
  · rintro ⟨s, hs, hp⟩
    rw [ab_plm (h s hs)] at hp
    obtain ⟨rfl, h2⟩ := hp
    exact ⟨hs, h2⟩
  · rintro ⟨h1, h2⟩
    exact ⟨p / 64, h1, (ab_plm (h _ h1)).mpr ⟨rfl, h2⟩⟩
theorem ab_fla {sz : Nat → Nat} {l l2 : List Nat} : ab_fl sz (l ++ l2) = ab_fl sz l ++ ab_fl sz l2 := by unfold ab_fl; exact List.flatMap_append
theorem ab_flc {sz : Nat → Nat} {s : Nat} {l : List Nat} : ab_fl sz (s :: l) = ab_pl sz s ++ ab_fl sz l := by unfold ab_fl; exact List.flatMap_cons
theorem ab_fln {sz : Nat → Nat} : ab_fl sz [] = [] := rfl
theorem ab_pll {sz : Nat → Nat} {s : Nat} : (ab_pl sz s).length = sz s := by unfold ab_pl; simp
theorem ab_flg {sz sz' : Nat → Nat} {l : List Nat} (h : ∀ s, s ∈ l → sz' s = sz s) : ab_fl sz' l = ab_fl sz l := by
  induction l with
  | nil => rfl
  | cons s l ih =>
    rw [ab_flc, ab_flc, ih (fun t ht => h t (List.mem_cons_of_mem _ ht))]
    unfold ab_pl
    rw [h s (by simp)]
def ab_sm (f : Nat → Int32) : Nat → Int32
  | 0 => 0
  | n + 1 => ab_sm f n + f n
theorem ab_smg {f g : Nat → Int32} : ∀ {n : Nat}, (∀ i, i < n → f i = g i) → ab_sm f n = ab_sm g n := by
  intro n
  induction n with
  | zero => intro _; rfl
  | succ n ih => intro h; show ab_sm f n + f n = ab_sm g n + g n; rw [ih (fun i hi => h i (by omega)), h n (by omega)]
def ab_tv (k : Nat) (a b : Int32) : Int32 := if k = 0 then a + b else if k = 1 then a - b else if k = 2 then a * b else a
