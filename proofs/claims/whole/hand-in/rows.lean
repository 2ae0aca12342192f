section
theorem pk_us {f : Nat → Int32} {k : Nat} {x : Int32} : upd f k x k = x := if_pos rfl
theorem pk_un {f : Nat → Int32} {k j : Nat} {x : Int32} (h : j ≠ k) : upd f k x j = f j := if_neg h
theorem pk_sub {a b : Nat} (h : b ≤ a) : nI a - nI b = nI (a - b) := by
  obtain ⟨c, rfl⟩ : ∃ c, a = c + b := ⟨a - b, by omega⟩
  rw [← nI_add, Int32.add_sub_cancel, Nat.add_sub_cancel]
theorem pk_m1 (n : Nat) : nI (n + 1) + (-1) = nI n := by
  rw [← nI_1, Int32.add_assoc, show (1 : Int32) + (-1) = 0 from rfl, Int32.add_zero]
theorem pk_mul (a b : Nat) : nI a * nI b = nI (a * b) := (Int32.ofNat_mul a b).symm
theorem pk_div {a d : Nat} (ha : a < 2 ^ 31) (h0 : 0 < d) (hd : d < 2 ^ 31) : nI a / nI d = nI (a / d) := by
  apply Int32.toInt_inj.mp
  rw [lg_idiv_nonneg (by rw [nI_toInt ha]; omega) (by rw [nI_toInt hd]; omega), nI_toInt ha, nI_toInt hd, nI_toInt (Nat.lt_of_le_of_lt (Nat.div_le_self a d) ha)]
  first | rfl | exact (Int.natCast_ediv _ _).symm
theorem pk_rem {a d : Nat} (ha : a < 2 ^ 31) (h0 : 0 < d) (hd : d < 2 ^ 31) : nI a - nI a / nI d * nI d = nI (a % d) := by
  rw [pk_div ha h0 hd, pk_mul, pk_sub (Nat.div_mul_le_self a d)]
  exact congrArg nI (by have := Nat.div_add_mod' a d; omega)
theorem pk_sub_toInt {a b : Nat} (ha : a < 2 ^ 30) (hb : b < 2 ^ 30) : (nI a - nI b).toInt = (a : Int) - b := by
  rw [Int32.toInt_sub, nI_toInt (by omega), nI_toInt (by omega)]
  exact Int.bmod_eq_of_le (by omega) (by omega)
theorem pk_sneg {a b : Nat} (hb : b < 2 ^ 30) (h : a < b) : nI a - nI b < 0 := by
  rw [Int32.lt_iff_toInt_lt, pk_sub_toInt (by omega) hb, show (0 : Int32).toInt = 0 from by decide]
  omega
theorem pk_ix (x : Int32) {n : Nat} (hn : n < 2 ^ 31) : x < 0 ∨ nI n ≤ x ∨ ∃ j : Nat, j < n ∧ x = nI j := by
  by_cases h : x < 0
  · exact Or.inl h
  · obtain ⟨j, hj, rfl⟩ := nI_of h
    by_cases h2 : j < n
    · exact Or.inr (Or.inr ⟨j, h2, rfl⟩)
    · exact Or.inr (Or.inl (nI_le (by omega) hj))
theorem pk_le {x y : Int32} {A B : Prop} (a b : Nat) (f : a ≤ b → A) (g : b < a → B) (hx : x = nI a := by rfl) (hy : y = nI b := by rfl) (ha : a < 2 ^ 31 := by omega) (hb : b < 2 ^ 31 := by omega) : (x ≤ y → A) ∧ (¬ x ≤ y → B) := by
  subst hx hy
  rw [nI_leI ha hb]
  exact ⟨f, fun z => g (by omega)⟩
theorem pk_lt {x y : Int32} {A B : Prop} (a b : Nat) (f : a < b → A) (g : b ≤ a → B) (hx : x = nI a := by rfl) (hy : y = nI b := by rfl) (ha : a < 2 ^ 31 := by omega) (hb : b < 2 ^ 31 := by omega) : (x < y → A) ∧ (¬ x < y → B) := by
  subst hx hy
  rw [nI_ltI ha hb]
  exact ⟨f, fun z => g (by omega)⟩
theorem pk_eq {x y : Int32} {A B : Prop} (a b : Nat) (f : a = b → A) (g : a ≠ b → B) (hx : x = nI a := by rfl) (hy : y = nI b := by rfl) (ha : a < 2 ^ 31 := by omega) (hb : b < 2 ^ 31 := by omega) : (x = y → A) ∧ (¬ x = y → B) := by
  subst hx hy
  rw [nI_eq ha hb]
  exact ⟨f, g⟩
theorem pk_in {x : Int32} (n N : Nat) (h : n < N) (hx : x = nI n := by rfl) (hN : N < 2 ^ 31 := by omega) : vp_in x N := by
  subst hx
  exact vp_in_nI h hN
theorem pk_cl {x : Int32} (n : Nat) (hx : x = nI n := by rfl) (h : n < 2 ^ 31 := by omega) : x.toNatClampNeg = n := by
  subst hx
  exact nI_clamp h
theorem pk_tn {n : Nat} (h : n < 2 ^ 32) : (nI n).toBitVec.toNat = n := Nat.mod_eq_of_lt h
theorem pk_and (x : Int32) {m : Int32} (k : Nat) (hm : m.toBitVec.toNat = 2 ^ k - 1) : x &&& m = nI (x.toBitVec.toNat % 2 ^ k) := by
  apply Int32.toBitVec_inj.mp
  apply BitVec.eq_of_toNat_eq
  rw [Int32.toBitVec_and, BitVec.toNat_and, hm, Nat.and_two_pow_sub_one_eq_mod]
  show _ = (BitVec.ofNat 32 _).toNat
  rw [BitVec.toNat_ofNat]
  exact (Nat.mod_eq_of_lt (Nat.lt_of_le_of_lt (Nat.mod_le _ _) x.toBitVec.isLt)).symm
theorem pk_andN {n : Nat} (h : n < 2 ^ 32) {m : Int32} (k : Nat) (hm : m.toBitVec.toNat = 2 ^ k - 1) : nI n &&& m = nI (n % 2 ^ k) := by
  rw [pk_and _ k hm, pk_tn h]
theorem pk_shl (a s : Int32) (k : Nat) (hs : (s.toBitVec.smod 32).toNat = k) : (a <<< s).toBitVec.toNat = a.toBitVec.toNat * 2 ^ k % 2 ^ 32 := by
  show (a.toBitVec <<< (s.toBitVec.smod 32).toNat).toNat = _
  rw [hs, BitVec.toNat_shiftLeft, Nat.shiftLeft_eq]
theorem pk_shlN {n : Nat} (s : Int32) (k : Nat) (hs : (s.toBitVec.smod 32).toNat = k) (h : n * 2 ^ k < 2 ^ 32) : nI n <<< s = nI (n * 2 ^ k) := by
  apply Int32.toBitVec_inj.mp
  apply BitVec.eq_of_toNat_eq
  have hn : n < 2 ^ 32 := Nat.lt_of_le_of_lt (Nat.le_mul_of_pos_right n (Nat.two_pow_pos k)) h
  rw [pk_shl _ _ k hs, pk_tn hn, pk_tn h, Nat.mod_eq_of_lt h]
theorem pk_shr (a s : Int32) (k : Nat) (hs : (s.toBitVec.smod 32).toNat = k) : (a >>> s).toInt = a.toInt >>> k := by
  show (a.toBitVec.sshiftRight (s.toBitVec.smod 32).toNat).toInt = _
  rw [hs, BitVec.toInt_sshiftRight]
  rfl
theorem pk_shrN {n : Nat} (h : n < 2 ^ 31) (s : Int32) (k : Nat) (hs : (s.toBitVec.smod 32).toNat = k) : nI n >>> s = nI (n / 2 ^ k) := by
  apply Int32.toInt_inj.mp
  have h2 : n / 2 ^ k ≤ n := Nat.div_le_self _ _
  rw [pk_shr _ _ k hs, nI_toInt h, nI_toInt (by omega), Int.shiftRight_eq_div_pow]
  rfl
theorem pk_vb (z : Int32) : vp_nar .byte z.toInt8.toInt32 = z.toInt8.toInt32 := by rw [vp_nar_byte]; simp
theorem pk_vs (z : Int32) : vp_nar .short z.toInt16.toInt32 = z.toInt16.toInt32 := by rw [vp_nar_short]; simp
theorem pk_loop {σ : Type} (W : Nat → Nat → σ → Prop) (I : Nat → σ → Prop) (e i0 : Nat) (s : σ) (hi : i0 ≤ e) (h0 : I i0 s) (hx : ∀ n s, I e s → W (n + 1) e s)
    (hs : ∀ n i s, i < e → I i s → (∀ s', I (i + 1) s' → W n (i + 1) s') → W (n + 1) i s) : ∃ n, W n i0 s :=
  ⟨e + 1, loop_i W I e hx hs (e + 1) i0 s hi (by omega) h0⟩
theorem pk_loopD {σ : Type} (W : Nat → Nat → σ → Prop) (I : Nat → σ → Prop) (hx : ∀ n s, I 0 s → W (n + 1) 0 s)
    (hs : ∀ n i s, I (i + 1) s → (∀ s', I i s' → W n i s') → W (n + 1) (i + 1) s) : ∀ (e : Nat) (s : σ), I e s → W (e + 1) e s := by
  intro e
  induction e with
  | zero => exact fun s h => hx 0 s h
  | succ e ih => exact fun s h => hs (e + 1) e s h (fun s' h' => ih s' h')
theorem pk_least (P : Nat → Prop) (h : ∃ k, P k) : ∃ k, P k ∧ ∀ j, j < k → ¬ P j := by
  obtain ⟨k, hk⟩ := h
  induction k using Nat.strongRecOn with
  | ind k ih =>
    by_cases e : ∃ j, j < k ∧ P j
    · obtain ⟨j, hj, pj⟩ := e
      exact ih j hj pj
    · exact ⟨k, hk, fun j hj pj => e ⟨j, hj, pj⟩⟩
end
section
theorem ab_nb {n : Nat} (h : n < 128) : (nI n).toInt8.toInt32 = nI n := lg_i2b_small (by rw [nI_toInt (by omega)]; omega) (by rw [nI_toInt (by omega)]; omega)
theorem ab_ns {n : Nat} (h : n < 32768) : (nI n).toInt16.toInt32 = nI n := lg_i2s_small (by rw [nI_toInt (by omega)]; omega) (by rw [nI_toInt (by omega)]; omega)
theorem ab_vb {n : Nat} (h : n < 128) : vp_nar .byte (nI n) = nI n := by rw [vp_nar_byte, ab_nb h]
theorem ab_vb2 {n : Nat} (h : n < 128) : vp_nar .byte (nI n).toInt8.toInt32 = nI n := by rw [pk_vb, ab_nb h]
theorem ab_vs {n : Nat} (h : n < 32768) : vp_nar .short (nI n) = nI n := by rw [vp_nar_short, ab_ns h]
theorem ab_vs2 {n : Nat} (h : n < 32768) : vp_nar .short (nI n).toInt16.toInt32 = nI n := by rw [pk_vs, ab_ns h]
theorem ab_vbm : vp_nar .byte (-1) = -1 := by rw [vp_nar_byte]; decide
theorem ab_vbm2 : vp_nar .byte (-1 : Int32).toInt8.toInt32 = -1 := by rw [pk_vb]; decide
theorem ab_b0 : vp_nar .boolean 0 = 0 := by show (0 : Int32) &&& 1 = 0; decide
theorem ab_b1 : vp_nar .boolean 1 = 1 := by show (1 : Int32) &&& 1 = 1; decide
theorem ab_10 : ¬ (1 : Int32) = 0 := by decide
theorem ab_at {α : Sort _} {P : α → Prop} {x y : α} (e : x = y) (h : P y) : P x := e ▸ h
theorem ab_vin {x : Int32} {n N : Nat} (e : x = nI n) (h : n < N) (hN : N < 2 ^ 31) : vp_in x N := by subst e; exact vp_in_nI h hN
def ab_up3 (f : Nat → Int32) (k : Nat) (a b c : Int32) : Nat → Int32 := fun j => if j = k then a else if j = k + 1 then b else if j = k + 2 then c else f j
theorem ab_u30 {f : Nat → Int32} {k : Nat} {a b c v : Int32} : upd (ab_up3 f k a b c) k v = ab_up3 f k v b c := by
  funext j; unfold upd ab_up3; by_cases h : j = k <;> simp [h]
theorem ab_u31 {f : Nat → Int32} {k : Nat} {a b c v : Int32} : upd (ab_up3 f k a b c) (k + 1) v = ab_up3 f k a v c := by
  funext j; unfold upd ab_up3
  by_cases h : j = k + 1
  · subst h; simp
  · simp [h]
theorem ab_u32 {f : Nat → Int32} {k : Nat} {a b c v : Int32} : upd (ab_up3 f k a b c) (k + 2) v = ab_up3 f k a b v := by
  funext j; unfold upd ab_up3
  by_cases h : j = k + 2
  · subst h; simp
  · simp [h]
theorem ab_u3s {f : Nat → Int32} {k : Nat} {a b c : Int32} : upd (upd (upd f k a) (k + 1) b) (k + 2) c = ab_up3 f k a b c := by
  funext j; unfold upd ab_up3
  by_cases h : j = k
  · subst h; simp
  · by_cases h1 : j = k + 1
    · subst h1; simp
    · by_cases h2 : j = k + 2 <;> simp [h, h1, h2]
theorem ab_u3r {f : Nat → Int32} {k : Nat} {a b c : Int32} : upd (upd (upd f (k + 2) c) (k + 1) b) k a = ab_up3 f k a b c := by
  funext j; unfold upd ab_up3
  by_cases h : j = k
  · subst h; simp
  · by_cases h1 : j = k + 1
    · subst h1; simp
    · by_cases h2 : j = k + 2 <;> simp [h, h1, h2]
theorem ab_e0 {f : Nat → Int32} {k : Nat} {a b c : Int32} : ab_up3 f k a b c k = a := if_pos rfl
theorem ab_e1 {f : Nat → Int32} {k : Nat} {a b c : Int32} : ab_up3 f k a b c (k + 1) = b := by unfold ab_up3; simp
theorem ab_e2 {f : Nat → Int32} {k : Nat} {a b c : Int32} : ab_up3 f k a b c (k + 2) = c := by unfold ab_up3; simp
theorem ab_en {f : Nat → Int32} {k j : Nat} {a b c : Int32} (h : j < k ∨ k + 3 ≤ j) : ab_up3 f k a b c j = f j := by
  unfold ab_up3; rw [if_neg (by omega), if_neg (by omega), if_neg (by omega)]
def ab_fu {α : Type} (f : Nat → α) (k : Nat) (v : α) : Nat → α := fun j => if j = k then v else f j
theorem ab_fus {α : Type} {f : Nat → α} {k : Nat} {v : α} : ab_fu f k v k = v := if_pos rfl
theorem ab_fun {α : Type} {f : Nat → α} {k j : Nat} {v : α} (h : j ≠ k) : ab_fu f k v j = f j := if_neg h
theorem ab_pg1 : ∀ (N : Nat) (l : List Nat), (∀ c, c < N → c ∈ l) → N ≤ l.length := by
  intro N
  induction N with
  | zero => intro l _; omega
  | succ N ih =>
    intro l h
    have hm := h N (by omega)
    have h2 := ih (l.erase N) (fun c hc => (List.mem_erase_of_ne (by omega)).mpr (h c (by omega)))
    rw [List.length_erase_of_mem hm] at h2
    have : 0 < l.length := List.length_pos_of_mem hm
    omega
theorem ab_pg2 : ∀ (N : Nat) (l : List Nat), l.Nodup → (∀ x, x ∈ l → x < N) → l.length ≤ N := by
  intro N
  induction N with
  | zero =>
    intro l _ h
    match l with
    | [] => simp
    | a :: l => exact absurd (h a (by simp)) (by omega)
  | succ N ih =>
    intro l hn h
    have h2 := ih (l.erase N) (hn.erase N) (fun x hx => by
      have := (hn.mem_erase_iff).mp hx
      have := h x this.2
      omega)
    by_cases hm : N ∈ l
    · rw [List.length_erase_of_mem hm] at h2; omega
    · rw [List.erase_of_not_mem hm] at h2; omega
def ab_pf (d0 d1 d2 : Nat) (g : Nat → Nat → Nat → Nat) (e : Nat) : Nat := g (e / (d1 * d2) % d0) (e / d2 % d1) (e % d2)
theorem ab_co2 {d1 d2 x y z : Nat} (hz : z < d2) : ((x * d1 + y) * d2 + z) % d2 = z := by
  rw [Nat.mul_comm, Nat.mul_add_mod]; exact Nat.mod_eq_of_lt hz
theorem ab_cod {d2 w z : Nat} (hz : z < d2) : (w * d2 + z) / d2 = w := by
  rw [Nat.mul_comm, Nat.mul_add_div (by omega), Nat.div_eq_of_lt hz]; omega
theorem ab_co1 {d1 d2 x y z : Nat} (hy : y < d1) (hz : z < d2) : ((x * d1 + y) * d2 + z) / d2 % d1 = y := by
  rw [ab_cod hz, Nat.mul_comm, Nat.mul_add_mod]; exact Nat.mod_eq_of_lt hy
theorem ab_co0 {d0 d1 d2 x y z : Nat} (hx : x < d0) (hy : y < d1) (hz : z < d2) : ((x * d1 + y) * d2 + z) / (d1 * d2) % d0 = x := by
  rw [Nat.mul_comm d1 d2, ← Nat.div_div_eq_div_mul, ab_cod hz, ab_cod hy]; exact Nat.mod_eq_of_lt hx
theorem ab_pfl {d0 d1 d2 x y z : Nat} {g : Nat → Nat → Nat → Nat} (hx : x < d0) (hy : y < d1) (hz : z < d2) : ab_pf d0 d1 d2 g ((x * d1 + y) * d2 + z) = g x y z := by
  unfold ab_pf; rw [ab_co0 hx hy hz, ab_co1 hy hz, ab_co2 hz]
theorem ab_lin1 {d1 x y d0 : Nat} (hx : x < d0) (hy : y < d1) : x * d1 + y < d0 * d1 := by
  have : (x + 1) * d1 ≤ d0 * d1 := Nat.mul_le_mul_right d1 hx
  rw [Nat.add_mul, Nat.one_mul] at this
  omega
theorem ab_lin {d0 d1 d2 x y z : Nat} (hx : x < d0) (hy : y < d1) (hz : z < d2) : (x * d1 + y) * d2 + z < d0 * d1 * d2 := ab_lin1 (ab_lin1 hx hy) hz
theorem ab_sz {a b c : Nat} (ha : a ≤ 4) (hb : b ≤ 4) (hc : c ≤ 4) : a * b * c ≤ 64 := by
  have h1 : a * b ≤ 4 * 4 := Nat.mul_le_mul ha hb
  exact Nat.mul_le_mul h1 hc
theorem ab_sz1 {a b c : Nat} (ha : 1 ≤ a) (hb : 1 ≤ b) (hc : 1 ≤ c) : 1 ≤ a * b * c := Nat.mul_pos (Nat.mul_pos ha hb) hc
theorem ab_pfi {d0 d1 d2 e : Nat} (h0 : 1 ≤ d0) (h1 : 1 ≤ d1) (h2 : 1 ≤ d2) : e / (d1 * d2) % d0 < d0 ∧ e / d2 % d1 < d1 ∧ e % d2 < d2 := ⟨Nat.mod_lt _ h0, Nat.mod_lt _ h1, Nat.mod_lt _ h2⟩
def ab_pl (sz : Nat → Nat) (s : Nat) : List Nat := (List.range (sz s)).map (fun i => 64 * s + i)
def ab_fl (sz : Nat → Nat) (l : List Nat) : List Nat := l.flatMap (ab_pl sz)
theorem ab_plm {sz : Nat → Nat} {s p : Nat} (h : sz s ≤ 64) : p ∈ ab_pl sz s ↔ p / 64 = s ∧ p % 64 < sz s := by
  unfold ab_pl
  rw [List.mem_map]
  constructor
  · rintro ⟨i, hi, rfl⟩
    rw [List.mem_range] at hi
    omega
  · rintro ⟨h1, h2⟩
    exact ⟨p % 64, List.mem_range.mpr h2, by omega⟩
theorem ab_flm {sz : Nat → Nat} {l : List Nat} {p : Nat} (h : ∀ s, s ∈ l → sz s ≤ 64) : p ∈ ab_fl sz l ↔ p / 64 ∈ l ∧ p % 64 < sz (p / 64) := by
  unfold ab_fl
  rw [List.mem_flatMap]
  constructor
  · rintro ⟨s, hs, hp⟩
    rw [ab_plm (h s hs)] at hp
    obtain ⟨rfl, h2⟩ := hp
    exact ⟨hs, h2⟩
  · rintro ⟨h1, h2⟩
    exact ⟨p / 64, h1, (ab_plm (h _ h1)).mpr ⟨rfl, h2⟩⟩
theorem ab_fla {sz : Nat → Nat} {l l2 : List Nat} : ab_fl sz (l ++ l2) = ab_fl sz l ++ ab_fl sz l2 := by unfold ab_fl; exact List.flatMap_append
theorem ab_flc {sz : Nat → Nat} {s : Nat} {l : List Nat} : ab_fl sz (s :: l) = ab_pl sz s ++ ab_fl sz l := by unfold ab_fl; exact List.flatMap_cons
theorem ab_fln {sz : Nat → Nat} : ab_fl sz [] = [] := rfl
theorem ab_pll {sz : Nat → Nat} {s : Nat} : (ab_pl sz s).length = sz s := by unfold ab_pl; simp
theorem ab_flg {sz sz' : Nat → Nat} {l : List Nat} (h : ∀ s, s ∈ l → sz' s = sz s) : ab_fl sz' l = ab_fl sz l := by
  induction l with
  | nil => rfl
  | cons s l ih =>
    rw [ab_flc, ab_flc, ih (fun t ht => h t (List.mem_cons_of_mem _ ht))]
    unfold ab_pl
    rw [h s (by simp)]
def ab_sm (f : Nat → Int32) : Nat → Int32
  | 0 => 0
  | n + 1 => ab_sm f n + f n
theorem ab_smg {f g : Nat → Int32} : ∀ {n : Nat}, (∀ i, i < n → f i = g i) → ab_sm f n = ab_sm g n := by
  intro n
  induction n with
  | zero => intro _; rfl
  | succ n ih => intro h; show ab_sm f n + f n = ab_sm g n + g n; rw [ih (fun i hi => h i (by omega)), h n (by omega)]
def ab_tv (k : Nat) (a b : Int32) : Int32 := if k = 0 then a + b else if k = 1 then a - b else if k = 2 then a * b else a
end
section
theorem ab_ix {w a : Nat} : nI w * 3 + nI a = nI (3 * w + a) := by
  show nI w * nI 3 + nI a = _
  rw [pk_mul, nI_add, Nat.mul_comm]
theorem ab_ix3 {w : Nat} : nI w * 3 = nI (3 * w) := by
  show nI w * nI 3 = _
  rw [pk_mul, Nat.mul_comm]
def ab_isH (T : Nat → Int32) (x : Int32) : Prop := ∃ h, h < 24 ∧ x = nI h ∧ ¬ T h = 0
theorem ab_lst (T : Nat → Int32) : ∀ N : Nat, (∃ h, h < N ∧ T h = 0 ∧ ∀ j, j < h → ¬ T j = 0) ∨ (∀ j, j < N → ¬ T j = 0) := by
  intro N
  induction N with
  | zero => exact Or.inr (fun j hj => absurd hj (by omega))
  | succ N ih =>
    rcases ih with ⟨h, h1, h2, h3⟩ | hn
    · exact Or.inl ⟨h, by omega, h2, h3⟩
    · by_cases z : T N = 0
      · exact Or.inl ⟨N, by omega, z, hn⟩
      · refine Or.inr (fun j hj => ?_)
        by_cases e : j = N
        · rw [e]; exact z
        · exact hn j (by omega)
section
variable {f_slotsTaken f_elementsTaken f_slopeCount : Int32} {a_handleTaken a_handleIsView a_windowRank a_windowSlot a_windowStart a_windowDimension a_windowStride a_slotSize a_slotKind a_slotTerms a_slotNeeded a_slotsByAge a_values a_derivatives a_firstPlaces a_secondPlaces a_assigned a_slopes : Nat → Int32}
theorem xw_isHandle_t {post : Int32 → Prop} {h : Nat} (hh : h < 24) (ht : ¬ a_handleTaken h = 0) (hp : post 1) : wpX_isHandle post (f_slotsTaken, f_elementsTaken, f_slopeCount, a_handleTaken, a_handleIsView, a_windowRank, a_windowSlot, a_windowStart, a_windowDimension, a_windowStride, a_slotSize, a_slotKind, a_slotTerms, a_slotNeeded, a_slotsByAge, a_values, a_derivatives, a_firstPlaces, a_secondPlaces, a_assigned, a_slopes) (nI h) := by
  refine br_f (nI_pos (by omega)) (br_f (nI_ge (b := 24) hh (by decide)) ⟨vp_in_nI hh (by decide), br_f ?_ hp⟩)
  rw [nI_clamp (by omega)]; exact ht
theorem xw_isHandle_f {post : Int32 → Prop} {x : Int32} (hx : ¬ ab_isH a_handleTaken x) (hp : post 0) : wpX_isHandle post (f_slotsTaken, f_elementsTaken, f_slopeCount, a_handleTaken, a_handleIsView, a_windowRank, a_windowSlot, a_windowStart, a_windowDimension, a_windowStride, a_slotSize, a_slotKind, a_slotTerms, a_slotNeeded, a_slotsByAge, a_values, a_derivatives, a_firstPlaces, a_secondPlaces, a_assigned, a_slopes) x := by
  refine br_c (fun _ => hp) (fun h0 => br_c (fun _ => hp) (fun h1 => ?_))
  obtain ⟨j, hj, rfl⟩ := nI_of h0
  have h2 : j < 24 := by
    apply Nat.lt_of_not_le; intro hc; exact h1 (nI_le (a := 24) hc hj)
  refine ⟨vp_in_nI h2 (by decide), br_c (fun _ => hp) (fun h3 => ?_)⟩
  rw [nI_clamp hj] at h3
  exact absurd ⟨j, h2, rfl, h3⟩ hx
theorem xw_freeHandle_s {post : Int32 → Prop} {h : Nat} (hh : h < 24) (h0 : a_handleTaken h = 0) (hl : ∀ j, j < h → ¬ a_handleTaken j = 0) (hp : post (nI h)) : wpX_freeHandle post (f_slotsTaken, f_elementsTaken, f_slopeCount, a_handleTaken, a_handleIsView, a_windowRank, a_windowSlot, a_windowStart, a_windowDimension, a_windowStride, a_slotSize, a_slotKind, a_slotTerms, a_slotNeeded, a_slotsByAge, a_values, a_derivatives, a_firstPlaces, a_secondPlaces, a_assigned, a_slopes) := by
  have H : ∀ d j : Nat, j + d = h → wX_freeHandle_2 post f_slotsTaken f_elementsTaken f_slopeCount a_handleTaken a_handleIsView a_windowRank a_windowSlot a_windowStart a_windowDimension a_windowStride a_slotSize a_slotKind a_slotTerms a_slotNeeded a_slotsByAge a_values a_derivatives a_firstPlaces a_secondPlaces a_assigned a_slopes (d + 1) (nI j) := by
    intro d
    induction d with
    | zero =>
      intro j hj
      refine br_f (nI_ge (b := 24) (by omega) (by decide)) ⟨vp_in_nI (by omega) (by decide), br_t ?_ ?_⟩
      · rw [nI_clamp (by omega), show j = h by omega]; exact h0
      · rw [show j = h by omega]; exact hp
    | succ d ih =>
      intro j hj
      refine br_f (nI_ge (b := 24) (by omega) (by decide)) ⟨vp_in_nI (by omega) (by decide), br_f ?_ (nm_r (nI_1 j) (ih (j + 1) (by omega)))⟩
      rw [nI_clamp (by omega)]; exact hl j (by omega)
  exact ⟨h + 1, H h 0 (by omega)⟩
theorem xw_freeHandle_n {post : Int32 → Prop} (hl : ∀ j, j < 24 → ¬ a_handleTaken j = 0) (hp : post (-1)) : wpX_freeHandle post (f_slotsTaken, f_elementsTaken, f_slopeCount, a_handleTaken, a_handleIsView, a_windowRank, a_windowSlot, a_windowStart, a_windowDimension, a_windowStride, a_slotSize, a_slotKind, a_slotTerms, a_slotNeeded, a_slotsByAge, a_values, a_derivatives, a_firstPlaces, a_secondPlaces, a_assigned, a_slopes) := by
  have H : ∀ d j : Nat, j + d = 24 → wX_freeHandle_2 post f_slotsTaken f_elementsTaken f_slopeCount a_handleTaken a_handleIsView a_windowRank a_windowSlot a_windowStart a_windowDimension a_windowStride a_slotSize a_slotKind a_slotTerms a_slotNeeded a_slotsByAge a_values a_derivatives a_firstPlaces a_secondPlaces a_assigned a_slopes (d + 1) (nI j) := by
    intro d
    induction d with
    | zero =>
      intro j hj
      exact br_t (nI_le (a := 24) (by omega) (by omega)) hp
    | succ d ih =>
      intro j hj
      refine br_f (nI_ge (b := 24) (by omega) (by decide)) ⟨vp_in_nI (by omega) (by decide), br_f ?_ (nm_r (nI_1 j) (ih (j + 1) (by omega)))⟩
      rw [nI_clamp (by omega)]; exact hl j (by omega)
  exact ⟨25, H 24 0 (by omega)⟩
theorem xw_freeSlot_s {post : Int32 → Prop} {h : Nat} (hh : h < 32) (h0 : a_slotSize h = 0) (hl : ∀ j, j < h → ¬ a_slotSize j = 0) (hp : post (nI h)) : wpX_freeSlot post (f_slotsTaken, f_elementsTaken, f_slopeCount, a_handleTaken, a_handleIsView, a_windowRank, a_windowSlot, a_windowStart, a_windowDimension, a_windowStride, a_slotSize, a_slotKind, a_slotTerms, a_slotNeeded, a_slotsByAge, a_values, a_derivatives, a_firstPlaces, a_secondPlaces, a_assigned, a_slopes) := by
  have H : ∀ d j : Nat, j + d = h → wX_freeSlot_2 post f_slotsTaken f_elementsTaken f_slopeCount a_handleTaken a_handleIsView a_windowRank a_windowSlot a_windowStart a_windowDimension a_windowStride a_slotSize a_slotKind a_slotTerms a_slotNeeded a_slotsByAge a_values a_derivatives a_firstPlaces a_secondPlaces a_assigned a_slopes (d + 1) (nI j) := by
    intro d
    induction d with
    | zero =>
      intro j hj
      refine br_f (nI_ge (b := 32) (by omega) (by decide)) ⟨vp_in_nI (by omega) (by decide), br_t ?_ ?_⟩
      · rw [nI_clamp (by omega), show j = h by omega]; exact h0
      · rw [show j = h by omega]; exact hp
    | succ d ih =>
      intro j hj
      refine br_f (nI_ge (b := 32) (by omega) (by decide)) ⟨vp_in_nI (by omega) (by decide), br_f ?_ (nm_r (nI_1 j) (ih (j + 1) (by omega)))⟩
      rw [nI_clamp (by omega)]; exact hl j (by omega)
  exact ⟨h + 1, H h 0 (by omega)⟩
theorem xw_freeSlot_n {post : Int32 → Prop} (hl : ∀ j, j < 32 → ¬ a_slotSize j = 0) (hp : post (-1)) : wpX_freeSlot post (f_slotsTaken, f_elementsTaken, f_slopeCount, a_handleTaken, a_handleIsView, a_windowRank, a_windowSlot, a_windowStart, a_windowDimension, a_windowStride, a_slotSize, a_slotKind, a_slotTerms, a_slotNeeded, a_slotsByAge, a_values, a_derivatives, a_firstPlaces, a_secondPlaces, a_assigned, a_slopes) := by
  have H : ∀ d j : Nat, j + d = 32 → wX_freeSlot_2 post f_slotsTaken f_elementsTaken f_slopeCount a_handleTaken a_handleIsView a_windowRank a_windowSlot a_windowStart a_windowDimension a_windowStride a_slotSize a_slotKind a_slotTerms a_slotNeeded a_slotsByAge a_values a_derivatives a_firstPlaces a_secondPlaces a_assigned a_slopes (d + 1) (nI j) := by
    intro d
    induction d with
    | zero =>
      intro j hj
      exact br_t (nI_le (a := 32) (by omega) (by omega)) hp
    | succ d ih =>
      intro j hj
      refine br_f (nI_ge (b := 32) (by omega) (by decide)) ⟨vp_in_nI (by omega) (by decide), br_f ?_ (nm_r (nI_1 j) (ih (j + 1) (by omega)))⟩
      rw [nI_clamp (by omega)]; exact hl j (by omega)
  exact ⟨33, H 32 0 (by omega)⟩
theorem xw_setAxis {post : SX → Prop} {w a : Nat} {p q : Int32} (hw : w < 88) (ha : a < 3) (h : post (f_slotsTaken, f_elementsTaken, f_slopeCount, a_handleTaken, a_handleIsView, a_windowRank, a_windowSlot, a_windowStart, upd a_windowDimension (3 * w + a) p, upd a_windowStride (3 * w + a) q, a_slotSize, a_slotKind, a_slotTerms, a_slotNeeded, a_slotsByAge, a_values, a_derivatives, a_firstPlaces, a_secondPlaces, a_assigned, a_slopes)) : wpX_setAxis post (f_slotsTaken, f_elementsTaken, f_slopeCount, a_handleTaken, a_handleIsView, a_windowRank, a_windowSlot, a_windowStart, a_windowDimension, a_windowStride, a_slotSize, a_slotKind, a_slotTerms, a_slotNeeded, a_slotsByAge, a_values, a_derivatives, a_firstPlaces, a_secondPlaces, a_assigned, a_slopes) (nI w) (nI a) p q := by
  have hi : vp_in (nI w * 3 + nI a) 264 := ab_vin ab_ix (by omega) (by decide)
  have hc : (nI w * 3 + nI a).toNatClampNeg = 3 * w + a := by rw [ab_ix]; exact nI_clamp (by omega)
  refine ⟨hi, fun D hD => ⟨hi, fun S hS => ?_⟩⟩
  rw [hc] at hD hS
  subst hD hS
  exact h
theorem xw_copyAxis {post : SX → Prop} {w a v b : Nat} (hw : w < 88) (ha : a < 3) (hv : v < 88) (hb : b < 3) (h : post (f_slotsTaken, f_elementsTaken, f_slopeCount, a_handleTaken, a_handleIsView, a_windowRank, a_windowSlot, a_windowStart, upd a_windowDimension (3 * v + b) (a_windowDimension (3 * w + a)), upd a_windowStride (3 * v + b) (a_windowStride (3 * w + a)), a_slotSize, a_slotKind, a_slotTerms, a_slotNeeded, a_slotsByAge, a_values, a_derivatives, a_firstPlaces, a_secondPlaces, a_assigned, a_slopes)) : wpX_copyAxis post (f_slotsTaken, f_elementsTaken, f_slopeCount, a_handleTaken, a_handleIsView, a_windowRank, a_windowSlot, a_windowStart, a_windowDimension, a_windowStride, a_slotSize, a_slotKind, a_slotTerms, a_slotNeeded, a_slotsByAge, a_values, a_derivatives, a_firstPlaces, a_secondPlaces, a_assigned, a_slopes) (nI w) (nI a) (nI v) (nI b) := by
  have hi : vp_in (nI w * 3 + nI a) 264 := ab_vin ab_ix (by omega) (by decide)
  have hj : vp_in (nI v * 3 + nI b) 264 := ab_vin ab_ix (by omega) (by decide)
  have hc : (nI w * 3 + nI a).toNatClampNeg = 3 * w + a := by rw [ab_ix]; exact nI_clamp (by omega)
  have hd : (nI v * 3 + nI b).toNatClampNeg = 3 * v + b := by rw [ab_ix]; exact nI_clamp (by omega)
  refine ⟨hi, hj, fun D hD => ⟨hi, hj, fun S hS => ?_⟩⟩
  rw [hc, hd] at hD hS
  subst hD hS
  exact h
theorem xw_startWindow {post : SX → Prop} {w s : Nat} {r : Int32} (hw : w < 88) (hs : s < 88) (h : post (f_slotsTaken, f_elementsTaken, f_slopeCount, a_handleTaken, a_handleIsView, upd a_windowRank w r, upd a_windowSlot w (a_windowSlot s), upd a_windowStart w (a_windowStart s), ab_up3 a_windowDimension (3 * w) 1 1 1, ab_up3 a_windowStride (3 * w) 0 0 0, a_slotSize, a_slotKind, a_slotTerms, a_slotNeeded, a_slotsByAge, a_values, a_derivatives, a_firstPlaces, a_secondPlaces, a_assigned, a_slopes)) : wpX_startWindow post (f_slotsTaken, f_elementsTaken, f_slopeCount, a_handleTaken, a_handleIsView, a_windowRank, a_windowSlot, a_windowStart, a_windowDimension, a_windowStride, a_slotSize, a_slotKind, a_slotTerms, a_slotNeeded, a_slotsByAge, a_values, a_derivatives, a_firstPlaces, a_secondPlaces, a_assigned, a_slopes) (nI w) (nI s) r := by
  have hi : vp_in (nI w) 88 := vp_in_nI hw (by decide)
  have hj : vp_in (nI s) 88 := vp_in_nI hs (by decide)
  have cw : (nI w).toNatClampNeg = w := nI_clamp (by omega)
  have cs : (nI s).toNatClampNeg = s := nI_clamp (by omega)
  refine ⟨hi, fun R hR => ⟨hj, hi, fun S hS => ⟨hj, hi, fun T hT => ⟨4, ?_⟩⟩⟩⟩
  rw [cw] at hR
  rw [cw, cs] at hS hT
  subst hR hS hT
  refine br_f (by decide) (xw_setAxis (a := 0) hw (by omega) (nm_r (nI_1 0) ?_))
  refine br_f (by decide) (xw_setAxis (a := 1) hw (by omega) (nm_r (nI_1 1) ?_))
  refine br_f (by decide) (xw_setAxis (a := 2) hw (by omega) (nm_r (nI_1 2) ?_))
  refine br_t (by decide) ?_
  rw [Nat.add_zero, ab_u3s, ab_u3s]
  exact h
theorem xw_copyWindow {post : SX → Prop} {w v : Nat} (hw : w < 88) (hv : v < 88) (hn : w ≠ v) (h : post (f_slotsTaken, f_elementsTaken, f_slopeCount, a_handleTaken, a_handleIsView, upd a_windowRank v (a_windowRank w), upd a_windowSlot v (a_windowSlot w), upd a_windowStart v (a_windowStart w), ab_up3 a_windowDimension (3 * v) (a_windowDimension (3 * w)) (a_windowDimension (3 * w + 1)) (a_windowDimension (3 * w + 2)), ab_up3 a_windowStride (3 * v) (a_windowStride (3 * w)) (a_windowStride (3 * w + 1)) (a_windowStride (3 * w + 2)), a_slotSize, a_slotKind, a_slotTerms, a_slotNeeded, a_slotsByAge, a_values, a_derivatives, a_firstPlaces, a_secondPlaces, a_assigned, a_slopes)) : wpX_copyWindow post (f_slotsTaken, f_elementsTaken, f_slopeCount, a_handleTaken, a_handleIsView, a_windowRank, a_windowSlot, a_windowStart, a_windowDimension, a_windowStride, a_slotSize, a_slotKind, a_slotTerms, a_slotNeeded, a_slotsByAge, a_values, a_derivatives, a_firstPlaces, a_secondPlaces, a_assigned, a_slopes) (nI w) (nI v) := by
  have cw : (nI w).toNatClampNeg = w := nI_clamp (by omega)
  refine ⟨vp_in_nI hw (by decide), ?_⟩
  rw [cw]
  refine xw_startWindow hv hw ⟨4, ?_⟩
  have e1 : ∀ (f : Nat → Int32) (k : Nat) (a b c : Int32) (i : Nat), i < 3 → k = 3 * v → ab_up3 f k a b c (3 * w + i) = f (3 * w + i) := fun f k a b c i hi hk => ab_en (by omega)
  refine br_f (by decide) (xw_copyAxis (a := 0) (b := 0) hw (by omega) hv (by omega) (nm_r (nI_1 0) ?_))
  rw [Nat.add_zero, Nat.add_zero, ab_u30, ab_u30, ab_en (by omega), ab_en (by omega)]
  refine br_f (by decide) (xw_copyAxis (a := 1) (b := 1) hw (by omega) hv (by omega) (nm_r (nI_1 1) ?_))
  rw [ab_u31, ab_u31, ab_en (by omega), ab_en (by omega)]
  refine br_f (by decide) (xw_copyAxis (a := 2) (b := 2) hw (by omega) hv (by omega) (nm_r (nI_1 2) ?_))
  rw [ab_u32, ab_u32, ab_en (by omega), ab_en (by omega)]
  exact br_t (by decide) h
theorem xw_makeView_n {post : Int32 → SX → Prop} {x : Int32} (hl : ∀ j, j < 24 → ¬ a_handleTaken j = 0) (h : post (-1) (f_slotsTaken, f_elementsTaken, f_slopeCount, a_handleTaken, a_handleIsView, a_windowRank, a_windowSlot, a_windowStart, a_windowDimension, a_windowStride, a_slotSize, a_slotKind, a_slotTerms, a_slotNeeded, a_slotsByAge, a_values, a_derivatives, a_firstPlaces, a_secondPlaces, a_assigned, a_slopes)) : wpX_makeView post (f_slotsTaken, f_elementsTaken, f_slopeCount, a_handleTaken, a_handleIsView, a_windowRank, a_windowSlot, a_windowStart, a_windowDimension, a_windowStride, a_slotSize, a_slotKind, a_slotTerms, a_slotNeeded, a_slotsByAge, a_values, a_derivatives, a_firstPlaces, a_secondPlaces, a_assigned, a_slopes) x := by
  unfold wpX_makeView
  exact xw_freeHandle_n hl (br_t (by decide) h)
theorem xw_makeView_s {post : Int32 → SX → Prop} {w v : Nat} (hv : v < 24) (hw : w < 24) (h0 : a_handleTaken v = 0) (hl : ∀ j, j < v → ¬ a_handleTaken j = 0) (h1 : ¬ a_handleTaken w = 0) (h : post (nI v) (f_slotsTaken, f_elementsTaken, f_slopeCount, upd a_handleTaken v 1, upd a_handleIsView v 1, upd a_windowRank v (a_windowRank w), upd a_windowSlot v (a_windowSlot w), upd a_windowStart v (a_windowStart w), ab_up3 a_windowDimension (3 * v) (a_windowDimension (3 * w)) (a_windowDimension (3 * w + 1)) (a_windowDimension (3 * w + 2)), ab_up3 a_windowStride (3 * v) (a_windowStride (3 * w)) (a_windowStride (3 * w + 1)) (a_windowStride (3 * w + 2)), a_slotSize, a_slotKind, a_slotTerms, a_slotNeeded, a_slotsByAge, a_values, a_derivatives, a_firstPlaces, a_secondPlaces, a_assigned, a_slopes)) : wpX_makeView post (f_slotsTaken, f_elementsTaken, f_slopeCount, a_handleTaken, a_handleIsView, a_windowRank, a_windowSlot, a_windowStart, a_windowDimension, a_windowStride, a_slotSize, a_slotKind, a_slotTerms, a_slotNeeded, a_slotsByAge, a_values, a_derivatives, a_firstPlaces, a_secondPlaces, a_assigned, a_slopes) (nI w) := by
  have cv : (nI v).toNatClampNeg = v := nI_clamp (by omega)
  have hn : w ≠ v := fun e => h1 (e ▸ h0)
  unfold wpX_makeView
  refine xw_freeHandle_s hv h0 hl (br_f (nI_pos (by omega)) ⟨vp_in_nI hv (by decide), fun H hH => ⟨vp_in_nI hv (by decide), fun V hV => ?_⟩⟩)
  rw [cv, ab_b1] at hH hV
  subst hH hV
  exact xw_copyWindow (by omega) (by omega) hn h
theorem xw_isDim_t {post : Int32 → Prop} {d : Nat} (h1 : 1 ≤ d) (h4 : d ≤ 4) (hp : post 1) : wpX_isDimension post (f_slotsTaken, f_elementsTaken, f_slopeCount, a_handleTaken, a_handleIsView, a_windowRank, a_windowSlot, a_windowStart, a_windowDimension, a_windowStride, a_slotSize, a_slotKind, a_slotTerms, a_slotNeeded, a_slotsByAge, a_values, a_derivatives, a_firstPlaces, a_secondPlaces, a_assigned, a_slopes) (nI d) :=
  br_f (nI_nlt (b := 1) h1 (by omega)) (br_f (nI_nlt (a := 4) h4 (by decide)) hp)
def ab_isD (x : Int32) : Prop := ∃ d, 1 ≤ d ∧ d ≤ 4 ∧ x = nI d
theorem xw_isDim_f {post : Int32 → Prop} {x : Int32} (hx : ¬ ab_isD x) (hp : post 0) : wpX_isDimension post (f_slotsTaken, f_elementsTaken, f_slopeCount, a_handleTaken, a_handleIsView, a_windowRank, a_windowSlot, a_windowStart, a_windowDimension, a_windowStride, a_slotSize, a_slotKind, a_slotTerms, a_slotNeeded, a_slotsByAge, a_values, a_derivatives, a_firstPlaces, a_secondPlaces, a_assigned, a_slopes) x := by
  refine br_c (fun _ => hp) (fun h0 => br_c (fun _ => hp) (fun h1 => ?_))
  have h2 : ¬ x < 0 := by
    rw [Int32.lt_iff_toInt_lt] at h0 ⊢
    rw [show (1 : Int32).toInt = 1 from by decide] at h0
    rw [show (0 : Int32).toInt = 0 from by decide]
    omega
  obtain ⟨j, hj, rfl⟩ := nI_of h2
  have h3 : 1 ≤ j := by
    apply Nat.lt_of_not_le; intro hc; exact h0 (nI_lt (b := 1) (by omega) (by decide))
  have h4 : j ≤ 4 := by
    apply Nat.le_of_not_lt; intro hc; exact h1 (nI_lt (a := 4) hc hj)
  exact absurd ⟨j, h3, h4, rfl⟩ hx
theorem ab_sh : ∀ a, a < 3 → (((3 + 3 * nI a) &&& 31).toBitVec.smod 32).toNat = 3 + 3 * a := by
  intro a ha
  rcases (show a = 0 ∨ a = 1 ∨ a = 2 by omega) with rfl | rfl | rfl <;> decide
theorem xw_packedDim {post : Int32 → Prop} {a d : Nat} (ha : a < 3) (hd : d < 8) (hp : post (nI (d * 2 ^ (3 + 3 * a)))) : wpX_packedDimension post (f_slotsTaken, f_elementsTaken, f_slopeCount, a_handleTaken, a_handleIsView, a_windowRank, a_windowSlot, a_windowStart, a_windowDimension, a_windowStride, a_slotSize, a_slotKind, a_slotTerms, a_slotNeeded, a_slotsByAge, a_values, a_derivatives, a_firstPlaces, a_secondPlaces, a_assigned, a_slopes) (nI a) (nI d) := by
  show post (nI d <<< ((3 + 3 * nI a) &&& 31))
  rw [pk_shlN _ (3 + 3 * a) (ab_sh a ha) ?_]
  · exact hp
  · rcases (show a = 0 ∨ a = 1 ∨ a = 2 by omega) with rfl | rfl | rfl <;> omega
theorem xw_dimIn {post : Int32 → Prop} {a q : Nat} (ha : a < 3) (hq : q < 4096) (hp : post (nI (q / 2 ^ (3 + 3 * a) % 8))) : wpX_dimensionIn post (f_slotsTaken, f_elementsTaken, f_slopeCount, a_handleTaken, a_handleIsView, a_windowRank, a_windowSlot, a_windowStart, a_windowDimension, a_windowStride, a_slotSize, a_slotKind, a_slotTerms, a_slotNeeded, a_slotsByAge, a_values, a_derivatives, a_firstPlaces, a_secondPlaces, a_assigned, a_slopes) (nI q) (nI a) := by
  show post ((nI q >>> ((3 + 3 * nI a) &&& 31)) &&& 7)
  rw [pk_shrN (by omega) _ (3 + 3 * a) (ab_sh a ha), pk_andN (by have := Nat.div_le_self q (2 ^ (3 + 3 * a)); omega) 3 (by decide)]
  exact hp
theorem xw_windowSize {post : Int32 → Prop} {w d0 d1 d2 : Nat} (hw : w < 88) (h0 : a_windowDimension (3 * w) = nI d0) (h1 : a_windowDimension (3 * w + 1) = nI d1) (h2 : a_windowDimension (3 * w + 2) = nI d2) (hp : post (nI (d0 * d1 * d2))) : wpX_windowSize post (f_slotsTaken, f_elementsTaken, f_slopeCount, a_handleTaken, a_handleIsView, a_windowRank, a_windowSlot, a_windowStart, a_windowDimension, a_windowStride, a_slotSize, a_slotKind, a_slotTerms, a_slotNeeded, a_slotsByAge, a_values, a_derivatives, a_firstPlaces, a_secondPlaces, a_assigned, a_slopes) (nI w) := by
  refine nm_r ab_ix3 ⟨vp_in_nI (by omega) (by decide), ab_vin (nI_1 _) (by omega) (by decide), ab_vin (nI_add _ 2) (by omega) (by decide), ?_⟩
  rw [nI_clamp (by omega), show nI (3 * w) + 1 = nI (3 * w + 1) from nI_1 _, show nI (3 * w) + 2 = nI (3 * w + 2) from nI_add _ 2, nI_clamp (by omega), nI_clamp (by omega), h0, h1, h2, pk_mul, pk_mul]
  exact hp
end
end
section
def yb_row (R D : Nat → Int32) (h rk : Nat) (d : Nat → Nat) : Prop := R h = nI rk ∧ rk ≤ 3 ∧ (∀ a, a < rk → D (3 * h + a) = nI (d a)) ∧ (∀ a, rk ≤ a → a < 3 → d a = 1) ∧ (∀ a, a < 3 → 1 ≤ d a ∧ d a ≤ 4)
def yb_bt (x : Int32) : Int32 := vp_nar .byte x.toInt8.toInt32
theorem yb_btn {n : Nat} (h : n < 128) : yb_bt (nI n) = nI n := ab_vb2 h
theorem ab_iy {w a : Nat} : 3 * nI w + nI a = nI (3 * w + a) := by
  show nI 3 * nI w + nI a = _
  rw [pk_mul, nI_add]
theorem ab_i64 {w a : Nat} : 64 * nI w + nI a = nI (64 * w + a) := by
  show nI 64 * nI w + nI a = _
  rw [pk_mul, nI_add]
section
variable {c_cells c_slopeCount : Int32} {b_used b_rank b_dims b_shown b_tensorOf b_view b_exists b_kind b_first b_second b_owner b_parts b_partCount b_value b_slopeOf b_order b_slopes : Nat → Int32}
theorem yb_isHandle_t {post : Int32 → Prop} {h : Nat} (hh : h < 24) (ht : ¬ b_used h = 0) (hp : post 1) : wpY_isHandle post (c_cells, c_slopeCount, b_used, b_rank, b_dims, b_shown, b_tensorOf, b_view, b_exists, b_kind, b_first, b_second, b_owner, b_parts, b_partCount, b_value, b_slopeOf, b_order, b_slopes) (nI h) := by
  refine br_f (nI_pos (by omega)) (br_f (nI_ge (b := 24) hh (by decide)) ⟨vp_in_nI (by omega) (by decide), br_f ?_ hp⟩)
  rw [nI_clamp (by omega)]; exact ht
theorem yb_isHandle_f {post : Int32 → Prop} {x : Int32} (hx : ¬ ab_isH b_used x) (hp : post 0) : wpY_isHandle post (c_cells, c_slopeCount, b_used, b_rank, b_dims, b_shown, b_tensorOf, b_view, b_exists, b_kind, b_first, b_second, b_owner, b_parts, b_partCount, b_value, b_slopeOf, b_order, b_slopes) x := by
  refine br_c (fun _ => hp) (fun h0 => br_c (fun _ => hp) (fun h1 => ?_))
  obtain ⟨j, hj, rfl⟩ := nI_of h0
  have h2 : j < 24 := by
    apply Nat.lt_of_not_le; intro hc; exact h1 (nI_le (a := 24) hc hj)
  refine ⟨vp_in_nI (by omega) (by decide), br_c (fun _ => hp) (fun h3 => ?_)⟩
  rw [nI_clamp hj] at h3
  exact absurd ⟨j, h2, rfl, h3⟩ hx
theorem yb_freeHandle_s {post : Int32 → Prop} {h : Nat} (hh : h < 24) (h0 : b_used h = 0) (hl : ∀ j, j < h → ¬ b_used j = 0) (hp : post (nI h)) : wpY_freeHandle post (c_cells, c_slopeCount, b_used, b_rank, b_dims, b_shown, b_tensorOf, b_view, b_exists, b_kind, b_first, b_second, b_owner, b_parts, b_partCount, b_value, b_slopeOf, b_order, b_slopes) := by
  have H : ∀ d j : Nat, j + d = h → wY_freeHandle_2 post c_cells c_slopeCount b_used b_rank b_dims b_shown b_tensorOf b_view b_exists b_kind b_first b_second b_owner b_parts b_partCount b_value b_slopeOf b_order b_slopes (d + 1) (nI j) := by
    intro d
    induction d with
    | zero =>
      intro j hj
      refine br_f (nI_ge (b := 24) (by omega) (by decide)) ⟨vp_in_nI (by omega) (by decide), br_t ?_ ?_⟩
      · rw [nI_clamp (by omega), show j = h by omega]; exact h0
      · rw [show j = h by omega]; exact hp
    | succ d ih =>
      intro j hj
      refine br_f (nI_ge (b := 24) (by omega) (by decide)) ⟨vp_in_nI (by omega) (by decide), br_f ?_ (nm_r (nI_1 j) (ih (j + 1) (by omega)))⟩
      rw [nI_clamp (by omega)]; exact hl j (by omega)
  exact ⟨h + 1, H h 0 (by omega)⟩
theorem yb_freeHandle_n {post : Int32 → Prop} (hl : ∀ j, j < 24 → ¬ b_used j = 0) (hp : post 24) : wpY_freeHandle post (c_cells, c_slopeCount, b_used, b_rank, b_dims, b_shown, b_tensorOf, b_view, b_exists, b_kind, b_first, b_second, b_owner, b_parts, b_partCount, b_value, b_slopeOf, b_order, b_slopes) := by
  have H : ∀ d j : Nat, j + d = 24 → wY_freeHandle_2 post c_cells c_slopeCount b_used b_rank b_dims b_shown b_tensorOf b_view b_exists b_kind b_first b_second b_owner b_parts b_partCount b_value b_slopeOf b_order b_slopes (d + 1) (nI j) := by
    intro d
    induction d with
    | zero =>
      intro j hj
      refine br_t (nI_le (a := 24) (by omega) (by omega)) ?_
      rw [show j = 24 by omega]; exact hp
    | succ d ih =>
      intro j hj
      refine br_f (nI_ge (b := 24) (by omega) (by decide)) ⟨vp_in_nI (by omega) (by decide), br_f ?_ (nm_r (nI_1 j) (ih (j + 1) (by omega)))⟩
      rw [nI_clamp (by omega)]; exact hl j (by omega)
  exact ⟨25, H 24 0 (by omega)⟩
theorem yb_dim {post : Int32 → Prop} {h a : Nat} (hh : h < 25) (ha : a < 3) (hp : post (b_dims (3 * h + a))) : wpY_dim post (c_cells, c_slopeCount, b_used, b_rank, b_dims, b_shown, b_tensorOf, b_view, b_exists, b_kind, b_first, b_second, b_owner, b_parts, b_partCount, b_value, b_slopeOf, b_order, b_slopes) (nI h) (nI a) := by
  refine ⟨ab_vin ab_iy (by omega) (by decide), ?_⟩
  rw [ab_iy, nI_clamp (by omega)]; exact hp
theorem yb_size_s {post : Int32 → Prop} {n h a rk q dv : Nat} (hh : h < 25) (hr : b_rank h = nI rk) (hk : rk ≤ 3) (ha : a < rk) (hd : b_dims (3 * h + a) = nI dv) (hn : wY_size_4 post (nI h) c_cells c_slopeCount b_used b_rank b_dims b_shown b_tensorOf b_view b_exists b_kind b_first b_second b_owner b_parts b_partCount b_value b_slopeOf b_order b_slopes n (nI (q * dv)) (nI (a + 1))) : wY_size_4 post (nI h) c_cells c_slopeCount b_used b_rank b_dims b_shown b_tensorOf b_view b_exists b_kind b_first b_second b_owner b_parts b_partCount b_value b_slopeOf b_order b_slopes (n + 1) (nI q) (nI a) := by
  refine ⟨vp_in_nI hh (by decide), br_f ?_ (yb_dim hh (by omega) (nm_r ?_ (nm_r (nI_1 a) hn)))⟩
  · rw [nI_clamp (by omega), hr]; exact nI_ge ha (by omega)
  · rw [hd, pk_mul]
theorem yb_size_x {post : Int32 → Prop} {n h a rk q : Nat} (hh : h < 25) (hr : b_rank h = nI rk) (hk : rk ≤ 3) (ha : a = rk) (hp : post (nI q)) : wY_size_4 post (nI h) c_cells c_slopeCount b_used b_rank b_dims b_shown b_tensorOf b_view b_exists b_kind b_first b_second b_owner b_parts b_partCount b_value b_slopeOf b_order b_slopes (n + 1) (nI q) (nI a) := by
  refine ⟨vp_in_nI hh (by decide), br_t ?_ hp⟩
  rw [nI_clamp (by omega), hr]; exact nI_le (by omega) (by omega)
theorem yb_size {post : Int32 → Prop} {h rk : Nat} {d : Nat → Nat} (hh : h < 25) (H : yb_row b_rank b_dims h rk d) (hp : post (nI (d 0 * d 1 * d 2))) : wpY_size post (c_cells, c_slopeCount, b_used, b_rank, b_dims, b_shown, b_tensorOf, b_view, b_exists, b_kind, b_first, b_second, b_owner, b_parts, b_partCount, b_value, b_slopeOf, b_order, b_slopes) (nI h) := by
  obtain ⟨hr, hk, hd, h1, _⟩ := H
  refine ⟨rk + 1, ?_⟩
  rcases (show rk = 0 ∨ rk = 1 ∨ rk = 2 ∨ rk = 3 by omega) with rfl | rfl | rfl | rfl
  · rw [h1 0 (by omega) (by omega), h1 1 (by omega) (by omega), h1 2 (by omega) (by omega)] at hp
    exact yb_size_x (a := 0) (q := 1) hh hr hk rfl hp
  · rw [h1 1 (by omega) (by omega), h1 2 (by omega) (by omega), Nat.mul_one, Nat.mul_one] at hp
    exact yb_size_s (a := 0) (q := 1) hh hr hk (by omega) (hd 0 (by omega)) (yb_size_x hh hr hk rfl (by rw [Nat.one_mul]; exact hp))
  · rw [h1 2 (by omega) (by omega), Nat.mul_one] at hp
    exact yb_size_s (a := 0) (q := 1) hh hr hk (by omega) (hd 0 (by omega)) (yb_size_s hh hr hk (by omega) (hd 1 (by omega)) (yb_size_x hh hr hk rfl (by rw [Nat.one_mul]; exact hp)))
  · exact yb_size_s (a := 0) (q := 1) hh hr hk (by omega) (hd 0 (by omega)) (yb_size_s hh hr hk (by omega) (hd 1 (by omega)) (yb_size_s hh hr hk (by omega) (hd 2 (by omega)) (yb_size_x hh hr hk rfl (by rw [Nat.one_mul]; exact hp))))
theorem yb_index_57 {post : Int32 → Prop} {e q dv : Nat} (he : e < 2 ^ 31) (hq : 1 ≤ q) (hq2 : q < 2 ^ 31) (h1 : 1 ≤ dv) (h2 : dv < 2 ^ 31) (hp : post (nI (e / q % dv))) : wY_index_57 post (nI e) (nI q) (nI dv) c_cells c_slopeCount b_used b_rank b_dims b_shown b_tensorOf b_view b_exists b_kind b_first b_second b_owner b_parts b_partCount b_value b_slopeOf b_order b_slopes := by
  refine br_f (nI_nlt (b := 1) hq hq2) (br_t (nI_le (a := 1) h1 h2) ⟨nI_ne0 hq hq2, nI_ne0 h1 h2, ?_⟩)
  rw [pk_div he hq hq2, pk_rem (Nat.lt_of_le_of_lt (Nat.div_le_self _ _) he) h1 h2]
  exact hp
theorem yb_index_s {post : Int32 → Prop} {n h j rk q dv : Nat} {x2 x3 : Int32} (hh : h < 25) (hr : b_rank h = nI rk) (hk : rk ≤ 3) (ha : j < rk) (hd : b_dims (3 * h + j) = nI dv) (hn : wY_index_8 post (nI h) x2 x3 c_cells c_slopeCount b_used b_rank b_dims b_shown b_tensorOf b_view b_exists b_kind b_first b_second b_owner b_parts b_partCount b_value b_slopeOf b_order b_slopes n (nI (q * dv)) (nI (j + 1))) : wY_index_8 post (nI h) x2 x3 c_cells c_slopeCount b_used b_rank b_dims b_shown b_tensorOf b_view b_exists b_kind b_first b_second b_owner b_parts b_partCount b_value b_slopeOf b_order b_slopes (n + 1) (nI q) (nI j) := by
  refine ⟨vp_in_nI hh (by decide), br_f ?_ (yb_dim hh (by omega) (nm_r ?_ (nm_r (nI_1 j) hn)))⟩
  · rw [nI_clamp (by omega), hr]; exact nI_ge ha (by omega)
  · rw [hd, pk_mul]
theorem yb_index_x {post : Int32 → Prop} {n h j a e rk q : Nat} {d : Nat → Nat} (hh : h < 25) (hr : b_rank h = nI rk) (hk : rk ≤ 3) (hd : ∀ a, a < rk → b_dims (3 * h + a) = nI (d a)) (h1 : ∀ a, rk ≤ a → a < 3 → d a = 1) (hb : ∀ a, a < 3 → 1 ≤ d a ∧ d a ≤ 4) (ha : a < 3) (hj : rk ≤ j) (hj2 : j ≤ 4) (he : e < 2 ^ 31) (hq : 1 ≤ q) (hq2 : q < 2 ^ 31) (hp : post (nI (e / q % d a))) : wY_index_8 post (nI h) (nI e) (nI a) c_cells c_slopeCount b_used b_rank b_dims b_shown b_tensorOf b_view b_exists b_kind b_first b_second b_owner b_parts b_partCount b_value b_slopeOf b_order b_slopes (n + 1) (nI q) (nI j) := by
  have hc : (nI h).toNatClampNeg = h := nI_clamp (by omega)
  have hv : vp_in (nI h) 25 := vp_in_nI hh (by decide)
  have hb' := hb a ha
  refine ⟨hv, br_t ?_ ⟨hv, ?_⟩⟩
  · rw [hc, hr]; exact nI_le hj (by omega)
  · by_cases z : rk ≤ a
    · refine br_t ?_ ?_
      · rw [hc, hr]; exact nI_le z (by omega)
      · rw [h1 a z ha] at hp
        exact yb_index_57 (dv := 1) he hq hq2 (by omega) (by omega) hp
    · refine br_f ?_ (yb_dim hh ha ?_)
      · rw [hc, hr]; exact nI_ge (by omega) (by omega)
      · rw [hd a (by omega)]
        exact yb_index_57 he hq hq2 hb'.1 (by omega) hp
theorem yb_index0 {post : Int32 → Prop} {h rk e : Nat} {d : Nat → Nat} (hh : h < 25) (H : yb_row b_rank b_dims h rk d) (he : e < 2 ^ 31) (hp : post (nI (e / (d 1 * d 2) % d 0))) : wpY_index post (c_cells, c_slopeCount, b_used, b_rank, b_dims, b_shown, b_tensorOf, b_view, b_exists, b_kind, b_first, b_second, b_owner, b_parts, b_partCount, b_value, b_slopeOf, b_order, b_slopes) (nI h) (nI e) 0 := by
  obtain ⟨hr, hk, hd, h1, hb⟩ := H
  refine nm_r (nI_1 0) ⟨4, ?_⟩
  have b1 := hb 1 (by omega)
  have b2 := hb 2 (by omega)
  have hm : d 1 * d 2 ≤ 4 * 4 := Nat.mul_le_mul b1.2 b2.2
  have hm1 : 1 ≤ d 1 * d 2 := Nat.mul_pos b1.1 b2.1
  rcases (show rk ≤ 1 ∨ rk = 2 ∨ rk = 3 by omega) with z | rfl | rfl
  · rw [h1 1 (by omega) (by omega), h1 2 (by omega) (by omega)] at hp
    exact yb_index_x (a := 0) (q := 1) (d := d) hh hr hk hd h1 hb (by omega) z (by omega) he (by omega) (by omega) hp
  · rw [h1 2 (by omega) (by omega), Nat.mul_one] at hp
    exact yb_index_s (j := 1) (q := 1) hh hr hk (by omega) (hd 1 (by omega)) (yb_index_x (a := 0) (d := d) hh hr hk hd h1 hb (by omega) (by omega) (by omega) he (by omega) (by omega) (by rw [Nat.one_mul]; exact hp))
  · exact yb_index_s (j := 1) (q := 1) hh hr hk (by omega) (hd 1 (by omega)) (yb_index_s hh hr hk (by omega) (hd 2 (by omega)) (yb_index_x (a := 0) (d := d) hh hr hk hd h1 hb (by omega) (by omega) (by omega) he (by rw [Nat.one_mul]; exact hm1) (by rw [Nat.one_mul]; omega) (by rw [Nat.one_mul]; exact hp)))
theorem yb_index1 {post : Int32 → Prop} {h rk e : Nat} {d : Nat → Nat} (hh : h < 25) (H : yb_row b_rank b_dims h rk d) (he : e < 2 ^ 31) (hp : post (nI (e / d 2 % d 1))) : wpY_index post (c_cells, c_slopeCount, b_used, b_rank, b_dims, b_shown, b_tensorOf, b_view, b_exists, b_kind, b_first, b_second, b_owner, b_parts, b_partCount, b_value, b_slopeOf, b_order, b_slopes) (nI h) (nI e) 1 := by
  obtain ⟨hr, hk, hd, h1, hb⟩ := H
  refine nm_r (nI_1 1) ⟨4, ?_⟩
  have b2 := hb 2 (by omega)
  rcases (show rk ≤ 2 ∨ rk = 3 by omega) with z | rfl
  · rw [h1 2 (by omega) (by omega)] at hp
    exact yb_index_x (a := 1) (q := 1) (d := d) hh hr hk hd h1 hb (by omega) z (by omega) he (by omega) (by omega) hp
  · exact yb_index_s (j := 2) (q := 1) hh hr hk (by omega) (hd 2 (by omega)) (yb_index_x (a := 1) (d := d) hh hr hk hd h1 hb (by omega) (by omega) (by omega) he (by omega) (by omega) (by rw [Nat.one_mul]; exact hp))
theorem yb_index2 {post : Int32 → Prop} {h rk e : Nat} {d : Nat → Nat} (hh : h < 25) (H : yb_row b_rank b_dims h rk d) (he : e < 2 ^ 31) (hp : post (nI (e % d 2))) : wpY_index post (c_cells, c_slopeCount, b_used, b_rank, b_dims, b_shown, b_tensorOf, b_view, b_exists, b_kind, b_first, b_second, b_owner, b_parts, b_partCount, b_value, b_slopeOf, b_order, b_slopes) (nI h) (nI e) 2 := by
  obtain ⟨hr, hk, hd, h1, hb⟩ := H
  refine nm_r (nI_1 2) ⟨4, ?_⟩
  exact yb_index_x (a := 2) (q := 1) (d := d) hh hr hk hd h1 hb (by omega) hk (by omega) he (by omega) (by omega) (by rw [Nat.div_one]; exact hp)
theorem yb_cellAt {post : Int32 → Prop} {h rk i j k : Nat} {d : Nat → Nat} (hh : h < 25) (H : yb_row b_rank b_dims h rk d) (hi : i < d 0) (hj : j < d 1) (hk : k < d 2) (hp : post (b_shown (64 * h + ((i * d 1 + j) * d 2 + k)))) : wpY_cellAt post (c_cells, c_slopeCount, b_used, b_rank, b_dims, b_shown, b_tensorOf, b_view, b_exists, b_kind, b_first, b_second, b_owner, b_parts, b_partCount, b_value, b_slopeOf, b_order, b_slopes) (nI h) (nI i) (nI j) (nI k) := by
  obtain ⟨hr, hrk, hd, h1, hb⟩ := H
  have hc : (nI h).toNatClampNeg = h := nI_clamp (by omega)
  have hv : vp_in (nI h) 25 := vp_in_nI hh (by decide)
  have hl := ab_lin hi hj hk
  have hs := ab_sz (hb 0 (by omega)).2 (hb 1 (by omega)).2 (hb 2 (by omega)).2
  have H63 : ∀ e : Nat, e = (i * d 1 + j) * d 2 + k → wY_cellAt_63 post (nI h) (nI e) c_cells c_slopeCount b_used b_rank b_dims b_shown b_tensorOf b_view b_exists b_kind b_first b_second b_owner b_parts b_partCount b_value b_slopeOf b_order b_slopes := by
    intro e he
    refine ⟨ab_vin ab_i64 (by omega) (by decide), ?_⟩
    rw [ab_i64, nI_clamp (by omega), he]; exact hp
  have H39 : ∀ e : Nat, e = i * d 1 + j → wY_cellAt_39 post (nI h) (nI k) (nI e) c_cells c_slopeCount b_used b_rank b_dims b_shown b_tensorOf b_view b_exists b_kind b_first b_second b_owner b_parts b_partCount b_value b_slopeOf b_order b_slopes := by
    intro e he
    by_cases z : rk ≤ 2
    · refine ⟨hv, br_t (by rw [hc, hr]; exact nI_le (b := 2) z (by decide)) (H63 e ?_)⟩
      have := h1 2 z (by omega)
      rw [this] at hk ⊢
      omega
    · refine ⟨hv, br_f (by rw [hc, hr]; exact nI_ge (a := 2) (by omega) (by omega)) (yb_dim hh (a := 2) (by omega) (nm_r ?_ (H63 (e * d 2 + k) (by rw [he]))))⟩
      rw [hd 2 (by omega), pk_mul, nI_add]
  have H14 : ∀ e : Nat, e = i → wY_cellAt_14 post (nI h) (nI j) (nI k) (nI e) c_cells c_slopeCount b_used b_rank b_dims b_shown b_tensorOf b_view b_exists b_kind b_first b_second b_owner b_parts b_partCount b_value b_slopeOf b_order b_slopes := by
    intro e he
    by_cases z : rk ≤ 1
    · refine ⟨hv, br_t (by rw [hc, hr]; exact nI_le (b := 1) z (by decide)) (H39 e ?_)⟩
      have := h1 1 z (by omega)
      rw [this] at hj ⊢
      omega
    · refine ⟨hv, br_f (by rw [hc, hr]; exact nI_ge (a := 1) (by omega) (by omega)) (yb_dim hh (a := 1) (by omega) (nm_r ?_ (H39 (e * d 1 + j) (by rw [he]))))⟩
      rw [hd 1 (by omega), pk_mul, nI_add]
  by_cases z : rk ≤ 0
  · refine ⟨hv, br_t (by rw [hc, hr]; exact nI_le (b := 0) z (by decide)) (H14 0 ?_)⟩
    have := h1 0 z (by omega)
    omega
  · exact ⟨hv, br_f (by rw [hc, hr]; exact nI_ge (a := 0) (by omega) (by omega)) (H14 i rfl)⟩
theorem yb_shapeNew {post : SY → Prop} {r : Nat} {x0 x1 x2 : Int32} (hr : r < 128) (h : post (c_cells, c_slopeCount, b_used, upd b_rank 24 (nI r), ab_up3 b_dims 72 (yb_bt x0) (yb_bt x1) (yb_bt x2), b_shown, b_tensorOf, b_view, b_exists, b_kind, b_first, b_second, b_owner, b_parts, b_partCount, b_value, b_slopeOf, b_order, b_slopes)) : wpY_shapeNew post (c_cells, c_slopeCount, b_used, b_rank, b_dims, b_shown, b_tensorOf, b_view, b_exists, b_kind, b_first, b_second, b_owner, b_parts, b_partCount, b_value, b_slopeOf, b_order, b_slopes) (nI r) x0 x1 x2 := by
  refine fun R hR D hD E hE F hF => ?_
  rw [ab_vb2 hr] at hR
  subst hR hD hE hF
  rw [show upd (upd (upd b_dims 72 (vp_nar .byte x0.toInt8.toInt32)) 73 (vp_nar .byte x1.toInt8.toInt32)) 74 (vp_nar .byte x2.toInt8.toInt32) = ab_up3 b_dims 72 (yb_bt x0) (yb_bt x1) (yb_bt x2) from ab_u3s]
  exact h
theorem yb_part {post : SY → Prop} {e c q x : Nat} (he : e < 64) (hs : b_shown (1536 + e) = nI c) (hc : c < 320) (hq : b_partCount c = nI q) (hq8 : q < 8) (hx : x < 320) (h : post (c_cells, c_slopeCount, b_used, b_rank, b_dims, b_shown, b_tensorOf, b_view, b_exists, b_kind, b_first, b_second, b_owner, upd b_parts (8 * c + q) (nI x), upd b_partCount c (nI (q + 1)), b_value, b_slopeOf, b_order, b_slopes)) : wpY_part post (c_cells, c_slopeCount, b_used, b_rank, b_dims, b_shown, b_tensorOf, b_view, b_exists, b_kind, b_first, b_second, b_owner, b_parts, b_partCount, b_value, b_slopeOf, b_order, b_slopes) (nI e) (nI x) := by
  have e1 : (1536 : Int32) + nI e = nI (1536 + e) := nI_add 1536 e
  have cc : (nI c).toNatClampNeg = c := nI_clamp (by omega)
  have e2 : 8 * nI c + nI q = nI (8 * c + q) := by
    show nI 8 * nI c + nI q = _
    rw [pk_mul, nI_add]
  have hv : vp_in (nI c) 320 := vp_in_nI hc (by decide)
  refine ⟨ab_vin e1 (by omega) (by decide), nm_r (e' := nI c) (by rw [e1, nI_clamp (by omega), hs]) ⟨hv, ?_⟩⟩
  rw [cc, hq, e2, nI_clamp (by omega)]
  refine ⟨vp_in_nI (by omega) (by decide), fun P hP => ⟨hv, hv, fun C hC => ?_⟩⟩
  rw [ab_vs2 (by omega)] at hP
  rw [nI_1, ab_vb2 (by omega)] at hC
  subst hP hC
  exact h
end
end
section
def yb_al (O0 P0 V0 R0 S0 : Nat → Int32) (s c e : Nat) (f : Nat → Nat) (O P V R S : Nat → Int32) : Prop :=
  (∀ i, i < e → f i < 320 ∧ O0 (f i) < 0) ∧ (∀ i j, i < e → j < e → f i = f j → i = j) ∧ (∀ i, i < e → O (f i) = nI s ∧ P (f i) = 0 ∧ V (f i) = 0) ∧ (∀ j, (∀ i, i < e → j ≠ f i) → O j = O0 j ∧ P j = P0 j ∧ V j = V0 j) ∧ (∀ i, i < e → R (c + i) = nI (f i) ∧ S (1536 + i) = nI (f i)) ∧ (∀ j, j < c → R j = R0 j) ∧ (∀ j, j < 1536 → S j = S0 j)
theorem yb_al0 {O0 P0 V0 R0 S0 : Nat → Int32} {s c : Nat} {f : Nat → Nat} : yb_al O0 P0 V0 R0 S0 s c 0 f O0 P0 V0 R0 S0 :=
  ⟨fun _ h => absurd h (by omega), fun _ _ h => absurd h (by omega), fun _ h => absurd h (by omega), fun _ _ => ⟨rfl, rfl, rfl⟩, fun _ h => absurd h (by omega), fun _ _ => rfl, fun _ _ => rfl⟩
theorem yb_al1 {O0 P0 V0 R0 S0 O P V R S : Nat → Int32} {s c e g : Nat} {f : Nat → Nat} (hs : s < 32) (hg : g < 320) (hf : O g < 0) (H : yb_al O0 P0 V0 R0 S0 s c e f O P V R S) : yb_al O0 P0 V0 R0 S0 s c (e + 1) (ab_fu f e g) (upd O g (nI s)) (upd P g 0) (upd V g 0) (upd R (c + e) (nI g)) (upd S (1536 + e) (nI g)) := by
  obtain ⟨h1, h2, h3, h4, h5, h6, h7⟩ := H
  have hne : ∀ i, i < e → g ≠ f i := by
    intro i hi z
    rw [z, (h3 i hi).1] at hf
    exact nI_pos (by omega) hf
  have fn : ∀ i, i < e → ab_fu f e g i = f i := fun i hi => ab_fun (by omega)
  have fe : ab_fu f e g e = g := ab_fus
  refine ⟨?_, ?_, ?_, ?_, ?_, ?_, ?_⟩
  · intro i hi
    by_cases z : i = e
    · rw [z, fe]; exact ⟨hg, (h4 g hne).1 ▸ hf⟩
    · rw [fn i (by omega)]; exact h1 i (by omega)
  · intro i j hi hj
    by_cases z : i = e
    · by_cases y : j = e
      · omega
      · rw [z, fe, fn j (by omega)]; intro q; exact absurd q (hne j (by omega))
    · by_cases y : j = e
      · rw [y, fe, fn i (by omega)]; intro q; exact absurd q.symm (hne i (by omega))
      · rw [fn i (by omega), fn j (by omega)]; exact h2 i j (by omega) (by omega)
  · intro i hi
    by_cases z : i = e
    · rw [z, fe, pk_us, pk_us, pk_us]; exact ⟨rfl, rfl, rfl⟩
    · have := hne i (by omega)
      rw [fn i (by omega), pk_un (Ne.symm this), pk_un (Ne.symm this), pk_un (Ne.symm this)]; exact h3 i (by omega)
  · intro j hj
    have q : j ≠ g := by have := hj e (by omega); rw [fe] at this; exact this
    rw [pk_un q, pk_un q, pk_un q]
    refine h4 j (fun i hi => ?_)
    have := hj i (by omega)
    rw [fn i hi] at this; exact this
  · intro i hi
    by_cases z : i = e
    · rw [z, fe, pk_us, pk_us]; exact ⟨rfl, rfl⟩
    · rw [fn i (by omega), pk_un (by omega), pk_un (by omega)]; exact h5 i (by omega)
  · intro j hj; rw [pk_un (by omega)]; exact h6 j hj
  · intro j hj; rw [pk_un (by omega)]; exact h7 j hj
theorem yb_free {O0 P0 V0 R0 S0 O P V R S : Nat → Int32} {s c e x : Nat} {f : Nat → Nat} {L : List Nat} (hL : ∀ j, j < 320 → ¬ O0 j < 0 → j ∈ L) (hc : L.length = c) (hce : c + e < 320) (hx : ∀ j, j < x → ¬ O j < 0) (H : yb_al O0 P0 V0 R0 S0 s c e f O P V R S) : ∃ g, x ≤ g ∧ g < 320 ∧ O g < 0 ∧ ∀ j, j < g → ¬ O j < 0 := by
  obtain ⟨h1, h2, h3, h4, h5, h6, h7⟩ := H
  have hex : ∃ g, g < 320 ∧ O g < 0 := by
    apply Classical.byContradiction
    intro hno
    have := ab_pg1 320 (L ++ (List.range e).map f) (fun j hj => by
      rw [List.mem_append]
      by_cases z : ∃ i, i < e ∧ j = f i
      · obtain ⟨i, hi, rfl⟩ := z
        exact Or.inr (List.mem_map.mpr ⟨i, List.mem_range.mpr hi, rfl⟩)
      · refine Or.inl (hL j hj (fun hj0 => hno ⟨j, hj, ?_⟩))
        rw [(h4 j (fun i hi q => z ⟨i, hi, q⟩)).1]; exact hj0)
    rw [List.length_append, List.length_map, List.length_range] at this
    omega
  obtain ⟨g, hg, hl⟩ := pk_least (fun g => g < 320 ∧ O g < 0) hex
  refine ⟨g, ?_, hg.1, hg.2, fun j hj q => hl j hj ⟨by omega, q⟩⟩
  apply Nat.le_of_not_lt
  intro z
  exact hx g z hg.2
section
variable {c_cells c_slopeCount : Int32} {b_used b_rank b_dims b_shown b_tensorOf b_view b_exists b_kind b_first b_second b_owner b_parts b_partCount b_value b_slopeOf b_order b_slopes : Nat → Int32}
theorem yb_handOver {post : Int32 → SY → Prop} {v t r : Nat} {pv : Int32} (hv : v < 24) (h0 : b_used v = 0) (hl : ∀ j, j < v → ¬ b_used j = 0) (ht : t < 32) (hr : b_rank 24 = nI r) (hr3 : r ≤ 3) (h : ∀ D S : Nat → Int32, (∀ a, a < 3 → D (3 * v + a) = vp_nar .byte (b_dims (72 + a))) → (∀ j, (j < 3 * v ∨ 3 * v + 3 ≤ j) → D j = b_dims j) → (∀ e, e < 64 → S (64 * v + e) = vp_nar .short (b_shown (1536 + e))) → (∀ j, (j < 64 * v ∨ 64 * v + 64 ≤ j) → S j = b_shown j) → post (nI v) (c_cells, c_slopeCount, upd b_used v 1, upd b_rank v (nI r), D, S, upd b_tensorOf v (nI t), upd b_view v (vp_nar .boolean pv), b_exists, b_kind, b_first, b_second, b_owner, b_parts, b_partCount, b_value, b_slopeOf, b_order, b_slopes)) : wpY_handOver post (c_cells, c_slopeCount, b_used, b_rank, b_dims, b_shown, b_tensorOf, b_view, b_exists, b_kind, b_first, b_second, b_owner, b_parts, b_partCount, b_value, b_slopeOf, b_order, b_slopes) pv (nI t) := by
  have cv : (nI v).toNatClampNeg = v := nI_clamp (by omega)
  have hv25 : vp_in (nI v) 25 := vp_in_nI (by omega) (by decide)
  unfold wpY_handOver
  refine yb_freeHandle_s hv h0 hl ⟨hv25, fun U hU => ⟨hv25, fun W hW => ⟨hv25, fun T hT => ⟨hv25, fun R hR => ⟨4, ?_⟩⟩⟩⟩⟩
  rw [cv] at hU hW hT hR
  rw [ab_b1] at hU
  rw [ab_vb2 (by omega)] at hT
  rw [hr, ab_vb (by omega)] at hR
  subst hU hW hT hR
  have L : ∀ (D : Nat → Int32), (∀ a, a < 3 → D (3 * v + a) = vp_nar .byte (b_dims (72 + a))) → (∀ j, (j < 3 * v ∨ 3 * v + 3 ≤ j) → D j = b_dims j) → ∀ d j : Nat, ∀ S : Nat → Int32, j + d = 64 → (∀ e, e < j → S (64 * v + e) = vp_nar .short (b_shown (1536 + e))) → (∀ i, (i < 64 * v ∨ 64 * v + 64 ≤ i) → S i = b_shown i) → wY_handOver_79 post (nI v) c_cells c_slopeCount (d + 1) (nI j) (upd b_used v 1) (upd b_rank v (nI r)) D S (upd b_tensorOf v (nI t)) (upd b_view v (vp_nar .boolean pv)) b_exists b_kind b_first b_second b_owner b_parts b_partCount b_value b_slopeOf b_order b_slopes := by
    intro D hD1 hD2 d
    induction d with
    | zero =>
      intro j S hj h1 h2
      refine br_t (nI_le (a := 64) (by omega) (by omega)) (h D S hD1 hD2 ?_ h2)
      intro e he; exact h1 e (by omega)
    | succ d ih =>
      intro j S hj h1 h2
      have e1 : (1536 : Int32) + nI j = nI (1536 + j) := nI_add 1536 j
      have c1 : ((1536 : Int32) + nI j).toNatClampNeg = 1536 + j := by rw [e1]; exact nI_clamp (by omega)
      have c2 : (64 * nI v + nI j).toNatClampNeg = 64 * v + j := by rw [ab_i64]; exact nI_clamp (by omega)
      refine br_f (nI_ge (b := 64) (by omega) (by decide)) ⟨ab_vin e1 (by omega) (by decide), ab_vin ab_i64 (by omega) (by decide), fun Z hZ => nm_r (nI_1 j) (ih (j + 1) Z (by omega) ?_ ?_)⟩
      · intro e he
        rw [hZ, c1, c2]
        by_cases z : e = j
        · rw [z, pk_us, h2 (1536 + j) (by omega)]
        · rw [pk_un (by omega)]; exact h1 e (by omega)
      · intro i hi
        rw [hZ, c2, pk_un (by omega)]; exact h2 i hi
  have s1 : ∀ a, a < 3 → ∀ X : Nat → Int32, (∀ j, (j < 3 * v ∨ 3 * v + 3 ≤ j) → X j = b_dims j) → vp_in (72 + nI a) 75 ∧ vp_in (3 * nI v + nI a) 75 ∧ upd X (3 * nI v + nI a).toNatClampNeg (vp_nar .byte (X (72 + nI a).toNatClampNeg)) = upd X (3 * v + a) (vp_nar .byte (b_dims (72 + a))) := by
    intro a ha X hX
    have e1 : (72 : Int32) + nI a = nI (72 + a) := nI_add 72 a
    refine ⟨ab_vin e1 (by omega) (by decide), ab_vin ab_iy (by omega) (by decide), ?_⟩
    rw [e1, ab_iy, nI_clamp (by omega), nI_clamp (by omega), hX (72 + a) (by omega)]
  obtain ⟨i1, i2, i3⟩ := s1 0 (by omega) b_dims (fun _ _ => rfl)
  refine br_f (by decide) ⟨i1, i2, fun D0 hD0 => nm_r (nI_1 0) ?_⟩
  replace hD0 := hD0.trans i3
  obtain ⟨j1, j2, j3⟩ := s1 1 (by omega) D0 (fun j hj => by rw [hD0, pk_un (by omega)])
  refine br_f (by decide) ⟨j1, j2, fun D1 hD1 => nm_r (nI_1 1) ?_⟩
  replace hD1 := hD1.trans j3
  obtain ⟨k1, k2, k3⟩ := s1 2 (by omega) D1 (fun j hj => by rw [hD1, pk_un (by omega), hD0, pk_un (by omega)])
  refine br_f (by decide) ⟨k1, k2, fun D2 hD2 => nm_r (nI_1 2) ?_⟩
  replace hD2 := hD2.trans k3
  refine br_t (by decide) ⟨65, L D2 ?_ ?_ 64 0 b_shown (by omega) (fun e he => absurd he (by omega)) (fun _ _ => rfl)⟩
  · intro a ha
    rcases (show a = 0 ∨ a = 1 ∨ a = 2 by omega) with rfl | rfl | rfl
    · rw [hD2, pk_un (by omega), hD1, pk_un (by omega), hD0, pk_us]
    · rw [hD2, pk_un (by omega), hD1, pk_us]
    · rw [hD2, pk_us]
  · intro j hj
    rw [hD2, pk_un (by omega), hD1, pk_un (by omega), hD0, pk_un (by omega)]
theorem yb_scan {post : Int32 → SY → Prop} {x1 x2 x3 : Int32} {t : Nat} (ht : t ≤ 32) (hl : ∀ j, j < t → ¬ b_exists j = 0) (hx : t = 32 ∨ b_exists t = 0) (h : wY_tensor_26 post x1 x2 x3 (nI t) c_cells c_slopeCount b_used b_rank b_dims b_shown b_tensorOf b_view b_exists b_kind b_first b_second b_owner b_parts b_partCount b_value b_slopeOf b_order b_slopes) : wpY_tensor post (c_cells, c_slopeCount, b_used, b_rank, b_dims, b_shown, b_tensorOf, b_view, b_exists, b_kind, b_first, b_second, b_owner, b_parts, b_partCount, b_value, b_slopeOf, b_order, b_slopes) x1 x2 x3 := by
  have H : ∀ d j : Nat, j + d = t → wY_tensor_3 post x1 x2 x3 c_cells c_slopeCount b_used b_rank b_dims b_shown b_tensorOf b_view b_exists b_kind b_first b_second b_owner b_parts b_partCount b_value b_slopeOf b_order b_slopes (d + 1) (nI j) := by
    intro d
    induction d with
    | zero =>
      intro j hj
      rw [show j = t by omega]
      rcases hx with z | z
      · exact br_t (by rw [z]; exact nI_le (a := 32) (by omega) (by decide)) h
      · refine br_c (fun _ => h) (fun hn => ?_)
        have : t < 32 := by
          apply Nat.lt_of_not_le; intro q; exact hn (nI_le (a := 32) q (by omega))
        refine ⟨vp_in_nI this (by decide), br_t ?_ h⟩
        rw [nI_clamp (by omega)]; exact z
    | succ d ih =>
      intro j hj
      refine br_f (nI_ge (b := 32) (by omega) (by decide)) ⟨vp_in_nI (by omega) (by decide), br_f ?_ (nm_r (nI_1 j) (ih (j + 1) (by omega)))⟩
      rw [nI_clamp (by omega)]; exact hl j (by omega)
  exact ⟨t + 1, H t 0 (by omega)⟩
theorem yb_tensor_n {post : Int32 → SY → Prop} {x1 x2 x3 : Int32} {rk c : Nat} {d : Nat → Nat} (H : yb_row b_rank b_dims 24 rk d) (hc : c_cells = nI c) (hc2 : c ≤ 320) (hno : (∀ t, t < 32 → ¬ b_exists t = 0) ∨ 320 < c + d 0 * d 1 * d 2 ∨ (∀ j, j < 24 → ¬ b_used j = 0)) (h : post (-1) (c_cells, c_slopeCount, b_used, b_rank, b_dims, b_shown, b_tensorOf, b_view, b_exists, b_kind, b_first, b_second, b_owner, b_parts, b_partCount, b_value, b_slopeOf, b_order, b_slopes)) : wpY_tensor post (c_cells, c_slopeCount, b_used, b_rank, b_dims, b_shown, b_tensorOf, b_view, b_exists, b_kind, b_first, b_second, b_owner, b_parts, b_partCount, b_value, b_slopeOf, b_order, b_slopes) x1 x2 x3 := by
  have hs := ab_sz (H.2.2.2.2 0 (by omega)).2 (H.2.2.2.2 1 (by omega)).2 (H.2.2.2.2 2 (by omega)).2
  have K : ∀ t : Nat, t ≤ 32 → (t = 32 ∨ 320 < c + d 0 * d 1 * d 2 ∨ (∀ j, j < 24 → ¬ b_used j = 0)) → wY_tensor_26 post x1 x2 x3 (nI t) c_cells c_slopeCount b_used b_rank b_dims b_shown b_tensorOf b_view b_exists b_kind b_first b_second b_owner b_parts b_partCount b_value b_slopeOf b_order b_slopes := by
    intro t ht hh
    refine yb_size (h := 24) (by omega) H (br_c (fun _ => h) (fun hn => br_c (fun _ => h) (fun hm => ?_)))
    have ht2 : t ≠ 32 := fun z => hn (by rw [z]; rfl)
    have hm2 : ¬ 320 < c + d 0 * d 1 * d 2 := by
      intro z
      refine hm ?_
      rw [hc, nI_add]
      exact nI_lt (a := 320) z (by omega)
    rcases hh with z | z | z
    · exact absurd z ht2
    · exact absurd z hm2
    · exact yb_freeHandle_n z (br_t rfl h)
  rcases ab_lst b_exists 32 with ⟨t, h1, h2, h3⟩ | hn
  · refine yb_scan (by omega) h3 (Or.inr h2) (K t (by omega) ?_)
    rcases hno with z | z | z
    · exact absurd h2 (z t h1)
    · exact Or.inr (Or.inl z)
    · exact Or.inr (Or.inr z)
  · exact yb_scan (t := 32) (by omega) hn (Or.inl rfl) (K 32 (by omega) (Or.inl rfl))
end
end
section
section
variable {c_cells c_slopeCount : Int32} {b_used b_rank b_dims b_shown b_tensorOf b_view b_exists b_kind b_first b_second b_owner b_parts b_partCount b_value b_slopeOf b_order b_slopes : Nat → Int32}
theorem yb_get {post : Int32 → SY → Prop} {J : Int32 → Int32 → Int32 → (Nat → Int32) → (Nat → Int32) → (Nat → Int32) → (Nat → Int32) → (Nat → Int32) → (Nat → Int32) → (Nat → Int32) → (Nat → Int32) → (Nat → Int32) → (Nat → Int32) → (Nat → Int32) → (Nat → Int32) → (Nat → Int32) → (Nat → Int32) → (Nat → Int32) → (Nat → Int32) → (Nat → Int32) → Prop} {s g e c : Nat} {x5 : Int32} (hs : s < 32) (hg : g < 320) (he : e < 64) (hc : c < 320) (h0 : b_owner g < 0) (hcc : c_cells = nI c) (h : J (nI g) (nI (e + 1)) (nI (c + 1)) b_used b_rank b_dims (upd b_shown (1536 + e) (nI g)) b_tensorOf b_view b_exists b_kind b_first b_second (upd b_owner g (nI s)) b_parts (upd b_partCount g 0) (upd b_value g 0) b_slopeOf (upd b_order c (nI g)) b_slopes) : ∀ d x : Nat, x + d = g → (∀ j, x ≤ j → j < g → ¬ b_owner j < 0) → wY_tensor_113 post J (nI s) x5 (nI e) c_cells c_slopeCount b_used b_rank b_dims b_shown b_tensorOf b_view b_exists b_kind b_first b_second b_owner b_parts b_partCount b_value b_slopeOf b_order b_slopes (d + 1) (nI x) := by
  intro d
  induction d with
  | zero =>
    intro x hx hl
    have hxg : x = g := by omega
    subst hxg
    have cx : (nI x).toNatClampNeg = x := nI_clamp (by omega)
    have hv : vp_in (nI x) 320 := vp_in_nI hg (by decide)
    have e1 : (1536 : Int32) + nI e = nI (1536 + e) := nI_add 1536 e
    have c1 : ((1536 : Int32) + nI e).toNatClampNeg = 1536 + e := by rw [e1]; exact nI_clamp (by omega)
    have cc : c_cells.toNatClampNeg = c := by rw [hcc]; exact nI_clamp (by omega)
    refine ⟨hv, br_t (by rw [cx]; exact h0) ⟨hv, fun O hO => ⟨hv, fun P hP => ⟨hv, fun V hV => nm_r (by rw [hcc, nI_1]) ⟨ab_vin hcc hc (by decide), fun R hR => ⟨ab_vin e1 (by omega) (by decide), fun S hS => nm_r (nI_1 e) ?_⟩⟩⟩⟩⟩⟩
    rw [cx, ab_vb2 (by omega)] at hO
    rw [cx, show vp_nar .byte 0 = 0 from ab_vb (n := 0) (by omega)] at hP
    rw [cx] at hV
    rw [cc, ab_vs2 (by omega)] at hR
    rw [c1, ab_vs2 (by omega)] at hS
    subst hO hP hV hR hS
    exact h
  | succ d ih =>
    intro x hx hl
    refine ⟨vp_in_nI (by omega) (by decide), br_f ?_ (nm_r (nI_1 x) (ih (x + 1) (by omega) (fun j h1 h2 => hl j (by omega) h2)))⟩
    rw [nI_clamp (by omega)]; exact hl x (by omega) (by omega)
theorem yb_tensor_s {post : Int32 → SY → Prop} {x2 x3 : Int32} {rk c s v kw : Nat} {d : Nat → Nat} {L : List Nat} (H : yb_row b_rank b_dims 24 rk d) (hc : c_cells = nI c) (hce : c + d 0 * d 1 * d 2 ≤ 320) (hs : s < 32) (hs0 : b_exists s = 0) (hsl : ∀ j, j < s → ¬ b_exists j = 0) (hv : v < 24) (hv0 : b_used v = 0) (hvl : ∀ j, j < v → ¬ b_used j = 0) (hkw : kw < 128) (hL : ∀ j, j < 320 → ¬ b_owner j < 0 → j ∈ L) (hLc : L.length = c) (h : ∀ (f : Nat → Nat) (O P V R S : Nat → Int32), yb_al b_owner b_partCount b_value b_order b_shown s c (d 0 * d 1 * d 2) f O P V R S → post (nI s) (nI (c + d 0 * d 1 * d 2), c_slopeCount, b_used, b_rank, b_dims, S, b_tensorOf, b_view, upd b_exists s 1, upd b_kind s (nI kw), upd b_first s (yb_bt x2), upd b_second s (yb_bt x3), O, b_parts, P, V, b_slopeOf, R, b_slopes)) : wpY_tensor post (c_cells, c_slopeCount, b_used, b_rank, b_dims, b_shown, b_tensorOf, b_view, b_exists, b_kind, b_first, b_second, b_owner, b_parts, b_partCount, b_value, b_slopeOf, b_order, b_slopes) (nI kw) x2 x3 := by
  have hn := ab_sz (H.2.2.2.2 0 (by omega)).2 (H.2.2.2.2 1 (by omega)).2 (H.2.2.2.2 2 (by omega)).2
  refine yb_scan (t := s) (by omega) hsl (Or.inr hs0) ?_
  refine yb_size (h := 24) (by omega) H (br_f ?_ (br_f ?_ (yb_freeHandle_s hv hv0 hvl (br_f ?_ ?_))))
  · intro z
    have := (nI_eq (a := s) (b := 32) (by omega) (by decide)).mp z
    omega
  · rw [hc, nI_add]; exact nI_nlt (a := 320) hce (by decide)
  · intro z
    have := (nI_eq (a := v) (b := 24) (by omega) (by decide)).mp z
    omega
  have hvs : vp_in (nI s) 32 := vp_in_nI hs (by decide)
  have cs : (nI s).toNatClampNeg = s := nI_clamp (by omega)
  generalize hN : d 0 * d 1 * d 2 = N at *
  refine ⟨hvs, fun E hE => ⟨hvs, fun K hK => ⟨hvs, fun F hF => ⟨hvs, fun G hG => ⟨N + 1, ?_⟩⟩⟩⟩⟩
  rw [cs, ab_b1] at hE
  rw [cs, ab_vb2 hkw] at hK
  rw [cs] at hF hG
  have L2 : ∀ q e x : Nat, ∀ (f : Nat → Nat) (O P V R S : Nat → Int32), e + q = N → (∀ j, j < x → ¬ O j < 0) → x ≤ 320 → yb_al b_owner b_partCount b_value b_order b_shown s c e f O P V R S → wY_tensor_106 post (nI s) (nI N) c_slopeCount (q + 1) (nI x) (nI e) (nI (c + e)) b_used b_rank b_dims S b_tensorOf b_view E K F G O b_parts P V b_slopeOf R b_slopes := by
    intro q
    induction q with
    | zero =>
      intro e x f O P V R S he hx hx2 A
      refine br_t (nI_le (by omega) (by omega)) ?_
      have : e = N := by omega
      subst this
      subst hE hK hF hG
      exact h f O P V R S A
    | succ q ih =>
      intro e x f O P V R S he hx hx2 A
      obtain ⟨g, g1, g2, g3, g4⟩ := yb_free hL hLc (by omega) hx A
      refine br_f (nI_ge (by omega) (by omega)) ⟨g - x + 1, yb_get hs g2 (by omega) (by omega) g3 rfl ?_ (g - x) x (by omega) (fun j _ hj => g4 j hj)⟩
      refine ih (e + 1) g (ab_fu f e g) _ _ _ _ _ (by omega) ?_ (by omega) (yb_al1 hs g2 g3 A)
      intro j hj
      rw [pk_un (by omega)]; exact g4 j hj
  rw [hc]
  exact L2 N 0 0 (fun _ => 0) b_owner b_partCount b_value b_order b_shown (by omega) (fun j hj => absurd hj (by omega)) (by omega) yb_al0
end
end
section
theorem ab_u3r0 {f : Nat → Int32} {k : Nat} {a b c : Int32} : upd (upd (upd f (k + 2) c) (k + 1) b) (k + 0) a = ab_up3 f k a b c := ab_u3r
def ab_pk (rk : Nat) (d : Nat → Nat) : Nat := rk + (if 0 < rk then 8 * d 0 else 0) + (if 1 < rk then 64 * d 1 else 0) + (if 2 < rk then 512 * d 2 else 0)
def ab_sh3 (rk : Nat) (d : Nat → Nat) : Prop := rk ≤ 3 ∧ (∀ a, rk ≤ a → a < 3 → d a = 1) ∧ (∀ a, a < 3 → 1 ≤ d a ∧ d a ≤ 4)
theorem ab_pkf {rk : Nat} {d : Nat → Nat} (H : ab_sh3 rk d) : ab_pk rk d < 4096 ∧ ab_pk rk d % 8 = rk ∧ (0 < rk → ab_pk rk d / 8 % 8 = d 0) ∧ (1 < rk → ab_pk rk d / 64 % 8 = d 1) ∧ (2 < rk → ab_pk rk d / 512 % 8 = d 2) := by
  obtain ⟨h1, h2, h3⟩ := H
  have a0 := h3 0 (by omega)
  have a1 := h3 1 (by omega)
  have a2 := h3 2 (by omega)
  unfold ab_pk
  rcases (show rk = 0 ∨ rk = 1 ∨ rk = 2 ∨ rk = 3 by omega) with rfl | rfl | rfl | rfl <;> simp <;> omega
def ab_st (rk : Nat) (d : Nat → Nat) (a : Nat) : Nat := if a < rk then (if a = 0 then d 1 * d 2 else if a = 1 then d 2 else 1) else 0
section
variable {f_slotsTaken f_elementsTaken f_slopeCount : Int32} {a_handleTaken a_handleIsView a_windowRank a_windowSlot a_windowStart a_windowDimension a_windowStride a_slotSize a_slotKind a_slotTerms a_slotNeeded a_slotsByAge a_values a_derivatives a_firstPlaces a_secondPlaces a_assigned a_slopes : Nat → Int32}
theorem xw_shapeSize_s {post : Int32 → Prop} {n a rk q p dv : Nat} (hk : rk ≤ 3) (ha : a < rk) (hq : q < 4096) (hd : q / 2 ^ (3 + 3 * a) % 8 = dv) (hn : wX_shapeSize_10 post (nI q) (nI rk) f_slotsTaken f_elementsTaken f_slopeCount a_handleTaken a_handleIsView a_windowRank a_windowSlot a_windowStart a_windowDimension a_windowStride a_slotSize a_slotKind a_slotTerms a_slotNeeded a_slotsByAge a_values a_derivatives a_firstPlaces a_secondPlaces a_assigned a_slopes n (nI (p * dv)) (nI (a + 1))) : wX_shapeSize_10 post (nI q) (nI rk) f_slotsTaken f_elementsTaken f_slopeCount a_handleTaken a_handleIsView a_windowRank a_windowSlot a_windowStart a_windowDimension a_windowStride a_slotSize a_slotKind a_slotTerms a_slotNeeded a_slotsByAge a_values a_derivatives a_firstPlaces a_secondPlaces a_assigned a_slopes (n + 1) (nI p) (nI a) := by
  refine br_f (nI_ge ha (by omega)) (xw_dimIn (by omega) hq (nm_r (e' := nI (p * dv)) ?_ (nm_r (nI_1 a) hn)))
  rw [hd, pk_mul]
theorem xw_shapeSize_x {post : Int32 → Prop} {n a rk q p : Nat} (hk : rk ≤ 3) (ha : a = rk) (hp : post (nI p)) : wX_shapeSize_10 post (nI q) (nI rk) f_slotsTaken f_elementsTaken f_slopeCount a_handleTaken a_handleIsView a_windowRank a_windowSlot a_windowStart a_windowDimension a_windowStride a_slotSize a_slotKind a_slotTerms a_slotNeeded a_slotsByAge a_values a_derivatives a_firstPlaces a_secondPlaces a_assigned a_slopes (n + 1) (nI p) (nI a) :=
  br_t (nI_le (by omega) (by omega)) hp
theorem xw_shapeSize {post : Int32 → Prop} {rk : Nat} {d : Nat → Nat} (H : ab_sh3 rk d) (hp : post (nI (d 0 * d 1 * d 2))) : wpX_shapeSize post (f_slotsTaken, f_elementsTaken, f_slopeCount, a_handleTaken, a_handleIsView, a_windowRank, a_windowSlot, a_windowStart, a_windowDimension, a_windowStride, a_slotSize, a_slotKind, a_slotTerms, a_slotNeeded, a_slotsByAge, a_values, a_derivatives, a_firstPlaces, a_secondPlaces, a_assigned, a_slopes) (nI (ab_pk rk d)) := by
  obtain ⟨f1, f2, f3, f4, f5⟩ := ab_pkf H
  obtain ⟨hk, h1, hb⟩ := H
  refine nm_r (e' := nI rk) ?_ ⟨rk + 1, ?_⟩
  · rw [pk_andN (by omega) 3 (by decide)]
    exact congrArg nI f2
  generalize hq : ab_pk rk d = q at *
  rcases (show rk = 0 ∨ rk = 1 ∨ rk = 2 ∨ rk = 3 by omega) with rfl | rfl | rfl | rfl
  · rw [h1 0 (by omega) (by omega), h1 1 (by omega) (by omega), h1 2 (by omega) (by omega)] at hp
    exact xw_shapeSize_x (a := 0) (p := 1) hk rfl hp
  · rw [h1 1 (by omega) (by omega), h1 2 (by omega) (by omega), Nat.mul_one, Nat.mul_one] at hp
    exact xw_shapeSize_s (a := 0) (p := 1) hk (by omega) f1 (f3 (by omega)) (xw_shapeSize_x hk rfl (by rw [Nat.one_mul]; exact hp))
  · rw [h1 2 (by omega) (by omega), Nat.mul_one] at hp
    exact xw_shapeSize_s (a := 0) (p := 1) hk (by omega) f1 (f3 (by omega)) (xw_shapeSize_s hk (by omega) f1 (f4 (by omega)) (xw_shapeSize_x hk rfl (by rw [Nat.one_mul]; exact hp)))
  · exact xw_shapeSize_s (a := 0) (p := 1) hk (by omega) f1 (f3 (by omega)) (xw_shapeSize_s hk (by omega) f1 (f4 (by omega)) (xw_shapeSize_s hk (by omega) f1 (f5 (by omega)) (xw_shapeSize_x hk rfl (by rw [Nat.one_mul]; exact hp))))
theorem xw_showSlot_s {post : SX → Prop} {n w a rk q dv : Nat} {x y : Int32} (hw : w < 88) (hk : rk ≤ 3) (ha : a < rk) (hq : q < 4096) (hd : q / 2 ^ (3 + 3 * a) % 8 = dv) (hy : nI a + (-1) = y) (hn : wX_showSlot_37 post (nI w) (nI q) (nI rk) n (x * nI dv) y f_slotsTaken f_elementsTaken f_slopeCount a_handleTaken a_handleIsView a_windowRank a_windowSlot a_windowStart (upd a_windowDimension (3 * w + a) (nI dv)) (upd a_windowStride (3 * w + a) x) a_slotSize a_slotKind a_slotTerms a_slotNeeded a_slotsByAge a_values a_derivatives a_firstPlaces a_secondPlaces a_assigned a_slopes) : wX_showSlot_37 post (nI w) (nI q) (nI rk) (n + 1) x (nI a) f_slotsTaken f_elementsTaken f_slopeCount a_handleTaken a_handleIsView a_windowRank a_windowSlot a_windowStart a_windowDimension a_windowStride a_slotSize a_slotKind a_slotTerms a_slotNeeded a_slotsByAge a_values a_derivatives a_firstPlaces a_secondPlaces a_assigned a_slopes := by
  refine br_f (nI_pos (by omega)) (br_f (nI_ge ha (by omega)) (xw_dimIn (by omega) hq ?_))
  rw [hd]
  exact xw_setAxis hw (by omega) (nm_e (nm_r hy hn))
theorem xw_showSlot_o {post : SX → Prop} {n w a rk q : Nat} {x y : Int32} (hw : w < 88) (ha : rk ≤ a) (ha3 : a < 3) (hy : nI a + (-1) = y) (hn : wX_showSlot_37 post (nI w) (nI q) (nI rk) n x y f_slotsTaken f_elementsTaken f_slopeCount a_handleTaken a_handleIsView a_windowRank a_windowSlot a_windowStart (upd a_windowDimension (3 * w + a) 1) (upd a_windowStride (3 * w + a) 0) a_slotSize a_slotKind a_slotTerms a_slotNeeded a_slotsByAge a_values a_derivatives a_firstPlaces a_secondPlaces a_assigned a_slopes) : wX_showSlot_37 post (nI w) (nI q) (nI rk) (n + 1) x (nI a) f_slotsTaken f_elementsTaken f_slopeCount a_handleTaken a_handleIsView a_windowRank a_windowSlot a_windowStart a_windowDimension a_windowStride a_slotSize a_slotKind a_slotTerms a_slotNeeded a_slotsByAge a_values a_derivatives a_firstPlaces a_secondPlaces a_assigned a_slopes :=
  br_f (nI_pos (by omega)) (br_t (nI_le ha (by omega)) (xw_setAxis hw ha3 (nm_r hy hn)))
theorem xw_showSlot {post : SX → Prop} {w s rk : Nat} {d : Nat → Nat} (hw : w < 88) (H : ab_sh3 rk d) (h : post (f_slotsTaken, f_elementsTaken, f_slopeCount, a_handleTaken, a_handleIsView, upd a_windowRank w (nI rk), upd a_windowSlot w (nI s), upd a_windowStart w (nI (64 * s)), ab_up3 a_windowDimension (3 * w) (nI (d 0)) (nI (d 1)) (nI (d 2)), ab_up3 a_windowStride (3 * w) (nI (ab_st rk d 0)) (nI (ab_st rk d 1)) (nI (ab_st rk d 2)), a_slotSize, a_slotKind, a_slotTerms, a_slotNeeded, a_slotsByAge, a_values, a_derivatives, a_firstPlaces, a_secondPlaces, a_assigned, a_slopes)) : wpX_showSlot post (f_slotsTaken, f_elementsTaken, f_slopeCount, a_handleTaken, a_handleIsView, a_windowRank, a_windowSlot, a_windowStart, a_windowDimension, a_windowStride, a_slotSize, a_slotKind, a_slotTerms, a_slotNeeded, a_slotsByAge, a_values, a_derivatives, a_firstPlaces, a_secondPlaces, a_assigned, a_slopes) (nI w) (nI s) (nI (ab_pk rk d)) := by
  obtain ⟨f1, f2, f3, f4, f5⟩ := ab_pkf H
  obtain ⟨hk, h1, hb⟩ := H
  have cw : (nI w).toNatClampNeg = w := nI_clamp (by omega)
  have hv : vp_in (nI w) 88 := vp_in_nI hw (by decide)
  refine nm_r (e' := nI rk) ?_ ⟨hv, fun R hR => ⟨hv, fun S hS => ⟨hv, fun T hT => ⟨4, ?_⟩⟩⟩⟩
  · rw [pk_andN (by omega) 3 (by decide)]
    exact congrArg nI f2
  rw [cw] at hR hS hT
  rw [show nI s * 64 = nI (64 * s) from by show nI s * nI 64 = _; rw [pk_mul, Nat.mul_comm]] at hT
  subst hR hS hT
  generalize hq : ab_pk rk d = q at *
  rcases (show rk = 0 ∨ rk = 1 ∨ rk = 2 ∨ rk = 3 by omega) with rfl | rfl | rfl | rfl
  · rw [h1 0 (by omega) (by omega), h1 1 (by omega) (by omega), h1 2 (by omega) (by omega)] at h
    refine xw_showSlot_o (a := 2) hw (by omega) (by omega) (pk_m1 1) (xw_showSlot_o (a := 1) hw (by omega) (by omega) (pk_m1 0) (xw_showSlot_o (a := 0) hw (by omega) (by omega) rfl (br_t (by decide) ?_)))
    rw [ab_u3r0, ab_u3r0]
    exact h
  · rw [h1 1 (by omega) (by omega), h1 2 (by omega) (by omega)] at h
    refine xw_showSlot_o (a := 2) hw (by omega) (by omega) (pk_m1 1) (xw_showSlot_o (a := 1) hw (by omega) (by omega) (pk_m1 0) (xw_showSlot_s (a := 0) hw (by omega) (by omega) f1 (f3 (by omega)) rfl (br_t (by decide) ?_)))
    rw [ab_u3r0, ab_u3r0]
    have e0 : ab_st 1 d 0 = 1 := by unfold ab_st; simp [h1 1 (by omega) (by omega), h1 2 (by omega) (by omega)]
    rw [e0] at h
    exact h
  · rw [h1 2 (by omega) (by omega)] at h
    refine xw_showSlot_o (a := 2) hw (by omega) (by omega) (pk_m1 1) (xw_showSlot_s (a := 1) hw (by omega) (by omega) f1 (f4 (by omega)) (pk_m1 0) (xw_showSlot_s (a := 0) hw (by omega) (by omega) f1 (f3 (by omega)) rfl (br_t (by decide) ?_)))
    rw [ab_u3r0, ab_u3r0]
    have e0 : ab_st 2 d 0 = d 1 := by unfold ab_st; simp [h1 2 (by omega) (by omega)]
    have e1 : ab_st 2 d 1 = 1 := by unfold ab_st; simp [h1 2 (by omega) (by omega)]
    rw [e0, e1] at h
    rw [show (1 : Int32) * nI (d 1) = nI (d 1) from Int32.one_mul _]
    exact h
  · refine xw_showSlot_s (a := 2) hw (by omega) (by omega) f1 (f5 (by omega)) (pk_m1 1) (xw_showSlot_s (a := 1) hw (by omega) (by omega) f1 (f4 (by omega)) (pk_m1 0) (xw_showSlot_s (a := 0) hw (by omega) (by omega) f1 (f3 (by omega)) rfl (br_t (by decide) ?_)))
    rw [ab_u3r0, ab_u3r0]
    rw [show (1 : Int32) * nI (d 2) = nI (d 2) from Int32.one_mul _, pk_mul, Nat.mul_comm (d 2)]
    exact h
theorem xw_makeTensor_n {post : Int32 → SX → Prop} {x y : Int32} {rk c : Nat} {d : Nat → Nat} (H : ab_sh3 rk d) (hc : f_elementsTaken = nI c) (hc2 : c ≤ 320) (hno : (∀ t, t < 32 → ¬ a_slotSize t = 0) ∨ 320 < c + d 0 * d 1 * d 2 ∨ (∀ j, j < 24 → ¬ a_handleTaken j = 0)) (h : post (-1) (f_slotsTaken, f_elementsTaken, f_slopeCount, a_handleTaken, a_handleIsView, a_windowRank, a_windowSlot, a_windowStart, a_windowDimension, a_windowStride, a_slotSize, a_slotKind, a_slotTerms, a_slotNeeded, a_slotsByAge, a_values, a_derivatives, a_firstPlaces, a_secondPlaces, a_assigned, a_slopes)) : wpX_makeTensor post (f_slotsTaken, f_elementsTaken, f_slopeCount, a_handleTaken, a_handleIsView, a_windowRank, a_windowSlot, a_windowStart, a_windowDimension, a_windowStride, a_slotSize, a_slotKind, a_slotTerms, a_slotNeeded, a_slotsByAge, a_values, a_derivatives, a_firstPlaces, a_secondPlaces, a_assigned, a_slopes) x y (nI (ab_pk rk d)) := by
  have hs := ab_sz (H.2.2 0 (by omega)).2 (H.2.2 1 (by omega)).2 (H.2.2 2 (by omega)).2
  unfold wpX_makeTensor
  refine xw_shapeSize H ?_
  rcases ab_lst a_handleTaken 24 with ⟨v, v1, v2, v3⟩ | vn
  · refine xw_freeHandle_s v1 v2 v3 ?_
    rcases ab_lst a_slotSize 32 with ⟨s, s1, s2, s3⟩ | sn
    · refine xw_freeSlot_s s1 s2 s3 (br_f (nI_pos (by omega)) (br_f (nI_pos (by omega)) (br_f ?_ h)))
      rcases hno with z | z | z
      · exact absurd s2 (z s s1)
      · rw [hc, nI_add]; exact nI_ge (a := 320) z (by omega)
      · exact absurd v2 (z v v1)
    · exact xw_freeSlot_n sn (br_f (nI_pos (by omega)) (br_t (by decide) h))
  · refine xw_freeHandle_n vn ?_
    rcases ab_lst a_slotSize 32 with ⟨s, s1, s2, s3⟩ | sn
    · exact xw_freeSlot_s s1 s2 s3 (br_t (by decide) h)
    · exact xw_freeSlot_n sn (br_t (by decide) h)
theorem xw_makeTensor_s {post : Int32 → SX → Prop} {x y : Int32} {rk c m s v : Nat} {d : Nat → Nat} (H : ab_sh3 rk d) (hc : f_elementsTaken = nI c) (hce : c + d 0 * d 1 * d 2 ≤ 320) (hm : f_slotsTaken = nI m) (hm2 : m < 32) (hs : s < 32) (hs0 : a_slotSize s = 0) (hsl : ∀ j, j < s → ¬ a_slotSize j = 0) (hv : v < 24) (hv0 : a_handleTaken v = 0) (hvl : ∀ j, j < v → ¬ a_handleTaken j = 0) (h : post (nI v) (nI (m + 1), nI (c + d 0 * d 1 * d 2), f_slopeCount, upd a_handleTaken v 1, upd a_handleIsView v 0, upd a_windowRank v (nI rk), upd a_windowSlot v (nI s), upd a_windowStart v (nI (64 * s)), ab_up3 a_windowDimension (3 * v) (nI (d 0)) (nI (d 1)) (nI (d 2)), ab_up3 a_windowStride (3 * v) (nI (ab_st rk d 0)) (nI (ab_st rk d 1)) (nI (ab_st rk d 2)), upd a_slotSize s (nI (d 0 * d 1 * d 2)), upd a_slotKind s x, upd a_slotTerms s y, a_slotNeeded, upd a_slotsByAge m (nI s), a_values, a_derivatives, a_firstPlaces, a_secondPlaces, a_assigned, a_slopes)) : wpX_makeTensor post (f_slotsTaken, f_elementsTaken, f_slopeCount, a_handleTaken, a_handleIsView, a_windowRank, a_windowSlot, a_windowStart, a_windowDimension, a_windowStride, a_slotSize, a_slotKind, a_slotTerms, a_slotNeeded, a_slotsByAge, a_values, a_derivatives, a_firstPlaces, a_secondPlaces, a_assigned, a_slopes) x y (nI (ab_pk rk d)) := by
  unfold wpX_makeTensor
  refine xw_shapeSize H (xw_freeHandle_s hv hv0 hvl (xw_freeSlot_s hs hs0 hsl (br_f (nI_pos (by omega)) (br_f (nI_pos (by omega)) (br_t ?_ ?_)))))
  · rw [hc, nI_add]; exact nI_le (b := 320) hce (by decide)
  have hvs : vp_in (nI s) 32 := vp_in_nI hs (by decide)
  have hvv : vp_in (nI v) 24 := vp_in_nI hv (by decide)
  have cs : (nI s).toNatClampNeg = s := nI_clamp (by omega)
  have cv : (nI v).toNatClampNeg = v := nI_clamp (by omega)
  subst hm hc
  refine ⟨hvs, fun A hA => ⟨hvs, fun B hB => ⟨hvs, fun C hC => ⟨vp_in_nI hm2 (by decide), fun E hE => nm_r (nI_1 m) (nm_r (nI_add _ _) ⟨hvv, fun F hF => ⟨hvv, fun G hG => ?_⟩⟩)⟩⟩⟩⟩
  rw [cs] at hA hB hC
  rw [nI_clamp (by omega)] at hE
  rw [cv, ab_b1] at hF
  rw [cv, ab_b0] at hG
  subst hA hB hC hE hF hG
  exact xw_showSlot (by omega) H h
theorem xw_clearSlot {post : SX → Prop} {s : Nat} (hs : s < 32) (h : ∀ V : Nat → Int32, (∀ i, i < 64 → V (64 * s + i) = 0) → (∀ j, (j < 64 * s ∨ 64 * s + 64 ≤ j) → V j = a_values j) → post (f_slotsTaken, f_elementsTaken, f_slopeCount, a_handleTaken, a_handleIsView, a_windowRank, a_windowSlot, a_windowStart, a_windowDimension, a_windowStride, a_slotSize, a_slotKind, a_slotTerms, a_slotNeeded, a_slotsByAge, V, a_derivatives, a_firstPlaces, a_secondPlaces, a_assigned, a_slopes)) : wpX_clearSlot post (f_slotsTaken, f_elementsTaken, f_slopeCount, a_handleTaken, a_handleIsView, a_windowRank, a_windowSlot, a_windowStart, a_windowDimension, a_windowStride, a_slotSize, a_slotKind, a_slotTerms, a_slotNeeded, a_slotsByAge, a_values, a_derivatives, a_firstPlaces, a_secondPlaces, a_assigned, a_slopes) (nI s) := by
  have L : ∀ d j : Nat, ∀ V : Nat → Int32, j + d = 64 → (∀ i, i < j → V (64 * s + i) = 0) → (∀ j, (j < 64 * s ∨ 64 * s + 64 ≤ j) → V j = a_values j) → wX_clearSlot_2 post (nI s) f_slotsTaken f_elementsTaken f_slopeCount (d + 1) (nI j) a_handleTaken a_handleIsView a_windowRank a_windowSlot a_windowStart a_windowDimension a_windowStride a_slotSize a_slotKind a_slotTerms a_slotNeeded a_slotsByAge V a_derivatives a_firstPlaces a_secondPlaces a_assigned a_slopes := by
    intro d
    induction d with
    | zero =>
      intro j V hj h1 h2
      exact br_t (nI_le (a := 64) (by omega) (by omega)) (h V (fun i hi => h1 i (by omega)) h2)
    | succ d ih =>
      intro j V hj h1 h2
      have e1 : nI s * 64 + nI j = nI (64 * s + j) := by
        show nI s * nI 64 + nI j = _
        rw [pk_mul, nI_add, Nat.mul_comm]
      refine br_f (nI_ge (b := 64) (by omega) (by decide)) ⟨ab_vin e1 (by omega) (by decide), fun W hW => nm_r (nI_1 j) (ih (j + 1) W (by omega) ?_ ?_)⟩
      · intro i hi
        rw [hW, e1, nI_clamp (by omega)]
        by_cases z : i = j
        · rw [z, pk_us]
        · rw [pk_un (by omega)]; exact h1 i (by omega)
      · intro i hi
        rw [hW, e1, nI_clamp (by omega), pk_un (by omega)]; exact h2 i hi
  exact ⟨65, L 64 0 a_values (by omega) (fun i hi => absurd hi (by omega)) (fun _ _ => rfl)⟩
theorem xw_packedShape_s {post : Int32 → Prop} {n w a rk p dv : Nat} (hw : w < 88) (hk : rk ≤ 3) (ha : a < rk) (hd : a_windowDimension (3 * w + a) = nI dv) (hd8 : dv < 8) (hn : wX_packedShape_12 post (nI w) (nI rk) f_slotsTaken f_elementsTaken f_slopeCount a_handleTaken a_handleIsView a_windowRank a_windowSlot a_windowStart a_windowDimension a_windowStride a_slotSize a_slotKind a_slotTerms a_slotNeeded a_slotsByAge a_values a_derivatives a_firstPlaces a_secondPlaces a_assigned a_slopes n (nI (p + dv * 2 ^ (3 + 3 * a))) (nI (a + 1))) : wX_packedShape_12 post (nI w) (nI rk) f_slotsTaken f_elementsTaken f_slopeCount a_handleTaken a_handleIsView a_windowRank a_windowSlot a_windowStart a_windowDimension a_windowStride a_slotSize a_slotKind a_slotTerms a_slotNeeded a_slotsByAge a_values a_derivatives a_firstPlaces a_secondPlaces a_assigned a_slopes (n + 1) (nI p) (nI a) := by
  refine br_f (nI_ge ha (by omega)) ⟨ab_vin ab_ix (by omega) (by decide), ?_⟩
  rw [ab_ix, nI_clamp (by omega), hd]
  exact xw_packedDim (by omega) hd8 (nm_r (nI_add _ _) (nm_r (nI_1 a) hn))
theorem xw_packedShape_x {post : Int32 → Prop} {n w a rk p : Nat} (hk : rk ≤ 3) (ha : a = rk) (hp : post (nI p)) : wX_packedShape_12 post (nI w) (nI rk) f_slotsTaken f_elementsTaken f_slopeCount a_handleTaken a_handleIsView a_windowRank a_windowSlot a_windowStart a_windowDimension a_windowStride a_slotSize a_slotKind a_slotTerms a_slotNeeded a_slotsByAge a_values a_derivatives a_firstPlaces a_secondPlaces a_assigned a_slopes (n + 1) (nI p) (nI a) :=
  br_t (nI_le (by omega) (by omega)) hp
theorem xw_packedShape {post : Int32 → Prop} {w rk : Nat} {d : Nat → Nat} (hw : w < 88) (H : ab_sh3 rk d) (hr : a_windowRank w = nI rk) (hd : ∀ a, a < 3 → a_windowDimension (3 * w + a) = nI (d a)) (hp : post (nI (ab_pk rk d))) : wpX_packedShape post (f_slotsTaken, f_elementsTaken, f_slopeCount, a_handleTaken, a_handleIsView, a_windowRank, a_windowSlot, a_windowStart, a_windowDimension, a_windowStride, a_slotSize, a_slotKind, a_slotTerms, a_slotNeeded, a_slotsByAge, a_values, a_derivatives, a_firstPlaces, a_secondPlaces, a_assigned, a_slopes) (nI w) := by
  obtain ⟨hk, h1, hb⟩ := H
  have b0 := hb 0 (by omega)
  have b1 := hb 1 (by omega)
  have b2 := hb 2 (by omega)
  refine ⟨vp_in_nI hw (by decide), nm_r (e' := nI rk) (by rw [nI_clamp (by omega), hr]) ⟨rk + 1, ?_⟩⟩
  rcases (show rk = 0 ∨ rk = 1 ∨ rk = 2 ∨ rk = 3 by omega) with rfl | rfl | rfl | rfl
  · exact xw_packedShape_x (a := 0) hk rfl hp
  · refine xw_packedShape_s (a := 0) hw hk (by omega) (hd 0 (by omega)) (by omega) (xw_packedShape_x hk rfl ?_)
    have e : 1 + d 0 * 2 ^ (3 + 3 * 0) = ab_pk 1 d := by unfold ab_pk; simp; omega
    rw [e]; exact hp
  · refine xw_packedShape_s (a := 0) hw hk (by omega) (hd 0 (by omega)) (by omega) (xw_packedShape_s hw hk (by omega) (hd 1 (by omega)) (by omega) (xw_packedShape_x hk rfl ?_))
    have e : 2 + d 0 * 2 ^ (3 + 3 * 0) + d 1 * 2 ^ (3 + 3 * (0 + 1)) = ab_pk 2 d := by unfold ab_pk; simp; omega
    rw [e]; exact hp
  · refine xw_packedShape_s (a := 0) hw hk (by omega) (hd 0 (by omega)) (by omega) (xw_packedShape_s hw hk (by omega) (hd 1 (by omega)) (by omega) (xw_packedShape_s hw hk (by omega) (hd 2 (by omega)) (by omega) (xw_packedShape_x hk rfl ?_)))
    have e : 3 + d 0 * 2 ^ (3 + 3 * 0) + d 1 * 2 ^ (3 + 3 * (0 + 1)) + d 2 * 2 ^ (3 + 3 * (0 + 1 + 1)) = ab_pk 3 d := by unfold ab_pk; simp; omega
    rw [e]; exact hp
end
end
section
def xl_ok (d0 d1 d2 : Nat) (g : Nat → Nat → Nat → Nat) (F : Nat → Int32) (N : Nat) : Prop := ∀ e, e < N → F e = nI (ab_pf d0 d1 d2 g e)
section
variable {f_slotsTaken f_elementsTaken f_slopeCount : Int32} {a_handleTaken a_handleIsView a_windowRank a_windowSlot a_windowStart a_windowDimension a_windowStride a_slotSize a_slotKind a_slotTerms a_slotNeeded a_slotsByAge a_values a_derivatives a_firstPlaces a_secondPlaces a_assigned a_slopes : Nat → Int32}
theorem xl_z_firstPlaces {post : Int32 → SX → Prop} {J38 J48 : Int32 → Int32 → (Nat → Int32) → (Nat → Int32) → (Nat → Int32) → (Nat → Int32) → (Nat → Int32) → (Nat → Int32) → (Nat → Int32) → (Nat → Int32) → (Nat → Int32) → (Nat → Int32) → (Nat → Int32) → (Nat → Int32) → (Nat → Int32) → (Nat → Int32) → (Nat → Int32) → (Nat → Int32) → (Nat → Int32) → (Nat → Int32) → Prop} {w d0 d1 d2 x y : Nat} {x1 x4 x5 row : Int32} {g : Nat → Nat → Nat → Nat} (hw : w < 88) (hs : d0 * d1 * d2 ≤ 64) (h4 : d2 ≤ 4) (hx : x < d0) (hy : y < d1) (hg : ∀ z, z < d2 → row + nI z * a_windowStride (3 * w + 2) = nI (g x y z)) (h : ∀ F : Nat → Int32, xl_ok d0 d1 d2 g F ((x * d1 + (y + 1)) * d2) → J48 (nI ((x * d1 + (y + 1)) * d2)) (nI (y + 1)) a_handleTaken a_handleIsView a_windowRank a_windowSlot a_windowStart a_windowDimension a_windowStride a_slotSize a_slotKind a_slotTerms a_slotNeeded a_slotsByAge a_values a_derivatives F a_secondPlaces a_assigned a_slopes) : ∀ (k z : Nat) (F : Nat → Int32), z + k = d2 → xl_ok d0 d1 d2 g F ((x * d1 + y) * d2 + z) → wX_listPlaces__firstPlaces_88 post J38 J48 x1 (nI (3 * w)) x4 x5 (nI d2) (nI x) (nI y) row f_slotsTaken f_elementsTaken f_slopeCount (k + 1) (nI ((x * d1 + y) * d2 + z)) (nI z) a_handleTaken a_handleIsView a_windowRank a_windowSlot a_windowStart a_windowDimension a_windowStride a_slotSize a_slotKind a_slotTerms a_slotNeeded a_slotsByAge a_values a_derivatives F a_secondPlaces a_assigned a_slopes := by
  intro k
  induction k with
  | zero =>
    intro z F hz hF
    refine br_t (nI_le (by omega) (by omega)) (nm_r (nI_1 y) ?_)
    have e : (x * d1 + y) * d2 + z = (x * d1 + (y + 1)) * d2 := by
      rw [← Nat.add_assoc, Nat.add_mul _ 1, Nat.one_mul]; omega
    rw [e] at hF ⊢
    exact h F hF
  | succ k ih =>
    intro z F hz hF
    have hl := ab_lin hx hy (show z < d2 by omega)
    have e2 : nI (3 * w) + 2 = nI (3 * w + 2) := nI_add _ 2
    refine br_f (nI_ge (by omega) (by omega)) ⟨ab_vin e2 (by omega) (by decide), vp_in_nI (by omega) (by decide), fun F' hF' => nm_r (nI_1 _) (nm_r (nI_1 z) (ih (z + 1) F' (by omega) ?_))⟩
    rw [nI_clamp (by omega), e2, nI_clamp (by omega), hg z (by omega)] at hF'
    intro e he
    rw [hF']
    by_cases q : e = (x * d1 + y) * d2 + z
    · rw [q, pk_us, ab_pfl hx hy (by omega)]
    · rw [pk_un q]; exact hF e (by omega)
theorem xl_y_firstPlaces {post : Int32 → SX → Prop} {J38 : Int32 → Int32 → (Nat → Int32) → (Nat → Int32) → (Nat → Int32) → (Nat → Int32) → (Nat → Int32) → (Nat → Int32) → (Nat → Int32) → (Nat → Int32) → (Nat → Int32) → (Nat → Int32) → (Nat → Int32) → (Nat → Int32) → (Nat → Int32) → (Nat → Int32) → (Nat → Int32) → (Nat → Int32) → (Nat → Int32) → (Nat → Int32) → Prop} {w d0 d1 d2 x : Nat} {x4 : Int32} {g : Nat → Nat → Nat → Nat} (hw : w < 88) (hs : d0 * d1 * d2 ≤ 64) (h4 : d2 ≤ 4) (h41 : d1 ≤ 4) (hx : x < d0) (hg : ∀ y z, y < d1 → z < d2 → a_windowStart w + nI x * a_windowStride (3 * w) + nI y * a_windowStride (3 * w + 1) + nI z * a_windowStride (3 * w + 2) = nI (g x y z)) (h : ∀ F : Nat → Int32, xl_ok d0 d1 d2 g F ((x + 1) * d1 * d2) → J38 (nI ((x + 1) * d1 * d2)) (nI (x + 1)) a_handleTaken a_handleIsView a_windowRank a_windowSlot a_windowStart a_windowDimension a_windowStride a_slotSize a_slotKind a_slotTerms a_slotNeeded a_slotsByAge a_values a_derivatives F a_secondPlaces a_assigned a_slopes) : ∀ (k y : Nat) (F : Nat → Int32), y + k = d1 → xl_ok d0 d1 d2 g F ((x * d1 + y) * d2) → wX_listPlaces__firstPlaces_48 post J38 (nI w) (nI (3 * w)) x4 (nI d1) (nI d2) (nI x) f_slotsTaken f_elementsTaken f_slopeCount (k + 1) (nI ((x * d1 + y) * d2)) (nI y) a_handleTaken a_handleIsView a_windowRank a_windowSlot a_windowStart a_windowDimension a_windowStride a_slotSize a_slotKind a_slotTerms a_slotNeeded a_slotsByAge a_values a_derivatives F a_secondPlaces a_assigned a_slopes := by
  intro k
  induction k with
  | zero =>
    intro y F hy hF
    refine br_t (nI_le (by omega) (by omega)) (nm_r (nI_1 x) ?_)
    have e : (x * d1 + y) * d2 = (x + 1) * d1 * d2 := by
      rw [Nat.add_mul x 1, Nat.one_mul, show y = d1 by omega]
    rw [e] at hF ⊢
    exact h F hF
  | succ k ih =>
    intro y F hy hF
    have e1 : nI (3 * w) + 1 = nI (3 * w + 1) := nI_1 _
    refine br_f (nI_ge (by omega) (by omega)) ⟨vp_in_nI hw (by decide), vp_in_nI (by omega) (by decide), ab_vin e1 (by omega) (by decide), nm_e ⟨d2 + 1, ?_⟩⟩
    rw [nI_clamp (by omega), nI_clamp (by omega), e1, nI_clamp (by omega)]
    exact xl_z_firstPlaces (y := y) hw hs h4 hx (by omega) (fun z hz => hg y z (by omega) hz) (fun F' hF' => ih (y + 1) F' (by omega) hF') d2 0 F (by omega) (by rw [Nat.add_zero]; exact hF)
theorem xl_list_firstPlaces {post : Int32 → SX → Prop} {w d0 d1 d2 : Nat} {g : Nat → Nat → Nat → Nat} (hw : w < 88) (h0 : a_windowDimension (3 * w) = nI d0) (h1 : a_windowDimension (3 * w + 1) = nI d1) (h2 : a_windowDimension (3 * w + 2) = nI d2) (h40 : d0 ≤ 4) (h41 : d1 ≤ 4) (h42 : d2 ≤ 4) (hg : ∀ x y z, x < d0 → y < d1 → z < d2 → a_windowStart w + nI x * a_windowStride (3 * w) + nI y * a_windowStride (3 * w + 1) + nI z * a_windowStride (3 * w + 2) = nI (g x y z)) (h : ∀ F : Nat → Int32, xl_ok d0 d1 d2 g F (d0 * d1 * d2) → post (nI (d0 * d1 * d2)) (f_slotsTaken, f_elementsTaken, f_slopeCount, a_handleTaken, a_handleIsView, a_windowRank, a_windowSlot, a_windowStart, a_windowDimension, a_windowStride, a_slotSize, a_slotKind, a_slotTerms, a_slotNeeded, a_slotsByAge, a_values, a_derivatives, F, a_secondPlaces, a_assigned, a_slopes)) : wpX_listPlaces__firstPlaces post (f_slotsTaken, f_elementsTaken, f_slopeCount, a_handleTaken, a_handleIsView, a_windowRank, a_windowSlot, a_windowStart, a_windowDimension, a_windowStride, a_slotSize, a_slotKind, a_slotTerms, a_slotNeeded, a_slotsByAge, a_values, a_derivatives, a_firstPlaces, a_secondPlaces, a_assigned, a_slopes) (nI w) := by
  have hs := ab_sz h40 h41 h42
  have e1 : nI (3 * w) + 1 = nI (3 * w + 1) := nI_1 _
  have e2 : nI (3 * w) + 2 = nI (3 * w + 2) := nI_add _ 2
  refine nm_r ab_ix3 ⟨vp_in_nI (by omega) (by decide), nm_r (e' := nI d0) (by rw [nI_clamp (by omega), h0]) ⟨ab_vin e1 (by omega) (by decide), nm_r (e' := nI d1) (by rw [e1, nI_clamp (by omega), h1]) ⟨ab_vin e2 (by omega) (by decide), nm_r (e' := nI d2) (by rw [e2, nI_clamp (by omega), h2]) ⟨d0 + 1, ?_⟩⟩⟩⟩
  have L : ∀ (k x : Nat) (F : Nat → Int32), x + k = d0 → xl_ok d0 d1 d2 g F (x * d1 * d2) → wX_listPlaces__firstPlaces_38 post (nI w) (nI (3 * w)) (nI d0) (nI d1) (nI d2) f_slotsTaken f_elementsTaken f_slopeCount (k + 1) (nI (x * d1 * d2)) (nI x) a_handleTaken a_handleIsView a_windowRank a_windowSlot a_windowStart a_windowDimension a_windowStride a_slotSize a_slotKind a_slotTerms a_slotNeeded a_slotsByAge a_values a_derivatives F a_secondPlaces a_assigned a_slopes := by
    intro k
    induction k with
    | zero =>
      intro x F hx hF
      have : x = d0 := by omega
      subst this
      exact br_t (nI_le (by omega) (by omega)) (h F hF)
    | succ k ih =>
      intro x F hx hF
      refine br_f (nI_ge (by omega) (by omega)) ⟨d1 + 1, ?_⟩
      exact xl_y_firstPlaces hw hs h42 h41 (by omega) (fun y z => hg x y z (by omega)) (fun F' hF' => ih (x + 1) F' (by omega) hF') d1 0 F (by omega) (by rw [Nat.add_zero]; exact hF)
  have := L d0 0 a_firstPlaces (by omega) (fun e he => absurd he (by simp))
  rw [Nat.zero_mul, Nat.zero_mul] at this
  exact this
theorem xl_z_secondPlaces {post : Int32 → SX → Prop} {J38 J48 : Int32 → Int32 → (Nat → Int32) → (Nat → Int32) → (Nat → Int32) → (Nat → Int32) → (Nat → Int32) → (Nat → Int32) → (Nat → Int32) → (Nat → Int32) → (Nat → Int32) → (Nat → Int32) → (Nat → Int32) → (Nat → Int32) → (Nat → Int32) → (Nat → Int32) → (Nat → Int32) → (Nat → Int32) → (Nat → Int32) → (Nat → Int32) → Prop} {w d0 d1 d2 x y : Nat} {x1 x4 x5 row : Int32} {g : Nat → Nat → Nat → Nat} (hw : w < 88) (hs : d0 * d1 * d2 ≤ 64) (h4 : d2 ≤ 4) (hx : x < d0) (hy : y < d1) (hg : ∀ z, z < d2 → row + nI z * a_windowStride (3 * w + 2) = nI (g x y z)) (h : ∀ F : Nat → Int32, xl_ok d0 d1 d2 g F ((x * d1 + (y + 1)) * d2) → J48 (nI ((x * d1 + (y + 1)) * d2)) (nI (y + 1)) a_handleTaken a_handleIsView a_windowRank a_windowSlot a_windowStart a_windowDimension a_windowStride a_slotSize a_slotKind a_slotTerms a_slotNeeded a_slotsByAge a_values a_derivatives a_firstPlaces F a_assigned a_slopes) : ∀ (k z : Nat) (F : Nat → Int32), z + k = d2 → xl_ok d0 d1 d2 g F ((x * d1 + y) * d2 + z) → wX_listPlaces__secondPlaces_88 post J38 J48 x1 (nI (3 * w)) x4 x5 (nI d2) (nI x) (nI y) row f_slotsTaken f_elementsTaken f_slopeCount (k + 1) (nI ((x * d1 + y) * d2 + z)) (nI z) a_handleTaken a_handleIsView a_windowRank a_windowSlot a_windowStart a_windowDimension a_windowStride a_slotSize a_slotKind a_slotTerms a_slotNeeded a_slotsByAge a_values a_derivatives a_firstPlaces F a_assigned a_slopes := by
  intro k
  induction k with
  | zero =>
    intro z F hz hF
    refine br_t (nI_le (by omega) (by omega)) (nm_r (nI_1 y) ?_)
    have e : (x * d1 + y) * d2 + z = (x * d1 + (y + 1)) * d2 := by
      rw [← Nat.add_assoc, Nat.add_mul _ 1, Nat.one_mul]; omega
    rw [e] at hF ⊢
    exact h F hF
  | succ k ih =>
    intro z F hz hF
    have hl := ab_lin hx hy (show z < d2 by omega)
    have e2 : nI (3 * w) + 2 = nI (3 * w + 2) := nI_add _ 2
    refine br_f (nI_ge (by omega) (by omega)) ⟨ab_vin e2 (by omega) (by decide), vp_in_nI (by omega) (by decide), fun F' hF' => nm_r (nI_1 _) (nm_r (nI_1 z) (ih (z + 1) F' (by omega) ?_))⟩
    rw [nI_clamp (by omega), e2, nI_clamp (by omega), hg z (by omega)] at hF'
    intro e he
    rw [hF']
    by_cases q : e = (x * d1 + y) * d2 + z
    · rw [q, pk_us, ab_pfl hx hy (by omega)]
    · rw [pk_un q]; exact hF e (by omega)
theorem xl_y_secondPlaces {post : Int32 → SX → Prop} {J38 : Int32 → Int32 → (Nat → Int32) → (Nat → Int32) → (Nat → Int32) → (Nat → Int32) → (Nat → Int32) → (Nat → Int32) → (Nat → Int32) → (Nat → Int32) → (Nat → Int32) → (Nat → Int32) → (Nat → Int32) → (Nat → Int32) → (Nat → Int32) → (Nat → Int32) → (Nat → Int32) → (Nat → Int32) → (Nat → Int32) → (Nat → Int32) → Prop} {w d0 d1 d2 x : Nat} {x4 : Int32} {g : Nat → Nat → Nat → Nat} (hw : w < 88) (hs : d0 * d1 * d2 ≤ 64) (h4 : d2 ≤ 4) (h41 : d1 ≤ 4) (hx : x < d0) (hg : ∀ y z, y < d1 → z < d2 → a_windowStart w + nI x * a_windowStride (3 * w) + nI y * a_windowStride (3 * w + 1) + nI z * a_windowStride (3 * w + 2) = nI (g x y z)) (h : ∀ F : Nat → Int32, xl_ok d0 d1 d2 g F ((x + 1) * d1 * d2) → J38 (nI ((x + 1) * d1 * d2)) (nI (x + 1)) a_handleTaken a_handleIsView a_windowRank a_windowSlot a_windowStart a_windowDimension a_windowStride a_slotSize a_slotKind a_slotTerms a_slotNeeded a_slotsByAge a_values a_derivatives a_firstPlaces F a_assigned a_slopes) : ∀ (k y : Nat) (F : Nat → Int32), y + k = d1 → xl_ok d0 d1 d2 g F ((x * d1 + y) * d2) → wX_listPlaces__secondPlaces_48 post J38 (nI w) (nI (3 * w)) x4 (nI d1) (nI d2) (nI x) f_slotsTaken f_elementsTaken f_slopeCount (k + 1) (nI ((x * d1 + y) * d2)) (nI y) a_handleTaken a_handleIsView a_windowRank a_windowSlot a_windowStart a_windowDimension a_windowStride a_slotSize a_slotKind a_slotTerms a_slotNeeded a_slotsByAge a_values a_derivatives a_firstPlaces F a_assigned a_slopes := by
  intro k
  induction k with
  | zero =>
    intro y F hy hF
    refine br_t (nI_le (by omega) (by omega)) (nm_r (nI_1 x) ?_)
    have e : (x * d1 + y) * d2 = (x + 1) * d1 * d2 := by
      rw [Nat.add_mul x 1, Nat.one_mul, show y = d1 by omega]
    rw [e] at hF ⊢
    exact h F hF
  | succ k ih =>
    intro y F hy hF
    have e1 : nI (3 * w) + 1 = nI (3 * w + 1) := nI_1 _
    refine br_f (nI_ge (by omega) (by omega)) ⟨vp_in_nI hw (by decide), vp_in_nI (by omega) (by decide), ab_vin e1 (by omega) (by decide), nm_e ⟨d2 + 1, ?_⟩⟩
    rw [nI_clamp (by omega), nI_clamp (by omega), e1, nI_clamp (by omega)]
    exact xl_z_secondPlaces (y := y) hw hs h4 hx (by omega) (fun z hz => hg y z (by omega) hz) (fun F' hF' => ih (y + 1) F' (by omega) hF') d2 0 F (by omega) (by rw [Nat.add_zero]; exact hF)
theorem xl_list_secondPlaces {post : Int32 → SX → Prop} {w d0 d1 d2 : Nat} {g : Nat → Nat → Nat → Nat} (hw : w < 88) (h0 : a_windowDimension (3 * w) = nI d0) (h1 : a_windowDimension (3 * w + 1) = nI d1) (h2 : a_windowDimension (3 * w + 2) = nI d2) (h40 : d0 ≤ 4) (h41 : d1 ≤ 4) (h42 : d2 ≤ 4) (hg : ∀ x y z, x < d0 → y < d1 → z < d2 → a_windowStart w + nI x * a_windowStride (3 * w) + nI y * a_windowStride (3 * w + 1) + nI z * a_windowStride (3 * w + 2) = nI (g x y z)) (h : ∀ F : Nat → Int32, xl_ok d0 d1 d2 g F (d0 * d1 * d2) → post (nI (d0 * d1 * d2)) (f_slotsTaken, f_elementsTaken, f_slopeCount, a_handleTaken, a_handleIsView, a_windowRank, a_windowSlot, a_windowStart, a_windowDimension, a_windowStride, a_slotSize, a_slotKind, a_slotTerms, a_slotNeeded, a_slotsByAge, a_values, a_derivatives, a_firstPlaces, F, a_assigned, a_slopes)) : wpX_listPlaces__secondPlaces post (f_slotsTaken, f_elementsTaken, f_slopeCount, a_handleTaken, a_handleIsView, a_windowRank, a_windowSlot, a_windowStart, a_windowDimension, a_windowStride, a_slotSize, a_slotKind, a_slotTerms, a_slotNeeded, a_slotsByAge, a_values, a_derivatives, a_firstPlaces, a_secondPlaces, a_assigned, a_slopes) (nI w) := by
  have hs := ab_sz h40 h41 h42
  have e1 : nI (3 * w) + 1 = nI (3 * w + 1) := nI_1 _
  have e2 : nI (3 * w) + 2 = nI (3 * w + 2) := nI_add _ 2
  refine nm_r ab_ix3 ⟨vp_in_nI (by omega) (by decide), nm_r (e' := nI d0) (by rw [nI_clamp (by omega), h0]) ⟨ab_vin e1 (by omega) (by decide), nm_r (e' := nI d1) (by rw [e1, nI_clamp (by omega), h1]) ⟨ab_vin e2 (by omega) (by decide), nm_r (e' := nI d2) (by rw [e2, nI_clamp (by omega), h2]) ⟨d0 + 1, ?_⟩⟩⟩⟩
  have L : ∀ (k x : Nat) (F : Nat → Int32), x + k = d0 → xl_ok d0 d1 d2 g F (x * d1 * d2) → wX_listPlaces__secondPlaces_38 post (nI w) (nI (3 * w)) (nI d0) (nI d1) (nI d2) f_slotsTaken f_elementsTaken f_slopeCount (k + 1) (nI (x * d1 * d2)) (nI x) a_handleTaken a_handleIsView a_windowRank a_windowSlot a_windowStart a_windowDimension a_windowStride a_slotSize a_slotKind a_slotTerms a_slotNeeded a_slotsByAge a_values a_derivatives a_firstPlaces F a_assigned a_slopes := by
    intro k
    induction k with
    | zero =>
      intro x F hx hF
      have : x = d0 := by omega
      subst this
      exact br_t (nI_le (by omega) (by omega)) (h F hF)
    | succ k ih =>
      intro x F hx hF
      refine br_f (nI_ge (by omega) (by omega)) ⟨d1 + 1, ?_⟩
      exact xl_y_secondPlaces hw hs h42 h41 (by omega) (fun y z => hg x y z (by omega)) (fun F' hF' => ih (x + 1) F' (by omega) hF') d1 0 F (by omega) (by rw [Nat.add_zero]; exact hF)
  have := L d0 0 a_secondPlaces (by omega) (fun e he => absurd he (by simp))
  rw [Nat.zero_mul, Nat.zero_mul] at this
  exact this
end
end
section
def rl_n (d : Nat → Nat → Nat) (w : Nat) : Nat := d w 0 * d w 1 * d w 2
def rl_p (d : Nat → Nat → Nat) (G : Nat → Nat → Nat → Nat → Nat) (w e : Nat) : Nat := ab_pf (d w 0) (d w 1) (d w 2) (G w) e
def rl_win (sl : Nat → Nat) (d : Nat → Nat → Nat) (G : Nat → Nat → Nat → Nat → Nat) (ages : List Nat) (sz : Nat → Nat) (S St D E : Nat → Int32) (w : Nat) : Prop :=
  S w = nI (sl w) ∧ sl w ∈ ages ∧ (∀ a, a < 3 → D (3 * w + a) = nI (d w a) ∧ 1 ≤ d w a ∧ d w a ≤ 4) ∧ (∀ x y z, x < d w 0 → y < d w 1 → z < d w 2 → St w + nI x * E (3 * w) + nI y * E (3 * w + 1) + nI z * E (3 * w + 2) = nI (G w x y z) ∧ G w x y z / 64 = sl w ∧ G w x y z % 64 < sz (sl w))
def rl_or (kd sl : Nat → Nat) : List Nat → List Nat → Prop
  | _, [] => True
  | pre, s :: l => (kd s ≠ 4 → sl (24 + 2 * s) ∈ pre ∧ sl (25 + 2 * s) ∈ pre) ∧ rl_or kd sl (s :: pre) l
def rl_slot (sl : Nat → Nat) (d : Nat → Nat → Nat) (G : Nat → Nat → Nat → Nat → Nat) (ages : List Nat) (sz kd tm : Nat → Nat) (S St D E Sz Kd Tm : Nat → Int32) (s : Nat) : Prop :=
  Sz s = nI (sz s) ∧ 1 ≤ sz s ∧ sz s ≤ 64 ∧ Kd s = nI (kd s) ∧ kd s ≤ 4 ∧ (kd s ≠ 4 → Tm s = nI (tm s) ∧ 1 ≤ tm s ∧ tm s ≤ 4 ∧ rl_n d (24 + 2 * s) = sz s * tm s ∧ rl_n d (25 + 2 * s) = sz s * tm s ∧ rl_win sl d G ages sz S St D E (24 + 2 * s) ∧ rl_win sl d G ages sz S St D E (25 + 2 * s))
def rl_hand (rk sl : Nat → Nat) (d : Nat → Nat → Nat) (G : Nat → Nat → Nat → Nat → Nat) (ages : List Nat) (sz : Nat → Nat) (V R S St D E : Nat → Int32) (h : Nat) : Prop :=
  R h = nI (rk h) ∧ ab_sh3 (rk h) (d h) ∧ rl_win sl d G ages sz S St D E h ∧ (V h = 0 → St h = nI (64 * sl h) ∧ ∀ e, e < rl_n d h → rl_p d G h e = 64 * sl h + e)
def rl_X (rk sl : Nat → Nat) (d : Nat → Nat → Nat) (G : Nat → Nat → Nat → Nat → Nat) (ages : List Nat) (sz kd tm : Nat → Nat) (f_slotsTaken f_elementsTaken : Int32) (T V R S St D E Sz Kd Tm Ag : Nat → Int32) : Prop :=
  (f_slotsTaken = nI ages.length ∧ ∀ i s, ages[i]? = some s → Ag i = nI s) ∧
  (f_elementsTaken = nI (ab_fl sz ages).length ∧ (ab_fl sz ages).length ≤ 320) ∧
  (ages.Nodup ∧ (∀ s, s ∈ ages → s < 32) ∧ (∀ s, s < 32 → s ∉ ages → Sz s = 0) ∧ rl_or kd sl [] ages) ∧
  (∀ s, s ∈ ages → rl_slot sl d G ages sz kd tm S St D E Sz Kd Tm s) ∧
  (∀ h, h < 24 → ¬ T h = 0 → rl_hand rk sl d G ages sz V R S St D E h)
def rl_kr (k y t : Nat) : Prop := (k = 4 ∧ y = 0) ∨ (k = 0 ∧ y = 1 ∧ t = 1) ∨ (k = 1 ∧ y = 2 ∧ t = 1) ∨ (k = 2 ∧ (y = 3 ∨ y = 5)) ∨ (k = 3 ∧ (y = 4 ∨ y = 6))
def rl_pt (d : Nat → Nat → Nat) (G : Nat → Nat → Nat → Nat → Nat) (kd tm cl : Nat → Nat) (P C : Nat → Int32) (s i : Nat) : Prop :=
  (kd s = 3 → C (cl (64 * s + i)) = nI (tm s) ∧ ∀ t, t < tm s → P (8 * cl (64 * s + i) + t) = nI (cl (rl_p d G (24 + 2 * s) (i * tm s + t)))) ∧ (kd s ≠ 3 → C (cl (64 * s + i)) = nI (2 * tm s) ∧ ∀ t, t < tm s → P (8 * cl (64 * s + i) + 2 * t) = nI (cl (rl_p d G (24 + 2 * s) (i * tm s + t))) ∧ P (8 * cl (64 * s + i) + (2 * t + 1)) = nI (cl (rl_p d G (25 + 2 * s) (i * tm s + t))))
def rl_ys (sl : Nat → Nat) (d : Nat → Nat → Nat) (G : Nat → Nat → Nat → Nat → Nat) (sz kd tm yk cl : Nat → Nat) (K F1 F2 P C : Nat → Int32) (s : Nat) : Prop :=
  K s = nI (yk s) ∧ rl_kr (kd s) (yk s) (tm s) ∧ (kd s = 4 → F1 s < 0 ∧ F2 s < 0) ∧ (kd s ≠ 4 → F1 s = nI (sl (24 + 2 * s)) ∧ (kd s = 3 → F2 s < 0 ∧ sl (25 + 2 * s) = sl (24 + 2 * s)) ∧ (kd s ≠ 3 → F2 s = nI (sl (25 + 2 * s))) ∧ ∀ i, i < sz s → rl_pt d G kd tm cl P C s i)
def rl_yh (rk sl : Nat → Nat) (d : Nat → Nat → Nat) (G : Nat → Nat → Nat → Nat → Nat) (cl : Nat → Nat) (R D S T : Nat → Int32) (h : Nat) : Prop :=
  R h = nI (rk h) ∧ (∀ a, a < rk h → D (3 * h + a) = nI (d h a)) ∧ T h = nI (sl h) ∧ ∀ e, e < rl_n d h → S (64 * h + e) = nI (cl (rl_p d G h e))
def rl_own (sz cl : Nat → Nat) (ages : List Nat) (O : Nat → Int32) : Prop :=
  (∀ p, p ∈ ab_fl sz ages → cl p < 320 ∧ O (cl p) = nI (p / 64)) ∧ (∀ p q, p ∈ ab_fl sz ages → q ∈ ab_fl sz ages → cl p = cl q → p = q) ∧ (∀ c, c < 320 → (∀ p, p ∈ ab_fl sz ages → cl p ≠ c) → O c < 0)
def rl_Y (rk sl : Nat → Nat) (d : Nat → Nat → Nat) (G : Nat → Nat → Nat → Nat → Nat) (ages : List Nat) (sz kd tm yk cl : Nat → Nat) (T V vals : Nat → Int32) (c_cells : Int32) (b_used b_rank b_dims b_shown b_tensorOf b_view b_exists b_kind b_first b_second b_owner b_parts b_partCount b_value b_order : Nat → Int32) : Prop :=
  (b_used = T ∧ b_view = V) ∧
  (c_cells = nI (ab_fl sz ages).length ∧ ∀ k p, (ab_fl sz ages)[k]? = some p → b_order k = nI (cl p)) ∧
  rl_own sz cl ages b_owner ∧
  (∀ t, t < 32 → (b_exists t = 0 ↔ t ∉ ages)) ∧
  (∀ h, h < 24 → ¬ T h = 0 → rl_yh rk sl d G cl b_rank b_dims b_shown b_tensorOf h) ∧
  (∀ s, s ∈ ages → rl_ys sl d G sz kd tm yk cl b_kind b_first b_second b_parts b_partCount s) ∧
  (∀ p, p ∈ ab_fl sz ages → kd (p / 64) = 4 → b_value (cl p) = vals p)
def rl_S (f_slopeCount : Int32) (a_slopes : Nat → Int32) (c_slopeCount : Int32) (b_slopes : Nat → Int32) : Prop := ∃ q, q ≤ 64 ∧ f_slopeCount = nI q ∧ c_slopeCount = nI q ∧ ∀ i, i < q → a_slopes i = b_slopes i
/-- the relation: ghost shapes, places, ages and cells that both states are pictures of -/
def i_Rel (k : Nat) (u : SX) (v : SY) : Prop := match u with
  | (f_slotsTaken, f_elementsTaken, f_slopeCount, a_handleTaken, a_handleIsView, a_windowRank, a_windowSlot, a_windowStart, a_windowDimension, a_windowStride, a_slotSize, a_slotKind, a_slotTerms, a_slotNeeded, a_slotsByAge, a_values, a_derivatives, a_firstPlaces, a_secondPlaces, a_assigned, a_slopes) => match v with
    | (c_cells, c_slopeCount, b_used, b_rank, b_dims, b_shown, b_tensorOf, b_view, b_exists, b_kind, b_first, b_second, b_owner, b_parts, b_partCount, b_value, b_slopeOf, b_order, b_slopes) => ∃ (rk sl : Nat → Nat) (d : Nat → Nat → Nat) (G : Nat → Nat → Nat → Nat → Nat) (ages : List Nat) (sz kd tm yk cl : Nat → Nat), rl_X rk sl d G ages sz kd tm f_slotsTaken f_elementsTaken a_handleTaken a_handleIsView a_windowRank a_windowSlot a_windowStart a_windowDimension a_windowStride a_slotSize a_slotKind a_slotTerms a_slotsByAge ∧ rl_Y rk sl d G ages sz kd tm yk cl a_handleTaken a_handleIsView a_values c_cells b_used b_rank b_dims b_shown b_tensorOf b_view b_exists b_kind b_first b_second b_owner b_parts b_partCount b_value b_order ∧ rl_S f_slopeCount a_slopes c_slopeCount b_slopes
theorem i_up {k : Nat} {u : SX} {v : SY} (h : i_Rel k u v) : i_Rel (k + 5) u v := h
section
variable {f_slotsTaken f_elementsTaken f_slopeCount : Int32} {a_handleTaken a_handleIsView a_windowRank a_windowSlot a_windowStart a_windowDimension a_windowStride a_slotSize a_slotKind a_slotTerms a_slotNeeded a_slotsByAge a_values a_derivatives a_firstPlaces a_secondPlaces a_assigned a_slopes : Nat → Int32}
variable {c_cells c_slopeCount : Int32} {b_used b_rank b_dims b_shown b_tensorOf b_view b_exists b_kind b_first b_second b_owner b_parts b_partCount b_value b_slopeOf b_order b_slopes : Nat → Int32}
theorem rl_mk (k : Nat) (rk sl : Nat → Nat) (d : Nat → Nat → Nat) (G : Nat → Nat → Nat → Nat → Nat) (ages : List Nat) (sz kd tm yk cl : Nat → Nat) (hX : rl_X rk sl d G ages sz kd tm f_slotsTaken f_elementsTaken a_handleTaken a_handleIsView a_windowRank a_windowSlot a_windowStart a_windowDimension a_windowStride a_slotSize a_slotKind a_slotTerms a_slotsByAge) (hY : rl_Y rk sl d G ages sz kd tm yk cl a_handleTaken a_handleIsView a_values c_cells b_used b_rank b_dims b_shown b_tensorOf b_view b_exists b_kind b_first b_second b_owner b_parts b_partCount b_value b_order) (hS : rl_S f_slopeCount a_slopes c_slopeCount b_slopes) : i_Rel k (f_slotsTaken, f_elementsTaken, f_slopeCount, a_handleTaken, a_handleIsView, a_windowRank, a_windowSlot, a_windowStart, a_windowDimension, a_windowStride, a_slotSize, a_slotKind, a_slotTerms, a_slotNeeded, a_slotsByAge, a_values, a_derivatives, a_firstPlaces, a_secondPlaces, a_assigned, a_slopes) (c_cells, c_slopeCount, b_used, b_rank, b_dims, b_shown, b_tensorOf, b_view, b_exists, b_kind, b_first, b_second, b_owner, b_parts, b_partCount, b_value, b_slopeOf, b_order, b_slopes) := ⟨rk, sl, d, G, ages, sz, kd, tm, yk, cl, hX, hY, hS⟩
theorem rl_scr {T V vals : Nat → Int32} {rk sl sz kd tm yk cl : Nat → Nat} {d : Nat → Nat → Nat} {G : Nat → Nat → Nat → Nat → Nat} {ages : List Nat} {R D S : Nat → Int32} (hR : ∀ h, h < 24 → R h = b_rank h) (hD : ∀ j, j < 72 → D j = b_dims j) (hS : ∀ j, j < 1536 → S j = b_shown j) (hk : ∀ h, h < 24 → ¬ T h = 0 → rk h ≤ 3) (hn : ∀ h, h < 24 → ¬ T h = 0 → rl_n d h ≤ 64) (H : rl_Y rk sl d G ages sz kd tm yk cl T V vals c_cells b_used b_rank b_dims b_shown b_tensorOf b_view b_exists b_kind b_first b_second b_owner b_parts b_partCount b_value b_order) : rl_Y rk sl d G ages sz kd tm yk cl T V vals c_cells b_used R D S b_tensorOf b_view b_exists b_kind b_first b_second b_owner b_parts b_partCount b_value b_order := by
  obtain ⟨y1, y2, y3, y4, y5, y6, y7⟩ := H
  refine ⟨y1, y2, y3, y4, fun h hh ht => ?_, y6, y7⟩
  obtain ⟨z1, z2, z3, z4⟩ := y5 h hh ht
  refine ⟨(hR h hh).trans z1, fun a ha => ?_, z3, fun e he => ?_⟩
  · rw [hD _ (by have := hk h hh ht; omega)]; exact z2 a ha
  · rw [hS _ (by have := hn h hh ht; omega)]; exact z4 e he
end
theorem i_vc0 : wpX_init (fun u => wpY_init (fun v => i_Rel 0 u v)) := by
  unfold wpX_init
  have L : ∀ d j : Nat, ∀ O : Nat → Int32, j + d = 320 → (∀ i, i < j → O i < 0) → wY_init_159 (fun v => i_Rel 0 (0, 0, 0, (fun _ => 0), (fun _ => 0), (fun _ => 0), (fun _ => 0), (fun _ => 0), (fun _ => 0), (fun _ => 0), (fun _ => 0), (fun _ => 0), (fun _ => 0), (fun _ => 0), (fun _ => 0), (fun _ => 0), (fun _ => 0), (fun _ => 0), (fun _ => 0), (fun _ => 0), (fun _ => 0)) v) 0 0 (d + 1) (nI j) (fun _ => 0) (fun _ => 0) (fun _ => 0) (fun _ => 0) (fun _ => 0) (fun _ => 0) (fun _ => 0) (fun _ => 0) (fun _ => 0) (fun _ => 0) O (fun _ => 0) (fun _ => 0) (fun _ => 0) (fun _ => 0) (fun _ => 0) (fun _ => 0) := by
    intro d
    induction d with
    | zero =>
      intro j O hj hO
      refine br_t (nI_le (a := 320) (by omega) (by omega)) (rl_mk 0 (fun _ => 0) (fun _ => 0) (fun _ _ => 0) (fun _ _ _ _ => 0) [] (fun _ => 0) (fun _ => 0) (fun _ => 0) (fun _ => 0) (fun _ => 0) ?_ ?_ ?_)
      · refine ⟨⟨rfl, fun i s h => ?_⟩, ⟨rfl, Nat.zero_le _⟩, ⟨List.nodup_nil, fun s h => ?_, fun _ _ _ => rfl, trivial⟩, fun s h => ?_, fun h _ hh => absurd rfl hh⟩
        · exact absurd h (by simp)
        · exact absurd h (by simp)
        · exact absurd h (by simp)
      · refine ⟨⟨rfl, rfl⟩, ⟨rfl, fun k p h => ?_⟩, ⟨fun p h => ?_, fun p q h => ?_, fun c hc _ => hO c (by omega)⟩, fun t _ => ⟨fun _ => by simp, fun _ => rfl⟩, fun h _ hh => absurd rfl hh, fun s h => ?_, fun p h => ?_⟩ <;> exact absurd h (by simp [ab_fl])
      · exact ⟨0, by omega, rfl, rfl, fun i h => absurd h (by omega)⟩
    | succ d ih =>
      intro j O hj hO
      refine br_f (nI_ge (b := 320) (by omega) (by decide)) ⟨vp_in_nI (by omega) (by decide), fun O' hO' => nm_r (nI_1 j) (ih (j + 1) O' (by omega) ?_)⟩
      rw [nI_clamp (by omega), ab_vbm] at hO'
      intro i hi
      rw [hO']
      by_cases z : i = j
      · rw [z, pk_us]; decide
      · rw [pk_un z]; exact hO i (by omega)
  exact ⟨321, L 320 0 (fun _ => 0) (by omega) (fun i hi => absurd hi (by omega))⟩
theorem i_vc_live {k : Nat} {u : SX} {v : SY} (I : i_Rel k u v) (hk : k + 5 ≤ 2560) : wpX_live (fun r => wpY_live (fun r' => r' = r ∧ i_Rel (k + 5) u v) v) u := by
  obtain ⟨f_slotsTaken, f_elementsTaken, f_slopeCount, a_handleTaken, a_handleIsView, a_windowRank, a_windowSlot, a_windowStart, a_windowDimension, a_windowStride, a_slotSize, a_slotKind, a_slotTerms, a_slotNeeded, a_slotsByAge, a_values, a_derivatives, a_firstPlaces, a_secondPlaces, a_assigned, a_slopes⟩ := u
  obtain ⟨c_cells, c_slopeCount, b_used, b_rank, b_dims, b_shown, b_tensorOf, b_view, b_exists, b_kind, b_first, b_second, b_owner, b_parts, b_partCount, b_value, b_slopeOf, b_order, b_slopes⟩ := v
  have I' := I
  obtain ⟨rk, sl, d, G, ages, sz, kd, tm, yk, cl, hX, hY, hS⟩ := I'
  exact ⟨hY.2.1.1.trans hX.2.1.1.symm, I⟩
theorem i_vc_slope {k : Nat} {u : SX} {v : SY} (I : i_Rel k u v) (hk : k + 5 ≤ 2560) (v1 : Int32) : wpX_slope (fun r => wpY_slope (fun r' => r' = r ∧ i_Rel (k + 5) u v) v v1) u v1 := by
  obtain ⟨f_slotsTaken, f_elementsTaken, f_slopeCount, a_handleTaken, a_handleIsView, a_windowRank, a_windowSlot, a_windowStart, a_windowDimension, a_windowStride, a_slotSize, a_slotKind, a_slotTerms, a_slotNeeded, a_slotsByAge, a_values, a_derivatives, a_firstPlaces, a_secondPlaces, a_assigned, a_slopes⟩ := u
  obtain ⟨c_cells, c_slopeCount, b_used, b_rank, b_dims, b_shown, b_tensorOf, b_view, b_exists, b_kind, b_first, b_second, b_owner, b_parts, b_partCount, b_value, b_slopeOf, b_order, b_slopes⟩ := v
  have I' := I
  obtain ⟨rk, sl, d, G, ages, sz, kd, tm, yk, cl, hX, hY, q, hq, e1, e2, hs⟩ := I'
  subst e1 e2
  refine br_c (fun h0 => br_t h0 ⟨rfl, I⟩) (fun h0 => ?_)
  obtain ⟨j, hj, rfl⟩ := nI_of h0
  refine br_c (fun h1 => br_f h0 (br_f ?_ ⟨rfl, I⟩)) (fun h1 => ?_)
  · exact Int32.not_lt.mpr h1
  · have hjq : j < q := by
      apply Nat.lt_of_not_le; intro z; exact h1 (nI_le z hj)
    have hv : vp_in (nI j) 64 := vp_in_nI (by omega) (by decide)
    refine ⟨hv, br_f h0 (br_t (nI_lt hjq (by omega)) ⟨hv, ?_, I⟩)⟩
    rw [nI_clamp hj]; exact (hs j hjq).symm
end
section
theorem rl_nN {d : Nat → Nat → Nat} {e : Nat → Nat} {w v : Nat} (h : w ≠ v) : rl_n (ab_fu d v e) w = rl_n d w := by unfold rl_n; rw [ab_fun h]
theorem rl_pN {d : Nat → Nat → Nat} {G : Nat → Nat → Nat → Nat → Nat} {e : Nat → Nat} {g : Nat → Nat → Nat → Nat} {w v j : Nat} (h : w ≠ v) : rl_p (ab_fu d v e) (ab_fu G v g) w j = rl_p d G w j := by unfold rl_p; rw [ab_fun h, ab_fun h]
theorem rl_nS {d : Nat → Nat → Nat} {e : Nat → Nat} {v : Nat} : rl_n (ab_fu d v e) v = e 0 * e 1 * e 2 := by unfold rl_n; rw [ab_fus]
theorem rl_pS {d : Nat → Nat → Nat} {G : Nat → Nat → Nat → Nat → Nat} {e : Nat → Nat} {g : Nat → Nat → Nat → Nat} {v j : Nat} : rl_p (ab_fu d v e) (ab_fu G v g) v j = ab_pf (e 0) (e 1) (e 2) g j := by unfold rl_p; rw [ab_fus, ab_fus]
theorem rl_winV {sl sz : Nat → Nat} {d : Nat → Nat → Nat} {G : Nat → Nat → Nat → Nat → Nat} {ages : List Nat} {S St D E : Nat → Int32} {w v t : Nat} {e : Nat → Nat} {g : Nat → Nat → Nat → Nat} {b st D0 D1 D2 E0 E1 E2 : Int32} (h : w ≠ v) (H : rl_win sl d G ages sz S St D E w) : rl_win (ab_fu sl v t) (ab_fu d v e) (ab_fu G v g) ages sz (upd S v b) (upd St v st) (ab_up3 D (3 * v) D0 D1 D2) (ab_up3 E (3 * v) E0 E1 E2) w := by
  obtain ⟨h1, h2, h3, h4⟩ := H
  unfold rl_win
  rw [ab_fun h, ab_fun h, ab_fun h, pk_un h, pk_un h, ab_en (by omega), ab_en (by omega), ab_en (by omega)]
  refine ⟨h1, h2, fun a ha => ?_, h4⟩
  rw [ab_en (by omega)]
  exact h3 a ha
theorem rl_winS {sl sz : Nat → Nat} {d : Nat → Nat → Nat} {G : Nat → Nat → Nat → Nat → Nat} {ages : List Nat} {S St D E : Nat → Int32} {v t : Nat} {e : Nat → Nat} {g : Nat → Nat → Nat → Nat} {b st E0 E1 E2 : Int32} (hb : b = nI t) (ht : t ∈ ages) (he : ∀ a, a < 3 → 1 ≤ e a ∧ e a ≤ 4) (hg : ∀ x y z, x < e 0 → y < e 1 → z < e 2 → st + nI x * E0 + nI y * E1 + nI z * E2 = nI (g x y z) ∧ g x y z / 64 = t ∧ g x y z % 64 < sz t) : rl_win (ab_fu sl v t) (ab_fu d v e) (ab_fu G v g) ages sz (upd S v b) (upd St v st) (ab_up3 D (3 * v) (nI (e 0)) (nI (e 1)) (nI (e 2))) (ab_up3 E (3 * v) E0 E1 E2) v := by
  unfold rl_win
  rw [ab_fus, ab_fus, ab_fus, pk_us, pk_us, ab_e0, ab_e1, ab_e2]
  refine ⟨hb, ht, fun a ha => ?_, hg⟩
  rcases (show a = 0 ∨ a = 1 ∨ a = 2 by omega) with rfl | rfl | rfl
  · exact ⟨ab_e0, he 0 ha⟩
  · exact ⟨ab_e1, he 1 ha⟩
  · exact ⟨ab_e2, he 2 ha⟩
theorem rl_orC {kd kd' sl sl' : Nat → Nat} : ∀ {l pre : List Nat}, (∀ s, s ∈ l → kd' s = kd s ∧ sl' (24 + 2 * s) = sl (24 + 2 * s) ∧ sl' (25 + 2 * s) = sl (25 + 2 * s)) → rl_or kd sl pre l → rl_or kd' sl' pre l := by
  intro l
  induction l with
  | nil => intro pre _ _; trivial
  | cons s l ih =>
    intro pre h H
    obtain ⟨h1, h2, h3⟩ := h s (by simp)
    refine ⟨?_, ih (fun t ht => h t (List.mem_cons_of_mem _ ht)) H.2⟩
    rw [h1, h2, h3]; exact H.1
theorem rl_viewX {rk sl sz kd tm : Nat → Nat} {d : Nat → Nat → Nat} {G : Nat → Nat → Nat → Nat → Nat} {ages : List Nat} {fs fe : Int32} {T V R S St D E Sz Kd Tm Ag : Nat → Int32} {w v r : Nat} {e : Nat → Nat} {g : Nat → Nat → Nat → Nat} {st s0 s1 s2 : Int32} (hw : w < 24) (hv : v < 24) (hT : ¬ T w = 0) (he : ab_sh3 r e) (hg : ∀ x y z, x < e 0 → y < e 1 → z < e 2 → st + nI x * s0 + nI y * s1 + nI z * s2 = nI (g x y z) ∧ ∃ x' y' z', x' < d w 0 ∧ y' < d w 1 ∧ z' < d w 2 ∧ g x y z = G w x' y' z') (H : rl_X rk sl d G ages sz kd tm fs fe T V R S St D E Sz Kd Tm Ag) : rl_X (ab_fu rk v r) (ab_fu sl v (sl w)) (ab_fu d v e) (ab_fu G v g) ages sz kd tm fs fe (upd T v 1) (upd V v 1) (upd R v (nI r)) (upd S v (S w)) (upd St v st) (ab_up3 D (3 * v) (nI (e 0)) (nI (e 1)) (nI (e 2))) (ab_up3 E (3 * v) s0 s1 s2) Sz Kd Tm Ag := by
  obtain ⟨x1, x2, ⟨x3, x4, x5, x6⟩, x7, x8⟩ := H
  refine ⟨x1, x2, ⟨x3, x4, x5, rl_orC (fun s _ => ⟨rfl, ab_fun (by omega), ab_fun (by omega)⟩) x6⟩, fun s hs => ?_, fun h hh hh0 => ?_⟩
  · obtain ⟨z1, z2, z3, z4, z5, z6⟩ := x7 s hs
    refine ⟨z1, z2, z3, z4, z5, fun hk => ?_⟩
    obtain ⟨q1, q2, q3, q4, q5, q6, q7⟩ := z6 hk
    rw [rl_nN (by omega), rl_nN (by omega)]
    exact ⟨q1, q2, q3, q4, q5, rl_winV (by omega) q6, rl_winV (by omega) q7⟩
  · obtain ⟨w1, w2, w3, w4⟩ := x8 w hw hT
    by_cases z : h = v
    · subst z
      refine ⟨?_, ?_, rl_winS w3.1 w3.2.1 he.2.2 ?_, ?_⟩
      · rw [pk_us, ab_fus]
      · rw [ab_fus, ab_fus]; exact he
      · intro x y z hx hy hz
        obtain ⟨g1, x', y', z', hx', hy', hz', g2⟩ := hg x y z hx hy hz
        have := w3.2.2.2 x' y' z' hx' hy' hz'
        rw [g2] at g1 ⊢
        exact ⟨g1, this.2⟩
      · rw [pk_us]; intro q; exact absurd q ab_10
    · rw [pk_un z] at hh0
      obtain ⟨y1, y2, y3, y4⟩ := x8 h hh hh0
      refine ⟨?_, ?_, rl_winV z y3, ?_⟩
      · rw [pk_un z, ab_fun z]; exact y1
      · rw [ab_fun z, ab_fun z]; exact y2
      · rw [pk_un z, pk_un z, ab_fun z, rl_nN z]
        intro q
        refine ⟨(y4 q).1, fun e' he' => ?_⟩
        rw [rl_pN z]; exact (y4 q).2 e' he'
theorem rl_ysN {sl sz kd tm yk cl : Nat → Nat} {d : Nat → Nat → Nat} {G : Nat → Nat → Nat → Nat → Nat} {K F1 F2 P C : Nat → Int32} {s v t : Nat} {e : Nat → Nat} {g : Nat → Nat → Nat → Nat} (hv : v ≠ 24 + 2 * s) (hv' : v ≠ 25 + 2 * s) (H : rl_ys sl d G sz kd tm yk cl K F1 F2 P C s) : rl_ys (ab_fu sl v t) (ab_fu d v e) (ab_fu G v g) sz kd tm yk cl K F1 F2 P C s := by
  obtain ⟨h1, h2, h3, h4⟩ := H
  refine ⟨h1, h2, h3, fun hk => ?_⟩
  obtain ⟨q1, q2, q3, q4⟩ := h4 hk
  rw [ab_fun (Ne.symm hv), ab_fun (Ne.symm hv')]
  refine ⟨q1, q2, q3, fun i hi => ?_⟩
  obtain ⟨p1, p2⟩ := q4 i hi
  refine ⟨fun z => ⟨(p1 z).1, fun t ht => ?_⟩, fun z => ⟨(p2 z).1, fun t ht => ?_⟩⟩
  · rw [rl_pN (Ne.symm hv)]; exact (p1 z).2 t ht
  · rw [rl_pN (Ne.symm hv), rl_pN (Ne.symm hv')]; exact (p2 z).2 t ht
theorem rl_viewY {rk sl sz kd tm yk cl : Nat → Nat} {d : Nat → Nat → Nat} {G : Nat → Nat → Nat → Nat → Nat} {ages : List Nat} {T V vals : Nat → Int32} {c_cells pv : Int32} {b_used b_rank b_dims b_shown b_tensorOf b_view b_exists b_kind b_first b_second b_owner b_parts b_partCount b_value b_order R D S : Nat → Int32} {v r t : Nat} {e : Nat → Nat} {g : Nat → Nat → Nat → Nat} (hv : v < 24) (hk : ∀ h, h < 24 → ¬ T h = 0 → rk h ≤ 3) (hn : ∀ h, h < 24 → ¬ T h = 0 → rl_n d h ≤ 64) (hR : R v = nI r) (hR' : ∀ h, h < 24 → h ≠ v → R h = b_rank h) (hD : ∀ a, a < r → D (3 * v + a) = nI (e a)) (hD' : ∀ j, j < 72 → (j < 3 * v ∨ 3 * v + 3 ≤ j) → D j = b_dims j) (hS : ∀ i, i < e 0 * e 1 * e 2 → S (64 * v + i) = nI (cl (ab_pf (e 0) (e 1) (e 2) g i))) (hS' : ∀ j, j < 1536 → (j < 64 * v ∨ 64 * v + 64 ≤ j) → S j = b_shown j) (H : rl_Y rk sl d G ages sz kd tm yk cl T V vals c_cells b_used b_rank b_dims b_shown b_tensorOf b_view b_exists b_kind b_first b_second b_owner b_parts b_partCount b_value b_order) : rl_Y (ab_fu rk v r) (ab_fu sl v t) (ab_fu d v e) (ab_fu G v g) ages sz kd tm yk cl (upd T v 1) (upd V v pv) vals c_cells (upd b_used v 1) R D S (upd b_tensorOf v (nI t)) (upd b_view v pv) b_exists b_kind b_first b_second b_owner b_parts b_partCount b_value b_order := by
  obtain ⟨⟨y1, y1'⟩, y2, y3, y4, y5, y6, y7⟩ := H
  subst y1 y1'
  refine ⟨⟨rfl, rfl⟩, y2, y3, y4, fun h hh ht => ?_, fun s hs => rl_ysN (by omega) (by omega) (y6 s hs), y7⟩
  by_cases z : h = v
  · subst z
    refine ⟨?_, ?_, ?_, ?_⟩
    · rw [ab_fus]; exact hR
    · rw [ab_fus, ab_fus]; exact hD
    · rw [pk_us, ab_fus]
    · rw [rl_nS]; intro i hi; rw [rl_pS]; exact hS i hi
  · rw [pk_un z] at ht
    obtain ⟨q1, q2, q3, q4⟩ := y5 h hh ht
    have k1 := hk h hh ht
    have k2 := hn h hh ht
    refine ⟨?_, ?_, ?_, ?_⟩
    · rw [ab_fun z, hR' h hh z]; exact q1
    · rw [ab_fun z, ab_fun z]; intro a ha; rw [hD' _ (by omega) (by omega)]; exact q2 a ha
    · rw [pk_un z, ab_fun z]; exact q3
    · rw [rl_nN z]; intro i hi; rw [rl_pN z, hS' _ (by omega) (by omega)]; exact q4 i hi
section
variable {c_cells c_slopeCount : Int32} {b_used b_rank b_dims b_shown b_tensorOf b_view b_exists b_kind b_first b_second b_owner b_parts b_partCount b_value b_slopeOf b_order b_slopes : Nat → Int32}
def ab_crd (x y z a : Nat) : Nat := if a = 0 then x else if a = 1 then y else z
theorem yb_index {post : Int32 → Prop} {h rk e a : Nat} {d : Nat → Nat} (hh : h < 25) (H : yb_row b_rank b_dims h rk d) (he : e < 2 ^ 31) (ha : a < 3) (hp : post (nI (ab_crd (e / (d 1 * d 2) % d 0) (e / d 2 % d 1) (e % d 2) a))) : wpY_index post (c_cells, c_slopeCount, b_used, b_rank, b_dims, b_shown, b_tensorOf, b_view, b_exists, b_kind, b_first, b_second, b_owner, b_parts, b_partCount, b_value, b_slopeOf, b_order, b_slopes) (nI h) (nI e) (nI a) := by
  rcases (show a = 0 ∨ a = 1 ∨ a = 2 by omega) with rfl | rfl | rfl
  · exact yb_index0 hh H he hp
  · exact yb_index1 hh H he hp
  · exact yb_index2 hh H he hp
theorem yv_hand {post : Int32 → SY → Prop} {v t r : Nat} {pv : Int32} {e c : Nat → Nat} {N : Nat} (hv : v < 24) (h0 : b_used v = 0) (hl : ∀ j, j < v → ¬ b_used j = 0) (ht : t < 32) (hr : b_rank 24 = nI r) (hr3 : r ≤ 3) (hN : N ≤ 64) (hD : ∀ a, a < r → b_dims (72 + a) = nI (e a)) (he : ∀ a, a < 3 → e a ≤ 4) (hS : ∀ i, i < N → b_shown (1536 + i) = nI (c i)) (hc : ∀ i, i < N → c i < 320) (h : ∀ D S : Nat → Int32, (∀ a, a < r → D (3 * v + a) = nI (e a)) → (∀ j, (j < 3 * v ∨ 3 * v + 3 ≤ j) → D j = b_dims j) → (∀ i, i < N → S (64 * v + i) = nI (c i)) → (∀ j, (j < 64 * v ∨ 64 * v + 64 ≤ j) → S j = b_shown j) → post (nI v) (c_cells, c_slopeCount, upd b_used v 1, upd b_rank v (nI r), D, S, upd b_tensorOf v (nI t), upd b_view v (vp_nar .boolean pv), b_exists, b_kind, b_first, b_second, b_owner, b_parts, b_partCount, b_value, b_slopeOf, b_order, b_slopes)) : wpY_handOver post (c_cells, c_slopeCount, b_used, b_rank, b_dims, b_shown, b_tensorOf, b_view, b_exists, b_kind, b_first, b_second, b_owner, b_parts, b_partCount, b_value, b_slopeOf, b_order, b_slopes) pv (nI t) := by
  refine yb_handOver hv h0 hl ht hr hr3 (fun D S d1 d2 s1 s2 => h D S ?_ d2 ?_ s2)
  · intro a ha
    have := he a (by omega)
    rw [d1 a (by omega), hD a ha, ab_vb (by omega)]
  · intro i hi
    have := hc i hi
    rw [s1 i (by omega), hS i hi, ab_vs (by omega)]
end
end
section
def ab_isA (rk : Nat) (x : Int32) : Prop := ∃ a, a < rk ∧ x = nI a
theorem ab_notA {rk : Nat} {x : Int32} (hk : rk ≤ 3) (h : ¬ ab_isA rk x) (h0 : ¬ x < 0) (h1 : ¬ nI rk ≤ x) : False := by
  obtain ⟨j, hj, rfl⟩ := nI_of h0
  refine h ⟨j, ?_, rfl⟩
  apply Nat.lt_of_not_le; intro z; exact h1 (nI_le z hj)
def tr_s (a b i : Nat) : Nat := if a = i then b else if b = i then a else i
theorem tr_pick {P : Int32 → Prop} {a b i : Nat} (ha : a < 3) (hb : b < 3) (hi : i < 3) (h : P (nI (tr_s a b i))) : (nI a = nI i → P (nI b)) ∧ (¬ nI a = nI i → (nI b = nI i → P (nI a)) ∧ (¬ nI b = nI i → P (nI i))) := by
  unfold tr_s at h
  by_cases z : a = i
  · rw [if_pos z] at h
    exact br_t (by rw [z]) h
  · rw [if_neg z] at h
    refine br_f (fun q => z ((nI_eq (by omega) (by omega)).mp q)) ?_
    by_cases y : b = i
    · rw [if_pos y] at h; exact br_t (by rw [y]) h
    · rw [if_neg y] at h; exact br_f (fun q => y ((nI_eq (by omega) (by omega)).mp q)) h
theorem tr_lt {a b i : Nat} (ha : a < 3) (hb : b < 3) (hi : i < 3) : tr_s a b i < 3 := by unfold tr_s; split <;> (try split) <;> omega
theorem tr_ltr {a b i r : Nat} (ha : a < r) (hb : b < r) (hi : i < r) : tr_s a b i < r := by unfold tr_s; split <;> (try split) <;> omega
section
variable {f_slotsTaken f_elementsTaken f_slopeCount : Int32} {a_handleTaken a_handleIsView a_windowRank a_windowSlot a_windowStart a_windowDimension a_windowStride a_slotSize a_slotKind a_slotTerms a_slotNeeded a_slotsByAge a_values a_derivatives a_firstPlaces a_secondPlaces a_assigned a_slopes : Nat → Int32}
theorem xw_hasAxis_t {post : Int32 → Prop} {h a rk : Nat} (hh : h < 24) (ht : ¬ a_handleTaken h = 0) (hr : a_windowRank h = nI rk) (hk : rk ≤ 3) (ha : a < rk) (hp : post 1) : wpX_hasAxis post (f_slotsTaken, f_elementsTaken, f_slopeCount, a_handleTaken, a_handleIsView, a_windowRank, a_windowSlot, a_windowStart, a_windowDimension, a_windowStride, a_slotSize, a_slotKind, a_slotTerms, a_slotNeeded, a_slotsByAge, a_values, a_derivatives, a_firstPlaces, a_secondPlaces, a_assigned, a_slopes) (nI h) (nI a) := by
  unfold wpX_hasAxis
  refine xw_isHandle_t hh ht (br_f ab_10 (br_f (nI_pos (by omega)) ⟨vp_in_nI (by omega) (by decide), br_f ?_ hp⟩))
  rw [nI_clamp (by omega), hr]; exact nI_ge ha (by omega)
theorem xw_hasAxis_f1 {post : Int32 → Prop} {x y : Int32} (hx : ¬ ab_isH a_handleTaken x) (hp : post 0) : wpX_hasAxis post (f_slotsTaken, f_elementsTaken, f_slopeCount, a_handleTaken, a_handleIsView, a_windowRank, a_windowSlot, a_windowStart, a_windowDimension, a_windowStride, a_slotSize, a_slotKind, a_slotTerms, a_slotNeeded, a_slotsByAge, a_values, a_derivatives, a_firstPlaces, a_secondPlaces, a_assigned, a_slopes) x y := by
  unfold wpX_hasAxis
  exact xw_isHandle_f hx (br_t rfl hp)
theorem xw_hasAxis_f2 {post : Int32 → Prop} {h rk : Nat} {y : Int32} (hh : h < 24) (ht : ¬ a_handleTaken h = 0) (hr : a_windowRank h = nI rk) (hk : rk ≤ 3) (ha : ¬ ab_isA rk y) (hp : post 0) : wpX_hasAxis post (f_slotsTaken, f_elementsTaken, f_slopeCount, a_handleTaken, a_handleIsView, a_windowRank, a_windowSlot, a_windowStart, a_windowDimension, a_windowStride, a_slotSize, a_slotKind, a_slotTerms, a_slotNeeded, a_slotsByAge, a_values, a_derivatives, a_firstPlaces, a_secondPlaces, a_assigned, a_slopes) (nI h) y := by
  unfold wpX_hasAxis
  refine xw_isHandle_t hh ht (br_f ab_10 (br_c (fun _ => hp) (fun h0 => ⟨vp_in_nI (by omega) (by decide), br_c (fun _ => hp) (fun h1 => ?_)⟩)))
  rw [nI_clamp (by omega), hr] at h1
  exact absurd (ab_notA hk ha h0 h1) id
theorem xv_transpose {post : Int32 → SX → Prop} {w v a b rk : Nat} (hw : w < 24) (hT : ¬ a_handleTaken w = 0) (hr : a_windowRank w = nI rk) (hk : rk ≤ 3) (ha : a < rk) (hb : b < rk) (hv : v < 24) (hv0 : a_handleTaken v = 0) (hvl : ∀ j, j < v → ¬ a_handleTaken j = 0) (h : post (nI v) (f_slotsTaken, f_elementsTaken, f_slopeCount, upd a_handleTaken v 1, upd a_handleIsView v 1, upd a_windowRank v (a_windowRank w), upd a_windowSlot v (a_windowSlot w), upd a_windowStart v (a_windowStart w), ab_up3 a_windowDimension (3 * v) (a_windowDimension (3 * w + tr_s a b 0)) (a_windowDimension (3 * w + tr_s a b 1)) (a_windowDimension (3 * w + tr_s a b 2)), ab_up3 a_windowStride (3 * v) (a_windowStride (3 * w + tr_s a b 0)) (a_windowStride (3 * w + tr_s a b 1)) (a_windowStride (3 * w + tr_s a b 2)), a_slotSize, a_slotKind, a_slotTerms, a_slotNeeded, a_slotsByAge, a_values, a_derivatives, a_firstPlaces, a_secondPlaces, a_assigned, a_slopes)) : wpX_transpose post (f_slotsTaken, f_elementsTaken, f_slopeCount, a_handleTaken, a_handleIsView, a_windowRank, a_windowSlot, a_windowStart, a_windowDimension, a_windowStride, a_slotSize, a_slotKind, a_slotTerms, a_slotNeeded, a_slotsByAge, a_values, a_derivatives, a_firstPlaces, a_secondPlaces, a_assigned, a_slopes) (nI w) (nI a) (nI b) := by
  have hn : w ≠ v := fun e => hT (e ▸ hv0)
  have E : ∀ f : Nat → Int32, upd (upd (ab_up3 f (3 * v) (f (3 * w)) (f (3 * w + 1)) (f (3 * w + 2))) (3 * v + b) (ab_up3 f (3 * v) (f (3 * w)) (f (3 * w + 1)) (f (3 * w + 2)) (3 * w + a))) (3 * v + a) (upd (ab_up3 f (3 * v) (f (3 * w)) (f (3 * w + 1)) (f (3 * w + 2))) (3 * v + b) (ab_up3 f (3 * v) (f (3 * w)) (f (3 * w + 1)) (f (3 * w + 2)) (3 * w + a)) (3 * w + b)) = ab_up3 f (3 * v) (f (3 * w + tr_s a b 0)) (f (3 * w + tr_s a b 1)) (f (3 * w + tr_s a b 2)) := by
    intro f
    rw [pk_un (by omega), ab_en (by omega), ab_en (by omega)]
    rcases (show a = 0 ∨ a = 1 ∨ a = 2 by omega) with rfl | rfl | rfl <;> rcases (show b = 0 ∨ b = 1 ∨ b = 2 by omega) with rfl | rfl | rfl <;> simp [tr_s, ab_u30, ab_u31, ab_u32]
  unfold wpX_transpose
  refine xw_hasAxis_t hw hT hr hk ha (br_f ab_10 (xw_hasAxis_t hw hT hr hk hb (br_f ab_10 (xw_makeView_s hv hw hv0 hvl hT (br_f (nI_pos (by omega)) (xw_copyAxis (by omega) (by omega) (by omega) (by omega) (xw_copyAxis (by omega) (by omega) (by omega) (by omega) ?_)))))))
  rw [E, E]
  exact h
end
section
variable {c_cells c_slopeCount : Int32} {b_used b_rank b_dims b_shown b_tensorOf b_view b_exists b_kind b_first b_second b_owner b_parts b_partCount b_value b_slopeOf b_order b_slopes : Nat → Int32}
theorem yv_tloop {post : Int32 → SY → Prop} {w a b v rk rw t N : Nat} {dw e : Nat → Nat} {c : Nat → Nat → Nat → Nat} (hw : w < 24) (ha : a < 3) (hb : b < 3) (H24 : yb_row b_rank b_dims 24 rk e) (Hw : yb_row b_rank b_dims w rw dw) (hN : e 0 * e 1 * e 2 = N) (hcell : ∀ i j k, i < dw 0 → j < dw 1 → k < dw 2 → b_shown (64 * w + ((i * dw 1 + j) * dw 2 + k)) = nI (c i j k) ∧ c i j k < 320) (hrng : ∀ x y z, x < e 0 → y < e 1 → z < e 2 → ab_crd x y z (tr_s a b 0) < dw 0 ∧ ab_crd x y z (tr_s a b 1) < dw 1 ∧ ab_crd x y z (tr_s a b 2) < dw 2) (hv : v < 24) (hv0 : b_used v = 0) (hvl : ∀ j, j < v → ¬ b_used j = 0) (ht : b_tensorOf w = nI t) (ht2 : t < 32) (h : ∀ D S : Nat → Int32, (∀ i, i < rk → D (3 * v + i) = nI (e i)) → (∀ j, (j < 3 * v ∨ 3 * v + 3 ≤ j) → D j = b_dims j) → (∀ i, i < N → S (64 * v + i) = nI (ab_pf (e 0) (e 1) (e 2) (fun x y z => c (ab_crd x y z (tr_s a b 0)) (ab_crd x y z (tr_s a b 1)) (ab_crd x y z (tr_s a b 2))) i)) → (∀ j, j < 1536 → (j < 64 * v ∨ 64 * v + 64 ≤ j) → S j = b_shown j) → post (nI v) (c_cells, c_slopeCount, upd b_used v 1, upd b_rank v (nI rk), D, S, upd b_tensorOf v (nI t), upd b_view v 1, b_exists, b_kind, b_first, b_second, b_owner, b_parts, b_partCount, b_value, b_slopeOf, b_order, b_slopes)) : ∀ (q j : Nat) (S : Nat → Int32), j + q = N → (∀ i, i < j → S (1536 + i) = nI (ab_pf (e 0) (e 1) (e 2) (fun x y z => c (ab_crd x y z (tr_s a b 0)) (ab_crd x y z (tr_s a b 1)) (ab_crd x y z (tr_s a b 2))) i)) → (∀ i, i < 1536 → S i = b_shown i) → wY_transpose_134 post (nI w) (nI a) (nI b) (nI N) c_cells c_slopeCount (q + 1) (nI j) b_used b_rank b_dims S b_tensorOf b_view b_exists b_kind b_first b_second b_owner b_parts b_partCount b_value b_slopeOf b_order b_slopes := by
  have hb4 := H24.2.2.2.2
  have hN64 : N ≤ 64 := hN ▸ ab_sz (hb4 0 (by omega)).2 (hb4 1 (by omega)).2 (hb4 2 (by omega)).2
  have hin : ∀ i : Nat, i / (e 1 * e 2) % e 0 < e 0 ∧ i / e 2 % e 1 < e 1 ∧ i % e 2 < e 2 := fun i => ab_pfi (hb4 0 (by omega)).1 (hb4 1 (by omega)).1 (hb4 2 (by omega)).1
  intro q
  induction q with
  | zero =>
    intro j S hj h1 h2
    have hjN : j = N := by omega
    refine br_t (nI_le (by omega) (by omega)) ⟨vp_in_nI (by omega) (by decide), ?_⟩
    rw [nI_clamp (by omega), ht]
    refine yv_hand (e := e) (c := fun i => ab_pf (e 0) (e 1) (e 2) (fun x y z => c (ab_crd x y z (tr_s a b 0)) (ab_crd x y z (tr_s a b 1)) (ab_crd x y z (tr_s a b 2))) i) (N := N) hv hv0 hvl ht2 H24.1 H24.2.1 hN64 (fun i hi => H24.2.2.1 i hi) (fun i hi => (hb4 i hi).2) (fun i hi => h1 i (by omega)) ?_ (fun D S' d1 d2 s1 s2 => ?_)
    · intro i hi
      obtain ⟨p1, p2, p3⟩ := hin i
      obtain ⟨r1, r2, r3⟩ := hrng _ _ _ p1 p2 p3
      exact (hcell _ _ _ r1 r2 r3).2
    · rw [ab_b1]
      exact h D S' d1 d2 s1 (fun i hi hi2 => by rw [s2 i hi2]; exact h2 i hi)
  | succ q ih =>
    intro j S hj h1 h2
    obtain ⟨p1, p2, p3⟩ := hin j
    obtain ⟨r1, r2, r3⟩ := hrng _ _ _ p1 p2 p3
    have hl := ab_lin r1 r2 r3
    have hsz := ab_sz (Hw.2.2.2.2 0 (by omega)).2 (Hw.2.2.2.2 1 (by omega)).2 (Hw.2.2.2.2 2 (by omega)).2
    obtain ⟨c1, c2⟩ := hcell _ _ _ r1 r2 r3
    have e1 : (1536 : Int32) + nI j = nI (1536 + j) := nI_add 1536 j
    refine br_f (nI_ge (by omega) (by omega)) ?_
    refine tr_pick (P := fun z => wY_transpose_163 post (wY_transpose_134 post (nI w) (nI a) (nI b) (nI N) c_cells c_slopeCount (q + 1)) (nI w) (nI a) (nI b) (nI N) (nI j) z (nI j) 24 c_cells c_slopeCount b_used b_rank b_dims S b_tensorOf b_view b_exists b_kind b_first b_second b_owner b_parts b_partCount b_value b_slopeOf b_order b_slopes) (i := 0) ha hb (by omega) ?_
    refine yb_index (h := 24) (by omega) H24 (by omega) (tr_lt ha hb (by omega)) ?_
    refine tr_pick (P := fun z => wY_transpose_192 post (wY_transpose_134 post (nI w) (nI a) (nI b) (nI N) c_cells c_slopeCount (q + 1)) (nI w) (nI a) (nI b) (nI N) (nI j) (nI _) z (nI j) 24 c_cells c_slopeCount b_used b_rank b_dims S b_tensorOf b_view b_exists b_kind b_first b_second b_owner b_parts b_partCount b_value b_slopeOf b_order b_slopes) (i := 1) ha hb (by omega) ?_
    refine yb_index (h := 24) (by omega) H24 (by omega) (tr_lt ha hb (by omega)) ?_
    refine tr_pick (P := fun z => wY_transpose_221 post (wY_transpose_134 post (nI w) (nI a) (nI b) (nI N) c_cells c_slopeCount (q + 1)) (nI w) (nI a) (nI b) (nI N) (nI j) (nI _) (nI _) z (nI j) 24 c_cells c_slopeCount b_used b_rank b_dims S b_tensorOf b_view b_exists b_kind b_first b_second b_owner b_parts b_partCount b_value b_slopeOf b_order b_slopes) (i := 2) ha hb (by omega) ?_
    refine yb_index (h := 24) (by omega) H24 (by omega) (tr_lt ha hb (by omega)) ?_
    refine yb_cellAt (by omega) Hw r1 r2 r3 ⟨ab_vin e1 (by omega) (by decide), fun S' hS' => nm_r (nI_1 j) (ih (j + 1) S' (by omega) ?_ ?_)⟩
    · rw [h2 _ (by omega), c1, ab_vs2 (by omega), e1, nI_clamp (by omega)] at hS'
      intro i hi
      rw [hS']
      by_cases z : i = j
      · rw [z, pk_us]; rfl
      · rw [pk_un (by omega)]; exact h1 i (by omega)
    · intro i hi
      rw [hS', e1, nI_clamp (by omega), pk_un (by omega)]; exact h2 i hi
end
end
section
theorem ab_iy0 {w : Nat} : 3 * nI w = nI (3 * w) := by
  show nI 3 * nI w = _
  rw [pk_mul]
theorem tr_rng {a b x y z : Nat} {dw : Nat → Nat} (ha : a < 3) (hb : b < 3) : x < dw (tr_s a b 0) → y < dw (tr_s a b 1) → z < dw (tr_s a b 2) → ab_crd x y z (tr_s a b 0) < dw 0 ∧ ab_crd x y z (tr_s a b 1) < dw 1 ∧ ab_crd x y z (tr_s a b 2) < dw 2 := by
  rcases (show a = 0 ∨ a = 1 ∨ a = 2 by omega) with rfl | rfl | rfl <;> rcases (show b = 0 ∨ b = 1 ∨ b = 2 by omega) with rfl | rfl | rfl <;> simp [tr_s, ab_crd] <;> intro hx hy hz <;> exact ⟨by assumption, by assumption, by assumption⟩
theorem tr_eq {a b x y z k : Nat} {st : Int32} {E : Nat → Int32} (ha : a < 3) (hb : b < 3) : st + nI x * E (k + tr_s a b 0) + nI y * E (k + tr_s a b 1) + nI z * E (k + tr_s a b 2) = st + nI (ab_crd x y z (tr_s a b 0)) * E k + nI (ab_crd x y z (tr_s a b 1)) * E (k + 1) + nI (ab_crd x y z (tr_s a b 2)) * E (k + 2) := by
  rcases (show a = 0 ∨ a = 1 ∨ a = 2 by omega) with rfl | rfl | rfl <;> rcases (show b = 0 ∨ b = 1 ∨ b = 2 by omega) with rfl | rfl | rfl <;> simp [tr_s, ab_crd] <;> grind
section
variable {c_cells c_slopeCount : Int32} {b_used b_rank b_dims b_shown b_tensorOf b_view b_exists b_kind b_first b_second b_owner b_parts b_partCount b_value b_slopeOf b_order b_slopes : Nat → Int32}
theorem yv_transpose {post : Int32 → SY → Prop} {w a b v rk t : Nat} {dw : Nat → Nat} {c : Nat → Nat → Nat → Nat} (hw : w < 24) (hU : ¬ b_used w = 0) (Hw : yb_row b_rank b_dims w rk dw) (ha : a < rk) (hb : b < rk) (hcell : ∀ i j k, i < dw 0 → j < dw 1 → k < dw 2 → b_shown (64 * w + ((i * dw 1 + j) * dw 2 + k)) = nI (c i j k) ∧ c i j k < 320) (hv : v < 24) (hv0 : b_used v = 0) (hvl : ∀ j, j < v → ¬ b_used j = 0) (ht : b_tensorOf w = nI t) (ht2 : t < 32) (h : ∀ R D S : Nat → Int32, R v = nI rk → (∀ h, h < 24 → h ≠ v → R h = b_rank h) → (∀ i, i < rk → D (3 * v + i) = nI (dw (tr_s a b i))) → (∀ j, j < 72 → (j < 3 * v ∨ 3 * v + 3 ≤ j) → D j = b_dims j) → (∀ i, i < dw (tr_s a b 0) * dw (tr_s a b 1) * dw (tr_s a b 2) → S (64 * v + i) = nI (ab_pf (dw (tr_s a b 0)) (dw (tr_s a b 1)) (dw (tr_s a b 2)) (fun x y z => c (ab_crd x y z (tr_s a b 0)) (ab_crd x y z (tr_s a b 1)) (ab_crd x y z (tr_s a b 2))) i)) → (∀ j, j < 1536 → (j < 64 * v ∨ 64 * v + 64 ≤ j) → S j = b_shown j) → post (nI v) (c_cells, c_slopeCount, upd b_used v 1, R, D, S, upd b_tensorOf v (nI t), upd b_view v 1, b_exists, b_kind, b_first, b_second, b_owner, b_parts, b_partCount, b_value, b_slopeOf, b_order, b_slopes)) : wpY_transpose post (c_cells, c_slopeCount, b_used, b_rank, b_dims, b_shown, b_tensorOf, b_view, b_exists, b_kind, b_first, b_second, b_owner, b_parts, b_partCount, b_value, b_slopeOf, b_order, b_slopes) (nI w) (nI a) (nI b) := by
  have hc : (nI w).toNatClampNeg = w := nI_clamp (by omega)
  have hv25 : vp_in (nI w) 25 := vp_in_nI (by omega) (by decide)
  have hk := Hw.2.1
  have hb4 := Hw.2.2.2.2
  have e72 : ∀ i : Nat, (72 : Int32) + nI i = nI (72 + i) := fun i => nI_add 72 i
  unfold wpY_transpose
  refine yb_isHandle_t hw hU (br_f ab_10 (br_f (nI_pos (by omega)) (br_f (nI_pos (by omega)) ⟨hv25, br_f ?_ ⟨hv25, br_f ?_ (yb_freeHandle_s hv hv0 hvl (br_f ?_ ⟨hv25, ab_vin ab_iy0 (by omega) (by decide), ab_vin (ab_iy (a := 1)) (by omega) (by decide), ab_vin (ab_iy (a := 2)) (by omega) (by decide), ?_⟩))⟩⟩)))
  · rw [hc, Hw.1]; exact nI_ge ha (by omega)
  · rw [hc, Hw.1]; exact nI_ge hb (by omega)
  · intro z
    have := (nI_eq (a := v) (b := 24) (by omega) (by decide)).mp z
    omega
  rw [hc, Hw.1, ab_iy0, nI_clamp (by omega), show nI (3 * w) + 1 = nI (3 * w + 1) from nI_1 _, nI_clamp (by omega), show nI (3 * w) + 2 = nI (3 * w + 2) from nI_add _ 2, nI_clamp (by omega)]
  refine yb_shapeNew (by omega) ?_
  refine ⟨ab_vin (nI_add _ _) (by omega) (by decide), ab_vin (e72 _) (by omega) (by decide), fun D1 hD1 => ⟨ab_vin (nI_add _ _) (by omega) (by decide), ab_vin (e72 _) (by omega) (by decide), fun D2 hD2 => ?_⟩⟩
  rw [nI_add, nI_clamp (by omega), e72, nI_clamp (by omega), ab_en (by omega), Hw.2.2.1 b hb, ab_vb (by have := hb4 b (by omega); omega)] at hD1
  rw [nI_add, nI_clamp (by omega), e72, nI_clamp (by omega)] at hD2
  have q1 : D1 (3 * w + a) = nI (dw a) := by rw [hD1, pk_un (by omega), ab_en (by omega), Hw.2.2.1 a ha]
  rw [q1, ab_vb (by have := hb4 a (by omega); omega)] at hD2
  have d2 : ∀ i, i < rk → D2 (72 + i) = nI (dw (tr_s a b i)) := by
    intro i hi
    unfold tr_s
    by_cases z : i = b
    · subst z
      rw [hD2, pk_us]
      by_cases y : a = i
      · rw [if_pos y, y]
      · rw [if_neg y, if_pos rfl]
    · rw [hD2, pk_un (by omega), hD1]
      by_cases y : i = a
      · subst y; rw [pk_us, if_pos rfl]
      · rw [pk_un (by omega), if_neg (by omega), if_neg (by omega)]
        have g4 := hb4 i (by omega)
        rcases (show i = 0 ∨ i = 1 ∨ i = 2 by omega) with rfl | rfl | rfl
        · rw [show (72 + 0) = 72 from rfl, ab_e0, show 3 * w = 3 * w + 0 from rfl, Hw.2.2.1 0 hi, yb_btn (by omega)]
        · rw [ab_e1, Hw.2.2.1 1 hi, yb_btn (by omega)]
        · rw [ab_e2, Hw.2.2.1 2 hi, yb_btn (by omega)]
  have d3 : ∀ j, j < 72 → D2 j = b_dims j := by
    intro j hj
    rw [hD2, pk_un (by omega), hD1, pk_un (by omega), ab_en (by omega)]
  have H24 : yb_row (upd b_rank 24 (nI rk)) D2 24 rk (fun i => dw (tr_s a b i)) := by
    refine ⟨pk_us, hk, d2, fun i h1 h2 => ?_, fun i hi => hb4 _ (tr_lt (by omega) (by omega) hi)⟩
    have : tr_s a b i = i := by unfold tr_s; rw [if_neg (by omega), if_neg (by omega)]
    show dw (tr_s a b i) = 1
    rw [this]; exact Hw.2.2.2.1 i h1 h2
  have Hw' : yb_row (upd b_rank 24 (nI rk)) D2 w rk dw := by
    refine ⟨by rw [pk_un (by omega)]; exact Hw.1, hk, fun i hi => ?_, Hw.2.2.2.1, hb4⟩
    rw [d3 _ (by omega)]; exact Hw.2.2.1 i hi
  refine yb_size (h := 24) (by omega) H24 ⟨dw (tr_s a b 0) * dw (tr_s a b 1) * dw (tr_s a b 2) + 1, ?_⟩
  refine yv_tloop (v := v) (t := t) (e := fun i => dw (tr_s a b i)) hw (by omega) (by omega) H24 Hw' rfl hcell ?_ hv hv0 hvl ht ht2 (fun D S f1 f2 f3 f4 => ?_) _ 0 b_shown (by omega) (fun i hi => absurd hi (by omega)) (fun _ _ => rfl)
  · intro x y z hx hy hz
    exact tr_rng (by omega) (by omega) hx hy hz
  · refine h _ D S ?_ ?_ f1 ?_ f3 f4
    · rw [pk_us]
    · intro i hi hi2; rw [pk_un hi2, pk_un (by omega)]
    · intro j hj hj2; rw [f2 j hj2]; exact d3 j hj
theorem yv_transpose_f1 {post : Int32 → SY → Prop} {x y z : Int32} (hx : ¬ ab_isH b_used x) (hp : post (-1) (c_cells, c_slopeCount, b_used, b_rank, b_dims, b_shown, b_tensorOf, b_view, b_exists, b_kind, b_first, b_second, b_owner, b_parts, b_partCount, b_value, b_slopeOf, b_order, b_slopes)) : wpY_transpose post (c_cells, c_slopeCount, b_used, b_rank, b_dims, b_shown, b_tensorOf, b_view, b_exists, b_kind, b_first, b_second, b_owner, b_parts, b_partCount, b_value, b_slopeOf, b_order, b_slopes) x y z := by
  unfold wpY_transpose
  exact yb_isHandle_f hx (br_t rfl hp)
theorem yv_transpose_f2 {post : Int32 → SY → Prop} {w rk : Nat} {y z : Int32} (hw : w < 24) (hU : ¬ b_used w = 0) (hr : b_rank w = nI rk) (hk : rk ≤ 3) (hn : ¬ ab_isA rk y ∨ ¬ ab_isA rk z ∨ ∀ j, j < 24 → ¬ b_used j = 0) (hp : post (-1) (c_cells, c_slopeCount, b_used, b_rank, b_dims, b_shown, b_tensorOf, b_view, b_exists, b_kind, b_first, b_second, b_owner, b_parts, b_partCount, b_value, b_slopeOf, b_order, b_slopes)) : wpY_transpose post (c_cells, c_slopeCount, b_used, b_rank, b_dims, b_shown, b_tensorOf, b_view, b_exists, b_kind, b_first, b_second, b_owner, b_parts, b_partCount, b_value, b_slopeOf, b_order, b_slopes) (nI w) y z := by
  have hv25 : vp_in (nI w) 25 := vp_in_nI (by omega) (by decide)
  unfold wpY_transpose
  refine yb_isHandle_t hw hU (br_f ab_10 (br_c (fun _ => hp) (fun h1 => br_c (fun _ => hp) (fun h2 => ⟨hv25, br_c (fun _ => hp) (fun h3 => ⟨hv25, br_c (fun _ => hp) (fun h4 => ?_)⟩)⟩))))
  rw [nI_clamp (by omega), hr] at h3 h4
  rcases hn with q | q | q
  · exact absurd (ab_notA hk q h1 h3) id
  · exact absurd (ab_notA hk q h2 h4) id
  · exact yb_freeHandle_n q (br_t rfl hp)
end
section
variable {f_slotsTaken f_elementsTaken f_slopeCount : Int32} {a_handleTaken a_handleIsView a_windowRank a_windowSlot a_windowStart a_windowDimension a_windowStride a_slotSize a_slotKind a_slotTerms a_slotNeeded a_slotsByAge a_values a_derivatives a_firstPlaces a_secondPlaces a_assigned a_slopes : Nat → Int32}
variable {c_cells c_slopeCount : Int32} {b_used b_rank b_dims b_shown b_tensorOf b_view b_exists b_kind b_first b_second b_owner b_parts b_partCount b_value b_slopeOf b_order b_slopes : Nat → Int32}
theorem rl_hk {rk sl sz kd tm : Nat → Nat} {d : Nat → Nat → Nat} {G : Nat → Nat → Nat → Nat → Nat} {ages : List Nat} {fs fe : Int32} {T V R S St D E Sz Kd Tm Ag : Nat → Int32} (H : rl_X rk sl d G ages sz kd tm fs fe T V R S St D E Sz Kd Tm Ag) : (∀ h, h < 24 → ¬ T h = 0 → rk h ≤ 3) ∧ (∀ h, h < 24 → ¬ T h = 0 → rl_n d h ≤ 64) := by
  refine ⟨fun h hh ht => (H.2.2.2.2 h hh ht).2.1.1, fun h hh ht => ?_⟩
  have := (H.2.2.2.2 h hh ht).2.1.2.2
  exact ab_sz (this 0 (by omega)).2 (this 1 (by omega)).2 (this 2 (by omega)).2
theorem rl_mem {rk sl sz kd tm : Nat → Nat} {d : Nat → Nat → Nat} {G : Nat → Nat → Nat → Nat → Nat} {ages : List Nat} {fs fe : Int32} {T V R S St D E Sz Kd Tm Ag : Nat → Int32} (H : rl_X rk sl d G ages sz kd tm fs fe T V R S St D E Sz Kd Tm Ag) {p : Nat} : p ∈ ab_fl sz ages ↔ p / 64 ∈ ages ∧ p % 64 < sz (p / 64) := ab_flm (fun s hs => (H.2.2.2.1 s hs).2.2.1)
theorem rl_wmem {rk sl sz kd tm : Nat → Nat} {d : Nat → Nat → Nat} {G : Nat → Nat → Nat → Nat → Nat} {ages : List Nat} {fs fe : Int32} {T V R S St D E Sz Kd Tm Ag : Nat → Int32} (H : rl_X rk sl d G ages sz kd tm fs fe T V R S St D E Sz Kd Tm Ag) {w : Nat} (W : rl_win sl d G ages sz S St D E w) {x y z : Nat} (hx : x < d w 0) (hy : y < d w 1) (hz : z < d w 2) : G w x y z ∈ ab_fl sz ages := by
  obtain ⟨w1, w2, w3, w4⟩ := W
  obtain ⟨q1, q2, q3⟩ := w4 x y z hx hy hz
  rw [rl_mem H, q2]
  exact ⟨w2, q3⟩
theorem rl_row {rk sl cl : Nat → Nat} {d : Nat → Nat → Nat} {G : Nat → Nat → Nat → Nat → Nat} {w : Nat} {R D S T : Nat → Int32} (hs : ab_sh3 (rk w) (d w)) (H : rl_yh rk sl d G cl R D S T w) : yb_row R D w (rk w) (d w) := ⟨H.1, hs.1, H.2.1, hs.2.1, hs.2.2⟩
theorem rl_cell {rk sl sz kd tm cl : Nat → Nat} {d : Nat → Nat → Nat} {G : Nat → Nat → Nat → Nat → Nat} {ages : List Nat} {fs fe : Int32} {T V R S St D E Sz Kd Tm Ag O : Nat → Int32} {YR YD YS YT : Nat → Int32} {w : Nat} (HX : rl_X rk sl d G ages sz kd tm fs fe T V R S St D E Sz Kd Tm Ag) (HO : rl_own sz cl ages O) (W : rl_win sl d G ages sz S St D E w) (H : rl_yh rk sl d G cl YR YD YS YT w) : ∀ i j k, i < d w 0 → j < d w 1 → k < d w 2 → YS (64 * w + ((i * d w 1 + j) * d w 2 + k)) = nI (cl (G w i j k)) ∧ cl (G w i j k) < 320 := by
  intro i j k hi hj hk
  refine ⟨?_, (HO.1 _ (rl_wmem HX W hi hj hk)).1⟩
  rw [H.2.2.2 _ (ab_lin hi hj hk)]
  unfold rl_p
  rw [ab_pfl hi hj hk]
end
theorem i_vc_transpose {k : Nat} {u : SX} {v : SY} (I : i_Rel k u v) (hk : k + 5 ≤ 2560) (v1 : Int32) (v2 : Int32) (v3 : Int32) : wpX_transpose (fun r u' => wpY_transpose (fun r' v' => r' = r ∧ i_Rel (k + 5) u' v') v v1 v2 v3) u v1 v2 v3 := by
  obtain ⟨f_slotsTaken, f_elementsTaken, f_slopeCount, a_handleTaken, a_handleIsView, a_windowRank, a_windowSlot, a_windowStart, a_windowDimension, a_windowStride, a_slotSize, a_slotKind, a_slotTerms, a_slotNeeded, a_slotsByAge, a_values, a_derivatives, a_firstPlaces, a_secondPlaces, a_assigned, a_slopes⟩ := u
  obtain ⟨c_cells, c_slopeCount, b_used, b_rank, b_dims, b_shown, b_tensorOf, b_view, b_exists, b_kind, b_first, b_second, b_owner, b_parts, b_partCount, b_value, b_slopeOf, b_order, b_slopes⟩ := v
  have I' := I
  obtain ⟨rk, sl, d, G, ages, sz, kd, tm, yk, cl, hX, hY, hS⟩ := I'
  have hu := hY.1.1
  by_cases hH : ab_isH a_handleTaken v1
  · obtain ⟨w, hw, rfl, hT⟩ := hH
    obtain ⟨w1, w2, w3, w4⟩ := hX.2.2.2.2 w hw hT
    have yw := hY.2.2.2.2.1 w hw hT
    have hU : ¬ b_used w = 0 := by rw [hu]; exact hT
    by_cases hA : ab_isA (rk w) v2
    · by_cases hB : ab_isA (rk w) v3
      · obtain ⟨a, ha, rfl⟩ := hA
        obtain ⟨b, hb, rfl⟩ := hB
        have hk3 := w2.1
        rcases ab_lst a_handleTaken 24 with ⟨v, hv, hv0, hvl⟩ | vn
        · have D0 := w3.2.2.1
          refine xv_transpose hw hT w1 w2.1 ha hb hv hv0 hvl ?_
          rw [w1, (D0 _ (tr_lt (a := a) (b := b) (i := 0) (by omega) (by omega) (by omega))).1, (D0 _ (tr_lt (a := a) (b := b) (i := 1) (by omega) (by omega) (by omega))).1, (D0 _ (tr_lt (a := a) (b := b) (i := 2) (by omega) (by omega) (by omega))).1]
          refine yv_transpose (v := v) (t := sl w) (c := fun i j k => cl (G w i j k)) hw hU (rl_row w2 yw) ha hb (rl_cell hX hY.2.2.1 w3 yw) hv (by rw [hu]; exact hv0) (by rw [hu]; exact hvl) yw.2.2.1 (hX.2.2.1.2.1 _ w3.2.1) (fun R D S r1 r2 d1 d2 s1 s2 => ⟨rfl, ?_⟩)
          refine rl_mk (k + 5) _ _ _ _ ages sz kd tm yk cl (rl_viewX (e := fun i => d w (tr_s a b i)) (g := fun x y z => G w (ab_crd x y z (tr_s a b 0)) (ab_crd x y z (tr_s a b 1)) (ab_crd x y z (tr_s a b 2))) hw hv hT ?_ ?_ hX) (rl_viewY (e := fun i => d w (tr_s a b i)) hv (rl_hk hX).1 (rl_hk hX).2 r1 r2 d1 d2 s1 s2 hY) hS
          · refine ⟨hk3, fun i h1 h2 => ?_, fun i hi => w2.2.2 _ (tr_lt (by omega) (by omega) hi)⟩
            have : tr_s a b i = i := by unfold tr_s; rw [if_neg (by omega), if_neg (by omega)]
            show d w (tr_s a b i) = 1
            rw [this]; exact w2.2.1 i h1 h2
          · intro x y z hx hy hz
            obtain ⟨r1, r2, r3⟩ := tr_rng (by omega) (by omega) hx hy hz
            refine ⟨?_, _, _, _, r1, r2, r3, rfl⟩
            rw [tr_eq (by omega) (by omega)]
            exact (w3.2.2.2 _ _ _ r1 r2 r3).1
        · refine ?_
          unfold wpX_transpose
          refine xw_hasAxis_t hw hT w1 w2.1 ha (br_f ab_10 (xw_hasAxis_t hw hT w1 w2.1 hb (br_f ab_10 (xw_makeView_n vn (br_t (by decide) ?_)))))
          exact yv_transpose_f2 hw hU yw.1 w2.1 (Or.inr (Or.inr (by rw [hu]; exact vn))) ⟨rfl, I⟩
      · obtain ⟨a, ha, rfl⟩ := hA
        unfold wpX_transpose
        refine xw_hasAxis_t hw hT w1 w2.1 ha (br_f ab_10 (xw_hasAxis_f2 hw hT w1 w2.1 hB (br_t rfl ?_)))
        exact yv_transpose_f2 hw hU yw.1 w2.1 (Or.inr (Or.inl hB)) ⟨rfl, I⟩
    · unfold wpX_transpose
      refine xw_hasAxis_f2 hw hT w1 w2.1 hA (br_t rfl ?_)
      exact yv_transpose_f2 hw hU yw.1 w2.1 (Or.inl hA) ⟨rfl, I⟩
  · unfold wpX_transpose
    refine xw_hasAxis_f1 hH (br_t rfl ?_)
    exact yv_transpose_f1 (by rw [hu]; exact hH) ⟨rfl, I⟩
end
section
theorem ab_uu {f : Nat → Int32} {k : Nat} {a b : Int32} : upd (upd f k a) k b = upd f k b := by
  funext j; unfold upd; by_cases h : j = k <;> simp [h]
def sc_p (fr r x : Nat) : Nat := fr + r * x - 4 * x
theorem sc_2 {fr r x : Nat} (h : 4 * x ≤ fr + r * x) : nI fr + (nI r - 4) * nI x = nI (sc_p fr r x) := by
  unfold sc_p
  rw [← pk_sub h, ← nI_add, ← pk_mul r x, ← pk_mul 4 x, show nI 4 = 4 from rfl]
  grind
theorem sc_1 {fr r c d : Nat} (hr : r < 8) (hc : 1 ≤ c) (hc4 : c ≤ 4) (hd : d ≤ 4) (hfr : fr < d) (h0 : ¬ nI fr + (nI c - 1) * (nI r - 4) < 0) (h1 : nI fr + (nI c - 1) * (nI r - 4) < nI d) : ∀ x, x < c → 4 * x ≤ fr + r * x ∧ sc_p fr r x < d := by
  have e0 : nI c - 1 = nI (c - 1) := pk_sub (b := 1) hc
  have e : nI fr + (nI c - 1) * (nI r - 4) = nI (fr + r * (c - 1)) - nI (4 * (c - 1)) := by
    rw [e0, ← nI_add, ← pk_mul r, ← pk_mul 4, show nI 4 = 4 from rfl]
    grind
  rw [e] at h0 h1
  have k1 : 4 * (c - 1) ≤ fr + r * (c - 1) := by
    apply Nat.le_of_not_lt; intro z
    exact h0 (pk_sneg (by omega) z)
  rw [pk_sub k1] at h1
  have k3 : r * (c - 1) ≤ 8 * 3 := Nat.mul_le_mul (by omega) (by omega)
  have k2 : fr + r * (c - 1) - 4 * (c - 1) < d := (nI_ltI (by omega) (by omega)).mp h1
  intro x hx
  unfold sc_p
  rcases (show c = 1 ∨ c = 2 ∨ c = 3 ∨ c = 4 by omega) with rfl | rfl | rfl | rfl <;> rcases (show x = 0 ∨ x = 1 ∨ x = 2 ∨ x = 3 by omega) with rfl | rfl | rfl | rfl <;> omega
def sc_c (a fr r x i : Nat) : Nat := if i = a then sc_p fr r x else x
def sc_e (dw : Nat → Nat) (a c i : Nat) : Nat := if i = a then c else dw i
theorem sc_e3 {rk a c : Nat} {dw : Nat → Nat} (h : ab_sh3 rk dw) (ha : a < rk) (hc : 1 ≤ c) (hc4 : c ≤ 4) : ab_sh3 rk (sc_e dw a c) := by
  refine ⟨h.1, fun i h1 h2 => ?_, fun i hi => ?_⟩
  · unfold sc_e; rw [if_neg (by omega)]; exact h.2.1 i h1 h2
  · unfold sc_e; split
    · omega
    · exact h.2.2 i hi
theorem sc_rng {a c fr r x i : Nat} {dw : Nat → Nat} (hp : ∀ x, x < c → 4 * x ≤ fr + r * x ∧ sc_p fr r x < dw a) (hx : x < sc_e dw a c i) : sc_c a fr r x i < dw i := by
  unfold sc_e at hx
  unfold sc_c
  by_cases z : i = a
  · rw [if_pos z] at hx ⊢; rw [z]; exact (hp x hx).2
  · rw [if_neg z] at hx ⊢; exact hx
section
variable {f_slotsTaken f_elementsTaken f_slopeCount : Int32} {a_handleTaken a_handleIsView a_windowRank a_windowSlot a_windowStart a_windowDimension a_windowStride a_slotSize a_slotKind a_slotTerms a_slotNeeded a_slotsByAge a_values a_derivatives a_firstPlaces a_secondPlaces a_assigned a_slopes : Nat → Int32}
theorem xv_slice_n {post : Int32 → SX → Prop} {w a rk : Nat} {x y : Int32} {dw : Nat → Nat} (hw : w < 24) (hT : ¬ a_handleTaken w = 0) (hr : a_windowRank w = nI rk) (hk : rk ≤ 3) (ha : a < rk) (hd : a_windowDimension (3 * w + a) = nI (dw a)) (hd4 : dw a ≤ 4) (hno : (¬ ∃ cd, 8 ≤ cd ∧ cd ≤ 39 ∧ y = nI cd) ∨ (∀ j, j < 24 → ¬ a_handleTaken j = 0) ∨ (∀ cd, y = nI cd → 8 ≤ cd → cd ≤ 39 → ¬ ∃ fr, fr < dw a ∧ x = nI fr ∧ ¬ nI fr + (nI (cd / 8) - 1) * (nI (cd % 8) - 4) < 0 ∧ nI fr + (nI (cd / 8) - 1) * (nI (cd % 8) - 4) < nI (dw a))) (hp : post (-1) (f_slotsTaken, f_elementsTaken, f_slopeCount, a_handleTaken, a_handleIsView, a_windowRank, a_windowSlot, a_windowStart, a_windowDimension, a_windowStride, a_slotSize, a_slotKind, a_slotTerms, a_slotNeeded, a_slotsByAge, a_values, a_derivatives, a_firstPlaces, a_secondPlaces, a_assigned, a_slopes)) : wpX_slice post (f_slotsTaken, f_elementsTaken, f_slopeCount, a_handleTaken, a_handleIsView, a_windowRank, a_windowSlot, a_windowStart, a_windowDimension, a_windowStride, a_slotSize, a_slotKind, a_slotTerms, a_slotNeeded, a_slotsByAge, a_values, a_derivatives, a_firstPlaces, a_secondPlaces, a_assigned, a_slopes) (nI w) (nI a) x y := by
  unfold wpX_slice
  refine xw_hasAxis_t hw hT hr hk ha (br_f ab_10 (br_c (fun _ => hp) (fun h8 => br_c (fun h39 => ?_) (fun _ => hp))))
  have h0 : ¬ y < 0 := by
    intro z
    refine h8 ?_
    rw [Int32.lt_iff_toInt_lt] at z ⊢
    rw [show (0 : Int32).toInt = 0 from by decide] at z
    rw [show (8 : Int32).toInt = 8 from by decide]
    omega
  obtain ⟨cd, hcd, rfl⟩ := nI_of h0
  have c8 : 8 ≤ cd := by
    apply Nat.le_of_not_lt; intro z; exact h8 (nI_lt (b := 8) z (by decide))
  have c39 : cd ≤ 39 := by
    apply Nat.le_of_not_lt; intro z; exact nI_ge (a := 39) z hcd h39
  refine nm_r (pk_shrN (by omega) _ 3 (by decide)) (nm_r (e' := nI (cd % 8) - 4) (by rw [pk_andN (by omega) 3 (by decide)]) ⟨ab_vin ab_ix (by omega) (by decide), nm_r (e' := nI (dw a)) (by rw [ab_ix, nI_clamp (by omega), hd]) (br_c (fun _ => hp) (fun f0 => br_c (fun f1 => nm_e (br_c (fun _ => hp) (fun l0 => br_c (fun l1 => ?_) (fun _ => hp)))) (fun _ => hp)))⟩)
  obtain ⟨fr, hfr, rfl⟩ := nI_of f0
  rcases hno with q | q | q
  · exact absurd ⟨cd, c8, c39, rfl⟩ q
  · exact xw_makeView_n q (br_t (by decide) hp)
  · exact absurd ⟨fr, (nI_ltI hfr (by omega)).mp f1, rfl, l0, l1⟩ (q cd rfl c8 c39)
theorem xv_slice {post : Int32 → SX → Prop} {w v a rk cd fr : Nat} {dw : Nat → Nat} (hw : w < 24) (hT : ¬ a_handleTaken w = 0) (hr : a_windowRank w = nI rk) (hk : rk ≤ 3) (ha : a < rk) (hd : ∀ i, i < 3 → a_windowDimension (3 * w + i) = nI (dw i)) (hd4 : dw a ≤ 4) (h8 : 8 ≤ cd) (h39 : cd ≤ 39) (hfr : fr < dw a) (l0 : ¬ nI fr + (nI (cd / 8) - 1) * (nI (cd % 8) - 4) < 0) (l1 : nI fr + (nI (cd / 8) - 1) * (nI (cd % 8) - 4) < nI (dw a)) (hv : v < 24) (hv0 : a_handleTaken v = 0) (hvl : ∀ j, j < v → ¬ a_handleTaken j = 0) (h : ∀ s : Int32, s = (if cd / 8 ≤ 1 then 0 else a_windowStride (3 * w + a) * (nI (cd % 8) - 4)) → post (nI v) (f_slotsTaken, f_elementsTaken, f_slopeCount, upd a_handleTaken v 1, upd a_handleIsView v 1, upd a_windowRank v (a_windowRank w), upd a_windowSlot v (a_windowSlot w), upd a_windowStart v (a_windowStart w + nI fr * a_windowStride (3 * w + a)), ab_up3 a_windowDimension (3 * v) (nI (sc_e dw a (cd / 8) 0)) (nI (sc_e dw a (cd / 8) 1)) (nI (sc_e dw a (cd / 8) 2)), ab_up3 a_windowStride (3 * v) (if 0 = a then s else a_windowStride (3 * w)) (if 1 = a then s else a_windowStride (3 * w + 1)) (if 2 = a then s else a_windowStride (3 * w + 2)), a_slotSize, a_slotKind, a_slotTerms, a_slotNeeded, a_slotsByAge, a_values, a_derivatives, a_firstPlaces, a_secondPlaces, a_assigned, a_slopes)) : wpX_slice post (f_slotsTaken, f_elementsTaken, f_slopeCount, a_handleTaken, a_handleIsView, a_windowRank, a_windowSlot, a_windowStart, a_windowDimension, a_windowStride, a_slotSize, a_slotKind, a_slotTerms, a_slotNeeded, a_slotsByAge, a_values, a_derivatives, a_firstPlaces, a_secondPlaces, a_assigned, a_slopes) (nI w) (nI a) (nI fr) (nI cd) := by
  have hn : w ≠ v := fun e => hT (e ▸ hv0)
  have cv : (nI v).toNatClampNeg = v := nI_clamp (by omega)
  have hv88 : vp_in (nI v) 88 := vp_in_nI (by omega) (by decide)
  have E1 : ∀ (f : Nat → Int32) (A B C s : Int32), upd (ab_up3 f (3 * v) A B C) (3 * v + a) s = ab_up3 f (3 * v) (if 0 = a then s else A) (if 1 = a then s else B) (if 2 = a then s else C) := by
    intro f A B C s
    rcases (show a = 0 ∨ a = 1 ∨ a = 2 by omega) with rfl | rfl | rfl <;> simp [ab_u30, ab_u31, ab_u32]
  have E2 : ∀ i, (if i = a then nI (cd / 8) else nI (dw i)) = nI (sc_e dw a (cd / 8) i) := by
    intro i; unfold sc_e; split <;> rfl
  unfold wpX_slice
  refine xw_hasAxis_t hw hT hr hk ha (br_f ab_10 (br_f (nI_nlt (b := 8) h8 (by omega)) (br_t (nI_le (b := 39) h39 (by decide)) ?_)))
  refine nm_r (pk_shrN (by omega) _ 3 (by decide)) (nm_r (e' := nI (cd % 8) - 4) (by rw [pk_andN (by omega) 3 (by decide)]) ⟨ab_vin ab_ix (by omega) (by decide), nm_r (e' := nI (dw a)) (by rw [ab_ix, nI_clamp (by omega), hd a (by omega)]) (br_f (nI_pos (by omega)) (br_t (nI_lt hfr (by omega)) (nm_e (br_f l0 (br_t l1 (xw_makeView_s hv hw hv0 hvl hT (br_f (nI_pos (by omega)) ⟨ab_vin ab_ix (by omega) (by decide), nm_r (e' := a_windowStride (3 * w + a)) (by rw [ab_ix, nI_clamp (by omega), ab_en (by omega)]) ⟨hv88, hv88, fun S hS => ?_⟩⟩)))))))⟩)
  rw [cv, pk_us, ab_uu] at hS
  subst hS
  by_cases z : cd / 8 ≤ 1
  · refine br_t (nI_le (b := 1) z (by decide)) (xw_setAxis (by omega) (by omega) ?_)
    rw [E1, E1, hd 1 (by omega), hd 2 (by omega), show 3 * w = 3 * w + 0 from rfl, hd 0 (by omega), E2, E2, E2]
    exact h 0 (by rw [if_pos z])
  · refine br_f (nI_ge (a := 1) (by omega) (by omega)) (xw_setAxis (by omega) (by omega) ?_)
    rw [E1, E1, hd 1 (by omega), hd 2 (by omega), show 3 * w = 3 * w + 0 from rfl, hd 0 (by omega), E2, E2, E2]
    exact h _ (by rw [if_neg z]; rfl)
end
section
variable {c_cells c_slopeCount : Int32} {b_used b_rank b_dims b_shown b_tensorOf b_view b_exists b_kind b_first b_second b_owner b_parts b_partCount b_value b_slopeOf b_order b_slopes : Nat → Int32}
theorem yv_sloop {post : Int32 → SY → Prop} {w a v rk rw t N fr r : Nat} {dw e : Nat → Nat} {c : Nat → Nat → Nat → Nat} (hw : w < 24) (ha : a < 3) (H24 : yb_row b_rank b_dims 24 rk e) (Hw : yb_row b_rank b_dims w rw dw) (hN : e 0 * e 1 * e 2 = N) (hcell : ∀ i j k, i < dw 0 → j < dw 1 → k < dw 2 → b_shown (64 * w + ((i * dw 1 + j) * dw 2 + k)) = nI (c i j k) ∧ c i j k < 320) (hrng : ∀ x i, i < 3 → x < e i → sc_c a fr r x i < dw i) (hst : ∀ x, x < e a → 4 * x ≤ fr + r * x) (hv : v < 24) (hv0 : b_used v = 0) (hvl : ∀ j, j < v → ¬ b_used j = 0) (ht : b_tensorOf w = nI t) (ht2 : t < 32) (h : ∀ D S : Nat → Int32, (∀ i, i < rk → D (3 * v + i) = nI (e i)) → (∀ j, (j < 3 * v ∨ 3 * v + 3 ≤ j) → D j = b_dims j) → (∀ i, i < N → S (64 * v + i) = nI (ab_pf (e 0) (e 1) (e 2) (fun x y z => c (sc_c a fr r x 0) (sc_c a fr r y 1) (sc_c a fr r z 2)) i)) → (∀ j, j < 1536 → (j < 64 * v ∨ 64 * v + 64 ≤ j) → S j = b_shown j) → post (nI v) (c_cells, c_slopeCount, upd b_used v 1, upd b_rank v (nI rk), D, S, upd b_tensorOf v (nI t), upd b_view v 1, b_exists, b_kind, b_first, b_second, b_owner, b_parts, b_partCount, b_value, b_slopeOf, b_order, b_slopes)) : ∀ (q j : Nat) (S : Nat → Int32), j + q = N → (∀ i, i < j → S (1536 + i) = nI (ab_pf (e 0) (e 1) (e 2) (fun x y z => c (sc_c a fr r x 0) (sc_c a fr r y 1) (sc_c a fr r z 2)) i)) → (∀ i, i < 1536 → S i = b_shown i) → wY_slice_170 post (nI w) (nI a) (nI fr) (nI r - 4) (nI N) c_cells c_slopeCount (q + 1) (nI j) b_used b_rank b_dims S b_tensorOf b_view b_exists b_kind b_first b_second b_owner b_parts b_partCount b_value b_slopeOf b_order b_slopes := by
  have hb4 := H24.2.2.2.2
  have hN64 : N ≤ 64 := hN ▸ ab_sz (hb4 0 (by omega)).2 (hb4 1 (by omega)).2 (hb4 2 (by omega)).2
  have hin : ∀ i : Nat, i / (e 1 * e 2) % e 0 < e 0 ∧ i / e 2 % e 1 < e 1 ∧ i % e 2 < e 2 := fun i => ab_pfi (hb4 0 (by omega)).1 (hb4 1 (by omega)).1 (hb4 2 (by omega)).1
  intro q
  induction q with
  | zero =>
    intro j S hj h1 h2
    have hjN : j = N := by omega
    refine br_t (nI_le (by omega) (by omega)) ⟨vp_in_nI (by omega) (by decide), ?_⟩
    rw [nI_clamp (by omega), ht]
    refine yv_hand (e := e) (c := fun i => ab_pf (e 0) (e 1) (e 2) (fun x y z => c (sc_c a fr r x 0) (sc_c a fr r y 1) (sc_c a fr r z 2)) i) (N := N) hv hv0 hvl ht2 H24.1 H24.2.1 hN64 (fun i hi => H24.2.2.1 i hi) (fun i hi => (hb4 i hi).2) (fun i hi => h1 i (by omega)) ?_ (fun D S' d1 d2 s1 s2 => ?_)
    · intro i hi
      obtain ⟨p1, p2, p3⟩ := hin i
      exact (hcell _ _ _ (hrng _ 0 (by omega) p1) (hrng _ 1 (by omega) p2) (hrng _ 2 (by omega) p3)).2
    · rw [ab_b1]
      exact h D S' d1 d2 s1 (fun i hi hi2 => by rw [s2 i hi2]; exact h2 i hi)
  | succ q ih =>
    intro j S hj h1 h2
    obtain ⟨p1, p2, p3⟩ := hin j
    have r1 := hrng _ 0 (by omega) p1
    have r2 := hrng _ 1 (by omega) p2
    have r3 := hrng _ 2 (by omega) p3
    have hl := ab_lin r1 r2 r3
    have hsz := ab_sz (Hw.2.2.2.2 0 (by omega)).2 (Hw.2.2.2.2 1 (by omega)).2 (Hw.2.2.2.2 2 (by omega)).2
    obtain ⟨c1, c2⟩ := hcell _ _ _ r1 r2 r3
    have e1 : (1536 : Int32) + nI j = nI (1536 + j) := nI_add 1536 j
    have FIN : ∀ S' : Nat → Int32, S' = upd S ((1536 : Int32) + nI j).toNatClampNeg (vp_nar .short (S (64 * w + ((sc_c a fr r (j / (e 1 * e 2) % e 0) 0 * dw 1 + sc_c a fr r (j / e 2 % e 1) 1) * dw 2 + sc_c a fr r (j % e 2) 2))).toInt16.toInt32) → wY_slice_170 post (nI w) (nI a) (nI fr) (nI r - 4) (nI N) c_cells c_slopeCount (q + 1) (nI (j + 1)) b_used b_rank b_dims S' b_tensorOf b_view b_exists b_kind b_first b_second b_owner b_parts b_partCount b_value b_slopeOf b_order b_slopes := by
      intro S' hS'
      rw [h2 _ (by omega), c1, ab_vs2 (by omega), e1, nI_clamp (by omega)] at hS'
      refine ih (j + 1) S' (by omega) ?_ ?_
      · intro i hi
        rw [hS']
        by_cases z : i = j
        · rw [z, pk_us]; rfl
        · rw [pk_un (by omega)]; exact h1 i (by omega)
      · intro i hi
        rw [hS', pk_un (by omega)]; exact h2 i hi
    refine br_f (nI_ge (by omega) (by omega)) (yb_index0 (h := 24) (by omega) H24 (by omega) (yb_index1 (h := 24) (by omega) H24 (by omega) (yb_index2 (h := 24) (by omega) H24 (by omega) ?_)))
    rcases (show a = 0 ∨ a = 1 ∨ a = 2 by omega) with rfl | rfl | rfl
    · refine br_t rfl (nm_r (sc_2 (hst _ p1)) (br_t rfl (br_f (by decide) (br_f (by decide) (yb_cellAt (by omega) Hw r1 r2 r3 ⟨ab_vin e1 (by omega) (by decide), fun S' hS' => nm_r (nI_1 j) (FIN S' hS')⟩)))))
    · refine br_f (by decide) (br_t rfl (nm_r (sc_2 (hst _ p2)) (br_f (by decide) (br_t rfl (br_f (by decide) (yb_cellAt (by omega) Hw r1 r2 r3 ⟨ab_vin e1 (by omega) (by decide), fun S' hS' => nm_r (nI_1 j) (FIN S' hS')⟩))))))
    · refine br_f (by decide) (br_f (by decide) (nm_r (sc_2 (hst _ p3)) (br_f (by decide) (br_f (by decide) (br_t rfl (yb_cellAt (by omega) Hw r1 r2 r3 ⟨ab_vin e1 (by omega) (by decide), fun S' hS' => nm_r (nI_1 j) (FIN S' hS')⟩))))))
end
end
section
section
variable {c_cells c_slopeCount : Int32} {b_used b_rank b_dims b_shown b_tensorOf b_view b_exists b_kind b_first b_second b_owner b_parts b_partCount b_value b_slopeOf b_order b_slopes : Nat → Int32}
theorem yv_slice {post : Int32 → SY → Prop} {w a v rk t cd fr : Nat} {dw : Nat → Nat} {c : Nat → Nat → Nat → Nat} (hw : w < 24) (hU : ¬ b_used w = 0) (Hw : yb_row b_rank b_dims w rk dw) (ha : a < rk) (h8 : 8 ≤ cd) (h39 : cd ≤ 39) (hfr : fr < dw a) (l0 : ¬ nI fr + (nI (cd / 8) - 1) * (nI (cd % 8) - 4) < 0) (l1 : nI fr + (nI (cd / 8) - 1) * (nI (cd % 8) - 4) < nI (dw a)) (hcell : ∀ i j k, i < dw 0 → j < dw 1 → k < dw 2 → b_shown (64 * w + ((i * dw 1 + j) * dw 2 + k)) = nI (c i j k) ∧ c i j k < 320) (hv : v < 24) (hv0 : b_used v = 0) (hvl : ∀ j, j < v → ¬ b_used j = 0) (ht : b_tensorOf w = nI t) (ht2 : t < 32) (h : ∀ R D S : Nat → Int32, R v = nI rk → (∀ h, h < 24 → h ≠ v → R h = b_rank h) → (∀ i, i < rk → D (3 * v + i) = nI (sc_e dw a (cd / 8) i)) → (∀ j, j < 72 → (j < 3 * v ∨ 3 * v + 3 ≤ j) → D j = b_dims j) → (∀ i, i < sc_e dw a (cd / 8) 0 * sc_e dw a (cd / 8) 1 * sc_e dw a (cd / 8) 2 → S (64 * v + i) = nI (ab_pf (sc_e dw a (cd / 8) 0) (sc_e dw a (cd / 8) 1) (sc_e dw a (cd / 8) 2) (fun x y z => c (sc_c a fr (cd % 8) x 0) (sc_c a fr (cd % 8) y 1) (sc_c a fr (cd % 8) z 2)) i)) → (∀ j, j < 1536 → (j < 64 * v ∨ 64 * v + 64 ≤ j) → S j = b_shown j) → post (nI v) (c_cells, c_slopeCount, upd b_used v 1, R, D, S, upd b_tensorOf v (nI t), upd b_view v 1, b_exists, b_kind, b_first, b_second, b_owner, b_parts, b_partCount, b_value, b_slopeOf, b_order, b_slopes)) : wpY_slice post (c_cells, c_slopeCount, b_used, b_rank, b_dims, b_shown, b_tensorOf, b_view, b_exists, b_kind, b_first, b_second, b_owner, b_parts, b_partCount, b_value, b_slopeOf, b_order, b_slopes) (nI w) (nI a) (nI fr) (nI cd) := by
  have hc : (nI w).toNatClampNeg = w := nI_clamp (by omega)
  have hv25 : vp_in (nI w) 25 := vp_in_nI (by omega) (by decide)
  have hk := Hw.2.1
  have hb4 := Hw.2.2.2.2
  have hda := hb4 a (by omega)
  have e72 : ∀ i : Nat, (72 : Int32) + nI i = nI (72 + i) := fun i => nI_add 72 i
  have hpos := sc_1 (r := cd % 8) (c := cd / 8) (by omega) (by omega) (by omega) hda.2 hfr l0 l1
  unfold wpY_slice
  refine yb_isHandle_t hw hU (br_f ab_10 (br_f (nI_pos (by omega)) ⟨hv25, br_f ?_ (br_f (nI_nlt (b := 8) h8 (by omega)) (br_f (nI_nlt (a := 39) h39 (by decide)) (yb_freeHandle_s hv hv0 hvl (br_f ?_ ⟨by decide, nm_r (e' := nI (cd / 8)) (pk_div (d := 8) (by omega) (by omega) (by omega)) ⟨by decide, nm_r (e' := nI (cd % 8) - 4) ?_ (yb_dim (by omega) (by omega) ?_)⟩⟩))))⟩))
  · rw [hc, Hw.1]; exact nI_ge ha (by omega)
  · intro z
    have := (nI_eq (a := v) (b := 24) (by omega) (by decide)).mp z
    omega
  · rw [show nI cd - nI cd / 8 * 8 = nI (cd % 8) from pk_rem (d := 8) (by omega) (by omega) (by omega)]
  rw [Hw.2.2.1 a ha]
  refine br_f (nI_pos (by omega)) (br_f (nI_ge hfr (by omega)) (br_f l0 (br_t l1 ⟨hv25, ab_vin ab_iy0 (by omega) (by decide), ab_vin (ab_iy (a := 1)) (by omega) (by decide), ab_vin (ab_iy (a := 2)) (by omega) (by decide), ?_⟩)))
  rw [hc, Hw.1, ab_iy0, nI_clamp (by omega), show nI (3 * w) + 1 = nI (3 * w + 1) from nI_1 _, nI_clamp (by omega), show nI (3 * w) + 2 = nI (3 * w + 2) from nI_add _ 2, nI_clamp (by omega)]
  refine yb_shapeNew (by omega) ⟨ab_vin (e72 _) (by omega) (by decide), fun D2 hD2 => ?_⟩
  rw [e72, nI_clamp (by omega), ab_vb2 (by omega)] at hD2
  have d2 : ∀ i, i < rk → D2 (72 + i) = nI (sc_e dw a (cd / 8) i) := by
    intro i hi
    unfold sc_e
    by_cases z : i = a
    · subst z
      rw [hD2, pk_us, if_pos rfl]
    · rw [hD2, pk_un (by omega), if_neg z]
      have g4 := hb4 i (by omega)
      rcases (show i = 0 ∨ i = 1 ∨ i = 2 by omega) with rfl | rfl | rfl
      · rw [show (72 + 0) = 72 from rfl, ab_e0, show 3 * w = 3 * w + 0 from rfl, Hw.2.2.1 0 hi, yb_btn (by omega)]
      · rw [ab_e1, Hw.2.2.1 1 hi, yb_btn (by omega)]
      · rw [ab_e2, Hw.2.2.1 2 hi, yb_btn (by omega)]
  have d3 : ∀ j, j < 72 → D2 j = b_dims j := by
    intro j hj
    rw [hD2, pk_un (by omega), ab_en (by omega)]
  have sh := sc_e3 (rk := rk) (dw := dw) (a := a) (c := cd / 8) ⟨hk, Hw.2.2.2.1, hb4⟩ ha (by omega) (by omega)
  have H24 : yb_row (upd b_rank 24 (nI rk)) D2 24 rk (sc_e dw a (cd / 8)) := ⟨pk_us, hk, d2, sh.2.1, sh.2.2⟩
  have Hw' : yb_row (upd b_rank 24 (nI rk)) D2 w rk dw := by
    refine ⟨by rw [pk_un (by omega)]; exact Hw.1, hk, fun i hi => ?_, Hw.2.2.2.1, hb4⟩
    rw [d3 _ (by omega)]; exact Hw.2.2.1 i hi
  refine yb_size (h := 24) (by omega) H24 ⟨sc_e dw a (cd / 8) 0 * sc_e dw a (cd / 8) 1 * sc_e dw a (cd / 8) 2 + 1, ?_⟩
  refine yv_sloop (v := v) (t := t) hw (by omega) H24 Hw' rfl hcell (fun x i _ hx => sc_rng hpos hx) (fun x hx => (hpos x ?_).1) hv hv0 hvl ht ht2 (fun D S f1 f2 f3 f4 => ?_) _ 0 b_shown (by omega) (fun i hi => absurd hi (by omega)) (fun _ _ => rfl)
  · unfold sc_e at hx; rw [if_pos rfl] at hx; exact hx
  · refine h _ D S ?_ ?_ f1 ?_ f3 f4
    · rw [pk_us]
    · intro i hi hi2; rw [pk_un hi2, pk_un (by omega)]
    · intro j hj hj2; rw [f2 j hj2]; exact d3 j hj
theorem yv_slice_f1 {post : Int32 → SY → Prop} {x y z u : Int32} (hx : ¬ ab_isH b_used x) (hp : post (-1) (c_cells, c_slopeCount, b_used, b_rank, b_dims, b_shown, b_tensorOf, b_view, b_exists, b_kind, b_first, b_second, b_owner, b_parts, b_partCount, b_value, b_slopeOf, b_order, b_slopes)) : wpY_slice post (c_cells, c_slopeCount, b_used, b_rank, b_dims, b_shown, b_tensorOf, b_view, b_exists, b_kind, b_first, b_second, b_owner, b_parts, b_partCount, b_value, b_slopeOf, b_order, b_slopes) x y z u := by
  unfold wpY_slice
  exact yb_isHandle_f hx (br_t rfl hp)
theorem yv_slice_f2 {post : Int32 → SY → Prop} {w rk : Nat} {y z u : Int32} (hw : w < 24) (hU : ¬ b_used w = 0) (hr : b_rank w = nI rk) (hk : rk ≤ 3) (hn : ¬ ab_isA rk y) (hp : post (-1) (c_cells, c_slopeCount, b_used, b_rank, b_dims, b_shown, b_tensorOf, b_view, b_exists, b_kind, b_first, b_second, b_owner, b_parts, b_partCount, b_value, b_slopeOf, b_order, b_slopes)) : wpY_slice post (c_cells, c_slopeCount, b_used, b_rank, b_dims, b_shown, b_tensorOf, b_view, b_exists, b_kind, b_first, b_second, b_owner, b_parts, b_partCount, b_value, b_slopeOf, b_order, b_slopes) (nI w) y z u := by
  have hv25 : vp_in (nI w) 25 := vp_in_nI (by omega) (by decide)
  unfold wpY_slice
  refine yb_isHandle_t hw hU (br_f ab_10 (br_c (fun _ => hp) (fun h1 => ⟨hv25, br_c (fun _ => hp) (fun h3 => ?_)⟩)))
  rw [nI_clamp (by omega), hr] at h3
  exact absurd (ab_notA hk hn h1 h3) id
theorem yv_slice_n {post : Int32 → SY → Prop} {w a rk : Nat} {x y : Int32} {dw : Nat → Nat} (hw : w < 24) (hU : ¬ b_used w = 0) (Hw : yb_row b_rank b_dims w rk dw) (ha : a < rk) (hno : (¬ ∃ cd, 8 ≤ cd ∧ cd ≤ 39 ∧ y = nI cd) ∨ (∀ j, j < 24 → ¬ b_used j = 0) ∨ (∀ cd, y = nI cd → 8 ≤ cd → cd ≤ 39 → ¬ ∃ fr, fr < dw a ∧ x = nI fr ∧ ¬ nI fr + (nI (cd / 8) - 1) * (nI (cd % 8) - 4) < 0 ∧ nI fr + (nI (cd / 8) - 1) * (nI (cd % 8) - 4) < nI (dw a))) (hp : post (-1) (c_cells, c_slopeCount, b_used, b_rank, b_dims, b_shown, b_tensorOf, b_view, b_exists, b_kind, b_first, b_second, b_owner, b_parts, b_partCount, b_value, b_slopeOf, b_order, b_slopes)) : wpY_slice post (c_cells, c_slopeCount, b_used, b_rank, b_dims, b_shown, b_tensorOf, b_view, b_exists, b_kind, b_first, b_second, b_owner, b_parts, b_partCount, b_value, b_slopeOf, b_order, b_slopes) (nI w) (nI a) x y := by
  have hc : (nI w).toNatClampNeg = w := nI_clamp (by omega)
  have hv25 : vp_in (nI w) 25 := vp_in_nI (by omega) (by decide)
  have hk := Hw.2.1
  have hda := Hw.2.2.2.2 a (by omega)
  unfold wpY_slice
  refine yb_isHandle_t hw hU (br_f ab_10 (br_f (nI_pos (by omega)) ⟨hv25, br_f (by rw [hc, Hw.1]; exact nI_ge ha (by omega)) (br_c (fun _ => hp) (fun h8 => br_c (fun _ => hp) (fun h39 => ?_)))⟩))
  have h0 : ¬ y < 0 := by
    intro z
    refine h8 ?_
    rw [Int32.lt_iff_toInt_lt] at z ⊢
    rw [show (0 : Int32).toInt = 0 from by decide] at z
    rw [show (8 : Int32).toInt = 8 from by decide]
    omega
  obtain ⟨cd, hcd, rfl⟩ := nI_of h0
  have c8 : 8 ≤ cd := by
    apply Nat.le_of_not_lt; intro z; exact h8 (nI_lt (b := 8) z (by decide))
  have c39 : cd ≤ 39 := by
    apply Nat.le_of_not_lt; intro z; exact h39 (nI_lt (a := 39) z hcd)
  rcases ab_lst b_used 24 with ⟨v, hv, hv0, hvl⟩ | vn
  · refine yb_freeHandle_s hv hv0 hvl (br_c (fun _ => hp) (fun _ => ⟨by decide, nm_r (e' := nI (cd / 8)) (pk_div (d := 8) (by omega) (by omega) (by omega)) ⟨by decide, nm_r (e' := nI (cd % 8) - 4) ?_ (yb_dim (by omega) (by omega) ?_)⟩⟩))
    · rw [show nI cd - nI cd / 8 * 8 = nI (cd % 8) from pk_rem (d := 8) (by omega) (by omega) (by omega)]
    rw [Hw.2.2.1 a ha]
    refine br_c (fun _ => hp) (fun f0 => br_c (fun _ => hp) (fun f1 => br_c (fun _ => hp) (fun l0 => br_c (fun l1 => ?_) (fun _ => hp))))
    obtain ⟨fr, hfr, rfl⟩ := nI_of f0
    have ff : fr < dw a := by
      apply Nat.lt_of_not_le; intro z; exact f1 (nI_le z hfr)
    rcases hno with q | q | q
    · exact absurd ⟨cd, c8, c39, rfl⟩ q
    · exact absurd hv0 (q v hv)
    · exact absurd ⟨fr, ff, rfl, l0, l1⟩ (q cd rfl c8 c39)
  · exact yb_freeHandle_n vn (br_t rfl hp)
end
theorem sc_eq {a fr r c x y z k : Nat} {st s : Int32} {E : Nat → Int32} (ha : a < 3) (hs : s = if c ≤ 1 then 0 else E (k + a) * (nI r - 4)) (h0 : (if a = 0 then x else if a = 1 then y else z) < c) (hp : ∀ x, x < c → 4 * x ≤ fr + r * x) : st + nI fr * E (k + a) + nI x * (if 0 = a then s else E k) + nI y * (if 1 = a then s else E (k + 1)) + nI z * (if 2 = a then s else E (k + 2)) = st + nI (sc_c a fr r x 0) * E k + nI (sc_c a fr r y 1) * E (k + 1) + nI (sc_c a fr r z 2) * E (k + 2) := by
  have key : ∀ t, t < c → nI t * s + nI fr * E (k + a) = nI (sc_p fr r t) * E (k + a) := by
    intro t ht
    rw [← sc_2 (hp t ht), hs]
    split
    · have : t = 0 := by omega
      subst this
      rw [nI_0]; grind
    · grind
  rcases (show a = 0 ∨ a = 1 ∨ a = 2 by omega) with rfl | rfl | rfl
  · have := key x (by simpa using h0)
    simp [sc_c] at this ⊢
    grind
  · have := key y (by simpa using h0)
    simp [sc_c] at this ⊢
    grind
  · have := key z (by simpa using h0)
    simp [sc_c] at this ⊢
    grind
theorem i_vc_slice {k : Nat} {u : SX} {v : SY} (I : i_Rel k u v) (hk : k + 5 ≤ 2560) (v1 : Int32) (v2 : Int32) (v3 : Int32) (v4 : Int32) : wpX_slice (fun r u' => wpY_slice (fun r' v' => r' = r ∧ i_Rel (k + 5) u' v') v v1 v2 v3 v4) u v1 v2 v3 v4 := by
  obtain ⟨f_slotsTaken, f_elementsTaken, f_slopeCount, a_handleTaken, a_handleIsView, a_windowRank, a_windowSlot, a_windowStart, a_windowDimension, a_windowStride, a_slotSize, a_slotKind, a_slotTerms, a_slotNeeded, a_slotsByAge, a_values, a_derivatives, a_firstPlaces, a_secondPlaces, a_assigned, a_slopes⟩ := u
  obtain ⟨c_cells, c_slopeCount, b_used, b_rank, b_dims, b_shown, b_tensorOf, b_view, b_exists, b_kind, b_first, b_second, b_owner, b_parts, b_partCount, b_value, b_slopeOf, b_order, b_slopes⟩ := v
  have I' := I
  obtain ⟨rk, sl, d, G, ages, sz, kd, tm, yk, cl, hX, hY, hS⟩ := I'
  have hu := hY.1.1
  by_cases hH : ab_isH a_handleTaken v1
  · obtain ⟨w, hw, rfl, hT⟩ := hH
    obtain ⟨w1, w2, w3, w4⟩ := hX.2.2.2.2 w hw hT
    have yw := hY.2.2.2.2.1 w hw hT
    have hU : ¬ b_used w = 0 := by rw [hu]; exact hT
    by_cases hA : ab_isA (rk w) v2
    · obtain ⟨a, ha, rfl⟩ := hA
      have hk3 := w2.1
      have D0 := w3.2.2.1
      have da := w2.2.2 a (by omega)
      by_cases hno : (¬ ∃ cd, 8 ≤ cd ∧ cd ≤ 39 ∧ v4 = nI cd) ∨ (∀ j, j < 24 → ¬ a_handleTaken j = 0) ∨ (∀ cd, v4 = nI cd → 8 ≤ cd → cd ≤ 39 → ¬ ∃ fr, fr < d w a ∧ v3 = nI fr ∧ ¬ nI fr + (nI (cd / 8) - 1) * (nI (cd % 8) - 4) < 0 ∧ nI fr + (nI (cd / 8) - 1) * (nI (cd % 8) - 4) < nI (d w a))
      · exact xv_slice_n (dw := d w) hw hT w1 w2.1 ha (D0 a (by omega)).1 da.2 hno (yv_slice_n hw hU (rl_row w2 yw) ha (by rw [hu]; exact hno) ⟨rfl, I⟩)
      · have n1 : ∃ cd, 8 ≤ cd ∧ cd ≤ 39 ∧ v4 = nI cd := Classical.byContradiction (fun q => hno (Or.inl q))
        obtain ⟨cd, h8, h39, rfl⟩ := n1
        have n2 : ∃ fr, fr < d w a ∧ v3 = nI fr ∧ ¬ nI fr + (nI (cd / 8) - 1) * (nI (cd % 8) - 4) < 0 ∧ nI fr + (nI (cd / 8) - 1) * (nI (cd % 8) - 4) < nI (d w a) := Classical.byContradiction (fun q => hno (Or.inr (Or.inr (fun cd' e' _ _ => by
          have : cd = cd' ∨ True := Or.inr trivial
          intro r
          by_cases z : cd' < 2 ^ 31
          · have := (nI_eq (by omega) z).mp e'
            subst this; exact q r
          · omega))))
        obtain ⟨fr, hfr, rfl, l0, l1⟩ := n2
        rcases ab_lst a_handleTaken 24 with ⟨v, hv, hv0, hvl⟩ | vn
        · have hpos := sc_1 (r := cd % 8) (c := cd / 8) (by omega) (by omega) (by omega) da.2 hfr l0 l1
          refine xv_slice (dw := d w) hw hT w1 w2.1 ha (fun i hi => (D0 i hi).1) da.2 h8 h39 hfr l0 l1 hv hv0 hvl (fun s hs => ?_)
          rw [w1]
          refine yv_slice (v := v) (t := sl w) (c := fun i j k => cl (G w i j k)) hw hU (rl_row w2 yw) ha h8 h39 hfr l0 l1 (rl_cell hX hY.2.2.1 w3 yw) hv (by rw [hu]; exact hv0) (by rw [hu]; exact hvl) yw.2.2.1 (hX.2.2.1.2.1 _ w3.2.1) (fun R D S r1 r2 d1 d2 s1 s2 => ⟨rfl, ?_⟩)
          refine rl_mk (k + 5) _ _ _ _ ages sz kd tm yk cl (rl_viewX (e := sc_e (d w) a (cd / 8)) (g := fun x y z => G w (sc_c a fr (cd % 8) x 0) (sc_c a fr (cd % 8) y 1) (sc_c a fr (cd % 8) z 2)) hw hv hT (sc_e3 w2 ha (by omega) (by omega)) ?_ hX) (rl_viewY (e := sc_e (d w) a (cd / 8)) hv (rl_hk hX).1 (rl_hk hX).2 r1 r2 d1 d2 s1 s2 hY) hS
          intro x y z hx hy hz
          have r1 := sc_rng hpos hx
          have r2 := sc_rng hpos hy
          have r3 := sc_rng hpos hz
          refine ⟨?_, _, _, _, r1, r2, r3, rfl⟩
          rw [sc_eq (c := cd / 8) (r := cd % 8) (by omega) hs ?_ (fun x hx => (hpos x hx).1)]
          · exact (w3.2.2.2 _ _ _ r1 r2 r3).1
          · unfold sc_e at hx hy hz
            rcases (show a = 0 ∨ a = 1 ∨ a = 2 by omega) with rfl | rfl | rfl
            · simpa using hx
            · simpa using hy
            · simpa using hz
        · exact absurd (Or.inr (Or.inl vn)) hno
    · unfold wpX_slice
      refine xw_hasAxis_f2 hw hT w1 w2.1 hA (br_t rfl ?_)
      exact yv_slice_f2 hw hU yw.1 w2.1 hA ⟨rfl, I⟩
  · unfold wpX_slice
    refine xw_hasAxis_f1 hH (br_t rfl ?_)
    exact yv_slice_f1 (by rw [hu]; exact hH) ⟨rfl, I⟩
end
section
theorem ab_u30z {f : Nat → Int32} {k : Nat} {a b c v : Int32} : upd (ab_up3 f k a b c) (k + 0) v = ab_up3 f k v b c := ab_u30
def ex_e (dw : Nat → Nat) (a dd i : Nat) : Nat := if i < a then dw i else if i = a then dd else dw (i - 1)
def ex_s (rk a : Nat) (E : Nat → Int32) (k i : Nat) : Int32 := if i < a then E (k + i) else if i = a then 0 else if i ≤ rk then E (k + (i - 1)) else E (k + i)
def ex_x (a x y : Nat) : Nat := if a = 0 then y else x
def ex_y (a y z : Nat) : Nat := if a < 2 then z else y
theorem ex_cases {rk a : Nat} (hk : rk < 3) (ha : a ≤ rk) : (rk = 0 ∧ a = 0) ∨ (rk = 1 ∧ a = 0) ∨ (rk = 1 ∧ a = 1) ∨ (rk = 2 ∧ a = 0) ∨ (rk = 2 ∧ a = 1) ∨ (rk = 2 ∧ a = 2) := by omega
theorem ex_e3 {rk a dd : Nat} {dw : Nat → Nat} (h : ab_sh3 rk dw) (hk : rk < 3) (ha : a ≤ rk) (h1 : 1 ≤ dd) (h4 : dd ≤ 4) : ab_sh3 (rk + 1) (ex_e dw a dd) := by
  refine ⟨by omega, fun i j1 j2 => ?_, fun i hi => ?_⟩
  · unfold ex_e; rw [if_neg (by omega), if_neg (by omega)]; exact h.2.1 (i - 1) (by omega) (by omega)
  · unfold ex_e; split
    · exact h.2.2 i hi
    · split
      · omega
      · exact h.2.2 (i - 1) (by omega)
theorem ex_rng {rk a dd x y z : Nat} {dw : Nat → Nat} (h : ab_sh3 rk dw) (hk : rk < 3) (ha : a ≤ rk) (hx : x < ex_e dw a dd 0) (hy : y < ex_e dw a dd 1) (hz : z < ex_e dw a dd 2) : ex_x a x y < dw 0 ∧ ex_y a y z < dw 1 ∧ 0 < dw 2 := by
  have g2 := h.2.2 2 (by omega)
  rcases (show a = 0 ∨ a = 1 ∨ a = 2 by omega) with rfl | rfl | rfl <;> simp [ex_e, ex_x, ex_y] at * <;> omega
theorem ex_eq {rk a dd x y z k : Nat} {dw : Nat → Nat} {st : Int32} {E : Nat → Int32} (h : ab_sh3 rk dw) (hk : rk < 3) (ha : a ≤ rk) (hx : x < ex_e dw a dd 0) (hy : y < ex_e dw a dd 1) (hz : z < ex_e dw a dd 2) : st + nI x * ex_s rk a E k 0 + nI y * ex_s rk a E k 1 + nI z * ex_s rk a E k 2 = st + nI (ex_x a x y) * E k + nI (ex_y a y z) * E (k + 1) + nI 0 * E (k + 2) := by
  have o0 := h.2.1 0
  have o1 := h.2.1 1
  have o2 := h.2.1 2
  rw [nI_0]
  rcases ex_cases hk ha with ⟨rfl, rfl⟩ | ⟨rfl, rfl⟩ | ⟨rfl, rfl⟩ | ⟨rfl, rfl⟩ | ⟨rfl, rfl⟩ | ⟨rfl, rfl⟩ <;> simp [ex_e, ex_s, ex_x, ex_y] at * <;> first | grind | (obtain rfl : z = 0 := (by omega); rw [nI_0]; grind) | (obtain rfl : y = 0 := (by omega); obtain rfl : z = 0 := (by omega); rw [nI_0]; grind)
section
variable {f_slotsTaken f_elementsTaken f_slopeCount : Int32} {a_handleTaken a_handleIsView a_windowRank a_windowSlot a_windowStart a_windowDimension a_windowStride a_slotSize a_slotKind a_slotTerms a_slotNeeded a_slotsByAge a_values a_derivatives a_firstPlaces a_secondPlaces a_assigned a_slopes : Nat → Int32}
theorem xv_exp_s {post : Int32 → SX → Prop} {n w v l rk : Nat} {x2 x3 : Int32} (hw : w < 88) (hv : v < 88) (hk : rk < 3) (hl : l < rk) (hn : wX_expand_70 post (nI w) x2 x3 (nI rk) (nI v) n (nI (l + 1)) f_slotsTaken f_elementsTaken f_slopeCount a_handleTaken a_handleIsView a_windowRank a_windowSlot a_windowStart (upd a_windowDimension (3 * v + (l + 1)) (a_windowDimension (3 * w + l))) (upd a_windowStride (3 * v + (l + 1)) (a_windowStride (3 * w + l))) a_slotSize a_slotKind a_slotTerms a_slotNeeded a_slotsByAge a_values a_derivatives a_firstPlaces a_secondPlaces a_assigned a_slopes) : wX_expand_70 post (nI w) x2 x3 (nI rk) (nI v) (n + 1) (nI l) f_slotsTaken f_elementsTaken f_slopeCount a_handleTaken a_handleIsView a_windowRank a_windowSlot a_windowStart a_windowDimension a_windowStride a_slotSize a_slotKind a_slotTerms a_slotNeeded a_slotsByAge a_values a_derivatives a_firstPlaces a_secondPlaces a_assigned a_slopes := by
  refine br_f (nI_ge hl (by omega)) ?_
  rw [nI_1]
  exact xw_copyAxis hw (by omega) hv (by omega) (nm_e hn)
theorem xv_exp_x {post : Int32 → SX → Prop} {n v a rk : Nat} {x1 x3 : Int32} (hv : v < 88) (ha : a < 3) (hk : rk < 3) (h : post (nI v) (f_slotsTaken, f_elementsTaken, f_slopeCount, a_handleTaken, a_handleIsView, a_windowRank, a_windowSlot, a_windowStart, upd a_windowDimension (3 * v + a) x3, upd a_windowStride (3 * v + a) 0, a_slotSize, a_slotKind, a_slotTerms, a_slotNeeded, a_slotsByAge, a_values, a_derivatives, a_firstPlaces, a_secondPlaces, a_assigned, a_slopes)) : wX_expand_70 post x1 (nI a) x3 (nI rk) (nI v) (n + 1) (nI rk) f_slotsTaken f_elementsTaken f_slopeCount a_handleTaken a_handleIsView a_windowRank a_windowSlot a_windowStart a_windowDimension a_windowStride a_slotSize a_slotKind a_slotTerms a_slotNeeded a_slotsByAge a_values a_derivatives a_firstPlaces a_secondPlaces a_assigned a_slopes :=
  br_t (nI_le (by omega) (by omega)) (xw_setAxis hv ha h)
theorem xv_expand {post : Int32 → SX → Prop} {w v a rk dd : Nat} {dw : Nat → Nat} (hw : w < 24) (hT : ¬ a_handleTaken w = 0) (hr : a_windowRank w = nI rk) (hk : rk < 3) (ha : a ≤ rk) (h1 : 1 ≤ dd) (h4 : dd ≤ 4) (hd : ∀ i, i < 3 → a_windowDimension (3 * w + i) = nI (dw i)) (ho : ∀ i, rk ≤ i → i < 3 → dw i = 1) (hv : v < 24) (hv0 : a_handleTaken v = 0) (hvl : ∀ j, j < v → ¬ a_handleTaken j = 0) (h : post (nI v) (f_slotsTaken, f_elementsTaken, f_slopeCount, upd a_handleTaken v 1, upd a_handleIsView v 1, upd a_windowRank v (nI (rk + 1)), upd a_windowSlot v (a_windowSlot w), upd a_windowStart v (a_windowStart w), ab_up3 a_windowDimension (3 * v) (nI (ex_e dw a dd 0)) (nI (ex_e dw a dd 1)) (nI (ex_e dw a dd 2)), ab_up3 a_windowStride (3 * v) (ex_s rk a a_windowStride (3 * w) 0) (ex_s rk a a_windowStride (3 * w) 1) (ex_s rk a a_windowStride (3 * w) 2), a_slotSize, a_slotKind, a_slotTerms, a_slotNeeded, a_slotsByAge, a_values, a_derivatives, a_firstPlaces, a_secondPlaces, a_assigned, a_slopes)) : wpX_expand post (f_slotsTaken, f_elementsTaken, f_slopeCount, a_handleTaken, a_handleIsView, a_windowRank, a_windowSlot, a_windowStart, a_windowDimension, a_windowStride, a_slotSize, a_slotKind, a_slotTerms, a_slotNeeded, a_slotsByAge, a_values, a_derivatives, a_firstPlaces, a_secondPlaces, a_assigned, a_slopes) (nI w) (nI a) (nI dd) := by
  have hn : w ≠ v := fun e => hT (e ▸ hv0)
  have cv : (nI v).toNatClampNeg = v := nI_clamp (by omega)
  have hd0 := hd 0 (by omega)
  have hd0z := hd 0 (by omega)
  have hd1 := hd 1 (by omega)
  have hd2 := hd 2 (by omega)
  unfold wpX_expand
  refine xw_isHandle_t hw hT (br_f ab_10 (xw_isDim_t h1 h4 (br_f ab_10 ⟨vp_in_nI (by omega) (by decide), nm_r (e' := nI rk) (by rw [nI_clamp (by omega), hr]) (br_f (nI_ge (b := 3) hk (by decide)) (br_f (nI_pos (by omega)) (br_t (nI_le ha (by omega)) (xw_makeView_s hv hw hv0 hvl hT (br_f (nI_pos (by omega)) ⟨vp_in_nI (by omega) (by decide), fun R hR => ⟨rk - a + 1, ?_⟩⟩)))))⟩)))
  rw [cv, ab_uu, nI_1] at hR
  subst hR
  rw [Nat.add_zero] at hd0
  rcases ex_cases hk ha with ⟨rfl, rfl⟩ | ⟨rfl, rfl⟩ | ⟨rfl, rfl⟩ | ⟨rfl, rfl⟩ | ⟨rfl, rfl⟩ | ⟨rfl, rfl⟩
  · refine xv_exp_x (by omega) (by omega) (by omega) ?_
    rw [ab_u30z, ab_u30z, hd1, hd2]
    simp [ex_e, ex_s, ho 0, ho 1, ho 2] at h ⊢
    exact h
  · refine xv_exp_s (by omega) (by omega) (by omega) (by omega) (xv_exp_x (by omega) (by omega) (by omega) ?_)
    rw [Nat.zero_add, ab_u31, ab_u31, ab_u30z, ab_u30z, ab_en (by omega), ab_en (by omega), hd0z, hd2]
    simp [ex_e, ex_s, ho 1, ho 2] at h ⊢
    exact h
  · refine xv_exp_x (by omega) (by omega) (by omega) ?_
    rw [ab_u31, ab_u31, hd0, hd2]
    simp [ex_e, ex_s, ho 1, ho 2] at h ⊢
    exact h
  · refine xv_exp_s (by omega) (by omega) (by omega) (by omega) (xv_exp_s (by omega) (by omega) (by omega) (by omega) (xv_exp_x (by omega) (by omega) (by omega) ?_))
    rw [Nat.zero_add, ab_u31, ab_u31, ab_u32, ab_u32, ab_u30z, ab_u30z, ab_en (by omega), ab_en (by omega), ab_en (by omega), ab_en (by omega), hd0z, hd1]
    simp [ex_e, ex_s, ho 2] at h ⊢
    exact h
  · refine xv_exp_s (by omega) (by omega) (by omega) (by omega) (xv_exp_x (by omega) (by omega) (by omega) ?_)
    rw [ab_u32, ab_u32, ab_u31, ab_u31, ab_en (by omega), ab_en (by omega), hd0, hd1]
    simp [ex_e, ex_s, ho 2] at h ⊢
    exact h
  · refine xv_exp_x (by omega) (by omega) (by omega) ?_
    rw [ab_u32, ab_u32, hd0, hd1]
    simp [ex_e, ex_s, ho 2] at h ⊢
    exact h
theorem xv_expand_n {post : Int32 → SX → Prop} {w rk : Nat} {x y : Int32} (hw : w < 24) (hT : ¬ a_handleTaken w = 0) (hr : a_windowRank w = nI rk) (hk : rk ≤ 3) (hno : ¬ ab_isD y ∨ rk = 3 ∨ ¬ ab_isA (rk + 1) x ∨ ∀ j, j < 24 → ¬ a_handleTaken j = 0) (hp : post (-1) (f_slotsTaken, f_elementsTaken, f_slopeCount, a_handleTaken, a_handleIsView, a_windowRank, a_windowSlot, a_windowStart, a_windowDimension, a_windowStride, a_slotSize, a_slotKind, a_slotTerms, a_slotNeeded, a_slotsByAge, a_values, a_derivatives, a_firstPlaces, a_secondPlaces, a_assigned, a_slopes)) : wpX_expand post (f_slotsTaken, f_elementsTaken, f_slopeCount, a_handleTaken, a_handleIsView, a_windowRank, a_windowSlot, a_windowStart, a_windowDimension, a_windowStride, a_slotSize, a_slotKind, a_slotTerms, a_slotNeeded, a_slotsByAge, a_values, a_derivatives, a_firstPlaces, a_secondPlaces, a_assigned, a_slopes) (nI w) x y := by
  unfold wpX_expand
  refine xw_isHandle_t hw hT (br_f ab_10 ?_)
  by_cases hD : ab_isD y
  · obtain ⟨dd, h1, h4, rfl⟩ := hD
    refine xw_isDim_t h1 h4 (br_f ab_10 ⟨vp_in_nI (by omega) (by decide), nm_r (e' := nI rk) (by rw [nI_clamp (by omega), hr]) (br_c (fun _ => hp) (fun r3 => br_c (fun _ => hp) (fun a0 => br_c (fun a1 => ?_) (fun _ => hp))))⟩)
    obtain ⟨a, ha, rfl⟩ := nI_of a0
    rcases hno with q | q | q | q
    · exact absurd ⟨dd, h1, h4, rfl⟩ q
    · exact absurd (by rw [q]; exact nI_le (a := 3) (by omega) (by omega)) r3
    · exact absurd ⟨a, by have := (nI_leI ha (by omega)).mp a1; omega, rfl⟩ q
    · exact xw_makeView_n q (br_t (by decide) hp)
  · exact xw_isDim_f hD (br_t rfl hp)
end
end
section
section
variable {c_cells c_slopeCount : Int32} {b_used b_rank b_dims b_shown b_tensorOf b_view b_exists b_kind b_first b_second b_owner b_parts b_partCount b_value b_slopeOf b_order b_slopes : Nat → Int32}
theorem yv_eloop {post : Int32 → SY → Prop} {w a v rk rw t N : Nat} {dw e : Nat → Nat} {c : Nat → Nat → Nat → Nat} (hw : w < 24) (ha : a < 3) (H24 : yb_row b_rank b_dims 24 rk e) (Hw : yb_row b_rank b_dims w rw dw) (hN : e 0 * e 1 * e 2 = N) (hcell : ∀ i j k, i < dw 0 → j < dw 1 → k < dw 2 → b_shown (64 * w + ((i * dw 1 + j) * dw 2 + k)) = nI (c i j k) ∧ c i j k < 320) (hrng : ∀ x y z, x < e 0 → y < e 1 → z < e 2 → ex_x a x y < dw 0 ∧ ex_y a y z < dw 1 ∧ 0 < dw 2) (hv : v < 24) (hv0 : b_used v = 0) (hvl : ∀ j, j < v → ¬ b_used j = 0) (ht : b_tensorOf w = nI t) (ht2 : t < 32) (h : ∀ D S : Nat → Int32, (∀ i, i < rk → D (3 * v + i) = nI (e i)) → (∀ j, (j < 3 * v ∨ 3 * v + 3 ≤ j) → D j = b_dims j) → (∀ i, i < N → S (64 * v + i) = nI (ab_pf (e 0) (e 1) (e 2) (fun x y z => c (ex_x a x y) (ex_y a y z) 0) i)) → (∀ j, j < 1536 → (j < 64 * v ∨ 64 * v + 64 ≤ j) → S j = b_shown j) → post (nI v) (c_cells, c_slopeCount, upd b_used v 1, upd b_rank v (nI rk), D, S, upd b_tensorOf v (nI t), upd b_view v 1, b_exists, b_kind, b_first, b_second, b_owner, b_parts, b_partCount, b_value, b_slopeOf, b_order, b_slopes)) : ∀ (q j : Nat) (S : Nat → Int32), j + q = N → (∀ i, i < j → S (1536 + i) = nI (ab_pf (e 0) (e 1) (e 2) (fun x y z => c (ex_x a x y) (ex_y a y z) 0) i)) → (∀ i, i < 1536 → S i = b_shown i) → wY_expand_139 post (nI w) (nI a) (nI N) c_cells c_slopeCount (q + 1) (nI j) b_used b_rank b_dims S b_tensorOf b_view b_exists b_kind b_first b_second b_owner b_parts b_partCount b_value b_slopeOf b_order b_slopes := by
  have hb4 := H24.2.2.2.2
  have hN64 : N ≤ 64 := hN ▸ ab_sz (hb4 0 (by omega)).2 (hb4 1 (by omega)).2 (hb4 2 (by omega)).2
  have hin : ∀ i : Nat, i / (e 1 * e 2) % e 0 < e 0 ∧ i / e 2 % e 1 < e 1 ∧ i % e 2 < e 2 := fun i => ab_pfi (hb4 0 (by omega)).1 (hb4 1 (by omega)).1 (hb4 2 (by omega)).1
  intro q
  induction q with
  | zero =>
    intro j S hj h1 h2
    have hjN : j = N := by omega
    refine br_t (nI_le (by omega) (by omega)) ⟨vp_in_nI (by omega) (by decide), ?_⟩
    rw [nI_clamp (by omega), ht]
    refine yv_hand (e := e) (c := fun i => ab_pf (e 0) (e 1) (e 2) (fun x y z => c (ex_x a x y) (ex_y a y z) 0) i) (N := N) hv hv0 hvl ht2 H24.1 H24.2.1 hN64 (fun i hi => H24.2.2.1 i hi) (fun i hi => (hb4 i hi).2) (fun i hi => h1 i (by omega)) ?_ (fun D S' d1 d2 s1 s2 => ?_)
    · intro i hi
      obtain ⟨p1, p2, p3⟩ := hin i
      obtain ⟨r1, r2, r3⟩ := hrng _ _ _ p1 p2 p3
      exact (hcell _ _ _ r1 r2 r3).2
    · rw [ab_b1]
      exact h D S' d1 d2 s1 (fun i hi hi2 => by rw [s2 i hi2]; exact h2 i hi)
  | succ q ih =>
    intro j S hj h1 h2
    obtain ⟨p1, p2, p3⟩ := hin j
    obtain ⟨r1, r2, r3⟩ := hrng _ _ _ p1 p2 p3
    have hl := ab_lin r1 r2 r3
    have hsz := ab_sz (Hw.2.2.2.2 0 (by omega)).2 (Hw.2.2.2.2 1 (by omega)).2 (Hw.2.2.2.2 2 (by omega)).2
    obtain ⟨c1, c2⟩ := hcell _ _ _ r1 r2 r3
    have e1 : (1536 : Int32) + nI j = nI (1536 + j) := nI_add 1536 j
    have FIN : ∀ S' : Nat → Int32, S' = upd S ((1536 : Int32) + nI j).toNatClampNeg (vp_nar .short (S (64 * w + ((ex_x a (j / (e 1 * e 2) % e 0) (j / e 2 % e 1) * dw 1 + ex_y a (j / e 2 % e 1) (j % e 2)) * dw 2 + 0))).toInt16.toInt32) → wY_expand_139 post (nI w) (nI a) (nI N) c_cells c_slopeCount (q + 1) (nI (j + 1)) b_used b_rank b_dims S' b_tensorOf b_view b_exists b_kind b_first b_second b_owner b_parts b_partCount b_value b_slopeOf b_order b_slopes := by
      intro S' hS'
      rw [h2 _ (by omega), c1, ab_vs2 (by omega), e1, nI_clamp (by omega)] at hS'
      refine ih (j + 1) S' (by omega) ?_ ?_
      · intro i hi
        rw [hS']
        by_cases z : i = j
        · rw [z, pk_us]; rfl
        · rw [pk_un (by omega)]; exact h1 i (by omega)
      · intro i hi
        rw [hS', pk_un (by omega)]; exact h2 i hi
    refine br_f (nI_ge (by omega) (by omega)) ?_
    rcases (show a = 0 ∨ a = 1 ∨ a = 2 by omega) with rfl | rfl | rfl
    · exact br_t rfl (yb_index1 (h := 24) (by omega) H24 (by omega) (br_f (by decide) (yb_index2 (h := 24) (by omega) H24 (by omega) (yb_cellAt (k := 0) (by omega) Hw r1 r2 r3 ⟨ab_vin e1 (by omega) (by decide), fun S' hS' => nm_r (nI_1 j) (FIN S' hS')⟩))))
    · exact br_f (by decide) (yb_index0 (h := 24) (by omega) H24 (by omega) (br_f (by decide) (yb_index2 (h := 24) (by omega) H24 (by omega) (yb_cellAt (k := 0) (by omega) Hw r1 r2 r3 ⟨ab_vin e1 (by omega) (by decide), fun S' hS' => nm_r (nI_1 j) (FIN S' hS')⟩))))
    · exact br_f (by decide) (yb_index0 (h := 24) (by omega) H24 (by omega) (br_t (by decide) (yb_index1 (h := 24) (by omega) H24 (by omega) (yb_cellAt (k := 0) (by omega) Hw r1 r2 r3 ⟨ab_vin e1 (by omega) (by decide), fun S' hS' => nm_r (nI_1 j) (FIN S' hS')⟩))))
theorem yv_expand {post : Int32 → SY → Prop} {w a v rk t dd : Nat} {dw : Nat → Nat} {c : Nat → Nat → Nat → Nat} (hw : w < 24) (hU : ¬ b_used w = 0) (Hw : yb_row b_rank b_dims w rk dw) (hk : rk < 3) (ha : a ≤ rk) (h1 : 1 ≤ dd) (h4 : dd ≤ 4) (hcell : ∀ i j k, i < dw 0 → j < dw 1 → k < dw 2 → b_shown (64 * w + ((i * dw 1 + j) * dw 2 + k)) = nI (c i j k) ∧ c i j k < 320) (hv : v < 24) (hv0 : b_used v = 0) (hvl : ∀ j, j < v → ¬ b_used j = 0) (ht : b_tensorOf w = nI t) (ht2 : t < 32) (h : ∀ R D S : Nat → Int32, R v = nI (rk + 1) → (∀ h, h < 24 → h ≠ v → R h = b_rank h) → (∀ i, i < rk + 1 → D (3 * v + i) = nI (ex_e dw a dd i)) → (∀ j, j < 72 → (j < 3 * v ∨ 3 * v + 3 ≤ j) → D j = b_dims j) → (∀ i, i < ex_e dw a dd 0 * ex_e dw a dd 1 * ex_e dw a dd 2 → S (64 * v + i) = nI (ab_pf (ex_e dw a dd 0) (ex_e dw a dd 1) (ex_e dw a dd 2) (fun x y z => c (ex_x a x y) (ex_y a y z) 0) i)) → (∀ j, j < 1536 → (j < 64 * v ∨ 64 * v + 64 ≤ j) → S j = b_shown j) → post (nI v) (c_cells, c_slopeCount, upd b_used v 1, R, D, S, upd b_tensorOf v (nI t), upd b_view v 1, b_exists, b_kind, b_first, b_second, b_owner, b_parts, b_partCount, b_value, b_slopeOf, b_order, b_slopes)) : wpY_expand post (c_cells, c_slopeCount, b_used, b_rank, b_dims, b_shown, b_tensorOf, b_view, b_exists, b_kind, b_first, b_second, b_owner, b_parts, b_partCount, b_value, b_slopeOf, b_order, b_slopes) (nI w) (nI a) (nI dd) := by
  have hc : (nI w).toNatClampNeg = w := nI_clamp (by omega)
  have hv25 : vp_in (nI w) 25 := vp_in_nI (by omega) (by decide)
  have hb4 := Hw.2.2.2.2
  have sh := ex_e3 (a := a) (dd := dd) ⟨Hw.2.1, Hw.2.2.2.1, hb4⟩ hk ha h1 h4
  have K : ∀ z0 z1 z2 : Int32, (0 < rk + 1 → yb_bt z2 = nI (ex_e dw a dd 0)) → (1 < rk + 1 → yb_bt z1 = nI (ex_e dw a dd 1)) → (2 < rk + 1 → yb_bt z0 = nI (ex_e dw a dd 2)) → wY_expand_125 post (nI w) (nI a) z0 z1 z2 (nI (rk + 1)) c_cells c_slopeCount b_used b_rank b_dims b_shown b_tensorOf b_view b_exists b_kind b_first b_second b_owner b_parts b_partCount b_value b_slopeOf b_order b_slopes := by
    intro z0 z1 z2 k0 k1 k2
    unfold wY_expand_125
    refine yb_shapeNew (by omega) ?_
    have H24 : yb_row (upd b_rank 24 (nI (rk + 1))) (ab_up3 b_dims 72 (yb_bt z2) (yb_bt z1) (yb_bt z0)) 24 (rk + 1) (ex_e dw a dd) := by
      refine ⟨pk_us, by omega, fun i hi => ?_, sh.2.1, sh.2.2⟩
      rcases (show i = 0 ∨ i = 1 ∨ i = 2 by omega) with rfl | rfl | rfl
      · exact ab_e0.trans (k0 hi)
      · exact ab_e1.trans (k1 hi)
      · exact ab_e2.trans (k2 hi)
    have Hw' : yb_row (upd b_rank 24 (nI (rk + 1))) (ab_up3 b_dims 72 (yb_bt z2) (yb_bt z1) (yb_bt z0)) w rk dw := by
      refine ⟨by rw [pk_un (by omega)]; exact Hw.1, by omega, fun i hi => ?_, Hw.2.2.2.1, hb4⟩
      rw [ab_en (by omega)]; exact Hw.2.2.1 i hi
    refine yb_size (h := 24) (by omega) H24 ⟨ex_e dw a dd 0 * ex_e dw a dd 1 * ex_e dw a dd 2 + 1, ?_⟩
    refine yv_eloop (v := v) (t := t) hw (by omega) H24 Hw' rfl hcell (fun x y z => ex_rng ⟨Hw.2.1, Hw.2.2.2.1, hb4⟩ hk ha) hv hv0 hvl ht ht2 (fun D S f1 f2 f3 f4 => ?_) _ 0 b_shown (by omega) (fun i hi => absurd hi (by omega)) (fun _ _ => rfl)
    refine h _ D S ?_ ?_ f1 ?_ f3 f4
    · rw [pk_us]
    · intro i hi hi2; rw [pk_un hi2, pk_un (by omega)]
    · intro j hj hj2; rw [f2 j hj2, ab_en (by omega)]
  unfold wpY_expand
  refine yb_isHandle_t hw hU (br_f ab_10 ⟨hv25, br_f ?_ (br_f (nI_pos (by omega)) ⟨hv25, br_f ?_ (br_f (nI_nlt (b := 1) h1 (by omega)) (br_f (nI_nlt (a := 4) h4 (by decide)) (yb_freeHandle_s hv hv0 hvl (br_f ?_ ⟨ab_vin ab_iy0 (by omega) (by decide), nm_e ⟨ab_vin (ab_iy (a := 1)) (by omega) (by decide), nm_e ⟨hv25, ?_⟩⟩⟩))))⟩)⟩)
  · rw [hc, Hw.1]; intro z
    have := (nI_eq (a := rk) (b := 3) (by omega) (by decide)).mp z
    omega
  · rw [hc, Hw.1]; exact nI_nlt ha (by omega)
  · intro z
    have := (nI_eq (a := v) (b := 24) (by omega) (by decide)).mp z
    omega
  rw [hc, Hw.1, ab_iy0, nI_clamp (by omega), show nI (3 * w) + 1 = nI (3 * w + 1) from nI_1 _, nI_clamp (by omega), nI_1]
  have b0 := hb4 0 (by omega)
  have b1 := hb4 1 (by omega)
  have f0 : 0 < rk → b_dims (3 * w) = nI (dw 0) := fun z => Hw.2.2.1 0 z
  have f1 : 1 < rk → b_dims (3 * w + 1) = nI (dw 1) := fun z => Hw.2.2.1 1 z
  rcases (show a = 0 ∨ a = 1 ∨ a = 2 by omega) with rfl | rfl | rfl
  · refine br_t rfl (br_f (by decide) (br_t rfl (br_f (by decide) (K _ _ _ (fun _ => yb_btn (by omega)) (fun z => ?_) (fun z => ?_)))))
    · rw [f0 (by omega)]; exact yb_btn (by omega)
    · rw [f1 (by omega)]; exact yb_btn (by omega)
  · refine br_f (by decide) (br_t rfl (br_f (by decide) (K _ _ _ (fun _ => ?_) (fun z => yb_btn (by omega)) (fun z => ?_))))
    · rw [f0 (by omega)]; exact yb_btn (by omega)
    · rw [f1 (by omega)]; exact yb_btn (by omega)
  · refine br_f (by decide) (br_f (by decide) (br_f (by decide) (br_t rfl (K _ _ _ (fun _ => ?_) (fun z => ?_) (fun z => yb_btn (by omega))))))
    · rw [f0 (by omega)]; exact yb_btn (by omega)
    · rw [f1 (by omega)]; exact yb_btn (by omega)
theorem yv_expand_n {post : Int32 → SY → Prop} {w rk : Nat} {x y : Int32} (hw : w < 24) (hU : ¬ b_used w = 0) (hr : b_rank w = nI rk) (hk : rk ≤ 3) (hno : ¬ ab_isD y ∨ rk = 3 ∨ ¬ ab_isA (rk + 1) x ∨ ∀ j, j < 24 → ¬ b_used j = 0) (hp : post (-1) (c_cells, c_slopeCount, b_used, b_rank, b_dims, b_shown, b_tensorOf, b_view, b_exists, b_kind, b_first, b_second, b_owner, b_parts, b_partCount, b_value, b_slopeOf, b_order, b_slopes)) : wpY_expand post (c_cells, c_slopeCount, b_used, b_rank, b_dims, b_shown, b_tensorOf, b_view, b_exists, b_kind, b_first, b_second, b_owner, b_parts, b_partCount, b_value, b_slopeOf, b_order, b_slopes) (nI w) x y := by
  have hc : (nI w).toNatClampNeg = w := nI_clamp (by omega)
  have hv25 : vp_in (nI w) 25 := vp_in_nI (by omega) (by decide)
  unfold wpY_expand
  refine yb_isHandle_t hw hU (br_f ab_10 ⟨hv25, br_c (fun _ => hp) (fun r3 => br_c (fun _ => hp) (fun a0 => ⟨hv25, br_c (fun _ => hp) (fun a1 => br_c (fun _ => hp) (fun d1 => br_c (fun _ => hp) (fun d4 => ?_)))⟩))⟩)
  rw [hc, hr] at r3 a1
  obtain ⟨a, ha, rfl⟩ := nI_of a0
  rcases hno with q | q | q | q
  · exfalso
    have h2 : ¬ y < 0 := by
      rw [Int32.lt_iff_toInt_lt] at d1 ⊢
      rw [show (1 : Int32).toInt = 1 from by decide] at d1
      rw [show (0 : Int32).toInt = 0 from by decide]
      omega
    obtain ⟨j, hj, rfl⟩ := nI_of h2
    refine q ⟨j, ?_, ?_, rfl⟩
    · apply Nat.lt_of_not_le; intro hc; exact d1 (nI_lt (b := 1) (by omega) (by decide))
    · apply Nat.le_of_not_lt; intro hc; exact d4 (nI_lt (a := 4) hc hj)
  · exact absurd (by rw [q]; rfl) r3
  · refine absurd ⟨a, ?_, rfl⟩ q
    have : ¬ rk < a := fun z => a1 (nI_lt z ha)
    omega
  · exact yb_freeHandle_n q (br_t rfl hp)
end
theorem i_vc_expand {k : Nat} {u : SX} {v : SY} (I : i_Rel k u v) (hk : k + 5 ≤ 2560) (v1 : Int32) (v2 : Int32) (v3 : Int32) : wpX_expand (fun r u' => wpY_expand (fun r' v' => r' = r ∧ i_Rel (k + 5) u' v') v v1 v2 v3) u v1 v2 v3 := by
  obtain ⟨f_slotsTaken, f_elementsTaken, f_slopeCount, a_handleTaken, a_handleIsView, a_windowRank, a_windowSlot, a_windowStart, a_windowDimension, a_windowStride, a_slotSize, a_slotKind, a_slotTerms, a_slotNeeded, a_slotsByAge, a_values, a_derivatives, a_firstPlaces, a_secondPlaces, a_assigned, a_slopes⟩ := u
  obtain ⟨c_cells, c_slopeCount, b_used, b_rank, b_dims, b_shown, b_tensorOf, b_view, b_exists, b_kind, b_first, b_second, b_owner, b_parts, b_partCount, b_value, b_slopeOf, b_order, b_slopes⟩ := v
  have I' := I
  obtain ⟨rk, sl, d, G, ages, sz, kd, tm, yk, cl, hX, hY, hS⟩ := I'
  have hu := hY.1.1
  by_cases hH : ab_isH a_handleTaken v1
  · obtain ⟨w, hw, rfl, hT⟩ := hH
    obtain ⟨w1, w2, w3, w4⟩ := hX.2.2.2.2 w hw hT
    have yw := hY.2.2.2.2.1 w hw hT
    have hU : ¬ b_used w = 0 := by rw [hu]; exact hT
    by_cases hno : ¬ ab_isD v3 ∨ rk w = 3 ∨ ¬ ab_isA (rk w + 1) v2 ∨ ∀ j, j < 24 → ¬ a_handleTaken j = 0
    · exact xv_expand_n hw hT w1 w2.1 hno (yv_expand_n hw hU yw.1 w2.1 (by rw [hu]; exact hno) ⟨rfl, I⟩)
    · have n1 : ab_isD v3 := Classical.byContradiction (fun q => hno (Or.inl q))
      have n2 : rk w ≠ 3 := fun q => hno (Or.inr (Or.inl q))
      have n3 : ab_isA (rk w + 1) v2 := Classical.byContradiction (fun q => hno (Or.inr (Or.inr (Or.inl q))))
      obtain ⟨dd, h1, h4, rfl⟩ := n1
      obtain ⟨a, ha, rfl⟩ := n3
      have hk3 : rk w < 3 := by have := w2.1; omega
      rcases ab_lst a_handleTaken 24 with ⟨v, hv, hv0, hvl⟩ | vn
      · refine xv_expand (dw := d w) hw hT w1 hk3 (by omega) h1 h4 (fun i hi => (w3.2.2.1 i hi).1) w2.2.1 hv hv0 hvl ?_
        refine yv_expand (v := v) (t := sl w) (c := fun i j k => cl (G w i j k)) hw hU (rl_row w2 yw) hk3 (by omega) h1 h4 (rl_cell hX hY.2.2.1 w3 yw) hv (by rw [hu]; exact hv0) (by rw [hu]; exact hvl) yw.2.2.1 (hX.2.2.1.2.1 _ w3.2.1) (fun R D S r1 r2 d1 d2 s1 s2 => ⟨rfl, ?_⟩)
        refine rl_mk (k + 5) _ _ _ _ ages sz kd tm yk cl (rl_viewX (e := ex_e (d w) a dd) (g := fun x y z => G w (ex_x a x y) (ex_y a y z) 0) hw hv hT (ex_e3 w2 hk3 (by omega) h1 h4) ?_ hX) (rl_viewY (e := ex_e (d w) a dd) hv (rl_hk hX).1 (rl_hk hX).2 r1 r2 d1 d2 s1 s2 hY) hS
        intro x y z hx hy hz
        obtain ⟨r1, r2, r3⟩ := ex_rng w2 hk3 (by omega) hx hy hz
        refine ⟨?_, _, _, _, r1, r2, r3, rfl⟩
        rw [ex_eq w2 hk3 (by omega) hx hy hz]
        exact (w3.2.2.2 _ _ _ r1 r2 r3).1
      · exact absurd (Or.inr (Or.inr (Or.inr vn))) hno
  · unfold wpX_expand
    refine xw_isHandle_f hH (br_t rfl ?_)
    unfold wpY_expand
    exact yb_isHandle_f (by rw [hu]; exact hH) (br_t rfl ⟨rfl, I⟩)
end
section
def ab_isE (n : Nat) (x : Int32) : Prop := ∃ i, i < n ∧ x = nI i
theorem ab_notE {n : Nat} {x : Int32} (h : ¬ ab_isE n x) (h0 : ¬ x < 0) (h1 : x < nI n) (hn : n < 2 ^ 31) : False := by
  obtain ⟨j, hj, rfl⟩ := nI_of h0
  exact h ⟨j, (nI_ltI hj hn).mp h1, rfl⟩
theorem ab_sh2 : ∀ a, a < 3 → (((3 * (nI a + 1)) &&& 31).toBitVec.smod 32).toNat = 3 + 3 * a := by
  intro a ha
  rcases (show a = 0 ∨ a = 1 ∨ a = 2 by omega) with rfl | rfl | rfl <;> decide
section
variable {f_slotsTaken f_elementsTaken f_slopeCount : Int32} {a_handleTaken a_handleIsView a_windowRank a_windowSlot a_windowStart a_windowDimension a_windowStride a_slotSize a_slotKind a_slotTerms a_slotNeeded a_slotsByAge a_values a_derivatives a_firstPlaces a_secondPlaces a_assigned a_slopes : Nat → Int32}
theorem xw_hasElement_t {post : Int32 → Prop} {w i : Nat} {dw : Nat → Nat} (hw : w < 24) (ht : ¬ a_handleTaken w = 0) (hd : ∀ a, a < 3 → a_windowDimension (3 * w + a) = nI (dw a)) (hs : dw 0 * dw 1 * dw 2 ≤ 64) (hi : i < dw 0 * dw 1 * dw 2) (hp : post 1) : wpX_hasElement post (f_slotsTaken, f_elementsTaken, f_slopeCount, a_handleTaken, a_handleIsView, a_windowRank, a_windowSlot, a_windowStart, a_windowDimension, a_windowStride, a_slotSize, a_slotKind, a_slotTerms, a_slotNeeded, a_slotsByAge, a_values, a_derivatives, a_firstPlaces, a_secondPlaces, a_assigned, a_slopes) (nI w) (nI i) := by
  unfold wpX_hasElement
  exact xw_isHandle_t hw ht (br_f ab_10 (br_f (nI_pos (by omega)) (xw_windowSize (by omega) (hd 0 (by omega)) (hd 1 (by omega)) (hd 2 (by omega)) (br_f (nI_ge hi (by omega)) hp))))
theorem xw_hasElement_f1 {post : Int32 → Prop} {x y : Int32} (hx : ¬ ab_isH a_handleTaken x) (hp : post 0) : wpX_hasElement post (f_slotsTaken, f_elementsTaken, f_slopeCount, a_handleTaken, a_handleIsView, a_windowRank, a_windowSlot, a_windowStart, a_windowDimension, a_windowStride, a_slotSize, a_slotKind, a_slotTerms, a_slotNeeded, a_slotsByAge, a_values, a_derivatives, a_firstPlaces, a_secondPlaces, a_assigned, a_slopes) x y := by
  unfold wpX_hasElement
  exact xw_isHandle_f hx (br_t rfl hp)
theorem xw_hasElement_f2 {post : Int32 → Prop} {w : Nat} {y : Int32} {dw : Nat → Nat} (hw : w < 24) (ht : ¬ a_handleTaken w = 0) (hd : ∀ a, a < 3 → a_windowDimension (3 * w + a) = nI (dw a)) (hs : dw 0 * dw 1 * dw 2 ≤ 64) (hi : ¬ ab_isE (dw 0 * dw 1 * dw 2) y) (hp : post 0) : wpX_hasElement post (f_slotsTaken, f_elementsTaken, f_slopeCount, a_handleTaken, a_handleIsView, a_windowRank, a_windowSlot, a_windowStart, a_windowDimension, a_windowStride, a_slotSize, a_slotKind, a_slotTerms, a_slotNeeded, a_slotsByAge, a_values, a_derivatives, a_firstPlaces, a_secondPlaces, a_assigned, a_slopes) (nI w) y := by
  unfold wpX_hasElement
  refine xw_isHandle_t hw ht (br_f ab_10 (br_c (fun _ => hp) (fun h0 => xw_windowSize (by omega) (hd 0 (by omega)) (hd 1 (by omega)) (hd 2 (by omega)) (br_c (fun _ => hp) (fun h1 => ?_)))))
  exact absurd (ab_notE hi h0 (Int32.not_le.mp h1) (by omega)) id
end
section
variable {c_cells c_slopeCount : Int32} {b_used b_rank b_dims b_shown b_tensorOf b_view b_exists b_kind b_first b_second b_owner b_parts b_partCount b_value b_slopeOf b_order b_slopes : Nat → Int32}
theorem yb_shape_s {post : Int32 → Prop} {n h a rk q dv : Nat} (hh : h < 25) (hr : b_rank h = nI rk) (hk : rk ≤ 3) (ha : a < rk) (hd : b_dims (3 * h + a) = nI dv) (hd8 : dv < 8) (hn : wY_shape_19 post (nI h) c_cells c_slopeCount b_used b_rank b_dims b_shown b_tensorOf b_view b_exists b_kind b_first b_second b_owner b_parts b_partCount b_value b_slopeOf b_order b_slopes n (nI (q + dv * 2 ^ (3 + 3 * a))) (nI (a + 1))) : wY_shape_19 post (nI h) c_cells c_slopeCount b_used b_rank b_dims b_shown b_tensorOf b_view b_exists b_kind b_first b_second b_owner b_parts b_partCount b_value b_slopeOf b_order b_slopes (n + 1) (nI q) (nI a) := by
  refine ⟨vp_in_nI hh (by decide), br_f ?_ (yb_dim hh (by omega) (nm_r ?_ (nm_r (nI_1 a) hn)))⟩
  · rw [nI_clamp (by omega), hr]; exact nI_ge ha (by omega)
  · rw [hd, pk_shlN _ (3 + 3 * a) (ab_sh2 a (by omega)) ?_, nI_add]
    rcases (show a = 0 ∨ a = 1 ∨ a = 2 by omega) with rfl | rfl | rfl <;> omega
theorem yb_shape_x {post : Int32 → Prop} {n h a rk q : Nat} (hh : h < 25) (hr : b_rank h = nI rk) (hk : rk ≤ 3) (ha : a = rk) (hp : post (nI q)) : wY_shape_19 post (nI h) c_cells c_slopeCount b_used b_rank b_dims b_shown b_tensorOf b_view b_exists b_kind b_first b_second b_owner b_parts b_partCount b_value b_slopeOf b_order b_slopes (n + 1) (nI q) (nI a) := by
  refine ⟨vp_in_nI hh (by decide), br_t ?_ hp⟩
  rw [nI_clamp (by omega), hr]; exact nI_le (by omega) (by omega)
theorem yb_shape {post : Int32 → Prop} {w rk : Nat} {d : Nat → Nat} (hw : w < 24) (hU : ¬ b_used w = 0) (H : yb_row b_rank b_dims w rk d) (hp : post (nI (ab_pk rk d))) : wpY_shape post (c_cells, c_slopeCount, b_used, b_rank, b_dims, b_shown, b_tensorOf, b_view, b_exists, b_kind, b_first, b_second, b_owner, b_parts, b_partCount, b_value, b_slopeOf, b_order, b_slopes) (nI w) := by
  obtain ⟨hr, hk, hd, h1, hb⟩ := H
  have b0 := hb 0 (by omega)
  have b1 := hb 1 (by omega)
  have b2 := hb 2 (by omega)
  have hh : w < 25 := by omega
  unfold wpY_shape
  refine yb_isHandle_t hw hU (br_f ab_10 ⟨vp_in_nI (by omega) (by decide), nm_r (e' := nI rk) (by rw [nI_clamp (by omega), hr]) ⟨rk + 1, ?_⟩⟩)
  rcases (show rk = 0 ∨ rk = 1 ∨ rk = 2 ∨ rk = 3 by omega) with rfl | rfl | rfl | rfl
  · exact yb_shape_x (a := 0) hh hr hk rfl hp
  · refine yb_shape_s (a := 0) hh hr hk (by omega) (hd 0 (by omega)) (by omega) (yb_shape_x hh hr hk rfl ?_)
    have e : 1 + d 0 * 2 ^ (3 + 3 * 0) = ab_pk 1 d := by unfold ab_pk; simp; omega
    rw [e]; exact hp
  · refine yb_shape_s (a := 0) hh hr hk (by omega) (hd 0 (by omega)) (by omega) (yb_shape_s hh hr hk (by omega) (hd 1 (by omega)) (by omega) (yb_shape_x hh hr hk rfl ?_))
    have e : 2 + d 0 * 2 ^ (3 + 3 * 0) + d 1 * 2 ^ (3 + 3 * (0 + 1)) = ab_pk 2 d := by unfold ab_pk; simp; omega
    rw [e]; exact hp
  · refine yb_shape_s (a := 0) hh hr hk (by omega) (hd 0 (by omega)) (by omega) (yb_shape_s hh hr hk (by omega) (hd 1 (by omega)) (by omega) (yb_shape_s hh hr hk (by omega) (hd 2 (by omega)) (by omega) (yb_shape_x hh hr hk rfl ?_)))
    have e : 3 + d 0 * 2 ^ (3 + 3 * 0) + d 1 * 2 ^ (3 + 3 * (0 + 1)) + d 2 * 2 ^ (3 + 3 * (0 + 1 + 1)) = ab_pk 3 d := by unfold ab_pk; simp; omega
    rw [e]; exact hp
end
theorem i_vc_shape {k : Nat} {u : SX} {v : SY} (I : i_Rel k u v) (hk : k + 5 ≤ 2560) (v1 : Int32) : wpX_shape (fun r => wpY_shape (fun r' => r' = r ∧ i_Rel (k + 5) u v) v v1) u v1 := by
  obtain ⟨f_slotsTaken, f_elementsTaken, f_slopeCount, a_handleTaken, a_handleIsView, a_windowRank, a_windowSlot, a_windowStart, a_windowDimension, a_windowStride, a_slotSize, a_slotKind, a_slotTerms, a_slotNeeded, a_slotsByAge, a_values, a_derivatives, a_firstPlaces, a_secondPlaces, a_assigned, a_slopes⟩ := u
  obtain ⟨c_cells, c_slopeCount, b_used, b_rank, b_dims, b_shown, b_tensorOf, b_view, b_exists, b_kind, b_first, b_second, b_owner, b_parts, b_partCount, b_value, b_slopeOf, b_order, b_slopes⟩ := v
  have I' := I
  obtain ⟨rk, sl, d, G, ages, sz, kd, tm, yk, cl, hX, hY, hS⟩ := I'
  have hu := hY.1.1
  unfold wpX_shape
  by_cases hH : ab_isH a_handleTaken v1
  · obtain ⟨w, hw, rfl, hT⟩ := hH
    obtain ⟨w1, w2, w3, w4⟩ := hX.2.2.2.2 w hw hT
    have yw := hY.2.2.2.2.1 w hw hT
    exact xw_isHandle_t hw hT (br_f ab_10 (xw_packedShape (by omega) w2 w1 (fun a ha => (w3.2.2.1 a ha).1) (yb_shape hw (by rw [hu]; exact hT) (rl_row w2 yw) ⟨rfl, I⟩)))
  · refine xw_isHandle_f hH (br_t rfl ?_)
    unfold wpY_shape
    exact yb_isHandle_f (by rw [hu]; exact hH) (br_t rfl ⟨rfl, I⟩)
theorem rl_krL {k y t : Nat} (h : rl_kr k y t) : y < 7 ∧ k ≤ 4 ∧ (k = 4 ↔ y = 0) := by unfold rl_kr at h; omega
theorem rl_pin {sl sz : Nat → Nat} {d : Nat → Nat → Nat} {G : Nat → Nat → Nat → Nat → Nat} {ages : List Nat} {S St D E : Nat → Int32} {w e : Nat} (W : rl_win sl d G ages sz S St D E w) : rl_p d G w e / 64 = sl w ∧ rl_p d G w e % 64 < sz (sl w) := by
  obtain ⟨w1, w2, w3, w4⟩ := W
  obtain ⟨p1, p2, p3⟩ := ab_pfi (e := e) (w3 0 (by omega)).2.1 (w3 1 (by omega)).2.1 (w3 2 (by omega)).2.1
  exact (w4 _ _ _ p1 p2 p3).2
theorem rl_pmem {rk sl sz kd tm : Nat → Nat} {d : Nat → Nat → Nat} {G : Nat → Nat → Nat → Nat → Nat} {ages : List Nat} {fs fe : Int32} {T V R S St D E Sz Kd Tm Ag : Nat → Int32} (H : rl_X rk sl d G ages sz kd tm fs fe T V R S St D E Sz Kd Tm Ag) {w e : Nat} (W : rl_win sl d G ages sz S St D E w) : rl_p d G w e ∈ ab_fl sz ages ∧ rl_p d G w e < 2048 := by
  obtain ⟨q1, q2⟩ := rl_pin (e := e) W
  have h1 := H.2.2.1.2.1 _ W.2.1
  have h2 := (H.2.2.2.1 _ W.2.1).2.2.1
  refine ⟨?_, by omega⟩
  rw [rl_mem H, q1]
  exact ⟨W.2.1, q2⟩
section
variable {f_slotsTaken f_elementsTaken f_slopeCount : Int32} {a_handleTaken a_handleIsView a_windowRank a_windowSlot a_windowStart a_windowDimension a_windowStride a_slotSize a_slotKind a_slotTerms a_slotNeeded a_slotsByAge a_values a_derivatives a_firstPlaces a_secondPlaces a_assigned a_slopes : Nat → Int32}
theorem xl_win_firstPlaces {post : Int32 → SX → Prop} {sl sz : Nat → Nat} {d : Nat → Nat → Nat} {G : Nat → Nat → Nat → Nat → Nat} {ages : List Nat} {w : Nat} (hw : w < 88) (W : rl_win sl d G ages sz a_windowSlot a_windowStart a_windowDimension a_windowStride w) (h : ∀ F : Nat → Int32, (∀ e, e < rl_n d w → F e = nI (rl_p d G w e)) → post (nI (rl_n d w)) (f_slotsTaken, f_elementsTaken, f_slopeCount, a_handleTaken, a_handleIsView, a_windowRank, a_windowSlot, a_windowStart, a_windowDimension, a_windowStride, a_slotSize, a_slotKind, a_slotTerms, a_slotNeeded, a_slotsByAge, a_values, a_derivatives, F, a_secondPlaces, a_assigned, a_slopes)) : wpX_listPlaces__firstPlaces post (f_slotsTaken, f_elementsTaken, f_slopeCount, a_handleTaken, a_handleIsView, a_windowRank, a_windowSlot, a_windowStart, a_windowDimension, a_windowStride, a_slotSize, a_slotKind, a_slotTerms, a_slotNeeded, a_slotsByAge, a_values, a_derivatives, a_firstPlaces, a_secondPlaces, a_assigned, a_slopes) (nI w) := by
  obtain ⟨w1, w2, w3, w4⟩ := W
  exact xl_list_firstPlaces hw (w3 0 (by omega)).1 (w3 1 (by omega)).1 (w3 2 (by omega)).1 (w3 0 (by omega)).2.2 (w3 1 (by omega)).2.2 (w3 2 (by omega)).2.2 (fun x y z hx hy hz => (w4 x y z hx hy hz).1) h
theorem xl_win_secondPlaces {post : Int32 → SX → Prop} {sl sz : Nat → Nat} {d : Nat → Nat → Nat} {G : Nat → Nat → Nat → Nat → Nat} {ages : List Nat} {w : Nat} (hw : w < 88) (W : rl_win sl d G ages sz a_windowSlot a_windowStart a_windowDimension a_windowStride w) (h : ∀ F : Nat → Int32, (∀ e, e < rl_n d w → F e = nI (rl_p d G w e)) → post (nI (rl_n d w)) (f_slotsTaken, f_elementsTaken, f_slopeCount, a_handleTaken, a_handleIsView, a_windowRank, a_windowSlot, a_windowStart, a_windowDimension, a_windowStride, a_slotSize, a_slotKind, a_slotTerms, a_slotNeeded, a_slotsByAge, a_values, a_derivatives, a_firstPlaces, F, a_assigned, a_slopes)) : wpX_listPlaces__secondPlaces post (f_slotsTaken, f_elementsTaken, f_slopeCount, a_handleTaken, a_handleIsView, a_windowRank, a_windowSlot, a_windowStart, a_windowDimension, a_windowStride, a_slotSize, a_slotKind, a_slotTerms, a_slotNeeded, a_slotsByAge, a_values, a_derivatives, a_firstPlaces, a_secondPlaces, a_assigned, a_slopes) (nI w) := by
  obtain ⟨w1, w2, w3, w4⟩ := W
  exact xl_list_secondPlaces hw (w3 0 (by omega)).1 (w3 1 (by omega)).1 (w3 2 (by omega)).1 (w3 0 (by omega)).2.2 (w3 1 (by omega)).2.2 (w3 2 (by omega)).2.2 (fun x y z hx hy hz => (w4 x y z hx hy hz).1) h
end
section
variable {f_slotsTaken f_elementsTaken f_slopeCount : Int32} {a_handleTaken a_handleIsView a_windowRank a_windowSlot a_windowStart a_windowDimension a_windowStride a_slotSize a_slotKind a_slotTerms a_slotNeeded a_slotsByAge a_values a_derivatives a_firstPlaces a_secondPlaces a_assigned a_slopes : Nat → Int32}
theorem xv_put_n {post : Int32 → SX → Prop} {w n s kk : Nat} {y z : Int32} {dw : Nat → Nat} (hw : w < 24) (hT : ¬ a_handleTaken w = 0) (hd : ∀ a, a < 3 → a_windowDimension (3 * w + a) = nI (dw a)) (hs : dw 0 * dw 1 * dw 2 ≤ 64) (hsl : a_windowSlot w = nI s) (hs32 : s < 32) (hkd : a_slotKind s = nI kk) (hk4 : kk ≤ 4) (hno : ¬ ab_isE (dw 0 * dw 1 * dw 2) y ∨ kk ≠ 4) (hp : post 0 (f_slotsTaken, f_elementsTaken, f_slopeCount, a_handleTaken, a_handleIsView, a_windowRank, a_windowSlot, a_windowStart, a_windowDimension, a_windowStride, a_slotSize, a_slotKind, a_slotTerms, a_slotNeeded, a_slotsByAge, a_values, a_derivatives, a_firstPlaces, a_secondPlaces, a_assigned, a_slopes)) : wpX_put post (f_slotsTaken, f_elementsTaken, f_slopeCount, a_handleTaken, a_handleIsView, a_windowRank, a_windowSlot, a_windowStart, a_windowDimension, a_windowStride, a_slotSize, a_slotKind, a_slotTerms, a_slotNeeded, a_slotsByAge, a_values, a_derivatives, a_firstPlaces, a_secondPlaces, a_assigned, a_slopes) (nI w) y z := by
  unfold wpX_put
  by_cases hE : ab_isE (dw 0 * dw 1 * dw 2) y
  · obtain ⟨i, hi, rfl⟩ := hE
    refine xw_hasElement_t hw hT hd hs hi (br_f ab_10 ⟨vp_in_nI (by omega) (by decide), ?_⟩)
    rw [nI_clamp (by omega), hsl, nI_clamp (by omega), hkd]
    refine ⟨vp_in_nI hs32 (by decide), br_f ?_ hp⟩
    rcases hno with q | q
    · exact absurd ⟨i, hi, rfl⟩ q
    · intro z; exact q ((nI_eq (b := 4) (by omega) (by decide)).mp z)
  · exact xw_hasElement_f2 hw hT hd hs hE (br_t rfl hp)
end
section
variable {c_cells c_slopeCount : Int32} {b_used b_rank b_dims b_shown b_tensorOf b_view b_exists b_kind b_first b_second b_owner b_parts b_partCount b_value b_slopeOf b_order b_slopes : Nat → Int32}
theorem yv_put_n {post : Int32 → SY → Prop} {w s kk rk : Nat} {y z : Int32} {dw : Nat → Nat} (hw : w < 24) (hU : ¬ b_used w = 0) (H : yb_row b_rank b_dims w rk dw) (hsl : b_tensorOf w = nI s) (hs32 : s < 32) (hkd : b_kind s = nI kk) (hk4 : kk < 7) (hno : ¬ ab_isE (dw 0 * dw 1 * dw 2) y ∨ kk ≠ 0) (hp : post 0 (c_cells, c_slopeCount, b_used, b_rank, b_dims, b_shown, b_tensorOf, b_view, b_exists, b_kind, b_first, b_second, b_owner, b_parts, b_partCount, b_value, b_slopeOf, b_order, b_slopes)) : wpY_put post (c_cells, c_slopeCount, b_used, b_rank, b_dims, b_shown, b_tensorOf, b_view, b_exists, b_kind, b_first, b_second, b_owner, b_parts, b_partCount, b_value, b_slopeOf, b_order, b_slopes) (nI w) y z := by
  have hs := ab_sz (H.2.2.2.2 0 (by omega)).2 (H.2.2.2.2 1 (by omega)).2 (H.2.2.2.2 2 (by omega)).2
  unfold wpY_put
  refine yb_isHandle_t hw hU (br_f ab_10 ⟨vp_in_nI (by omega) (by decide), ?_⟩)
  rw [nI_clamp (by omega), hsl, nI_clamp (by omega), hkd]
  refine ⟨vp_in_nI hs32 (by decide), br_c (fun k0 => br_c (fun _ => hp) (fun h0 => yb_size (by omega) H (br_c (fun h1 => ?_) (fun _ => hp)))) (fun _ => hp)⟩
  rcases hno with q | q
  · exact absurd (ab_notE q h0 h1 (by omega)) id
  · exact absurd ((nI_eq (b := 0) (by omega) (by decide)).mp k0) q
theorem yv_put {post : Int32 → SY → Prop} {w s rk i c : Nat} {z : Int32} {dw : Nat → Nat} (hw : w < 24) (hU : ¬ b_used w = 0) (H : yb_row b_rank b_dims w rk dw) (hsl : b_tensorOf w = nI s) (hs32 : s < 32) (hkd : b_kind s = 0) (hi : i < dw 0 * dw 1 * dw 2) (hc : b_shown (64 * w + i) = nI c) (hc2 : c < 320) (hp : post 1 (c_cells, c_slopeCount, b_used, b_rank, b_dims, b_shown, b_tensorOf, b_view, b_exists, b_kind, b_first, b_second, b_owner, b_parts, b_partCount, upd b_value c z, b_slopeOf, b_order, b_slopes)) : wpY_put post (c_cells, c_slopeCount, b_used, b_rank, b_dims, b_shown, b_tensorOf, b_view, b_exists, b_kind, b_first, b_second, b_owner, b_parts, b_partCount, b_value, b_slopeOf, b_order, b_slopes) (nI w) (nI i) z := by
  have hs := ab_sz (H.2.2.2.2 0 (by omega)).2 (H.2.2.2.2 1 (by omega)).2 (H.2.2.2.2 2 (by omega)).2
  unfold wpY_put
  refine yb_isHandle_t hw hU (br_f ab_10 ⟨vp_in_nI (by omega) (by decide), ?_⟩)
  rw [nI_clamp (by omega), hsl, nI_clamp (by omega), hkd]
  refine ⟨vp_in_nI hs32 (by decide), br_t rfl (br_f (nI_pos (by omega)) (yb_size (by omega) H (br_t (nI_lt hi (by omega)) ⟨ab_vin ab_i64 (by omega) (by decide), ?_⟩)))⟩
  rw [ab_i64, nI_clamp (by omega), hc, nI_clamp (by omega)]
  exact ⟨vp_in_nI hc2 (by decide), nm_e hp⟩
end
theorem i_vc_put {k : Nat} {u : SX} {v : SY} (I : i_Rel k u v) (hk : k + 5 ≤ 2560) (v1 : Int32) (v2 : Int32) (v3 : Int32) : wpX_put (fun r u' => wpY_put (fun r' v' => r' = r ∧ i_Rel (k + 5) u' v') v v1 v2 v3) u v1 v2 v3 := by
  obtain ⟨f_slotsTaken, f_elementsTaken, f_slopeCount, a_handleTaken, a_handleIsView, a_windowRank, a_windowSlot, a_windowStart, a_windowDimension, a_windowStride, a_slotSize, a_slotKind, a_slotTerms, a_slotNeeded, a_slotsByAge, a_values, a_derivatives, a_firstPlaces, a_secondPlaces, a_assigned, a_slopes⟩ := u
  obtain ⟨c_cells, c_slopeCount, b_used, b_rank, b_dims, b_shown, b_tensorOf, b_view, b_exists, b_kind, b_first, b_second, b_owner, b_parts, b_partCount, b_value, b_slopeOf, b_order, b_slopes⟩ := v
  have I' := I
  obtain ⟨rk, sl, d, G, ages, sz, kd, tm, yk, cl, hX, hY, hS⟩ := I'
  have hu := hY.1.1
  by_cases hH : ab_isH a_handleTaken v1
  · obtain ⟨w, hw, rfl, hT⟩ := hH
    obtain ⟨w1, w2, w3, w4⟩ := hX.2.2.2.2 w hw hT
    have yw := hY.2.2.2.2.1 w hw hT
    have hU : ¬ b_used w = 0 := by rw [hu]; exact hT
    have s32 := hX.2.2.1.2.1 _ w3.2.1
    have xs := hX.2.2.2.1 _ w3.2.1
    have ys := hY.2.2.2.2.2.1 _ w3.2.1
    have n64 := (rl_hk hX).2 w hw hT
    have kr := rl_krL ys.2.1
    by_cases hno : ¬ ab_isE (d w 0 * d w 1 * d w 2) v2 ∨ kd (sl w) ≠ 4
    · refine xv_put_n (n := 0) hw hT (fun a ha => (w3.2.2.1 a ha).1) n64 w3.1 s32 xs.2.2.2.1 xs.2.2.2.2.1 hno ?_
      refine yv_put_n hw hU (rl_row w2 yw) yw.2.2.1 s32 ys.1 kr.1 ?_ ⟨rfl, I⟩
      rcases hno with q | q
      · exact Or.inl q
      · exact Or.inr (fun z => q (kr.2.2.mpr z))
    · have n1 : ab_isE (d w 0 * d w 1 * d w 2) v2 := Classical.byContradiction (fun q => hno (Or.inl q))
      have n2 : kd (sl w) = 4 := Classical.byContradiction (fun q => hno (Or.inr q))
      obtain ⟨i, hi, rfl⟩ := n1
      obtain ⟨m1, m2⟩ := rl_pmem hX w3 (e := i)
      unfold wpX_put
      refine xw_hasElement_t hw hT (fun a ha => (w3.2.2.1 a ha).1) n64 hi (br_f ab_10 ⟨vp_in_nI (by omega) (by decide), ?_⟩)
      have hi64 : i < 64 := Nat.lt_of_lt_of_le hi n64
      rw [nI_clamp (show w < 2 ^ 31 by omega), w3.1, nI_clamp (show sl w < 2 ^ 31 by omega), xs.2.2.2.1, n2]
      refine ⟨vp_in_nI s32 (by decide), br_t rfl (xl_win_firstPlaces (by omega) w3 (fun F hF => ⟨vp_in_nI hi64 (by decide), ?_⟩))⟩
      rw [nI_clamp (show i < 2 ^ 31 by omega), hF i hi, nI_clamp (show rl_p d G w i < 2 ^ 31 by omega)]
      refine ⟨vp_in_nI m2 (by decide), nm_e ?_⟩
      refine yv_put (c := cl (rl_p d G w i)) hw hU (rl_row w2 yw) yw.2.2.1 s32 (by rw [ys.1, kr.2.2.mp n2]; rfl) hi (yw.2.2.2 i hi) (hY.2.2.1.1 _ m1).1 ⟨rfl, ?_⟩
      obtain ⟨y1, y2, y3, y4, y5, y6, y7⟩ := hY
      refine rl_mk (k + 5) rk sl d G ages sz kd tm yk cl hX ⟨y1, y2, y3, y4, y5, y6, fun p hp hkp => ?_⟩ hS
      by_cases z : p = rl_p d G w i
      · rw [z, pk_us, pk_us]
      · rw [pk_un z, pk_un (fun q => z (y3.2.1 _ _ hp m1 q))]
        exact y7 p hp hkp
  · unfold wpX_put
    refine xw_hasElement_f1 hH (br_t rfl ?_)
    unfold wpY_put
    exact yb_isHandle_f (by rw [hu]; exact hH) (br_t rfl ⟨rfl, I⟩)
end
section
theorem rl_winA {sl sz : Nat → Nat} {d : Nat → Nat → Nat} {G : Nat → Nat → Nat → Nat → Nat} {ages : List Nat} {S St D E : Nat → Int32} {w s n : Nat} (hs : s ∉ ages) (H : rl_win sl d G ages sz S St D E w) : rl_win sl d G (ages ++ [s]) (ab_fu sz s n) S St D E w := by
  obtain ⟨h1, h2, h3, h4⟩ := H
  refine ⟨h1, List.mem_append_left _ h2, h3, ?_⟩
  have hne : sl w ≠ s := fun z => hs (z ▸ h2)
  rw [ab_fun hne]
  exact h4
theorem rl_winF {sl sl' sz : Nat → Nat} {d d' : Nat → Nat → Nat} {G G' : Nat → Nat → Nat → Nat → Nat} {ages : List Nat} {S St D E S' St' D' E' : Nat → Int32} {w : Nat} (F : sl' w = sl w ∧ d' w = d w ∧ G' w = G w ∧ S' w = S w ∧ St' w = St w ∧ (∀ a, a < 3 → D' (3 * w + a) = D (3 * w + a) ∧ E' (3 * w + a) = E (3 * w + a))) (H : rl_win sl d G ages sz S St D E w) : rl_win sl' d' G' ages sz S' St' D' E' w := by
  obtain ⟨h1, h2, h3, h4⟩ := H
  obtain ⟨f1, f2, f3, f4, f5, f6⟩ := F
  unfold rl_win
  rw [f1, f2, f3, f4, f5, show E' (3 * w) = E (3 * w) from (f6 0 (by omega)).2, (f6 1 (by omega)).2, (f6 2 (by omega)).2]
  exact ⟨h1, h2, fun a ha => by rw [(f6 a ha).1]; exact h3 a ha, h4⟩
theorem rl_orA {kd sl : Nat → Nat} {s : Nat} : ∀ {l pre : List Nat}, rl_or kd sl pre l → (kd s ≠ 4 → sl (24 + 2 * s) ∈ pre ++ l ∧ sl (25 + 2 * s) ∈ pre ++ l) → rl_or kd sl pre (l ++ [s]) := by
  intro l
  induction l with
  | nil => intro pre _ h; simp at h; exact ⟨h, trivial⟩
  | cons t l ih =>
    intro pre H h
    refine ⟨H.1, ih H.2 (fun z => ?_)⟩
    obtain ⟨h1, h2⟩ := h z
    simp only [List.mem_append, List.mem_cons] at h1 h2 ⊢
    exact ⟨by rcases h1 with q | q | q <;> simp [q], by rcases h2 with q | q | q <;> simp [q]⟩
theorem rl_fl {sz : Nat → Nat} {ages : List Nat} {s n : Nat} (hs : s ∉ ages) : ab_fl (ab_fu sz s n) (ages ++ [s]) = ab_fl sz ages ++ (List.range n).map (fun i => 64 * s + i) := by
  have hne : ∀ t, t ∈ ages → ab_fu sz s n t = sz t := fun t ht => ab_fun (fun z => hs (z ▸ ht))
  rw [ab_fla, ab_flg hne, ab_flc, ab_fln, List.append_nil]
  unfold ab_pl
  rw [ab_fus]
theorem rl_makeX {rk rk' sl sl' sz kd tm : Nat → Nat} {d d' : Nat → Nat → Nat} {G G' : Nat → Nat → Nat → Nat → Nat} {ages : List Nat} {fs fe : Int32} {T V R S St D E Sz Kd Tm Ag R' S' St' D' E' : Nat → Int32} {s v n kk tt : Nat} (hs : s < 32) (hsn : s ∉ ages) (hv : v < 24) (hn1 : 1 ≤ n) (hn64 : n ≤ 64) (hc : (ab_fl sz ages).length + n ≤ 320) (F : ∀ w, w ≠ v → w ≠ 24 + 2 * s → w ≠ 25 + 2 * s → sl' w = sl w ∧ d' w = d w ∧ G' w = G w ∧ S' w = S w ∧ St' w = St w ∧ (∀ a, a < 3 → D' (3 * w + a) = D (3 * w + a) ∧ E' (3 * w + a) = E (3 * w + a))) (hR : R' v = nI (rk' v)) (hR' : ∀ h, h < 24 → h ≠ v → R' h = R h ∧ rk' h = rk h) (hsh : ab_sh3 (rk' v) (d' v)) (W0 : rl_win sl' d' G' (ages ++ [s]) (ab_fu sz s n) S' St' D' E' v) (hsl : sl' v = s) (hst : St' v = nI (64 * s)) (hp : ∀ e, e < rl_n d' v → rl_p d' G' v e = 64 * s + e) (hkk : kk ≤ 4) (W1 : kk ≠ 4 → 1 ≤ tt ∧ tt ≤ 4 ∧ rl_n d' (24 + 2 * s) = n * tt ∧ rl_n d' (25 + 2 * s) = n * tt ∧ rl_win sl' d' G' ages sz S' St' D' E' (24 + 2 * s) ∧ rl_win sl' d' G' ages sz S' St' D' E' (25 + 2 * s)) (H : rl_X rk sl d G ages sz kd tm fs fe T V R S St D E Sz Kd Tm Ag) : rl_X rk' sl' d' G' (ages ++ [s]) (ab_fu sz s n) (ab_fu kd s kk) (ab_fu tm s tt) (nI (ages.length + 1)) (nI ((ab_fl sz ages).length + n)) (upd T v 1) (upd V v 0) R' S' St' D' E' (upd Sz s (nI n)) (upd Kd s (nI kk)) (upd Tm s (nI tt)) (upd Ag ages.length (nI s)) := by
  obtain ⟨⟨x1, x1'⟩, x2, ⟨x3, x4, x5, x6⟩, x7, x8⟩ := H
  have hl : (ab_fl (ab_fu sz s n) (ages ++ [s])).length = (ab_fl sz ages).length + n := by
    rw [rl_fl hsn, List.length_append, List.length_map, List.length_range]
  refine ⟨⟨?_, ?_⟩, ⟨?_, ?_⟩, ⟨?_, ?_, ?_, ?_⟩, ?_, ?_⟩
  · rw [List.length_append]; rfl
  · intro i t ht
    by_cases z : i = ages.length
    · subst z
      rw [List.getElem?_append_right (by omega)] at ht
      simp at ht
      rw [pk_us, ht]
    · rw [pk_un z]
      by_cases y : i < ages.length
      · rw [List.getElem?_append_left y] at ht; exact x1' i t ht
      · rw [List.getElem?_append_right (by omega), List.getElem?_eq_none (by simp; omega)] at ht
        exact absurd ht (by simp)
  · rw [hl]
  · rw [hl]; exact hc
  · rw [List.nodup_append]
    refine ⟨x3, by simp, ?_⟩
    intro a ha b hb
    simp at hb
    rw [hb]; exact fun z => hsn (z ▸ ha)
  · intro t ht
    simp at ht
    rcases ht with q | q
    · exact x4 t q
    · rw [q]; exact hs
  · intro t ht hta
    simp at hta
    rw [pk_un hta.2]; exact x5 t ht hta.1
  · refine rl_orA (rl_orC (fun t ht => ?_) x6) (fun z => ?_)
    · have ts : t ≠ s := fun z => hsn (z ▸ ht)
      exact ⟨ab_fun ts, (F _ (by omega) (by omega) (by omega)).1, (F _ (by omega) (by omega) (by omega)).1⟩
    · rw [ab_fus] at z
      obtain ⟨_, _, _, _, w1, w2⟩ := W1 z
      rw [List.nil_append]
      exact ⟨w1.2.1, w2.2.1⟩
  · intro t ht
    by_cases ts : t = s
    · subst ts
      unfold rl_slot
      rw [ab_fus, ab_fus, ab_fus, pk_us, pk_us, pk_us]
      refine ⟨rfl, hn1, hn64, rfl, hkk, fun z => ?_⟩
      obtain ⟨q1, q2, q3, q4, q5, q6⟩ := W1 z
      exact ⟨rfl, q1, q2, q3, q4, rl_winA hsn q5, rl_winA hsn q6⟩
    · have hta : t ∈ ages := by
        simp at ht
        rcases ht with q | q
        · exact q
        · exact absurd q ts
      obtain ⟨z1, z2, z3, z4, z5, z6⟩ := x7 t hta
      unfold rl_slot
      rw [ab_fun ts, ab_fun ts, ab_fun ts, pk_un ts, pk_un ts, pk_un ts]
      refine ⟨z1, z2, z3, z4, z5, fun z => ?_⟩
      obtain ⟨q1, q2, q3, q4, q5, q6, q7⟩ := z6 z
      have f1 := F (24 + 2 * t) (by omega) (by omega) (by omega)
      have f2 := F (25 + 2 * t) (by omega) (by omega) (by omega)
      refine ⟨q1, q2, q3, ?_, ?_, rl_winA hsn (rl_winF f1 q6), rl_winA hsn (rl_winF f2 q7)⟩
      · unfold rl_n; rw [f1.2.1]; exact q4
      · unfold rl_n; rw [f2.2.1]; exact q5
  · intro h hh ht
    by_cases z : h = v
    · subst z
      refine ⟨hR, hsh, W0, fun _ => ?_⟩
      rw [hsl]
      exact ⟨hst, hp⟩
    · rw [pk_un z] at ht
      obtain ⟨y1, y2, y3, y4⟩ := x8 h hh ht
      have f1 := F h z (by omega) (by omega)
      obtain ⟨r1, r2⟩ := hR' h hh z
      refine ⟨?_, ?_, rl_winA hsn (rl_winF f1 y3), ?_⟩
      · rw [r1, r2]; exact y1
      · rw [r2, f1.2.1]; exact y2
      · rw [pk_un z, f1.1, f1.2.2.2.2.1]
        unfold rl_n rl_p
        rw [f1.2.1, f1.2.2.1]
        exact y4
def rl_cl (cl f : Nat → Nat) (s p : Nat) : Nat := if p / 64 = s then f (p % 64) else cl p
theorem rl_cl1 {cl f : Nat → Nat} {s i : Nat} (hi : i < 64) : rl_cl cl f s (64 * s + i) = f i := by
  unfold rl_cl; rw [if_pos (by omega), show (64 * s + i) % 64 = i by omega]
theorem rl_cl2 {cl f : Nat → Nat} {s p : Nat} (h : p / 64 ≠ s) : rl_cl cl f s p = cl p := if_neg h
theorem rl_makeY {rk rk' sl sl' sz kd tm yk cl f : Nat → Nat} {d d' : Nat → Nat → Nat} {G G' : Nat → Nat → Nat → Nat → Nat} {ages : List Nat} {fs fe c_cells f1 f2 pv : Int32} {T V R S St D E Sz Kd Tm Ag vals vals' : Nat → Int32} {b_used b_rank b_dims b_shown b_tensorOf b_view b_exists b_kind b_first b_second b_owner b_parts b_partCount b_value b_order yR yD yS yO yP yC yV yOr : Nat → Int32} {s v n kk tt yy : Nat} (hs : s < 32) (hsn : s ∉ ages) (hv : v < 24) (hn64 : n ≤ 64) (hrn : rl_n d' v = n) (F : ∀ w, w ≠ v → w ≠ 24 + 2 * s → w ≠ 25 + 2 * s → sl' w = sl w ∧ d' w = d w ∧ G' w = G w) (hrk : ∀ h, h < 24 → h ≠ v → rk' h = rk h) (hsl : sl' v = s) (hp : ∀ e, e < n → rl_p d' G' v e = 64 * s + e) (hR : yR v = nI (rk' v)) (hR' : ∀ h, h < 24 → h ≠ v → yR h = b_rank h) (hD : ∀ a, a < rk' v → yD (3 * v + a) = nI (d' v a)) (hD' : ∀ j, j < 72 → (j < 3 * v ∨ 3 * v + 3 ≤ j) → yD j = b_dims j) (hS : ∀ i, i < n → yS (64 * v + i) = nI (f i)) (hS' : ∀ j, j < 1536 → (j < 64 * v ∨ 64 * v + 64 ≤ j) → yS j = b_shown j) (hf : ∀ i, i < n → f i < 320 ∧ b_owner (f i) < 0) (hfi : ∀ i j, i < n → j < n → f i = f j → i = j) (hO : ∀ i, i < n → yO (f i) = nI s ∧ yV (f i) = 0) (hO' : ∀ c, (∀ i, i < n → c ≠ f i) → yO c = b_owner c ∧ yV c = b_value c) (hOr : ∀ i, i < n → yOr ((ab_fl sz ages).length + i) = nI (f i)) (hOr' : ∀ j, j < (ab_fl sz ages).length → yOr j = b_order j) (hP' : ∀ c, (∀ i, i < n → c ≠ f i) → yC c = b_partCount c ∧ ∀ j, j < 8 → yP (8 * c + j) = b_parts (8 * c + j)) (hkr : rl_kr kk yy tt) (hk4 : kk = 4 → f1 < 0 ∧ f2 < 0) (hk3 : kk ≠ 4 → f1 = nI (sl' (24 + 2 * s)) ∧ (kk = 3 → f2 < 0 ∧ sl' (25 + 2 * s) = sl' (24 + 2 * s)) ∧ (kk ≠ 3 → f2 = nI (sl' (25 + 2 * s))) ∧ ∀ i, i < n → rl_pt d' G' (ab_fu kd s kk) (ab_fu tm s tt) (rl_cl cl f s) yP yC s i) (hvl : kk = 4 → ∀ i, i < n → vals' (64 * s + i) = 0) (hvl' : ∀ p, p ∈ ab_fl sz ages → vals' p = vals p) (HX : rl_X rk sl d G ages sz kd tm fs fe T V R S St D E Sz Kd Tm Ag) (H : rl_Y rk sl d G ages sz kd tm yk cl T V vals c_cells b_used b_rank b_dims b_shown b_tensorOf b_view b_exists b_kind b_first b_second b_owner b_parts b_partCount b_value b_order) : rl_Y rk' sl' d' G' (ages ++ [s]) (ab_fu sz s n) (ab_fu kd s kk) (ab_fu tm s tt) (ab_fu yk s yy) (rl_cl cl f s) (upd T v 1) (upd V v pv) vals' (nI ((ab_fl sz ages).length + n)) (upd b_used v 1) yR yD yS (upd b_tensorOf v (nI s)) (upd b_view v pv) (upd b_exists s 1) (upd b_kind s (nI yy)) (upd b_first s f1) (upd b_second s f2) yO yP yC yV yOr := by
  obtain ⟨⟨y1, y1'⟩, ⟨y2, y2'⟩, ⟨o1, o2, o3⟩, y4, y5, y6, y7⟩ := H
  subst y1 y1'
  have hl := rl_fl (sz := sz) (n := n) hsn
  have hold : ∀ p, p ∈ ab_fl sz ages → p / 64 ≠ s := fun p hp z => hsn (z ▸ ((rl_mem HX).mp hp).1)
  have hcl : ∀ p, p ∈ ab_fl sz ages → rl_cl cl f s p = cl p := fun p hp => rl_cl2 (hold p hp)
  have hne : ∀ p, p ∈ ab_fl sz ages → ∀ i, i < n → cl p ≠ f i := by
    intro p hp i hi z
    have h1 := (o1 p hp).2
    have h2 := (hf i hi).2
    rw [← z, h1] at h2
    have h3 : p / 64 < 32 := HX.2.2.1.2.1 _ ((rl_mem HX).mp hp).1
    exact nI_pos (by omega) h2
  have hmem : ∀ p, p ∈ ab_fl (ab_fu sz s n) (ages ++ [s]) ↔ p ∈ ab_fl sz ages ∨ ∃ i, i < n ∧ p = 64 * s + i := by
    intro p
    rw [hl, List.mem_append, List.mem_map]
    constructor
    · rintro (q | ⟨i, hi, rfl⟩)
      · exact Or.inl q
      · exact Or.inr ⟨i, List.mem_range.mp hi, rfl⟩
    · rintro (q | ⟨i, hi, rfl⟩)
      · exact Or.inl q
      · exact Or.inr ⟨i, List.mem_range.mpr hi, rfl⟩
  refine ⟨⟨rfl, rfl⟩, ⟨?_, ?_⟩, ⟨?_, ?_, ?_⟩, ?_, ?_, ?_, ?_⟩
  · rw [hl, List.length_append, List.length_map, List.length_range]
  · intro k p hk
    rw [hl] at hk
    by_cases z : k < (ab_fl sz ages).length
    · rw [List.getElem?_append_left z] at hk
      rw [hOr' k z, hcl p (List.mem_of_getElem? hk)]
      exact y2' k p hk
    · rw [List.getElem?_append_right (by omega)] at hk
      have hkn : k - (ab_fl sz ages).length < n := by
        have := (List.getElem?_eq_some_iff.mp hk).1
        simpa using this
      rw [List.getElem?_map, List.getElem?_range hkn] at hk
      simp at hk
      rw [← hk, rl_cl1 (by omega), ← hOr _ hkn]
      congr 1; omega
  · intro p hp
    rcases (hmem p).mp hp with q | ⟨i, hi, rfl⟩
    · rw [hcl p q, (hO' (cl p) (hne p q)).1]; exact o1 p q
    · rw [rl_cl1 (by omega), (hO i hi).1, show (64 * s + i) / 64 = s by omega]
      exact ⟨(hf i hi).1, rfl⟩
  · intro p q hp hq
    rcases (hmem p).mp hp with a | ⟨i, hi, rfl⟩
    · rcases (hmem q).mp hq with b | ⟨j, hj, rfl⟩
      · rw [hcl p a, hcl q b]; exact o2 p q a b
      · rw [hcl p a, rl_cl1 (by omega)]; intro z; exact absurd z (hne p a j hj)
    · rcases (hmem q).mp hq with b | ⟨j, hj, rfl⟩
      · rw [hcl q b, rl_cl1 (by omega)]; intro z; exact absurd z.symm (hne q b i hi)
      · rw [rl_cl1 (by omega), rl_cl1 (by omega)]; intro z; rw [hfi i j hi hj z]
  · intro c hc hno
    have h1 : ∀ i, i < n → c ≠ f i := by
      intro i hi z
      refine hno (64 * s + i) ((hmem _).mpr (Or.inr ⟨i, hi, rfl⟩)) ?_
      rw [rl_cl1 (by omega)]; exact z.symm
    rw [(hO' c h1).1]
    refine o3 c hc (fun p hp z => hno p ((hmem p).mpr (Or.inl hp)) ?_)
    rw [hcl p hp]; exact z
  · intro t ht
    by_cases z : t = s
    · subst z
      rw [pk_us]
      simp
    · rw [pk_un z, y4 t ht]
      simp [z]
  · intro h hh ht
    by_cases z : h = v
    · subst z
      refine ⟨hR, hD, ?_, ?_⟩
      · rw [pk_us, hsl]
      · intro e he
        rw [hrn] at he
        rw [hS e he, hp e he, rl_cl1 (by omega)]
    · rw [pk_un z] at ht
      obtain ⟨q1, q2, q3, q4⟩ := y5 h hh ht
      obtain ⟨g1, g2, g3⟩ := F h z (by omega) (by omega)
      have xh := HX.2.2.2.2 h hh ht
      have k1 := (rl_hk HX).1 h hh ht
      have k2 := (rl_hk HX).2 h hh ht
      refine ⟨?_, ?_, ?_, ?_⟩
      · rw [hR' h hh z, hrk h hh z]; exact q1
      · rw [hrk h hh z, g2]; intro a ha; rw [hD' _ (by omega) (by omega)]; exact q2 a ha
      · rw [pk_un z, g1]; exact q3
      · unfold rl_n rl_p
        rw [g2, g3]
        intro e he
        have m1 := (rl_pmem HX xh.2.2.1 (e := e)).1
        have he' : e < rl_n d h := he
        rw [hS' _ (by omega) (by omega)]
        have := q4 e he'
        rw [this]
        exact congrArg nI (hcl _ m1).symm
  · intro t ht
    by_cases z : t = s
    · subst z
      unfold rl_ys
      rw [pk_us, pk_us, pk_us, ab_fus, ab_fus, ab_fus, ab_fus]
      exact ⟨rfl, hkr, hk4, hk3⟩
    · have hta : t ∈ ages := by
        simp at ht
        rcases ht with q | q
        · exact q
        · exact absurd q z
      obtain ⟨q1, q2, q3, q4⟩ := y6 t hta
      have xs := HX.2.2.2.1 t hta
      unfold rl_ys
      rw [pk_un z, pk_un z, pk_un z, ab_fun z, ab_fun z, ab_fun z, ab_fun z]
      refine ⟨q1, q2, q3, fun k4 => ?_⟩
      obtain ⟨p1, p2, p3, p4⟩ := q4 k4
      obtain ⟨g1, g2, g3⟩ := F (24 + 2 * t) (by omega) (by omega) (by omega)
      obtain ⟨j1, j2, j3⟩ := F (25 + 2 * t) (by omega) (by omega) (by omega)
      obtain ⟨u1, u2, u3, u4, u5, u6, u7⟩ := xs.2.2.2.2.2 k4
      rw [g1, j1]
      refine ⟨p1, p2, p3, fun i hi => ?_⟩
      have hi' : i < sz t := hi
      have m0 : 64 * t + i ∈ ab_fl sz ages := by
        have := xs.2.2.1
        rw [rl_mem HX, show (64 * t + i) / 64 = t by omega, show (64 * t + i) % 64 = i by omega]
        exact ⟨hta, hi'⟩
      have e1 : ∀ j, rl_p d' G' (24 + 2 * t) j = rl_p d G (24 + 2 * t) j := fun j => by unfold rl_p; rw [g2, g3]
      have e2 : ∀ j, rl_p d' G' (25 + 2 * t) j = rl_p d G (25 + 2 * t) j := fun j => by unfold rl_p; rw [j2, j3]
      obtain ⟨a1, a2⟩ := p4 i hi
      obtain ⟨c1, c2⟩ := hP' _ (hne _ m0)
      unfold rl_pt
      rw [ab_fun z, ab_fun z, hcl _ m0, c1]
      refine ⟨fun k => ⟨(a1 k).1, fun r hr => ?_⟩, fun k => ⟨(a2 k).1, fun r hr => ?_⟩⟩
      · rw [e1, hcl _ (rl_pmem HX u6).1, c2 r (by omega)]; exact (a1 k).2 r hr
      · rw [e1, e2, hcl _ (rl_pmem HX u6).1, hcl _ (rl_pmem HX u7).1, c2 _ (by omega), c2 _ (by omega)]; exact (a2 k).2 r hr
  · intro p hp hk
    rcases (hmem p).mp hp with q | ⟨i, hi, rfl⟩
    · rw [ab_fun (hold p q)] at hk
      rw [hcl p q, (hO' (cl p) (hne p q)).2, hvl' p q]
      exact y7 p q hk
    · rw [show (64 * s + i) / 64 = s by omega, ab_fus] at hk
      rw [rl_cl1 (by omega), (hO i hi).2, hvl hk i hi]
end
section
theorem rl_m32 {ages : List Nat} {s : Nat} (hn : ages.Nodup) (h : ∀ t, t ∈ ages → t < 32) (hs : s < 32) (hsn : s ∉ ages) : ages.length < 32 := by
  have := ab_pg2 32 (s :: ages) (List.nodup_cons.mpr ⟨hsn, hn⟩) (fun t ht => by
    rcases List.mem_cons.mp ht with q | q
    · rw [q]; exact hs
    · exact h t q)
  rw [List.length_cons] at this
  omega
theorem rl_sz0 {rk sl sz kd tm : Nat → Nat} {d : Nat → Nat → Nat} {G : Nat → Nat → Nat → Nat → Nat} {ages : List Nat} {fs fe : Int32} {T V R S St D E Sz Kd Tm Ag : Nat → Int32} (H : rl_X rk sl d G ages sz kd tm fs fe T V R S St D E Sz Kd Tm Ag) {t : Nat} (ht : t < 32) : Sz t = 0 ↔ t ∉ ages := by
  constructor
  · intro z hm
    obtain ⟨z1, z2, z3, _⟩ := H.2.2.2.1 t hm
    rw [z1] at z
    exact nI_ne0 z2 (by omega) z
  · exact H.2.2.1.2.2.1 t ht
theorem rl_Lst {sz cl : Nat → Nat} {ages : List Nat} {O : Nat → Int32} (H : rl_own sz cl ages O) : ∀ j, j < 320 → ¬ O j < 0 → j ∈ (ab_fl sz ages).map cl := by
  intro j hj hO
  apply Classical.byContradiction
  intro hn
  refine hO (H.2.2 j hj (fun p hp z => hn (List.mem_map.mpr ⟨p, hp, z⟩)))
section
variable {f_slotsTaken f_elementsTaken f_slopeCount : Int32} {a_handleTaken a_handleIsView a_windowRank a_windowSlot a_windowStart a_windowDimension a_windowStride a_slotSize a_slotKind a_slotTerms a_slotNeeded a_slotsByAge a_values a_derivatives a_firstPlaces a_secondPlaces a_assigned a_slopes : Nat → Int32}
theorem xm_leaf117 {post : Int32 → SX → Prop} {r d2 p1 q : Nat} (hr : r ≤ 3) (hd : d2 < 8) (h : wX_leaf_138 post (nI (if 2 < r then 512 * d2 else 0)) (nI (q + p1)) f_slotsTaken f_elementsTaken f_slopeCount a_handleTaken a_handleIsView a_windowRank a_windowSlot a_windowStart a_windowDimension a_windowStride a_slotSize a_slotKind a_slotTerms a_slotNeeded a_slotsByAge a_values a_derivatives a_firstPlaces a_secondPlaces a_assigned a_slopes) : wX_leaf_117 post (nI r) (nI d2) (nI p1) (nI q) f_slotsTaken f_elementsTaken f_slopeCount a_handleTaken a_handleIsView a_windowRank a_windowSlot a_windowStart a_windowDimension a_windowStride a_slotSize a_slotKind a_slotTerms a_slotNeeded a_slotsByAge a_values a_derivatives a_firstPlaces a_secondPlaces a_assigned a_slopes := by
  refine nm_r (nI_add _ _) ?_
  by_cases z : r ≤ 2
  · rw [if_neg (by omega)] at h
    exact br_t (nI_le (b := 2) z (by decide)) h
  · rw [if_pos (by omega)] at h
    refine br_f (nI_ge (a := 2) (by omega) (by omega)) (xw_packedDim (a := 2) (by omega) hd ?_)
    rw [show d2 * 2 ^ (3 + 3 * 2) = 512 * d2 by omega]
    exact h
theorem xm_leaf96 {post : Int32 → SX → Prop} {r d1 d2 p0 q : Nat} (hr : r ≤ 3) (hd1 : d1 < 8) (hd : d2 < 8) (h : wX_leaf_138 post (nI (if 2 < r then 512 * d2 else 0)) (nI (q + p0 + (if 1 < r then 64 * d1 else 0))) f_slotsTaken f_elementsTaken f_slopeCount a_handleTaken a_handleIsView a_windowRank a_windowSlot a_windowStart a_windowDimension a_windowStride a_slotSize a_slotKind a_slotTerms a_slotNeeded a_slotsByAge a_values a_derivatives a_firstPlaces a_secondPlaces a_assigned a_slopes) : wX_leaf_96 post (nI r) (nI d1) (nI d2) (nI p0) (nI q) f_slotsTaken f_elementsTaken f_slopeCount a_handleTaken a_handleIsView a_windowRank a_windowSlot a_windowStart a_windowDimension a_windowStride a_slotSize a_slotKind a_slotTerms a_slotNeeded a_slotsByAge a_values a_derivatives a_firstPlaces a_secondPlaces a_assigned a_slopes := by
  refine nm_r (nI_add _ _) ?_
  by_cases z : r ≤ 1
  · rw [if_neg (show ¬ 1 < r by omega)] at h
    exact br_t (nI_le (b := 1) z (by decide)) (xm_leaf117 (p1 := 0) hr hd h)
  · rw [if_pos (show 1 < r by omega)] at h
    refine br_f (nI_ge (a := 1) (by omega) (by omega)) (xw_packedDim (a := 1) (by omega) hd1 ?_)
    rw [show d1 * 2 ^ (3 + 3 * 1) = 64 * d1 by omega]
    exact xm_leaf117 hr hd h
theorem xm_leaf45_t {post : Int32 → SX → Prop} {r : Nat} {dd : Nat → Nat} (H : ab_sh3 r dd) (h : wX_leaf_138 post (nI (if 2 < r then 512 * dd 2 else 0)) (nI (r + (if 0 < r then 8 * dd 0 else 0) + (if 1 < r then 64 * dd 1 else 0))) f_slotsTaken f_elementsTaken f_slopeCount a_handleTaken a_handleIsView a_windowRank a_windowSlot a_windowStart a_windowDimension a_windowStride a_slotSize a_slotKind a_slotTerms a_slotNeeded a_slotsByAge a_values a_derivatives a_firstPlaces a_secondPlaces a_assigned a_slopes) : wX_leaf_45 post (nI r) (nI (dd 0)) (nI (dd 1)) (nI (dd 2)) f_slotsTaken f_elementsTaken f_slopeCount a_handleTaken a_handleIsView a_windowRank a_windowSlot a_windowStart a_windowDimension a_windowStride a_slotSize a_slotKind a_slotTerms a_slotNeeded a_slotsByAge a_values a_derivatives a_firstPlaces a_secondPlaces a_assigned a_slopes := by
  obtain ⟨hr, h1, hb⟩ := H
  have b0 := hb 0 (by omega)
  have b1 := hb 1 (by omega)
  have b2 := hb 2 (by omega)
  unfold wX_leaf_45
  refine xw_isDim_t b0.1 b0.2 (br_f ab_10 (xw_isDim_t b1.1 b1.2 (br_f ab_10 (xw_isDim_t b2.1 b2.2 (br_f ab_10 ?_)))))
  by_cases z : r ≤ 0
  · rw [if_neg (show ¬ 0 < r by omega)] at h
    exact br_t (nI_le (b := 0) z (by decide)) (xm_leaf96 (p0 := 0) hr (by omega) (by omega) h)
  · rw [if_pos (show 0 < r by omega)] at h
    refine br_f (nI_ge (a := 0) (by omega) (by omega)) (xw_packedDim (a := 0) (by omega) (by omega) ?_)
    rw [show dd 0 * 2 ^ (3 + 3 * 0) = 8 * dd 0 by omega]
    exact xm_leaf96 hr (by omega) (by omega) h
theorem xm_leaf45_f {post : Int32 → SX → Prop} {x1 x y z : Int32} (hno : ¬ ab_isD x ∨ ¬ ab_isD y ∨ ¬ ab_isD z) (h : post (-1) (f_slotsTaken, f_elementsTaken, f_slopeCount, a_handleTaken, a_handleIsView, a_windowRank, a_windowSlot, a_windowStart, a_windowDimension, a_windowStride, a_slotSize, a_slotKind, a_slotTerms, a_slotNeeded, a_slotsByAge, a_values, a_derivatives, a_firstPlaces, a_secondPlaces, a_assigned, a_slopes)) : wX_leaf_45 post x1 x y z f_slotsTaken f_elementsTaken f_slopeCount a_handleTaken a_handleIsView a_windowRank a_windowSlot a_windowStart a_windowDimension a_windowStride a_slotSize a_slotKind a_slotTerms a_slotNeeded a_slotsByAge a_values a_derivatives a_firstPlaces a_secondPlaces a_assigned a_slopes := by
  unfold wX_leaf_45
  by_cases hx : ab_isD x
  · obtain ⟨a, a1, a2, rfl⟩ := hx
    refine xw_isDim_t a1 a2 (br_f ab_10 ?_)
    by_cases hy : ab_isD y
    · obtain ⟨b, b1, b2, rfl⟩ := hy
      refine xw_isDim_t b1 b2 (br_f ab_10 ?_)
      rcases hno with q | q | q
      · exact absurd ⟨a, a1, a2, rfl⟩ q
      · exact absurd ⟨b, b1, b2, rfl⟩ q
      · exact xw_isDim_f q (br_t rfl h)
    · exact xw_isDim_f hy (br_t rfl h)
  · exact xw_isDim_f hx (br_t rfl h)
def lf_a (r i : Nat) (x : Int32) : Int32 := if i < r then x else 1
theorem xm_leaf {post : Int32 → SX → Prop} {r : Nat} {x y z : Int32} (hr : r ≤ 3) (h : wX_leaf_45 post (nI r) (lf_a r 0 x) (lf_a r 1 y) (lf_a r 2 z) f_slotsTaken f_elementsTaken f_slopeCount a_handleTaken a_handleIsView a_windowRank a_windowSlot a_windowStart a_windowDimension a_windowStride a_slotSize a_slotKind a_slotTerms a_slotNeeded a_slotsByAge a_values a_derivatives a_firstPlaces a_secondPlaces a_assigned a_slopes) : wpX_leaf post (f_slotsTaken, f_elementsTaken, f_slopeCount, a_handleTaken, a_handleIsView, a_windowRank, a_windowSlot, a_windowStart, a_windowDimension, a_windowStride, a_slotSize, a_slotKind, a_slotTerms, a_slotNeeded, a_slotsByAge, a_values, a_derivatives, a_firstPlaces, a_secondPlaces, a_assigned, a_slopes) (nI r) x y z := by
  unfold lf_a at h
  refine br_f (nI_pos (by omega)) (br_t (nI_le (b := 3) hr (by decide)) ?_)
  rcases (show r = 0 ∨ r = 1 ∨ r = 2 ∨ r = 3 by omega) with rfl | rfl | rfl | rfl
  · exact br_t (by decide) (br_t (by decide) (br_t (by decide) h))
  · exact br_f (by decide) (br_t (by decide) (br_t (by decide) h))
  · exact br_f (by decide) (br_f (by decide) (br_t (by decide) h))
  · exact br_f (by decide) (br_f (by decide) (br_f (by decide) h))
theorem xm_leaf_f {post : Int32 → SX → Prop} {x1 x y z : Int32} (hr : ¬ ∃ r, r ≤ 3 ∧ x1 = nI r) (h : post (-1) (f_slotsTaken, f_elementsTaken, f_slopeCount, a_handleTaken, a_handleIsView, a_windowRank, a_windowSlot, a_windowStart, a_windowDimension, a_windowStride, a_slotSize, a_slotKind, a_slotTerms, a_slotNeeded, a_slotsByAge, a_values, a_derivatives, a_firstPlaces, a_secondPlaces, a_assigned, a_slopes)) : wpX_leaf post (f_slotsTaken, f_elementsTaken, f_slopeCount, a_handleTaken, a_handleIsView, a_windowRank, a_windowSlot, a_windowStart, a_windowDimension, a_windowStride, a_slotSize, a_slotKind, a_slotTerms, a_slotNeeded, a_slotsByAge, a_values, a_derivatives, a_firstPlaces, a_secondPlaces, a_assigned, a_slopes) x1 x y z := by
  refine br_c (fun _ => h) (fun h0 => br_c (fun h1 => ?_) (fun _ => h))
  obtain ⟨j, hj, rfl⟩ := nI_of h0
  exact absurd ⟨j, (nI_leI (b := 3) hj (by decide)).mp h1, rfl⟩ hr
end
section
variable {c_cells c_slopeCount : Int32} {b_used b_rank b_dims b_shown b_tensorOf b_view b_exists b_kind b_first b_second b_owner b_parts b_partCount b_value b_slopeOf b_order b_slopes : Nat → Int32}
theorem ym_leaf_f {post : Int32 → SY → Prop} {x1 x y z : Int32} (hr : ¬ ∃ r, r ≤ 3 ∧ x1 = nI r) (h : post (-1) (c_cells, c_slopeCount, b_used, b_rank, b_dims, b_shown, b_tensorOf, b_view, b_exists, b_kind, b_first, b_second, b_owner, b_parts, b_partCount, b_value, b_slopeOf, b_order, b_slopes)) : wpY_leaf post (c_cells, c_slopeCount, b_used, b_rank, b_dims, b_shown, b_tensorOf, b_view, b_exists, b_kind, b_first, b_second, b_owner, b_parts, b_partCount, b_value, b_slopeOf, b_order, b_slopes) x1 x y z := by
  refine br_c (fun _ => h) (fun h0 => br_c (fun _ => h) (fun h1 => ?_))
  obtain ⟨j, hj, rfl⟩ := nI_of h0
  refine absurd ⟨j, ?_, rfl⟩ hr
  apply Nat.le_of_not_lt; intro q; exact h1 (nI_lt (a := 3) q hj)
theorem ym_isD {x : Int32} (h1 : ¬ x < 1) (h4 : x ≤ 4) : ab_isD x := by
  have h2 : ¬ x < 0 := by
    rw [Int32.lt_iff_toInt_lt] at h1 ⊢
    rw [show (1 : Int32).toInt = 1 from by decide] at h1
    rw [show (0 : Int32).toInt = 0 from by decide]
    omega
  obtain ⟨j, hj, rfl⟩ := nI_of h2
  refine ⟨j, ?_, (nI_leI (b := 4) hj (by decide)).mp h4, rfl⟩
  apply Nat.lt_of_not_le; intro hc; exact h1 (nI_lt (b := 1) (by omega) (by decide))
theorem ym_leaf_d {post : Int32 → SY → Prop} {r : Nat} {x y z : Int32} (hr : r ≤ 3) (hno : (0 < r ∧ ¬ ab_isD x) ∨ (1 < r ∧ ¬ ab_isD y) ∨ (2 < r ∧ ¬ ab_isD z)) (h : post (-1) (c_cells, c_slopeCount, b_used, b_rank, b_dims, b_shown, b_tensorOf, b_view, b_exists, b_kind, b_first, b_second, b_owner, b_parts, b_partCount, b_value, b_slopeOf, b_order, b_slopes)) : wpY_leaf post (c_cells, c_slopeCount, b_used, b_rank, b_dims, b_shown, b_tensorOf, b_view, b_exists, b_kind, b_first, b_second, b_owner, b_parts, b_partCount, b_value, b_slopeOf, b_order, b_slopes) (nI r) x y z := by
  have N : ∀ t : Int32, ¬ t < 1 → ¬ 4 < t → ab_isD t := fun t a b => ym_isD a (Int32.not_lt.mp b)
  refine br_f (nI_pos (by omega)) (br_f (nI_nlt (a := 3) hr (by decide)) ?_)
  rcases (show r = 0 ∨ r = 1 ∨ r = 2 ∨ r = 3 by omega) with rfl | rfl | rfl | rfl
  · omega
  · refine br_f (by decide) (br_c (fun _ => h) (fun a => br_c (fun _ => h) (fun b => ?_)))
    rcases hno with q | q | q
    · exact absurd (N _ a b) q.2
    · omega
    · omega
  · refine br_f (by decide) (br_c (fun _ => h) (fun a => br_c (fun _ => h) (fun b => br_f (by decide) (br_c (fun _ => h) (fun c => br_c (fun _ => h) (fun e => ?_))))))
    rcases hno with q | q | q
    · exact absurd (N _ a b) q.2
    · exact absurd (N _ c e) q.2
    · omega
  · refine br_f (by decide) (br_c (fun _ => h) (fun a => br_c (fun _ => h) (fun b => br_f (by decide) (br_c (fun _ => h) (fun c => br_c (fun _ => h) (fun e => br_f (by decide) (br_c (fun _ => h) (fun f => br_c (fun g => ?_) (fun _ => h)))))))))
    rcases hno with q | q | q
    · exact absurd (N _ a b) q.2
    · exact absurd (N _ c e) q.2
    · exact absurd (ym_isD f g) q.2
theorem ym_leaf {post : Int32 → SY → Prop} {r : Nat} {x y z : Int32} {dd : Nat → Nat} (H : ab_sh3 r dd) (hx : 0 < r → x = nI (dd 0)) (hy : 1 < r → y = nI (dd 1)) (hz : 2 < r → z = nI (dd 2)) (h : ∀ z2 z1 z0 : Int32, (0 < r → z2 = nI (dd 0)) → (1 < r → z1 = nI (dd 1)) → (2 < r → z0 = nI (dd 2)) → wY_leaf_89 post z0 z1 z2 (nI r) c_cells c_slopeCount b_used b_rank b_dims b_shown b_tensorOf b_view b_exists b_kind b_first b_second b_owner b_parts b_partCount b_value b_slopeOf b_order b_slopes) : wpY_leaf post (c_cells, c_slopeCount, b_used, b_rank, b_dims, b_shown, b_tensorOf, b_view, b_exists, b_kind, b_first, b_second, b_owner, b_parts, b_partCount, b_value, b_slopeOf, b_order, b_slopes) (nI r) x y z := by
  obtain ⟨hr, h1, hb⟩ := H
  have b0 := hb 0 (by omega)
  have b1 := hb 1 (by omega)
  have b2 := hb 2 (by omega)
  refine br_f (nI_pos (by omega)) (br_f (nI_nlt (a := 3) hr (by decide)) ?_)
  rcases (show r = 0 ∨ r = 1 ∨ r = 2 ∨ r = 3 by omega) with rfl | rfl | rfl | rfl
  · exact br_t (by decide) (br_t (by decide) (br_t (by decide) (br_t (by decide) (br_t (by decide) (br_t (by decide) (h 0 0 0 (fun q => absurd q (by omega)) (fun q => absurd q (by omega)) (fun q => absurd q (by omega))))))))
  · rw [hx (by omega)]
    refine br_f (by decide) (br_f (nI_nlt (b := 1) b0.1 (by omega)) (br_f (nI_nlt (a := 4) b0.2 (by decide)) (br_t (by decide) (br_t (by decide) (br_f (by decide) (br_t (by decide) (br_t (by decide) (h _ 0 0 (fun _ => rfl) (fun q => absurd q (by omega)) (fun q => absurd q (by omega))))))))))
  · rw [hx (by omega), hy (by omega)]
    refine br_f (by decide) (br_f (nI_nlt (b := 1) b0.1 (by omega)) (br_f (nI_nlt (a := 4) b0.2 (by decide)) (br_f (by decide) (br_f (nI_nlt (b := 1) b1.1 (by omega)) (br_f (nI_nlt (a := 4) b1.2 (by decide)) (br_t (by decide) (br_f (by decide) (br_f (by decide) (br_t (by decide) (h _ _ 0 (fun _ => rfl) (fun _ => rfl) (fun q => absurd q (by omega))))))))))))
  · rw [hx (by omega), hy (by omega), hz (by omega)]
    refine br_f (by decide) (br_f (nI_nlt (b := 1) b0.1 (by omega)) (br_f (nI_nlt (a := 4) b0.2 (by decide)) (br_f (by decide) (br_f (nI_nlt (b := 1) b1.1 (by omega)) (br_f (nI_nlt (a := 4) b1.2 (by decide)) (br_f (by decide) (br_f (nI_nlt (b := 1) b2.1 (by omega)) (br_t (nI_le (b := 4) b2.2 (by decide)) (br_f (by decide) (br_f (by decide) (br_f (by decide) (h _ _ _ (fun _ => rfl) (fun _ => rfl) (fun _ => rfl)))))))))))))
end
end
section
theorem ab_back {d0 d1 d2 e : Nat} (h0 : 1 ≤ d0) (h1 : 1 ≤ d1) (h2 : 1 ≤ d2) (he : e < d0 * d1 * d2) : (e / (d1 * d2) % d0 * d1 + e / d2 % d1) * d2 + e % d2 = e := by
  have a1 : e / (d1 * d2) < d0 := by
    rw [Nat.div_lt_iff_lt_mul (Nat.mul_pos h1 h2), ← Nat.mul_assoc]; exact he
  rw [Nat.mod_eq_of_lt a1, Nat.mul_comm d1 d2, ← Nat.div_div_eq_div_mul, Nat.div_add_mod', Nat.div_add_mod']
def mk_g (s : Nat) (dd : Nat → Nat) (x y z : Nat) : Nat := 64 * s + ((x * dd 1 + y) * dd 2 + z)
theorem mk_eq {s r n x y z : Nat} {dd : Nat → Nat} (H : ab_sh3 r dd) (hn : dd 0 * dd 1 * dd 2 = n) (hx : x < dd 0) (hy : y < dd 1) (hz : z < dd 2) : nI (64 * s) + nI x * nI (ab_st r dd 0) + nI y * nI (ab_st r dd 1) + nI z * nI (ab_st r dd 2) = nI (mk_g s dd x y z) ∧ mk_g s dd x y z / 64 = s ∧ mk_g s dd x y z % 64 < n := by
  obtain ⟨hr, h1, hb⟩ := H
  have hl := ab_lin hx hy hz
  have hs := ab_sz (hb 0 (by omega)).2 (hb 1 (by omega)).2 (hb 2 (by omega)).2
  unfold mk_g
  refine ⟨?_, by omega, by omega⟩
  rw [pk_mul, pk_mul, pk_mul, nI_add, nI_add, nI_add]
  refine congrArg nI ?_
  have o0 := h1 0
  have o1 := h1 1
  have o2 := h1 2
  rcases (show r = 0 ∨ r = 1 ∨ r = 2 ∨ r = 3 by omega) with rfl | rfl | rfl | rfl
  · simp [ab_st] at *
    rw [o1, o2]; omega
  · simp [ab_st] at *
    rw [o1, o2]; omega
  · simp [ab_st] at *
    rw [o2, Nat.mul_one, Nat.mul_one]; omega
  · simp only [ab_st]
    simp
    rw [Nat.add_mul, Nat.mul_assoc]; omega
theorem mk_p {s n e : Nat} {dd : Nat → Nat} (hb : ∀ a, a < 3 → 1 ≤ dd a ∧ dd a ≤ 4) (hn : dd 0 * dd 1 * dd 2 = n) (he : e < n) : ab_pf (dd 0) (dd 1) (dd 2) (mk_g s dd) e = 64 * s + e := by
  unfold ab_pf mk_g
  rw [ab_back (hb 0 (by omega)).1 (hb 1 (by omega)).1 (hb 2 (by omega)).1 (by omega)]
theorem lf_row {b_rank b_dims : Nat → Int32} {r : Nat} {dd : Nat → Nat} {z0 z1 z2 : Int32} (H : ab_sh3 r dd) (h0 : 0 < r → z2 = nI (dd 0)) (h1 : 1 < r → z1 = nI (dd 1)) (h2 : 2 < r → z0 = nI (dd 2)) : yb_row (upd b_rank 24 (nI r)) (ab_up3 b_dims 72 (yb_bt z2) (yb_bt z1) (yb_bt z0)) 24 r dd := by
  refine ⟨pk_us, H.1, fun i hi => ?_, H.2.1, H.2.2⟩
  have b0 := H.2.2 0 (by omega)
  have b1 := H.2.2 1 (by omega)
  have b2 := H.2.2 2 (by omega)
  have := H.1
  rcases (show i = 0 ∨ i = 1 ∨ i = 2 by omega) with rfl | rfl | rfl
  · refine ab_e0.trans ?_
    rw [h0 hi]; exact yb_btn (by omega)
  · refine ab_e1.trans ?_
    rw [h1 hi]; exact yb_btn (by omega)
  · refine ab_e2.trans ?_
    rw [h2 hi]; exact yb_btn (by omega)
section
variable {c_cells c_slopeCount : Int32} {b_used b_rank b_dims b_shown b_tensorOf b_view b_exists b_kind b_first b_second b_owner b_parts b_partCount b_value b_slopeOf b_order b_slopes : Nat → Int32}
theorem ym_leaf89_n {post : Int32 → SY → Prop} {r c : Nat} {dd : Nat → Nat} {z0 z1 z2 : Int32} (H : ab_sh3 r dd) (h0 : 0 < r → z2 = nI (dd 0)) (h1 : 1 < r → z1 = nI (dd 1)) (h2 : 2 < r → z0 = nI (dd 2)) (hc : c_cells = nI c) (hc2 : c ≤ 320) (hno : (∀ t, t < 32 → ¬ b_exists t = 0) ∨ 320 < c + dd 0 * dd 1 * dd 2 ∨ (∀ j, j < 24 → ¬ b_used j = 0)) (h : ∀ R D : Nat → Int32, (∀ h, h < 24 → R h = b_rank h) → (∀ j, j < 72 → D j = b_dims j) → post (-1) (c_cells, c_slopeCount, b_used, R, D, b_shown, b_tensorOf, b_view, b_exists, b_kind, b_first, b_second, b_owner, b_parts, b_partCount, b_value, b_slopeOf, b_order, b_slopes)) : wY_leaf_89 post z0 z1 z2 (nI r) c_cells c_slopeCount b_used b_rank b_dims b_shown b_tensorOf b_view b_exists b_kind b_first b_second b_owner b_parts b_partCount b_value b_slopeOf b_order b_slopes := by
  have := H.1
  unfold wY_leaf_89
  refine yb_shapeNew (by omega) ?_
  refine yb_tensor_n (lf_row H h0 h1 h2) hc hc2 hno (br_f (by decide) (h _ _ ?_ ?_))
  · intro i hi; rw [pk_un (by omega)]
  · intro j hj; rw [ab_en (by omega)]
theorem ym_leaf89_s {post : Int32 → SY → Prop} {r c s v n : Nat} {dd : Nat → Nat} {z0 z1 z2 : Int32} {L : List Nat} (H : ab_sh3 r dd) (h0 : 0 < r → z2 = nI (dd 0)) (h1 : 1 < r → z1 = nI (dd 1)) (h2 : 2 < r → z0 = nI (dd 2)) (hn : dd 0 * dd 1 * dd 2 = n) (hc : c_cells = nI c) (hce : c + n ≤ 320) (hs : s < 32) (hs0 : b_exists s = 0) (hsl : ∀ j, j < s → ¬ b_exists j = 0) (hv : v < 24) (hv0 : b_used v = 0) (hvl : ∀ j, j < v → ¬ b_used j = 0) (hL : ∀ j, j < 320 → ¬ b_owner j < 0 → j ∈ L) (hLc : L.length = c) (h : ∀ (f : Nat → Nat) (O P V Ro S R D S' : Nat → Int32), yb_al b_owner b_partCount b_value b_order b_shown s c n f O P V Ro S → R v = nI r → (∀ h, h < 24 → h ≠ v → R h = b_rank h) → (∀ a, a < r → D (3 * v + a) = nI (dd a)) → (∀ j, j < 72 → (j < 3 * v ∨ 3 * v + 3 ≤ j) → D j = b_dims j) → (∀ i, i < n → S' (64 * v + i) = nI (f i)) → (∀ j, j < 1536 → (j < 64 * v ∨ 64 * v + 64 ≤ j) → S' j = b_shown j) → post (nI v) (nI (c + n), c_slopeCount, upd b_used v 1, R, D, S', upd b_tensorOf v (nI s), upd b_view v 0, upd b_exists s 1, upd b_kind s (nI 0), upd b_first s (yb_bt (-1)), upd b_second s (yb_bt (-1)), O, b_parts, P, V, b_slopeOf, Ro, b_slopes)) : wY_leaf_89 post z0 z1 z2 (nI r) c_cells c_slopeCount b_used b_rank b_dims b_shown b_tensorOf b_view b_exists b_kind b_first b_second b_owner b_parts b_partCount b_value b_slopeOf b_order b_slopes := by
  have hr := H.1
  have hn64 := ab_sz (H.2.2 0 (by omega)).2 (H.2.2 1 (by omega)).2 (H.2.2 2 (by omega)).2
  unfold wY_leaf_89
  refine yb_shapeNew (by omega) ?_
  refine yb_tensor_s (kw := 0) (lf_row H h0 h1 h2) hc (by omega) hs hs0 hsl hv hv0 hvl (by omega) hL hLc (fun f O P V Ro S A => br_t (nI_pos' (by omega)) ?_)
  rw [hn] at A
  refine yv_hand (e := dd) (c := f) (N := n) hv hv0 hvl hs pk_us hr (by omega) (fun a ha => (lf_row (b_rank := b_rank) (b_dims := b_dims) H h0 h1 h2).2.2.1 a ha) (fun a ha => (H.2.2 a ha).2) (fun i hi => (A.2.2.2.2.1 i hi).2) (fun i hi => (A.1 i hi).1) (fun D S' d1 d2 s1 s2 => ?_)
  rw [hn, ab_b0]
  refine h f O P V Ro S _ D S' A pk_us ?_ d1 ?_ s1 ?_
  · intro i hi hi2; rw [pk_un hi2, pk_un (by omega)]
  · intro j hj hj2; rw [d2 j hj2, ab_en (by omega)]
  · intro j hj hj2; rw [s2 j hj2]; exact A.2.2.2.2.2.2 j hj
end
theorem i_vc_leaf {k : Nat} {u : SX} {v : SY} (I : i_Rel k u v) (hk : k + 5 ≤ 2560) (v1 : Int32) (v2 : Int32) (v3 : Int32) (v4 : Int32) : wpX_leaf (fun r u' => wpY_leaf (fun r' v' => r' = r ∧ i_Rel (k + 5) u' v') v v1 v2 v3 v4) u v1 v2 v3 v4 := by
  obtain ⟨f_slotsTaken, f_elementsTaken, f_slopeCount, a_handleTaken, a_handleIsView, a_windowRank, a_windowSlot, a_windowStart, a_windowDimension, a_windowStride, a_slotSize, a_slotKind, a_slotTerms, a_slotNeeded, a_slotsByAge, a_values, a_derivatives, a_firstPlaces, a_secondPlaces, a_assigned, a_slopes⟩ := u
  obtain ⟨c_cells, c_slopeCount, b_used, b_rank, b_dims, b_shown, b_tensorOf, b_view, b_exists, b_kind, b_first, b_second, b_owner, b_parts, b_partCount, b_value, b_slopeOf, b_order, b_slopes⟩ := v
  have I' := I
  obtain ⟨rk, sl, d, G, ages, sz, kd, tm, yk, cl, hX, hY, hS⟩ := I'
  have hu := hY.1.1
  by_cases hr : ∃ r, r ≤ 3 ∧ v1 = nI r
  · obtain ⟨r, hr3, rfl⟩ := hr
    by_cases hno : (0 < r ∧ ¬ ab_isD v2) ∨ (1 < r ∧ ¬ ab_isD v3) ∨ (2 < r ∧ ¬ ab_isD v4)
    · refine xm_leaf hr3 (xm_leaf45_f ?_ (ym_leaf_d hr3 hno ⟨rfl, I⟩))
      unfold lf_a
      rcases hno with q | q | q
      · rw [if_pos q.1]; exact Or.inl q.2
      · rw [if_pos q.1]; exact Or.inr (Or.inl q.2)
      · rw [if_pos q.1]; exact Or.inr (Or.inr q.2)
    · have D0 : ∃ a0, (1 ≤ a0 ∧ a0 ≤ 4) ∧ lf_a r 0 v2 = nI a0 ∧ (r ≤ 0 → a0 = 1) := by
        unfold lf_a
        by_cases z : 0 < r
        · have : ab_isD v2 := Classical.byContradiction (fun q => hno (Or.inl ⟨z, q⟩))
          obtain ⟨a, q1, q2, q3⟩ := this
          exact ⟨a, ⟨q1, q2⟩, by rw [if_pos z]; exact q3, fun q => by omega⟩
        · exact ⟨1, by omega, by rw [if_neg z]; rfl, fun _ => rfl⟩
      have D1 : ∃ a0, (1 ≤ a0 ∧ a0 ≤ 4) ∧ lf_a r 1 v3 = nI a0 ∧ (r ≤ 1 → a0 = 1) := by
        unfold lf_a
        by_cases z : 1 < r
        · have : ab_isD v3 := Classical.byContradiction (fun q => hno (Or.inr (Or.inl ⟨z, q⟩)))
          obtain ⟨a, q1, q2, q3⟩ := this
          exact ⟨a, ⟨q1, q2⟩, by rw [if_pos z]; exact q3, fun q => by omega⟩
        · exact ⟨1, by omega, by rw [if_neg z]; rfl, fun _ => rfl⟩
      have D2 : ∃ a0, (1 ≤ a0 ∧ a0 ≤ 4) ∧ lf_a r 2 v4 = nI a0 ∧ (r ≤ 2 → a0 = 1) := by
        unfold lf_a
        by_cases z : 2 < r
        · have : ab_isD v4 := Classical.byContradiction (fun q => hno (Or.inr (Or.inr ⟨z, q⟩)))
          obtain ⟨a, q1, q2, q3⟩ := this
          exact ⟨a, ⟨q1, q2⟩, by rw [if_pos z]; exact q3, fun q => by omega⟩
        · exact ⟨1, by omega, by rw [if_neg z]; rfl, fun _ => rfl⟩
      obtain ⟨a0, p0, q0, o0⟩ := D0
      obtain ⟨a1, p1, q1, o1⟩ := D1
      obtain ⟨a2, p2, q2, o2⟩ := D2
      have H : ab_sh3 r (fun i => if i = 0 then a0 else if i = 1 then a1 else a2) := by
        refine ⟨hr3, fun i j1 j2 => ?_, fun i hi => ?_⟩
        · rcases (show i = 0 ∨ i = 1 ∨ i = 2 by omega) with rfl | rfl | rfl
          · exact o0 j1
          · exact o1 j1
          · exact o2 j1
        · rcases (show i = 0 ∨ i = 1 ∨ i = 2 by omega) with rfl | rfl | rfl
          · exact p0
          · exact p1
          · exact p2
      have x0 : 0 < r → v2 = nI a0 := fun z => by unfold lf_a at q0; rw [if_pos z] at q0; exact q0
      have x1 : 1 < r → v3 = nI a1 := fun z => by unfold lf_a at q1; rw [if_pos z] at q1; exact q1
      have x2 : 2 < r → v4 = nI a2 := fun z => by unfold lf_a at q2; rw [if_pos z] at q2; exact q2
      refine xm_leaf hr3 ?_
      rw [q0, q1, q2]
      generalize hdd : (fun i : Nat => if i = 0 then a0 else if i = 1 then a1 else a2) = dd at H
      have e0 : dd 0 = a0 := by rw [← hdd]; rfl
      have e1 : dd 1 = a1 := by rw [← hdd]; rfl
      have e2 : dd 2 = a2 := by rw [← hdd]; rfl
      rw [← e0] at x0 ⊢
      rw [← e1] at x1 ⊢
      rw [← e2] at x2 ⊢
      have hn64 := ab_sz (H.2.2 0 (by omega)).2 (H.2.2 1 (by omega)).2 (H.2.2 2 (by omega)).2
      have hn1 := ab_sz1 (H.2.2 0 (by omega)).1 (H.2.2 1 (by omega)).1 (H.2.2 2 (by omega)).1
      refine xm_leaf45_t H (nm_r (e' := nI (ab_pk r dd)) (nI_add _ _) ?_)
      have hfree : ∀ t, t < 32 → (b_exists t = 0 ↔ a_slotSize t = 0) := fun t ht => (hY.2.2.2.1 t ht).trans (rl_sz0 hX ht).symm
      by_cases hres : (∀ t, t < 32 → ¬ a_slotSize t = 0) ∨ 320 < (ab_fl sz ages).length + dd 0 * dd 1 * dd 2 ∨ (∀ j, j < 24 → ¬ a_handleTaken j = 0)
      · refine xw_makeTensor_n H hX.2.1.1 hX.2.1.2 hres (br_t (by decide) ?_)
        refine ym_leaf H x0 x1 x2 (fun z2 z1 z0 c0 c1 c2 => ym_leaf89_n H c0 c1 c2 hY.2.1.1 hX.2.1.2 ?_ (fun R D r1 d1 => ⟨rfl, ?_⟩))
        · rw [hu]
          rcases hres with q | q | q
          · exact Or.inl (fun t ht z => q t ht ((hfree t ht).mp z))
          · exact Or.inr (Or.inl q)
          · exact Or.inr (Or.inr q)
        · exact rl_mk (k + 5) rk sl d G ages sz kd tm yk cl hX (rl_scr r1 d1 (fun _ _ => rfl) (rl_hk hX).1 (rl_hk hX).2 hY) hS
      · rcases ab_lst a_slotSize 32 with ⟨s, hs, hs0, hsl⟩ | sn
        · rcases ab_lst a_handleTaken 24 with ⟨v, hv, hv0, hvl⟩ | vn
          · have hce : (ab_fl sz ages).length + dd 0 * dd 1 * dd 2 ≤ 320 := Nat.le_of_not_lt (fun z => hres (Or.inr (Or.inl z)))
            have hsn : s ∉ ages := (rl_sz0 hX hs).mp hs0
            have hm := rl_m32 hX.2.2.1.1 hX.2.2.1.2.1 hs hsn
            refine xw_makeTensor_s H hX.2.1.1 hce hX.1.1 hm hs hs0 hsl hv hv0 hvl (br_f (nI_pos (by omega)) ⟨vp_in_nI (by omega) (by decide), ?_⟩)
            rw [nI_clamp (show v < 2 ^ 31 by omega), pk_us]
            refine xw_clearSlot hs (fun V v1 v2 => ?_)
            refine ym_leaf H x0 x1 x2 (fun z2 z1 z0 c0 c1 c2 => ym_leaf89_s (v := v) (L := (ab_fl sz ages).map cl) H c0 c1 c2 rfl hY.2.1.1 hce hs ((hfree s hs).mpr hs0) (fun j hj z => hsl j hj ((hfree j (by omega)).mp z)) hv (by rw [hu]; exact hv0) (by rw [hu]; exact hvl) (rl_Lst hY.2.2.1) (by rw [List.length_map]) (fun f O P V' Ro S R D S' A r1 r2 d1 d2 s1 s2 => ⟨rfl, ?_⟩))
            have F : ∀ w, w ≠ v → w ≠ 24 + 2 * s → w ≠ 25 + 2 * s → ab_fu sl v s w = sl w ∧ ab_fu d v dd w = d w ∧ ab_fu G v (mk_g s dd) w = G w := fun w z _ _ => ⟨ab_fun z, ab_fun z, ab_fun z⟩
            refine rl_mk (k + 5) (ab_fu rk v r) (ab_fu sl v s) (ab_fu d v dd) (ab_fu G v (mk_g s dd)) (ages ++ [s]) (ab_fu sz s (dd 0 * dd 1 * dd 2)) (ab_fu kd s 4) (ab_fu tm s 1) (ab_fu yk s 0) (rl_cl cl f s) ?_ ?_ hS
            · refine rl_makeX hs hsn hv hn1 hn64 hce (fun w z a b => ⟨ab_fun z, ab_fun z, ab_fun z, pk_un z, pk_un z, fun i hi => ⟨ab_en (by omega), ab_en (by omega)⟩⟩) (by rw [pk_us, ab_fus]) (fun h hh z => ⟨pk_un z, ab_fun z⟩) (by rw [ab_fus, ab_fus]; exact H) (rl_winS rfl (by simp) H.2.2 ?_) ab_fus pk_us ?_ (by omega) (fun z => absurd rfl z) hX
              · intro x y z hx hy hz
                rw [ab_fus]; exact mk_eq H rfl hx hy hz
              · intro e he
                rw [rl_nS] at he
                rw [rl_pS]; exact mk_p H.2.2 rfl he
            · obtain ⟨A1, A2, A3, A4, A5, A6, A7⟩ := A
              refine rl_makeY hs hsn hv hn64 rl_nS F (fun h hh z => ab_fun z) ab_fus ?_ (by rw [ab_fus]; exact r1) r2 (by rw [ab_fus, ab_fus]; exact d1) d2 s1 s2 A1 A2 (fun i hi => ⟨(A3 i hi).1, (A3 i hi).2.2⟩) (fun c hc => ⟨(A4 c hc).1, (A4 c hc).2.2⟩) (fun i hi => (A5 i hi).1) A6 (fun c hc => ⟨(A4 c hc).2.1, fun _ _ => rfl⟩) (Or.inl ⟨rfl, rfl⟩) (fun _ => ⟨by unfold yb_bt; rw [ab_vbm2]; decide, by unfold yb_bt; rw [ab_vbm2]; decide⟩) (fun z => absurd rfl z) (fun _ i hi => v1 i (by omega)) (fun p hp => v2 p ?_) hX hY
              · intro e he
                rw [rl_pS]; exact mk_p H.2.2 rfl he
              · have h1 : p / 64 ≠ s := fun z => hsn (z ▸ ((rl_mem hX).mp hp).1)
                omega
          · exact absurd (Or.inr (Or.inr vn)) hres
        · exact absurd (Or.inl sn) hres
  · exact xm_leaf_f hr (ym_leaf_f hr ⟨rfl, I⟩)
end
section
def mk_f {α : Type} (f : Nat → α) (v s : Nat) (a b c : α) : Nat → α := ab_fu (ab_fu (ab_fu f v a) (24 + 2 * s) b) (25 + 2 * s) c
def mk_u (f : Nat → Int32) (v s : Nat) (a b c : Int32) : Nat → Int32 := upd (upd (upd f v a) (24 + 2 * s) b) (25 + 2 * s) c
def mk_3 (f : Nat → Int32) (v s : Nat) (a0 a1 a2 b0 b1 b2 c0 c1 c2 : Int32) : Nat → Int32 := ab_up3 (ab_up3 (ab_up3 f (3 * v) a0 a1 a2) (3 * (24 + 2 * s)) b0 b1 b2) (3 * (25 + 2 * s)) c0 c1 c2
theorem mk_fn {α : Type} {f : Nat → α} {v s w : Nat} {a b c : α} (h0 : w ≠ v) (h1 : w ≠ 24 + 2 * s) (h2 : w ≠ 25 + 2 * s) : mk_f f v s a b c w = f w := by unfold mk_f; rw [ab_fun h2, ab_fun h1, ab_fun h0]
theorem mk_f0 {α : Type} {f : Nat → α} {v s : Nat} {a b c : α} (hv : v < 24) : mk_f f v s a b c v = a := by unfold mk_f; rw [ab_fun (by omega), ab_fun (by omega), ab_fus]
theorem mk_f1 {α : Type} {f : Nat → α} {v s : Nat} {a b c : α} : mk_f f v s a b c (24 + 2 * s) = b := by unfold mk_f; rw [ab_fun (by omega), ab_fus]
theorem mk_f2 {α : Type} {f : Nat → α} {v s : Nat} {a b c : α} : mk_f f v s a b c (25 + 2 * s) = c := by unfold mk_f; rw [ab_fus]
theorem mk_un {f : Nat → Int32} {v s w : Nat} {a b c : Int32} (h0 : w ≠ v) (h1 : w ≠ 24 + 2 * s) (h2 : w ≠ 25 + 2 * s) : mk_u f v s a b c w = f w := by unfold mk_u; rw [pk_un h2, pk_un h1, pk_un h0]
theorem mk_u0 {f : Nat → Int32} {v s : Nat} {a b c : Int32} (hv : v < 24) : mk_u f v s a b c v = a := by unfold mk_u; rw [pk_un (by omega), pk_un (by omega), pk_us]
theorem mk_3n {f : Nat → Int32} {v s w i : Nat} {a0 a1 a2 b0 b1 b2 c0 c1 c2 : Int32} (hi : i < 3) (h0 : w ≠ v) (h1 : w ≠ 24 + 2 * s) (h2 : w ≠ 25 + 2 * s) : mk_3 f v s a0 a1 a2 b0 b1 b2 c0 c1 c2 (3 * w + i) = f (3 * w + i) := by unfold mk_3; rw [ab_en (by omega), ab_en (by omega), ab_en (by omega)]
theorem rl_resX {rk sl sz kd tm : Nat → Nat} {d : Nat → Nat → Nat} {G : Nat → Nat → Nat → Nat → Nat} {ages : List Nat} {fs fe : Int32} {T V R S St D E Sz Kd Tm Ag : Nat → Int32} {s v n r kk tt t1 t2 : Nat} {dd e1 e2 : Nat → Nat} {g1 g2 : Nat → Nat → Nat → Nat} {x1 x2 st1 st2 p0 p1 p2 r0 r1 r2 : Int32} (hs : s < 32) (hsn : s ∉ ages) (hv : v < 24) (H : ab_sh3 r dd) (hn : dd 0 * dd 1 * dd 2 = n) (hc : (ab_fl sz ages).length + n ≤ 320) (hkk : kk < 4) (hts : 1 ≤ tt) (htl : tt ≤ 4) (he1 : ∀ a, a < 3 → 1 ≤ e1 a ∧ e1 a ≤ 4) (he2 : ∀ a, a < 3 → 1 ≤ e2 a ∧ e2 a ≤ 4) (hn1 : e1 0 * e1 1 * e1 2 = n * tt) (hn2 : e2 0 * e2 1 * e2 2 = n * tt) (ht1 : t1 ∈ ages) (ht2 : t2 ∈ ages) (q1 : ∀ x y z, x < e1 0 → y < e1 1 → z < e1 2 → st1 + nI x * p0 + nI y * p1 + nI z * p2 = nI (g1 x y z) ∧ g1 x y z / 64 = t1 ∧ g1 x y z % 64 < sz t1) (q2 : ∀ x y z, x < e2 0 → y < e2 1 → z < e2 2 → st2 + nI x * r0 + nI y * r1 + nI z * r2 = nI (g2 x y z) ∧ g2 x y z / 64 = t2 ∧ g2 x y z % 64 < sz t2) (HX : rl_X rk sl d G ages sz kd tm fs fe T V R S St D E Sz Kd Tm Ag) : rl_X (ab_fu rk v r) (mk_f sl v s s t1 t2) (mk_f d v s dd e1 e2) (mk_f G v s (mk_g s dd) g1 g2) (ages ++ [s]) (ab_fu sz s n) (ab_fu kd s kk) (ab_fu tm s tt) (nI (ages.length + 1)) (nI ((ab_fl sz ages).length + n)) (upd T v 1) (upd V v 0) (mk_u R v s (nI r) x1 x2) (mk_u S v s (nI s) (nI t1) (nI t2)) (mk_u St v s (nI (64 * s)) st1 st2) (mk_3 D v s (nI (dd 0)) (nI (dd 1)) (nI (dd 2)) (nI (e1 0)) (nI (e1 1)) (nI (e1 2)) (nI (e2 0)) (nI (e2 1)) (nI (e2 2))) (mk_3 E v s (nI (ab_st r dd 0)) (nI (ab_st r dd 1)) (nI (ab_st r dd 2)) p0 p1 p2 r0 r1 r2) (upd Sz s (nI n)) (upd Kd s (nI kk)) (upd Tm s (nI tt)) (upd Ag ages.length (nI s)) := by
  have hn64 := ab_sz (H.2.2 0 (by omega)).2 (H.2.2 1 (by omega)).2 (H.2.2 2 (by omega)).2
  have hnn1 := ab_sz1 (H.2.2 0 (by omega)).1 (H.2.2 1 (by omega)).1 (H.2.2 2 (by omega)).1
  refine rl_makeX hs hsn hv (by omega) (by omega) hc (fun w a b c => ⟨mk_fn a b c, mk_fn a b c, mk_fn a b c, mk_un a b c, mk_un a b c, fun i hi => ⟨mk_3n hi a b c, mk_3n hi a b c⟩⟩) ?_ ?_ ?_ ?_ (mk_f0 hv) (mk_u0 hv) ?_ (by omega) (fun _ => ⟨hts, htl, ?_, ?_, ?_, ?_⟩) HX
  · rw [mk_u0 hv, ab_fus]
  · intro h hh z
    exact ⟨mk_un z (by omega) (by omega), ab_fun z⟩
  · rw [ab_fus, mk_f0 hv]; exact H
  · refine rl_winV (by omega) (rl_winV (by omega) (rl_winS rfl (by simp) H.2.2 ?_))
    intro x y z hx hy hz
    rw [ab_fus]; exact mk_eq H hn hx hy hz
  · intro e he
    unfold rl_n at he
    unfold rl_p
    rw [mk_f0 hv] at he ⊢
    rw [mk_f0 hv]
    exact mk_p H.2.2 rfl he
  · unfold rl_n; rw [mk_f1]; exact hn1
  · unfold rl_n; rw [mk_f2]; exact hn2
  · exact rl_winV (by omega) (rl_winS rfl ht1 he1 q1)
  · exact rl_winS rfl ht2 he2 q2
def yp_ok (f : Nat → Nat) (n : Nat) (q : Nat → Nat → Nat) (cnt : Nat → Nat) (P0 C0 P C : Nat → Int32) : Prop := (∀ i, i < n → C (f i) = nI (cnt i) ∧ ∀ j, j < cnt i → P (8 * f i + j) = nI (q i j)) ∧ (∀ c, (∀ i, i < n → c ≠ f i) → C c = C0 c ∧ ∀ j, j < 8 → P (8 * c + j) = P0 (8 * c + j))
theorem yp_cg {f : Nat → Nat} {n : Nat} {q : Nat → Nat → Nat} {cnt cnt' : Nat → Nat} {P0 C0 P C : Nat → Int32} (h : ∀ i, i < n → cnt' i = cnt i) (H : yp_ok f n q cnt P0 C0 P C) : yp_ok f n q cnt' P0 C0 P C := by
  refine ⟨fun i hi => ?_, H.2⟩
  rw [h i hi]; exact H.1 i hi
theorem yp_step {f : Nat → Nat} {n i : Nat} {q : Nat → Nat → Nat} {cnt : Nat → Nat} {P0 C0 P C : Nat → Int32} (hfi : ∀ i j, i < n → j < n → f i = f j → i = j) (hi : i < n) (hc : ∀ j, j < n → cnt j ≤ 8) (h8 : cnt i < 8) (H : yp_ok f n q cnt P0 C0 P C) : yp_ok f n q (ab_fu cnt i (cnt i + 1)) P0 C0 (upd P (8 * f i + cnt i) (nI (q i (cnt i)))) (upd C (f i) (nI (cnt i + 1))) := by
  obtain ⟨h1, h2⟩ := H
  refine ⟨fun j hj => ?_, fun c hcn => ?_⟩
  · by_cases z : j = i
    · subst z
      rw [ab_fus, pk_us]
      refine ⟨rfl, fun t ht => ?_⟩
      by_cases y : t = cnt j
      · rw [y, pk_us]
      · rw [pk_un (by omega)]; exact (h1 j hj).2 t (by omega)
    · have hne : f j ≠ f i := fun e => z (hfi j i hj hi e)
      have := hc j hj
      rw [ab_fun z, pk_un hne]
      refine ⟨(h1 j hj).1, fun t ht => ?_⟩
      rw [pk_un (by omega)]; exact (h1 j hj).2 t ht
  · have hne := hcn i hi
    rw [pk_un hne]
    refine ⟨(h2 c hcn).1, fun t ht => ?_⟩
    rw [pk_un (by omega)]; exact (h2 c hcn).2 t ht
def yp_c (K e m i : Nat) : Nat := if i < e then K else if i = e then m else 0
theorem yp_n {f : Nat → Nat} {n K e : Nat} {q : Nat → Nat → Nat} {P0 C0 P C : Nat → Int32} (H : yp_ok f n q (yp_c K e K) P0 C0 P C) : yp_ok f n q (yp_c K (e + 1) 0) P0 C0 P C := by
  refine yp_cg (fun i hi => ?_) H
  unfold yp_c
  by_cases a : i < e
  · rw [if_pos (by omega), if_pos a]
  · by_cases b : i = e
    · rw [if_pos (by omega), if_neg a, if_pos b]
    · rw [if_neg (by omega), if_neg a, if_neg b]; split <;> rfl
theorem yp_x {f : Nat → Nat} {n K : Nat} {q : Nat → Nat → Nat} {P0 C0 P C : Nat → Int32} (H : yp_ok f n q (yp_c K n 0) P0 C0 P C) : yp_ok f n q (fun _ => K) P0 C0 P C := by
  refine yp_cg (fun i hi => ?_) H
  unfold yp_c; rw [if_pos hi]
theorem yp_0 {O0 P0 V0 R0 S0 O C V R S : Nat → Int32} {s c n K : Nat} {f : Nat → Nat} {q : Nat → Nat → Nat} {P : Nat → Int32} (A : yb_al O0 P0 V0 R0 S0 s c n f O C V R S) : yp_ok f n q (yp_c K 0 0) P C P C := by
  refine ⟨fun i hi => ?_, fun _ _ => ⟨rfl, fun _ _ => rfl⟩⟩
  have e : yp_c K 0 0 i = 0 := by unfold yp_c; rw [if_neg (by omega)]; split <;> rfl
  rw [e]
  exact ⟨(A.2.2.1 i hi).2.1, fun j hj => absurd hj (by omega)⟩
section
variable {c_cells c_slopeCount : Int32} {b_used b_rank b_dims b_shown b_tensorOf b_view b_exists b_kind b_first b_second b_owner b_parts b_partCount b_value b_slopeOf b_order b_slopes : Nat → Int32}
theorem yp_part {post : SY → Prop} {f : Nat → Nat} {n K e m x : Nat} {q : Nat → Nat → Nat} {P0 C0 : Nat → Int32} (hn : n ≤ 64) (hfi : ∀ i j, i < n → j < n → f i = f j → i = j) (hf : ∀ i, i < n → f i < 320) (he : e < n) (hm : m < K) (hK : K ≤ 8) (hS : b_shown (1536 + e) = nI (f e)) (hx : q e m = x) (hx2 : x < 320) (H : yp_ok f n q (yp_c K e m) P0 C0 b_parts b_partCount) (h : ∀ P C : Nat → Int32, yp_ok f n q (yp_c K e (m + 1)) P0 C0 P C → post (c_cells, c_slopeCount, b_used, b_rank, b_dims, b_shown, b_tensorOf, b_view, b_exists, b_kind, b_first, b_second, b_owner, P, C, b_value, b_slopeOf, b_order, b_slopes)) : wpY_part post (c_cells, c_slopeCount, b_used, b_rank, b_dims, b_shown, b_tensorOf, b_view, b_exists, b_kind, b_first, b_second, b_owner, b_parts, b_partCount, b_value, b_slopeOf, b_order, b_slopes) (nI e) (nI x) := by
  have ce : yp_c K e m e = m := by unfold yp_c; rw [if_neg (by omega), if_pos rfl]
  have h1 := (H.1 e he).1
  rw [ce] at h1
  refine yb_part (by omega) hS (hf e he) h1 (by omega) hx2 (h _ _ ?_)
  have := yp_step hfi he (fun j _ => ?_) (by rw [ce]; omega) H
  · rw [ce, hx] at this
    refine yp_cg (fun i hi => ?_) this
    by_cases z : i = e
    · subst z; rw [ab_fus]; unfold yp_c; rw [if_neg (by omega), if_pos rfl]
    · rw [ab_fun z]; unfold yp_c; rw [if_neg z, if_neg z]
  · unfold yp_c; split
    · omega
    · split <;> omega
end
theorem rl_resY {rk sl sz kd tm yk cl f : Nat → Nat} {d : Nat → Nat → Nat} {G : Nat → Nat → Nat → Nat → Nat} {ages : List Nat} {fs fe c_cells f1 f2 pv : Int32} {T V R S St D E Sz Kd Tm Ag vals : Nat → Int32} {b_used b_rank b_dims b_shown b_tensorOf b_view b_exists b_kind b_first b_second b_owner b_parts b_partCount b_value b_order yR yD yS yO yP yC yV yOr C0 S0 : Nat → Int32} {s v n r kk tt t1 t2 yy : Nat} {dd e1 e2 : Nat → Nat} {g1 g2 : Nat → Nat → Nat → Nat} {q : Nat → Nat → Nat} (hs : s < 32) (hsn : s ∉ ages) (hv : v < 24) (H3 : ab_sh3 r dd) (hn : dd 0 * dd 1 * dd 2 = n) (hkk : kk < 4) (htl : tt ≤ 4) (he1 : ∀ a, a < 3 → 1 ≤ e1 a ∧ e1 a ≤ 4) (he2 : ∀ a, a < 3 → 1 ≤ e2 a ∧ e2 a ≤ 4) (ht1 : t1 ∈ ages) (ht2 : t2 ∈ ages) (q1 : ∀ x y z, x < e1 0 → y < e1 1 → z < e1 2 → g1 x y z / 64 = t1) (q2 : ∀ x y z, x < e2 0 → y < e2 1 → z < e2 2 → g2 x y z / 64 = t2) (hR : yR v = nI r) (hR' : ∀ h, h < 24 → h ≠ v → yR h = b_rank h) (hD : ∀ a, a < r → yD (3 * v + a) = nI (dd a)) (hD' : ∀ j, j < 72 → (j < 3 * v ∨ 3 * v + 3 ≤ j) → yD j = b_dims j) (hS : ∀ i, i < n → yS (64 * v + i) = nI (f i)) (hS' : ∀ j, j < 1536 → (j < 64 * v ∨ 64 * v + 64 ≤ j) → yS j = b_shown j) (A : yb_al b_owner b_partCount b_value b_order b_shown s (ab_fl sz ages).length n f yO C0 yV yOr S0) (Y : yp_ok f n q (fun _ => if kk = 3 then tt else 2 * tt) b_parts C0 yP yC) (hq3 : kk = 3 → ∀ i t, i < n → t < tt → q i t = cl (ab_pf (e1 0) (e1 1) (e1 2) g1 (i * tt + t))) (hq2 : kk ≠ 3 → ∀ i t, i < n → t < tt → q i (2 * t) = cl (ab_pf (e1 0) (e1 1) (e1 2) g1 (i * tt + t)) ∧ q i (2 * t + 1) = cl (ab_pf (e2 0) (e2 1) (e2 2) g2 (i * tt + t))) (hkr : rl_kr kk yy tt) (hf1 : f1 = nI t1) (hf3 : kk = 3 → f2 < 0 ∧ t2 = t1) (hf2 : kk ≠ 3 → f2 = nI t2) (HX : rl_X rk sl d G ages sz kd tm fs fe T V R S St D E Sz Kd Tm Ag) (H : rl_Y rk sl d G ages sz kd tm yk cl T V vals c_cells b_used b_rank b_dims b_shown b_tensorOf b_view b_exists b_kind b_first b_second b_owner b_parts b_partCount b_value b_order) : rl_Y (ab_fu rk v r) (mk_f sl v s s t1 t2) (mk_f d v s dd e1 e2) (mk_f G v s (mk_g s dd) g1 g2) (ages ++ [s]) (ab_fu sz s n) (ab_fu kd s kk) (ab_fu tm s tt) (ab_fu yk s yy) (rl_cl cl f s) (upd T v 1) (upd V v pv) vals (nI ((ab_fl sz ages).length + n)) (upd b_used v 1) yR yD yS (upd b_tensorOf v (nI s)) (upd b_view v pv) (upd b_exists s 1) (upd b_kind s (nI yy)) (upd b_first s f1) (upd b_second s f2) yO yP yC yV yOr := by
  have hn64 := ab_sz (H3.2.2 0 (by omega)).2 (H3.2.2 1 (by omega)).2 (H3.2.2 2 (by omega)).2
  obtain ⟨A1, A2, A3, A4, A5, A6, A7⟩ := A
  have z1 : ∀ j, ab_pf (e1 0) (e1 1) (e1 2) g1 j / 64 ≠ s := by
    intro j z
    obtain ⟨i1, i2, i3⟩ := ab_pfi (e := j) (he1 0 (by omega)).1 (he1 1 (by omega)).1 (he1 2 (by omega)).1
    have := q1 _ _ _ i1 i2 i3
    unfold ab_pf at z
    rw [this] at z
    exact hsn (z ▸ ht1)
  have z2 : ∀ j, ab_pf (e2 0) (e2 1) (e2 2) g2 j / 64 ≠ s := by
    intro j z
    obtain ⟨i1, i2, i3⟩ := ab_pfi (e := j) (he2 0 (by omega)).1 (he2 1 (by omega)).1 (he2 2 (by omega)).1
    have := q2 _ _ _ i1 i2 i3
    unfold ab_pf at z
    rw [this] at z
    exact hsn (z ▸ ht2)
  refine rl_makeY hs hsn hv (by omega) ?_ (fun w a b c => ⟨mk_fn a b c, mk_fn a b c, mk_fn a b c⟩) (fun h hh z => ab_fun z) (mk_f0 hv) ?_ (by rw [ab_fus]; exact hR) hR' (by rw [ab_fus, mk_f0 hv]; exact hD) hD' hS hS' A1 A2 (fun i hi => ⟨(A3 i hi).1, (A3 i hi).2.2⟩) (fun c hc => ⟨(A4 c hc).1, (A4 c hc).2.2⟩) (fun i hi => (A5 i hi).1) A6 (fun c hc => ⟨(Y.2 c hc).1.trans (A4 c hc).2.1, (Y.2 c hc).2⟩) hkr (fun z => by omega) (fun _ => ?_) (fun z => by omega) (fun p _ => rfl) HX H
  · unfold rl_n; rw [mk_f0 hv]; exact hn
  · intro e he
    unfold rl_p
    rw [mk_f0 hv, mk_f0 hv]
    exact mk_p H3.2.2 hn he
  · rw [mk_f1, mk_f2]
    refine ⟨hf1, hf3, hf2, fun i hi => ?_⟩
    have ci : rl_cl cl f s (64 * s + i) = f i := rl_cl1 (by omega)
    have p1 : ∀ j, rl_p (mk_f d v s dd e1 e2) (mk_f G v s (mk_g s dd) g1 g2) (24 + 2 * s) j = ab_pf (e1 0) (e1 1) (e1 2) g1 j := fun j => by unfold rl_p; rw [mk_f1, mk_f1]
    have p2 : ∀ j, rl_p (mk_f d v s dd e1 e2) (mk_f G v s (mk_g s dd) g1 g2) (25 + 2 * s) j = ab_pf (e2 0) (e2 1) (e2 2) g2 j := fun j => by unfold rl_p; rw [mk_f2, mk_f2]
    obtain ⟨y1, y2⟩ := Y.1 i hi
    unfold rl_pt
    rw [ci, ab_fus, ab_fus]
    refine ⟨fun k3 => ?_, fun k3 => ?_⟩
    · dsimp only at y1 y2
      rw [if_pos k3] at y1 y2
      refine ⟨y1, fun t ht => ?_⟩
      rw [p1, rl_cl2 (z1 _), y2 t ht, hq3 k3 i t hi ht]
    · dsimp only at y1 y2
      rw [if_neg k3] at y1 y2
      refine ⟨y1, fun t ht => ?_⟩
      obtain ⟨a1, a2⟩ := hq2 k3 i t hi ht
      rw [p1, p2, rl_cl2 (z1 _), rl_cl2 (z2 _), y2 (2 * t) (by omega), y2 (2 * t + 1) (by omega), a1, a2]
      exact ⟨rfl, rfl⟩
end
section
def sp_ok (q : Nat) : Prop := q ≤ 4095 ∧ q % 8 ≤ 3 ∧ ∀ a, a < 3 → (a < q % 8 → 1 ≤ q / 2 ^ (3 + 3 * a) % 8 ∧ q / 2 ^ (3 + 3 * a) % 8 ≤ 4) ∧ (q % 8 ≤ a → q / 2 ^ (3 + 3 * a) % 8 = 0)
def sp_d (q a : Nat) : Nat := if a < q % 8 then q / 2 ^ (3 + 3 * a) % 8 else 1
theorem sp_sh {q : Nat} (h : sp_ok q) : ab_sh3 (q % 8) (sp_d q) := by
  refine ⟨h.2.1, fun a h1 h2 => ?_, fun a ha => ?_⟩
  · unfold sp_d; rw [if_neg (by omega)]
  · unfold sp_d; split
    · rename_i z; exact (h.2.2 a ha).1 z
    · omega
theorem sp_pk {q : Nat} (h : sp_ok q) : ab_pk (q % 8) (sp_d q) = q := by
  obtain ⟨h1, h2, h3⟩ := h
  have a0 := h3 0 (by omega)
  have a1 := h3 1 (by omega)
  have a2 := h3 2 (by omega)
  unfold ab_pk sp_d
  generalize hr : q % 8 = r at *
  rcases (show r = 0 ∨ r = 1 ∨ r = 2 ∨ r = 3 by omega) with rfl | rfl | rfl | rfl <;> simp at * <;> omega
theorem ab_hi {y : Int32} {m : Nat} (hm : m < 2 ^ 31) (h0 : ¬ y < 0) (h1 : y ≤ nI m) : ∃ q, q ≤ m ∧ y = nI q := by
  obtain ⟨j, hj, rfl⟩ := nI_of h0
  exact ⟨j, (nI_leI hj hm).mp h1, rfl⟩
section
variable {f_slotsTaken f_elementsTaken f_slopeCount : Int32} {a_handleTaken a_handleIsView a_windowRank a_windowSlot a_windowStart a_windowDimension a_windowStride a_slotSize a_slotKind a_slotTerms a_slotNeeded a_slotsByAge a_values a_derivatives a_firstPlaces a_secondPlaces a_assigned a_slopes : Nat → Int32}
theorem xs_step {post : Int32 → Prop} {q a r n : Nat} (ha : a < 3) (hq : q ≤ 4095) (hr : r ≤ 3) (hok : (a < r → 1 ≤ q / 2 ^ (3 + 3 * a) % 8 ∧ q / 2 ^ (3 + 3 * a) % 8 ≤ 4) ∧ (r ≤ a → q / 2 ^ (3 + 3 * a) % 8 = 0)) (h : wX_isShape_27 post (nI q) (nI r) f_slotsTaken f_elementsTaken f_slopeCount a_handleTaken a_handleIsView a_windowRank a_windowSlot a_windowStart a_windowDimension a_windowStride a_slotSize a_slotKind a_slotTerms a_slotNeeded a_slotsByAge a_values a_derivatives a_firstPlaces a_secondPlaces a_assigned a_slopes n (nI (a + 1))) : wX_isShape_27 post (nI q) (nI r) f_slotsTaken f_elementsTaken f_slopeCount a_handleTaken a_handleIsView a_windowRank a_windowSlot a_windowStart a_windowDimension a_windowStride a_slotSize a_slotKind a_slotTerms a_slotNeeded a_slotsByAge a_values a_derivatives a_firstPlaces a_secondPlaces a_assigned a_slopes (n + 1) (nI a) := by
  refine br_f (nI_ge (b := 3) ha (by decide)) (xw_dimIn ha (by omega) ?_)
  by_cases z : r ≤ a
  · rw [hok.2 z]
    exact br_t (nI_le z (by omega)) (br_t rfl (br_f ab_10 (nm_r (nI_1 a) h)))
  · have := hok.1 (by omega)
    exact br_f (nI_ge (by omega) (by omega)) (xw_isDim_t this.1 this.2 (br_f ab_10 (nm_r (nI_1 a) h)))
theorem xs_stepf {post : Int32 → Prop} {q a r n : Nat} (ha : a < 3) (hq : q ≤ 4095) (hr : r ≤ 3) (hok : ¬ ((a < r → 1 ≤ q / 2 ^ (3 + 3 * a) % 8 ∧ q / 2 ^ (3 + 3 * a) % 8 ≤ 4) ∧ (r ≤ a → q / 2 ^ (3 + 3 * a) % 8 = 0))) (h : post 0) : wX_isShape_27 post (nI q) (nI r) f_slotsTaken f_elementsTaken f_slopeCount a_handleTaken a_handleIsView a_windowRank a_windowSlot a_windowStart a_windowDimension a_windowStride a_slotSize a_slotKind a_slotTerms a_slotNeeded a_slotsByAge a_values a_derivatives a_firstPlaces a_secondPlaces a_assigned a_slopes (n + 1) (nI a) := by
  have h8 : q / 2 ^ (3 + 3 * a) % 8 < 8 := Nat.mod_lt _ (by omega)
  refine br_f (nI_ge (b := 3) ha (by decide)) (xw_dimIn ha (by omega) ?_)
  by_cases z : r ≤ a
  · refine br_t (nI_le z (by omega)) (br_f (nI_ne0 ?_ (by omega)) (br_t rfl h))
    apply Nat.pos_of_ne_zero
    intro y
    exact hok ⟨fun w => by omega, fun _ => y⟩
  · refine br_f (nI_ge (by omega) (by omega)) (xw_isDim_f ?_ (br_t rfl h))
    rintro ⟨d, d1, d4, e⟩
    have := (nI_eq (by omega) (by omega)).mp e
    rw [this] at hok
    exact hok ⟨fun _ => ⟨d1, d4⟩, fun w => by omega⟩
theorem xs_isShape_t {post : Int32 → Prop} {q : Nat} (H : sp_ok q) (h : post 1) : wpX_isShape post (f_slotsTaken, f_elementsTaken, f_slopeCount, a_handleTaken, a_handleIsView, a_windowRank, a_windowSlot, a_windowStart, a_windowDimension, a_windowStride, a_slotSize, a_slotKind, a_slotTerms, a_slotNeeded, a_slotsByAge, a_values, a_derivatives, a_firstPlaces, a_secondPlaces, a_assigned, a_slopes) (nI q) := by
  obtain ⟨h1, h2, h3⟩ := H
  refine br_f (nI_pos (by omega)) (br_t (nI_le (b := 4095) h1 (by decide)) (nm_r (e' := nI (q % 8)) (pk_andN (by omega) 3 (by decide)) (br_t (nI_le (b := 3) h2 (by decide)) ⟨4, ?_⟩)))
  exact xs_step (a := 0) (by omega) h1 h2 (h3 0 (by omega)) (xs_step (by omega) h1 h2 (h3 1 (by omega)) (xs_step (by omega) h1 h2 (h3 2 (by omega)) (br_t (by decide) h)))
theorem xs_isShape_f {post : Int32 → Prop} {x : Int32} (H : ¬ ∃ q, x = nI q ∧ sp_ok q) (h : post 0) : wpX_isShape post (f_slotsTaken, f_elementsTaken, f_slopeCount, a_handleTaken, a_handleIsView, a_windowRank, a_windowSlot, a_windowStart, a_windowDimension, a_windowStride, a_slotSize, a_slotKind, a_slotTerms, a_slotNeeded, a_slotsByAge, a_values, a_derivatives, a_firstPlaces, a_secondPlaces, a_assigned, a_slopes) x := by
  refine br_c (fun _ => h) (fun h0 => br_c (fun h1 => ?_) (fun _ => h))
  obtain ⟨q, hq, rfl⟩ := ab_hi (m := 4095) (by decide) h0 h1
  refine nm_r (e' := nI (q % 8)) (pk_andN (by omega) 3 (by decide)) (br_c (fun h2 => ⟨4, ?_⟩) (fun _ => h))
  have r3 : q % 8 ≤ 3 := (nI_leI (b := 3) (by omega) (by decide)).mp h2
  by_cases k0 : ((0 < q % 8 → 1 ≤ q / 2 ^ (3 + 3 * 0) % 8 ∧ q / 2 ^ (3 + 3 * 0) % 8 ≤ 4) ∧ (q % 8 ≤ 0 → q / 2 ^ (3 + 3 * 0) % 8 = 0))
  · refine xs_step (a := 0) (by omega) hq r3 k0 ?_
    by_cases k1 : ((1 < q % 8 → 1 ≤ q / 2 ^ (3 + 3 * 1) % 8 ∧ q / 2 ^ (3 + 3 * 1) % 8 ≤ 4) ∧ (q % 8 ≤ 1 → q / 2 ^ (3 + 3 * 1) % 8 = 0))
    · refine xs_step (a := 1) (by omega) hq r3 k1 ?_
      by_cases k2 : ((2 < q % 8 → 1 ≤ q / 2 ^ (3 + 3 * 2) % 8 ∧ q / 2 ^ (3 + 3 * 2) % 8 ≤ 4) ∧ (q % 8 ≤ 2 → q / 2 ^ (3 + 3 * 2) % 8 = 0))
      · refine absurd ⟨q, rfl, hq, r3, fun a ha => ?_⟩ H
        rcases (show a = 0 ∨ a = 1 ∨ a = 2 by omega) with rfl | rfl | rfl
        · exact k0
        · exact k1
        · exact k2
      · exact xs_stepf (a := 2) (by omega) hq r3 k2 h
    · exact xs_stepf (a := 1) (by omega) hq r3 k1 h
  · exact xs_stepf (a := 0) (by omega) hq r3 k0 h
theorem xw_firstSource {post : Int32 → Prop} {s : Nat} (h : post (nI (24 + 2 * s))) : wpX_firstSource post (f_slotsTaken, f_elementsTaken, f_slopeCount, a_handleTaken, a_handleIsView, a_windowRank, a_windowSlot, a_windowStart, a_windowDimension, a_windowStride, a_slotSize, a_slotKind, a_slotTerms, a_slotNeeded, a_slotsByAge, a_values, a_derivatives, a_firstPlaces, a_secondPlaces, a_assigned, a_slopes) (nI s) := by
  show post (24 + 2 * nI s)
  rw [show (24 : Int32) + 2 * nI s = nI (24 + 2 * s) from by show nI 24 + nI 2 * nI s = _; rw [pk_mul, nI_add]]
  exact h
theorem xm_reshape {post : Int32 → SX → Prop} {w v s r c m q nh : Nat} {dd dw : Nat → Nat} (hw : w < 24) (hT : ¬ a_handleTaken w = 0) (hd : ∀ a, a < 3 → a_windowDimension (3 * w + a) = nI (dw a)) (hq : sp_ok q) (hr : q % 8 = r) (hdd : sp_d q = dd) (hsz : dw 0 * dw 1 * dw 2 = dd 0 * dd 1 * dd 2) (hc : f_elementsTaken = nI c) (hce : c + dd 0 * dd 1 * dd 2 ≤ 320) (hm : f_slotsTaken = nI m) (hm2 : m < 32) (hs : s < 32) (hs0 : a_slotSize s = 0) (hsl : ∀ j, j < s → ¬ a_slotSize j = 0) (hv : v < 24) (hv0 : a_handleTaken v = 0) (hvl : ∀ j, j < v → ¬ a_handleTaken j = 0) (h : post (nI v) (nI (m + 1), nI (c + dd 0 * dd 1 * dd 2), f_slopeCount, upd a_handleTaken v 1, upd a_handleIsView v 0, mk_u a_windowRank v s (nI r) (a_windowRank w) (a_windowRank w), mk_u a_windowSlot v s (nI s) (a_windowSlot w) (a_windowSlot w), mk_u a_windowStart v s (nI (64 * s)) (a_windowStart w) (a_windowStart w), mk_3 a_windowDimension v s (nI (dd 0)) (nI (dd 1)) (nI (dd 2)) (a_windowDimension (3 * w)) (a_windowDimension (3 * w + 1)) (a_windowDimension (3 * w + 2)) (a_windowDimension (3 * w)) (a_windowDimension (3 * w + 1)) (a_windowDimension (3 * w + 2)), mk_3 a_windowStride v s (nI (ab_st r dd 0)) (nI (ab_st r dd 1)) (nI (ab_st r dd 2)) (a_windowStride (3 * w)) (a_windowStride (3 * w + 1)) (a_windowStride (3 * w + 2)) (a_windowStride (3 * w)) (a_windowStride (3 * w + 1)) (a_windowStride (3 * w + 2)), upd a_slotSize s (nI (dd 0 * dd 1 * dd 2)), upd a_slotKind s 3, upd a_slotTerms s 1, a_slotNeeded, upd a_slotsByAge m (nI s), a_values, a_derivatives, a_firstPlaces, a_secondPlaces, a_assigned, a_slopes)) : wpX_reshape post (f_slotsTaken, f_elementsTaken, f_slopeCount, a_handleTaken, a_handleIsView, a_windowRank, a_windowSlot, a_windowStart, a_windowDimension, a_windowStride, a_slotSize, a_slotKind, a_slotTerms, a_slotNeeded, a_slotsByAge, a_values, a_derivatives, a_firstPlaces, a_secondPlaces, a_assigned, a_slopes) (nI w) (nI q) := by
  have hn : w ≠ v := fun e => hT (e ▸ hv0)
  have H : ab_sh3 r dd := by rw [← hr, ← hdd]; exact sp_sh hq
  have hpk : ab_pk r dd = q := by rw [← hr, ← hdd]; exact sp_pk hq
  unfold wpX_reshape
  refine xw_isHandle_t hw hT (br_f ab_10 (xs_isShape_t hq (br_f ab_10 (xw_windowSize (by omega) (hd 0 (by omega)) (hd 1 (by omega)) (hd 2 (by omega)) ?_))))
  rw [← hpk]
  refine xw_shapeSize H (br_t (by rw [hsz]) (xw_makeTensor_s H hc hce hm hm2 hs hs0 hsl hv hv0 hvl (br_f (nI_pos (by omega)) ⟨vp_in_nI (by omega) (by decide), ?_⟩)))
  rw [nI_clamp (by omega), pk_us]
  refine xw_firstSource (xw_copyWindow (by omega) (by omega) (by omega) ?_)
  rw [show nI (24 + 2 * s) + 1 = nI (25 + 2 * s) from by rw [nI_1]; congr 1; omega]
  refine xw_copyWindow (by omega) (by omega) (by omega) ?_
  rw [pk_un (show w ≠ 24 + 2 * s by omega), pk_un (show w ≠ 24 + 2 * s by omega), pk_un (show w ≠ 24 + 2 * s by omega), pk_un hn, pk_un hn, pk_un hn]
  have E3 : ∀ (g : Nat → Int32) (a b c : Int32) (i : Nat), i < 3 → ab_up3 g (3 * v) a b c (3 * w + i) = g (3 * w + i) := fun g a b c i hi => ab_en (by omega)
  have E4 : ∀ (g : Nat → Int32) (a b c : Int32) (i : Nat), i < 3 → ab_up3 g (3 * (24 + 2 * s)) a b c (3 * w + i) = g (3 * w + i) := fun g a b c i hi => ab_en (by omega)
  have E30 : ∀ (g : Nat → Int32) (a b c : Int32), ab_up3 g (3 * v) a b c (3 * w) = g (3 * w) := fun g a b c => ab_en (by omega)
  have E40 : ∀ (g : Nat → Int32) (a b c : Int32), ab_up3 g (3 * (24 + 2 * s)) a b c (3 * w) = g (3 * w) := fun g a b c => ab_en (by omega)
  rw [E40, E40, E30, E30, E4 _ _ _ _ 1 (by omega), E4 _ _ _ _ 1 (by omega), E4 _ _ _ _ 2 (by omega), E4 _ _ _ _ 2 (by omega), E3 _ _ _ _ 1 (by omega), E3 _ _ _ _ 1 (by omega), E3 _ _ _ _ 2 (by omega), E3 _ _ _ _ 2 (by omega)]
  exact h
theorem xm_reshape_n {post : Int32 → SX → Prop} {w c : Nat} {x : Int32} {dw : Nat → Nat} (hw : w < 24) (hT : ¬ a_handleTaken w = 0) (hd : ∀ a, a < 3 → a_windowDimension (3 * w + a) = nI (dw a)) (hd4 : dw 0 * dw 1 * dw 2 ≤ 64) (hc : f_elementsTaken = nI c) (hc2 : c ≤ 320) (hno : ∀ q, x = nI q → sp_ok q → dw 0 * dw 1 * dw 2 = sp_d q 0 * sp_d q 1 * sp_d q 2 → (∀ t, t < 32 → ¬ a_slotSize t = 0) ∨ 320 < c + dw 0 * dw 1 * dw 2 ∨ (∀ j, j < 24 → ¬ a_handleTaken j = 0)) (h : post (-1) (f_slotsTaken, f_elementsTaken, f_slopeCount, a_handleTaken, a_handleIsView, a_windowRank, a_windowSlot, a_windowStart, a_windowDimension, a_windowStride, a_slotSize, a_slotKind, a_slotTerms, a_slotNeeded, a_slotsByAge, a_values, a_derivatives, a_firstPlaces, a_secondPlaces, a_assigned, a_slopes)) : wpX_reshape post (f_slotsTaken, f_elementsTaken, f_slopeCount, a_handleTaken, a_handleIsView, a_windowRank, a_windowSlot, a_windowStart, a_windowDimension, a_windowStride, a_slotSize, a_slotKind, a_slotTerms, a_slotNeeded, a_slotsByAge, a_values, a_derivatives, a_firstPlaces, a_secondPlaces, a_assigned, a_slopes) (nI w) x := by
  unfold wpX_reshape
  refine xw_isHandle_t hw hT (br_f ab_10 ?_)
  by_cases hs : ∃ q, x = nI q ∧ sp_ok q
  · obtain ⟨q, rfl, hq⟩ := hs
    refine xs_isShape_t hq (br_f ab_10 (xw_windowSize (by omega) (hd 0 (by omega)) (hd 1 (by omega)) (hd 2 (by omega)) ?_))
    have H := sp_sh hq
    have hn64 := ab_sz (H.2.2 0 (by omega)).2 (H.2.2 1 (by omega)).2 (H.2.2 2 (by omega)).2
    have e : nI q = nI (ab_pk (q % 8) (sp_d q)) := by rw [sp_pk hq]
    rw [e]
    refine xw_shapeSize H (br_c (fun z => ?_) (fun _ => h))
    have z2 := (nI_eq (by omega) (by omega)).mp z
    exact xw_makeTensor_n H hc hc2 (by rw [← z2]; exact hno q rfl hq z2) (br_t (by decide) h)
  · exact xs_isShape_f hs (br_t rfl h)
end
section
variable {c_cells c_slopeCount : Int32} {b_used b_rank b_dims b_shown b_tensorOf b_view b_exists b_kind b_first b_second b_owner b_parts b_partCount b_value b_slopeOf b_order b_slopes : Nat → Int32}
theorem yr_step {post : Int32 → SY → Prop} {x1 : Int32} {a r n dv : Nat} (ha : a < 3) (hr : r ≤ 3) (hd : b_dims (72 + a) = nI dv) (hd8 : dv < 8) (hok : (a < r → 1 ≤ dv ∧ dv ≤ 4) ∧ (r ≤ a → dv = 0)) (h : wY_reshape_61 post x1 (nI r) c_cells c_slopeCount b_used b_rank b_dims b_shown b_tensorOf b_view b_exists b_kind b_first b_second b_owner b_parts b_partCount b_value b_slopeOf b_order b_slopes n (nI (a + 1))) : wY_reshape_61 post x1 (nI r) c_cells c_slopeCount b_used b_rank b_dims b_shown b_tensorOf b_view b_exists b_kind b_first b_second b_owner b_parts b_partCount b_value b_slopeOf b_order b_slopes (n + 1) (nI a) := by
  have e1 : (72 : Int32) + nI a = nI (72 + a) := nI_add 72 a
  refine br_f (nI_ge (b := 3) ha (by decide)) ⟨ab_vin e1 (by omega) (by decide), nm_r (e' := nI dv) (by rw [e1, nI_clamp (by omega), hd]) ?_⟩
  by_cases z : r ≤ a
  · rw [hok.2 z]
    exact br_t (nI_le z (by omega)) (br_t rfl (nm_r (nI_1 a) h))
  · have := hok.1 (by omega)
    exact br_f (nI_ge (by omega) (by omega)) (br_f (nI_nlt (b := 1) this.1 (by omega)) (br_t (nI_le (b := 4) this.2 (by decide)) (nm_r (nI_1 a) h)))
theorem yr_stepf {post : Int32 → SY → Prop} {x1 : Int32} {a r n dv : Nat} (ha : a < 3) (hr : r ≤ 3) (hd : b_dims (72 + a) = nI dv) (hd8 : dv < 8) (hok : ¬ ((a < r → 1 ≤ dv ∧ dv ≤ 4) ∧ (r ≤ a → dv = 0))) (h : post (-1) (c_cells, c_slopeCount, b_used, b_rank, b_dims, b_shown, b_tensorOf, b_view, b_exists, b_kind, b_first, b_second, b_owner, b_parts, b_partCount, b_value, b_slopeOf, b_order, b_slopes)) : wY_reshape_61 post x1 (nI r) c_cells c_slopeCount b_used b_rank b_dims b_shown b_tensorOf b_view b_exists b_kind b_first b_second b_owner b_parts b_partCount b_value b_slopeOf b_order b_slopes (n + 1) (nI a) := by
  have e1 : (72 : Int32) + nI a = nI (72 + a) := nI_add 72 a
  refine br_f (nI_ge (b := 3) ha (by decide)) ⟨ab_vin e1 (by omega) (by decide), nm_r (e' := nI dv) (by rw [e1, nI_clamp (by omega), hd]) ?_⟩
  by_cases z : r ≤ a
  · refine br_t (nI_le z (by omega)) (br_f (nI_ne0 ?_ (by omega)) h)
    apply Nat.pos_of_ne_zero
    intro y
    exact hok ⟨fun w => by omega, fun _ => y⟩
  · refine br_f (nI_ge (by omega) (by omega)) (br_c (fun _ => h) (fun a1 => br_c (fun a4 => ?_) (fun _ => h)))
    refine absurd ⟨fun _ => ⟨?_, (nI_leI (b := 4) (by omega) (by decide)).mp a4⟩, fun w => by omega⟩ hok
    apply Nat.lt_of_not_le; intro hc; exact a1 (nI_lt (b := 1) (by omega) (by decide))
theorem ym_reshape_1 {post : Int32 → SY → Prop} {w q : Nat} (hw : w < 24) (hU : ¬ b_used w = 0) (hq : q ≤ 4095) (hr : q % 8 ≤ 3) (h : ∃ n, wY_reshape_61 post (nI w) (nI (q % 8)) c_cells c_slopeCount b_used (upd b_rank 24 (nI (q % 8))) (ab_up3 b_dims 72 (nI (q / 2 ^ (3 + 3 * 0) % 8)) (nI (q / 2 ^ (3 + 3 * 1) % 8)) (nI (q / 2 ^ (3 + 3 * 2) % 8))) b_shown b_tensorOf b_view b_exists b_kind b_first b_second b_owner b_parts b_partCount b_value b_slopeOf b_order b_slopes n 0) : wpY_reshape post (c_cells, c_slopeCount, b_used, b_rank, b_dims, b_shown, b_tensorOf, b_view, b_exists, b_kind, b_first, b_second, b_owner, b_parts, b_partCount, b_value, b_slopeOf, b_order, b_slopes) (nI w) (nI q) := by
  have e0 : nI q - nI q / 8 * 8 = nI (q % 8) := pk_rem (d := 8) (by omega) (by omega) (by omega)
  have d1 : nI q / 8 = nI (q / 8) := pk_div (d := 8) (by omega) (by omega) (by omega)
  have e1 : nI (q / 8) - nI (q / 8) / 8 * 8 = nI (q / 8 % 8) := pk_rem (d := 8) (by omega) (by omega) (by omega)
  have d2 : nI q / 64 = nI (q / 64) := pk_div (d := 64) (by omega) (by omega) (by omega)
  have e2 : nI (q / 64) - nI (q / 64) / 8 * 8 = nI (q / 64 % 8) := pk_rem (d := 8) (by omega) (by omega) (by omega)
  have d3 : nI q / 512 = nI (q / 512) := pk_div (d := 512) (by omega) (by omega) (by omega)
  unfold wpY_reshape
  refine yb_isHandle_t hw hU (br_f ab_10 (br_f (nI_pos (by omega)) (br_f (nI_nlt (a := 4095) hq (by decide)) ⟨by decide, br_t (by rw [e0]; exact nI_le (b := 3) hr (by decide)) ⟨by decide, nm_r e0 ⟨by decide, by decide, by decide, by decide, by decide, ?_⟩⟩⟩)))
  rw [d1, e1, d2, e2, d3]
  refine yb_shapeNew (by omega) ?_
  rw [yb_btn (by omega), yb_btn (by omega), yb_btn (by omega), show q / 512 = q / 2 ^ (3 + 3 * 2) % 8 by omega]
  exact h
theorem ym_reshape_f {post : Int32 → SY → Prop} {w : Nat} {x : Int32} (hw : w < 24) (hU : ¬ b_used w = 0) (hno : ¬ ∃ q, x = nI q ∧ q ≤ 4095 ∧ q % 8 ≤ 3) (h : post (-1) (c_cells, c_slopeCount, b_used, b_rank, b_dims, b_shown, b_tensorOf, b_view, b_exists, b_kind, b_first, b_second, b_owner, b_parts, b_partCount, b_value, b_slopeOf, b_order, b_slopes)) : wpY_reshape post (c_cells, c_slopeCount, b_used, b_rank, b_dims, b_shown, b_tensorOf, b_view, b_exists, b_kind, b_first, b_second, b_owner, b_parts, b_partCount, b_value, b_slopeOf, b_order, b_slopes) (nI w) x := by
  unfold wpY_reshape
  refine yb_isHandle_t hw hU (br_f ab_10 (br_c (fun _ => h) (fun h0 => br_c (fun _ => h) (fun h1 => ⟨by decide, br_c (fun h2 => ?_) (fun _ => h)⟩))))
  obtain ⟨q, hq, rfl⟩ := ab_hi (m := 4095) (by decide) h0 (Int32.not_lt.mp h1)
  rw [show nI q - nI q / 8 * 8 = nI (q % 8) from pk_rem (d := 8) (by omega) (by omega) (by omega)] at h2
  exact absurd ⟨q, rfl, hq, (nI_leI (b := 3) (by omega) (by decide)).mp h2⟩ hno
theorem ym_rloop {post : Int32 → SY → Prop} {w v s r N : Nat} {dd f cw : Nat → Nat} {P0 C0 : Nat → Int32} (hw : w < 24) (H24 : yb_row b_rank b_dims 24 r dd) (hN : N ≤ 64) (hs : s < 32) (hfi : ∀ i j, i < N → j < N → f i = f j → i = j) (hf : ∀ i, i < N → f i < 320) (hS : ∀ i, i < N → b_shown (1536 + i) = nI (f i)) (hc : ∀ i, i < N → b_shown (64 * w + i) = nI (cw i) ∧ cw i < 320) (hv : v < 24) (hv0 : b_used v = 0) (hvl : ∀ j, j < v → ¬ b_used j = 0) (h : ∀ P C D S : Nat → Int32, yp_ok f N (fun i _ => cw i) (fun _ => 1) P0 C0 P C → (∀ a, a < r → D (3 * v + a) = nI (dd a)) → (∀ j, (j < 3 * v ∨ 3 * v + 3 ≤ j) → D j = b_dims j) → (∀ i, i < N → S (64 * v + i) = nI (f i)) → (∀ j, (j < 64 * v ∨ 64 * v + 64 ≤ j) → S j = b_shown j) → post (nI v) (c_cells, c_slopeCount, upd b_used v 1, upd b_rank v (nI r), D, S, upd b_tensorOf v (nI s), upd b_view v 0, b_exists, b_kind, b_first, b_second, b_owner, P, C, b_value, b_slopeOf, b_order, b_slopes)) : ∀ (q j : Nat) (P C : Nat → Int32), j + q = N → yp_ok f N (fun i _ => cw i) (yp_c 1 j 0) P0 C0 P C → wY_reshape_158 post (nI w) (nI N) (nI s) (q + 1) (nI j) c_cells c_slopeCount b_used b_rank b_dims b_shown b_tensorOf b_view b_exists b_kind b_first b_second b_owner P C b_value b_slopeOf b_order b_slopes := by
  intro q
  induction q with
  | zero =>
    intro j P C hj A
    have : j = N := by omega
    subst this
    refine br_t (nI_le (by omega) (by omega)) ?_
    refine yv_hand (e := dd) (c := f) (N := j) hv hv0 hvl hs H24.1 H24.2.1 hN (fun a ha => H24.2.2.1 a ha) (fun a ha => (H24.2.2.2.2 a ha).2) hS hf (fun D S d1 d2 s1 s2 => ?_)
    rw [ab_b0]
    exact h P C D S (yp_x A) d1 d2 s1 s2
  | succ q ih =>
    intro j P C hj A
    obtain ⟨c1, c2⟩ := hc j (by omega)
    refine br_f (nI_ge (by omega) (by omega)) ⟨ab_vin ab_i64 (by omega) (by decide), ?_⟩
    rw [ab_i64, nI_clamp (by omega), c1]
    exact yp_part (K := 1) (m := 0) hN hfi hf (by omega) (by omega) (by omega) (hS j (by omega)) rfl c2 A (fun P' C' A' => nm_r (nI_1 j) (ih (j + 1) P' C' (by omega) (yp_n A')))
end
end
section
section
variable {c_cells c_slopeCount : Int32} {b_used b_rank b_dims b_shown b_tensorOf b_view b_exists b_kind b_first b_second b_owner b_parts b_partCount b_value b_slopeOf b_order b_slopes : Nat → Int32}
theorem ym_rrow {q : Nat} (H : sp_ok q) : yb_row (upd b_rank 24 (nI (q % 8))) (ab_up3 b_dims 72 (nI (q / 2 ^ (3 + 3 * 0) % 8)) (nI (q / 2 ^ (3 + 3 * 1) % 8)) (nI (q / 2 ^ (3 + 3 * 2) % 8))) 24 (q % 8) (sp_d q) := by
  have S := sp_sh H
  refine ⟨pk_us, S.1, fun i hi => ?_, S.2.1, S.2.2⟩
  have := S.1
  unfold sp_d
  rw [if_pos hi]
  rcases (show i = 0 ∨ i = 1 ∨ i = 2 by omega) with rfl | rfl | rfl
  · exact ab_e0
  · exact ab_e1
  · exact ab_e2
theorem ym_reshape_n {post : Int32 → SY → Prop} {w c rk : Nat} {x : Int32} {dw : Nat → Nat} (hw : w < 24) (hU : ¬ b_used w = 0) (Hw : yb_row b_rank b_dims w rk dw) (hc : c_cells = nI c) (hc2 : c ≤ 320) (hno : ∀ q, x = nI q → sp_ok q → dw 0 * dw 1 * dw 2 = sp_d q 0 * sp_d q 1 * sp_d q 2 → (∀ t, t < 32 → ¬ b_exists t = 0) ∨ 320 < c + dw 0 * dw 1 * dw 2 ∨ (∀ j, j < 24 → ¬ b_used j = 0)) (h : ∀ R D : Nat → Int32, (∀ h, h < 24 → R h = b_rank h) → (∀ j, j < 72 → D j = b_dims j) → post (-1) (c_cells, c_slopeCount, b_used, R, D, b_shown, b_tensorOf, b_view, b_exists, b_kind, b_first, b_second, b_owner, b_parts, b_partCount, b_value, b_slopeOf, b_order, b_slopes)) : wpY_reshape post (c_cells, c_slopeCount, b_used, b_rank, b_dims, b_shown, b_tensorOf, b_view, b_exists, b_kind, b_first, b_second, b_owner, b_parts, b_partCount, b_value, b_slopeOf, b_order, b_slopes) (nI w) x := by
  by_cases hq : ∃ q, x = nI q ∧ q ≤ 4095 ∧ q % 8 ≤ 3
  · obtain ⟨q, rfl, h1, h2⟩ := hq
    refine ym_reshape_1 hw hU h1 h2 ⟨4, ?_⟩
    have hp := h (upd b_rank 24 (nI (q % 8))) (ab_up3 b_dims 72 (nI (q / 2 ^ (3 + 3 * 0) % 8)) (nI (q / 2 ^ (3 + 3 * 1) % 8)) (nI (q / 2 ^ (3 + 3 * 2) % 8))) (fun i hi => pk_un (by omega)) (fun j hj => ab_en (by omega))
    have L0 : q / 2 ^ (3 + 3 * 0) % 8 < 8 := Nat.mod_lt _ (by omega)
    have L1 : q / 2 ^ (3 + 3 * 1) % 8 < 8 := Nat.mod_lt _ (by omega)
    have L2 : q / 2 ^ (3 + 3 * 2) % 8 < 8 := Nat.mod_lt _ (by omega)
    by_cases k0 : ((0 < q % 8 → 1 ≤ q / 2 ^ (3 + 3 * 0) % 8 ∧ q / 2 ^ (3 + 3 * 0) % 8 ≤ 4) ∧ (q % 8 ≤ 0 → q / 2 ^ (3 + 3 * 0) % 8 = 0))
    · refine yr_step (a := 0) (by omega) h2 ab_e0 L0 k0 ?_
      by_cases k1 : ((1 < q % 8 → 1 ≤ q / 2 ^ (3 + 3 * 1) % 8 ∧ q / 2 ^ (3 + 3 * 1) % 8 ≤ 4) ∧ (q % 8 ≤ 1 → q / 2 ^ (3 + 3 * 1) % 8 = 0))
      · refine yr_step (a := 1) (by omega) h2 ab_e1 L1 k1 ?_
        by_cases k2 : ((2 < q % 8 → 1 ≤ q / 2 ^ (3 + 3 * 2) % 8 ∧ q / 2 ^ (3 + 3 * 2) % 8 ≤ 4) ∧ (q % 8 ≤ 2 → q / 2 ^ (3 + 3 * 2) % 8 = 0))
        · have hok : sp_ok q := ⟨h1, h2, fun a ha => by
            rcases (show a = 0 ∨ a = 1 ∨ a = 2 by omega) with rfl | rfl | rfl
            · exact k0
            · exact k1
            · exact k2⟩
          have R24 := ym_rrow (b_rank := b_rank) (b_dims := b_dims) hok
          have Hw' : yb_row (upd b_rank 24 (nI (q % 8))) (ab_up3 b_dims 72 (nI (q / 2 ^ (3 + 3 * 0) % 8)) (nI (q / 2 ^ (3 + 3 * 1) % 8)) (nI (q / 2 ^ (3 + 3 * 2) % 8))) w rk dw := by
            have := Hw.2.1
            refine ⟨by rw [pk_un (by omega)]; exact Hw.1, Hw.2.1, fun i hi => ?_, Hw.2.2.2.1, Hw.2.2.2.2⟩
            rw [ab_en (by omega)]; exact Hw.2.2.1 i hi
          have n1 := ab_sz (R24.2.2.2.2 0 (by omega)).2 (R24.2.2.2.2 1 (by omega)).2 (R24.2.2.2.2 2 (by omega)).2
          have n2 := ab_sz (Hw.2.2.2.2 0 (by omega)).2 (Hw.2.2.2.2 1 (by omega)).2 (Hw.2.2.2.2 2 (by omega)).2
          refine yr_step (a := 2) (by omega) h2 ab_e2 L2 k2 (br_t (by decide) (yb_size (h := 24) (by omega) R24 (yb_size (by omega) Hw' (br_c (fun z => ⟨vp_in_nI (by omega) (by decide), ?_⟩) (fun _ => hp)))))
          have z2 := (nI_eq (by omega) (by omega)).mp z
          refine yb_tensor_n R24 hc hc2 ?_ (br_f (by decide) hp)
          rw [z2]
          exact hno q rfl hok z2.symm
        · exact yr_stepf (a := 2) (by omega) h2 ab_e2 L2 k2 hp
      · exact yr_stepf (a := 1) (by omega) h2 ab_e1 L1 k1 hp
    · exact yr_stepf (a := 0) (by omega) h2 ab_e0 L0 k0 hp
  · exact ym_reshape_f hw hU hq (h _ _ (fun _ _ => rfl) (fun _ _ => rfl))
theorem ym_reshape {post : Int32 → SY → Prop} {w c q rk s v t n : Nat} {dw dd cw : Nat → Nat} {L : List Nat} (hw : w < 24) (hU : ¬ b_used w = 0) (Hw : yb_row b_rank b_dims w rk dw) (hq : sp_ok q) (hdd : sp_d q = dd) (hn : dd 0 * dd 1 * dd 2 = n) (hsz : dw 0 * dw 1 * dw 2 = n) (hcw : ∀ i, i < n → b_shown (64 * w + i) = nI (cw i) ∧ cw i < 320) (ht : b_tensorOf w = nI t) (ht2 : t < 32) (hc : c_cells = nI c) (hce : c + n ≤ 320) (hs : s < 32) (hs0 : b_exists s = 0) (hsl : ∀ j, j < s → ¬ b_exists j = 0) (hv : v < 24) (hv0 : b_used v = 0) (hvl : ∀ j, j < v → ¬ b_used j = 0) (hL : ∀ j, j < 320 → ¬ b_owner j < 0 → j ∈ L) (hLc : L.length = c) (h : ∀ (f : Nat → Nat) (O C0 V Ro S R D S' P C : Nat → Int32), yb_al b_owner b_partCount b_value b_order b_shown s c n f O C0 V Ro S → yp_ok f n (fun i _ => cw i) (fun _ => 1) b_parts C0 P C → R v = nI (q % 8) → (∀ h, h < 24 → h ≠ v → R h = b_rank h) → (∀ a, a < q % 8 → D (3 * v + a) = nI (dd a)) → (∀ j, j < 72 → (j < 3 * v ∨ 3 * v + 3 ≤ j) → D j = b_dims j) → (∀ i, i < n → S' (64 * v + i) = nI (f i)) → (∀ j, j < 1536 → (j < 64 * v ∨ 64 * v + 64 ≤ j) → S' j = b_shown j) → post (nI v) (nI (c + n), c_slopeCount, upd b_used v 1, R, D, S', upd b_tensorOf v (nI s), upd b_view v 0, upd b_exists s 1, upd b_kind s (nI 6), upd b_first s (yb_bt (nI t)), upd b_second s (yb_bt (-1)), O, P, C, V, b_slopeOf, Ro, b_slopes)) : wpY_reshape post (c_cells, c_slopeCount, b_used, b_rank, b_dims, b_shown, b_tensorOf, b_view, b_exists, b_kind, b_first, b_second, b_owner, b_parts, b_partCount, b_value, b_slopeOf, b_order, b_slopes) (nI w) (nI q) := by
  have R24 := ym_rrow (b_rank := b_rank) (b_dims := b_dims) hq
  rw [hdd] at R24
  have h2 := hq.2.1
  have n1 := ab_sz (R24.2.2.2.2 0 (by omega)).2 (R24.2.2.2.2 1 (by omega)).2 (R24.2.2.2.2 2 (by omega)).2
  have Hw' : yb_row (upd b_rank 24 (nI (q % 8))) (ab_up3 b_dims 72 (nI (q / 2 ^ (3 + 3 * 0) % 8)) (nI (q / 2 ^ (3 + 3 * 1) % 8)) (nI (q / 2 ^ (3 + 3 * 2) % 8))) w rk dw := by
    have := Hw.2.1
    refine ⟨by rw [pk_un (by omega)]; exact Hw.1, Hw.2.1, fun i hi => ?_, Hw.2.2.2.1, Hw.2.2.2.2⟩
    rw [ab_en (by omega)]; exact Hw.2.2.1 i hi
  refine ym_reshape_1 hw hU hq.1 hq.2.1 ⟨4, ?_⟩
  refine yr_step (a := 0) (by omega) h2 ab_e0 (Nat.mod_lt _ (by omega)) (hq.2.2 0 (by omega)) (yr_step (a := 1) (by omega) h2 ab_e1 (Nat.mod_lt _ (by omega)) (hq.2.2 1 (by omega)) (yr_step (a := 2) (by omega) h2 ab_e2 (Nat.mod_lt _ (by omega)) (hq.2.2 2 (by omega)) (br_t (by decide) (yb_size (h := 24) (by omega) R24 (yb_size (by omega) Hw' (br_t (by rw [hn, hsz]) ⟨vp_in_nI (by omega) (by decide), ?_⟩))))))
  rw [nI_clamp (show w < 2 ^ 31 by omega), ht]
  refine yb_tensor_s (kw := 6) R24 hc (by omega) hs hs0 hsl hv hv0 hvl (by omega) hL hLc (fun f O C0 V Ro S A => br_t (nI_pos' (by omega)) ⟨n + 1, ?_⟩)
  rw [hn] at A ⊢
  obtain ⟨A1, A2, A3, A4, A5, A6, A7⟩ := A
  refine ym_rloop (f := f) (cw := cw) (P0 := b_parts) (C0 := C0) (s := s) (r := q % 8) (dd := dd) (v := v) hw R24 (by omega) hs A2 (fun i hi => (A1 i hi).1) (fun i hi => (A5 i hi).2) (fun i hi => by rw [A7 _ (by omega)]; exact hcw i hi) hv hv0 hvl (fun P C D S' Y d1 d2 s1 s2 => ?_) n 0 b_parts C0 (by omega) (yp_0 ⟨A1, A2, A3, A4, A5, A6, A7⟩)
  refine h f O C0 V Ro S _ D S' P C ⟨A1, A2, A3, A4, A5, A6, A7⟩ Y pk_us ?_ d1 ?_ s1 ?_
  · intro i hi hi2; rw [pk_un hi2, pk_un (by omega)]
  · intro j hj hj2; rw [d2 j hj2, ab_en (by omega)]
  · intro j hj hj2; rw [s2 j hj2]; exact A7 j hj
end
theorem i_vc_reshape {k : Nat} {u : SX} {v : SY} (I : i_Rel k u v) (hk : k + 5 ≤ 2560) (v1 : Int32) (v2 : Int32) : wpX_reshape (fun r u' => wpY_reshape (fun r' v' => r' = r ∧ i_Rel (k + 5) u' v') v v1 v2) u v1 v2 := by
  obtain ⟨f_slotsTaken, f_elementsTaken, f_slopeCount, a_handleTaken, a_handleIsView, a_windowRank, a_windowSlot, a_windowStart, a_windowDimension, a_windowStride, a_slotSize, a_slotKind, a_slotTerms, a_slotNeeded, a_slotsByAge, a_values, a_derivatives, a_firstPlaces, a_secondPlaces, a_assigned, a_slopes⟩ := u
  obtain ⟨c_cells, c_slopeCount, b_used, b_rank, b_dims, b_shown, b_tensorOf, b_view, b_exists, b_kind, b_first, b_second, b_owner, b_parts, b_partCount, b_value, b_slopeOf, b_order, b_slopes⟩ := v
  have I' := I
  obtain ⟨rk, sl, d, G, ages, sz, kd, tm, yk, cl, hX, hY, hS⟩ := I'
  have hu := hY.1.1
  by_cases hH : ab_isH a_handleTaken v1
  · obtain ⟨w, hw, rfl, hT⟩ := hH
    obtain ⟨w1, w2, w3, w4⟩ := hX.2.2.2.2 w hw hT
    have yw := hY.2.2.2.2.1 w hw hT
    have hU : ¬ b_used w = 0 := by rw [hu]; exact hT
    have n64 := (rl_hk hX).2 w hw hT
    have hfree : ∀ t, t < 32 → (b_exists t = 0 ↔ a_slotSize t = 0) := fun t ht => (hY.2.2.2.1 t ht).trans (rl_sz0 hX ht).symm
    by_cases hno : ∀ q, v2 = nI q → sp_ok q → d w 0 * d w 1 * d w 2 = sp_d q 0 * sp_d q 1 * sp_d q 2 → (∀ t, t < 32 → ¬ a_slotSize t = 0) ∨ 320 < (ab_fl sz ages).length + d w 0 * d w 1 * d w 2 ∨ (∀ j, j < 24 → ¬ a_handleTaken j = 0)
    · refine xm_reshape_n hw hT (fun a ha => (w3.2.2.1 a ha).1) n64 hX.2.1.1 hX.2.1.2 hno (ym_reshape_n hw hU (rl_row w2 yw) hY.2.1.1 hX.2.1.2 ?_ (fun R D r1 d1 => ⟨rfl, ?_⟩))
      · intro q e1 e2 e3
        rw [hu]
        rcases hno q e1 e2 e3 with z | z | z
        · exact Or.inl (fun t ht y => z t ht ((hfree t ht).mp y))
        · exact Or.inr (Or.inl z)
        · exact Or.inr (Or.inr z)
      · exact rl_mk (k + 5) rk sl d G ages sz kd tm yk cl hX (rl_scr r1 d1 (fun _ _ => rfl) (rl_hk hX).1 (rl_hk hX).2 hY) hS
    · have hex : ∃ q, v2 = nI q ∧ sp_ok q ∧ d w 0 * d w 1 * d w 2 = sp_d q 0 * sp_d q 1 * sp_d q 2 ∧ ¬ ((∀ t, t < 32 → ¬ a_slotSize t = 0) ∨ 320 < (ab_fl sz ages).length + d w 0 * d w 1 * d w 2 ∨ (∀ j, j < 24 → ¬ a_handleTaken j = 0)) := by
        apply Classical.byContradiction
        intro z
        refine hno (fun q e1 e2 e3 => Classical.byContradiction (fun y => z ⟨q, e1, e2, e3, y⟩))
      obtain ⟨q, rfl, hq, hsz, hres⟩ := hex
      rcases ab_lst a_slotSize 32 with ⟨s, hs, hs0, hsl⟩ | sn
      · rcases ab_lst a_handleTaken 24 with ⟨v, hv, hv0, hvl⟩ | vn
        · have hce : (ab_fl sz ages).length + sp_d q 0 * sp_d q 1 * sp_d q 2 ≤ 320 := Nat.le_of_not_lt (fun z => hres (Or.inr (Or.inl (by rw [hsz]; exact z))))
          have hsn : s ∉ ages := (rl_sz0 hX hs).mp hs0
          have hm := rl_m32 hX.2.2.1.1 hX.2.2.1.2.1 hs hsn
          have t32 := hX.2.2.1.2.1 _ w3.2.1
          have H := sp_sh hq
          have D0 := w3.2.2.1
          refine xm_reshape (nh := 0) (dw := d w) hw hT (fun a ha => (D0 a ha).1) hq rfl rfl hsz hX.2.1.1 hce hX.1.1 hm hs hs0 hsl hv hv0 hvl ?_
          rw [w3.1, show a_windowDimension (3 * w) = nI (d w 0) from (D0 0 (by omega)).1, (D0 1 (by omega)).1, (D0 2 (by omega)).1]
          refine ym_reshape (t := sl w) (v := v) (cw := fun i => cl (rl_p d G w i)) (L := (ab_fl sz ages).map cl) hw hU (rl_row w2 yw) hq rfl rfl hsz (fun i hi => ⟨yw.2.2.2 i (by unfold rl_n; rw [hsz]; exact hi), (hY.2.2.1.1 _ (rl_pmem hX w3).1).1⟩) yw.2.2.1 t32 hY.2.1.1 hce hs ((hfree s hs).mpr hs0) (fun j hj z => hsl j hj ((hfree j (by omega)).mp z)) hv (by rw [hu]; exact hv0) (by rw [hu]; exact hvl) (rl_Lst hY.2.2.1) (by rw [List.length_map]) (fun f O C0 V Ro S R D S' P C A Y r1 r2 d1 d2 s1 s2 => ⟨rfl, ?_⟩)
          refine rl_mk (k + 5) (ab_fu rk v (q % 8)) (mk_f sl v s s (sl w) (sl w)) (mk_f d v s (sp_d q) (d w) (d w)) (mk_f G v s (mk_g s (sp_d q)) (G w) (G w)) (ages ++ [s]) (ab_fu sz s (sp_d q 0 * sp_d q 1 * sp_d q 2)) (ab_fu kd s 3) (ab_fu tm s 1) (ab_fu yk s 6) (rl_cl cl f s) ?_ ?_ hS
          · exact rl_resX hs hsn hv H rfl hce (by omega) (by omega) (by omega) (fun a ha => (D0 a ha).2) (fun a ha => (D0 a ha).2) (by rw [Nat.mul_one]; exact hsz) (by rw [Nat.mul_one]; exact hsz) w3.2.1 w3.2.1 w3.2.2.2 w3.2.2.2 hX
          · refine rl_resY (tt := 1) (kk := 3) (q := fun i _ => cl (rl_p d G w i)) hs hsn hv H rfl (by omega) (by omega) (fun a ha => (D0 a ha).2) (fun a ha => (D0 a ha).2) w3.2.1 w3.2.1 (fun x y z hx hy hz => (w3.2.2.2 x y z hx hy hz).2.1) (fun x y z hx hy hz => (w3.2.2.2 x y z hx hy hz).2.1) r1 r2 d1 d2 s1 s2 A Y ?_ (fun z => absurd rfl z) ?_ (yb_btn (by omega)) (fun _ => ⟨by unfold yb_bt; rw [ab_vbm2]; decide, rfl⟩) (fun z => absurd rfl z) hX hY
            · intro _ i t hi ht
              have : t = 0 := by omega
              subst this
              show cl (rl_p d G w i) = cl (rl_p d G w (i * 1 + 0))
              rw [Nat.mul_one, Nat.add_zero]
            · exact Or.inr (Or.inr (Or.inr (Or.inr ⟨rfl, Or.inr rfl⟩)))
        · exact absurd (Or.inr (Or.inr vn)) hres
      · exact absurd (Or.inl sn) hres
  · unfold wpX_reshape
    refine xw_isHandle_f hH (br_t rfl ?_)
    unfold wpY_reshape
    exact yb_isHandle_f (by rw [hu]; exact hH) (br_t rfl ⟨rfl, I⟩)
end
section
def cb_a (rk r : Nat) (d : Nat → Nat) (a : Nat) : Nat := if a + rk < r then 1 else d (a + rk - r)
def cb_d (r : Nat) (A B : Nat → Nat) (a : Nat) : Nat := if a < r then (if A a ≤ B a then B a else A a) else 1
def cb_fit (r : Nat) (A B : Nat → Nat) : Prop := ∀ a, a < r → A a = B a ∨ A a = 1 ∨ B a = 1
def cb_s (E : Nat → Int32) (k rk r : Nat) (d dd : Nat → Nat) (a : Nat) : Int32 := if a < r ∧ r ≤ a + rk ∧ d (a + rk - r) = dd a then E (k + (a + rk - r)) else 0
def cb_c (rk r : Nat) (d : Nat → Nat) (x y z b : Nat) : Nat := if b < rk ∧ d b ≠ 1 then ab_crd x y z (b + r - rk) else 0
theorem cb_a4 {rk r a : Nat} {d : Nat → Nat} (h : ab_sh3 rk d) (hr : rk ≤ r) (hr3 : r ≤ 3) (ha : a < r) : 1 ≤ cb_a rk r d a ∧ cb_a rk r d a ≤ 4 := by
  unfold cb_a; split
  · omega
  · exact h.2.2 _ (by omega)
theorem cb_d3 {r : Nat} {A B : Nat → Nat} (hr3 : r ≤ 3) (hA : ∀ a, a < r → 1 ≤ A a ∧ A a ≤ 4) (hB : ∀ a, a < r → 1 ≤ B a ∧ B a ≤ 4) : ab_sh3 r (cb_d r A B) := by
  refine ⟨hr3, fun a h1 h2 => ?_, fun a ha => ?_⟩
  · unfold cb_d; rw [if_neg (by omega)]
  · unfold cb_d; split
    · rename_i z; have := hA a z; have := hB a z; split <;> omega
    · omega
theorem cb_mem {rk r : Nat} {d dd : Nat → Nat} {a : Nat} (hfit : ∀ a, a < r → cb_a rk r d a = dd a ∨ cb_a rk r d a = 1) (ha : a < r) (h : r ≤ a + rk) : d (a + rk - r) = dd a ∨ d (a + rk - r) = 1 := by
  have := hfit a ha
  unfold cb_a at this
  rw [if_neg (by omega)] at this
  exact this
theorem cb_rng {rk r x y z b : Nat} {d dd : Nat → Nat} (h : ab_sh3 rk d) (hr : rk ≤ r) (hr3 : r ≤ 3) (hfit : ∀ a, a < r → cb_a rk r d a = dd a ∨ cb_a rk r d a = 1) (hx : x < dd 0) (hy : y < dd 1) (hz : z < dd 2) (hb : b < 3) : cb_c rk r d x y z b < d b := by
  have b1 := h.2.2 b hb
  unfold cb_c
  split
  · rename_i c
    have m := cb_mem (a := b + r - rk) hfit (by omega) (by omega)
    rw [show b + r - rk + rk - r = b by omega] at m
    rcases m with m | m
    · rw [m]
      rcases (show b + r - rk = 0 ∨ b + r - rk = 1 ∨ b + r - rk = 2 by omega) with q | q | q <;> rw [q] <;> simp [ab_crd] <;> assumption
    · exact absurd m c.2
  · omega
theorem cb_t {E : Nat → Int32} {k rk r x y z b : Nat} {d dd : Nat → Nat} (h : ab_sh3 rk d) (hr : rk ≤ r) (hr3 : r ≤ 3) (hfit : ∀ a, a < r → cb_a rk r d a = dd a ∨ cb_a rk r d a = 1) (hx : x < dd 0) (hy : y < dd 1) (hz : z < dd 2) (hb : b < rk) : nI (ab_crd x y z (b + r - rk)) * cb_s E k rk r d dd (b + r - rk) = nI (cb_c rk r d x y z b) * E (k + b) := by
  have m := cb_mem (a := b + r - rk) hfit (by omega) (by omega)
  have c0 : ab_crd x y z (b + r - rk) < dd (b + r - rk) := by
    rcases (show b + r - rk = 0 ∨ b + r - rk = 1 ∨ b + r - rk = 2 by omega) with q | q | q <;> rw [q] <;> simp [ab_crd] <;> assumption
  rw [show b + r - rk + rk - r = b by omega] at m
  unfold cb_s cb_c
  rw [show b + r - rk + rk - r = b by omega]
  by_cases e1 : d b = dd (b + r - rk)
  · rw [if_pos ⟨by omega, by omega, e1⟩]
    by_cases e2 : d b = 1
    · rw [if_neg (fun q => q.2 e2), show ab_crd x y z (b + r - rk) = 0 by omega]
    · rw [if_pos ⟨hb, e2⟩]
  · rw [if_neg (fun q => e1 q.2.2)]
    rcases m with m | m
    · exact absurd m e1
    · rw [if_neg (fun q => q.2 m), nI_0]; grind
theorem cb_eq {E : Nat → Int32} {st : Int32} {k rk r x y z : Nat} {d dd : Nat → Nat} (h : ab_sh3 rk d) (hr : rk ≤ r) (hr3 : r ≤ 3) (hfit : ∀ a, a < r → cb_a rk r d a = dd a ∨ cb_a rk r d a = 1) (hx : x < dd 0) (hy : y < dd 1) (hz : z < dd 2) : st + nI x * cb_s E k rk r d dd 0 + nI y * cb_s E k rk r d dd 1 + nI z * cb_s E k rk r d dd 2 = st + nI (cb_c rk r d x y z 0) * E k + nI (cb_c rk r d x y z 1) * E (k + 1) + nI (cb_c rk r d x y z 2) * E (k + 2) := by
  have T := fun b => cb_t (E := E) (k := k) (b := b) h hr hr3 hfit hx hy hz
  have Z : ∀ a, (a + rk < r ∨ r ≤ a) → cb_s E k rk r d dd a = 0 := by
    intro a ha; unfold cb_s; rw [if_neg (by omega)]
  have O : ∀ b, rk ≤ b → cb_c rk r d x y z b = 0 := by
    intro b hb; unfold cb_c; rw [if_neg (by omega)]
  rcases (show (rk = 0 ∧ r ≤ 3) ∨ (rk = 1 ∧ r = 1) ∨ (rk = 1 ∧ r = 2) ∨ (rk = 1 ∧ r = 3) ∨ (rk = 2 ∧ r = 2) ∨ (rk = 2 ∧ r = 3) ∨ (rk = 3 ∧ r = 3) by omega) with ⟨rfl, hh⟩ | ⟨rfl, rfl⟩ | ⟨rfl, rfl⟩ | ⟨rfl, rfl⟩ | ⟨rfl, rfl⟩ | ⟨rfl, rfl⟩ | ⟨rfl, rfl⟩
  · rw [Z 0 (by omega), Z 1 (by omega), Z 2 (by omega), O 0 (by omega), O 1 (by omega), O 2 (by omega), nI_0]; grind
  · have t0 := T 0 (by omega)
    simp [ab_crd] at t0
    rw [Z 1 (by omega), Z 2 (by omega), O 1 (by omega), O 2 (by omega), nI_0, t0]; grind
  · have t0 := T 0 (by omega)
    simp [ab_crd] at t0
    rw [Z 0 (by omega), Z 2 (by omega), O 1 (by omega), O 2 (by omega), nI_0, t0]; grind
  · have t0 := T 0 (by omega)
    simp [ab_crd] at t0
    rw [Z 0 (by omega), Z 1 (by omega), O 1 (by omega), O 2 (by omega), nI_0, t0]; grind
  · have t0 := T 0 (by omega)
    have t1 := T 1 (by omega)
    simp [ab_crd] at t0 t1
    rw [Z 2 (by omega), O 2 (by omega), nI_0, t0, t1]; grind
  · have t0 := T 0 (by omega)
    have t1 := T 1 (by omega)
    simp [ab_crd] at t0 t1
    rw [Z 0 (by omega), O 2 (by omega), nI_0, t0, t1]; grind
  · have t0 := T 0 (by omega)
    have t1 := T 1 (by omega)
    have t2 := T 2 (by omega)
    simp [ab_crd] at t0 t1 t2
    rw [t0, t1, t2]
section
variable {f_slotsTaken f_elementsTaken f_slopeCount : Int32} {a_handleTaken a_handleIsView a_windowRank a_windowSlot a_windowStart a_windowDimension a_windowStride a_slotSize a_slotKind a_slotTerms a_slotNeeded a_slotsByAge a_values a_derivatives a_firstPlaces a_secondPlaces a_assigned a_slopes : Nat → Int32}
theorem xc_dfl {post : Int32 → Prop} {w rk r a : Nat} {d : Nat → Nat} (hw : w < 24) (hr : a_windowRank w = nI rk) (hk : rk ≤ r) (hr3 : r ≤ 3) (ha : a < r) (hd : ∀ i, i < 3 → a_windowDimension (3 * w + i) = nI (d i)) (hp : post (nI (cb_a rk r d a))) : wpX_dimensionFromLast post (f_slotsTaken, f_elementsTaken, f_slopeCount, a_handleTaken, a_handleIsView, a_windowRank, a_windowSlot, a_windowStart, a_windowDimension, a_windowStride, a_slotSize, a_slotKind, a_slotTerms, a_slotNeeded, a_slotsByAge, a_values, a_derivatives, a_firstPlaces, a_secondPlaces, a_assigned, a_slopes) (nI w) (nI r - nI a) := by
  have e : nI r - nI a = nI (r - a) := pk_sub (by omega)
  rw [e]
  unfold cb_a at hp
  by_cases z : a + rk < r
  · rw [if_pos z] at hp
    refine ⟨vp_in_nI (by omega) (by decide), nm_r (e' := nI rk - nI (r - a)) (by rw [nI_clamp (by omega), hr]) (br_t (pk_sneg (by omega) (by omega)) hp)⟩
  · rw [if_neg z] at hp
    refine ⟨vp_in_nI (by omega) (by decide), nm_r (e' := nI (a + rk - r)) (by rw [nI_clamp (by omega), hr, pk_sub (by omega)]; congr 1; omega) (br_f (nI_pos (by omega)) ⟨ab_vin ab_ix (by omega) (by decide), ?_⟩)⟩
    rw [ab_ix, nI_clamp (by omega), hd _ (by omega)]; exact hp
theorem xc_cs_s {post : Int32 → Prop} {w p rkw rkp r a q n : Nat} {dw dp : Nat → Nat} (hw : w < 24) (hp : p < 24) (hrw : a_windowRank w = nI rkw) (hrp : a_windowRank p = nI rkp) (hkw : rkw ≤ r) (hkp : rkp ≤ r) (hr3 : r ≤ 3) (ha : a < r) (hdw : ∀ i, i < 3 → a_windowDimension (3 * w + i) = nI (dw i)) (hdp : ∀ i, i < 3 → a_windowDimension (3 * p + i) = nI (dp i)) (h4 : cb_a rkw r dw a ≤ 4) (h5 : cb_a rkp r dp a ≤ 4) (hf : cb_a rkw r dw a = cb_a rkp r dp a ∨ cb_a rkw r dw a = 1 ∨ cb_a rkp r dp a = 1) (h : wX_commonShape_37 post (nI w) (nI p) (nI r) f_slotsTaken f_elementsTaken f_slopeCount a_handleTaken a_handleIsView a_windowRank a_windowSlot a_windowStart a_windowDimension a_windowStride a_slotSize a_slotKind a_slotTerms a_slotNeeded a_slotsByAge a_values a_derivatives a_firstPlaces a_secondPlaces a_assigned a_slopes n (nI (q + cb_d r (cb_a rkw r dw) (cb_a rkp r dp) a * 2 ^ (3 + 3 * a))) (nI (a + 1))) : wX_commonShape_37 post (nI w) (nI p) (nI r) f_slotsTaken f_elementsTaken f_slopeCount a_handleTaken a_handleIsView a_windowRank a_windowSlot a_windowStart a_windowDimension a_windowStride a_slotSize a_slotKind a_slotTerms a_slotNeeded a_slotsByAge a_values a_derivatives a_firstPlaces a_secondPlaces a_assigned a_slopes (n + 1) (nI q) (nI a) := by
  have K : wX_commonShape_86 post (wX_commonShape_37 post (nI w) (nI p) (nI r) f_slotsTaken f_elementsTaken f_slopeCount a_handleTaken a_handleIsView a_windowRank a_windowSlot a_windowStart a_windowDimension a_windowStride a_slotSize a_slotKind a_slotTerms a_slotNeeded a_slotsByAge a_values a_derivatives a_firstPlaces a_secondPlaces a_assigned a_slopes n) (nI w) (nI p) (nI r) (nI q) (nI a) (nI (cb_a rkw r dw a)) (nI (cb_a rkp r dp a)) f_slotsTaken f_elementsTaken f_slopeCount a_handleTaken a_handleIsView a_windowRank a_windowSlot a_windowStart a_windowDimension a_windowStride a_slotSize a_slotKind a_slotTerms a_slotNeeded a_slotsByAge a_values a_derivatives a_firstPlaces a_secondPlaces a_assigned a_slopes := by
    unfold cb_d at h
    rw [if_pos ha] at h
    by_cases z : cb_a rkw r dw a ≤ cb_a rkp r dp a
    · rw [if_pos z] at h
      exact br_t (nI_le z (by omega)) (xw_packedDim (by omega) (by omega) (nm_r (nI_add _ _) (nm_r (nI_1 a) h)))
    · rw [if_neg z] at h
      exact br_f (nI_ge (by omega) (by omega)) (xw_packedDim (by omega) (by omega) (nm_r (nI_add _ _) (nm_r (nI_1 a) h)))
  refine br_f (nI_ge ha (by omega)) (xc_dfl hw hrw hkw hr3 ha hdw (xc_dfl hp hrp hkp hr3 ha hdp ?_))
  refine br_c (fun _ => K) (fun n1 => br_c (fun _ => K) (fun n2 => br_c (fun _ => K) (fun n3 => ?_)))
  rcases hf with f | f | f
  · exact absurd (by rw [f]) n1
  · exact absurd (by rw [f]; rfl) n2
  · exact absurd (by rw [f]; rfl) n3
theorem xc_cs_f {post : Int32 → Prop} {w p rkw rkp r a n : Nat} {x : Int32} {dw dp : Nat → Nat} (hw : w < 24) (hp : p < 24) (hrw : a_windowRank w = nI rkw) (hrp : a_windowRank p = nI rkp) (hkw : rkw ≤ r) (hkp : rkp ≤ r) (hr3 : r ≤ 3) (ha : a < r) (hdw : ∀ i, i < 3 → a_windowDimension (3 * w + i) = nI (dw i)) (hdp : ∀ i, i < 3 → a_windowDimension (3 * p + i) = nI (dp i)) (h4 : cb_a rkw r dw a ≤ 4) (h5 : cb_a rkp r dp a ≤ 4) (hf : ¬ (cb_a rkw r dw a = cb_a rkp r dp a ∨ cb_a rkw r dw a = 1 ∨ cb_a rkp r dp a = 1)) (h : post (-1)) : wX_commonShape_37 post (nI w) (nI p) (nI r) f_slotsTaken f_elementsTaken f_slopeCount a_handleTaken a_handleIsView a_windowRank a_windowSlot a_windowStart a_windowDimension a_windowStride a_slotSize a_slotKind a_slotTerms a_slotNeeded a_slotsByAge a_values a_derivatives a_firstPlaces a_secondPlaces a_assigned a_slopes (n + 1) x (nI a) := by
  refine br_f (nI_ge ha (by omega)) (xc_dfl hw hrw hkw hr3 ha hdw (xc_dfl hp hrp hkp hr3 ha hdp (br_f ?_ (br_f ?_ (br_f ?_ h)))))
  · intro z; exact hf (Or.inl ((nI_eq (by omega) (by omega)).mp z))
  · intro z; exact hf (Or.inr (Or.inl ((nI_eq (b := 1) (by omega) (by decide)).mp z)))
  · intro z; exact hf (Or.inr (Or.inr ((nI_eq (b := 1) (by omega) (by decide)).mp z)))
theorem xc_common {post : Int32 → Prop} {w p rkw rkp r : Nat} {dw dp : Nat → Nat} (hw : w < 24) (hp : p < 24) (hrw : a_windowRank w = nI rkw) (hrp : a_windowRank p = nI rkp) (hr : r = if rkw ≤ rkp then rkp else rkw) (hr3 : r ≤ 3) (hdw : ∀ i, i < 3 → a_windowDimension (3 * w + i) = nI (dw i)) (hdp : ∀ i, i < 3 → a_windowDimension (3 * p + i) = nI (dp i)) (h4 : ∀ a, a < r → cb_a rkw r dw a ≤ 4) (h5 : ∀ a, a < r → cb_a rkp r dp a ≤ 4) (ht : cb_fit r (cb_a rkw r dw) (cb_a rkp r dp) → post (nI (ab_pk r (cb_d r (cb_a rkw r dw) (cb_a rkp r dp))))) (hf : ¬ cb_fit r (cb_a rkw r dw) (cb_a rkp r dp) → post (-1)) : wpX_commonShape post (f_slotsTaken, f_elementsTaken, f_slopeCount, a_handleTaken, a_handleIsView, a_windowRank, a_windowSlot, a_windowStart, a_windowDimension, a_windowStride, a_slotSize, a_slotKind, a_slotTerms, a_slotNeeded, a_slotsByAge, a_values, a_derivatives, a_firstPlaces, a_secondPlaces, a_assigned, a_slopes) (nI w) (nI p) := by
  have hkw : rkw ≤ r := by rw [hr]; split <;> omega
  have hkp : rkp ≤ r := by rw [hr]; split <;> omega
  have cw : (nI w).toNatClampNeg = w := nI_clamp (by omega)
  have cp : (nI p).toNatClampNeg = p := nI_clamp (by omega)
  have K : ∃ n, wX_commonShape_37 post (nI w) (nI p) (nI r) f_slotsTaken f_elementsTaken f_slopeCount a_handleTaken a_handleIsView a_windowRank a_windowSlot a_windowStart a_windowDimension a_windowStride a_slotSize a_slotKind a_slotTerms a_slotNeeded a_slotsByAge a_values a_derivatives a_firstPlaces a_secondPlaces a_assigned a_slopes n (nI r) 0 := by
    refine ⟨r + 1, ?_⟩
    have X : ∀ (n q a : Nat), a = r → (∀ i, i < a → cb_a rkw r dw i = cb_a rkp r dp i ∨ cb_a rkw r dw i = 1 ∨ cb_a rkp r dp i = 1) → q = ab_pk r (cb_d r (cb_a rkw r dw) (cb_a rkp r dp)) → wX_commonShape_37 post (nI w) (nI p) (nI r) f_slotsTaken f_elementsTaken f_slopeCount a_handleTaken a_handleIsView a_windowRank a_windowSlot a_windowStart a_windowDimension a_windowStride a_slotSize a_slotKind a_slotTerms a_slotNeeded a_slotsByAge a_values a_derivatives a_firstPlaces a_secondPlaces a_assigned a_slopes (n + 1) (nI q) (nI a) := by
      intro n q a e1 e2 e3
      rw [e1] at e2
      exact br_t (nI_le (by omega) (by omega)) (by rw [e3]; exact ht e2)
    have S : ∀ (n q a : Nat), a < r → ((cb_a rkw r dw a = cb_a rkp r dp a ∨ cb_a rkw r dw a = 1 ∨ cb_a rkp r dp a = 1) → wX_commonShape_37 post (nI w) (nI p) (nI r) f_slotsTaken f_elementsTaken f_slopeCount a_handleTaken a_handleIsView a_windowRank a_windowSlot a_windowStart a_windowDimension a_windowStride a_slotSize a_slotKind a_slotTerms a_slotNeeded a_slotsByAge a_values a_derivatives a_firstPlaces a_secondPlaces a_assigned a_slopes n (nI (q + cb_d r (cb_a rkw r dw) (cb_a rkp r dp) a * 2 ^ (3 + 3 * a))) (nI (a + 1))) → wX_commonShape_37 post (nI w) (nI p) (nI r) f_slotsTaken f_elementsTaken f_slopeCount a_handleTaken a_handleIsView a_windowRank a_windowSlot a_windowStart a_windowDimension a_windowStride a_slotSize a_slotKind a_slotTerms a_slotNeeded a_slotsByAge a_values a_derivatives a_firstPlaces a_secondPlaces a_assigned a_slopes (n + 1) (nI q) (nI a) := by
      intro n q a ha hn
      by_cases z : (cb_a rkw r dw a = cb_a rkp r dp a ∨ cb_a rkw r dw a = 1 ∨ cb_a rkp r dp a = 1)
      · exact xc_cs_s hw hp hrw hrp hkw hkp hr3 ha hdw hdp (h4 a ha) (h5 a ha) z (hn z)
      · exact xc_cs_f hw hp hrw hrp hkw hkp hr3 ha hdw hdp (h4 a ha) (h5 a ha) z (hf (fun q => z (q a ha)))
    generalize hD : cb_d r (cb_a rkw r dw) (cb_a rkp r dp) = dd at *
    rcases (show r = 0 ∨ r = 1 ∨ r = 2 ∨ r = 3 by omega) with z | z | z | z
    · rw [z] at X S ⊢
      exact X 0 0 0 rfl (fun i hi => absurd hi (by omega)) (by unfold ab_pk; simp)
    · rw [z] at X S ⊢
      refine S 1 1 0 (by omega) (fun k0 => X _ _ _ rfl ?_ (by unfold ab_pk; simp; omega))
      intro i hi
      rw [show i = 0 by omega]; exact k0
    · rw [z] at X S ⊢
      refine S 2 2 0 (by omega) (fun k0 => S _ _ 1 (by omega) (fun k1 => X _ _ _ rfl ?_ (by unfold ab_pk; simp; omega)))
      intro i hi
      rcases (show i = 0 ∨ i = 1 by omega) with y | y <;> rw [y]
      · exact k0
      · exact k1
    · rw [z] at X S ⊢
      refine S 3 3 0 (by omega) (fun k0 => S _ _ 1 (by omega) (fun k1 => S _ _ 2 (by omega) (fun k2 => X _ _ _ rfl ?_ (by unfold ab_pk; simp; omega))))
      intro i hi
      rcases (show i = 0 ∨ i = 1 ∨ i = 2 by omega) with y | y | y <;> rw [y]
      · exact k0
      · exact k1
      · exact k2
  refine ⟨vp_in_nI (by omega) (by decide), vp_in_nI (by omega) (by decide), ?_⟩
  rw [cw, cp, hrw, hrp]
  by_cases z : rkw ≤ rkp
  · rw [if_pos z] at hr
    subst hr
    exact br_t (nI_le z (by omega)) ⟨vp_in_nI (by omega) (by decide), nm_e K⟩
  · rw [if_neg z] at hr
    subst hr
    exact br_f (nI_ge (by omega) (by omega)) ⟨vp_in_nI (by omega) (by decide), nm_e K⟩
theorem xc_sp_s {post : SX → Prop} {w t v rk r a n : Nat} {d dd : Nat → Nat} (hw : w < 24) (ht : t < 88) (hv : v < 24) (hk : rk ≤ r) (hr3 : r ≤ 3) (ha : a < r) (hdw : ∀ i, i < 3 → a_windowDimension (3 * w + i) = nI (d i)) (hdv : a_windowDimension (3 * v + a) = nI (dd a)) (h4 : ∀ i, i < 3 → d i ≤ 4) (h5 : dd a ≤ 4) (h : wX_spreadWindow_30 post (nI w) (nI t) (nI v) (nI r) (nI (r - rk)) n (nI (a + 1)) f_slotsTaken f_elementsTaken f_slopeCount a_handleTaken a_handleIsView a_windowRank a_windowSlot a_windowStart (upd a_windowDimension (3 * t + a) (nI (dd a))) (upd a_windowStride (3 * t + a) (cb_s a_windowStride (3 * w) rk r d dd a)) a_slotSize a_slotKind a_slotTerms a_slotNeeded a_slotsByAge a_values a_derivatives a_firstPlaces a_secondPlaces a_assigned a_slopes) : wX_spreadWindow_30 post (nI w) (nI t) (nI v) (nI r) (nI (r - rk)) (n + 1) (nI a) f_slotsTaken f_elementsTaken f_slopeCount a_handleTaken a_handleIsView a_windowRank a_windowSlot a_windowStart a_windowDimension a_windowStride a_slotSize a_slotKind a_slotTerms a_slotNeeded a_slotsByAge a_values a_derivatives a_firstPlaces a_secondPlaces a_assigned a_slopes := by
  unfold cb_s at h
  refine br_f (nI_ge ha (by omega)) ⟨ab_vin ab_ix (by omega) (by decide), nm_r (e' := nI (dd a)) (by rw [ab_ix, nI_clamp (by omega), hdv]) (nm_e ?_)⟩
  by_cases z : a < r - rk
  · rw [if_neg (by omega)] at h
    exact br_t (nI_lt z (by omega)) (br_t rfl (xw_setAxis ht (by omega) (nm_r (nI_1 a) h)))
  · have e8 : nI w * 3 + nI a - nI (r - rk) = nI (3 * w + (a + rk - r)) := by
      rw [ab_ix, pk_sub (by omega)]; congr 1; omega
    have b4 := h4 (a + rk - r) (by omega)
    rw [e8, nI_clamp (by omega), hdw _ (by omega)]
    refine br_f (nI_nlt (by omega) (by omega)) ⟨vp_in_nI (by omega) (by decide), ?_⟩
    by_cases y : d (a + rk - r) = dd a
    · rw [if_pos ⟨ha, by omega, y⟩] at h
      refine br_t (by rw [y]) (br_f ab_10 ⟨vp_in_nI (by omega) (by decide), ?_⟩)
      rw [nI_clamp (by omega)]
      exact xw_setAxis ht (by omega) (nm_r (nI_1 a) h)
    · rw [if_neg (fun q => y q.2.2)] at h
      exact br_f (fun q => y ((nI_eq (by omega) (by omega)).mp q)) (br_t rfl (xw_setAxis ht (by omega) (nm_r (nI_1 a) h)))
end
end
section
theorem cb_sE {E E' : Nat → Int32} {k rk r a : Nat} {d dd : Nat → Nat} (hk : rk ≤ 3) (h : ∀ i, i < 3 → E' (k + i) = E (k + i)) : cb_s E' k rk r d dd a = cb_s E k rk r d dd a := by
  unfold cb_s
  by_cases z : a < r ∧ r ≤ a + rk ∧ d (a + rk - r) = dd a
  · rw [if_pos z, if_pos z]; exact h _ (by omega)
  · rw [if_neg z, if_neg z]
section
variable {f_slotsTaken f_elementsTaken f_slopeCount : Int32} {a_handleTaken a_handleIsView a_windowRank a_windowSlot a_windowStart a_windowDimension a_windowStride a_slotSize a_slotKind a_slotTerms a_slotNeeded a_slotsByAge a_values a_derivatives a_firstPlaces a_secondPlaces a_assigned a_slopes : Nat → Int32}
theorem xc_spread {post : SX → Prop} {w t v rk r : Nat} {d dd : Nat → Nat} (hw : w < 24) (ht : t < 88) (ht2 : 24 ≤ t) (hv : v < 24) (hk : rk ≤ r) (hr3 : r ≤ 3) (hrw : a_windowRank w = nI rk) (hrv : a_windowRank v = nI r) (hdw : ∀ i, i < 3 → a_windowDimension (3 * w + i) = nI (d i)) (hdv : ∀ i, i < 3 → a_windowDimension (3 * v + i) = nI (dd i)) (h4 : ∀ i, i < 3 → d i ≤ 4) (h5 : ∀ i, i < 3 → dd i ≤ 4) (h1 : ∀ i, r ≤ i → i < 3 → dd i = 1) (h : post (f_slotsTaken, f_elementsTaken, f_slopeCount, a_handleTaken, a_handleIsView, upd a_windowRank t (nI r), upd a_windowSlot t (a_windowSlot w), upd a_windowStart t (a_windowStart w), ab_up3 a_windowDimension (3 * t) (nI (dd 0)) (nI (dd 1)) (nI (dd 2)), ab_up3 a_windowStride (3 * t) (cb_s a_windowStride (3 * w) rk r d dd 0) (cb_s a_windowStride (3 * w) rk r d dd 1) (cb_s a_windowStride (3 * w) rk r d dd 2), a_slotSize, a_slotKind, a_slotTerms, a_slotNeeded, a_slotsByAge, a_values, a_derivatives, a_firstPlaces, a_secondPlaces, a_assigned, a_slopes)) : wpX_spreadWindow post (f_slotsTaken, f_elementsTaken, f_slopeCount, a_handleTaken, a_handleIsView, a_windowRank, a_windowSlot, a_windowStart, a_windowDimension, a_windowStride, a_slotSize, a_slotKind, a_slotTerms, a_slotNeeded, a_slotsByAge, a_values, a_derivatives, a_firstPlaces, a_secondPlaces, a_assigned, a_slopes) (nI w) (nI t) (nI v) := by
  have cv : (nI v).toNatClampNeg = v := nI_clamp (by omega)
  have cw : (nI w).toNatClampNeg = w := nI_clamp (by omega)
  have Z : ∀ a, r ≤ a → cb_s a_windowStride (3 * w) rk r d dd a = 0 := by
    intro a ha; unfold cb_s; rw [if_neg (by omega)]
  have Ew : ∀ (f : Nat → Int32) (A B C : Int32) (i : Nat), i < 3 → ab_up3 f (3 * t) A B C (3 * w + i) = f (3 * w + i) := fun f A B C i hi => ab_en (by omega)
  have Ev : ∀ (f : Nat → Int32) (A B C : Int32) (i : Nat), i < 3 → ab_up3 f (3 * t) A B C (3 * v + i) = f (3 * v + i) := fun f A B C i hi => ab_en (by omega)
  have Cs : ∀ (A B C : Int32) (a : Nat), cb_s (ab_up3 a_windowStride (3 * t) A B C) (3 * w) rk r d dd a = cb_s a_windowStride (3 * w) rk r d dd a := fun A B C a => cb_sE (by omega) (fun i hi => Ew _ _ _ _ i hi)
  refine ⟨vp_in_nI (by omega) (by decide), nm_r (e' := nI r) (by rw [cv, hrv]) ⟨vp_in_nI (by omega) (by decide), nm_r (e' := nI (r - rk)) (by rw [cw, hrw, pk_sub hk]) (xw_startWindow ht (by omega) ⟨r + 1, ?_⟩)⟩⟩
  have X : ∀ (n a : Nat) (D E : Nat → Int32), a = r → D = ab_up3 a_windowDimension (3 * t) (nI (dd 0)) (nI (dd 1)) (nI (dd 2)) → E = ab_up3 a_windowStride (3 * t) (cb_s a_windowStride (3 * w) rk r d dd 0) (cb_s a_windowStride (3 * w) rk r d dd 1) (cb_s a_windowStride (3 * w) rk r d dd 2) → wX_spreadWindow_30 post (nI w) (nI t) (nI v) (nI r) (nI (r - rk)) (n + 1) (nI a) f_slotsTaken f_elementsTaken f_slopeCount a_handleTaken a_handleIsView (upd a_windowRank t (nI r)) (upd a_windowSlot t (a_windowSlot w)) (upd a_windowStart t (a_windowStart w)) D E a_slotSize a_slotKind a_slotTerms a_slotNeeded a_slotsByAge a_values a_derivatives a_firstPlaces a_secondPlaces a_assigned a_slopes := by
    intro n a D E e1 e2 e3
    rw [e2, e3]
    exact br_t (nI_le (by omega) (by omega)) h
  have S : ∀ (n a : Nat) (A B C A' B' C' : Int32), a < r → wX_spreadWindow_30 post (nI w) (nI t) (nI v) (nI r) (nI (r - rk)) n (nI (a + 1)) f_slotsTaken f_elementsTaken f_slopeCount a_handleTaken a_handleIsView (upd a_windowRank t (nI r)) (upd a_windowSlot t (a_windowSlot w)) (upd a_windowStart t (a_windowStart w)) (upd (ab_up3 a_windowDimension (3 * t) A B C) (3 * t + a) (nI (dd a))) (upd (ab_up3 a_windowStride (3 * t) A' B' C') (3 * t + a) (cb_s a_windowStride (3 * w) rk r d dd a)) a_slotSize a_slotKind a_slotTerms a_slotNeeded a_slotsByAge a_values a_derivatives a_firstPlaces a_secondPlaces a_assigned a_slopes → wX_spreadWindow_30 post (nI w) (nI t) (nI v) (nI r) (nI (r - rk)) (n + 1) (nI a) f_slotsTaken f_elementsTaken f_slopeCount a_handleTaken a_handleIsView (upd a_windowRank t (nI r)) (upd a_windowSlot t (a_windowSlot w)) (upd a_windowStart t (a_windowStart w)) (ab_up3 a_windowDimension (3 * t) A B C) (ab_up3 a_windowStride (3 * t) A' B' C') a_slotSize a_slotKind a_slotTerms a_slotNeeded a_slotsByAge a_values a_derivatives a_firstPlaces a_secondPlaces a_assigned a_slopes := by
    intro n a A B C A' B' C' ha hn
    refine xc_sp_s (d := d) (dd := dd) hw ht hv hk hr3 ha (fun i hi => by rw [Ew _ _ _ _ i hi]; exact hdw i hi) (by rw [Ev _ _ _ _ a (by omega)]; exact hdv a (by omega)) h4 (h5 a (by omega)) ?_
    rw [Cs]
    exact hn
  rcases (show r = 0 ∨ r = 1 ∨ r = 2 ∨ r = 3 by omega) with z | z | z | z
  · have o0 := h1 0 (by omega) (by omega)
    have o1 := h1 1 (by omega) (by omega)
    have o2 := h1 2 (by omega) (by omega)
    rw [Z 0 (by omega), Z 1 (by omega), Z 2 (by omega), o0, o1, o2] at X
    rw [show r + 1 = 0 + 1 by omega]
    exact X 0 0 _ _ (by omega) rfl rfl
  · have o1 := h1 1 (by omega) (by omega)
    have o2 := h1 2 (by omega) (by omega)
    rw [Z 1 (by omega), Z 2 (by omega), o1, o2] at X
    rw [show r + 1 = 1 + 1 by omega]
    refine S 1 0 _ _ _ _ _ _ (by omega) (X 0 _ _ _ (by omega) ?_ ?_)
    · rw [ab_u30z]; rfl
    · rw [ab_u30z]
  · have o2 := h1 2 (by omega) (by omega)
    rw [Z 2 (by omega), o2] at X
    rw [show r + 1 = 2 + 1 by omega]
    refine S 2 0 _ _ _ _ _ _ (by omega) ?_
    rw [ab_u30z, ab_u30z]
    refine S 1 1 _ _ _ _ _ _ (by omega) (X 0 _ _ _ (by omega) ?_ ?_)
    · rw [ab_u31]; rfl
    · rw [ab_u31]
  · rw [show r + 1 = 3 + 1 by omega]
    refine S 3 0 _ _ _ _ _ _ (by omega) ?_
    rw [ab_u30z, ab_u30z]
    refine S 2 1 _ _ _ _ _ _ (by omega) ?_
    rw [ab_u31, ab_u31]
    refine S 1 2 _ _ _ _ _ _ (by omega) (X 0 _ _ _ (by omega) ?_ ?_)
    · rw [ab_u32]
    · rw [ab_u32]
theorem xc_combine {post : Int32 → SX → Prop} {w p v s r c m op rkw rkp : Nat} {dd dw dp : Nat → Nat} (hop : op ≤ 2) (hw : w < 24) (hp : p < 24) (hT : ¬ a_handleTaken w = 0) (hTp : ¬ a_handleTaken p = 0) (hrw : a_windowRank w = nI rkw) (hrp : a_windowRank p = nI rkp) (hr : r = if rkw ≤ rkp then rkp else rkw) (hr3 : r ≤ 3) (hdw : ∀ i, i < 3 → a_windowDimension (3 * w + i) = nI (dw i)) (hdp : ∀ i, i < 3 → a_windowDimension (3 * p + i) = nI (dp i)) (hw4 : ∀ i, i < 3 → dw i ≤ 4) (hp4 : ∀ i, i < 3 → dp i ≤ 4) (h4 : ∀ a, a < r → cb_a rkw r dw a ≤ 4) (h5 : ∀ a, a < r → cb_a rkp r dp a ≤ 4) (hfit : cb_fit r (cb_a rkw r dw) (cb_a rkp r dp)) (hdd : cb_d r (cb_a rkw r dw) (cb_a rkp r dp) = dd) (H : ab_sh3 r dd) (hc : f_elementsTaken = nI c) (hce : c + dd 0 * dd 1 * dd 2 ≤ 320) (hm : f_slotsTaken = nI m) (hm2 : m < 32) (hs : s < 32) (hs0 : a_slotSize s = 0) (hsl : ∀ j, j < s → ¬ a_slotSize j = 0) (hv : v < 24) (hv0 : a_handleTaken v = 0) (hvl : ∀ j, j < v → ¬ a_handleTaken j = 0) (h : post (nI v) (nI (m + 1), nI (c + dd 0 * dd 1 * dd 2), f_slopeCount, upd a_handleTaken v 1, upd a_handleIsView v 0, mk_u a_windowRank v s (nI r) (nI r) (nI r), mk_u a_windowSlot v s (nI s) (a_windowSlot w) (a_windowSlot p), mk_u a_windowStart v s (nI (64 * s)) (a_windowStart w) (a_windowStart p), mk_3 a_windowDimension v s (nI (dd 0)) (nI (dd 1)) (nI (dd 2)) (nI (dd 0)) (nI (dd 1)) (nI (dd 2)) (nI (dd 0)) (nI (dd 1)) (nI (dd 2)), mk_3 a_windowStride v s (nI (ab_st r dd 0)) (nI (ab_st r dd 1)) (nI (ab_st r dd 2)) (cb_s a_windowStride (3 * w) rkw r dw dd 0) (cb_s a_windowStride (3 * w) rkw r dw dd 1) (cb_s a_windowStride (3 * w) rkw r dw dd 2) (cb_s a_windowStride (3 * p) rkp r dp dd 0) (cb_s a_windowStride (3 * p) rkp r dp dd 1) (cb_s a_windowStride (3 * p) rkp r dp dd 2), upd a_slotSize s (nI (dd 0 * dd 1 * dd 2)), upd a_slotKind s (nI op), upd a_slotTerms s 1, a_slotNeeded, upd a_slotsByAge m (nI s), a_values, a_derivatives, a_firstPlaces, a_secondPlaces, a_assigned, a_slopes)) : wpX_combine post (f_slotsTaken, f_elementsTaken, f_slopeCount, a_handleTaken, a_handleIsView, a_windowRank, a_windowSlot, a_windowStart, a_windowDimension, a_windowStride, a_slotSize, a_slotKind, a_slotTerms, a_slotNeeded, a_slotsByAge, a_values, a_derivatives, a_firstPlaces, a_secondPlaces, a_assigned, a_slopes) (nI op) (nI w) (nI p) := by
  have hn : w ≠ v := fun e => hT (e ▸ hv0)
  have hnp : p ≠ v := fun e => hTp (e ▸ hv0)
  have hkw : rkw ≤ r := by rw [hr]; split <;> omega
  have hkp : rkp ≤ r := by rw [hr]; split <;> omega
  unfold wpX_combine
  refine br_f (nI_pos (by omega)) (br_f (nI_nlt (a := 2) hop (by decide)) (xw_isHandle_t hw hT (br_f ab_10 (xw_isHandle_t hp hTp (br_f ab_10 (xc_common hw hp hrw hrp hr hr3 hdw hdp h4 h5 (fun _ => br_t (nI_pos' (by have := (ab_pkf H).1; rw [hdd]; omega)) ?_) (fun z => absurd hfit z)))))))
  rw [hdd]
  refine xw_makeTensor_s H hc hce hm hm2 hs hs0 hsl hv hv0 hvl (br_f (nI_pos (by omega)) ⟨vp_in_nI (by omega) (by decide), ?_⟩)
  rw [nI_clamp (by omega), pk_us]
  have b5 : ∀ i, i < 3 → dd i ≤ 4 := fun i hi => (H.2.2 i hi).2
  refine xw_firstSource (xc_spread (rk := rkw) (r := r) (d := dw) (dd := dd) hw (by omega) (by omega) hv hkw hr3 (by rw [pk_un hn]; exact hrw) pk_us (fun i hi => by rw [ab_en (by omega)]; exact hdw i hi) (fun i hi => ?_) hw4 b5 H.2.1 ?_)
  · rcases (show i = 0 ∨ i = 1 ∨ i = 2 by omega) with rfl | rfl | rfl
    · exact ab_e0
    · exact ab_e1
    · exact ab_e2
  rw [show nI (24 + 2 * s) + 1 = nI (25 + 2 * s) from by rw [nI_1]; congr 1; omega]
  refine xc_spread (rk := rkp) (r := r) (d := dp) (dd := dd) hp (by omega) (by omega) hv hkp hr3 (by rw [pk_un (by omega), pk_un hnp]; exact hrp) (by rw [pk_un (by omega)]; exact pk_us) (fun i hi => by rw [ab_en (by omega), ab_en (by omega)]; exact hdp i hi) (fun i hi => ?_) hp4 b5 H.2.1 ?_
  · rw [ab_en (by omega)]
    rcases (show i = 0 ∨ i = 1 ∨ i = 2 by omega) with rfl | rfl | rfl
    · exact ab_e0
    · exact ab_e1
    · exact ab_e2
  have C1 : ∀ (A B C : Int32) (a : Nat), cb_s (ab_up3 a_windowStride (3 * v) A B C) (3 * w) rkw r dw dd a = cb_s a_windowStride (3 * w) rkw r dw dd a := fun A B C a => cb_sE (by omega) (fun i hi => ab_en (by omega))
  have C2 : ∀ (A B C A' B' C' : Int32) (a : Nat), cb_s (ab_up3 (ab_up3 a_windowStride (3 * v) A B C) (3 * (24 + 2 * s)) A' B' C') (3 * p) rkp r dp dd a = cb_s a_windowStride (3 * p) rkp r dp dd a := fun A B C A' B' C' a => cb_sE (by omega) (fun i hi => by rw [ab_en (by omega), ab_en (by omega)])
  rw [C2, C2, C2, C1, C1, C1, pk_un (show p ≠ 24 + 2 * s by omega), pk_un (show p ≠ 24 + 2 * s by omega), pk_un hnp, pk_un hnp, pk_un hn, pk_un hn]
  exact h
theorem xc_combine_n {post : Int32 → SX → Prop} {w p r c op rkw rkp : Nat} {dw dp : Nat → Nat} (hop : op ≤ 2) (hw : w < 24) (hp : p < 24) (hT : ¬ a_handleTaken w = 0) (hTp : ¬ a_handleTaken p = 0) (hrw : a_windowRank w = nI rkw) (hrp : a_windowRank p = nI rkp) (hr : r = if rkw ≤ rkp then rkp else rkw) (hr3 : r ≤ 3) (hdw : ∀ i, i < 3 → a_windowDimension (3 * w + i) = nI (dw i)) (hdp : ∀ i, i < 3 → a_windowDimension (3 * p + i) = nI (dp i)) (h4 : ∀ a, a < r → cb_a rkw r dw a ≤ 4) (h5 : ∀ a, a < r → cb_a rkp r dp a ≤ 4) (H : ab_sh3 r (cb_d r (cb_a rkw r dw) (cb_a rkp r dp))) (hc : f_elementsTaken = nI c) (hc2 : c ≤ 320) (hno : cb_fit r (cb_a rkw r dw) (cb_a rkp r dp) → (∀ t, t < 32 → ¬ a_slotSize t = 0) ∨ 320 < c + cb_d r (cb_a rkw r dw) (cb_a rkp r dp) 0 * cb_d r (cb_a rkw r dw) (cb_a rkp r dp) 1 * cb_d r (cb_a rkw r dw) (cb_a rkp r dp) 2 ∨ (∀ j, j < 24 → ¬ a_handleTaken j = 0)) (h : post (-1) (f_slotsTaken, f_elementsTaken, f_slopeCount, a_handleTaken, a_handleIsView, a_windowRank, a_windowSlot, a_windowStart, a_windowDimension, a_windowStride, a_slotSize, a_slotKind, a_slotTerms, a_slotNeeded, a_slotsByAge, a_values, a_derivatives, a_firstPlaces, a_secondPlaces, a_assigned, a_slopes)) : wpX_combine post (f_slotsTaken, f_elementsTaken, f_slopeCount, a_handleTaken, a_handleIsView, a_windowRank, a_windowSlot, a_windowStart, a_windowDimension, a_windowStride, a_slotSize, a_slotKind, a_slotTerms, a_slotNeeded, a_slotsByAge, a_values, a_derivatives, a_firstPlaces, a_secondPlaces, a_assigned, a_slopes) (nI op) (nI w) (nI p) := by
  unfold wpX_combine
  refine br_f (nI_pos (by omega)) (br_f (nI_nlt (a := 2) hop (by decide)) (xw_isHandle_t hw hT (br_f ab_10 (xw_isHandle_t hp hTp (br_f ab_10 (xc_common hw hp hrw hrp hr hr3 hdw hdp h4 h5 (fun z => br_t (nI_pos' (by have := (ab_pkf H).1; omega)) ?_) (fun z => br_f (by decide) h)))))))
  exact xw_makeTensor_n H hc hc2 (hno z) (br_t (by decide) h)
end
end
section
section
variable {c_cells c_slopeCount : Int32} {b_used b_rank b_dims b_shown b_tensorOf b_view b_exists b_kind b_first b_second b_owner b_parts b_partCount b_value b_slopeOf b_order b_slopes : Nat → Int32}
theorem yc_al {post : Int32 → Prop} {w rk r a : Nat} {d : Nat → Nat} (hw : w < 25) (H : yb_row b_rank b_dims w rk d) (hk : rk ≤ r) (hr3 : r ≤ 3) (ha : a < r) (hp : post (nI (cb_a rk r d a))) : wpY_aligned post (c_cells, c_slopeCount, b_used, b_rank, b_dims, b_shown, b_tensorOf, b_view, b_exists, b_kind, b_first, b_second, b_owner, b_parts, b_partCount, b_value, b_slopeOf, b_order, b_slopes) (nI w) (nI r) (nI a) := by
  have hc : (nI w).toNatClampNeg = w := nI_clamp (by omega)
  have hv : vp_in (nI w) 25 := vp_in_nI hw (by decide)
  refine ⟨hv, ?_⟩
  rw [hc, H.1]
  unfold cb_a at hp
  by_cases z : a + rk < r
  · rw [if_pos z] at hp
    refine br_f ?_ hp
    rw [show nI a - nI r + nI rk = nI (a + rk) - nI r from by rw [← nI_add]; grind]
    exact Int32.not_le.mpr (pk_sneg (by omega) z)
  · rw [if_neg z] at hp
    rw [show nI a - nI r + nI rk = nI (a + rk - r) from by rw [← pk_sub (by omega), ← nI_add]; grind]
    refine br_t (nI_pos' (by omega)) ⟨hv, yb_dim hw (by omega) ?_⟩
    rw [H.2.2.1 _ (by omega)]; exact hp
theorem yc_sp_s {post : Int32 → Prop} {w rk r a e at' n : Nat} {d dd : Nat → Nat} (hw : w < 25) (H : yb_row b_rank b_dims w rk d) (H24 : yb_row b_rank b_dims 24 r dd) (hk : rk ≤ r) (ha : a < r) (he : e < 64) (h : wY_spread_14 post (nI w) (nI e) (nI r) c_cells c_slopeCount b_used b_rank b_dims b_shown b_tensorOf b_view b_exists b_kind b_first b_second b_owner b_parts b_partCount b_value b_slopeOf b_order b_slopes n (nI (at' * cb_a rk r d a + (if cb_a rk r d a = 1 then 0 else ab_crd (e / (dd 1 * dd 2) % dd 0) (e / dd 2 % dd 1) (e % dd 2) a))) (nI (a + 1))) : wY_spread_14 post (nI w) (nI e) (nI r) c_cells c_slopeCount b_used b_rank b_dims b_shown b_tensorOf b_view b_exists b_kind b_first b_second b_owner b_parts b_partCount b_value b_slopeOf b_order b_slopes (n + 1) (nI at') (nI a) := by
  have hr3 := H24.2.1
  have c4 := cb_a4 (rk := rk) (r := r) (a := a) (d := d) ⟨H.2.1, H.2.2.2.1, H.2.2.2.2⟩ hk hr3 ha
  refine br_f (nI_ge ha (by omega)) (yc_al hw H hk hr3 ha ?_)
  by_cases z : cb_a rk r d a = 1
  · rw [if_pos z] at h
    refine br_t (by rw [z]; rfl) (nm_r (e' := nI (at' * cb_a rk r d a + 0)) ?_ (nm_r (nI_1 a) h))
    rw [pk_mul, Nat.add_zero, Int32.add_zero]
  · rw [if_neg z] at h
    refine br_f (fun q => z ((nI_eq (b := 1) (by omega) (by decide)).mp q)) (yb_index (h := 24) (by omega) H24 (by omega) (by omega) (nm_r ?_ (nm_r (nI_1 a) h)))
    rw [pk_mul, nI_add]
theorem yc_spread {post : Int32 → Prop} {w rk r e : Nat} {d dd : Nat → Nat} (hw : w < 24) (H : yb_row b_rank b_dims w rk d) (H24 : yb_row b_rank b_dims 24 r dd) (hk : rk ≤ r) (he : e < 64) (hfit : ∀ a, a < r → cb_a rk r d a = dd a ∨ cb_a rk r d a = 1) (hp : post (b_shown (64 * w + ((cb_c rk r d (e / (dd 1 * dd 2) % dd 0) (e / dd 2 % dd 1) (e % dd 2) 0 * d 1 + cb_c rk r d (e / (dd 1 * dd 2) % dd 0) (e / dd 2 % dd 1) (e % dd 2) 1) * d 2 + cb_c rk r d (e / (dd 1 * dd 2) % dd 0) (e / dd 2 % dd 1) (e % dd 2) 2)))) : wpY_spread post (c_cells, c_slopeCount, b_used, b_rank, b_dims, b_shown, b_tensorOf, b_view, b_exists, b_kind, b_first, b_second, b_owner, b_parts, b_partCount, b_value, b_slopeOf, b_order, b_slopes) (nI w) (nI e) := by
  have hr3 := H24.2.1
  have h3 : ab_sh3 rk d := ⟨H.2.1, H.2.2.2.1, H.2.2.2.2⟩
  have hb4 := H24.2.2.2.2
  obtain ⟨i1, i2, i3⟩ := ab_pfi (e := e) (hb4 0 (by omega)).1 (hb4 1 (by omega)).1 (hb4 2 (by omega)).1
  have R := fun b (hb : b < 3) => cb_rng (b := b) h3 hk hr3 hfit i1 i2 i3 hb
  have hl := ab_lin (R 0 (by omega)) (R 1 (by omega)) (R 2 (by omega))
  have hs := ab_sz (h3.2.2 0 (by omega)).2 (h3.2.2 1 (by omega)).2 (h3.2.2 2 (by omega)).2
  have X : ∀ (n q a : Nat), a = r → q = (cb_c rk r d (e / (dd 1 * dd 2) % dd 0) (e / dd 2 % dd 1) (e % dd 2) 0 * d 1 + cb_c rk r d (e / (dd 1 * dd 2) % dd 0) (e / dd 2 % dd 1) (e % dd 2) 1) * d 2 + cb_c rk r d (e / (dd 1 * dd 2) % dd 0) (e / dd 2 % dd 1) (e % dd 2) 2 → wY_spread_14 post (nI w) (nI e) (nI r) c_cells c_slopeCount b_used b_rank b_dims b_shown b_tensorOf b_view b_exists b_kind b_first b_second b_owner b_parts b_partCount b_value b_slopeOf b_order b_slopes (n + 1) (nI q) (nI a) := by
    intro n q a e1 e2
    refine br_t (nI_le (by omega) (by omega)) ⟨ab_vin ab_i64 (by omega) (by decide), ?_⟩
    rw [ab_i64, nI_clamp (by omega), e2]; exact hp
  have S : ∀ (n at' a : Nat), a < r → wY_spread_14 post (nI w) (nI e) (nI r) c_cells c_slopeCount b_used b_rank b_dims b_shown b_tensorOf b_view b_exists b_kind b_first b_second b_owner b_parts b_partCount b_value b_slopeOf b_order b_slopes n (nI (at' * cb_a rk r d a + (if cb_a rk r d a = 1 then 0 else ab_crd (e / (dd 1 * dd 2) % dd 0) (e / dd 2 % dd 1) (e % dd 2) a))) (nI (a + 1)) → wY_spread_14 post (nI w) (nI e) (nI r) c_cells c_slopeCount b_used b_rank b_dims b_shown b_tensorOf b_view b_exists b_kind b_first b_second b_owner b_parts b_partCount b_value b_slopeOf b_order b_slopes (n + 1) (nI at') (nI a) := fun n at' a ha hh => yc_sp_s (show w < 25 by omega) H H24 hk ha he hh
  refine nm_r (e' := nI r) H24.1 ⟨r + 1, ?_⟩
  generalize e / (dd 1 * dd 2) % dd 0 = x at *
  generalize e / dd 2 % dd 1 = y at *
  generalize e % dd 2 = z at *
  have o0 := h3.2.1 0
  have o1 := h3.2.1 1
  have o2 := h3.2.1 2
  rcases (show (rk = 0 ∧ r = 0) ∨ (rk = 0 ∧ r = 1) ∨ (rk = 0 ∧ r = 2) ∨ (rk = 0 ∧ r = 3) ∨ (rk = 1 ∧ r = 1) ∨ (rk = 1 ∧ r = 2) ∨ (rk = 1 ∧ r = 3) ∨ (rk = 2 ∧ r = 2) ∨ (rk = 2 ∧ r = 3) ∨ (rk = 3 ∧ r = 3) by omega) with ⟨rfl, rfl⟩ | ⟨rfl, rfl⟩ | ⟨rfl, rfl⟩ | ⟨rfl, rfl⟩ | ⟨rfl, rfl⟩ | ⟨rfl, rfl⟩ | ⟨rfl, rfl⟩ | ⟨rfl, rfl⟩ | ⟨rfl, rfl⟩ | ⟨rfl, rfl⟩
  · exact X 0 0 0 rfl (by simp [cb_c])
  · exact S 1 0 0 (by omega) (X 0 _ _ rfl (by simp [cb_c, cb_a]))
  · exact S 2 0 0 (by omega) (S 1 _ 1 (by omega) (X 0 _ _ rfl (by simp [cb_c, cb_a])))
  · exact S 3 0 0 (by omega) (S 2 _ 1 (by omega) (S 1 _ 2 (by omega) (X 0 _ _ rfl (by simp [cb_c, cb_a]))))
  · refine S 1 0 0 (by omega) (X 0 _ _ rfl ?_)
    rw [o1 (by omega) (by omega), o2 (by omega) (by omega)]
    by_cases q : d 0 = 1 <;> simp [cb_c, cb_a, q, ab_crd]
  · refine S 2 0 0 (by omega) (S 1 _ 1 (by omega) (X 0 _ _ rfl ?_))
    rw [o1 (by omega) (by omega), o2 (by omega) (by omega)]
    by_cases q : d 0 = 1 <;> simp [cb_c, cb_a, q, ab_crd]
  · refine S 3 0 0 (by omega) (S 2 _ 1 (by omega) (S 1 _ 2 (by omega) (X 0 _ _ rfl ?_)))
    rw [o1 (by omega) (by omega), o2 (by omega) (by omega)]
    by_cases q : d 0 = 1 <;> simp [cb_c, cb_a, q, ab_crd]
  · refine S 2 0 0 (by omega) (S 1 _ 1 (by omega) (X 0 _ _ rfl ?_))
    rw [o2 (by omega) (by omega)]
    by_cases q : d 0 = 1 <;> by_cases q1 : d 1 = 1 <;> simp [cb_c, cb_a, q, q1, ab_crd]
  · refine S 3 0 0 (by omega) (S 2 _ 1 (by omega) (S 1 _ 2 (by omega) (X 0 _ _ rfl ?_)))
    rw [o2 (by omega) (by omega)]
    by_cases q : d 0 = 1 <;> by_cases q1 : d 1 = 1 <;> simp [cb_c, cb_a, q, q1, ab_crd]
  · refine S 3 0 0 (by omega) (S 2 _ 1 (by omega) (S 1 _ 2 (by omega) (X 0 _ _ rfl ?_)))
    by_cases q : d 0 = 1 <;> by_cases q1 : d 1 = 1 <;> by_cases q2 : d 2 = 1 <;> simp [cb_c, cb_a, q, q1, q2, ab_crd]
theorem yc_71s {post : Int32 → SY → Prop} {w p rkw rkp r a n : Nat} {x1 : Int32} {dw dp : Nat → Nat} (hw : w < 24) (hp : p < 24) (Hw : yb_row b_rank b_dims w rkw dw) (Hp : yb_row b_rank b_dims p rkp dp) (hkw : rkw ≤ r) (hkp : rkp ≤ r) (hr3 : r ≤ 3) (ha : a < r) (h : (cb_a rkw r dw a = cb_a rkp r dp a ∨ cb_a rkw r dw a = 1 ∨ cb_a rkp r dp a = 1) → wY_combine_71 post x1 (nI w) (nI p) (nI r) c_cells c_slopeCount n (nI (a + 1)) b_used b_rank (upd b_dims (72 + a) (nI (cb_d r (cb_a rkw r dw) (cb_a rkp r dp) a))) b_shown b_tensorOf b_view b_exists b_kind b_first b_second b_owner b_parts b_partCount b_value b_slopeOf b_order b_slopes) (hf : ¬ (cb_a rkw r dw a = cb_a rkp r dp a ∨ cb_a rkw r dw a = 1 ∨ cb_a rkp r dp a = 1) → post (-1) (c_cells, c_slopeCount, b_used, b_rank, b_dims, b_shown, b_tensorOf, b_view, b_exists, b_kind, b_first, b_second, b_owner, b_parts, b_partCount, b_value, b_slopeOf, b_order, b_slopes)) : wY_combine_71 post x1 (nI w) (nI p) (nI r) c_cells c_slopeCount (n + 1) (nI a) b_used b_rank b_dims b_shown b_tensorOf b_view b_exists b_kind b_first b_second b_owner b_parts b_partCount b_value b_slopeOf b_order b_slopes := by
  have c4 := cb_a4 (a := a) ⟨Hw.2.1, Hw.2.2.2.1, Hw.2.2.2.2⟩ hkw hr3 ha
  have c5 := cb_a4 (a := a) ⟨Hp.2.1, Hp.2.2.2.1, Hp.2.2.2.2⟩ hkp hr3 ha
  have e1 : (72 : Int32) + nI a = nI (72 + a) := nI_add 72 a
  have K : (cb_a rkw r dw a = cb_a rkp r dp a ∨ cb_a rkw r dw a = 1 ∨ cb_a rkp r dp a = 1) → wY_combine_121 post (wY_combine_71 post x1 (nI w) (nI p) (nI r) c_cells c_slopeCount n) x1 (nI w) (nI p) (nI r) (nI a) (nI (cb_a rkw r dw a)) (nI (cb_a rkp r dp a)) c_cells c_slopeCount b_used b_rank b_dims b_shown b_tensorOf b_view b_exists b_kind b_first b_second b_owner b_parts b_partCount b_value b_slopeOf b_order b_slopes := by
    intro f
    have h' := h f
    unfold cb_d at h'
    rw [if_pos ha] at h'
    by_cases z : cb_a rkw r dw a ≤ cb_a rkp r dp a
    · rw [if_pos z] at h'
      refine br_t (nI_le z (by omega)) ⟨ab_vin e1 (by omega) (by decide), nm_r (e' := upd b_dims (72 + a) (nI (cb_a rkp r dp a))) ?_ (nm_r (nI_1 a) h')⟩
      rw [e1, nI_clamp (by omega), ab_vb2 (by omega)]
    · rw [if_neg z] at h'
      refine br_f (nI_ge (by omega) (by omega)) ⟨ab_vin e1 (by omega) (by decide), nm_r (e' := upd b_dims (72 + a) (nI (cb_a rkw r dw a))) ?_ (nm_r (nI_1 a) h')⟩
      rw [e1, nI_clamp (by omega), ab_vb2 (by omega)]
  refine br_f (nI_ge ha (by omega)) (yc_al (by omega) Hw hkw hr3 ha (yc_al (by omega) Hp hkp hr3 ha ?_))
  refine br_c (fun z => K (Or.inl ((nI_eq (by omega) (by omega)).mp z))) (fun n1 => br_c (fun z => K (Or.inr (Or.inl ((nI_eq (b := 1) (by omega) (by decide)).mp z)))) (fun n2 => br_c (fun z => K (Or.inr (Or.inr ((nI_eq (b := 1) (by omega) (by decide)).mp z)))) (fun n3 => hf ?_)))
  rintro (q | q | q)
  · exact n1 (by rw [q])
  · exact n2 (by rw [q]; rfl)
  · exact n3 (by rw [q]; rfl)
theorem yc_shape {post : Int32 → SY → Prop} {w p op rkw rkp r : Nat} {dw dp : Nat → Nat} (hop : op ≤ 2) (hw : w < 24) (hp : p < 24) (hU : ¬ b_used w = 0) (hUp : ¬ b_used p = 0) (Hw : yb_row b_rank b_dims w rkw dw) (Hp : yb_row b_rank b_dims p rkp dp) (hr : r = if rkw ≤ rkp then rkp else rkw) (hr3 : r ≤ 3) (ht : ∀ (R D : Nat → Int32) (n : Nat), cb_fit r (cb_a rkw r dw) (cb_a rkp r dp) → R 24 = nI r → (∀ h, h < 24 → R h = b_rank h) → (∀ a, a < r → D (72 + a) = nI (cb_d r (cb_a rkw r dw) (cb_a rkp r dp) a)) → (∀ j, j < 72 → D j = b_dims j) → wY_combine_71 post (nI op) (nI w) (nI p) (nI r) c_cells c_slopeCount (n + 1) (nI r) b_used R D b_shown b_tensorOf b_view b_exists b_kind b_first b_second b_owner b_parts b_partCount b_value b_slopeOf b_order b_slopes) (hf : ∀ R D : Nat → Int32, ¬ cb_fit r (cb_a rkw r dw) (cb_a rkp r dp) → (∀ h, h < 24 → R h = b_rank h) → (∀ j, j < 72 → D j = b_dims j) → post (-1) (c_cells, c_slopeCount, b_used, R, D, b_shown, b_tensorOf, b_view, b_exists, b_kind, b_first, b_second, b_owner, b_parts, b_partCount, b_value, b_slopeOf, b_order, b_slopes)) : wpY_combine post (c_cells, c_slopeCount, b_used, b_rank, b_dims, b_shown, b_tensorOf, b_view, b_exists, b_kind, b_first, b_second, b_owner, b_parts, b_partCount, b_value, b_slopeOf, b_order, b_slopes) (nI op) (nI w) (nI p) := by
  have hkw : rkw ≤ r := by rw [hr]; split <;> omega
  have hkp : rkp ≤ r := by rw [hr]; split <;> omega
  have cw : (nI w).toNatClampNeg = w := nI_clamp (by omega)
  have cp : (nI p).toNatClampNeg = p := nI_clamp (by omega)
  have kw3 := Hw.2.1
  have kp3 := Hp.2.1
  have K : wY_combine_57 post (nI op) (nI w) (nI p) (nI r) c_cells c_slopeCount b_used b_rank b_dims b_shown b_tensorOf b_view b_exists b_kind b_first b_second b_owner b_parts b_partCount b_value b_slopeOf b_order b_slopes := by
    unfold wY_combine_57
    refine yb_shapeNew (by omega) ⟨r + 1, ?_⟩
    have B0 : yb_bt 0 = 0 := yb_btn (n := 0) (by omega)
    rw [B0]
    have R1 : ∀ h, h < 24 → upd b_rank 24 (nI r) h = b_rank h := fun h hh => pk_un (by omega)
    have W1 : ∀ D : Nat → Int32, (∀ j, j < 72 → D j = b_dims j) → yb_row (upd b_rank 24 (nI r)) D w rkw dw := by
      intro D hD
      refine ⟨by rw [R1 w hw]; exact Hw.1, Hw.2.1, fun i hi => ?_, Hw.2.2.2.1, Hw.2.2.2.2⟩
      rw [hD _ (by omega)]; exact Hw.2.2.1 i hi
    have W2 : ∀ D : Nat → Int32, (∀ j, j < 72 → D j = b_dims j) → yb_row (upd b_rank 24 (nI r)) D p rkp dp := by
      intro D hD
      refine ⟨by rw [R1 p hp]; exact Hp.1, Hp.2.1, fun i hi => ?_, Hp.2.2.2.1, Hp.2.2.2.2⟩
      rw [hD _ (by omega)]; exact Hp.2.2.1 i hi
    have S : ∀ (n a : Nat) (D : Nat → Int32), a < r → (∀ j, j < 72 → D j = b_dims j) → ((cb_a rkw r dw a = cb_a rkp r dp a ∨ cb_a rkw r dw a = 1 ∨ cb_a rkp r dp a = 1) → wY_combine_71 post (nI op) (nI w) (nI p) (nI r) c_cells c_slopeCount n (nI (a + 1)) b_used (upd b_rank 24 (nI r)) (upd D (72 + a) (nI (cb_d r (cb_a rkw r dw) (cb_a rkp r dp) a))) b_shown b_tensorOf b_view b_exists b_kind b_first b_second b_owner b_parts b_partCount b_value b_slopeOf b_order b_slopes) → wY_combine_71 post (nI op) (nI w) (nI p) (nI r) c_cells c_slopeCount (n + 1) (nI a) b_used (upd b_rank 24 (nI r)) D b_shown b_tensorOf b_view b_exists b_kind b_first b_second b_owner b_parts b_partCount b_value b_slopeOf b_order b_slopes := by
      intro n a D ha hD hn
      exact yc_71s hw hp (W1 D hD) (W2 D hD) hkw hkp hr3 ha hn (fun z => hf _ _ (fun q => z (q a ha)) R1 hD)
    have D0 : ∀ j, j < 72 → ab_up3 b_dims 72 0 0 0 j = b_dims j := fun j hj => ab_en (by omega)
    have U : ∀ (D : Nat → Int32) (a : Nat) (x : Int32), (∀ j, j < 72 → D j = b_dims j) → ∀ j, j < 72 → upd D (72 + a) x j = b_dims j := fun D a x hD j hj => by rw [pk_un (by omega)]; exact hD j hj
    rcases (show r = 0 ∨ r = 1 ∨ r = 2 ∨ r = 3 by omega) with z | z | z | z
    · rw [show r + 1 = 0 + 1 by omega]
      have := ht (upd b_rank 24 (nI r)) (ab_up3 b_dims 72 0 0 0) 0 (fun a ha => by omega) pk_us R1 (fun a ha => by omega) D0
      rw [z] at this ⊢
      exact this
    · rw [show r + 1 = 1 + 1 by omega]
      refine S 1 0 _ (by omega) D0 (fun k0 => ?_)
      have := ht (upd b_rank 24 (nI r)) (upd (ab_up3 b_dims 72 0 0 0) (72 + 0) (nI (cb_d r (cb_a rkw r dw) (cb_a rkp r dp) 0))) 0 (fun a ha => by rw [show a = 0 by omega]; exact k0) pk_us R1 (fun a ha => by rw [show a = 0 by omega, pk_us]) (U _ _ _ D0)
      rw [show 0 + 1 = r by omega]
      exact this
    · rw [show r + 1 = 2 + 1 by omega]
      refine S 2 0 _ (by omega) D0 (fun k0 => S 1 1 _ (by omega) (U _ _ _ D0) (fun k1 => ?_))
      have := ht (upd b_rank 24 (nI r)) (upd (upd (ab_up3 b_dims 72 0 0 0) (72 + 0) (nI (cb_d r (cb_a rkw r dw) (cb_a rkp r dp) 0))) (72 + 1) (nI (cb_d r (cb_a rkw r dw) (cb_a rkp r dp) 1))) 0 (fun a ha => by
        rcases (show a = 0 ∨ a = 1 by omega) with y | y <;> rw [y]
        · exact k0
        · exact k1) pk_us R1 (fun a ha => by
        rcases (show a = 0 ∨ a = 1 by omega) with y | y <;> rw [y]
        · rw [pk_un (by omega), pk_us]
        · rw [pk_us]) (U _ _ _ (U _ _ _ D0))
      rw [show 1 + 1 = r by omega]
      exact this
    · rw [show r + 1 = 3 + 1 by omega]
      refine S 3 0 _ (by omega) D0 (fun k0 => S 2 1 _ (by omega) (U _ _ _ D0) (fun k1 => S 1 2 _ (by omega) (U _ _ _ (U _ _ _ D0)) (fun k2 => ?_)))
      have := ht (upd b_rank 24 (nI r)) (upd (upd (upd (ab_up3 b_dims 72 0 0 0) (72 + 0) (nI (cb_d r (cb_a rkw r dw) (cb_a rkp r dp) 0))) (72 + 1) (nI (cb_d r (cb_a rkw r dw) (cb_a rkp r dp) 1))) (72 + 2) (nI (cb_d r (cb_a rkw r dw) (cb_a rkp r dp) 2))) 0 (fun a ha => by
        rcases (show a = 0 ∨ a = 1 ∨ a = 2 by omega) with y | y | y <;> rw [y]
        · exact k0
        · exact k1
        · exact k2) pk_us R1 (fun a ha => by
        rcases (show a = 0 ∨ a = 1 ∨ a = 2 by omega) with y | y | y <;> rw [y]
        · rw [pk_un (by omega), pk_un (by omega), pk_us]
        · rw [pk_un (by omega), pk_us]
        · rw [pk_us]) (U _ _ _ (U _ _ _ (U _ _ _ D0)))
      rw [show 2 + 1 = r by omega]
      exact this
  unfold wpY_combine
  refine br_f (nI_pos (by omega)) (br_f (nI_nlt (a := 2) hop (by decide)) (yb_isHandle_t hw hU (br_f ab_10 (yb_isHandle_t hp hUp (br_f ab_10 ⟨vp_in_nI (by omega) (by decide), vp_in_nI (by omega) (by decide), ?_⟩)))))
  rw [cw, cp, Hw.1, Hp.1]
  by_cases z : rkw ≤ rkp
  · rw [if_pos z] at hr
    subst hr
    exact br_t (nI_le z (by omega)) ⟨vp_in_nI (by omega) (by decide), K⟩
  · rw [if_neg z] at hr
    subst hr
    exact br_f (nI_ge (by omega) (by omega)) ⟨vp_in_nI (by omega) (by decide), K⟩
end
end
section
section
variable {c_cells c_slopeCount : Int32} {b_used b_rank b_dims b_shown b_tensorOf b_view b_exists b_kind b_first b_second b_owner b_parts b_partCount b_value b_slopeOf b_order b_slopes : Nat → Int32}
theorem yc_loop {post : Int32 → SY → Prop} {w p v s r N rkw rkp : Nat} {dd dw dp f : Nat → Nat} {cw cp : Nat → Nat → Nat → Nat} {P0 C0 : Nat → Int32} (hw : w < 24) (hp : p < 24) (H24 : yb_row b_rank b_dims 24 r dd) (Hw : yb_row b_rank b_dims w rkw dw) (Hp : yb_row b_rank b_dims p rkp dp) (hkw : rkw ≤ r) (hkp : rkp ≤ r) (fw : ∀ a, a < r → cb_a rkw r dw a = dd a ∨ cb_a rkw r dw a = 1) (fp : ∀ a, a < r → cb_a rkp r dp a = dd a ∨ cb_a rkp r dp a = 1) (hN : dd 0 * dd 1 * dd 2 = N) (hs : s < 32) (hfi : ∀ i j, i < N → j < N → f i = f j → i = j) (hf : ∀ i, i < N → f i < 320) (hS : ∀ i, i < N → b_shown (1536 + i) = nI (f i)) (hcw : ∀ i j k, i < dw 0 → j < dw 1 → k < dw 2 → b_shown (64 * w + ((i * dw 1 + j) * dw 2 + k)) = nI (cw i j k) ∧ cw i j k < 320) (hcp : ∀ i j k, i < dp 0 → j < dp 1 → k < dp 2 → b_shown (64 * p + ((i * dp 1 + j) * dp 2 + k)) = nI (cp i j k) ∧ cp i j k < 320) (hv : v < 24) (hv0 : b_used v = 0) (hvl : ∀ j, j < v → ¬ b_used j = 0) (h : ∀ P C D S : Nat → Int32, yp_ok f N (fun i j => if j = 0 then ab_pf (dd 0) (dd 1) (dd 2) (fun x y z => cw (cb_c rkw r dw x y z 0) (cb_c rkw r dw x y z 1) (cb_c rkw r dw x y z 2)) i else ab_pf (dd 0) (dd 1) (dd 2) (fun x y z => cp (cb_c rkp r dp x y z 0) (cb_c rkp r dp x y z 1) (cb_c rkp r dp x y z 2)) i) (fun _ => 2) P0 C0 P C → (∀ a, a < r → D (3 * v + a) = nI (dd a)) → (∀ j, (j < 3 * v ∨ 3 * v + 3 ≤ j) → D j = b_dims j) → (∀ i, i < N → S (64 * v + i) = nI (f i)) → (∀ j, (j < 64 * v ∨ 64 * v + 64 ≤ j) → S j = b_shown j) → post (nI v) (c_cells, c_slopeCount, upd b_used v 1, upd b_rank v (nI r), D, S, upd b_tensorOf v (nI s), upd b_view v 0, b_exists, b_kind, b_first, b_second, b_owner, P, C, b_value, b_slopeOf, b_order, b_slopes)) : ∀ (q j : Nat) (P C : Nat → Int32), j + q = N → yp_ok f N (fun i j => if j = 0 then ab_pf (dd 0) (dd 1) (dd 2) (fun x y z => cw (cb_c rkw r dw x y z 0) (cb_c rkw r dw x y z 1) (cb_c rkw r dw x y z 2)) i else ab_pf (dd 0) (dd 1) (dd 2) (fun x y z => cp (cb_c rkp r dp x y z 0) (cb_c rkp r dp x y z 1) (cb_c rkp r dp x y z 2)) i) (yp_c 2 j 0) P0 C0 P C → wY_combine_191 post (nI w) (nI p) (nI s) (nI N) (q + 1) (nI j) c_cells c_slopeCount b_used b_rank b_dims b_shown b_tensorOf b_view b_exists b_kind b_first b_second b_owner P C b_value b_slopeOf b_order b_slopes := by
  have hb4 := H24.2.2.2.2
  have hN64 : N ≤ 64 := hN ▸ ab_sz (hb4 0 (by omega)).2 (hb4 1 (by omega)).2 (hb4 2 (by omega)).2
  have hr3 := H24.2.1
  intro q
  induction q with
  | zero =>
    intro j P C hj A
    have : j = N := by omega
    subst this
    refine br_t (nI_le (by omega) (by omega)) ?_
    refine yv_hand (e := dd) (c := f) (N := j) hv hv0 hvl hs H24.1 H24.2.1 hN64 (fun a ha => H24.2.2.1 a ha) (fun a ha => (H24.2.2.2.2 a ha).2) hS hf (fun D S d1 d2 s1 s2 => ?_)
    rw [ab_b0]
    exact h P C D S (yp_x A) d1 d2 s1 s2
  | succ q ih =>
    intro j P C hj A
    obtain ⟨i1, i2, i3⟩ := ab_pfi (e := j) (hb4 0 (by omega)).1 (hb4 1 (by omega)).1 (hb4 2 (by omega)).1
    have Rw := fun b (hb : b < 3) => cb_rng (b := b) ⟨Hw.2.1, Hw.2.2.2.1, Hw.2.2.2.2⟩ hkw hr3 fw i1 i2 i3 hb
    have Rp := fun b (hb : b < 3) => cb_rng (b := b) ⟨Hp.2.1, Hp.2.2.2.1, Hp.2.2.2.2⟩ hkp hr3 fp i1 i2 i3 hb
    obtain ⟨w1, w2⟩ := hcw _ _ _ (Rw 0 (by omega)) (Rw 1 (by omega)) (Rw 2 (by omega))
    obtain ⟨p1, p2⟩ := hcp _ _ _ (Rp 0 (by omega)) (Rp 1 (by omega)) (Rp 2 (by omega))
    refine br_f (nI_ge (by omega) (by omega)) (yc_spread hw Hw H24 hkw (by omega) fw (yc_spread hp Hp H24 hkp (by omega) fp ?_))
    rw [w1, p1]
    refine yp_part (K := 2) (m := 0) hN64 hfi hf (by omega) (by omega) (by omega) (hS j (by omega)) rfl w2 A (fun P' C' A' => ?_)
    refine yp_part (K := 2) (m := 1) hN64 hfi hf (by omega) (by omega) (by omega) (hS j (by omega)) rfl p2 A' (fun P2 C2 A2 => ?_)
    exact nm_r (nI_1 j) (ih (j + 1) P2 C2 (by omega) (yp_n A2))
end
theorem i_vc_combine {k : Nat} {u : SX} {v : SY} (I : i_Rel k u v) (hk : k + 5 ≤ 2560) (v1 : Int32) (v2 : Int32) (v3 : Int32) : wpX_combine (fun r u' => wpY_combine (fun r' v' => r' = r ∧ i_Rel (k + 5) u' v') v v1 v2 v3) u v1 v2 v3 := by
  obtain ⟨f_slotsTaken, f_elementsTaken, f_slopeCount, a_handleTaken, a_handleIsView, a_windowRank, a_windowSlot, a_windowStart, a_windowDimension, a_windowStride, a_slotSize, a_slotKind, a_slotTerms, a_slotNeeded, a_slotsByAge, a_values, a_derivatives, a_firstPlaces, a_secondPlaces, a_assigned, a_slopes⟩ := u
  obtain ⟨c_cells, c_slopeCount, b_used, b_rank, b_dims, b_shown, b_tensorOf, b_view, b_exists, b_kind, b_first, b_second, b_owner, b_parts, b_partCount, b_value, b_slopeOf, b_order, b_slopes⟩ := v
  have I' := I
  obtain ⟨rk, sl, d, G, ages, sz, kd, tm, yk, cl, hX, hY, hS⟩ := I'
  have hu := hY.1.1
  by_cases hop : ∃ op, op ≤ 2 ∧ v1 = nI op
  · obtain ⟨op, hop, rfl⟩ := hop
    by_cases hH : ab_isH a_handleTaken v2
    · obtain ⟨w, hw, rfl, hT⟩ := hH
      by_cases hK : ab_isH a_handleTaken v3
      · obtain ⟨p, hp, rfl, hTp⟩ := hK
        obtain ⟨w1, w2, w3, w4⟩ := hX.2.2.2.2 w hw hT
        obtain ⟨p1, p2, p3, p4⟩ := hX.2.2.2.2 p hp hTp
        have yw := hY.2.2.2.2.1 w hw hT
        have yp := hY.2.2.2.2.1 p hp hTp
        have hU : ¬ b_used w = 0 := by rw [hu]; exact hT
        have hUp : ¬ b_used p = 0 := by rw [hu]; exact hTp
        have hfree : ∀ t, t < 32 → (b_exists t = 0 ↔ a_slotSize t = 0) := fun t ht => (hY.2.2.2.1 t ht).trans (rl_sz0 hX ht).symm
        have Dw := w3.2.2.1
        have Dp := p3.2.2.1
        generalize hr : (if rk w ≤ rk p then rk p else rk w) = r
        have kw3 := w2.1
        have kp3 := p2.1
        have hkw : rk w ≤ r := by rw [← hr]; split <;> omega
        have hkp : rk p ≤ r := by rw [← hr]; split <;> omega
        have hr3 : r ≤ 3 := by rw [← hr]; split <;> omega
        have cA := fun a (ha : a < r) => cb_a4 (a := a) w2 hkw hr3 ha
        have cB := fun a (ha : a < r) => cb_a4 (a := a) p2 hkp hr3 ha
        have H := cb_d3 hr3 cA cB
        by_cases hno : cb_fit r (cb_a (rk w) r (d w)) (cb_a (rk p) r (d p)) → (∀ t, t < 32 → ¬ a_slotSize t = 0) ∨ 320 < (ab_fl sz ages).length + cb_d r (cb_a (rk w) r (d w)) (cb_a (rk p) r (d p)) 0 * cb_d r (cb_a (rk w) r (d w)) (cb_a (rk p) r (d p)) 1 * cb_d r (cb_a (rk w) r (d w)) (cb_a (rk p) r (d p)) 2 ∨ (∀ j, j < 24 → ¬ a_handleTaken j = 0)
        · refine xc_combine_n (dw := d w) (dp := d p) hop hw hp hT hTp w1 p1 hr.symm hr3 (fun i hi => (Dw i hi).1) (fun i hi => (Dp i hi).1) (fun a ha => (cA a ha).2) (fun a ha => (cB a ha).2) H hX.2.1.1 hX.2.1.2 hno ?_
          have FIN : ∀ R D : Nat → Int32, (∀ h, h < 24 → R h = b_rank h) → (∀ j, j < 72 → D j = b_dims j) → i_Rel (k + 5) (f_slotsTaken, f_elementsTaken, f_slopeCount, a_handleTaken, a_handleIsView, a_windowRank, a_windowSlot, a_windowStart, a_windowDimension, a_windowStride, a_slotSize, a_slotKind, a_slotTerms, a_slotNeeded, a_slotsByAge, a_values, a_derivatives, a_firstPlaces, a_secondPlaces, a_assigned, a_slopes) (c_cells, c_slopeCount, b_used, R, D, b_shown, b_tensorOf, b_view, b_exists, b_kind, b_first, b_second, b_owner, b_parts, b_partCount, b_value, b_slopeOf, b_order, b_slopes) := fun R D r1 d1 => rl_mk (k + 5) rk sl d G ages sz kd tm yk cl hX (rl_scr r1 d1 (fun _ _ => rfl) (rl_hk hX).1 (rl_hk hX).2 hY) hS
          refine yc_shape hop hw hp hU hUp (rl_row w2 yw) (rl_row p2 yp) hr.symm hr3 (fun R D n hf r24 r1 d24 d1 => ?_) (fun R D hf r1 d1 => ⟨rfl, FIN R D r1 d1⟩)
          refine br_t (nI_le (by omega) (by omega)) ⟨vp_in_nI (by omega) (by decide), vp_in_nI (by omega) (by decide), ?_⟩
          refine yb_tensor_n (rk := r) (d := cb_d r (cb_a (rk w) r (d w)) (cb_a (rk p) r (d p))) ⟨r24, hr3, d24, H.2.1, H.2.2⟩ hY.2.1.1 hX.2.1.2 ?_ (br_f (by decide) ⟨rfl, FIN R D r1 d1⟩)
          rw [hu]
          rcases hno hf with z | z | z
          · exact Or.inl (fun t ht y => z t ht ((hfree t ht).mp y))
          · exact Or.inr (Or.inl z)
          · exact Or.inr (Or.inr z)
        · have hfit : cb_fit r (cb_a (rk w) r (d w)) (cb_a (rk p) r (d p)) := Classical.byContradiction (fun z => hno (fun y => absurd y z))
          have hres := fun z => hno (fun _ => z)
          generalize hdd : cb_d r (cb_a (rk w) r (d w)) (cb_a (rk p) r (d p)) = dd at *
          have fw : ∀ a, a < r → cb_a (rk w) r (d w) a = dd a ∨ cb_a (rk w) r (d w) a = 1 := by
            intro a ha
            have f1 := hfit a ha
            have := cA a ha
            have := cB a ha
            rw [← hdd]; unfold cb_d; rw [if_pos ha]
            split <;> omega
          have fp : ∀ a, a < r → cb_a (rk p) r (d p) a = dd a ∨ cb_a (rk p) r (d p) a = 1 := by
            intro a ha
            have f1 := hfit a ha
            have := cA a ha
            have := cB a ha
            rw [← hdd]; unfold cb_d; rw [if_pos ha]
            split <;> omega
          rcases ab_lst a_slotSize 32 with ⟨s, hs, hs0, hsl⟩ | sn
          · rcases ab_lst a_handleTaken 24 with ⟨v, hv, hv0, hvl⟩ | vn
            · have hce : (ab_fl sz ages).length + dd 0 * dd 1 * dd 2 ≤ 320 := Nat.le_of_not_lt (fun z => hres (Or.inr (Or.inl z)))
              have hsn : s ∉ ages := (rl_sz0 hX hs).mp hs0
              have hm := rl_m32 hX.2.2.1.1 hX.2.2.1.2.1 hs hsn
              have t32 := hX.2.2.1.2.1 _ w3.2.1
              have u32 := hX.2.2.1.2.1 _ p3.2.1
              refine xc_combine (dw := d w) (dp := d p) (dd := dd) hop hw hp hT hTp w1 p1 hr.symm hr3 (fun i hi => (Dw i hi).1) (fun i hi => (Dp i hi).1) (fun i hi => (Dw i hi).2.2) (fun i hi => (Dp i hi).2.2) (fun a ha => (cA a ha).2) (fun a ha => (cB a ha).2) hfit hdd H hX.2.1.1 hce hX.1.1 hm hs hs0 hsl hv hv0 hvl ?_
              rw [w3.1, p3.1]
              refine yc_shape hop hw hp hU hUp (rl_row w2 yw) (rl_row p2 yp) hr.symm hr3 (fun R D n hf r24 r1 d24 d1 => ?_) (fun R D hf r1 d1 => absurd hfit hf)
              rw [hdd] at d24
              have R24 : yb_row R D 24 r dd := ⟨r24, hr3, d24, H.2.1, H.2.2⟩
              have Hw' : yb_row R D w (rk w) (d w) := by
                have q := rl_row w2 yw
                refine ⟨by rw [r1 w hw]; exact q.1, q.2.1, fun i hi => ?_, q.2.2.2.1, q.2.2.2.2⟩
                rw [d1 _ (by omega)]; exact q.2.2.1 i hi
              have Hp' : yb_row R D p (rk p) (d p) := by
                have q := rl_row p2 yp
                refine ⟨by rw [r1 p hp]; exact q.1, q.2.1, fun i hi => ?_, q.2.2.2.1, q.2.2.2.2⟩
                rw [d1 _ (by omega)]; exact q.2.2.1 i hi
              have cW := rl_cell hX hY.2.2.1 w3 yw
              have cP := rl_cell hX hY.2.2.1 p3 yp
              refine br_t (nI_le (by omega) (by omega)) ⟨vp_in_nI (by omega) (by decide), vp_in_nI (by omega) (by decide), ?_⟩
              rw [nI_clamp (show w < 2 ^ 31 by omega), nI_clamp (show p < 2 ^ 31 by omega), yw.2.2.1, yp.2.2.1, show (1 : Int32) + nI op = nI (1 + op) from nI_add 1 op]
              refine yb_tensor_s (kw := 1 + op) (v := v) (L := (ab_fl sz ages).map cl) R24 hY.2.1.1 hce hs ((hfree s hs).mpr hs0) (fun j hj z => hsl j hj ((hfree j (by omega)).mp z)) hv (by rw [hu]; exact hv0) (by rw [hu]; exact hvl) (by omega) (rl_Lst hY.2.2.1) (by rw [List.length_map]) (fun f O C0 V Ro S A => br_t (nI_pos' (by omega)) (yb_size (h := 24) (by omega) R24 ⟨dd 0 * dd 1 * dd 2 + 1, ?_⟩))
              obtain ⟨A1, A2, A3, A4, A5, A6, A7⟩ := A
              have bd : ∀ (w e : Nat), w < 24 → e < 64 → 64 * w + e < 1536 := fun w e h1 h2 => by omega
              have lw : ∀ i j k, i < d w 0 → j < d w 1 → k < d w 2 → S (64 * w + ((i * d w 1 + j) * d w 2 + k)) = nI (cl (G w i j k)) ∧ cl (G w i j k) < 320 := by
                intro i j k hi hj hk'
                have h1 := ab_lin hi hj hk'
                have h2 := ab_sz (w2.2.2 0 (by omega)).2 (w2.2.2 1 (by omega)).2 (w2.2.2 2 (by omega)).2
                rw [A7 _ (bd _ _ hw (by omega))]; exact cW i j k hi hj hk'
              have lp : ∀ i j k, i < d p 0 → j < d p 1 → k < d p 2 → S (64 * p + ((i * d p 1 + j) * d p 2 + k)) = nI (cl (G p i j k)) ∧ cl (G p i j k) < 320 := by
                intro i j k hi hj hk'
                have h1 := ab_lin hi hj hk'
                have h2 := ab_sz (p2.2.2 0 (by omega)).2 (p2.2.2 1 (by omega)).2 (p2.2.2 2 (by omega)).2
                rw [A7 _ (bd _ _ hp (by omega))]; exact cP i j k hi hj hk'
              refine yc_loop (f := f) (cw := fun i j k => cl (G w i j k)) (cp := fun i j k => cl (G p i j k)) (P0 := b_parts) (C0 := C0) (v := v) hw hp R24 Hw' Hp' hkw hkp fw fp rfl hs A2 (fun i hi => (A1 i hi).1) (fun i hi => (A5 i hi).2) lw lp hv (by rw [hu]; exact hv0) (by rw [hu]; exact hvl) (fun P C D' S' Y e1 e2 s1 s2 => ⟨rfl, ?_⟩) _ 0 b_parts C0 (by omega) (yp_0 ⟨A1, A2, A3, A4, A5, A6, A7⟩)
              have e1w := fun x y z hx hy hz => w3.2.2.2 _ _ _ (cb_rng (x := x) (y := y) (z := z) (b := 0) w2 hkw hr3 fw hx hy hz (by omega)) (cb_rng (x := x) (y := y) (z := z) (b := 1) w2 hkw hr3 fw hx hy hz (by omega)) (cb_rng (x := x) (y := y) (z := z) (b := 2) w2 hkw hr3 fw hx hy hz (by omega))
              have e1p := fun x y z hx hy hz => p3.2.2.2 _ _ _ (cb_rng (x := x) (y := y) (z := z) (b := 0) p2 hkp hr3 fp hx hy hz (by omega)) (cb_rng (x := x) (y := y) (z := z) (b := 1) p2 hkp hr3 fp hx hy hz (by omega)) (cb_rng (x := x) (y := y) (z := z) (b := 2) p2 hkp hr3 fp hx hy hz (by omega))
              refine rl_mk (k + 5) (ab_fu rk v r) (mk_f sl v s s (sl w) (sl p)) (mk_f d v s dd dd dd) (mk_f G v s (mk_g s dd) (fun x y z => G w (cb_c (rk w) r (d w) x y z 0) (cb_c (rk w) r (d w) x y z 1) (cb_c (rk w) r (d w) x y z 2)) (fun x y z => G p (cb_c (rk p) r (d p) x y z 0) (cb_c (rk p) r (d p) x y z 1) (cb_c (rk p) r (d p) x y z 2))) (ages ++ [s]) (ab_fu sz s (dd 0 * dd 1 * dd 2)) (ab_fu kd s op) (ab_fu tm s 1) (ab_fu yk s (1 + op)) (rl_cl cl f s) ?_ ?_ hS
              · refine rl_resX hs hsn hv H rfl hce (by omega) (by omega) (by omega) H.2.2 H.2.2 (by rw [Nat.mul_one]) (by rw [Nat.mul_one]) w3.2.1 p3.2.1 (fun x y z hx hy hz => ?_) (fun x y z hx hy hz => ?_) hX
                · rw [cb_eq w2 hkw hr3 fw hx hy hz]; exact e1w x y z hx hy hz
                · rw [cb_eq p2 hkp hr3 fp hx hy hz]; exact e1p x y z hx hy hz
              · refine rl_resY (tt := 1) (kk := op) (r := r) hs hsn hv H rfl (by omega) (by omega) H.2.2 H.2.2 w3.2.1 p3.2.1 (fun x y z hx hy hz => (e1w x y z hx hy hz).2.1) (fun x y z hx hy hz => (e1p x y z hx hy hz).2.1) pk_us ?_ e1 ?_ s1 ?_ ⟨A1, A2, A3, A4, A5, A6, A7⟩ (by rw [if_neg (by omega)]; exact Y) (fun z => by omega) ?_ ?_ (yb_btn (by omega)) (fun z => by omega) (fun _ => yb_btn (by omega)) hX hY
                · intro i hi hi2; rw [pk_un hi2]; exact r1 i hi
                · intro j hj hj2; rw [e2 j hj2]; exact d1 j hj
                · intro j hj hj2; rw [s2 j hj2]; exact A7 j hj
                · intro _ i t hi ht
                  have : t = 0 := by omega
                  subst this
                  rw [Nat.mul_one, Nat.add_zero]
                  exact ⟨rfl, rfl⟩
                · unfold rl_kr; omega
            · exact absurd (Or.inr (Or.inr vn)) hres
          · exact absurd (Or.inl sn) hres
      · unfold wpX_combine
        refine br_f (nI_pos (by omega)) (br_f (nI_nlt (a := 2) hop (by decide)) (xw_isHandle_t hw hT (br_f ab_10 (xw_isHandle_f hK (br_t rfl ?_)))))
        unfold wpY_combine
        exact br_f (nI_pos (by omega)) (br_f (nI_nlt (a := 2) hop (by decide)) (yb_isHandle_t hw (by rw [hu]; exact hT) (br_f ab_10 (yb_isHandle_f (by rw [hu]; exact hK) (br_t rfl ⟨rfl, I⟩)))))
    · unfold wpX_combine
      refine br_f (nI_pos (by omega)) (br_f (nI_nlt (a := 2) hop (by decide)) (xw_isHandle_f hH (br_t rfl ?_)))
      unfold wpY_combine
      exact br_f (nI_pos (by omega)) (br_f (nI_nlt (a := 2) hop (by decide)) (yb_isHandle_f (by rw [hu]; exact hH) (br_t rfl ⟨rfl, I⟩)))
  · have Z : ∀ A B : Prop, A → (v1 < 0 → A) ∧ (¬ v1 < 0 → (2 < v1 → A) ∧ (¬ 2 < v1 → B)) := by
      intro A B a
      refine br_c (fun _ => a) (fun h0 => br_c (fun _ => a) (fun h1 => ?_))
      obtain ⟨q, hq, e⟩ := ab_hi (m := 2) (by decide) h0 (Int32.not_lt.mp h1)
      exact absurd ⟨q, hq, e⟩ hop
    exact Z _ _ (Z _ _ ⟨rfl, I⟩)
end
section
def fo_s (rk a i : Nat) : Nat := if i < a then i else if i + 1 < rk then i + 1 else if i + 1 = rk then a else i
def fo_i (rk a b : Nat) : Nat := if b < a then b else if b = a then rk - 1 else if b < rk then b - 1 else b
def fo_d (dw : Nat → Nat) (rk a i : Nat) : Nat := if i + 1 < rk then dw (if i < a then i else i + 1) else 1
def fo_c0 (a x p : Nat) : Nat := if a = 0 then p else x
def fo_c1 (a x y p : Nat) : Nat := if a = 1 then p else if a = 0 then x else y
def fo_c2 (a y p : Nat) : Nat := if a = 2 then p else y
theorem fo_cases {rk a : Nat} (hk : rk ≤ 3) (ha : a < rk) : (rk = 1 ∧ a = 0) ∨ (rk = 2 ∧ a = 0) ∨ (rk = 2 ∧ a = 1) ∨ (rk = 3 ∧ a = 0) ∨ (rk = 3 ∧ a = 1) ∨ (rk = 3 ∧ a = 2) := by omega
theorem fo_sl {rk a i : Nat} (hk : rk ≤ 3) (ha : a < rk) (hi : i < 3) : fo_s rk a i < 3 := by
  unfold fo_s; split
  · omega
  · split
    · omega
    · split <;> omega
theorem fo_d3 {rk a : Nat} {dw : Nat → Nat} (h : ab_sh3 rk dw) (ha : a < rk) : ab_sh3 (rk - 1) (fo_d dw rk a) := by
  have := h.1
  refine ⟨by omega, fun i h1 h2 => ?_, fun i hi => ?_⟩
  · unfold fo_d; rw [if_neg (by omega)]
  · unfold fo_d; split
    · refine h.2.2 _ ?_; split <;> omega
    · omega
theorem fo_n {rk a : Nat} {dw : Nat → Nat} (h : ab_sh3 rk dw) (ha : a < rk) : dw (fo_s rk a 0) * dw (fo_s rk a 1) * dw (fo_s rk a 2) = fo_d dw rk a 0 * fo_d dw rk a 1 * fo_d dw rk a 2 * dw a := by
  have o1 := h.2.1 1
  have o2 := h.2.1 2
  rcases fo_cases h.1 ha with ⟨rfl, rfl⟩ | ⟨rfl, rfl⟩ | ⟨rfl, rfl⟩ | ⟨rfl, rfl⟩ | ⟨rfl, rfl⟩ | ⟨rfl, rfl⟩ <;> simp [fo_s, fo_d] at *
  · rw [o1, o2]; omega
  · rw [o2, Nat.mul_one]
  · rw [o2, Nat.mul_one]
theorem fo_rng {rk a x y z : Nat} {dw : Nat → Nat} (h : ab_sh3 rk dw) (ha : a < rk) : x < dw (fo_s rk a 0) → y < dw (fo_s rk a 1) → z < dw (fo_s rk a 2) → ab_crd x y z (fo_i rk a 0) < dw 0 ∧ ab_crd x y z (fo_i rk a 1) < dw 1 ∧ ab_crd x y z (fo_i rk a 2) < dw 2 := by
  rcases fo_cases h.1 ha with ⟨rfl, rfl⟩ | ⟨rfl, rfl⟩ | ⟨rfl, rfl⟩ | ⟨rfl, rfl⟩ | ⟨rfl, rfl⟩ | ⟨rfl, rfl⟩ <;> simp [fo_s, fo_i, ab_crd] <;> intro hx hy hz <;> exact ⟨by assumption, by assumption, by assumption⟩
theorem fo_eq {rk a x y z k : Nat} {st : Int32} {E : Nat → Int32} (hk : rk ≤ 3) (ha : a < rk) : st + nI x * E (k + fo_s rk a 0) + nI y * E (k + fo_s rk a 1) + nI z * E (k + fo_s rk a 2) = st + nI (ab_crd x y z (fo_i rk a 0)) * E k + nI (ab_crd x y z (fo_i rk a 1)) * E (k + 1) + nI (ab_crd x y z (fo_i rk a 2)) * E (k + 2) := by
  rcases fo_cases hk ha with ⟨rfl, rfl⟩ | ⟨rfl, rfl⟩ | ⟨rfl, rfl⟩ | ⟨rfl, rfl⟩ | ⟨rfl, rfl⟩ | ⟨rfl, rfl⟩ <;> simp [fo_s, fo_i, ab_crd] <;> grind
theorem fo_crng {rk a x y p : Nat} {dw : Nat → Nat} (h : ab_sh3 rk dw) (ha : a < rk) : x < fo_d dw rk a 0 → y < fo_d dw rk a 1 → p < dw a → fo_c0 a x p < dw 0 ∧ fo_c1 a x y p < dw 1 ∧ fo_c2 a y p < dw 2 := by
  have b1 := (h.2.2 1 (by omega)).1
  have b2 := (h.2.2 2 (by omega)).1
  have o1 := h.2.1 1
  have o2 := h.2.1 2
  rcases fo_cases h.1 ha with ⟨rfl, rfl⟩ | ⟨rfl, rfl⟩ | ⟨rfl, rfl⟩ | ⟨rfl, rfl⟩ | ⟨rfl, rfl⟩ | ⟨rfl, rfl⟩ <;> simp [fo_d, fo_c0, fo_c1, fo_c2] at * <;> omega
theorem fo_lin {rk a i t : Nat} {dw : Nat → Nat} {g : Nat → Nat → Nat → Nat} (h : ab_sh3 rk dw) (ha : a < rk) (hi : i < fo_d dw rk a 0 * fo_d dw rk a 1 * fo_d dw rk a 2) (ht : t < dw a) : ab_pf (dw (fo_s rk a 0)) (dw (fo_s rk a 1)) (dw (fo_s rk a 2)) (fun x y z => g (ab_crd x y z (fo_i rk a 0)) (ab_crd x y z (fo_i rk a 1)) (ab_crd x y z (fo_i rk a 2))) (i * dw a + t) = g (fo_c0 a (i / (fo_d dw rk a 1 * fo_d dw rk a 2) % fo_d dw rk a 0) t) (fo_c1 a (i / (fo_d dw rk a 1 * fo_d dw rk a 2) % fo_d dw rk a 0) (i / fo_d dw rk a 2 % fo_d dw rk a 1) t) (fo_c2 a (i / fo_d dw rk a 2 % fo_d dw rk a 1) t) := by
  have F := fo_d3 h ha
  obtain ⟨i1, i2, i3⟩ := ab_pfi (e := i) (F.2.2 0 (by omega)).1 (F.2.2 1 (by omega)).1 (F.2.2 2 (by omega)).1
  have bk := ab_back (F.2.2 0 (by omega)).1 (F.2.2 1 (by omega)).1 (F.2.2 2 (by omega)).1 hi
  generalize hx : i / (fo_d dw rk a 1 * fo_d dw rk a 2) % fo_d dw rk a 0 = x at *
  generalize hy : i / fo_d dw rk a 2 % fo_d dw rk a 1 = y at *
  generalize hz : i % fo_d dw rk a 2 = z at *
  have b0 := (h.2.2 0 (by omega)).1
  have b1 := (h.2.2 1 (by omega)).1
  have b2 := (h.2.2 2 (by omega)).1
  have o1 := h.2.1 1
  have o2 := h.2.1 2
  have P : ∀ (X Y Z : Nat) (g' : Nat → Nat → Nat → Nat), X < dw (fo_s rk a 0) → Y < dw (fo_s rk a 1) → Z < dw (fo_s rk a 2) → i * dw a + t = (X * dw (fo_s rk a 1) + Y) * dw (fo_s rk a 2) + Z → ab_pf (dw (fo_s rk a 0)) (dw (fo_s rk a 1)) (dw (fo_s rk a 2)) g' (i * dw a + t) = g' X Y Z := by
    intro X Y Z g' h1 h2 h3 h4
    rw [h4]; exact ab_pfl h1 h2 h3
  rcases fo_cases h.1 ha with ⟨rfl, rfl⟩ | ⟨rfl, rfl⟩ | ⟨rfl, rfl⟩ | ⟨rfl, rfl⟩ | ⟨rfl, rfl⟩ | ⟨rfl, rfl⟩ <;> simp [fo_d] at i1 i2 i3 bk
  · have e1 := o1 (by omega) (by omega)
    have e2 := o2 (by omega) (by omega)
    rw [P t 0 0 _ ht (by simp [fo_s]; omega) (by simp [fo_s]; omega) (by simp [fo_s]; rw [e1, e2, show i = 0 by omega]; omega)]
    simp [fo_i, ab_crd, fo_c0, fo_c1, fo_c2, i1, i2]
  · have e2 := o2 (by omega) (by omega)
    rw [P x t 0 _ (by simp [fo_s]; exact i1) ht (by simp [fo_s]; omega) (by simp [fo_s]; rw [e2, show i = x by omega]; omega)]
    simp [fo_i, ab_crd, fo_c0, fo_c1, fo_c2, i2]
  · have e2 := o2 (by omega) (by omega)
    rw [P x t 0 _ (by simp [fo_s]; exact i1) ht (by simp [fo_s]; omega) (by simp [fo_s]; rw [e2, show i = x by omega]; omega)]
    simp [fo_i, ab_crd, fo_c0, fo_c1, fo_c2, i2]
  · rw [P x y t _ (by simp [fo_s]; exact i1) (by simp [fo_s]; exact i2) ht (by simp [fo_s]; rw [show i = x * dw 2 + y by omega])]
    simp [fo_i, ab_crd, fo_c0, fo_c1, fo_c2]
  · rw [P x y t _ (by simp [fo_s]; exact i1) (by simp [fo_s]; exact i2) ht (by simp [fo_s]; rw [show i = x * dw 2 + y by omega])]
    simp [fo_i, ab_crd, fo_c0, fo_c1, fo_c2]
  · rw [P x y t _ (by simp [fo_s]; exact i1) (by simp [fo_s]; exact i2) ht (by simp [fo_s]; rw [show i = x * dw 1 + y by omega])]
    simp [fo_i, ab_crd, fo_c0, fo_c1, fo_c2]
section
variable {f_slotsTaken f_elementsTaken f_slopeCount : Int32} {a_handleTaken a_handleIsView a_windowRank a_windowSlot a_windowStart a_windowDimension a_windowStride a_slotSize a_slotKind a_slotTerms a_slotNeeded a_slotsByAge a_values a_derivatives a_firstPlaces a_secondPlaces a_assigned a_slopes : Nat → Int32}
theorem xf_s {post : Int32 → SX → Prop} {w a rk kp q n dv : Nat} (hw : w < 24) (ha : a < rk) (hk : rk ≤ 3) (hkp : kp + 1 < rk) (hd : a_windowDimension (3 * w + (if kp < a then kp else kp + 1)) = nI dv) (hd8 : dv < 8) (h : wX_fold_26 post (nI w) (nI a) (nI rk) f_slotsTaken f_elementsTaken f_slopeCount a_handleTaken a_handleIsView a_windowRank a_windowSlot a_windowStart a_windowDimension a_windowStride a_slotSize a_slotKind a_slotTerms a_slotNeeded a_slotsByAge a_values a_derivatives a_firstPlaces a_secondPlaces a_assigned a_slopes n (nI (q + dv * 2 ^ (3 + 3 * kp))) (nI (kp + 1))) : wX_fold_26 post (nI w) (nI a) (nI rk) f_slotsTaken f_elementsTaken f_slopeCount a_handleTaken a_handleIsView a_windowRank a_windowSlot a_windowStart a_windowDimension a_windowStride a_slotSize a_slotKind a_slotTerms a_slotNeeded a_slotsByAge a_values a_derivatives a_firstPlaces a_secondPlaces a_assigned a_slopes (n + 1) (nI q) (nI kp) := by
  have e1 : nI rk - 1 = nI (rk - 1) := pk_sub (b := 1) (by omega)
  refine br_f (by rw [e1]; exact nI_ge (by omega) (by omega)) ?_
  by_cases z : a ≤ kp
  · rw [if_neg (by omega)] at hd
    refine br_t (nI_le z (by omega)) ⟨ab_vin (by rw [nI_1]; exact ab_ix) (by omega) (by decide), ?_⟩
    rw [nI_1, ab_ix, nI_clamp (by omega), hd]
    exact xw_packedDim (by omega) hd8 (nm_r (nI_add _ _) (nm_r rfl h))
  · rw [if_pos (by omega)] at hd
    refine br_f (nI_ge (by omega) (by omega)) ⟨ab_vin ab_ix (by omega) (by decide), ?_⟩
    rw [ab_ix, nI_clamp (by omega), hd]
    exact xw_packedDim (by omega) hd8 (nm_r (nI_add _ _) (nm_r (nI_1 kp) h))
theorem xf_pack {post : Int32 → SX → Prop} {w a rk : Nat} {dw : Nat → Nat} (hw : w < 24) (H : ab_sh3 rk dw) (ha : a < rk) (hd : ∀ i, i < 3 → a_windowDimension (3 * w + i) = nI (dw i)) (h : ∀ n : Nat, wX_fold_26 post (nI w) (nI a) (nI rk) f_slotsTaken f_elementsTaken f_slopeCount a_handleTaken a_handleIsView a_windowRank a_windowSlot a_windowStart a_windowDimension a_windowStride a_slotSize a_slotKind a_slotTerms a_slotNeeded a_slotsByAge a_values a_derivatives a_firstPlaces a_secondPlaces a_assigned a_slopes (n + 1) (nI (ab_pk (rk - 1) (fo_d dw rk a))) (nI (rk - 1))) : ∃ n, wX_fold_26 post (nI w) (nI a) (nI rk) f_slotsTaken f_elementsTaken f_slopeCount a_handleTaken a_handleIsView a_windowRank a_windowSlot a_windowStart a_windowDimension a_windowStride a_slotSize a_slotKind a_slotTerms a_slotNeeded a_slotsByAge a_values a_derivatives a_firstPlaces a_secondPlaces a_assigned a_slopes n (nI (rk - 1)) 0 := by
  have hk := H.1
  have S : ∀ (n kp q : Nat), kp + 1 < rk → wX_fold_26 post (nI w) (nI a) (nI rk) f_slotsTaken f_elementsTaken f_slopeCount a_handleTaken a_handleIsView a_windowRank a_windowSlot a_windowStart a_windowDimension a_windowStride a_slotSize a_slotKind a_slotTerms a_slotNeeded a_slotsByAge a_values a_derivatives a_firstPlaces a_secondPlaces a_assigned a_slopes n (nI (q + dw (if kp < a then kp else kp + 1) * 2 ^ (3 + 3 * kp))) (nI (kp + 1)) → wX_fold_26 post (nI w) (nI a) (nI rk) f_slotsTaken f_elementsTaken f_slopeCount a_handleTaken a_handleIsView a_windowRank a_windowSlot a_windowStart a_windowDimension a_windowStride a_slotSize a_slotKind a_slotTerms a_slotNeeded a_slotsByAge a_values a_derivatives a_firstPlaces a_secondPlaces a_assigned a_slopes (n + 1) (nI q) (nI kp) := by
    intro n kp q h1 h2
    have l3 : (if kp < a then kp else kp + 1) < 3 := by split <;> omega
    exact xf_s hw ha hk h1 (hd _ l3) (by have := H.2.2 _ l3; omega) h2
  rcases (show rk = 1 ∨ rk = 2 ∨ rk = 3 by omega) with z | z | z
  · refine ⟨1, ?_⟩
    have := h 0
    rw [show ab_pk (rk - 1) (fo_d dw rk a) = rk - 1 from by rw [z]; simp [ab_pk], show nI (rk - 1) = 0 from by rw [z]; rfl] at this
    rw [show nI (rk - 1) = 0 from by rw [z]; rfl]
    exact this
  · refine ⟨2, S 1 0 (rk - 1) (by omega) ?_⟩
    have := h 0
    rw [show ab_pk (rk - 1) (fo_d dw rk a) = rk - 1 + dw (if 0 < a then 0 else 0 + 1) * 2 ^ (3 + 3 * 0) from by rw [z]; simp [ab_pk, fo_d]; omega, show rk - 1 = 1 by omega] at this
    rw [show rk - 1 = 1 by omega]
    exact this
  · refine ⟨3, S 2 0 (rk - 1) (by omega) (S 1 1 _ (by omega) ?_)⟩
    have := h 0
    rw [show ab_pk (rk - 1) (fo_d dw rk a) = rk - 1 + dw (if 0 < a then 0 else 0 + 1) * 2 ^ (3 + 3 * 0) + dw (if 1 < a then 1 else 1 + 1) * 2 ^ (3 + 3 * 1) from by rw [z]; simp [ab_pk, fo_d]; omega, show rk - 1 = 2 by omega] at this
    rw [show rk - 1 = 2 by omega]
    exact this
theorem xf_ms {post : SX → Prop} {w a t l ls n : Nat} (hw : w < 24) (ht : t < 88) (hl : l < ls) (hls : ls < 3) (h : wX_moveAxisLast_19 post (nI w) (nI a) (nI t) (nI ls) n (nI (l + 1)) f_slotsTaken f_elementsTaken f_slopeCount a_handleTaken a_handleIsView a_windowRank a_windowSlot a_windowStart (upd a_windowDimension (3 * t + l) (a_windowDimension (3 * w + (l + 1)))) (upd a_windowStride (3 * t + l) (a_windowStride (3 * w + (l + 1)))) a_slotSize a_slotKind a_slotTerms a_slotNeeded a_slotsByAge a_values a_derivatives a_firstPlaces a_secondPlaces a_assigned a_slopes) : wX_moveAxisLast_19 post (nI w) (nI a) (nI t) (nI ls) (n + 1) (nI l) f_slotsTaken f_elementsTaken f_slopeCount a_handleTaken a_handleIsView a_windowRank a_windowSlot a_windowStart a_windowDimension a_windowStride a_slotSize a_slotKind a_slotTerms a_slotNeeded a_slotsByAge a_values a_derivatives a_firstPlaces a_secondPlaces a_assigned a_slopes := by
  refine br_f (nI_ge hl (by omega)) ?_
  rw [nI_1]
  exact xw_copyAxis (by omega) (by omega) ht (by omega) (nm_e h)
theorem xf_mx {post : SX → Prop} {w a t ls n : Nat} (hw : w < 24) (ht : t < 88) (ha : a < 3) (hls : ls < 3) (h : post (f_slotsTaken, f_elementsTaken, f_slopeCount, a_handleTaken, a_handleIsView, a_windowRank, a_windowSlot, a_windowStart, upd a_windowDimension (3 * t + ls) (a_windowDimension (3 * w + a)), upd a_windowStride (3 * t + ls) (a_windowStride (3 * w + a)), a_slotSize, a_slotKind, a_slotTerms, a_slotNeeded, a_slotsByAge, a_values, a_derivatives, a_firstPlaces, a_secondPlaces, a_assigned, a_slopes)) : wX_moveAxisLast_19 post (nI w) (nI a) (nI t) (nI ls) (n + 1) (nI ls) f_slotsTaken f_elementsTaken f_slopeCount a_handleTaken a_handleIsView a_windowRank a_windowSlot a_windowStart a_windowDimension a_windowStride a_slotSize a_slotKind a_slotTerms a_slotNeeded a_slotsByAge a_values a_derivatives a_firstPlaces a_secondPlaces a_assigned a_slopes :=
  br_t (nI_le (by omega) (by omega)) (xw_copyAxis (by omega) ha ht hls h)
theorem xf_move {post : SX → Prop} {w a t rk : Nat} (hw : w < 24) (ht : t < 88) (ht2 : 24 ≤ t) (hk : rk ≤ 3) (ha : a < rk) (hr : a_windowRank w = nI rk) (h : post (f_slotsTaken, f_elementsTaken, f_slopeCount, a_handleTaken, a_handleIsView, upd a_windowRank t (a_windowRank w), upd a_windowSlot t (a_windowSlot w), upd a_windowStart t (a_windowStart w), ab_up3 a_windowDimension (3 * t) (a_windowDimension (3 * w + fo_s rk a 0)) (a_windowDimension (3 * w + fo_s rk a 1)) (a_windowDimension (3 * w + fo_s rk a 2)), ab_up3 a_windowStride (3 * t) (a_windowStride (3 * w + fo_s rk a 0)) (a_windowStride (3 * w + fo_s rk a 1)) (a_windowStride (3 * w + fo_s rk a 2)), a_slotSize, a_slotKind, a_slotTerms, a_slotNeeded, a_slotsByAge, a_values, a_derivatives, a_firstPlaces, a_secondPlaces, a_assigned, a_slopes)) : wpX_moveAxisLast post (f_slotsTaken, f_elementsTaken, f_slopeCount, a_handleTaken, a_handleIsView, a_windowRank, a_windowSlot, a_windowStart, a_windowDimension, a_windowStride, a_slotSize, a_slotKind, a_slotTerms, a_slotNeeded, a_slotsByAge, a_values, a_derivatives, a_firstPlaces, a_secondPlaces, a_assigned, a_slopes) (nI w) (nI a) (nI t) := by
  have e1 : nI rk - 1 = nI (rk - 1) := pk_sub (b := 1) (by omega)
  have Ew : ∀ (f : Nat → Int32) (A B C : Int32) (i : Nat), i < 3 → ab_up3 f (3 * t) A B C (3 * w + i) = f (3 * w + i) := fun f A B C i hi => ab_en (by omega)
  unfold wpX_moveAxisLast
  refine xw_copyWindow (by omega) ht (by omega) ⟨vp_in_nI (by omega) (by decide), nm_r (e' := nI (rk - 1)) (by rw [nI_clamp (by omega), pk_un (by omega), hr, e1]) ⟨rk - 1 - a + 1, ?_⟩⟩
  rcases fo_cases hk ha with ⟨rfl, rfl⟩ | ⟨rfl, rfl⟩ | ⟨rfl, rfl⟩ | ⟨rfl, rfl⟩ | ⟨rfl, rfl⟩ | ⟨rfl, rfl⟩
  · refine xf_mx hw ht (by omega) (by omega) ?_
    rw [show (1 - 1) = 0 from rfl, ab_u30z, ab_u30z, Ew _ _ _ _ 0 (by omega), Ew _ _ _ _ 0 (by omega)]
    exact h
  · refine xf_ms hw ht (by omega) (by omega) (xf_mx hw ht (by omega) (by omega) ?_)
    rw [show (2 - 1) = 1 from rfl, ab_u30z, ab_u30z, ab_u31, ab_u31, Ew _ _ _ _ 0 (by omega), Ew _ _ _ _ 0 (by omega), Ew _ _ _ _ (0 + 1) (by omega), Ew _ _ _ _ (0 + 1) (by omega)]
    exact h
  · refine xf_mx hw ht (by omega) (by omega) ?_
    rw [show (2 - 1) = 1 from rfl, ab_u31, ab_u31, Ew _ _ _ _ 1 (by omega), Ew _ _ _ _ 1 (by omega)]
    exact h
  · refine xf_ms hw ht (by omega) (by omega) (xf_ms hw ht (by omega) (by omega) (xf_mx hw ht (by omega) (by omega) ?_))
    rw [show (3 - 1) = 2 from rfl, show (0 + 1) = 1 from rfl, ab_u30z, ab_u30z, ab_u31, ab_u31, ab_u32, ab_u32, Ew _ _ _ _ 0 (by omega), Ew _ _ _ _ 0 (by omega), Ew _ _ _ _ 1 (by omega), Ew _ _ _ _ 1 (by omega), Ew _ _ _ _ (1 + 1) (by omega), Ew _ _ _ _ (1 + 1) (by omega)]
    exact h
  · refine xf_ms hw ht (by omega) (by omega) (xf_mx hw ht (by omega) (by omega) ?_)
    rw [show (3 - 1) = 2 from rfl, ab_u31, ab_u31, ab_u32, ab_u32, Ew _ _ _ _ 1 (by omega), Ew _ _ _ _ 1 (by omega), Ew _ _ _ _ (1 + 1) (by omega), Ew _ _ _ _ (1 + 1) (by omega)]
    exact h
  · refine xf_mx hw ht (by omega) (by omega) ?_
    rw [show (3 - 1) = 2 from rfl, ab_u32, ab_u32, Ew _ _ _ _ 2 (by omega), Ew _ _ _ _ 2 (by omega)]
    exact h
end
end
section
section
variable {f_slotsTaken f_elementsTaken f_slopeCount : Int32} {a_handleTaken a_handleIsView a_windowRank a_windowSlot a_windowStart a_windowDimension a_windowStride a_slotSize a_slotKind a_slotTerms a_slotNeeded a_slotsByAge a_values a_derivatives a_firstPlaces a_secondPlaces a_assigned a_slopes : Nat → Int32}
theorem xf_fold {post : Int32 → SX → Prop} {w a v s c m rk : Nat} {dd dw : Nat → Nat} (hw : w < 24) (hT : ¬ a_handleTaken w = 0) (hr : a_windowRank w = nI rk) (H : ab_sh3 rk dw) (ha : a < rk) (hd : ∀ i, i < 3 → a_windowDimension (3 * w + i) = nI (dw i)) (hdd : fo_d dw rk a = dd) (hc : f_elementsTaken = nI c) (hce : c + dd 0 * dd 1 * dd 2 ≤ 320) (hm : f_slotsTaken = nI m) (hm2 : m < 32) (hs : s < 32) (hs0 : a_slotSize s = 0) (hsl : ∀ j, j < s → ¬ a_slotSize j = 0) (hv : v < 24) (hv0 : a_handleTaken v = 0) (hvl : ∀ j, j < v → ¬ a_handleTaken j = 0) (h : post (nI v) (nI (m + 1), nI (c + dd 0 * dd 1 * dd 2), f_slopeCount, upd a_handleTaken v 1, upd a_handleIsView v 0, mk_u a_windowRank v s (nI (rk - 1)) (a_windowRank w) (a_windowRank w), mk_u a_windowSlot v s (nI s) (a_windowSlot w) (a_windowSlot w), mk_u a_windowStart v s (nI (64 * s)) (a_windowStart w) (a_windowStart w), mk_3 a_windowDimension v s (nI (dd 0)) (nI (dd 1)) (nI (dd 2)) (a_windowDimension (3 * w + fo_s rk a 0)) (a_windowDimension (3 * w + fo_s rk a 1)) (a_windowDimension (3 * w + fo_s rk a 2)) (a_windowDimension (3 * w + fo_s rk a 0)) (a_windowDimension (3 * w + fo_s rk a 1)) (a_windowDimension (3 * w + fo_s rk a 2)), mk_3 a_windowStride v s (nI (ab_st (rk - 1) dd 0)) (nI (ab_st (rk - 1) dd 1)) (nI (ab_st (rk - 1) dd 2)) (a_windowStride (3 * w + fo_s rk a 0)) (a_windowStride (3 * w + fo_s rk a 1)) (a_windowStride (3 * w + fo_s rk a 2)) (a_windowStride (3 * w + fo_s rk a 0)) (a_windowStride (3 * w + fo_s rk a 1)) (a_windowStride (3 * w + fo_s rk a 2)), upd a_slotSize s (nI (dd 0 * dd 1 * dd 2)), upd a_slotKind s 3, upd a_slotTerms s (nI (dw a)), a_slotNeeded, upd a_slotsByAge m (nI s), a_values, a_derivatives, a_firstPlaces, a_secondPlaces, a_assigned, a_slopes)) : wpX_fold post (f_slotsTaken, f_elementsTaken, f_slopeCount, a_handleTaken, a_handleIsView, a_windowRank, a_windowSlot, a_windowStart, a_windowDimension, a_windowStride, a_slotSize, a_slotKind, a_slotTerms, a_slotNeeded, a_slotsByAge, a_values, a_derivatives, a_firstPlaces, a_secondPlaces, a_assigned, a_slopes) (nI w) (nI a) := by
  have hk := H.1
  have hn : w ≠ v := fun e => hT (e ▸ hv0)
  have H' : ab_sh3 (rk - 1) dd := hdd ▸ fo_d3 H ha
  have e1 : nI rk - 1 = nI (rk - 1) := pk_sub (b := 1) (by omega)
  unfold wpX_fold
  refine xw_hasAxis_t hw hT hr hk ha (br_f ab_10 ⟨vp_in_nI (by omega) (by decide), nm_r (e' := nI rk) (by rw [nI_clamp (by omega), hr]) (nm_r e1 (xf_pack (dw := dw) hw H ha hd (fun n => ?_)))⟩)
  refine br_t (by rw [e1]; exact nI_le (by omega) (by omega)) ⟨ab_vin ab_ix (by omega) (by decide), ?_⟩
  rw [ab_ix, nI_clamp (by omega), hd a (by omega), hdd]
  refine xw_makeTensor_s H' hc hce hm hm2 hs hs0 hsl hv hv0 hvl (br_f (nI_pos (by omega)) ⟨vp_in_nI (by omega) (by decide), ?_⟩)
  rw [nI_clamp (show v < 2 ^ 31 by omega), pk_us]
  refine xw_firstSource (xf_move (rk := rk) hw (by omega) (by omega) hk ha (by rw [pk_un hn]; exact hr) ?_)
  rw [show nI (24 + 2 * s) + 1 = nI (25 + 2 * s) from by rw [nI_1]; congr 1; omega]
  refine xw_copyWindow (by omega) (by omega) (by omega) ?_
  have l0 := fo_sl (i := 0) hk ha (by omega)
  have l1 := fo_sl (i := 1) hk ha (by omega)
  have l2 := fo_sl (i := 2) hk ha (by omega)
  have E3 : ∀ (g : Nat → Int32) (A B C : Int32) (i : Nat), i < 3 → ab_up3 g (3 * v) A B C (3 * w + i) = g (3 * w + i) := fun g A B C i hi => ab_en (by omega)
  rw [E3 _ _ _ _ _ l0, E3 _ _ _ _ _ l0, E3 _ _ _ _ _ l1, E3 _ _ _ _ _ l1, E3 _ _ _ _ _ l2, E3 _ _ _ _ _ l2, ab_e0, ab_e0, ab_e1, ab_e1, ab_e2, ab_e2, pk_us, pk_us, pk_us, pk_un hn, pk_un hn, pk_un hn]
  exact h
theorem xf_fold_n {post : Int32 → SX → Prop} {w a c rk : Nat} {dw : Nat → Nat} (hw : w < 24) (hT : ¬ a_handleTaken w = 0) (hr : a_windowRank w = nI rk) (H : ab_sh3 rk dw) (ha : a < rk) (hd : ∀ i, i < 3 → a_windowDimension (3 * w + i) = nI (dw i)) (hc : f_elementsTaken = nI c) (hc2 : c ≤ 320) (hno : (∀ t, t < 32 → ¬ a_slotSize t = 0) ∨ 320 < c + fo_d dw rk a 0 * fo_d dw rk a 1 * fo_d dw rk a 2 ∨ (∀ j, j < 24 → ¬ a_handleTaken j = 0)) (h : post (-1) (f_slotsTaken, f_elementsTaken, f_slopeCount, a_handleTaken, a_handleIsView, a_windowRank, a_windowSlot, a_windowStart, a_windowDimension, a_windowStride, a_slotSize, a_slotKind, a_slotTerms, a_slotNeeded, a_slotsByAge, a_values, a_derivatives, a_firstPlaces, a_secondPlaces, a_assigned, a_slopes)) : wpX_fold post (f_slotsTaken, f_elementsTaken, f_slopeCount, a_handleTaken, a_handleIsView, a_windowRank, a_windowSlot, a_windowStart, a_windowDimension, a_windowStride, a_slotSize, a_slotKind, a_slotTerms, a_slotNeeded, a_slotsByAge, a_values, a_derivatives, a_firstPlaces, a_secondPlaces, a_assigned, a_slopes) (nI w) (nI a) := by
  have hk := H.1
  have e1 : nI rk - 1 = nI (rk - 1) := pk_sub (b := 1) (by omega)
  unfold wpX_fold
  refine xw_hasAxis_t hw hT hr hk ha (br_f ab_10 ⟨vp_in_nI (by omega) (by decide), nm_r (e' := nI rk) (by rw [nI_clamp (by omega), hr]) (nm_r e1 (xf_pack (dw := dw) hw H ha hd (fun n => ?_)))⟩)
  refine br_t (by rw [e1]; exact nI_le (by omega) (by omega)) ⟨ab_vin ab_ix (by omega) (by decide), ?_⟩
  exact xw_makeTensor_n (fo_d3 H ha) hc hc2 hno (br_t (by decide) h)
end
section
variable {c_cells c_slopeCount : Int32} {b_used b_rank b_dims b_shown b_tensorOf b_view b_exists b_kind b_first b_second b_owner b_parts b_partCount b_value b_slopeOf b_order b_slopes : Nat → Int32}
theorem yf_inner {post : Int32 → SY → Prop} {J151 : Int32 → Int32 → Int32 → (Nat → Int32) → (Nat → Int32) → (Nat → Int32) → (Nat → Int32) → (Nat → Int32) → (Nat → Int32) → (Nat → Int32) → (Nat → Int32) → (Nat → Int32) → (Nat → Int32) → (Nat → Int32) → (Nat → Int32) → (Nat → Int32) → (Nat → Int32) → (Nat → Int32) → (Nat → Int32) → (Nat → Int32) → Prop} {w a rkw N tt e x y : Nat} {x4 x5 : Int32} {dw f : Nat → Nat} {cw : Nat → Nat → Nat → Nat} {q : Nat → Nat → Nat} {P0 C0 : Nat → Int32} (hw : w < 24) (Hw : yb_row b_rank b_dims w rkw dw) (ha : a < 3) (hN : N ≤ 64) (ht4 : tt ≤ 4) (he : e < N) (hfi : ∀ i j, i < N → j < N → f i = f j → i = j) (hf : ∀ i, i < N → f i < 320) (hS : ∀ i, i < N → b_shown (1536 + i) = nI (f i)) (hcw : ∀ i j k, i < dw 0 → j < dw 1 → k < dw 2 → b_shown (64 * w + ((i * dw 1 + j) * dw 2 + k)) = nI (cw i j k) ∧ cw i j k < 320) (hR : ∀ p, p < tt → fo_c0 a x p < dw 0 ∧ fo_c1 a x y p < dw 1 ∧ fo_c2 a y p < dw 2) (hq : ∀ p, p < tt → q e p = cw (fo_c0 a x p) (fo_c1 a x y p) (fo_c2 a y p)) (h : ∀ P C : Nat → Int32, yp_ok f N q (yp_c tt (e + 1) 0) P0 C0 P C → J151 (nI (e + 1)) c_cells c_slopeCount b_used b_rank b_dims b_shown b_tensorOf b_view b_exists b_kind b_first b_second b_owner P C b_value b_slopeOf b_order b_slopes) : ∀ (k p : Nat) (P C : Nat → Int32), p + k = tt → yp_ok f N q (yp_c tt e p) P0 C0 P C → wY_fold_183 post J151 (nI w) (nI a) (nI tt) x4 x5 (nI e) (nI x) (nI y) (k + 1) (nI p) c_cells c_slopeCount b_used b_rank b_dims b_shown b_tensorOf b_view b_exists b_kind b_first b_second b_owner P C b_value b_slopeOf b_order b_slopes := by
  intro k
  induction k with
  | zero =>
    intro p P C hp A
    have : p = tt := by omega
    subst this
    exact br_t (nI_le (by omega) (by omega)) (nm_r (nI_1 e) (h P C (yp_n A)))
  | succ k ih =>
    intro p P C hp A
    obtain ⟨r1, r2, r3⟩ := hR p (by omega)
    obtain ⟨c1, c2⟩ := hcw _ _ _ r1 r2 r3
    have hq' := hq p (by omega)
    have FIN : ∀ r : Int32, r = nI (cw (fo_c0 a x p) (fo_c1 a x y p) (fo_c2 a y p)) → wpY_part (fun u => match u with | (c_cells, c_slopeCount, b_used, b_rank, b_dims, b_shown, b_tensorOf, b_view, b_exists, b_kind, b_first, b_second, b_owner, b_parts, b_partCount, b_value, b_slopeOf, b_order, b_slopes) => ∀ x9 : Int32, x9 = nI p + 1 → wY_fold_183 post J151 (nI w) (nI a) (nI tt) x4 x5 (nI e) (nI x) (nI y) (k + 1) x9 c_cells c_slopeCount b_used b_rank b_dims b_shown b_tensorOf b_view b_exists b_kind b_first b_second b_owner b_parts b_partCount b_value b_slopeOf b_order b_slopes) (c_cells, c_slopeCount, b_used, b_rank, b_dims, b_shown, b_tensorOf, b_view, b_exists, b_kind, b_first, b_second, b_owner, P, C, b_value, b_slopeOf, b_order, b_slopes) (nI e) r := by
      intro r er
      rw [er]
      exact yp_part (K := tt) (m := p) hN hfi hf he (by omega) (by omega) (hS e he) hq' c2 A (fun P' C' A' => nm_r (nI_1 p) (ih (p + 1) P' C' (by omega) A'))
    refine br_f (nI_ge (by omega) (by omega)) ?_
    rcases (show a = 0 ∨ a = 1 ∨ a = 2 by omega) with rfl | rfl | rfl
    · refine br_t rfl (br_f (by decide) (br_t rfl (br_f (by decide) (yb_cellAt (by omega) Hw r1 r2 r3 ?_))))
      exact FIN _ c1
    · refine br_f (by decide) (br_t rfl (br_f (by decide) (yb_cellAt (by omega) Hw r1 r2 r3 ?_)))
      exact FIN _ c1
    · refine br_f (by decide) (br_f (by decide) (br_f (by decide) (br_t rfl (yb_cellAt (by omega) Hw r1 r2 r3 ?_))))
      exact FIN _ c1
theorem yf_loop {post : Int32 → SY → Prop} {w a v s r N rkw tt : Nat} {dd dw f : Nat → Nat} {cw : Nat → Nat → Nat → Nat} {P0 C0 : Nat → Int32} (hw : w < 24) (H24 : yb_row b_rank b_dims 24 r dd) (Hw : yb_row b_rank b_dims w rkw dw) (ha : a < rkw) (htt : dw a = tt) (hdd : fo_d dw rkw a = dd) (hN : dd 0 * dd 1 * dd 2 = N) (hs : s < 32) (hfi : ∀ i j, i < N → j < N → f i = f j → i = j) (hf : ∀ i, i < N → f i < 320) (hS : ∀ i, i < N → b_shown (1536 + i) = nI (f i)) (hcw : ∀ i j k, i < dw 0 → j < dw 1 → k < dw 2 → b_shown (64 * w + ((i * dw 1 + j) * dw 2 + k)) = nI (cw i j k) ∧ cw i j k < 320) (hv : v < 24) (hv0 : b_used v = 0) (hvl : ∀ j, j < v → ¬ b_used j = 0) (h : ∀ P C D S : Nat → Int32, yp_ok f N (fun i t => cw (fo_c0 a (i / (dd 1 * dd 2) % dd 0) t) (fo_c1 a (i / (dd 1 * dd 2) % dd 0) (i / dd 2 % dd 1) t) (fo_c2 a (i / dd 2 % dd 1) t)) (fun _ => tt) P0 C0 P C → (∀ a, a < r → D (3 * v + a) = nI (dd a)) → (∀ j, (j < 3 * v ∨ 3 * v + 3 ≤ j) → D j = b_dims j) → (∀ i, i < N → S (64 * v + i) = nI (f i)) → (∀ j, (j < 64 * v ∨ 64 * v + 64 ≤ j) → S j = b_shown j) → post (nI v) (c_cells, c_slopeCount, upd b_used v 1, upd b_rank v (nI r), D, S, upd b_tensorOf v (nI s), upd b_view v 0, b_exists, b_kind, b_first, b_second, b_owner, P, C, b_value, b_slopeOf, b_order, b_slopes)) : ∀ (q j : Nat) (P C : Nat → Int32), j + q = N → yp_ok f N (fun i t => cw (fo_c0 a (i / (dd 1 * dd 2) % dd 0) t) (fo_c1 a (i / (dd 1 * dd 2) % dd 0) (i / dd 2 % dd 1) t) (fo_c2 a (i / dd 2 % dd 1) t)) (yp_c tt j 0) P0 C0 P C → wY_fold_151 post (nI w) (nI a) (nI tt) (nI s) (nI N) (q + 1) (nI j) c_cells c_slopeCount b_used b_rank b_dims b_shown b_tensorOf b_view b_exists b_kind b_first b_second b_owner P C b_value b_slopeOf b_order b_slopes := by
  have hb4 := H24.2.2.2.2
  have hN64 : N ≤ 64 := hN ▸ ab_sz (hb4 0 (by omega)).2 (hb4 1 (by omega)).2 (hb4 2 (by omega)).2
  have h3 : ab_sh3 rkw dw := ⟨Hw.2.1, Hw.2.2.2.1, Hw.2.2.2.2⟩
  have hk3 := Hw.2.1
  have t4 := (h3.2.2 a (by omega)).2
  intro q
  induction q with
  | zero =>
    intro j P C hj A
    have : j = N := by omega
    subst this
    refine br_t (nI_le (by omega) (by omega)) ?_
    refine yv_hand (e := dd) (c := f) (N := j) hv hv0 hvl hs H24.1 H24.2.1 hN64 (fun a ha => H24.2.2.1 a ha) (fun a ha => (H24.2.2.2.2 a ha).2) hS hf (fun D S d1 d2 s1 s2 => ?_)
    rw [ab_b0]
    exact h P C D S (yp_x A) d1 d2 s1 s2
  | succ q ih =>
    intro j P C hj A
    obtain ⟨i1, i2, i3⟩ := ab_pfi (e := j) (hb4 0 (by omega)).1 (hb4 1 (by omega)).1 (hb4 2 (by omega)).1
    refine br_f (nI_ge (by omega) (by omega)) (yb_index0 (h := 24) (by omega) H24 (by omega) (yb_index1 (h := 24) (by omega) H24 (by omega) ⟨tt + 1, ?_⟩))
    refine yf_inner (cw := cw) hw Hw (by omega) hN64 (by omega) (by omega) hfi hf hS hcw ?_ (fun p hp => rfl) (fun P' C' A' => ih (j + 1) P' C' (by omega) A') tt 0 P C (by omega) A
    intro p hp
    rw [← hdd] at i1 i2 ⊢
    exact fo_crng h3 ha i1 i2 (by omega)
theorem yf_shape {post : Int32 → SY → Prop} {w a rkw : Nat} {dw : Nat → Nat} (hw : w < 24) (hU : ¬ b_used w = 0) (Hw : yb_row b_rank b_dims w rkw dw) (ha : a < rkw) (h : ∀ (R D : Nat → Int32), R 24 = nI (rkw - 1) → (∀ h, h < 24 → R h = b_rank h) → (∀ i, i < rkw - 1 → D (72 + i) = nI (fo_d dw rkw a i)) → (∀ j, j < 72 → D j = b_dims j) → wY_fold_119 post (nI w) (nI a) (nI (dw a)) c_cells c_slopeCount b_used R D b_shown b_tensorOf b_view b_exists b_kind b_first b_second b_owner b_parts b_partCount b_value b_slopeOf b_order b_slopes) : wpY_fold post (c_cells, c_slopeCount, b_used, b_rank, b_dims, b_shown, b_tensorOf, b_view, b_exists, b_kind, b_first, b_second, b_owner, b_parts, b_partCount, b_value, b_slopeOf, b_order, b_slopes) (nI w) (nI a) := by
  have hk3 := Hw.2.1
  have hb4 := Hw.2.2.2.2
  have hc : (nI w).toNatClampNeg = w := nI_clamp (by omega)
  have hv25 : vp_in (nI w) 25 := vp_in_nI (by omega) (by decide)
  have e1 : nI rkw - 1 = nI (rkw - 1) := pk_sub (b := 1) (by omega)
  have B0 : yb_bt 0 = 0 := yb_btn (n := 0) (by omega)
  have K75 : ∀ i0 i1 : Nat, i0 < 3 → i1 < 3 → (1 < rkw → b_dims (3 * w + i0) = nI (fo_d dw rkw a 0)) → (2 < rkw → b_dims (3 * w + i1) = nI (fo_d dw rkw a 1)) → wY_fold_75 post (nI w) (nI a) (nI (dw a)) (nI i1) (3 * nI w) (b_dims (3 * w + i0)) (nI (rkw - 1)) c_cells c_slopeCount b_used b_rank b_dims b_shown b_tensorOf b_view b_exists b_kind b_first b_second b_owner b_parts b_partCount b_value b_slopeOf b_order b_slopes := by
    intro i0 i1 l0 l1 h0 h1
    refine ⟨ab_vin ab_iy (by omega) (by decide), ?_⟩
    rw [ab_iy, nI_clamp (by omega)]
    refine yb_shapeNew (by omega) ?_
    have F3 := fo_d3 (rk := rkw) (dw := dw) ⟨Hw.2.1, Hw.2.2.2.1, Hw.2.2.2.2⟩ ha
    have d0 := F3.2.2 0 (by omega)
    have d1 := F3.2.2 1 (by omega)
    have R1 : ∀ h, h < 24 → upd b_rank 24 (nI (rkw - 1)) h = b_rank h := fun h hh => pk_un (by omega)
    have r24 : upd b_rank 24 (nI (rkw - 1)) 24 = nI (rkw - 1) := pk_us
    rcases (show rkw = 1 ∨ rkw = 2 ∨ rkw = 3 by omega) with z | z | z
    · refine br_f (by rw [r24, z]; decide) (nm_e (br_f (by rw [r24, z]; decide) (nm_e (h _ _ r24 R1 (fun i hi => by omega) ?_))))
      intro j hj
      rw [pk_un (by omega), pk_un (by omega), ab_en (by omega)]
    · refine br_f (by rw [r24, z]; decide) (nm_e (br_t (by rw [r24, z]; decide) (h _ _ r24 R1 (fun i hi => ?_) ?_)))
      · rw [show i = 0 by omega, pk_un (by omega)]
        refine ab_e0.trans ?_
        rw [h0 (by omega)]; exact yb_btn (by omega)
      · intro j hj
        rw [pk_un (by omega), ab_en (by omega)]
    · refine br_t (by rw [r24, z]; decide) (br_t (by rw [r24, z]; decide) (h _ _ r24 R1 (fun i hi => ?_) ?_))
      · rcases (show i = 0 ∨ i = 1 by omega) with y | y <;> rw [y]
        · refine ab_e0.trans ?_
          rw [h0 (by omega)]; exact yb_btn (by omega)
        · refine ab_e1.trans ?_
          rw [h1 (by omega)]; exact yb_btn (by omega)
      · intro j hj
        rw [ab_en (by omega)]
  unfold wpY_fold
  refine yb_isHandle_t hw hU (br_f ab_10 (br_f (nI_pos (by omega)) ⟨hv25, br_t (by rw [hc, Hw.1]; exact nI_lt ha (by omega)) (yb_dim (by omega) (by omega) ⟨hv25, ?_⟩)⟩))
  rw [hc, Hw.1, e1, Hw.2.2.1 a ha]
  rcases (show a = 0 ∨ a = 1 ∨ a = 2 by omega) with rfl | rfl | rfl
  · refine br_t rfl ⟨ab_vin (ab_iy (a := 1)) (by omega) (by decide), br_f (by decide) ?_⟩
    rw [show (3 : Int32) * nI w + 1 = nI (3 * w + 1) from ab_iy (a := 1), nI_clamp (by omega)]
    exact K75 1 2 (by omega) (by omega) (fun z => by simp [fo_d, z]; exact Hw.2.2.1 1 z) (fun z => by simp [fo_d, z]; exact Hw.2.2.1 2 z)
  · refine br_f (by decide) ⟨ab_vin (ab_iy (a := 0)) (by omega) (by decide), br_f (by decide) ?_⟩
    rw [show (3 : Int32) * nI w + 0 = nI (3 * w + 0) from ab_iy (a := 0), nI_clamp (by omega)]
    exact K75 0 2 (by omega) (by omega) (fun z => by simp [fo_d, z]; exact Hw.2.2.1 0 (by omega)) (fun z => by simp [fo_d, z]; exact Hw.2.2.1 2 z)
  · refine br_f (by decide) ⟨ab_vin (ab_iy (a := 0)) (by omega) (by decide), br_t (by decide) ?_⟩
    rw [show (3 : Int32) * nI w + 0 = nI (3 * w + 0) from ab_iy (a := 0), nI_clamp (by omega)]
    exact K75 0 1 (by omega) (by omega) (fun z => by simp [fo_d, z]; exact Hw.2.2.1 0 (by omega)) (fun z => by simp [fo_d, z]; exact Hw.2.2.1 1 (by omega))
theorem yf_f1 {post : Int32 → SY → Prop} {x y : Int32} (hx : ¬ ab_isH b_used x) (hp : post (-1) (c_cells, c_slopeCount, b_used, b_rank, b_dims, b_shown, b_tensorOf, b_view, b_exists, b_kind, b_first, b_second, b_owner, b_parts, b_partCount, b_value, b_slopeOf, b_order, b_slopes)) : wpY_fold post (c_cells, c_slopeCount, b_used, b_rank, b_dims, b_shown, b_tensorOf, b_view, b_exists, b_kind, b_first, b_second, b_owner, b_parts, b_partCount, b_value, b_slopeOf, b_order, b_slopes) x y := by
  unfold wpY_fold
  exact yb_isHandle_f hx (br_t rfl hp)
theorem yf_f2 {post : Int32 → SY → Prop} {w rk : Nat} {y : Int32} (hw : w < 24) (hU : ¬ b_used w = 0) (hr : b_rank w = nI rk) (hk : rk ≤ 3) (hn : ¬ ab_isA rk y) (hp : post (-1) (c_cells, c_slopeCount, b_used, b_rank, b_dims, b_shown, b_tensorOf, b_view, b_exists, b_kind, b_first, b_second, b_owner, b_parts, b_partCount, b_value, b_slopeOf, b_order, b_slopes)) : wpY_fold post (c_cells, c_slopeCount, b_used, b_rank, b_dims, b_shown, b_tensorOf, b_view, b_exists, b_kind, b_first, b_second, b_owner, b_parts, b_partCount, b_value, b_slopeOf, b_order, b_slopes) (nI w) y := by
  have hv25 : vp_in (nI w) 25 := vp_in_nI (by omega) (by decide)
  unfold wpY_fold
  refine yb_isHandle_t hw hU (br_f ab_10 (br_c (fun _ => hp) (fun h1 => ⟨hv25, br_c (fun h3 => ?_) (fun _ => hp)⟩)))
  rw [nI_clamp (by omega), hr] at h3
  exact absurd (ab_notA hk hn h1 (Int32.not_le.mpr h3)) id
end
theorem i_vc_fold {k : Nat} {u : SX} {v : SY} (I : i_Rel k u v) (hk : k + 5 ≤ 2560) (v1 : Int32) (v2 : Int32) : wpX_fold (fun r u' => wpY_fold (fun r' v' => r' = r ∧ i_Rel (k + 5) u' v') v v1 v2) u v1 v2 := by
  obtain ⟨f_slotsTaken, f_elementsTaken, f_slopeCount, a_handleTaken, a_handleIsView, a_windowRank, a_windowSlot, a_windowStart, a_windowDimension, a_windowStride, a_slotSize, a_slotKind, a_slotTerms, a_slotNeeded, a_slotsByAge, a_values, a_derivatives, a_firstPlaces, a_secondPlaces, a_assigned, a_slopes⟩ := u
  obtain ⟨c_cells, c_slopeCount, b_used, b_rank, b_dims, b_shown, b_tensorOf, b_view, b_exists, b_kind, b_first, b_second, b_owner, b_parts, b_partCount, b_value, b_slopeOf, b_order, b_slopes⟩ := v
  have I' := I
  obtain ⟨rk, sl, d, G, ages, sz, kd, tm, yk, cl, hX, hY, hS⟩ := I'
  have hu := hY.1.1
  by_cases hH : ab_isH a_handleTaken v1
  · obtain ⟨w, hw, rfl, hT⟩ := hH
    obtain ⟨w1, w2, w3, w4⟩ := hX.2.2.2.2 w hw hT
    have yw := hY.2.2.2.2.1 w hw hT
    have hU : ¬ b_used w = 0 := by rw [hu]; exact hT
    by_cases hA : ab_isA (rk w) v2
    · obtain ⟨a, ha, rfl⟩ := hA
      have hfree : ∀ t, t < 32 → (b_exists t = 0 ↔ a_slotSize t = 0) := fun t ht => (hY.2.2.2.1 t ht).trans (rl_sz0 hX ht).symm
      have Dw := w3.2.2.1
      have kw3 := w2.1
      have H := fo_d3 w2 ha
      by_cases hres : (∀ t, t < 32 → ¬ a_slotSize t = 0) ∨ 320 < (ab_fl sz ages).length + fo_d (d w) (rk w) a 0 * fo_d (d w) (rk w) a 1 * fo_d (d w) (rk w) a 2 ∨ (∀ j, j < 24 → ¬ a_handleTaken j = 0)
      · refine xf_fold_n (dw := d w) hw hT w1 w2 ha (fun i hi => (Dw i hi).1) hX.2.1.1 hX.2.1.2 hres ?_
        refine yf_shape hw hU (rl_row w2 yw) ha (fun R D r24 r1 d24 d1 => ⟨vp_in_nI (by omega) (by decide), ?_⟩)
        refine yb_tensor_n (rk := rk w - 1) (d := fo_d (d w) (rk w) a) ⟨r24, by omega, d24, H.2.1, H.2.2⟩ hY.2.1.1 hX.2.1.2 ?_ (br_f (by decide) ⟨rfl, ?_⟩)
        · rw [hu]
          rcases hres with z | z | z
          · exact Or.inl (fun t ht y => z t ht ((hfree t ht).mp y))
          · exact Or.inr (Or.inl z)
          · exact Or.inr (Or.inr z)
        · exact rl_mk (k + 5) rk sl d G ages sz kd tm yk cl hX (rl_scr r1 d1 (fun _ _ => rfl) (rl_hk hX).1 (rl_hk hX).2 hY) hS
      · generalize hdd : fo_d (d w) (rk w) a = dd at *
        rcases ab_lst a_slotSize 32 with ⟨s, hs, hs0, hsl⟩ | sn
        · rcases ab_lst a_handleTaken 24 with ⟨v, hv, hv0, hvl⟩ | vn
          · have hce : (ab_fl sz ages).length + dd 0 * dd 1 * dd 2 ≤ 320 := Nat.le_of_not_lt (fun z => hres (Or.inr (Or.inl z)))
            have hsn : s ∉ ages := (rl_sz0 hX hs).mp hs0
            have hm := rl_m32 hX.2.2.1.1 hX.2.2.1.2.1 hs hsn
            have t32 := hX.2.2.1.2.1 _ w3.2.1
            have l0 := fo_sl (i := 0) kw3 ha (by omega)
            have l1 := fo_sl (i := 1) kw3 ha (by omega)
            have l2 := fo_sl (i := 2) kw3 ha (by omega)
            have da := w2.2.2 a (by omega)
            refine xf_fold (dw := d w) (dd := dd) hw hT w1 w2 ha (fun i hi => (Dw i hi).1) hdd hX.2.1.1 hce hX.1.1 hm hs hs0 hsl hv hv0 hvl ?_
            rw [w3.1, (Dw _ l0).1, (Dw _ l1).1, (Dw _ l2).1]
            refine yf_shape hw hU (rl_row w2 yw) ha (fun R D r24 r1 d24 d1 => ⟨vp_in_nI (by omega) (by decide), ?_⟩)
            rw [hdd] at d24
            have R24 : yb_row R D 24 (rk w - 1) dd := ⟨r24, by omega, d24, H.2.1, H.2.2⟩
            have Hw' : yb_row R D w (rk w) (d w) := by
              have q := rl_row w2 yw
              refine ⟨by rw [r1 w hw]; exact q.1, q.2.1, fun i hi => ?_, q.2.2.2.1, q.2.2.2.2⟩
              rw [d1 _ (by omega)]; exact q.2.2.1 i hi
            have cW := rl_cell hX hY.2.2.1 w3 yw
            rw [nI_clamp (show w < 2 ^ 31 by omega), yw.2.2.1]
            refine yb_tensor_s (kw := 4) (v := v) (L := (ab_fl sz ages).map cl) R24 hY.2.1.1 hce hs ((hfree s hs).mpr hs0) (fun j hj z => hsl j hj ((hfree j (by omega)).mp z)) hv (by rw [hu]; exact hv0) (by rw [hu]; exact hvl) (by omega) (rl_Lst hY.2.2.1) (by rw [List.length_map]) (fun f O C0 V Ro S A => br_t (nI_pos' (by omega)) (yb_size (h := 24) (by omega) R24 ⟨dd 0 * dd 1 * dd 2 + 1, ?_⟩))
            obtain ⟨A1, A2, A3, A4, A5, A6, A7⟩ := A
            have lw : ∀ i j k, i < d w 0 → j < d w 1 → k < d w 2 → S (64 * w + ((i * d w 1 + j) * d w 2 + k)) = nI (cl (G w i j k)) ∧ cl (G w i j k) < 320 := by
              intro i j k hi hj hk'
              have h1 := ab_lin hi hj hk'
              have h2 := ab_sz (w2.2.2 0 (by omega)).2 (w2.2.2 1 (by omega)).2 (w2.2.2 2 (by omega)).2
              have h3 : (i * d w 1 + j) * d w 2 + k < 64 := by omega
              have h4 : 64 * w + ((i * d w 1 + j) * d w 2 + k) < 1536 := by omega
              rw [A7 _ h4]; exact cW i j k hi hj hk'
            refine yf_loop (f := f) (cw := fun i j k => cl (G w i j k)) (P0 := b_parts) (C0 := C0) (v := v) hw R24 Hw' ha rfl hdd rfl hs A2 (fun i hi => (A1 i hi).1) (fun i hi => (A5 i hi).2) lw hv (by rw [hu]; exact hv0) (by rw [hu]; exact hvl) (fun P C D' S' Y e1 e2 s1 s2 => ⟨rfl, ?_⟩) _ 0 b_parts C0 (by omega) (yp_0 ⟨A1, A2, A3, A4, A5, A6, A7⟩)
            have e1w := fun x y z hx hy hz => w3.2.2.2 _ _ _ (fo_rng (x := x) (y := y) (z := z) w2 ha hx hy hz).1 (fo_rng (x := x) (y := y) (z := z) w2 ha hx hy hz).2.1 (fo_rng (x := x) (y := y) (z := z) w2 ha hx hy hz).2.2
            have hne1 : ∀ i, i < 3 → 1 ≤ d w (fo_s (rk w) a i) ∧ d w (fo_s (rk w) a i) ≤ 4 := fun i hi => w2.2.2 _ (fo_sl kw3 ha hi)
            have hnn := fo_n w2 ha
            rw [hdd] at hnn
            refine rl_mk (k + 5) (ab_fu rk v (rk w - 1)) (mk_f sl v s s (sl w) (sl w)) (mk_f d v s dd (fun i => d w (fo_s (rk w) a i)) (fun i => d w (fo_s (rk w) a i))) (mk_f G v s (mk_g s dd) (fun x y z => G w (ab_crd x y z (fo_i (rk w) a 0)) (ab_crd x y z (fo_i (rk w) a 1)) (ab_crd x y z (fo_i (rk w) a 2))) (fun x y z => G w (ab_crd x y z (fo_i (rk w) a 0)) (ab_crd x y z (fo_i (rk w) a 1)) (ab_crd x y z (fo_i (rk w) a 2)))) (ages ++ [s]) (ab_fu sz s (dd 0 * dd 1 * dd 2)) (ab_fu kd s 3) (ab_fu tm s (d w a)) (ab_fu yk s 4) (rl_cl cl f s) ?_ ?_ hS
            · refine rl_resX (e1 := fun i => d w (fo_s (rk w) a i)) (e2 := fun i => d w (fo_s (rk w) a i)) hs hsn hv H rfl hce (by omega) da.1 da.2 hne1 hne1 hnn hnn w3.2.1 w3.2.1 (fun x y z hx hy hz => ?_) (fun x y z hx hy hz => ?_) hX
              · rw [fo_eq kw3 ha]; exact e1w x y z hx hy hz
              · rw [fo_eq kw3 ha]; exact e1w x y z hx hy hz
            · refine rl_resY (tt := d w a) (kk := 3) (r := rk w - 1) (e1 := fun i => d w (fo_s (rk w) a i)) (e2 := fun i => d w (fo_s (rk w) a i)) hs hsn hv H rfl (by omega) da.2 hne1 hne1 w3.2.1 w3.2.1 (fun x y z hx hy hz => (e1w x y z hx hy hz).2.1) (fun x y z hx hy hz => (e1w x y z hx hy hz).2.1) pk_us ?_ e1 ?_ s1 ?_ ⟨A1, A2, A3, A4, A5, A6, A7⟩ (by rw [if_pos rfl]; exact Y) ?_ (fun z => absurd rfl z) ?_ (yb_btn (by omega)) (fun _ => ⟨by unfold yb_bt; rw [ab_vbm2]; decide, rfl⟩) (fun z => absurd rfl z) hX hY
              · intro i hi hi2; rw [pk_un hi2]; exact r1 i hi
              · intro j hj hj2; rw [e2 j hj2]; exact d1 j hj
              · intro j hj hj2; rw [s2 j hj2]; exact A7 j hj
              · intro _ i t hi ht
                have := fo_lin (g := G w) (i := i) w2 ha (by rw [hdd]; exact hi) ht
                rw [hdd] at this
                exact congrArg cl this.symm
              · exact Or.inr (Or.inr (Or.inr (Or.inr ⟨rfl, Or.inl rfl⟩)))
          · exact absurd (Or.inr (Or.inr vn)) hres
        · exact absurd (Or.inl sn) hres
    · unfold wpX_fold
      refine xw_hasAxis_f2 hw hT w1 w2.1 hA (br_t rfl ?_)
      exact yf_f2 hw hU yw.1 w2.1 hA ⟨rfl, I⟩
  · unfold wpX_fold
    refine xw_hasAxis_f1 hH (br_t rfl ?_)
    exact yf_f1 (by rw [hu]; exact hH) ⟨rfl, I⟩
end
section
def mu_d (a b i : Nat) : Nat := if i = 0 then a else if i = 1 then b else 1
def mu_e (a b c i : Nat) : Nat := if i = 0 then a else if i = 1 then b else c
theorem mu_d3 {a b : Nat} (h1 : 1 ≤ a) (h2 : a ≤ 4) (h3 : 1 ≤ b) (h4 : b ≤ 4) : ab_sh3 2 (mu_d a b) := by
  refine ⟨by omega, fun i j1 j2 => ?_, fun i hi => ?_⟩
  · unfold mu_d; rw [if_neg (by omega), if_neg (by omega)]
  · unfold mu_d; split
    · omega
    · split <;> omega
theorem mu_lin {a b c i t : Nat} {g : Nat → Nat → Nat → Nat} (ha : 1 ≤ a) (hb : 1 ≤ b) (hi : i < a * b * 1) (ht : t < c) : ab_pf a b c g (i * c + t) = g (i / (b * 1) % a) (i / 1 % b) t := by
  have bk := ab_back ha hb (show 1 ≤ 1 by omega) hi
  obtain ⟨i1, i2, i3⟩ := ab_pfi (e := i) ha hb (show 1 ≤ 1 by omega)
  have e : i * c + t = (i / (b * 1) % a * b + i / 1 % b) * c + t := by
    rw [show i / (b * 1) % a * b + i / 1 % b = i by omega]
  rw [e]
  exact ab_pfl i1 i2 ht
section
variable {f_slotsTaken f_elementsTaken f_slopeCount : Int32} {a_handleTaken a_handleIsView a_windowRank a_windowSlot a_windowStart a_windowDimension a_windowStride a_slotSize a_slotKind a_slotTerms a_slotNeeded a_slotsByAge a_values a_derivatives a_firstPlaces a_secondPlaces a_assigned a_slopes : Nat → Int32}
theorem xu_multiply {post : Int32 → SX → Prop} {w p v s c m : Nat} {dd dw dp : Nat → Nat} (hw : w < 24) (hp : p < 24) (hT : ¬ a_handleTaken w = 0) (hTp : ¬ a_handleTaken p = 0) (hrw : a_windowRank w = 2) (hrp : a_windowRank p = 2) (hdw : ∀ i, i < 3 → a_windowDimension (3 * w + i) = nI (dw i)) (hdp : ∀ i, i < 3 → a_windowDimension (3 * p + i) = nI (dp i)) (hw4 : ∀ i, i < 3 → 1 ≤ dw i ∧ dw i ≤ 4) (hp4 : ∀ i, i < 3 → 1 ≤ dp i ∧ dp i ≤ 4) (hin : dp 0 = dw 1) (hdd : mu_d (dw 0) (dp 1) = dd) (hc : f_elementsTaken = nI c) (hce : c + dd 0 * dd 1 * dd 2 ≤ 320) (hm : f_slotsTaken = nI m) (hm2 : m < 32) (hs : s < 32) (hs0 : a_slotSize s = 0) (hsl : ∀ j, j < s → ¬ a_slotSize j = 0) (hv : v < 24) (hv0 : a_handleTaken v = 0) (hvl : ∀ j, j < v → ¬ a_handleTaken j = 0) (h : post (nI v) (nI (m + 1), nI (c + dd 0 * dd 1 * dd 2), f_slopeCount, upd a_handleTaken v 1, upd a_handleIsView v 0, mk_u a_windowRank v s (nI 2) 3 3, mk_u a_windowSlot v s (nI s) (a_windowSlot w) (a_windowSlot p), mk_u a_windowStart v s (nI (64 * s)) (a_windowStart w) (a_windowStart p), mk_3 a_windowDimension v s (nI (dd 0)) (nI (dd 1)) (nI (dd 2)) (nI (dw 0)) (nI (dp 1)) (nI (dw 1)) (nI (dw 0)) (nI (dp 1)) (nI (dw 1)), mk_3 a_windowStride v s (nI (ab_st 2 dd 0)) (nI (ab_st 2 dd 1)) (nI (ab_st 2 dd 2)) (a_windowStride (3 * w)) 0 (a_windowStride (3 * w + 1)) 0 (a_windowStride (3 * p + 1)) (a_windowStride (3 * p)), upd a_slotSize s (nI (dd 0 * dd 1 * dd 2)), upd a_slotKind s 2, upd a_slotTerms s (nI (dw 1)), a_slotNeeded, upd a_slotsByAge m (nI s), a_values, a_derivatives, a_firstPlaces, a_secondPlaces, a_assigned, a_slopes)) : wpX_multiply post (f_slotsTaken, f_elementsTaken, f_slopeCount, a_handleTaken, a_handleIsView, a_windowRank, a_windowSlot, a_windowStart, a_windowDimension, a_windowStride, a_slotSize, a_slotKind, a_slotTerms, a_slotNeeded, a_slotsByAge, a_values, a_derivatives, a_firstPlaces, a_secondPlaces, a_assigned, a_slopes) (nI w) (nI p) := by
  have hn : w ≠ v := fun e => hT (e ▸ hv0)
  have hnp : p ≠ v := fun e => hTp (e ▸ hv0)
  have cw : (nI w).toNatClampNeg = w := nI_clamp (by omega)
  have cp : (nI p).toNatClampNeg = p := nI_clamp (by omega)
  have b0 := hw4 0 (by omega)
  have b1 := hp4 1 (by omega)
  have b2 := hw4 1 (by omega)
  have H : ab_sh3 2 dd := hdd ▸ mu_d3 b0.1 b0.2 b1.1 b1.2
  have k0 : a_windowDimension (3 * w) = nI (dw 0) := hdw 0 (by omega)
  have k1 : a_windowDimension (3 * p) = nI (dp 0) := hdp 0 (by omega)
  have c0 : (nI w * 3).toNatClampNeg = 3 * w := by rw [ab_ix3]; exact nI_clamp (by omega)
  have c1 : (nI p * 3).toNatClampNeg = 3 * p := by rw [ab_ix3]; exact nI_clamp (by omega)
  have c2 : (nI w * 3 + 1).toNatClampNeg = 3 * w + 1 := by rw [show nI w * 3 + 1 = nI (3 * w + 1) from ab_ix (a := 1)]; exact nI_clamp (by omega)
  have c3 : (nI p * 3 + 1).toNatClampNeg = 3 * p + 1 := by rw [show nI p * 3 + 1 = nI (3 * p + 1) from ab_ix (a := 1)]; exact nI_clamp (by omega)
  have hpk : 2 + dw 0 * 2 ^ (3 + 3 * 0) + dp 1 * 2 ^ (3 + 3 * 1) = ab_pk 2 dd := by
    rw [← hdd]; simp [ab_pk, mu_d]; omega
  unfold wpX_multiply
  refine xw_isHandle_t hw hT (br_f ab_10 (xw_isHandle_t hp hTp (br_f ab_10 ⟨vp_in_nI (by omega) (by decide), br_t (by rw [cw]; exact hrw) ⟨vp_in_nI (by omega) (by decide), br_t (by rw [cp]; exact hrp) ⟨ab_vin ab_ix3 (by omega) (by decide), nm_r (e' := nI (dw 0)) (by rw [c0, k0]) ⟨ab_vin (ab_ix (a := 1)) (by omega) (by decide), nm_r (e' := nI (dw 1)) (by rw [c2]; exact hdw 1 (by omega)) ⟨ab_vin (ab_ix (a := 1)) (by omega) (by decide), nm_r (e' := nI (dp 1)) (by rw [c3]; exact hdp 1 (by omega)) ⟨ab_vin ab_ix3 (by omega) (by decide), br_t (by rw [c1, k1, hin]) (xw_packedDim (a := 0) (by omega) (by omega) (xw_packedDim (a := 1) (by omega) (by omega) (nm_r (e' := nI (ab_pk 2 dd)) ?_ ?_)))⟩⟩⟩⟩⟩⟩)))
  · rw [show (2 : Int32) + nI (dw 0 * 2 ^ (3 + 3 * 0)) = nI (2 + dw 0 * 2 ^ (3 + 3 * 0)) from nI_add 2 _, nI_add, hpk]
  refine xw_makeTensor_s H hc hce hm hm2 hs hs0 hsl hv hv0 hvl (br_f (nI_pos (by omega)) ⟨vp_in_nI (by omega) (by decide), ?_⟩)
  rw [nI_clamp (show v < 2 ^ 31 by omega), pk_us]
  refine xw_firstSource ?_
  rw [show nI (24 + 2 * s) + 1 = nI (25 + 2 * s) from by rw [nI_1]; congr 1; omega]
  refine xw_startWindow (by omega) (by omega) (xw_copyAxis (a := 0) (b := 0) (by omega) (by omega) (by omega) (by omega) ?_)
  rw [ab_u30z, ab_u30z, ab_en (by omega), ab_en (by omega), ab_en (by omega), ab_en (by omega), hdw 0 (by omega)]
  refine xw_setAxis (a := 1) (by omega) (by omega) ?_
  rw [ab_u31, ab_u31]
  refine xw_copyAxis (a := 1) (b := 2) (by omega) (by omega) (by omega) (by omega) ?_
  rw [ab_u32, ab_u32, ab_en (by omega), ab_en (by omega), ab_en (by omega), ab_en (by omega), hdw 1 (by omega)]
  refine xw_startWindow (by omega) (by omega) (xw_setAxis (a := 0) (by omega) (by omega) ?_)
  rw [ab_u30z, ab_u30z]
  refine xw_copyAxis (a := 1) (b := 1) (by omega) (by omega) (by omega) (by omega) ?_
  rw [ab_u31, ab_u31, ab_en (by omega), ab_en (by omega), ab_en (by omega), ab_en (by omega), ab_en (by omega), ab_en (by omega), hdp 1 (by omega)]
  refine xw_copyAxis (a := 0) (b := 2) (by omega) (by omega) (by omega) (by omega) ?_
  rw [ab_u32, ab_u32, ab_en (by omega), ab_en (by omega), ab_en (by omega), ab_en (by omega), ab_en (by omega), ab_en (by omega), hdp 0 (by omega), hin, pk_un (show p ≠ 24 + 2 * s by omega), pk_un (show p ≠ 24 + 2 * s by omega), pk_un hnp, pk_un hnp, pk_un hn, pk_un hn]
  exact h
theorem xu_multiply_n {post : Int32 → SX → Prop} {w p c rkw rkp : Nat} {dw dp : Nat → Nat} (hw : w < 24) (hp : p < 24) (hT : ¬ a_handleTaken w = 0) (hTp : ¬ a_handleTaken p = 0) (hrw : a_windowRank w = nI rkw) (hrp : a_windowRank p = nI rkp) (hkw : rkw ≤ 3) (hkp : rkp ≤ 3) (hdw : ∀ i, i < 3 → a_windowDimension (3 * w + i) = nI (dw i)) (hdp : ∀ i, i < 3 → a_windowDimension (3 * p + i) = nI (dp i)) (hw4 : ∀ i, i < 3 → 1 ≤ dw i ∧ dw i ≤ 4) (hp4 : ∀ i, i < 3 → 1 ≤ dp i ∧ dp i ≤ 4) (hc : f_elementsTaken = nI c) (hc2 : c ≤ 320) (hno : rkw = 2 → rkp = 2 → dp 0 = dw 1 → (∀ t, t < 32 → ¬ a_slotSize t = 0) ∨ 320 < c + mu_d (dw 0) (dp 1) 0 * mu_d (dw 0) (dp 1) 1 * mu_d (dw 0) (dp 1) 2 ∨ (∀ j, j < 24 → ¬ a_handleTaken j = 0)) (h : post (-1) (f_slotsTaken, f_elementsTaken, f_slopeCount, a_handleTaken, a_handleIsView, a_windowRank, a_windowSlot, a_windowStart, a_windowDimension, a_windowStride, a_slotSize, a_slotKind, a_slotTerms, a_slotNeeded, a_slotsByAge, a_values, a_derivatives, a_firstPlaces, a_secondPlaces, a_assigned, a_slopes)) : wpX_multiply post (f_slotsTaken, f_elementsTaken, f_slopeCount, a_handleTaken, a_handleIsView, a_windowRank, a_windowSlot, a_windowStart, a_windowDimension, a_windowStride, a_slotSize, a_slotKind, a_slotTerms, a_slotNeeded, a_slotsByAge, a_values, a_derivatives, a_firstPlaces, a_secondPlaces, a_assigned, a_slopes) (nI w) (nI p) := by
  have cw : (nI w).toNatClampNeg = w := nI_clamp (by omega)
  have cp : (nI p).toNatClampNeg = p := nI_clamp (by omega)
  have b0 := hw4 0 (by omega)
  have b1 := hp4 1 (by omega)
  have b2 := hw4 1 (by omega)
  have b3 := hp4 0 (by omega)
  have k0 : a_windowDimension (3 * w) = nI (dw 0) := hdw 0 (by omega)
  have k1 : a_windowDimension (3 * p) = nI (dp 0) := hdp 0 (by omega)
  have c0 : (nI w * 3).toNatClampNeg = 3 * w := by rw [ab_ix3]; exact nI_clamp (by omega)
  have c1 : (nI p * 3).toNatClampNeg = 3 * p := by rw [ab_ix3]; exact nI_clamp (by omega)
  have c2 : (nI w * 3 + 1).toNatClampNeg = 3 * w + 1 := by rw [show nI w * 3 + 1 = nI (3 * w + 1) from ab_ix (a := 1)]; exact nI_clamp (by omega)
  have c3 : (nI p * 3 + 1).toNatClampNeg = 3 * p + 1 := by rw [show nI p * 3 + 1 = nI (3 * p + 1) from ab_ix (a := 1)]; exact nI_clamp (by omega)
  have hpk : 2 + dw 0 * 2 ^ (3 + 3 * 0) + dp 1 * 2 ^ (3 + 3 * 1) = ab_pk 2 (mu_d (dw 0) (dp 1)) := by
    simp [ab_pk, mu_d]; omega
  unfold wpX_multiply
  refine xw_isHandle_t hw hT (br_f ab_10 (xw_isHandle_t hp hTp (br_f ab_10 ⟨vp_in_nI (by omega) (by decide), br_c (fun r1 => ⟨vp_in_nI (by omega) (by decide), br_c (fun r2 => ⟨ab_vin ab_ix3 (by omega) (by decide), nm_r (e' := nI (dw 0)) (by rw [c0, k0]) ⟨ab_vin (ab_ix (a := 1)) (by omega) (by decide), nm_r (e' := nI (dw 1)) (by rw [c2]; exact hdw 1 (by omega)) ⟨ab_vin (ab_ix (a := 1)) (by omega) (by decide), nm_r (e' := nI (dp 1)) (by rw [c3]; exact hdp 1 (by omega)) ⟨ab_vin ab_ix3 (by omega) (by decide), br_c (fun r3 => xw_packedDim (a := 0) (by omega) (by omega) (xw_packedDim (a := 1) (by omega) (by omega) (nm_r (e' := nI (ab_pk 2 (mu_d (dw 0) (dp 1)))) ?_ ?_))) (fun _ => h)⟩⟩⟩⟩) (fun _ => h)⟩) (fun _ => h)⟩)))
  · rw [show (2 : Int32) + nI (dw 0 * 2 ^ (3 + 3 * 0)) = nI (2 + dw 0 * 2 ^ (3 + 3 * 0)) from nI_add 2 _, nI_add, hpk]
  rw [cw, hrw] at r1
  rw [cp, hrp] at r2
  rw [c1, k1] at r3
  have e1 := (nI_eq (b := 2) (by omega) (by decide)).mp r1
  have e2 := (nI_eq (b := 2) (by omega) (by decide)).mp r2
  have e3 := (nI_eq (by omega) (by omega)).mp r3
  exact xw_makeTensor_n (mu_d3 b0.1 b0.2 b1.1 b1.2) hc hc2 (hno e1 e2 e3) (br_t (by decide) h)
end
end
section
section
variable {c_cells c_slopeCount : Int32} {b_used b_rank b_dims b_shown b_tensorOf b_view b_exists b_kind b_first b_second b_owner b_parts b_partCount b_value b_slopeOf b_order b_slopes : Nat → Int32}
theorem yu_inner {post : Int32 → SY → Prop} {J121 : Int32 → Int32 → Int32 → (Nat → Int32) → (Nat → Int32) → (Nat → Int32) → (Nat → Int32) → (Nat → Int32) → (Nat → Int32) → (Nat → Int32) → (Nat → Int32) → (Nat → Int32) → (Nat → Int32) → (Nat → Int32) → (Nat → Int32) → (Nat → Int32) → (Nat → Int32) → (Nat → Int32) → (Nat → Int32) → (Nat → Int32) → Prop} {w p rkw rkp N tt e x y : Nat} {x4 x5 : Int32} {dw dp f : Nat → Nat} {cw cp : Nat → Nat → Nat → Nat} {q : Nat → Nat → Nat} {P0 C0 : Nat → Int32} (hw : w < 24) (hp : p < 24) (Hw : yb_row b_rank b_dims w rkw dw) (Hp : yb_row b_rank b_dims p rkp dp) (hN : N ≤ 64) (ht4 : tt ≤ 4) (he : e < N) (hfi : ∀ i j, i < N → j < N → f i = f j → i = j) (hf : ∀ i, i < N → f i < 320) (hS : ∀ i, i < N → b_shown (1536 + i) = nI (f i)) (hcw : ∀ i j k, i < dw 0 → j < dw 1 → k < dw 2 → b_shown (64 * w + ((i * dw 1 + j) * dw 2 + k)) = nI (cw i j k) ∧ cw i j k < 320) (hcp : ∀ i j k, i < dp 0 → j < dp 1 → k < dp 2 → b_shown (64 * p + ((i * dp 1 + j) * dp 2 + k)) = nI (cp i j k) ∧ cp i j k < 320) (hx : x < dw 0) (hy : y < dp 1) (hw1 : dw 1 = tt) (hp0 : dp 0 = tt) (hq : ∀ t, t < tt → q e (2 * t) = cw x t 0 ∧ q e (2 * t + 1) = cp t y 0) (h : ∀ P C : Nat → Int32, yp_ok f N q (yp_c (2 * tt) (e + 1) 0) P0 C0 P C → J121 (nI (e + 1)) c_cells c_slopeCount b_used b_rank b_dims b_shown b_tensorOf b_view b_exists b_kind b_first b_second b_owner P C b_value b_slopeOf b_order b_slopes) : ∀ (k t : Nat) (P C : Nat → Int32), t + k = tt → yp_ok f N q (yp_c (2 * tt) e (2 * t)) P0 C0 P C → wY_multiply_153 post J121 (nI w) (nI p) (nI tt) x4 x5 (nI e) (nI x) (nI y) (k + 1) (nI t) c_cells c_slopeCount b_used b_rank b_dims b_shown b_tensorOf b_view b_exists b_kind b_first b_second b_owner P C b_value b_slopeOf b_order b_slopes := by
  intro k
  induction k with
  | zero =>
    intro t P C ht A
    have : t = tt := by omega
    subst this
    exact br_t (nI_le (by omega) (by omega)) (nm_r (nI_1 e) (h P C (yp_n A)))
  | succ k ih =>
    intro t P C ht A
    have z1 := (Hw.2.2.2.2 2 (by omega)).1
    have z2 := (Hp.2.2.2.2 2 (by omega)).1
    obtain ⟨c1, c2⟩ := hcw x t 0 hx (by omega) (by omega)
    obtain ⟨d1, d2⟩ := hcp t y 0 (by omega) hy (by omega)
    obtain ⟨q1, q2⟩ := hq t (by omega)
    refine br_f (nI_ge (by omega) (by omega)) (yb_cellAt (k := 0) (by omega) Hw hx (by omega) (by omega) (yb_cellAt (k := 0) (by omega) Hp (by omega) hy (by omega) ?_))
    rw [c1, d1]
    refine yp_part (K := 2 * tt) (m := 2 * t) hN hfi hf he (by omega) (by omega) (hS e he) q1 c2 A (fun P' C' A' => ?_)
    refine yp_part (K := 2 * tt) (m := 2 * t + 1) hN hfi hf he (by omega) (by omega) (hS e he) q2 d2 A' (fun P2 C2 A2 => ?_)
    exact nm_r (nI_1 t) (ih (t + 1) P2 C2 (by omega) (by rw [show 2 * (t + 1) = 2 * t + 1 + 1 by omega]; exact A2))
theorem yu_loop {post : Int32 → SY → Prop} {w p v s N tt : Nat} {dd dw dp f : Nat → Nat} {cw cp : Nat → Nat → Nat → Nat} {P0 C0 : Nat → Int32} (hw : w < 24) (hp : p < 24) (H24 : yb_row b_rank b_dims 24 2 dd) (Hw : yb_row b_rank b_dims w 2 dw) (Hp : yb_row b_rank b_dims p 2 dp) (hw1 : dw 1 = tt) (hp0 : dp 0 = tt) (hd0 : dd 0 = dw 0) (hd1 : dd 1 = dp 1) (hN : dd 0 * dd 1 * dd 2 = N) (hs : s < 32) (hfi : ∀ i j, i < N → j < N → f i = f j → i = j) (hf : ∀ i, i < N → f i < 320) (hS : ∀ i, i < N → b_shown (1536 + i) = nI (f i)) (hcw : ∀ i j k, i < dw 0 → j < dw 1 → k < dw 2 → b_shown (64 * w + ((i * dw 1 + j) * dw 2 + k)) = nI (cw i j k) ∧ cw i j k < 320) (hcp : ∀ i j k, i < dp 0 → j < dp 1 → k < dp 2 → b_shown (64 * p + ((i * dp 1 + j) * dp 2 + k)) = nI (cp i j k) ∧ cp i j k < 320) (hv : v < 24) (hv0 : b_used v = 0) (hvl : ∀ j, j < v → ¬ b_used j = 0) (h : ∀ P C D S : Nat → Int32, yp_ok f N (fun i j => if j % 2 = 0 then cw (i / (dd 1 * dd 2) % dd 0) (j / 2) 0 else cp (j / 2) (i / dd 2 % dd 1) 0) (fun _ => 2 * tt) P0 C0 P C → (∀ a, a < 2 → D (3 * v + a) = nI (dd a)) → (∀ j, (j < 3 * v ∨ 3 * v + 3 ≤ j) → D j = b_dims j) → (∀ i, i < N → S (64 * v + i) = nI (f i)) → (∀ j, (j < 64 * v ∨ 64 * v + 64 ≤ j) → S j = b_shown j) → post (nI v) (c_cells, c_slopeCount, upd b_used v 1, upd b_rank v (nI 2), D, S, upd b_tensorOf v (nI s), upd b_view v 0, b_exists, b_kind, b_first, b_second, b_owner, P, C, b_value, b_slopeOf, b_order, b_slopes)) : ∀ (q j : Nat) (P C : Nat → Int32), j + q = N → yp_ok f N (fun i j => if j % 2 = 0 then cw (i / (dd 1 * dd 2) % dd 0) (j / 2) 0 else cp (j / 2) (i / dd 2 % dd 1) 0) (yp_c (2 * tt) j 0) P0 C0 P C → wY_multiply_121 post (nI w) (nI p) (nI tt) (nI s) (nI N) (q + 1) (nI j) c_cells c_slopeCount b_used b_rank b_dims b_shown b_tensorOf b_view b_exists b_kind b_first b_second b_owner P C b_value b_slopeOf b_order b_slopes := by
  have hb4 := H24.2.2.2.2
  have hN64 : N ≤ 64 := hN ▸ ab_sz (hb4 0 (by omega)).2 (hb4 1 (by omega)).2 (hb4 2 (by omega)).2
  have t4 := (Hw.2.2.2.2 1 (by omega)).2
  intro q
  induction q with
  | zero =>
    intro j P C hj A
    have : j = N := by omega
    subst this
    refine br_t (nI_le (by omega) (by omega)) ?_
    refine yv_hand (e := dd) (c := f) (N := j) hv hv0 hvl hs H24.1 H24.2.1 hN64 (fun a ha => H24.2.2.1 a ha) (fun a ha => (H24.2.2.2.2 a ha).2) hS hf (fun D S d1 d2 s1 s2 => ?_)
    rw [ab_b0]
    exact h P C D S (yp_x A) d1 d2 s1 s2
  | succ q ih =>
    intro j P C hj A
    obtain ⟨i1, i2, i3⟩ := ab_pfi (e := j) (hb4 0 (by omega)).1 (hb4 1 (by omega)).1 (hb4 2 (by omega)).1
    refine br_f (nI_ge (by omega) (by omega)) (yb_index0 (h := 24) (by omega) H24 (by omega) (yb_index1 (h := 24) (by omega) H24 (by omega) ⟨tt + 1, ?_⟩))
    refine yu_inner (cw := cw) (cp := cp) hw hp Hw Hp hN64 (by omega) (by omega) hfi hf hS hcw hcp (by omega) (by omega) hw1 hp0 ?_ (fun P' C' A' => ih (j + 1) P' C' (by omega) A') tt 0 P C (by omega) A
    intro t ht
    refine ⟨?_, ?_⟩
    · rw [if_pos (show 2 * t % 2 = 0 by omega), show 2 * t / 2 = t by omega]
    · rw [if_neg (show ¬ (2 * t + 1) % 2 = 0 by omega), show (2 * t + 1) / 2 = t by omega]
theorem yu_shape {post : Int32 → SY → Prop} {w p rkw rkp : Nat} {dw dp : Nat → Nat} (hw : w < 24) (hp : p < 24) (hU : ¬ b_used w = 0) (hUp : ¬ b_used p = 0) (Hw : yb_row b_rank b_dims w rkw dw) (Hp : yb_row b_rank b_dims p rkp dp) (h : rkw = 2 → rkp = 2 → dp 0 = dw 1 → ∀ (R D : Nat → Int32), R 24 = nI 2 → (∀ h, h < 24 → R h = b_rank h) → (∀ i, i < 2 → D (72 + i) = nI (mu_d (dw 0) (dp 1) i)) → (∀ j, j < 72 → D j = b_dims j) → wpY_tensor (fun r_132 u => match u with | (c_cells, c_slopeCount, b_used, b_rank, b_dims, b_shown, b_tensorOf, b_view, b_exists, b_kind, b_first, b_second, b_owner, b_parts, b_partCount, b_value, b_slopeOf, b_order, b_slopes) => (((0 ≤ r_132 → (wpY_size (fun r_153 => (∃ n121 : Nat, wY_multiply_121 post (nI w) (nI p) (nI (dw 1)) r_132 r_153 n121 0 c_cells c_slopeCount b_used b_rank b_dims b_shown b_tensorOf b_view b_exists b_kind b_first b_second b_owner b_parts b_partCount b_value b_slopeOf b_order b_slopes)) (c_cells, c_slopeCount, b_used, b_rank, b_dims, b_shown, b_tensorOf, b_view, b_exists, b_kind, b_first, b_second, b_owner, b_parts, b_partCount, b_value, b_slopeOf, b_order, b_slopes) 24)) ∧ (¬ 0 ≤ r_132 → (post (-1) (c_cells, c_slopeCount, b_used, b_rank, b_dims, b_shown, b_tensorOf, b_view, b_exists, b_kind, b_first, b_second, b_owner, b_parts, b_partCount, b_value, b_slopeOf, b_order, b_slopes)))))) (c_cells, c_slopeCount, b_used, R, D, b_shown, b_tensorOf, b_view, b_exists, b_kind, b_first, b_second, b_owner, b_parts, b_partCount, b_value, b_slopeOf, b_order, b_slopes) 5 (b_tensorOf w) (b_tensorOf p)) (hf : ¬ (rkw = 2 ∧ rkp = 2 ∧ dp 0 = dw 1) → post (-1) (c_cells, c_slopeCount, b_used, b_rank, b_dims, b_shown, b_tensorOf, b_view, b_exists, b_kind, b_first, b_second, b_owner, b_parts, b_partCount, b_value, b_slopeOf, b_order, b_slopes)) : wpY_multiply post (c_cells, c_slopeCount, b_used, b_rank, b_dims, b_shown, b_tensorOf, b_view, b_exists, b_kind, b_first, b_second, b_owner, b_parts, b_partCount, b_value, b_slopeOf, b_order, b_slopes) (nI w) (nI p) := by
  have cw : (nI w).toNatClampNeg = w := nI_clamp (by omega)
  have cp : (nI p).toNatClampNeg = p := nI_clamp (by omega)
  have hvw : vp_in (nI w) 25 := vp_in_nI (by omega) (by decide)
  have hvp : vp_in (nI p) 25 := vp_in_nI (by omega) (by decide)
  have kw := Hw.2.1
  have kp := Hp.2.1
  have bw := Hw.2.2.2.2
  have bp := Hp.2.2.2.2
  unfold wpY_multiply
  refine yb_isHandle_t hw hU (br_f ab_10 (yb_isHandle_t hp hUp (br_f ab_10 ⟨hvw, ?_⟩)))
  rw [cw, cp, Hw.1, Hp.1]
  by_cases z1 : rkw = 2
  · subst z1
    refine br_t rfl ⟨hvp, ?_⟩
    by_cases z2 : rkp = 2
    · subst z2
      refine br_t rfl (yb_dim (a := 1) (by omega) (by omega) (yb_dim (a := 0) (by omega) (by omega) ?_))
      rw [Hw.2.2.1 1 (by omega), Hp.2.2.1 0 (by omega)]
      have l1 := bw 1 (by omega)
      have l0 := bp 0 (by omega)
      by_cases z3 : dp 0 = dw 1
      · refine br_t (by rw [z3]) (yb_dim (a := 1) (by omega) (by omega) ⟨ab_vin ab_iy0 (by omega) (by decide), ab_vin (ab_iy (a := 1)) (by omega) (by decide), ?_⟩)
        rw [Hw.2.2.1 1 (by omega), ab_iy0, nI_clamp (by omega), show (3 : Int32) * nI p + 1 = nI (3 * p + 1) from ab_iy (a := 1), nI_clamp (by omega), Hp.2.2.1 1 (by omega), show b_dims (3 * w) = nI (dw 0) from Hw.2.2.1 0 (by omega)]
        refine yb_shapeNew (r := 2) (by omega) ⟨hvw, hvp, ?_⟩
        have g0 := bw 0 (by omega)
        have g1 := bp 1 (by omega)
        refine h rfl rfl z3 _ _ pk_us (fun i hi => pk_un (by omega)) (fun i hi => ?_) (fun j hj => ab_en (by omega))
        rcases (show i = 0 ∨ i = 1 by omega) with rfl | rfl
        · refine ab_e0.trans ?_
          rw [yb_btn (by omega)]; rfl
        · refine ab_e1.trans ?_
          rw [yb_btn (by omega)]; rfl
      · refine br_f (fun q => z3 ((nI_eq (by omega) (by omega)).mp q).symm) (hf (fun q => z3 q.2.2))
    · exact br_f (fun q => z2 ((nI_eq (b := 2) (by omega) (by decide)).mp q)) (hf (fun q => z2 q.2.1))
  · exact br_f (fun q => z1 ((nI_eq (b := 2) (by omega) (by decide)).mp q)) (hf (fun q => z1 q.1))
end
theorem i_vc_multiply {k : Nat} {u : SX} {v : SY} (I : i_Rel k u v) (hk : k + 5 ≤ 2560) (v1 : Int32) (v2 : Int32) : wpX_multiply (fun r u' => wpY_multiply (fun r' v' => r' = r ∧ i_Rel (k + 5) u' v') v v1 v2) u v1 v2 := by
  obtain ⟨f_slotsTaken, f_elementsTaken, f_slopeCount, a_handleTaken, a_handleIsView, a_windowRank, a_windowSlot, a_windowStart, a_windowDimension, a_windowStride, a_slotSize, a_slotKind, a_slotTerms, a_slotNeeded, a_slotsByAge, a_values, a_derivatives, a_firstPlaces, a_secondPlaces, a_assigned, a_slopes⟩ := u
  obtain ⟨c_cells, c_slopeCount, b_used, b_rank, b_dims, b_shown, b_tensorOf, b_view, b_exists, b_kind, b_first, b_second, b_owner, b_parts, b_partCount, b_value, b_slopeOf, b_order, b_slopes⟩ := v
  have I' := I
  obtain ⟨rk, sl, d, G, ages, sz, kd, tm, yk, cl, hX, hY, hS⟩ := I'
  have hu := hY.1.1
  by_cases hH : ab_isH a_handleTaken v1
  · obtain ⟨w, hw, rfl, hT⟩ := hH
    by_cases hK : ab_isH a_handleTaken v2
    · obtain ⟨p, hp, rfl, hTp⟩ := hK
      obtain ⟨w1, w2, w3, w4⟩ := hX.2.2.2.2 w hw hT
      obtain ⟨p1, p2, p3, p4⟩ := hX.2.2.2.2 p hp hTp
      have yw := hY.2.2.2.2.1 w hw hT
      have yp := hY.2.2.2.2.1 p hp hTp
      have hU : ¬ b_used w = 0 := by rw [hu]; exact hT
      have hUp : ¬ b_used p = 0 := by rw [hu]; exact hTp
      have hfree : ∀ t, t < 32 → (b_exists t = 0 ↔ a_slotSize t = 0) := fun t ht => (hY.2.2.2.1 t ht).trans (rl_sz0 hX ht).symm
      have Dw := w3.2.2.1
      have Dp := p3.2.2.1
      have b0 := w2.2.2 0 (by omega)
      have b1 := p2.2.2 1 (by omega)
      have b2 := w2.2.2 1 (by omega)
      have H := mu_d3 b0.1 b0.2 b1.1 b1.2
      by_cases hno : rk w = 2 → rk p = 2 → d p 0 = d w 1 → (∀ t, t < 32 → ¬ a_slotSize t = 0) ∨ 320 < (ab_fl sz ages).length + mu_d (d w 0) (d p 1) 0 * mu_d (d w 0) (d p 1) 1 * mu_d (d w 0) (d p 1) 2 ∨ (∀ j, j < 24 → ¬ a_handleTaken j = 0)
      · refine xu_multiply_n (dw := d w) (dp := d p) hw hp hT hTp w1 p1 w2.1 p2.1 (fun i hi => (Dw i hi).1) (fun i hi => (Dp i hi).1) w2.2.2 p2.2.2 hX.2.1.1 hX.2.1.2 hno ?_
        refine yu_shape hw hp hU hUp (rl_row w2 yw) (rl_row p2 yp) (fun e1 e2 e3 R D r24 r1 d24 d1 => ?_) (fun _ => ⟨rfl, I⟩)
        refine yb_tensor_n (rk := 2) (d := mu_d (d w 0) (d p 1)) ⟨r24, by omega, d24, H.2.1, H.2.2⟩ hY.2.1.1 hX.2.1.2 ?_ (br_f (by decide) ⟨rfl, ?_⟩)
        · rw [hu]
          rcases hno e1 e2 e3 with z | z | z
          · exact Or.inl (fun t ht y => z t ht ((hfree t ht).mp y))
          · exact Or.inr (Or.inl z)
          · exact Or.inr (Or.inr z)
        · exact rl_mk (k + 5) rk sl d G ages sz kd tm yk cl hX (rl_scr r1 d1 (fun _ _ => rfl) (rl_hk hX).1 (rl_hk hX).2 hY) hS
      · have r2w : rk w = 2 := Classical.byContradiction (fun z => hno (fun q => absurd q z))
        have r2p : rk p = 2 := Classical.byContradiction (fun z => hno (fun _ q => absurd q z))
        have hin : d p 0 = d w 1 := Classical.byContradiction (fun z => hno (fun _ _ q => absurd q z))
        have hres := fun z => hno (fun _ _ _ => z)
        have dd0 : mu_d (d w 0) (d p 1) 0 = d w 0 := rfl
        have dd1 : mu_d (d w 0) (d p 1) 1 = d p 1 := rfl
        have dd2 : mu_d (d w 0) (d p 1) 2 = 1 := rfl
        generalize hdd : mu_d (d w 0) (d p 1) = dd at *
        rcases ab_lst a_slotSize 32 with ⟨s, hs, hs0, hsl⟩ | sn
        · rcases ab_lst a_handleTaken 24 with ⟨v, hv, hv0, hvl⟩ | vn
          · have hce : (ab_fl sz ages).length + dd 0 * dd 1 * dd 2 ≤ 320 := Nat.le_of_not_lt (fun z => hres (Or.inr (Or.inl z)))
            have hsn : s ∉ ages := (rl_sz0 hX hs).mp hs0
            have hm := rl_m32 hX.2.2.1.1 hX.2.2.1.2.1 hs hsn
            have t32 := hX.2.2.1.2.1 _ w3.2.1
            have u32 := hX.2.2.1.2.1 _ p3.2.1
            have rw2 := rl_row w2 yw
            have rp2 := rl_row p2 yp
            rw [r2w] at w1
            rw [r2p] at p1
            refine xu_multiply (dw := d w) (dp := d p) (dd := dd) hw hp hT hTp w1 p1 (fun i hi => (Dw i hi).1) (fun i hi => (Dp i hi).1) w2.2.2 p2.2.2 hin hdd hX.2.1.1 hce hX.1.1 hm hs hs0 hsl hv hv0 hvl ?_
            rw [w3.1, p3.1]
            refine yu_shape hw hp hU hUp rw2 rp2 (fun _ _ _ R D r24 r1 d24 d1 => ?_) (fun z => absurd ⟨r2w, r2p, hin⟩ z)
            rw [hdd] at d24
            rw [r2w] at rw2
            rw [r2p] at rp2
            have R24 : yb_row R D 24 2 dd := ⟨r24, by omega, d24, H.2.1, H.2.2⟩
            have Hw' : yb_row R D w 2 (d w) := by
              refine ⟨by rw [r1 w hw]; exact rw2.1, rw2.2.1, fun i hi => ?_, rw2.2.2.2.1, rw2.2.2.2.2⟩
              rw [d1 _ (by omega)]; exact rw2.2.2.1 i hi
            have Hp' : yb_row R D p 2 (d p) := by
              refine ⟨by rw [r1 p hp]; exact rp2.1, rp2.2.1, fun i hi => ?_, rp2.2.2.2.1, rp2.2.2.2.2⟩
              rw [d1 _ (by omega)]; exact rp2.2.2.1 i hi
            have cW := rl_cell hX hY.2.2.1 w3 yw
            have cP := rl_cell hX hY.2.2.1 p3 yp
            rw [yw.2.2.1, yp.2.2.1]
            refine yb_tensor_s (kw := 5) (v := v) (L := (ab_fl sz ages).map cl) R24 hY.2.1.1 hce hs ((hfree s hs).mpr hs0) (fun j hj z => hsl j hj ((hfree j (by omega)).mp z)) hv (by rw [hu]; exact hv0) (by rw [hu]; exact hvl) (by omega) (rl_Lst hY.2.2.1) (by rw [List.length_map]) (fun f O C0 V Ro S A => br_t (nI_pos' (by omega)) (yb_size (h := 24) (by omega) R24 ⟨dd 0 * dd 1 * dd 2 + 1, ?_⟩))
            obtain ⟨A1, A2, A3, A4, A5, A6, A7⟩ := A
            have lw : ∀ i j k, i < d w 0 → j < d w 1 → k < d w 2 → S (64 * w + ((i * d w 1 + j) * d w 2 + k)) = nI (cl (G w i j k)) ∧ cl (G w i j k) < 320 := by
              intro i j k hi hj hk'
              have h1 := ab_lin hi hj hk'
              have h2 := ab_sz (w2.2.2 0 (by omega)).2 (w2.2.2 1 (by omega)).2 (w2.2.2 2 (by omega)).2
              have h3 : (i * d w 1 + j) * d w 2 + k < 64 := by omega
              have h4 : 64 * w + ((i * d w 1 + j) * d w 2 + k) < 1536 := by omega
              rw [A7 _ h4]; exact cW i j k hi hj hk'
            have lp : ∀ i j k, i < d p 0 → j < d p 1 → k < d p 2 → S (64 * p + ((i * d p 1 + j) * d p 2 + k)) = nI (cl (G p i j k)) ∧ cl (G p i j k) < 320 := by
              intro i j k hi hj hk'
              have h1 := ab_lin hi hj hk'
              have h2 := ab_sz (p2.2.2 0 (by omega)).2 (p2.2.2 1 (by omega)).2 (p2.2.2 2 (by omega)).2
              have h3 : (i * d p 1 + j) * d p 2 + k < 64 := by omega
              have h4 : 64 * p + ((i * d p 1 + j) * d p 2 + k) < 1536 := by omega
              rw [A7 _ h4]; exact cP i j k hi hj hk'
            refine yu_loop (f := f) (cw := fun i j k => cl (G w i j k)) (cp := fun i j k => cl (G p i j k)) (P0 := b_parts) (C0 := C0) (v := v) (tt := d w 1) hw hp R24 Hw' Hp' rfl hin dd0 dd1 rfl hs A2 (fun i hi => (A1 i hi).1) (fun i hi => (A5 i hi).2) lw lp hv (by rw [hu]; exact hv0) (by rw [hu]; exact hvl) (fun P C D' S' Y e1 e2 s1 s2 => ⟨rfl, ?_⟩) _ 0 b_parts C0 (by omega) (yp_0 ⟨A1, A2, A3, A4, A5, A6, A7⟩)
            have z1 := (w2.2.2 2 (by omega)).1
            have z2 := (p2.2.2 2 (by omega)).1
            have e1w : ∀ x y z, x < d w 0 → y < d p 1 → z < d w 1 → a_windowStart w + nI x * a_windowStride (3 * w) + nI y * 0 + nI z * a_windowStride (3 * w + 1) = nI (G w x z 0) ∧ G w x z 0 / 64 = sl w ∧ G w x z 0 % 64 < sz (sl w) := by
              intro x y z hx hy hz
              obtain ⟨q1, q2⟩ := w3.2.2.2 x z 0 hx hz (by omega)
              refine ⟨?_, q2⟩
              rw [← q1, nI_0]; grind
            have e1p : ∀ x y z, x < d w 0 → y < d p 1 → z < d w 1 → a_windowStart p + nI x * 0 + nI y * a_windowStride (3 * p + 1) + nI z * a_windowStride (3 * p) = nI (G p z y 0) ∧ G p z y 0 / 64 = sl p ∧ G p z y 0 % 64 < sz (sl p) := by
              intro x y z hx hy hz
              obtain ⟨q1, q2⟩ := p3.2.2.2 z y 0 (by omega) hy (by omega)
              refine ⟨?_, q2⟩
              rw [← q1, nI_0]; grind
            have hE : ∀ a, a < 3 → 1 ≤ mu_e (d w 0) (d p 1) (d w 1) a ∧ mu_e (d w 0) (d p 1) (d w 1) a ≤ 4 := by
              intro a ha
              unfold mu_e
              split
              · exact b0
              · split
                · exact b1
                · exact b2
            have hnn : mu_e (d w 0) (d p 1) (d w 1) 0 * mu_e (d w 0) (d p 1) (d w 1) 1 * mu_e (d w 0) (d p 1) (d w 1) 2 = dd 0 * dd 1 * dd 2 * d w 1 := by
              rw [dd0, dd1, dd2, Nat.mul_one]; rfl
            refine rl_mk (k + 5) (ab_fu rk v 2) (mk_f sl v s s (sl w) (sl p)) (mk_f d v s dd (mu_e (d w 0) (d p 1) (d w 1)) (mu_e (d w 0) (d p 1) (d w 1))) (mk_f G v s (mk_g s dd) (fun x y z => G w x z 0) (fun x y z => G p z y 0)) (ages ++ [s]) (ab_fu sz s (dd 0 * dd 1 * dd 2)) (ab_fu kd s 2) (ab_fu tm s (d w 1)) (ab_fu yk s 5) (rl_cl cl f s) ?_ ?_ hS
            · exact rl_resX (e1 := mu_e (d w 0) (d p 1) (d w 1)) (e2 := mu_e (d w 0) (d p 1) (d w 1)) hs hsn hv H rfl hce (by omega) b2.1 b2.2 hE hE hnn hnn w3.2.1 p3.2.1 e1w e1p hX
            · refine rl_resY (tt := d w 1) (kk := 2) (r := 2) (e1 := mu_e (d w 0) (d p 1) (d w 1)) (e2 := mu_e (d w 0) (d p 1) (d w 1)) hs hsn hv H rfl (by omega) b2.2 hE hE w3.2.1 p3.2.1 (fun x y z hx hy hz => (e1w x y z hx hy hz).2.1) (fun x y z hx hy hz => (e1p x y z hx hy hz).2.1) pk_us ?_ e1 ?_ s1 ?_ ⟨A1, A2, A3, A4, A5, A6, A7⟩ (by rw [if_neg (by omega)]; exact Y) (fun z => by omega) ?_ ?_ (yb_btn (by omega)) (fun z => by omega) (fun _ => yb_btn (by omega)) hX hY
              · intro i hi hi2; rw [pk_un hi2]; exact r1 i hi
              · intro j hj hj2; rw [e2 j hj2]; exact d1 j hj
              · intro j hj hj2; rw [s2 j hj2]; exact A7 j hj
              · intro _ i t hi ht
                rw [dd0, dd1, dd2] at hi
                refine ⟨?_, ?_⟩
                · rw [if_pos (show 2 * t % 2 = 0 by omega), show 2 * t / 2 = t by omega]
                  have := mu_lin (g := fun x y z => G w x z 0) b0.1 b1.1 hi ht
                  rw [dd0, dd1, dd2]
                  exact congrArg cl this.symm
                · rw [if_neg (show ¬ (2 * t + 1) % 2 = 0 by omega), show (2 * t + 1) / 2 = t by omega]
                  have := mu_lin (g := fun x y z => G p z y 0) b0.1 b1.1 hi ht
                  rw [dd1, dd2]
                  exact congrArg cl this.symm
              · unfold rl_kr; omega
          · exact absurd (Or.inr (Or.inr vn)) hres
        · exact absurd (Or.inl sn) hres
    · unfold wpX_multiply
      refine xw_isHandle_t hw hT (br_f ab_10 (xw_isHandle_f hK (br_t rfl ?_)))
      unfold wpY_multiply
      exact yb_isHandle_t hw (by rw [hu]; exact hT) (br_f ab_10 (yb_isHandle_f (by rw [hu]; exact hK) (br_t rfl ⟨rfl, I⟩)))
  · unfold wpX_multiply
    refine xw_isHandle_f hH (br_t rfl ?_)
    unfold wpY_multiply
    exact yb_isHandle_f (by rw [hu]; exact hH) (br_t rfl ⟨rfl, I⟩)
end
section
def cp_df (d : Nat → Nat → Nat) (G : Nat → Nat → Nat → Nat → Nat) (sz kd tm : Nat → Nat) (V : Nat → Int32) (s : Nat) : Prop := ∀ i, i < sz s → V (64 * s + i) = ab_sm (fun t => ab_tv (kd s) (V (rl_p d G (24 + 2 * s) (i * tm s + t))) (V (rl_p d G (25 + 2 * s) (i * tm s + t)))) (tm s)
section
variable {f_slotsTaken f_elementsTaken f_slopeCount : Int32} {a_handleTaken a_handleIsView a_windowRank a_windowSlot a_windowStart a_windowDimension a_windowStride a_slotSize a_slotKind a_slotTerms a_slotNeeded a_slotsByAge a_values a_derivatives a_firstPlaces a_secondPlaces a_assigned a_slopes : Nat → Int32}
theorem xk_tv {post : Int32 → Prop} {k : Nat} {a b : Int32} (hk : k ≤ 3) (h : post (ab_tv k a b)) : wpX_termValue post (f_slotsTaken, f_elementsTaken, f_slopeCount, a_handleTaken, a_handleIsView, a_windowRank, a_windowSlot, a_windowStart, a_windowDimension, a_windowStride, a_slotSize, a_slotKind, a_slotTerms, a_slotNeeded, a_slotsByAge, a_values, a_derivatives, a_firstPlaces, a_secondPlaces, a_assigned, a_slopes) (nI k) a b := by
  unfold ab_tv at h
  rcases (show k = 0 ∨ k = 1 ∨ k = 2 ∨ k = 3 by omega) with rfl | rfl | rfl | rfl
  · exact br_f (by decide) (br_f (by decide) (br_t rfl h))
  · exact br_f (by decide) (br_f (by decide) (br_f (by decide) (br_t rfl h)))
  · exact br_f (by decide) (br_f (by decide) (br_f (by decide) (br_f (by decide) (br_t rfl h))))
  · exact br_f (by decide) (br_t (by decide) h)
theorem xk_in {post : SX → Prop} {J49 : Int32 → Int32 → (Nat → Int32) → (Nat → Int32) → (Nat → Int32) → (Nat → Int32) → (Nat → Int32) → (Nat → Int32) → (Nat → Int32) → (Nat → Int32) → (Nat → Int32) → (Nat → Int32) → (Nat → Int32) → (Nat → Int32) → (Nat → Int32) → (Nat → Int32) → (Nat → Int32) → (Nat → Int32) → (Nat → Int32) → (Nat → Int32) → Prop} {s i kk tt : Nat} {x3 : Int32} {q1 q2 : Nat → Nat} {V0 : Nat → Int32} (hs : s < 32) (hi : i < 64) (hk : kk ≤ 3) (hkd : a_slotKind s = nI kk) (ht4 : tt ≤ 4) (hl : ∀ t, t < tt → i * tt + t < 64) (hF : ∀ t, t < tt → a_firstPlaces (i * tt + t) = nI (q1 (i * tt + t)) ∧ q1 (i * tt + t) < 2048) (hS : ∀ t, t < tt → a_secondPlaces (i * tt + t) = nI (q2 (i * tt + t)) ∧ q2 (i * tt + t) < 2048) (hV : ∀ t, t < tt → a_values (q1 (i * tt + t)) = V0 (q1 (i * tt + t)) ∧ a_values (q2 (i * tt + t)) = V0 (q2 (i * tt + t))) (h : J49 (nI (i * tt + tt)) (nI (i + 1)) a_handleTaken a_handleIsView a_windowRank a_windowSlot a_windowStart a_windowDimension a_windowStride a_slotSize a_slotKind a_slotTerms a_slotNeeded a_slotsByAge (upd a_values (64 * s + i) (ab_sm (fun t => ab_tv kk (V0 (q1 (i * tt + t))) (V0 (q2 (i * tt + t)))) tt)) a_derivatives a_firstPlaces a_secondPlaces a_assigned a_slopes) : ∀ k t : Nat, t + k = tt → wX_computeSlot_61 post J49 (nI s) x3 (nI tt) (nI i) f_slotsTaken f_elementsTaken f_slopeCount a_handleTaken a_handleIsView a_windowRank a_windowSlot a_windowStart a_windowDimension a_windowStride a_slotSize a_slotKind a_slotTerms a_slotNeeded a_slotsByAge a_values a_derivatives a_firstPlaces a_secondPlaces a_assigned a_slopes (k + 1) (nI (i * tt + t)) (ab_sm (fun t => ab_tv kk (V0 (q1 (i * tt + t))) (V0 (q2 (i * tt + t)))) t) (nI t) := by
  intro k
  induction k with
  | zero =>
    intro t ht
    have : t = tt := by omega
    subst this
    have e1 : nI s * 64 + nI i = nI (64 * s + i) := by
      show nI s * nI 64 + nI i = _
      rw [pk_mul, nI_add, Nat.mul_comm]
    refine br_t (nI_le (by omega) (by omega)) ⟨ab_vin e1 (by omega) (by decide), fun V hV' => nm_r (nI_1 i) ?_⟩
    rw [e1, nI_clamp (by omega)] at hV'
    subst hV'
    exact h
  | succ k ih =>
    intro t ht
    have l64 := hl t (by omega)
    obtain ⟨f1, f2⟩ := hF t (by omega)
    obtain ⟨g1, g2⟩ := hS t (by omega)
    obtain ⟨v1, v2⟩ := hV t (by omega)
    have hv64 : vp_in (nI (i * tt + t)) 64 := vp_in_nI l64 (by decide)
    refine br_f (nI_ge (by omega) (by omega)) ?_
    rw [nI_clamp (show i * tt + t < 2 ^ 31 by omega), nI_clamp (show s < 2 ^ 31 by omega), f1, g1, hkd, nI_clamp (show q1 (i * tt + t) < 2 ^ 31 by omega), nI_clamp (show q2 (i * tt + t) < 2 ^ 31 by omega), v1, v2]
    refine ⟨vp_in_nI hs (by decide), hv64, vp_in_nI f2 (by decide), hv64, vp_in_nI g2 (by decide), xk_tv hk (nm_e (nm_r (nI_1 _) (nm_r (nI_1 t) (ih (t + 1) (by omega)))))⟩
theorem xk_slot {post : SX → Prop} {rk sl sz kd tm : Nat → Nat} {d : Nat → Nat → Nat} {G : Nat → Nat → Nat → Nat → Nat} {ages : List Nat} {s : Nat} (hX : rl_X rk sl d G ages sz kd tm f_slotsTaken f_elementsTaken a_handleTaken a_handleIsView a_windowRank a_windowSlot a_windowStart a_windowDimension a_windowStride a_slotSize a_slotKind a_slotTerms a_slotsByAge) (hs : s ∈ ages) (hk4 : kd s ≠ 4) (h1 : sl (24 + 2 * s) ≠ s) (h2 : sl (25 + 2 * s) ≠ s) (h : ∀ V F S : Nat → Int32, (∀ i, i < sz s → V (64 * s + i) = ab_sm (fun t => ab_tv (kd s) (a_values (rl_p d G (24 + 2 * s) (i * tm s + t))) (a_values (rl_p d G (25 + 2 * s) (i * tm s + t)))) (tm s)) → (∀ j, j / 64 ≠ s → V j = a_values j) → post (f_slotsTaken, f_elementsTaken, f_slopeCount, a_handleTaken, a_handleIsView, a_windowRank, a_windowSlot, a_windowStart, a_windowDimension, a_windowStride, a_slotSize, a_slotKind, a_slotTerms, a_slotNeeded, a_slotsByAge, V, a_derivatives, F, S, a_assigned, a_slopes)) : wpX_computeSlot post (f_slotsTaken, f_elementsTaken, f_slopeCount, a_handleTaken, a_handleIsView, a_windowRank, a_windowSlot, a_windowStart, a_windowDimension, a_windowStride, a_slotSize, a_slotKind, a_slotTerms, a_slotNeeded, a_slotsByAge, a_values, a_derivatives, a_firstPlaces, a_secondPlaces, a_assigned, a_slopes) (nI s) := by
  have s32 := hX.2.2.1.2.1 s hs
  obtain ⟨z1, z2, z3, z4, z5, z6⟩ := hX.2.2.2.1 s hs
  obtain ⟨q1, q2, q3, q4, q5, q6, q7⟩ := z6 hk4
  have cs : (nI s).toNatClampNeg = s := nI_clamp (by omega)
  have n1 : sz s * tm s ≤ 64 := by
    rw [← q4]
    exact ab_sz (q6.2.2.1 0 (by omega)).2.2 (q6.2.2.1 1 (by omega)).2.2 (q6.2.2.1 2 (by omega)).2.2
  have lin : ∀ i t, i < sz s → t < tm s → i * tm s + t < sz s * tm s := fun i t hi ht => ab_lin1 hi ht
  unfold wpX_computeSlot
  refine xw_firstSource (xl_win_firstPlaces (by omega) q6 (fun F hF => ?_))
  rw [show nI (24 + 2 * s) + 1 = nI (25 + 2 * s) from by rw [nI_1]; congr 1; omega]
  refine xl_win_secondPlaces (by omega) q7 (fun S hS => ⟨vp_in_nI s32 (by decide), nm_r (e' := nI (sz s)) (by rw [cs, z1]) ⟨vp_in_nI s32 (by decide), nm_r (e' := nI (tm s)) (by rw [cs, q1]) ⟨sz s + 1, ?_⟩⟩⟩)
  have p1 : ∀ e, rl_p d G (24 + 2 * s) e < 2048 ∧ rl_p d G (24 + 2 * s) e / 64 ≠ s := fun e => ⟨(rl_pmem hX q6).2, by rw [(rl_pin q6).1]; exact h1⟩
  have p2 : ∀ e, rl_p d G (25 + 2 * s) e < 2048 ∧ rl_p d G (25 + 2 * s) e / 64 ≠ s := fun e => ⟨(rl_pmem hX q7).2, by rw [(rl_pin q7).1]; exact h2⟩
  have L : ∀ (k i : Nat) (V : Nat → Int32), i + k = sz s → (∀ i', i' < i → V (64 * s + i') = ab_sm (fun t => ab_tv (kd s) (a_values (rl_p d G (24 + 2 * s) (i' * tm s + t))) (a_values (rl_p d G (25 + 2 * s) (i' * tm s + t)))) (tm s)) → (∀ j, j / 64 ≠ s → V j = a_values j) → wX_computeSlot_49 post (nI s) (nI (sz s)) (nI (tm s)) f_slotsTaken f_elementsTaken f_slopeCount (k + 1) (nI (i * tm s)) (nI i) a_handleTaken a_handleIsView a_windowRank a_windowSlot a_windowStart a_windowDimension a_windowStride a_slotSize a_slotKind a_slotTerms a_slotNeeded a_slotsByAge V a_derivatives F S a_assigned a_slopes := by
    intro k
    induction k with
    | zero =>
      intro i V hi v1 v2
      exact br_t (nI_le (by omega) (by omega)) (h V F S (fun i' hi' => v1 i' (by omega)) v2)
    | succ k ih =>
      intro i V hi v1 v2
      refine br_f (nI_ge (by omega) (by omega)) ⟨tm s + 1, ?_⟩
      refine xk_in (kk := kd s) (q1 := rl_p d G (24 + 2 * s)) (q2 := rl_p d G (25 + 2 * s)) (V0 := a_values) s32 (by omega) (by omega) z4 q3 (fun t ht => by have := lin i t (by omega) ht; omega) (fun t ht => ⟨hF _ (by rw [q4]; exact lin i t (by omega) ht), (p1 _).1⟩) (fun t ht => ⟨hS _ (by rw [q5]; exact lin i t (by omega) ht), (p2 _).1⟩) (fun t ht => ⟨v2 _ (p1 _).2, v2 _ (p2 _).2⟩) ?_ (tm s) 0 (by omega)
      rw [show i * tm s + tm s = (i + 1) * tm s from by rw [Nat.add_mul, Nat.one_mul]]
      refine ih (i + 1) _ (by omega) ?_ ?_
      · intro i' hi'
        by_cases z : i' = i
        · rw [z, pk_us]
        · rw [pk_un (by omega)]; exact v1 i' (by omega)
      · intro j hj
        rw [pk_un (by omega)]; exact v2 j hj
  have := L (sz s) 0 a_values (by omega) (fun i' hi' => absurd hi' (by omega)) (fun _ _ => rfl)
  rw [Nat.zero_mul] at this
  exact this
theorem xk_compute {post : SX → Prop} {rk sl sz kd tm : Nat → Nat} {d : Nat → Nat → Nat} {G : Nat → Nat → Nat → Nat → Nat} {ages : List Nat} (hX : rl_X rk sl d G ages sz kd tm f_slotsTaken f_elementsTaken a_handleTaken a_handleIsView a_windowRank a_windowSlot a_windowStart a_windowDimension a_windowStride a_slotSize a_slotKind a_slotTerms a_slotsByAge) (h : ∀ V F S : Nat → Int32, (∀ s, s ∈ ages → kd s ≠ 4 → cp_df d G sz kd tm V s) → (∀ p, kd (p / 64) = 4 → V p = a_values p) → post (f_slotsTaken, f_elementsTaken, f_slopeCount, a_handleTaken, a_handleIsView, a_windowRank, a_windowSlot, a_windowStart, a_windowDimension, a_windowStride, a_slotSize, a_slotKind, a_slotTerms, a_slotNeeded, a_slotsByAge, V, a_derivatives, F, S, a_assigned, a_slopes)) : wpX_computeResults post (f_slotsTaken, f_elementsTaken, f_slopeCount, a_handleTaken, a_handleIsView, a_windowRank, a_windowSlot, a_windowStart, a_windowDimension, a_windowStride, a_slotSize, a_slotKind, a_slotTerms, a_slotNeeded, a_slotsByAge, a_values, a_derivatives, a_firstPlaces, a_secondPlaces, a_assigned, a_slopes) := by
  have L : ∀ (rest pre : List Nat) (V F S : Nat → Int32), ages = pre.reverse ++ rest → rl_or kd sl pre rest → (∀ s, s ∈ pre → kd s ≠ 4 → (sl (24 + 2 * s) ∈ pre ∧ sl (25 + 2 * s) ∈ pre) ∧ cp_df d G sz kd tm V s) → (∀ p, kd (p / 64) = 4 → V p = a_values p) → wX_computeResults_2 post (rest.length + 1) (nI pre.length) f_slotsTaken f_elementsTaken f_slopeCount a_handleTaken a_handleIsView a_windowRank a_windowSlot a_windowStart a_windowDimension a_windowStride a_slotSize a_slotKind a_slotTerms a_slotNeeded a_slotsByAge V a_derivatives F S a_assigned a_slopes := by
    intro rest
    induction rest with
    | nil =>
      intro pre V F S ha ho hd hv
      rw [List.append_nil] at ha
      have m32 := ab_pg2 32 ages hX.2.2.1.1 hX.2.2.1.2.1
      have hlen : ages.length = pre.length := by rw [ha, List.length_reverse]
      refine br_t (by rw [hX.1.1, hlen]; exact nI_le (by omega) (by omega)) (h V F S (fun s hs hk => ?_) hv)
      rw [ha, List.mem_reverse] at hs
      exact (hd s hs hk).2
    | cons s rest ih =>
      intro pre V F S ha ho hd hv
      have m32 := ab_pg2 32 ages hX.2.2.1.1 hX.2.2.1.2.1
      have hlen : ages.length = pre.length + (rest.length + 1) := by rw [ha, List.length_append, List.length_reverse, List.length_cons]
      have hget : ages[pre.length]? = some s := by
        rw [ha, List.getElem?_append_right (by rw [List.length_reverse]; omega), List.length_reverse, Nat.sub_self]; rfl
      have hAg := hX.1.2 _ _ hget
      have hs : s ∈ ages := by rw [ha]; simp
      have s32 := hX.2.2.1.2.1 s hs
      have hsp : s ∉ pre := by
        have hn := hX.2.2.1.1
        rw [ha, List.nodup_append] at hn
        intro z
        exact hn.2.2 s (List.mem_reverse.mpr z) s (by simp) rfl
      have xs := hX.2.2.2.1 s hs
      have hA' : ages = (s :: pre).reverse ++ rest := by rw [ha]; simp
      refine br_f (by rw [hX.1.1, hlen]; exact nI_ge (by omega) (by omega)) ⟨vp_in_nI (by omega) (by decide), nm_r (e' := nI s) (by rw [nI_clamp (by omega), hAg]) ⟨vp_in_nI s32 (by decide), ?_⟩⟩
      rw [nI_clamp (show s < 2 ^ 31 by omega), xs.2.2.2.1]
      by_cases k4 : kd s = 4
      · refine br_t (by rw [k4]; rfl) (nm_r (nI_1 _) (ih (s :: pre) V F S hA' ho.2 ?_ hv))
        intro t ht htk
        rcases List.mem_cons.mp ht with q | q
        · rw [q] at htk; exact absurd k4 htk
        · obtain ⟨a, b⟩ := hd t q htk
          exact ⟨⟨List.mem_cons_of_mem _ a.1, List.mem_cons_of_mem _ a.2⟩, b⟩
      · obtain ⟨o1, o2⟩ := ho.1 k4
        refine br_f (fun z => k4 ((nI_eq (b := 4) (by have := xs.2.2.2.2.1; omega) (by decide)).mp z)) ?_
        refine xk_slot (d := d) (G := G) (rk := rk) hX hs k4 (fun z => hsp (z ▸ o1)) (fun z => hsp (z ▸ o2)) (fun V' F' S' v1 v2 => nm_r (nI_1 _) (ih (s :: pre) V' F' S' hA' ho.2 ?_ ?_))
        · have rd : ∀ t, t ∈ ages → kd t ≠ 4 → sl (24 + 2 * t) ≠ s → sl (25 + 2 * t) ≠ s → ∀ e, V' (rl_p d G (24 + 2 * t) e) = V (rl_p d G (24 + 2 * t) e) ∧ V' (rl_p d G (25 + 2 * t) e) = V (rl_p d G (25 + 2 * t) e) := by
            intro t ht htk e1 e2 e
            obtain ⟨_, _, _, _, _, w6, w7⟩ := (hX.2.2.2.1 t ht).2.2.2.2.2 htk
            exact ⟨v2 _ (by rw [(rl_pin w6).1]; exact e1), v2 _ (by rw [(rl_pin w7).1]; exact e2)⟩
          intro t ht htk
          rcases List.mem_cons.mp ht with q | q
          · subst q
            refine ⟨⟨List.mem_cons_of_mem _ o1, List.mem_cons_of_mem _ o2⟩, fun i hi => ?_⟩
            rw [v1 i hi]
            refine ab_smg (fun r hr => ?_)
            obtain ⟨a, b⟩ := rd t hs htk (fun z => hsp (z ▸ o1)) (fun z => hsp (z ▸ o2)) (i * tm t + r)
            rw [a, b]
          · obtain ⟨a, b⟩ := hd t q htk
            have hta : t ∈ ages := by rw [ha]; simp [q]
            refine ⟨⟨List.mem_cons_of_mem _ a.1, List.mem_cons_of_mem _ a.2⟩, fun i hi => ?_⟩
            have hts : t ≠ s := fun z => hsp (z ▸ q)
            have i64 := (hX.2.2.2.1 t hta).2.2.1
            rw [v2 (64 * t + i) (by omega), b i hi]
            refine ab_smg (fun r hr => ?_)
            obtain ⟨a', b'⟩ := rd t hta htk (fun z => hsp (z ▸ a.1)) (fun z => hsp (z ▸ a.2)) (i * tm t + r)
            rw [a', b']
        · intro p hp
          rw [v2 p (fun z => k4 (z ▸ hp))]; exact hv p hp
  exact ⟨ages.length + 1, L ages [] a_values a_firstPlaces a_secondPlaces rfl hX.2.2.1.2.2.2 (fun s hs => absurd hs (by simp)) (fun _ _ => rfl)⟩
end
end
section
def ab_lv (k : Nat) (a b x y : Int32) : Int32 := if k = 0 then x + y else if k = 1 then x - y else if k = 2 then x * b + a * y else x
theorem ab_i8 {c a : Nat} : 8 * nI c + nI a = nI (8 * c + a) := by
  show nI 8 * nI c + nI a = _
  rw [pk_mul, nI_add]
section
variable {c_cells c_slopeCount : Int32} {b_used b_rank b_dims b_shown b_tensorOf b_view b_exists b_kind b_first b_second b_owner b_parts b_partCount b_value b_slopeOf b_order b_slopes : Nat → Int32}
theorem yk_x {post : SY → Prop} {J2 : Int32 → (Nat → Int32) → (Nat → Int32) → (Nat → Int32) → (Nat → Int32) → (Nat → Int32) → (Nat → Int32) → (Nat → Int32) → (Nat → Int32) → (Nat → Int32) → (Nat → Int32) → (Nat → Int32) → (Nat → Int32) → (Nat → Int32) → (Nat → Int32) → (Nat → Int32) → (Nat → Int32) → (Nat → Int32) → Prop} {x1 x4 a b : Int32} {c k q m n : Nat} (hc : c < 320) (hm : m ≤ 8) (hq : q = m) (h : J2 (nI (k + 1)) b_used b_rank b_dims b_shown b_tensorOf b_view b_exists b_kind b_first b_second b_owner b_parts b_partCount (upd b_value c a) (upd b_slopeOf c b) b_order b_slopes) : wY_workOut_71 post J2 x1 (nI k) (nI c) x4 (nI m) c_cells c_slopeCount b_used b_rank b_dims b_shown b_tensorOf b_view b_exists b_kind b_first b_second b_owner b_parts b_partCount b_value b_slopeOf b_order b_slopes (n + 1) a b (nI q) := by
  have hv : vp_in (nI c) 320 := vp_in_nI hc (by decide)
  refine br_t (nI_le (by omega) (by omega)) ⟨hv, fun W hW => ⟨hv, fun S hS => nm_r (nI_1 k) ?_⟩⟩
  rw [nI_clamp (by omega)] at hW hS
  subst hW hS
  exact h
theorem yk_p {post : SY → Prop} {J2 : Int32 → (Nat → Int32) → (Nat → Int32) → (Nat → Int32) → (Nat → Int32) → (Nat → Int32) → (Nat → Int32) → (Nat → Int32) → (Nat → Int32) → (Nat → Int32) → (Nat → Int32) → (Nat → Int32) → (Nat → Int32) → (Nat → Int32) → (Nat → Int32) → (Nat → Int32) → (Nat → Int32) → (Nat → Int32) → Prop} {x1 a b : Int32} {c k q m n y u w : Nat} (hc : c < 320) (hm : m ≤ 8) (hq : q + 1 < m) (hy : y = 3 ∨ y = 5) (h1 : b_parts (8 * c + q) = nI u) (h2 : b_parts (8 * c + (q + 1)) = nI w) (hu : u < 320) (hw : w < 320) (h : wY_workOut_71 post J2 x1 (nI k) (nI c) (nI y) (nI m) c_cells c_slopeCount b_used b_rank b_dims b_shown b_tensorOf b_view b_exists b_kind b_first b_second b_owner b_parts b_partCount b_value b_slopeOf b_order b_slopes n (a + b_value u * b_value w) (b + (b_slopeOf u * b_value w + b_value u * b_slopeOf w)) (nI (q + 1 + 1))) : wY_workOut_71 post J2 x1 (nI k) (nI c) (nI y) (nI m) c_cells c_slopeCount b_used b_rank b_dims b_shown b_tensorOf b_view b_exists b_kind b_first b_second b_owner b_parts b_partCount b_value b_slopeOf b_order b_slopes (n + 1) a b (nI q) := by
  have hvu : vp_in (nI u) 320 := vp_in_nI hu (by decide)
  have hvw : vp_in (nI w) 320 := vp_in_nI hw (by decide)
  have cu : (nI u).toNatClampNeg = u := nI_clamp (by omega)
  have cw : (nI w).toNatClampNeg = w := nI_clamp (by omega)
  have e2 : 8 * nI c + nI q + 1 = nI (8 * c + (q + 1)) := by rw [ab_i8, nI_1]; rfl
  refine br_f (nI_ge (by omega) (by omega)) ⟨ab_vin ab_i8 (by omega) (by decide), nm_r (e' := nI u) (by rw [ab_i8, nI_clamp (by omega), h1]) ?_⟩
  have K : wY_workOut_104 post J2 (wY_workOut_71 post J2 x1 (nI k) (nI c) (nI y) (nI m) c_cells c_slopeCount b_used b_rank b_dims b_shown b_tensorOf b_view b_exists b_kind b_first b_second b_owner b_parts b_partCount b_value b_slopeOf b_order b_slopes n) x1 (nI k) (nI c) (nI y) (nI m) a b (nI q) (nI u) c_cells c_slopeCount b_used b_rank b_dims b_shown b_tensorOf b_view b_exists b_kind b_first b_second b_owner b_parts b_partCount b_value b_slopeOf b_order b_slopes := by
    refine ⟨ab_vin e2 (by omega) (by decide), nm_r (e' := nI w) (by rw [e2, nI_clamp (by omega), h2]) ⟨hvu, hvw, nm_r (e' := a + b_value u * b_value w) (by rw [cu, cw]) ⟨hvu, hvw, hvu, hvw, nm_r (e' := b + (b_slopeOf u * b_value w + b_value u * b_slopeOf w)) (by rw [cu, cw]) (nm_r (nI_1 q) (nm_r (nI_1 _) h))⟩⟩⟩
  rcases hy with rfl | rfl
  · exact br_f (by decide) (br_t rfl K)
  · exact br_t rfl K
theorem yk_s {post : SY → Prop} {J2 : Int32 → (Nat → Int32) → (Nat → Int32) → (Nat → Int32) → (Nat → Int32) → (Nat → Int32) → (Nat → Int32) → (Nat → Int32) → (Nat → Int32) → (Nat → Int32) → (Nat → Int32) → (Nat → Int32) → (Nat → Int32) → (Nat → Int32) → (Nat → Int32) → (Nat → Int32) → (Nat → Int32) → (Nat → Int32) → Prop} {x1 a b z : Int32} {c k q m n y u : Nat} (hc : c < 320) (hm : m ≤ 8) (hq : q < m) (hy : y = 1 ∨ y = 2 ∨ y = 4 ∨ y = 6) (hz : z = if y = 2 ∧ q = 1 then -1 else 1) (h1 : b_parts (8 * c + q) = nI u) (hu : u < 320) (h : wY_workOut_71 post J2 x1 (nI k) (nI c) (nI y) (nI m) c_cells c_slopeCount b_used b_rank b_dims b_shown b_tensorOf b_view b_exists b_kind b_first b_second b_owner b_parts b_partCount b_value b_slopeOf b_order b_slopes n (a + z * b_value u) (b + z * b_slopeOf u) (nI (q + 1))) : wY_workOut_71 post J2 x1 (nI k) (nI c) (nI y) (nI m) c_cells c_slopeCount b_used b_rank b_dims b_shown b_tensorOf b_view b_exists b_kind b_first b_second b_owner b_parts b_partCount b_value b_slopeOf b_order b_slopes (n + 1) a b (nI q) := by
  have hvu : vp_in (nI u) 320 := vp_in_nI hu (by decide)
  have cu : (nI u).toNatClampNeg = u := nI_clamp (by omega)
  refine br_f (nI_ge (by omega) (by omega)) ⟨ab_vin ab_i8 (by omega) (by decide), nm_r (e' := nI u) (by rw [ab_i8, nI_clamp (by omega), h1]) ?_⟩
  have K : wY_workOut_199 post J2 (wY_workOut_71 post J2 x1 (nI k) (nI c) (nI y) (nI m) c_cells c_slopeCount b_used b_rank b_dims b_shown b_tensorOf b_view b_exists b_kind b_first b_second b_owner b_parts b_partCount b_value b_slopeOf b_order b_slopes n) x1 (nI k) (nI c) (nI y) (nI m) a b (nI q) (nI u) z c_cells c_slopeCount b_used b_rank b_dims b_shown b_tensorOf b_view b_exists b_kind b_first b_second b_owner b_parts b_partCount b_value b_slopeOf b_order b_slopes := by
    exact ⟨hvu, nm_r (e' := a + z * b_value u) (by rw [cu]) ⟨hvu, nm_r (e' := b + z * b_slopeOf u) (by rw [cu]) (nm_r (nI_1 q) h)⟩⟩
  rcases hy with rfl | rfl | rfl | rfl
  · rw [if_neg (by omega)] at hz; subst hz
    exact br_f (by decide) (br_f (by decide) (br_f (by decide) K))
  · refine br_f (by decide) (br_f (by decide) (br_t rfl ?_))
    by_cases q1 : q = 1
    · rw [if_pos ⟨rfl, q1⟩] at hz; subst hz
      exact br_t (by rw [q1]; rfl) K
    · rw [if_neg (fun r => q1 r.2)] at hz; subst hz
      exact br_f (fun r => q1 ((nI_eq (b := 1) (by omega) (by decide)).mp r)) K
  · rw [if_neg (by omega)] at hz; subst hz
    exact br_f (by decide) (br_f (by decide) (br_f (by decide) K))
  · rw [if_neg (by omega)] at hz; subst hz
    exact br_f (by decide) (br_f (by decide) (br_f (by decide) K))
theorem yk_cell {post : SY → Prop} {J2 : Int32 → (Nat → Int32) → (Nat → Int32) → (Nat → Int32) → (Nat → Int32) → (Nat → Int32) → (Nat → Int32) → (Nat → Int32) → (Nat → Int32) → (Nat → Int32) → (Nat → Int32) → (Nat → Int32) → (Nat → Int32) → (Nat → Int32) → (Nat → Int32) → (Nat → Int32) → (Nat → Int32) → (Nat → Int32) → Prop} {x1 : Int32} {c k kk yy tt : Nat} {c1 c2 : Nat → Nat} (hkr : rl_kr kk yy tt) (hk4 : kk ≠ 4) (hc : c < 320) (ht4 : tt ≤ 4) (h3 : kk = 3 → b_partCount c = nI tt ∧ ∀ t, t < tt → b_parts (8 * c + t) = nI (c1 t)) (h2 : kk ≠ 3 → b_partCount c = nI (2 * tt) ∧ ∀ t, t < tt → b_parts (8 * c + 2 * t) = nI (c1 t) ∧ b_parts (8 * c + (2 * t + 1)) = nI (c2 t)) (hb1 : ∀ t, t < tt → c1 t < 320) (hb2 : ∀ t, t < tt → c2 t < 320) (h : J2 (nI (k + 1)) b_used b_rank b_dims b_shown b_tensorOf b_view b_exists b_kind b_first b_second b_owner b_parts b_partCount (upd b_value c (ab_sm (fun t => ab_tv kk (b_value (c1 t)) (b_value (c2 t))) tt)) (upd b_slopeOf c (ab_sm (fun t => ab_lv kk (b_value (c1 t)) (b_value (c2 t)) (b_slopeOf (c1 t)) (b_slopeOf (c2 t))) tt)) b_order b_slopes) : ∃ n, wY_workOut_71 post J2 x1 (nI k) (nI c) (nI yy) (b_partCount c) c_cells c_slopeCount b_used b_rank b_dims b_shown b_tensorOf b_view b_exists b_kind b_first b_second b_owner b_parts b_partCount b_value b_slopeOf b_order b_slopes n 0 0 0 := by
  rcases hkr with ⟨q1, q2⟩ | ⟨rfl, rfl, rfl⟩ | ⟨rfl, rfl, rfl⟩ | ⟨rfl, hy⟩ | ⟨rfl, hy⟩
  · exact absurd q1 hk4
  · obtain ⟨p0, p1⟩ := h2 (by omega)
    obtain ⟨u1, u2⟩ := p1 0 (by omega)
    rw [p0]
    refine ⟨3, yk_s (z := 1) (q := 0) (u := c1 0) hc (by omega) (by omega) (Or.inl rfl) rfl u1 (hb1 0 (by omega)) (yk_s (z := 1) (u := c2 0) hc (by omega) (by omega) (Or.inl rfl) rfl u2 (hb2 0 (by omega)) (yk_x hc (by omega) (by omega) ?_))⟩
    have e1 : 0 + 1 * b_value (c1 0) + 1 * b_value (c2 0) = ab_sm (fun t => ab_tv 0 (b_value (c1 t)) (b_value (c2 t))) 1 := by
      show _ = 0 + (b_value (c1 0) + b_value (c2 0))
      grind
    have e2 : 0 + 1 * b_slopeOf (c1 0) + 1 * b_slopeOf (c2 0) = ab_sm (fun t => ab_lv 0 (b_value (c1 t)) (b_value (c2 t)) (b_slopeOf (c1 t)) (b_slopeOf (c2 t))) 1 := by
      show _ = 0 + (b_slopeOf (c1 0) + b_slopeOf (c2 0))
      grind
    rw [e1, e2]; exact h
  · obtain ⟨p0, p1⟩ := h2 (by omega)
    obtain ⟨u1, u2⟩ := p1 0 (by omega)
    rw [p0]
    refine ⟨3, yk_s (z := 1) (q := 0) (u := c1 0) hc (by omega) (by omega) (Or.inr (Or.inl rfl)) rfl u1 (hb1 0 (by omega)) (yk_s (z := -1) (u := c2 0) hc (by omega) (by omega) (Or.inr (Or.inl rfl)) rfl u2 (hb2 0 (by omega)) (yk_x hc (by omega) (by omega) ?_))⟩
    have e1 : 0 + 1 * b_value (c1 0) + (-1) * b_value (c2 0) = ab_sm (fun t => ab_tv 1 (b_value (c1 t)) (b_value (c2 t))) 1 := by
      show _ = 0 + (b_value (c1 0) - b_value (c2 0))
      grind
    have e2 : 0 + 1 * b_slopeOf (c1 0) + (-1) * b_slopeOf (c2 0) = ab_sm (fun t => ab_lv 1 (b_value (c1 t)) (b_value (c2 t)) (b_slopeOf (c1 t)) (b_slopeOf (c2 t))) 1 := by
      show _ = 0 + (b_slopeOf (c1 0) - b_slopeOf (c2 0))
      grind
    rw [e1, e2]; exact h
  · obtain ⟨p0, p1⟩ := h2 (by omega)
    rw [p0]
    refine ⟨tt + 1, ?_⟩
    have L : ∀ j t : Nat, t + j = tt → wY_workOut_71 post J2 x1 (nI k) (nI c) (nI yy) (nI (2 * tt)) c_cells c_slopeCount b_used b_rank b_dims b_shown b_tensorOf b_view b_exists b_kind b_first b_second b_owner b_parts b_partCount b_value b_slopeOf b_order b_slopes (j + 1) (ab_sm (fun t => ab_tv 2 (b_value (c1 t)) (b_value (c2 t))) t) (ab_sm (fun t => ab_lv 2 (b_value (c1 t)) (b_value (c2 t)) (b_slopeOf (c1 t)) (b_slopeOf (c2 t))) t) (nI (2 * t)) := by
      intro j
      induction j with
      | zero =>
        intro t ht
        have : t = tt := by omega
        subst this
        exact yk_x hc (by omega) rfl h
      | succ j ih =>
        intro t ht
        obtain ⟨u1, u2⟩ := p1 t (by omega)
        exact yk_p (q := 2 * t) hc (by omega) (by omega) hy u1 u2 (hb1 t (by omega)) (hb2 t (by omega)) (ih (t + 1) (by omega))
    exact L tt 0 (by omega)
  · obtain ⟨p0, p1⟩ := h3 rfl
    rw [p0]
    refine ⟨tt + 1, ?_⟩
    have L : ∀ j t : Nat, t + j = tt → wY_workOut_71 post J2 x1 (nI k) (nI c) (nI yy) (nI tt) c_cells c_slopeCount b_used b_rank b_dims b_shown b_tensorOf b_view b_exists b_kind b_first b_second b_owner b_parts b_partCount b_value b_slopeOf b_order b_slopes (j + 1) (ab_sm (fun t => ab_tv 3 (b_value (c1 t)) (b_value (c2 t))) t) (ab_sm (fun t => ab_lv 3 (b_value (c1 t)) (b_value (c2 t)) (b_slopeOf (c1 t)) (b_slopeOf (c2 t))) t) (nI t) := by
      intro j
      induction j with
      | zero =>
        intro t ht
        have : t = tt := by omega
        subst this
        exact yk_x hc (by omega) rfl h
      | succ j ih =>
        intro t ht
        have := ih (t + 1) (by omega)
        refine yk_s (z := 1) (u := c1 t) hc (by omega) (by omega) (by omega) (by rw [if_neg (by omega)]) (p1 t (by omega)) (hb1 t (by omega)) ?_
        rw [Int32.one_mul, Int32.one_mul]
        exact this
    exact L tt 0 (by omega)
end
end
section
def wo_li (cl : Nat → Nat) (leaf : Int32) (Sl : Nat → Int32) (s i : Nat) : Prop := Sl (cl (64 * s + i)) = if nI (cl (64 * s + i)) = leaf then 1 else 0
def wo_re (d : Nat → Nat → Nat) (G : Nat → Nat → Nat → Nat → Nat) (kd tm cl : Nat → Nat) (V Sl : Nat → Int32) (s i : Nat) : Prop := Sl (cl (64 * s + i)) = ab_sm (fun t => ab_lv (kd s) (V (rl_p d G (24 + 2 * s) (i * tm s + t))) (V (rl_p d G (25 + 2 * s) (i * tm s + t))) (Sl (cl (rl_p d G (24 + 2 * s) (i * tm s + t)))) (Sl (cl (rl_p d G (25 + 2 * s) (i * tm s + t))))) (tm s)
theorem wo_fr {d : Nat → Nat → Nat} {G : Nat → Nat → Nat → Nat → Nat} {kd tm cl : Nat → Nat} {V Sl : Nat → Int32} {s i c : Nat} {v : Int32} (h0 : cl (64 * s + i) ≠ c) (h1 : ∀ e, cl (rl_p d G (24 + 2 * s) e) ≠ c) (h2 : ∀ e, cl (rl_p d G (25 + 2 * s) e) ≠ c) (H : wo_re d G kd tm cl V Sl s i) : wo_re d G kd tm cl V (upd Sl c v) s i := by
  unfold wo_re at H ⊢
  rw [pk_un h0, H]
  refine ab_smg (fun t ht => ?_)
  rw [pk_un (h1 _), pk_un (h2 _)]
section
variable {f_slotsTaken f_elementsTaken f_slopeCount : Int32} {a_handleTaken a_handleIsView a_windowRank a_windowSlot a_windowStart a_windowDimension a_windowStride a_slotSize a_slotKind a_slotTerms a_slotNeeded a_slotsByAge a_values a_derivatives a_firstPlaces a_secondPlaces a_assigned a_slopes : Nat → Int32}
variable {c_cells c_slopeCount : Int32} {b_used b_rank b_dims b_shown b_tensorOf b_view b_exists b_kind b_first b_second b_owner b_parts b_partCount b_value b_slopeOf b_order b_slopes : Nat → Int32}
theorem yk_work {post : SY → Prop} {rk sl sz kd tm yk cl : Nat → Nat} {d : Nat → Nat → Nat} {G : Nat → Nat → Nat → Nat → Nat} {ages : List Nat} {leaf : Int32} {V : Nat → Int32} (hX : rl_X rk sl d G ages sz kd tm f_slotsTaken f_elementsTaken a_handleTaken a_handleIsView a_windowRank a_windowSlot a_windowStart a_windowDimension a_windowStride a_slotSize a_slotKind a_slotTerms a_slotsByAge) (hY : rl_Y rk sl d G ages sz kd tm yk cl a_handleTaken a_handleIsView a_values c_cells b_used b_rank b_dims b_shown b_tensorOf b_view b_exists b_kind b_first b_second b_owner b_parts b_partCount b_value b_order) (hD : ∀ s, s ∈ ages → kd s ≠ 4 → cp_df d G sz kd tm V s) (hV : ∀ p, p ∈ ab_fl sz ages → kd (p / 64) = 4 → b_value (cl p) = V p) (h : ∀ W Sl : Nat → Int32, (∀ p, p ∈ ab_fl sz ages → W (cl p) = V p) → (∀ s, s ∈ ages → kd s = 4 → ∀ i, i < sz s → wo_li cl leaf Sl s i) → (∀ s, s ∈ ages → kd s ≠ 4 → ∀ i, i < sz s → wo_re d G kd tm cl V Sl s i) → post (c_cells, c_slopeCount, b_used, b_rank, b_dims, b_shown, b_tensorOf, b_view, b_exists, b_kind, b_first, b_second, b_owner, b_parts, b_partCount, W, Sl, b_order, b_slopes)) : wpY_workOut post (c_cells, c_slopeCount, b_used, b_rank, b_dims, b_shown, b_tensorOf, b_view, b_exists, b_kind, b_first, b_second, b_owner, b_parts, b_partCount, b_value, b_slopeOf, b_order, b_slopes) leaf := by
  have hO := hY.2.2.1
  have mem : ∀ s i, s ∈ ages → i < sz s → 64 * s + i ∈ ab_fl sz ages := by
    intro s i hs hi
    have := (hX.2.2.2.1 s hs).2.2.1
    rw [rl_mem hX, show (64 * s + i) / 64 = s by omega, show (64 * s + i) % 64 = i by omega]
    exact ⟨hs, hi⟩
  have tot := hX.2.1.2
  have L : ∀ (rest pre : List Nat) (W Sl : Nat → Int32), ages = pre.reverse ++ rest → rl_or kd sl pre rest → (∀ p, p ∈ ab_fl sz ages → (p / 64 ∈ pre ∨ kd (p / 64) = 4) → W (cl p) = V p) → (∀ s, s ∈ pre → kd s = 4 → ∀ i, i < sz s → wo_li cl leaf Sl s i) → (∀ s, s ∈ pre → kd s ≠ 4 → (sl (24 + 2 * s) ∈ pre ∧ sl (25 + 2 * s) ∈ pre) ∧ ∀ i, i < sz s → wo_re d G kd tm cl V Sl s i) → ∀ n, (ab_fl sz rest).length < n → wY_workOut_2 post leaf c_cells c_slopeCount n (nI (ab_fl sz pre.reverse).length) b_used b_rank b_dims b_shown b_tensorOf b_view b_exists b_kind b_first b_second b_owner b_parts b_partCount W Sl b_order b_slopes := by
    intro rest
    induction rest with
    | nil =>
      intro pre W Sl ha ho A B C n hn
      rw [List.append_nil] at ha
      obtain ⟨m, rfl⟩ : ∃ m, n = m + 1 := ⟨n - 1, by omega⟩
      refine br_t (by rw [hY.2.1.1, ha]; exact nI_le (by omega) (by rw [← ha]; omega)) (h W Sl ?_ ?_ ?_)
      · intro p hp
        refine A p hp (Or.inl ?_)
        have := ((rl_mem hX).mp hp).1
        rw [ha, List.mem_reverse] at this; exact this
      · intro s hs; rw [ha, List.mem_reverse] at hs; exact B s hs
      · intro s hs hk; rw [ha, List.mem_reverse] at hs; exact (C s hs hk).2
    | cons s rest ih =>
      intro pre W0 Sl0 ha ho A0 B0 C0 n0 hn0
      have hs : s ∈ ages := by rw [ha]; simp
      have s32 := hX.2.2.1.2.1 s hs
      have hsp : s ∉ pre := by
        have hn := hX.2.2.1.1
        rw [ha, List.nodup_append] at hn
        intro z
        exact hn.2.2 s (List.mem_reverse.mpr z) s (by simp) rfl
      have hpa : ∀ t, t ∈ pre → t ∈ ages := fun t ht => by rw [ha]; simp [ht]
      have xs := hX.2.2.2.1 s hs
      have ys := hY.2.2.2.2.2.1 s hs
      have kr := rl_krL ys.2.1
      have hA' : ages = (s :: pre).reverse ++ rest := by rw [ha]; simp
      have hfl : ab_fl sz ages = ab_fl sz pre.reverse ++ (ab_pl sz s ++ ab_fl sz rest) := by rw [ha, ab_fla, ab_flc]
      have hlen : (ab_fl sz ages).length = (ab_fl sz pre.reverse).length + (sz s + (ab_fl sz rest).length) := by
        rw [hfl, List.length_append, List.length_append, ab_pll]
      have hl2 : (ab_fl sz (s :: pre).reverse).length = (ab_fl sz pre.reverse).length + sz s := by
        rw [List.reverse_cons, ab_fla, ab_flc, ab_fln, List.append_nil, List.length_append, ab_pll]
      have hget : ∀ i, i < sz s → (ab_fl sz ages)[(ab_fl sz pre.reverse).length + i]? = some (64 * s + i) := by
        intro i hi
        rw [hfl, List.getElem?_append_right (by omega), show (ab_fl sz pre.reverse).length + i - (ab_fl sz pre.reverse).length = i by omega, List.getElem?_append_left (by rw [ab_pll]; exact hi)]
        unfold ab_pl
        rw [List.getElem?_map, List.getElem?_range hi]
        rfl
      have q1of : ∀ t, t ∈ ages → kd t ≠ 4 → ∀ e, rl_p d G (24 + 2 * t) e ∈ ab_fl sz ages ∧ rl_p d G (24 + 2 * t) e / 64 = sl (24 + 2 * t) ∧ rl_p d G (25 + 2 * t) e ∈ ab_fl sz ages ∧ rl_p d G (25 + 2 * t) e / 64 = sl (25 + 2 * t) := by
        intro t ht hk e
        obtain ⟨_, _, _, _, _, w6, w7⟩ := (hX.2.2.2.1 t ht).2.2.2.2.2 hk
        exact ⟨(rl_pmem hX w6).1, (rl_pin w6).1, (rl_pmem hX w7).1, (rl_pin w7).1⟩
      have M : ∀ (j i : Nat) (W Sl : Nat → Int32), i + j = sz s → (∀ p, p ∈ ab_fl sz ages → (p / 64 ∈ pre ∨ kd (p / 64) = 4 ∨ (p / 64 = s ∧ p % 64 < i)) → W (cl p) = V p) → (∀ s, s ∈ pre → kd s = 4 → ∀ i, i < sz s → wo_li cl leaf Sl s i) → (∀ s, s ∈ pre → kd s ≠ 4 → (sl (24 + 2 * s) ∈ pre ∧ sl (25 + 2 * s) ∈ pre) ∧ ∀ i, i < sz s → wo_re d G kd tm cl V Sl s i) → (∀ i', i' < i → (kd s = 4 → wo_li cl leaf Sl s i') ∧ (kd s ≠ 4 → wo_re d G kd tm cl V Sl s i')) → ∀ n, j + (ab_fl sz rest).length < n → wY_workOut_2 post leaf c_cells c_slopeCount n (nI ((ab_fl sz pre.reverse).length + i)) b_used b_rank b_dims b_shown b_tensorOf b_view b_exists b_kind b_first b_second b_owner b_parts b_partCount W Sl b_order b_slopes := by
        intro j
        induction j with
        | zero =>
          intro i W Sl hi A B C E n hn
          have hi' : i = sz s := by omega
          rw [hi', ← hl2]
          refine ih (s :: pre) W Sl hA' ho.2 ?_ ?_ ?_ n (by omega)
          · intro p hp hc
            refine A p hp ?_
            rcases hc with q | q
            · rcases List.mem_cons.mp q with r | r
              · exact Or.inr (Or.inr ⟨r, by have := ((rl_mem hX).mp hp).2; rw [r] at this; omega⟩)
              · exact Or.inl r
            · exact Or.inr (Or.inl q)
          · intro t ht hk i' hi'
            rcases List.mem_cons.mp ht with r | r
            · subst r; exact (E i' (by omega)).1 hk
            · exact B t r hk i' hi'
          · intro t ht hk
            rcases List.mem_cons.mp ht with r | r
            · subst r
              obtain ⟨o1, o2⟩ := ho.1 hk
              exact ⟨⟨List.mem_cons_of_mem _ o1, List.mem_cons_of_mem _ o2⟩, fun i' hi' => (E i' (by omega)).2 hk⟩
            · obtain ⟨a, b⟩ := C t r hk
              exact ⟨⟨List.mem_cons_of_mem _ a.1, List.mem_cons_of_mem _ a.2⟩, b⟩
        | succ j ihj =>
          intro i W Sl hi A B C E n hn
          obtain ⟨m, rfl⟩ : ∃ m, n = m + 1 := ⟨n - 1, by omega⟩
          have hp := mem s i hs (by omega)
          obtain ⟨hc, hown⟩ := hO.1 _ hp
          have i64 : i < 64 := by have := xs.2.2.1; omega
          rw [show (64 * s + i) / 64 = s by omega] at hown
          have hord := hY.2.1.2 _ _ (hget i (by omega))
          have inj : ∀ p, p ∈ ab_fl sz ages → p ≠ 64 * s + i → cl p ≠ cl (64 * s + i) := fun p hp' z y => z (hO.2.1 _ _ hp' hp y)
          have hvc : vp_in (nI (cl (64 * s + i))) 320 := vp_in_nI hc (by decide)
          have cc : (nI (cl (64 * s + i))).toNatClampNeg = cl (64 * s + i) := nI_clamp (by omega)
          have cs : (nI s).toNatClampNeg = s := nI_clamp (by omega)
          have frp : ∀ (v : Int32), (∀ t, t ∈ pre → kd t = 4 → ∀ i', i' < sz t → wo_li cl leaf (upd Sl (cl (64 * s + i)) v) t i') ∧ (∀ t, t ∈ pre → kd t ≠ 4 → (sl (24 + 2 * t) ∈ pre ∧ sl (25 + 2 * t) ∈ pre) ∧ ∀ i', i' < sz t → wo_re d G kd tm cl V (upd Sl (cl (64 * s + i)) v) t i') := by
            intro v
            have hne : ∀ t i', t ∈ pre → i' < sz t → 64 * t + i' ≠ 64 * s + i := by
              intro t i' ht hi' z
              have := (hX.2.2.2.1 t (hpa t ht)).2.2.1
              have : t = s := by omega
              exact hsp (this ▸ ht)
            refine ⟨fun t ht hk i' hi' => ?_, fun t ht hk => ⟨(C t ht hk).1, fun i' hi' => ?_⟩⟩
            · unfold wo_li
              rw [pk_un (inj _ (mem t i' (hpa t ht) hi') (hne t i' ht hi'))]
              exact B t ht hk i' hi'
            · obtain ⟨⟨a1, a2⟩, b⟩ := C t ht hk
              refine wo_fr (inj _ (mem t i' (hpa t ht) hi') (hne t i' ht hi')) (fun e => ?_) (fun e => ?_) (b i' hi')
              · obtain ⟨m1, m2, m3, m4⟩ := q1of t (hpa t ht) hk e
                refine inj _ m1 (fun z => hsp ?_)
                have : sl (24 + 2 * t) = s := by rw [← m2, z]; omega
                exact this ▸ a1
              · obtain ⟨m1, m2, m3, m4⟩ := q1of t (hpa t ht) hk e
                refine inj _ m3 (fun z => hsp ?_)
                have : sl (25 + 2 * t) = s := by rw [← m4, z]; omega
                exact this ▸ a2
          refine br_f (by rw [hY.2.1.1, hlen]; exact nI_ge (by omega) (by omega)) ⟨vp_in_nI (by omega) (by decide), nm_r (e' := nI (cl (64 * s + i))) (by rw [nI_clamp (by omega), hord]) ⟨hvc, ?_⟩⟩
          rw [cc, hown, cs, ys.1]
          refine ⟨vp_in_nI s32 (by decide), nm_e ⟨hvc, nm_e ?_⟩⟩
          by_cases k4 : kd s = 4
          · have y0 := kr.2.2.mp k4
            refine br_t (by rw [y0]; rfl) ?_
            have NX : ∀ v : Int32, v = (if nI (cl (64 * s + i)) = leaf then 1 else 0) → wY_workOut_2 post leaf c_cells c_slopeCount m (nI ((ab_fl sz pre.reverse).length + i + 1)) b_used b_rank b_dims b_shown b_tensorOf b_view b_exists b_kind b_first b_second b_owner b_parts b_partCount W (upd Sl (cl (64 * s + i)) v) b_order b_slopes := by
              intro v hv
              obtain ⟨f1, f2⟩ := frp v
              refine ihj (i + 1) W _ (by omega) ?_ f1 f2 ?_ m (by omega)
              · intro p hp' hc'
                refine A p hp' ?_
                rcases hc' with q | q | q
                · exact Or.inl q
                · exact Or.inr (Or.inl q)
                · exact Or.inr (Or.inl (by rw [q.1]; exact k4))
              · intro i' hi'
                refine ⟨fun _ => ?_, fun z => absurd k4 z⟩
                unfold wo_li
                by_cases z : i' = i
                · rw [z, pk_us, hv]
                · rw [pk_un (inj _ (mem s i' hs (by omega)) (by omega))]
                  exact (E i' (by omega)).1 k4
            refine br_c (fun z => ⟨hvc, nm_e (nm_r (nI_1 _) (NX 1 (by rw [if_pos z])))⟩) (fun z => ⟨hvc, nm_e (nm_r (nI_1 _) (NX 0 (by rw [if_neg z])))⟩)
          · have y0 : yk s ≠ 0 := fun z => k4 (kr.2.2.mpr z)
            obtain ⟨f1, f2, f3, f4⟩ := ys.2.2.2 k4
            obtain ⟨u1, u2, u3, u4, u5, u6, u7⟩ := xs.2.2.2.2.2 k4
            obtain ⟨o1, o2⟩ := ho.1 k4
            have pt := f4 i (by omega)
            have Q := q1of s hs k4
            refine br_f (fun z => y0 ((nI_eq (b := 0) (by omega) (by decide)).mp z)) ?_
            refine yk_cell (kk := kd s) (tt := tm s) (c1 := fun t => cl (rl_p d G (24 + 2 * s) (i * tm s + t))) (c2 := fun t => cl (rl_p d G (25 + 2 * s) (i * tm s + t))) ys.2.1 k4 hc u3 pt.1 pt.2 (fun t ht => (hO.1 _ (Q _).1).1) (fun t ht => (hO.1 _ (Q _).2.2.1).1) ?_
            have ew : ∀ t, W (cl (rl_p d G (24 + 2 * s) (i * tm s + t))) = V (rl_p d G (24 + 2 * s) (i * tm s + t)) := fun t => A _ (Q _).1 (Or.inl (by rw [(Q _).2.1]; exact o1))
            have ew2 : ∀ t, W (cl (rl_p d G (25 + 2 * s) (i * tm s + t))) = V (rl_p d G (25 + 2 * s) (i * tm s + t)) := fun t => A _ (Q _).2.2.1 (Or.inl (by rw [(Q _).2.2.2]; exact o2))
            have ev : ab_sm (fun t => ab_tv (kd s) (W (cl (rl_p d G (24 + 2 * s) (i * tm s + t)))) (W (cl (rl_p d G (25 + 2 * s) (i * tm s + t))))) (tm s) = V (64 * s + i) := by
              rw [hD s hs k4 i (by omega)]
              exact ab_smg (fun t _ => by rw [ew t, ew2 t])
            have es : ab_sm (fun t => ab_lv (kd s) (W (cl (rl_p d G (24 + 2 * s) (i * tm s + t)))) (W (cl (rl_p d G (25 + 2 * s) (i * tm s + t)))) (Sl (cl (rl_p d G (24 + 2 * s) (i * tm s + t)))) (Sl (cl (rl_p d G (25 + 2 * s) (i * tm s + t))))) (tm s) = ab_sm (fun t => ab_lv (kd s) (V (rl_p d G (24 + 2 * s) (i * tm s + t))) (V (rl_p d G (25 + 2 * s) (i * tm s + t))) (Sl (cl (rl_p d G (24 + 2 * s) (i * tm s + t)))) (Sl (cl (rl_p d G (25 + 2 * s) (i * tm s + t))))) (tm s) := ab_smg (fun t _ => by rw [ew t, ew2 t])
            rw [ev, es]
            have s1 : ∀ e, cl (rl_p d G (24 + 2 * s) e) ≠ cl (64 * s + i) := by
              intro e
              refine inj _ (Q e).1 (fun z => hsp ?_)
              have : sl (24 + 2 * s) = s := by rw [← (Q e).2.1, z]; omega
              rw [this] at o1; exact o1
            have s2 : ∀ e, cl (rl_p d G (25 + 2 * s) e) ≠ cl (64 * s + i) := by
              intro e
              refine inj _ (Q e).2.2.1 (fun z => hsp ?_)
              have : sl (25 + 2 * s) = s := by rw [← (Q e).2.2.2, z]; omega
              rw [this] at o2; exact o2
            obtain ⟨g1, g2⟩ := frp (ab_sm (fun t => ab_lv (kd s) (V (rl_p d G (24 + 2 * s) (i * tm s + t))) (V (rl_p d G (25 + 2 * s) (i * tm s + t))) (Sl (cl (rl_p d G (24 + 2 * s) (i * tm s + t)))) (Sl (cl (rl_p d G (25 + 2 * s) (i * tm s + t))))) (tm s))
            refine ihj (i + 1) _ _ (by omega) ?_ g1 g2 ?_ m (by omega)
            · intro p hp' hc'
              by_cases z : p = 64 * s + i
              · rw [z, pk_us]
              · rw [pk_un (inj p hp' z)]
                refine A p hp' ?_
                rcases hc' with q | q | q
                · exact Or.inl q
                · exact Or.inr (Or.inl q)
                · exact Or.inr (Or.inr ⟨q.1, by omega⟩)
            · intro i' hi'
              refine ⟨fun z => absurd z k4, fun _ => ?_⟩
              by_cases z : i' = i
              · subst z
                unfold wo_re
                rw [pk_us]
                refine ab_smg (fun t ht => ?_)
                rw [pk_un (s1 _), pk_un (s2 _)]
              · exact wo_fr (inj _ (mem s i' hs (by omega)) (by omega)) s1 s2 ((E i' (by omega)).2 k4)
      have hlr : (ab_fl sz (s :: rest)).length = sz s + (ab_fl sz rest).length := by rw [ab_flc, List.length_append, ab_pll]
      exact M (sz s) 0 W0 Sl0 (by omega) (fun p hp hc => A0 p hp (by rcases hc with q | q | q; exact Or.inl q; exact Or.inr q; exact absurd q.2 (by omega))) B0 C0 (fun i' hi' => absurd hi' (by omega)) n0 (by omega)
  exact ⟨(ab_fl sz ages).length + 1, L ages [] b_value b_slopeOf rfl hX.2.2.1.2.2.2 (fun p hp hc => by
    rcases hc with q | q
    · exact absurd q (by simp)
    · exact hV p hp q) (fun s hs => absurd hs (by simp)) (fun s hs => absurd hs (by simp)) _ (by omega)⟩
end
end
section
theorem i_vc_at {k : Nat} {u : SX} {v : SY} (I : i_Rel k u v) (hk : k + 5 ≤ 2560) (v1 : Int32) (v2 : Int32) : wpX_at (fun r u' => wpY_at (fun r' v' => r' = r ∧ i_Rel (k + 5) u' v') v v1 v2) u v1 v2 := by
  obtain ⟨f_slotsTaken, f_elementsTaken, f_slopeCount, a_handleTaken, a_handleIsView, a_windowRank, a_windowSlot, a_windowStart, a_windowDimension, a_windowStride, a_slotSize, a_slotKind, a_slotTerms, a_slotNeeded, a_slotsByAge, a_values, a_derivatives, a_firstPlaces, a_secondPlaces, a_assigned, a_slopes⟩ := u
  obtain ⟨c_cells, c_slopeCount, b_used, b_rank, b_dims, b_shown, b_tensorOf, b_view, b_exists, b_kind, b_first, b_second, b_owner, b_parts, b_partCount, b_value, b_slopeOf, b_order, b_slopes⟩ := v
  have I' := I
  obtain ⟨rk, sl, d, G, ages, sz, kd, tm, yk, cl, hX, hY, hS⟩ := I'
  have hu := hY.1.1
  by_cases hH : ab_isH a_handleTaken v1
  · obtain ⟨w, hw, rfl, hT⟩ := hH
    obtain ⟨w1, w2, w3, w4⟩ := hX.2.2.2.2 w hw hT
    have yw := hY.2.2.2.2.1 w hw hT
    have hU : ¬ b_used w = 0 := by rw [hu]; exact hT
    have n64 := (rl_hk hX).2 w hw hT
    by_cases hE : ab_isE (d w 0 * d w 1 * d w 2) v2
    · obtain ⟨i, hi, rfl⟩ := hE
      have hi64 : i < 64 := Nat.lt_of_lt_of_le hi n64
      obtain ⟨m1, m2⟩ := rl_pmem hX w3 (e := i)
      unfold wpX_at
      refine xw_hasElement_t hw hT (fun a ha => (w3.2.2.1 a ha).1) n64 hi (br_f ab_10 (xk_compute hX (fun V F S hd hv => xl_win_firstPlaces (by omega) w3 (fun F' hF' => ⟨vp_in_nI hi64 (by decide), ?_⟩))))
      rw [nI_clamp (show i < 2 ^ 31 by omega), hF' i hi, nI_clamp (show rl_p d G w i < 2 ^ 31 by omega)]
      refine ⟨vp_in_nI m2 (by decide), ?_⟩
      unfold wpY_at
      refine yb_isHandle_t hw hU (br_f ab_10 (br_f (nI_pos (by omega)) (yb_size (by omega) (rl_row w2 yw) (br_t (nI_lt hi (Nat.lt_of_le_of_lt n64 (by decide))) ?_))))
      refine yk_work (V := V) hX hY hd (fun p hp hk4 => by rw [hv p hk4]; exact hY.2.2.2.2.2.2 p hp hk4) (fun W Sl q1 _ _ => ⟨ab_vin ab_i64 (by omega) (by decide), ?_⟩)
      rw [ab_i64, nI_clamp (show 64 * w + i < 2 ^ 31 by omega), yw.2.2.2 i hi]
      have c320 := (hY.2.2.1.1 _ m1).1
      rw [nI_clamp (show cl (rl_p d G w i) < 2 ^ 31 by omega)]
      refine ⟨vp_in_nI c320 (by decide), q1 _ m1, ?_⟩
      obtain ⟨y1, y2, y3, y4, y5, y6, y7⟩ := hY
      exact rl_mk (k + 5) rk sl d G ages sz kd tm yk cl hX ⟨y1, y2, y3, y4, y5, y6, fun p hp _ => q1 p hp⟩ hS
    · unfold wpX_at
      refine xw_hasElement_f2 hw hT (fun a ha => (w3.2.2.1 a ha).1) n64 hE (br_t rfl ?_)
      unfold wpY_at
      refine yb_isHandle_t hw hU (br_f ab_10 (br_c (fun _ => ⟨rfl, I⟩) (fun h0 => yb_size (by omega) (rl_row w2 yw) (br_c (fun h1 => ?_) (fun _ => ⟨rfl, I⟩)))))
      exact absurd (ab_notE hE h0 h1 (Nat.lt_of_le_of_lt n64 (by decide))) id
  · unfold wpX_at
    refine xw_hasElement_f1 hH (br_t rfl ?_)
    unfold wpY_at
    exact yb_isHandle_f (by rw [hu]; exact hH) (br_t rfl ⟨rfl, I⟩)
section
variable {f_slotsTaken f_elementsTaken f_slopeCount : Int32} {a_handleTaken a_handleIsView a_windowRank a_windowSlot a_windowStart a_windowDimension a_windowStride a_slotSize a_slotKind a_slotTerms a_slotNeeded a_slotsByAge a_values a_derivatives a_firstPlaces a_secondPlaces a_assigned a_slopes : Nat → Int32}
theorem xw_isLeaf_t {post : Int32 → Prop} {w s : Nat} (hw : w < 24) (hT : ¬ a_handleTaken w = 0) (hV : a_handleIsView w = 0) (hS : a_windowSlot w = nI s) (hs : s < 32) (hk : a_slotKind s = 4) (hp : post 1) : wpX_isLeaf post (f_slotsTaken, f_elementsTaken, f_slopeCount, a_handleTaken, a_handleIsView, a_windowRank, a_windowSlot, a_windowStart, a_windowDimension, a_windowStride, a_slotSize, a_slotKind, a_slotTerms, a_slotNeeded, a_slotsByAge, a_values, a_derivatives, a_firstPlaces, a_secondPlaces, a_assigned, a_slopes) (nI w) := by
  have cw : (nI w).toNatClampNeg = w := nI_clamp (by omega)
  unfold wpX_isLeaf
  refine xw_isHandle_t hw hT (br_f ab_10 ⟨vp_in_nI hw (by decide), br_t (by rw [cw]; exact hV) ⟨vp_in_nI (by omega) (by decide), ?_⟩⟩)
  rw [cw, hS, nI_clamp (by omega)]
  exact ⟨vp_in_nI hs (by decide), br_t hk hp⟩
theorem xw_isLeaf_f {post : Int32 → Prop} {w s kk : Nat} (hw : w < 24) (hT : ¬ a_handleTaken w = 0) (hS : a_windowSlot w = nI s) (hs : s < 32) (hk : a_slotKind s = nI kk) (hkk : kk ≤ 4) (hno : ¬ (a_handleIsView w = 0 ∧ kk = 4)) (hp : post 0) : wpX_isLeaf post (f_slotsTaken, f_elementsTaken, f_slopeCount, a_handleTaken, a_handleIsView, a_windowRank, a_windowSlot, a_windowStart, a_windowDimension, a_windowStride, a_slotSize, a_slotKind, a_slotTerms, a_slotNeeded, a_slotsByAge, a_values, a_derivatives, a_firstPlaces, a_secondPlaces, a_assigned, a_slopes) (nI w) := by
  have cw : (nI w).toNatClampNeg = w := nI_clamp (by omega)
  unfold wpX_isLeaf
  refine xw_isHandle_t hw hT (br_f ab_10 ⟨vp_in_nI hw (by decide), br_c (fun v0 => ⟨vp_in_nI (by omega) (by decide), ?_⟩) (fun _ => hp)⟩)
  rw [cw] at v0 ⊢
  rw [hS, nI_clamp (by omega), hk]
  exact ⟨vp_in_nI hs (by decide), br_f (fun z => hno ⟨v0, (nI_eq (b := 4) (by omega) (by decide)).mp z⟩) hp⟩
theorem xa_two {post : Int32 → SX → Prop} {w b N : Nat} {q : Nat → Nat} (hN : N ≤ 64) (hw : w < 24) (hb : b + N ≤ 2048) (hst : a_windowStart w = nI b) (hF : ∀ i, i < N → a_firstPlaces i = nI (q i) ∧ q i < 2048) : ∀ (k i : Nat) (A V : Nat → Int32), i + k = N → (∀ j, j < N → A j = a_values (q j)) → (∀ j, j < i → V (b + j) = a_values (q j)) → (∀ j, (j < b ∨ b + i ≤ j) → V j = a_values j) → (∀ A V : Nat → Int32, (∀ j, j < N → V (b + j) = a_values (q j)) → (∀ j, (j < b ∨ b + N ≤ j) → V j = a_values j) → post 1 (f_slotsTaken, f_elementsTaken, f_slopeCount, a_handleTaken, a_handleIsView, a_windowRank, a_windowSlot, a_windowStart, a_windowDimension, a_windowStride, a_slotSize, a_slotKind, a_slotTerms, a_slotNeeded, a_slotsByAge, V, a_derivatives, a_firstPlaces, a_secondPlaces, A, a_slopes)) → wX_assign_100 post (nI N) (nI b) f_slotsTaken f_elementsTaken f_slopeCount (k + 1) (nI i) a_handleTaken a_handleIsView a_windowRank a_windowSlot a_windowStart a_windowDimension a_windowStride a_slotSize a_slotKind a_slotTerms a_slotNeeded a_slotsByAge V a_derivatives a_firstPlaces a_secondPlaces A a_slopes := by
  intro k
  induction k with
  | zero =>
    intro i A V hi h1 h2 h3 h
    have : i = N := by omega
    subst this
    exact br_t (nI_le (by omega) (by omega)) (h A V h2 h3)
  | succ k ih =>
    intro i A V hi h1 h2 h3 h
    refine br_f (nI_ge (by omega) (by omega)) ⟨vp_in_nI (by omega) (by decide), ab_vin (nI_add _ _) (by omega) (by decide), fun V' hV' => nm_r (nI_1 i) (ih (i + 1) A V' (by omega) h1 ?_ ?_ h)⟩
    · rw [nI_add, nI_clamp (by omega), nI_clamp (by omega)] at hV'
      intro j hj
      rw [hV']
      by_cases z : j = i
      · rw [z, pk_us]; exact h1 i (by omega)
      · rw [pk_un (by omega)]; exact h2 j (by omega)
    · rw [nI_add, nI_clamp (by omega), nI_clamp (by omega)] at hV'
      intro j hj
      rw [hV', pk_un (by omega)]; exact h3 j (by omega)
theorem xa_one {post : Int32 → SX → Prop} {w b N : Nat} {q : Nat → Nat} (hN : N ≤ 64) (hw : w < 24) (hb : b + N ≤ 2048) (hst : a_windowStart w = nI b) (hF : ∀ i, i < N → a_firstPlaces i = nI (q i) ∧ q i < 2048) (h : ∀ A V : Nat → Int32, (∀ j, j < N → V (b + j) = a_values (q j)) → (∀ j, (j < b ∨ b + N ≤ j) → V j = a_values j) → post 1 (f_slotsTaken, f_elementsTaken, f_slopeCount, a_handleTaken, a_handleIsView, a_windowRank, a_windowSlot, a_windowStart, a_windowDimension, a_windowStride, a_slotSize, a_slotKind, a_slotTerms, a_slotNeeded, a_slotsByAge, V, a_derivatives, a_firstPlaces, a_secondPlaces, A, a_slopes)) : ∀ (k i : Nat) (A : Nat → Int32), i + k = N → (∀ j, j < i → A j = a_values (q j)) → wX_assign_57 post (nI w) (nI N) f_slotsTaken f_elementsTaken f_slopeCount (k + 1) (nI i) a_handleTaken a_handleIsView a_windowRank a_windowSlot a_windowStart a_windowDimension a_windowStride a_slotSize a_slotKind a_slotTerms a_slotNeeded a_slotsByAge a_values a_derivatives a_firstPlaces a_secondPlaces A a_slopes := by
  intro k
  induction k with
  | zero =>
    intro i A hi h1
    have : i = N := by omega
    subst this
    refine br_t (nI_le (by omega) (by omega)) ⟨vp_in_nI (by omega) (by decide), nm_r (e' := nI b) (by rw [nI_clamp (by omega), hst]) ⟨i + 1, xa_two hN hw hb hst hF i 0 A a_values (by omega) h1 (fun j hj => absurd hj (by omega)) (fun _ _ => rfl) h⟩⟩
  | succ k ih =>
    intro i A hi h1
    obtain ⟨f1, f2⟩ := hF i (by omega)
    refine br_f (nI_ge (by omega) (by omega)) ⟨vp_in_nI (by omega) (by decide), ?_⟩
    rw [nI_clamp (show i < 2 ^ 31 by omega), f1, nI_clamp (show q i < 2 ^ 31 by omega)]
    refine ⟨vp_in_nI f2 (by decide), vp_in_nI (by omega) (by decide), fun A' hA' => nm_r (nI_1 i) (ih (i + 1) A' (by omega) ?_)⟩
    intro j hj
    rw [hA']
    by_cases z : j = i
    · rw [z, pk_us]
    · rw [pk_un z]; exact h1 j (by omega)
end
section
variable {c_cells c_slopeCount : Int32} {b_used b_rank b_dims b_shown b_tensorOf b_view b_exists b_kind b_first b_second b_owner b_parts b_partCount b_value b_slopeOf b_order b_slopes : Nat → Int32}
theorem yb_isLeaf_t {post : Int32 → Prop} {w s : Nat} (hw : w < 24) (hU : ¬ b_used w = 0) (hV : b_view w = 0) (hS : b_tensorOf w = nI s) (hs : s < 32) (hk : b_kind s = 0) (hp : post 1) : wpY_isLeaf post (c_cells, c_slopeCount, b_used, b_rank, b_dims, b_shown, b_tensorOf, b_view, b_exists, b_kind, b_first, b_second, b_owner, b_parts, b_partCount, b_value, b_slopeOf, b_order, b_slopes) (nI w) := by
  have cw : (nI w).toNatClampNeg = w := nI_clamp (by omega)
  unfold wpY_isLeaf
  refine yb_isHandle_t hw hU (br_f ab_10 ⟨vp_in_nI (by omega) (by decide), br_t (by rw [cw]; exact hV) ⟨vp_in_nI (by omega) (by decide), ?_⟩⟩)
  rw [cw, hS, nI_clamp (by omega)]
  exact ⟨vp_in_nI hs (by decide), br_t hk hp⟩
theorem yb_isLeaf_f {post : Int32 → Prop} {w s kk : Nat} (hw : w < 24) (hU : ¬ b_used w = 0) (hS : b_tensorOf w = nI s) (hs : s < 32) (hk : b_kind s = nI kk) (hkk : kk < 7) (hno : ¬ (b_view w = 0 ∧ kk = 0)) (hp : post 0) : wpY_isLeaf post (c_cells, c_slopeCount, b_used, b_rank, b_dims, b_shown, b_tensorOf, b_view, b_exists, b_kind, b_first, b_second, b_owner, b_parts, b_partCount, b_value, b_slopeOf, b_order, b_slopes) (nI w) := by
  have cw : (nI w).toNatClampNeg = w := nI_clamp (by omega)
  unfold wpY_isLeaf
  refine yb_isHandle_t hw hU (br_f ab_10 ⟨vp_in_nI (by omega) (by decide), br_c (fun v0 => ⟨vp_in_nI (by omega) (by decide), ?_⟩) (fun _ => hp)⟩)
  rw [cw] at v0 ⊢
  rw [hS, nI_clamp (by omega), hk]
  exact ⟨vp_in_nI hs (by decide), br_f (fun z => hno ⟨v0, (nI_eq (b := 0) (by omega) (by decide)).mp z⟩) hp⟩
theorem ya_two {post : Int32 → SY → Prop} {w N : Nat} {cw cp : Nat → Nat} (hN : N ≤ 64) (hw : w < 24) (hcw : ∀ i, i < N → b_shown (64 * w + i) = nI (cw i) ∧ cw i < 320) (hinj : ∀ i j, i < N → j < N → cw i = cw j → i = j) : ∀ (k i : Nat) (A V : Nat → Int32), i + k = N → (∀ j, j < N → A j = b_value (cp j)) → (∀ j, j < i → V (cw j) = b_value (cp j)) → (∀ c, (∀ j, j < i → c ≠ cw j) → V c = b_value c) → (∀ A V : Nat → Int32, (∀ j, j < N → V (cw j) = b_value (cp j)) → (∀ c, (∀ j, j < N → c ≠ cw j) → V c = b_value c) → post 1 (c_cells, c_slopeCount, b_used, b_rank, b_dims, b_shown, b_tensorOf, b_view, b_exists, b_kind, b_first, b_second, b_owner, b_parts, b_partCount, V, A, b_order, b_slopes)) → wY_assign_84 post (nI w) (nI N) c_cells c_slopeCount (k + 1) (nI i) b_used b_rank b_dims b_shown b_tensorOf b_view b_exists b_kind b_first b_second b_owner b_parts b_partCount V A b_order b_slopes := by
  intro k
  induction k with
  | zero =>
    intro i A V hi h1 h2 h3 h
    have : i = N := by omega
    subst this
    exact br_t (nI_le (by omega) (by omega)) (h A V h2 h3)
  | succ k ih =>
    intro i A V hi h1 h2 h3 h
    obtain ⟨c1, c2⟩ := hcw i (by omega)
    refine br_f (nI_ge (by omega) (by omega)) ⟨ab_vin ab_i64 (by omega) (by decide), vp_in_nI (by omega) (by decide), ?_⟩
    rw [ab_i64, nI_clamp (show 64 * w + i < 2 ^ 31 by omega), c1, nI_clamp (show cw i < 2 ^ 31 by omega), nI_clamp (show i < 2 ^ 31 by omega)]
    refine ⟨vp_in_nI c2 (by decide), fun V' hV' => nm_r (nI_1 i) (ih (i + 1) A V' (by omega) h1 ?_ ?_ h)⟩
    · intro j hj
      rw [hV']
      by_cases z : j = i
      · rw [z, pk_us]; exact h1 i (by omega)
      · rw [pk_un (fun q => z (hinj j i (by omega) (by omega) q))]; exact h2 j (by omega)
    · intro c hc
      rw [hV', pk_un (hc i (by omega))]; exact h3 c (fun j hj => hc j (by omega))
theorem ya_one {post : Int32 → SY → Prop} {w p N : Nat} {cw cp : Nat → Nat} (hN : N ≤ 64) (hw : w < 24) (hp : p < 24) (hcw : ∀ i, i < N → b_shown (64 * w + i) = nI (cw i) ∧ cw i < 320) (hcp : ∀ i, i < N → b_shown (64 * p + i) = nI (cp i) ∧ cp i < 320) (hinj : ∀ i j, i < N → j < N → cw i = cw j → i = j) (h : ∀ A V : Nat → Int32, (∀ j, j < N → V (cw j) = b_value (cp j)) → (∀ c, (∀ j, j < N → c ≠ cw j) → V c = b_value c) → post 1 (c_cells, c_slopeCount, b_used, b_rank, b_dims, b_shown, b_tensorOf, b_view, b_exists, b_kind, b_first, b_second, b_owner, b_parts, b_partCount, V, A, b_order, b_slopes)) : ∀ (k i : Nat) (A : Nat → Int32), i + k = N → (∀ j, j < i → A j = b_value (cp j)) → wY_assign_45 post (nI w) (nI p) (nI N) c_cells c_slopeCount (k + 1) (nI i) b_used b_rank b_dims b_shown b_tensorOf b_view b_exists b_kind b_first b_second b_owner b_parts b_partCount b_value A b_order b_slopes := by
  intro k
  induction k with
  | zero =>
    intro i A hi h1
    have : i = N := by omega
    subst this
    exact br_t (nI_le (by omega) (by omega)) ⟨i + 1, ya_two hN hw hcw hinj i 0 A b_value (by omega) h1 (fun j hj => absurd hj (by omega)) (fun _ _ => rfl) h⟩
  | succ k ih =>
    intro i A hi h1
    obtain ⟨c1, c2⟩ := hcp i (by omega)
    refine br_f (nI_ge (by omega) (by omega)) ⟨ab_vin ab_i64 (by omega) (by decide), ?_⟩
    rw [ab_i64, nI_clamp (show 64 * p + i < 2 ^ 31 by omega), c1, nI_clamp (show cp i < 2 ^ 31 by omega), nI_clamp (show i < 2 ^ 31 by omega)]
    refine ⟨vp_in_nI c2 (by decide), vp_in_nI (by omega) (by decide), fun A' hA' => nm_r (nI_1 i) (ih (i + 1) A' (by omega) ?_)⟩
    intro j hj
    rw [hA']
    by_cases z : j = i
    · rw [z, pk_us]
    · rw [pk_un z]; exact h1 j (by omega)
end
theorem ab_pki {r1 r2 : Nat} {d1 d2 : Nat → Nat} (h1 : ab_sh3 r1 d1) (h2 : ab_sh3 r2 d2) (h : ab_pk r1 d1 = ab_pk r2 d2) : d1 0 * d1 1 * d1 2 = d2 0 * d2 1 * d2 2 := by
  obtain ⟨a1, a2, a3, a4, a5⟩ := ab_pkf h1
  obtain ⟨b1, b2, b3, b4, b5⟩ := ab_pkf h2
  have hr : r1 = r2 := by rw [← a2, ← b2, h]
  subst hr
  rw [h] at a3 a4 a5
  have E : ∀ i, i < 3 → d1 i = d2 i := by
    intro i hi
    by_cases z : r1 ≤ i
    · rw [h1.2.1 i z hi, h2.2.1 i z hi]
    · rcases (show i = 0 ∨ i = 1 ∨ i = 2 by omega) with rfl | rfl | rfl
      · rw [← a3 (by omega), ← b3 (by omega)]
      · rw [← a4 (by omega), ← b4 (by omega)]
      · rw [← a5 (by omega), ← b5 (by omega)]
  rw [E 0 (by omega), E 1 (by omega), E 2 (by omega)]
theorem i_vc_assign {k : Nat} {u : SX} {v : SY} (I : i_Rel k u v) (hk : k + 5 ≤ 2560) (v1 : Int32) (v2 : Int32) : wpX_assign (fun r u' => wpY_assign (fun r' v' => r' = r ∧ i_Rel (k + 5) u' v') v v1 v2) u v1 v2 := by
  obtain ⟨f_slotsTaken, f_elementsTaken, f_slopeCount, a_handleTaken, a_handleIsView, a_windowRank, a_windowSlot, a_windowStart, a_windowDimension, a_windowStride, a_slotSize, a_slotKind, a_slotTerms, a_slotNeeded, a_slotsByAge, a_values, a_derivatives, a_firstPlaces, a_secondPlaces, a_assigned, a_slopes⟩ := u
  obtain ⟨c_cells, c_slopeCount, b_used, b_rank, b_dims, b_shown, b_tensorOf, b_view, b_exists, b_kind, b_first, b_second, b_owner, b_parts, b_partCount, b_value, b_slopeOf, b_order, b_slopes⟩ := v
  have I' := I
  obtain ⟨rk, sl, d, G, ages, sz, kd, tm, yk, cl, hX, hY, hS⟩ := I'
  have hu := hY.1.1
  have hvw := hY.1.2
  by_cases hH : ab_isH a_handleTaken v1
  · obtain ⟨w, hw, rfl, hT⟩ := hH
    obtain ⟨w1, w2, w3, w4⟩ := hX.2.2.2.2 w hw hT
    have yw := hY.2.2.2.2.1 w hw hT
    have hU : ¬ b_used w = 0 := by rw [hu]; exact hT
    have s32 := hX.2.2.1.2.1 _ w3.2.1
    have xs := hX.2.2.2.1 _ w3.2.1
    have ys := hY.2.2.2.2.2.1 _ w3.2.1
    have kr := rl_krL ys.2.1
    have nw := (rl_hk hX).2 w hw hT
    by_cases hlf : a_handleIsView w = 0 ∧ kd (sl w) = 4
    · obtain ⟨hv0, hk4⟩ := hlf
      have Lx : a_slotKind (sl w) = 4 := by rw [xs.2.2.2.1, hk4]; rfl
      have Ly : b_kind (sl w) = 0 := by rw [ys.1, kr.2.2.mp hk4]; rfl
      unfold wpX_assign
      refine xw_isLeaf_t hw hT hv0 w3.1 s32 Lx (br_f ab_10 ?_)
      by_cases hK : ab_isH a_handleTaken v2
      · obtain ⟨p, hp, rfl, hTp⟩ := hK
        obtain ⟨p1, p2, p3, p4⟩ := hX.2.2.2.2 p hp hTp
        have yp := hY.2.2.2.2.1 p hp hTp
        have hUp : ¬ b_used p = 0 := by rw [hu]; exact hTp
        have npp := (rl_hk hX).2 p hp hTp
        have pw := (ab_pkf w2).1
        have pp := (ab_pkf p2).1
        refine xw_isHandle_t hp hTp (br_f ab_10 (xw_packedShape (by omega) w2 w1 (fun a ha => (w3.2.2.1 a ha).1) (xw_packedShape (by omega) p2 p1 (fun a ha => (p3.2.2.1 a ha).1) ?_)))
        by_cases hsh : ab_pk (rk w) (d w) = ab_pk (rk p) (d p)
        · have hn : rl_n d w = rl_n d p := ab_pki w2 p2 hsh
          obtain ⟨st, pf⟩ := w4 hv0
          refine br_t (by rw [hsh]) (xk_compute hX (fun V F S hd hv => xl_win_firstPlaces (by omega) p3 (fun F' hF' => ⟨rl_n d p + 1, ?_⟩)))
          have sz64 := xs.2.2.1
          refine xa_one (w := w) (b := 64 * sl w) (N := rl_n d p) (q := fun i => rl_p d G p i) npp hw (by omega) st (fun i hi => ⟨hF' i hi, (rl_pmem hX p3).2⟩) (fun A V' v1 v2 => ?_) (rl_n d p) 0 a_assigned (by omega) (fun j hj => absurd hj (by omega))
          unfold wpY_assign
          refine yb_isLeaf_t hw hU (by rw [hvw]; exact hv0) yw.2.2.1 s32 Ly (br_f ab_10 (yb_isHandle_t hp hUp (br_f ab_10 (yb_shape hw hU (rl_row w2 yw) (yb_shape hp hUp (rl_row p2 yp) (br_t (by rw [hsh]) ?_))))))
          refine yk_work (V := V) hX hY hd (fun p hp hk4 => by rw [hv p hk4]; exact hY.2.2.2.2.2.2 p hp hk4) (fun W Sl q1 _ _ => yb_size (by omega) (rl_row w2 yw) ⟨rl_n d w + 1, ?_⟩)
          have hO := hY.2.2.1
          refine ya_one (w := w) (p := p) (N := rl_n d w) (cw := fun i => cl (rl_p d G w i)) (cp := fun i => cl (rl_p d G p i)) nw hw hp (fun i hi => ⟨yw.2.2.2 i hi, (hO.1 _ (rl_pmem hX w3).1).1⟩) (fun i hi => ⟨yp.2.2.2 i (by rw [← hn]; exact hi), (hO.1 _ (rl_pmem hX p3).1).1⟩) ?_ (fun A' W' x1 x2 => ⟨rfl, ?_⟩) (rl_n d w) 0 Sl (by omega) (fun j hj => absurd hj (by omega))
          · intro i j hi hj e
            have e1 := hO.2.1 _ _ (rl_pmem hX w3).1 (rl_pmem hX w3).1 e
            rw [pf i hi, pf j hj] at e1
            omega
          · obtain ⟨y1, y2, y3, y4, y5, y6, y7⟩ := hY
            refine rl_mk (k + 5) rk sl d G ages sz kd tm yk cl hX ⟨y1, y2, y3, y4, y5, y6, fun r hr hkr => ?_⟩ hS
            by_cases z : ∃ j, j < rl_n d w ∧ r = 64 * sl w + j
            · obtain ⟨j, hj, rfl⟩ := z
              rw [v1 j (by rw [← hn]; exact hj), ← pf j hj, x1 j hj]
              exact q1 _ (rl_pmem hX p3).1
            · rw [x2 (cl r) (fun j hj e => z ⟨j, hj, by rw [← pf j hj]; exact hO.2.1 _ _ hr (rl_pmem hX w3).1 e⟩), q1 r hr]
              refine (v2 r ?_).symm
              apply Classical.byContradiction
              intro y
              exact z ⟨r - 64 * sl w, by rw [hn]; omega, by omega⟩
        · refine br_f (fun z => hsh ((nI_eq (by omega) (by omega)).mp z)) ?_
          unfold wpY_assign
          exact yb_isLeaf_t hw hU (by rw [hvw]; exact hv0) yw.2.2.1 s32 Ly (br_f ab_10 (yb_isHandle_t hp hUp (br_f ab_10 (yb_shape hw hU (rl_row w2 yw) (yb_shape hp hUp (rl_row p2 yp) (br_f (fun z => hsh ((nI_eq (by omega) (by omega)).mp z)) ⟨rfl, I⟩))))))
      · refine xw_isHandle_f hK (br_t rfl ?_)
        unfold wpY_assign
        exact yb_isLeaf_t hw hU (by rw [hvw]; exact hv0) yw.2.2.1 s32 Ly (br_f ab_10 (yb_isHandle_f (by rw [hu]; exact hK) (br_t rfl ⟨rfl, I⟩)))
    · unfold wpX_assign
      refine xw_isLeaf_f hw hT w3.1 s32 xs.2.2.2.1 xs.2.2.2.2.1 hlf (br_t rfl ?_)
      unfold wpY_assign
      exact yb_isLeaf_f hw hU yw.2.2.1 s32 ys.1 kr.1 (fun z => hlf ⟨by rw [← hvw]; exact z.1, kr.2.2.mpr z.2⟩) (br_t rfl ⟨rfl, I⟩)
  · unfold wpX_assign wpX_isLeaf
    refine xw_isHandle_f hH (br_t rfl (br_t rfl ?_))
    unfold wpY_assign wpY_isLeaf
    exact yb_isHandle_f (by rw [hu]; exact hH) (br_t rfl (br_t rfl ⟨rfl, I⟩))
end
section
theorem sm_pt {F F' : Nat → Int32} {k : Nat} (h : ∀ p, p ≠ k → F' p = F p) : ∀ N : Nat, k < N → ab_sm F' N = ab_sm F N + (F' k - F k) := by
  intro N
  induction N with
  | zero => intro h; omega
  | succ N ih =>
    intro hk
    show ab_sm F' N + F' N = ab_sm F N + F N + (F' k - F k)
    by_cases z : k = N
    · subst z
      rw [ab_smg (fun i hi => h i (by omega))]
      grind
    · rw [ih (by omega), h N (fun q => z q.symm)]
      grind
theorem sm_0 {F : Nat → Int32} : ∀ N : Nat, (∀ p, p < N → F p = 0) → ab_sm F N = 0 := by
  intro N
  induction N with
  | zero => intro _; rfl
  | succ N ih =>
    intro h
    show ab_sm F N + F N = 0
    rw [ih (fun p hp => h p (by omega)), h N (by omega)]; rfl
def gd_L (D f : Nat → Int32) : Int32 := ab_sm (fun p => D p * f p) 2048
theorem gd_u {D f : Nat → Int32} {k : Nat} {x : Int32} (hk : k < 2048) : gd_L (upd D k (D k + x)) f = gd_L D f + x * f k := by
  unfold gd_L
  rw [sm_pt (F := fun p => D p * f p) (F' := fun p => upd D k (D k + x) p * f p) (k := k) (fun p hp => by rw [pk_un hp]) 2048 hk]
  rw [pk_us]
  grind
theorem gd_g {D f g : Nat → Int32} (h : ∀ p, p < 2048 → f p = g p) : gd_L D f = gd_L D g := ab_smg (fun p hp => by rw [h p hp])
theorem gd_seg {D f : Nat → Int32} {g : Nat → Int32} {b : Nat} : ∀ n : Nat, b + n ≤ 2048 → gd_L D (fun p => if b ≤ p ∧ p < b + n then f p + g (p - b) else f p) = gd_L D f + ab_sm (fun i => D (b + i) * g i) n := by
  intro n
  induction n with
  | zero =>
    intro _
    rw [gd_g (g := f) (fun p _ => by rw [if_neg (by omega)])]
    show _ = gd_L D f + 0
    grind
  | succ n ih =>
    intro hb
    show _ = gd_L D f + (ab_sm (fun i => D (b + i) * g i) n + D (b + n) * g n)
    rw [← Int32.add_assoc, ← ih (by omega)]
    unfold gd_L
    rw [sm_pt (F := fun p => D p * (if b ≤ p ∧ p < b + n then f p + g (p - b) else f p)) (k := b + n) ?_ 2048 (by omega)]
    · dsimp only
      rw [if_pos (by omega), if_neg (by omega), show b + n - b = n by omega]
      grind
    · intro p hp
      dsimp only
      by_cases z : b ≤ p ∧ p < b + n
      · rw [if_pos z, if_pos (by omega)]
      · rw [if_neg z, if_neg (by omega)]
theorem gd_ind {D : Nat → Int32} {a : Nat} (ha : a < 2048) : gd_L D (fun p => if p = a then 1 else 0) = D a := by
  unfold gd_L
  rw [sm_pt (F := fun _ => 0) (k := a) (fun p hp => by dsimp only; rw [if_neg hp]; grind) 2048 ha, sm_0 2048 (fun _ _ => rfl)]
  dsimp only
  rw [if_pos rfl]; grind
def gd_t (kd tm : Nat → Nat) (d : Nat → Nat → Nat) (G : Nat → Nat → Nat → Nat → Nat) (V f : Nat → Int32) (s i : Nat) : Int32 := ab_sm (fun t => ab_lv (kd s) (V (rl_p d G (24 + 2 * s) (i * tm s + t))) (V (rl_p d G (25 + 2 * s) (i * tm s + t))) (f (rl_p d G (24 + 2 * s) (i * tm s + t))) (f (rl_p d G (25 + 2 * s) (i * tm s + t)))) (tm s)
theorem rl_orS {kd sl : Nat → Nat} {s : Nat} {l2 : List Nat} : ∀ {l1 pre : List Nat}, rl_or kd sl pre (l1 ++ s :: l2) → kd s ≠ 4 → sl (24 + 2 * s) ∈ pre ++ l1 ∧ sl (25 + 2 * s) ∈ pre ++ l1 := by
  intro l1
  induction l1 with
  | nil => intro pre H hk; rw [List.append_nil]; exact H.1 hk
  | cons t l1 ih =>
    intro pre H hk
    obtain ⟨h1, h2⟩ := ih H.2 hk
    simp only [List.mem_append, List.mem_cons] at h1 h2 ⊢
    exact ⟨by rcases h1 with (q | q) | q <;> simp [q], by rcases h2 with (q | q) | q <;> simp [q]⟩
section
variable {f_slotsTaken f_elementsTaken f_slopeCount : Int32} {a_handleTaken a_handleIsView a_windowRank a_windowSlot a_windowStart a_windowDimension a_windowStride a_slotSize a_slotKind a_slotTerms a_slotNeeded a_slotsByAge a_values a_derivatives a_firstPlaces a_secondPlaces a_assigned a_slopes : Nat → Int32}
theorem xg_term {post : SX → Prop} {kk q1 q2 : Nat} {x : Int32} (hk : kk ≤ 3) (h1 : q1 < 2048) (h2 : q2 < 2048) (h : ∀ D : Nat → Int32, (∀ f, gd_L D f = gd_L a_derivatives f + x * ab_lv kk (a_values q1) (a_values q2) (f q1) (f q2)) → (∀ p, p ≠ q1 → p ≠ q2 → D p = a_derivatives p) → post (f_slotsTaken, f_elementsTaken, f_slopeCount, a_handleTaken, a_handleIsView, a_windowRank, a_windowSlot, a_windowStart, a_windowDimension, a_windowStride, a_slotSize, a_slotKind, a_slotTerms, a_slotNeeded, a_slotsByAge, a_values, D, a_firstPlaces, a_secondPlaces, a_assigned, a_slopes)) : wpX_passTerm post (f_slotsTaken, f_elementsTaken, f_slopeCount, a_handleTaken, a_handleIsView, a_windowRank, a_windowSlot, a_windowStart, a_windowDimension, a_windowStride, a_slotSize, a_slotKind, a_slotTerms, a_slotNeeded, a_slotsByAge, a_values, a_derivatives, a_firstPlaces, a_secondPlaces, a_assigned, a_slopes) (nI kk) x (nI q1) (nI q2) := by
  have v1 : vp_in (nI q1) 2048 := vp_in_nI h1 (by decide)
  have v2 : vp_in (nI q2) 2048 := vp_in_nI h2 (by decide)
  have c1 : (nI q1).toNatClampNeg = q1 := nI_clamp (by omega)
  have c2 : (nI q2).toNatClampNeg = q2 := nI_clamp (by omega)
  rcases (show kk = 0 ∨ kk = 1 ∨ kk = 2 ∨ kk = 3 by omega) with rfl | rfl | rfl | rfl
  · refine br_f (by decide) (br_f (by decide) (br_t rfl ⟨v1, v1, fun D hD => ⟨v2, v2, fun D2 hD2 => h D2 (fun f => ?_) (fun p p1 p2 => ?_)⟩⟩))
    · rw [hD2, c2, gd_u h2, hD, c1, gd_u h1]
      show _ = _ + x * (f q1 + f q2)
      grind
    · rw [hD2, c2, pk_un p2, hD, c1, pk_un p1]
  · refine br_f (by decide) (br_f (by decide) (br_f (by decide) (br_t rfl ⟨v1, v1, fun D hD => ⟨v2, v2, fun D2 hD2 => h D2 (fun f => ?_) (fun p p1 p2 => ?_)⟩⟩)))
    · rw [hD2, c2, show D q2 - x = D q2 + (-x) by grind, gd_u h2, hD, c1, gd_u h1]
      show _ = _ + x * (f q1 - f q2)
      grind
    · rw [hD2, c2, pk_un p2, hD, c1, pk_un p1]
  · refine br_f (by decide) (br_f (by decide) (br_f (by decide) (br_f (by decide) (br_t rfl ⟨v1, v2, v1, fun D hD => ⟨v2, v1, v2, fun D2 hD2 => h D2 (fun f => ?_) (fun p p1 p2 => ?_)⟩⟩))))
    · rw [hD2, c2, c1, gd_u h2, hD, c1, c2, gd_u h1]
      show _ = _ + x * (f q1 * a_values q2 + a_values q1 * f q2)
      grind
    · rw [hD2, c2, pk_un p2, hD, c1, pk_un p1]
  · refine br_f (by decide) (br_t (by decide) ⟨v1, v1, fun D hD => h D (fun f => ?_) (fun p p1 p2 => ?_)⟩)
    · rw [hD, c1, gd_u h1]
      show _ = _ + x * f q1
      rfl
    · rw [hD, c1, pk_un p1]
theorem xg_in {post : SX → Prop} {J49 : Int32 → Int32 → Int32 → Int32 → Int32 → (Nat → Int32) → (Nat → Int32) → (Nat → Int32) → (Nat → Int32) → (Nat → Int32) → (Nat → Int32) → (Nat → Int32) → (Nat → Int32) → (Nat → Int32) → (Nat → Int32) → (Nat → Int32) → (Nat → Int32) → (Nat → Int32) → (Nat → Int32) → (Nat → Int32) → (Nat → Int32) → (Nat → Int32) → (Nat → Int32) → Prop} {s i kk tt : Nat} {x3 x7 : Int32} {q1 q2 : Nat → Nat} {D0 : Nat → Int32} (hs : s < 32) (hi : i < 64) (hk : kk ≤ 3) (hkd : a_slotKind s = nI kk) (ht4 : tt ≤ 4) (hl : ∀ t, t < tt → i * tt + t < 64) (hF : ∀ t, t < tt → a_firstPlaces (i * tt + t) = nI (q1 (i * tt + t)) ∧ q1 (i * tt + t) < 2048) (hS : ∀ t, t < tt → a_secondPlaces (i * tt + t) = nI (q2 (i * tt + t)) ∧ q2 (i * tt + t) < 2048) (h : ∀ D : Nat → Int32, (∀ f, gd_L D f = gd_L D0 f + x7 * ab_sm (fun t => ab_lv kk (a_values (q1 (i * tt + t))) (a_values (q2 (i * tt + t))) (f (q1 (i * tt + t))) (f (q2 (i * tt + t)))) tt) → (∀ p, (∀ e, p ≠ q1 e) → (∀ e, p ≠ q2 e) → D p = D0 p) → J49 (nI (i * tt + tt)) (nI (i + 1)) f_slotsTaken f_elementsTaken f_slopeCount a_handleTaken a_handleIsView a_windowRank a_windowSlot a_windowStart a_windowDimension a_windowStride a_slotSize a_slotKind a_slotTerms a_slotNeeded a_slotsByAge a_values D a_firstPlaces a_secondPlaces a_assigned a_slopes) : ∀ (k t : Nat) (D : Nat → Int32), t + k = tt → (∀ f, gd_L D f = gd_L D0 f + x7 * ab_sm (fun t => ab_lv kk (a_values (q1 (i * tt + t))) (a_values (q2 (i * tt + t))) (f (q1 (i * tt + t))) (f (q2 (i * tt + t)))) t) → (∀ p, (∀ e, p ≠ q1 e) → (∀ e, p ≠ q2 e) → D p = D0 p) → wX_passDerivatives_72 post J49 (nI s) x3 (nI tt) (nI i) x7 (k + 1) (nI (i * tt + t)) (nI t) f_slotsTaken f_elementsTaken f_slopeCount a_handleTaken a_handleIsView a_windowRank a_windowSlot a_windowStart a_windowDimension a_windowStride a_slotSize a_slotKind a_slotTerms a_slotNeeded a_slotsByAge a_values D a_firstPlaces a_secondPlaces a_assigned a_slopes := by
  intro k
  induction k with
  | zero =>
    intro t D ht h1 h2
    have : t = tt := by omega
    subst this
    exact br_t (nI_le (by omega) (by omega)) (nm_r (nI_1 i) (h D h1 h2))
  | succ k ih =>
    intro t D ht h1 h2
    have l64 := hl t (by omega)
    obtain ⟨f1, f2⟩ := hF t (by omega)
    obtain ⟨g1, g2⟩ := hS t (by omega)
    have hv64 : vp_in (nI (i * tt + t)) 64 := vp_in_nI l64 (by decide)
    refine br_f (nI_ge (by omega) (by omega)) ⟨vp_in_nI hs (by decide), hv64, hv64, ?_⟩
    rw [nI_clamp (show i * tt + t < 2 ^ 31 by omega), nI_clamp (show s < 2 ^ 31 by omega), f1, g1, hkd]
    refine xg_term hk f2 g2 (fun D' d1 d2 => nm_r (nI_1 _) (nm_r (nI_1 t) (ih (t + 1) D' (by omega) (fun f => ?_) (fun p p1 p2 => ?_))))
    · rw [d1 f, h1 f]
      show _ = gd_L D0 f + x7 * (ab_sm _ t + _)
      grind
    · rw [d2 p (p1 _) (p2 _)]; exact h2 p p1 p2
theorem xg_pass {post : SX → Prop} {rk sl sz kd tm : Nat → Nat} {d : Nat → Nat → Nat} {G : Nat → Nat → Nat → Nat → Nat} {ages : List Nat} {s : Nat} (hX : rl_X rk sl d G ages sz kd tm f_slotsTaken f_elementsTaken a_handleTaken a_handleIsView a_windowRank a_windowSlot a_windowStart a_windowDimension a_windowStride a_slotSize a_slotKind a_slotTerms a_slotsByAge) (hs : s ∈ ages) (hk4 : kd s ≠ 4) (h1 : sl (24 + 2 * s) ≠ s) (h2 : sl (25 + 2 * s) ≠ s) (h : ∀ D F S : Nat → Int32, (∀ f, gd_L D f = gd_L a_derivatives f + ab_sm (fun i => a_derivatives (64 * s + i) * gd_t kd tm d G a_values f s i) (sz s)) → post (f_slotsTaken, f_elementsTaken, f_slopeCount, a_handleTaken, a_handleIsView, a_windowRank, a_windowSlot, a_windowStart, a_windowDimension, a_windowStride, a_slotSize, a_slotKind, a_slotTerms, a_slotNeeded, a_slotsByAge, a_values, D, F, S, a_assigned, a_slopes)) : wpX_passDerivatives post (f_slotsTaken, f_elementsTaken, f_slopeCount, a_handleTaken, a_handleIsView, a_windowRank, a_windowSlot, a_windowStart, a_windowDimension, a_windowStride, a_slotSize, a_slotKind, a_slotTerms, a_slotNeeded, a_slotsByAge, a_values, a_derivatives, a_firstPlaces, a_secondPlaces, a_assigned, a_slopes) (nI s) := by
  have s32 := hX.2.2.1.2.1 s hs
  obtain ⟨z1, z2, z3, z4, z5, z6⟩ := hX.2.2.2.1 s hs
  obtain ⟨q1, q2, q3, q4, q5, q6, q7⟩ := z6 hk4
  have cs : (nI s).toNatClampNeg = s := nI_clamp (by omega)
  have n1 : sz s * tm s ≤ 64 := by
    rw [← q4]
    exact ab_sz (q6.2.2.1 0 (by omega)).2.2 (q6.2.2.1 1 (by omega)).2.2 (q6.2.2.1 2 (by omega)).2.2
  have lin : ∀ i t, i < sz s → t < tm s → i * tm s + t < sz s * tm s := fun i t hi ht => ab_lin1 hi ht
  unfold wpX_passDerivatives
  refine xw_firstSource (xl_win_firstPlaces (by omega) q6 (fun F hF => ?_))
  rw [show nI (24 + 2 * s) + 1 = nI (25 + 2 * s) from by rw [nI_1]; congr 1; omega]
  refine xl_win_secondPlaces (by omega) q7 (fun S hS => ⟨vp_in_nI s32 (by decide), nm_r (e' := nI (sz s)) (by rw [cs, z1]) ⟨vp_in_nI s32 (by decide), nm_r (e' := nI (tm s)) (by rw [cs, q1]) ⟨sz s + 1, ?_⟩⟩⟩)
  have p1 : ∀ e, rl_p d G (24 + 2 * s) e < 2048 ∧ rl_p d G (24 + 2 * s) e / 64 ≠ s := fun e => ⟨(rl_pmem hX q6).2, by rw [(rl_pin q6).1]; exact h1⟩
  have p2 : ∀ e, rl_p d G (25 + 2 * s) e < 2048 ∧ rl_p d G (25 + 2 * s) e / 64 ≠ s := fun e => ⟨(rl_pmem hX q7).2, by rw [(rl_pin q7).1]; exact h2⟩
  have L : ∀ (k i : Nat) (D : Nat → Int32), i + k = sz s → (∀ f, gd_L D f = gd_L a_derivatives f + ab_sm (fun i => a_derivatives (64 * s + i) * gd_t kd tm d G a_values f s i) i) → (∀ p, p / 64 = s → D p = a_derivatives p) → wX_passDerivatives_49 post (nI s) (nI (sz s)) (nI (tm s)) (k + 1) (nI (i * tm s)) (nI i) f_slotsTaken f_elementsTaken f_slopeCount a_handleTaken a_handleIsView a_windowRank a_windowSlot a_windowStart a_windowDimension a_windowStride a_slotSize a_slotKind a_slotTerms a_slotNeeded a_slotsByAge a_values D F S a_assigned a_slopes := by
    intro k
    induction k with
    | zero =>
      intro i D hi d1 d2
      have : i = sz s := by omega
      subst this
      exact br_t (nI_le (by omega) (by omega)) (h D F S d1)
    | succ k ih =>
      intro i D hi d1 d2
      have e1 : nI s * 64 + nI i = nI (64 * s + i) := by
        show nI s * nI 64 + nI i = _
        rw [pk_mul, nI_add, Nat.mul_comm]
      refine br_f (nI_ge (by omega) (by omega)) ⟨ab_vin e1 (by omega) (by decide), nm_r (e' := a_derivatives (64 * s + i)) (by rw [e1, nI_clamp (by omega)]; exact d2 _ (by omega)) ⟨tm s + 1, ?_⟩⟩
      refine xg_in (kk := kd s) (q1 := rl_p d G (24 + 2 * s)) (q2 := rl_p d G (25 + 2 * s)) (D0 := D) s32 (by omega) (by omega) z4 q3 (fun t ht => by have := lin i t (by omega) ht; omega) (fun t ht => ⟨hF _ (by rw [q4]; exact lin i t (by omega) ht), (p1 _).1⟩) (fun t ht => ⟨hS _ (by rw [q5]; exact lin i t (by omega) ht), (p2 _).1⟩) (fun D' x1 x2 => ?_) (tm s) 0 D (by omega) (fun f => ?_) (fun _ _ _ => rfl)
      · rw [show i * tm s + tm s = (i + 1) * tm s from by rw [Nat.add_mul, Nat.one_mul]]
        refine ih (i + 1) D' (by omega) (fun f => ?_) (fun p hp => ?_)
        · rw [x1 f, d1 f]
          show _ = gd_L a_derivatives f + (ab_sm _ i + a_derivatives (64 * s + i) * gd_t kd tm d G a_values f s i)
          unfold gd_t
          grind
        · rw [x2 p (fun e z => (p1 e).2 (z ▸ hp)) (fun e z => (p2 e).2 (z ▸ hp))]; exact d2 p hp
      · show gd_L D f = gd_L D f + a_derivatives (64 * s + i) * 0
        grind
  have := L (sz s) 0 a_derivatives (by omega) (fun f => by show gd_L a_derivatives f = gd_L a_derivatives f + 0; grind) (fun _ _ => rfl)
  rw [Nat.zero_mul] at this
  exact this
theorem xg_start {post : SX → Prop} {sl sz : Nat → Nat} {d : Nat → Nat → Nat} {G : Nat → Nat → Nat → Nat → Nat} {ages : List Nat} {w : Nat} (hw : w < 24) (W : rl_win sl d G ages sz a_windowSlot a_windowStart a_windowDimension a_windowStride w) (hp : ∀ e, rl_p d G w e < 2048) (hn : rl_n d w ≤ 64) (h : ∀ D F : Nat → Int32, (∀ f, gd_L D f = ab_sm (fun e => f (rl_p d G w e)) (rl_n d w)) → post (f_slotsTaken, f_elementsTaken, f_slopeCount, a_handleTaken, a_handleIsView, a_windowRank, a_windowSlot, a_windowStart, a_windowDimension, a_windowStride, a_slotSize, a_slotKind, a_slotTerms, a_slotNeeded, a_slotsByAge, a_values, D, F, a_secondPlaces, a_assigned, a_slopes)) : wpX_startDerivatives post (f_slotsTaken, f_elementsTaken, f_slopeCount, a_handleTaken, a_handleIsView, a_windowRank, a_windowSlot, a_windowStart, a_windowDimension, a_windowStride, a_slotSize, a_slotKind, a_slotTerms, a_slotNeeded, a_slotsByAge, a_values, a_derivatives, a_firstPlaces, a_secondPlaces, a_assigned, a_slopes) (nI w) := by
  have L : ∀ (k j : Nat) (D : Nat → Int32), j + k = 2048 → (∀ p, p < j → D p = 0) → wX_startDerivatives_2 post (nI w) f_slotsTaken f_elementsTaken f_slopeCount (k + 1) (nI j) a_handleTaken a_handleIsView a_windowRank a_windowSlot a_windowStart a_windowDimension a_windowStride a_slotSize a_slotKind a_slotTerms a_slotNeeded a_slotsByAge a_values D a_firstPlaces a_secondPlaces a_assigned a_slopes := by
    intro k
    induction k with
    | zero =>
      intro j D hj h1
      have : j = 2048 := by omega
      subst this
      refine br_t (nI_le (a := 2048) (by omega) (by omega)) (xl_win_firstPlaces (by omega) W (fun F hF => ⟨rl_n d w + 1, ?_⟩))
      have M : ∀ (k i : Nat) (D : Nat → Int32), i + k = rl_n d w → (∀ f, gd_L D f = ab_sm (fun e => f (rl_p d G w e)) i) → wX_startDerivatives_34 post (nI (rl_n d w)) f_slotsTaken f_elementsTaken f_slopeCount (k + 1) (nI i) a_handleTaken a_handleIsView a_windowRank a_windowSlot a_windowStart a_windowDimension a_windowStride a_slotSize a_slotKind a_slotTerms a_slotNeeded a_slotsByAge a_values D F a_secondPlaces a_assigned a_slopes := by
        intro k
        induction k with
        | zero =>
          intro i D hi d1
          have : i = rl_n d w := by omega
          subst this
          exact br_t (nI_le (by omega) (by omega)) (h D F d1)
        | succ k ih =>
          intro i D hi d1
          have f1 := hF i (by omega)
          have f2 := hp i
          refine br_f (nI_ge (by omega) (by omega)) ⟨vp_in_nI (by omega) (by decide), ?_⟩
          rw [nI_clamp (show i < 2 ^ 31 by omega), f1, nI_clamp (show rl_p d G w i < 2 ^ 31 by omega)]
          refine ⟨vp_in_nI f2 (by decide), vp_in_nI f2 (by decide), fun D' hD' => nm_r (nI_1 i) (ih (i + 1) D' (by omega) (fun f => ?_))⟩
          rw [hD', gd_u f2, d1 f]
          show _ = ab_sm _ i + f (rl_p d G w i)
          rw [Int32.one_mul]
      refine M (rl_n d w) 0 D (by omega) (fun f => ?_)
      exact sm_0 2048 (fun p hp' => by rw [h1 p hp']; grind)
    | succ k ih =>
      intro j D hj h1
      refine br_f (nI_ge (b := 2048) (by omega) (by decide)) ⟨vp_in_nI (by omega) (by decide), fun D' hD' => nm_r (nI_1 j) (ih (j + 1) D' (by omega) ?_)⟩
      rw [nI_clamp (by omega)] at hD'
      intro p hp'
      rw [hD']
      by_cases z : p = j
      · rw [z, pk_us]
      · rw [pk_un z]; exact h1 p (by omega)
  exact ⟨2049, L 2048 0 a_derivatives (by omega) (fun p hp' => absurd hp' (by omega))⟩
end
end
section
def gd_w (kd : Nat → Nat) (fl : List Nat) (l : List Nat) (S : Nat → Int32) (p : Nat) : Int32 := if p ∈ fl ∧ (p / 64 ∈ l ∨ kd (p / 64) = 4) then S p else 0
section
variable {f_slotsTaken f_elementsTaken f_slopeCount : Int32} {a_handleTaken a_handleIsView a_windowRank a_windowSlot a_windowStart a_windowDimension a_windowStride a_slotSize a_slotKind a_slotTerms a_slotNeeded a_slotsByAge a_values a_derivatives a_firstPlaces a_secondPlaces a_assigned a_slopes : Nat → Int32}
theorem xg_tail {post : Int32 → SX → Prop} {b N : Nat} (hN : N ≤ 64) (hb : b + N ≤ 2048) (h : ∀ S : Nat → Int32, (∀ i, i < N → S i = a_derivatives (b + i)) → post 1 (f_slotsTaken, f_elementsTaken, nI N, a_handleTaken, a_handleIsView, a_windowRank, a_windowSlot, a_windowStart, a_windowDimension, a_windowStride, a_slotSize, a_slotKind, a_slotTerms, a_slotNeeded, a_slotsByAge, a_values, a_derivatives, a_firstPlaces, a_secondPlaces, a_assigned, S)) : ∀ (k i : Nat) (S : Nat → Int32), i + k = N → (∀ j, j < i → S j = a_derivatives (b + j)) → wX_gradient_86 post (nI N) (nI b) f_slotsTaken f_elementsTaken f_slopeCount (k + 1) (nI i) a_handleTaken a_handleIsView a_windowRank a_windowSlot a_windowStart a_windowDimension a_windowStride a_slotSize a_slotKind a_slotTerms a_slotNeeded a_slotsByAge a_values a_derivatives a_firstPlaces a_secondPlaces a_assigned S := by
  intro k
  induction k with
  | zero =>
    intro i S hi h1
    have : i = N := by omega
    subst this
    exact br_t (nI_le (by omega) (by omega)) (h S h1)
  | succ k ih =>
    intro i S hi h1
    refine br_f (nI_ge (by omega) (by omega)) ⟨ab_vin (nI_add _ _) (by omega) (by decide), vp_in_nI (by omega) (by decide), fun S' hS' => nm_r (nI_1 i) (ih (i + 1) S' (by omega) ?_)⟩
    rw [nI_add, nI_clamp (by omega), nI_clamp (by omega)] at hS'
    intro j hj
    rw [hS']
    by_cases z : j = i
    · rw [z, pk_us]
    · rw [pk_un z]; exact h1 j (by omega)
theorem xg_loop {post : Int32 → SX → Prop} {rk sl sz kd tm : Nat → Nat} {d : Nat → Nat → Nat} {G : Nat → Nat → Nat → Nat → Nat} {ages : List Nat} {x2 : Int32} {C : (Nat → Int32) → Int32} (hX : rl_X rk sl d G ages sz kd tm f_slotsTaken f_elementsTaken a_handleTaken a_handleIsView a_windowRank a_windowSlot a_windowStart a_windowDimension a_windowStride a_slotSize a_slotKind a_slotTerms a_slotsByAge) (h : ∀ (D F S : Nat → Int32) (n : Nat), (∀ S : Nat → Int32, (∀ s, s ∈ ages → kd s ≠ 4 → ∀ i, i < sz s → S (64 * s + i) = gd_t kd tm d G a_values S s i) → gd_L D (gd_w kd (ab_fl sz ages) [] S) = C S) → wX_gradient_34 post x2 (n + 1) (-1) f_slotsTaken f_elementsTaken f_slopeCount a_handleTaken a_handleIsView a_windowRank a_windowSlot a_windowStart a_windowDimension a_windowStride a_slotSize a_slotKind a_slotTerms a_slotNeeded a_slotsByAge a_values D F S a_assigned a_slopes) : ∀ (rl done : List Nat) (D F S : Nat → Int32), ages = rl.reverse ++ done → (∀ S : Nat → Int32, (∀ s, s ∈ ages → kd s ≠ 4 → ∀ i, i < sz s → S (64 * s + i) = gd_t kd tm d G a_values S s i) → gd_L D (gd_w kd (ab_fl sz ages) rl S) = C S) → wX_gradient_34 post x2 (rl.length + 1) (nI rl.length - 1) f_slotsTaken f_elementsTaken f_slopeCount a_handleTaken a_handleIsView a_windowRank a_windowSlot a_windowStart a_windowDimension a_windowStride a_slotSize a_slotKind a_slotTerms a_slotNeeded a_slotsByAge a_values D F S a_assigned a_slopes := by
  intro rl
  induction rl with
  | nil =>
    intro done D F S ha hI
    have := h D F S 0 hI
    exact this
  | cons s rl ih =>
    intro done D F S ha hI
    have m32 := ab_pg2 32 ages hX.2.2.1.1 hX.2.2.1.2.1
    have ha' : ages = rl.reverse ++ (s :: done) := by rw [ha]; simp
    have hlen : ages.length = rl.length + (done.length + 1) := by rw [ha', List.length_append, List.length_reverse, List.length_cons]
    have hget : ages[rl.length]? = some s := by
      rw [ha', List.getElem?_append_right (by rw [List.length_reverse]; omega), List.length_reverse, Nat.sub_self]; rfl
    have hAg := hX.1.2 _ _ hget
    have hs : s ∈ ages := by rw [ha']; simp
    have s32 := hX.2.2.1.2.1 s hs
    have hsp : s ∉ rl := by
      have hn := hX.2.2.1.1
      rw [ha', List.nodup_append] at hn
      intro z
      exact hn.2.2 s (List.mem_reverse.mpr z) s (by simp) rfl
    have xs := hX.2.2.2.1 s hs
    have e0 : nI (s :: rl).length - 1 = nI rl.length := nI_pred _
    have e1 : nI rl.length + (-1) = nI rl.length - 1 := by grind
    rw [e0]
    refine br_f (nI_pos (by omega)) ⟨vp_in_nI (by omega) (by decide), nm_r (e' := nI s) (by rw [nI_clamp (by omega), hAg]) ⟨vp_in_nI s32 (by decide), ?_⟩⟩
    rw [nI_clamp (show s < 2 ^ 31 by omega), xs.2.2.2.1]
    by_cases k4 : kd s = 4
    · refine br_t (by rw [k4]; rfl) (nm_r e1 (ih (s :: done) D F S ha' (fun S' hS' => ?_)))
      rw [← hI S' hS']
      refine gd_g (fun p _ => ?_)
      unfold gd_w
      by_cases z : p ∈ ab_fl sz ages ∧ (p / 64 ∈ rl ∨ kd (p / 64) = 4)
      · rw [if_pos z, if_pos ⟨z.1, by rcases z.2 with q | q; exact Or.inl (List.mem_cons_of_mem _ q); exact Or.inr q⟩]
      · rw [if_neg z, if_neg (fun y => z ⟨y.1, by
          rcases y.2 with q | q
          · rcases List.mem_cons.mp q with r | r
            · exact Or.inr (by rw [r]; exact k4)
            · exact Or.inl r
          · exact Or.inr q⟩)]
    · have ho := hX.2.2.1.2.2.2
      rw [ha'] at ho
      obtain ⟨o1, o2⟩ := rl_orS ho k4
      rw [List.nil_append, List.mem_reverse] at o1 o2
      obtain ⟨u1, u2, u3, u4, u5, u6, u7⟩ := xs.2.2.2.2.2 k4
      refine br_f (fun z => k4 ((nI_eq (b := 4) (by have := xs.2.2.2.2.1; omega) (by decide)).mp z)) ?_
      refine xg_pass (d := d) (G := G) (rk := rk) hX hs k4 (fun z => hsp (z ▸ o1)) (fun z => hsp (z ▸ o2)) (fun D' F' S' d1 => nm_r e1 (ih (s :: done) D' F' S' ha' (fun S2 hS2 => ?_)))
      rw [d1, ← hI S2 hS2]
      have i64 := xs.2.2.1
      have mem : ∀ i, i < sz s → 64 * s + i ∈ ab_fl sz ages := by
        intro i hi
        rw [rl_mem hX, show (64 * s + i) / 64 = s by omega, show (64 * s + i) % 64 = i by omega]
        exact ⟨hs, hi⟩
      have T : ∀ i, i < sz s → gd_t kd tm d G a_values (gd_w kd (ab_fl sz ages) rl S2) s i = S2 (64 * s + i) := by
        intro i hi
        rw [hS2 s hs k4 i hi]
        unfold gd_t
        refine ab_smg (fun t _ => ?_)
        have g1 : gd_w kd (ab_fl sz ages) rl S2 (rl_p d G (24 + 2 * s) (i * tm s + t)) = S2 (rl_p d G (24 + 2 * s) (i * tm s + t)) := if_pos ⟨(rl_pmem hX u6).1, Or.inl (by rw [(rl_pin u6).1]; exact o1)⟩
        have g2 : gd_w kd (ab_fl sz ages) rl S2 (rl_p d G (25 + 2 * s) (i * tm s + t)) = S2 (rl_p d G (25 + 2 * s) (i * tm s + t)) := if_pos ⟨(rl_pmem hX u7).1, Or.inl (by rw [(rl_pin u7).1]; exact o2)⟩
        rw [g1, g2]
      rw [ab_smg (g := fun i => D (64 * s + i) * S2 (64 * s + i)) (fun i hi => by rw [T i hi])]
      have sg := gd_seg (D := D) (f := gd_w kd (ab_fl sz ages) rl S2) (g := fun i => S2 (64 * s + i)) (b := 64 * s) (sz s) (by omega)
      rw [← sg]
      refine gd_g (fun p _ => ?_)
      unfold gd_w
      by_cases z : 64 * s ≤ p ∧ p < 64 * s + sz s
      · have ps : p / 64 = s := by omega
        rw [if_pos z, if_neg (fun y => by
          rcases y.2 with q | q
          · rw [ps] at q; exact hsp q
          · rw [ps] at q; exact k4 q), if_pos ⟨by have := mem (p - 64 * s) (by omega); rw [show 64 * s + (p - 64 * s) = p by omega] at this; exact this, Or.inl (by rw [ps]; simp)⟩, show 64 * s + (p - 64 * s) = p by omega, Int32.zero_add]
      · rw [if_neg z]
        by_cases y : p ∈ ab_fl sz ages ∧ (p / 64 ∈ rl ∨ kd (p / 64) = 4)
        · rw [if_pos y, if_pos ⟨y.1, by rcases y.2 with q | q; exact Or.inl (List.mem_cons_of_mem _ q); exact Or.inr q⟩]
        · rw [if_neg y, if_neg (fun x => y ⟨x.1, by
            rcases x.2 with q | q
            · rcases List.mem_cons.mp q with r | r
              · have := ((rl_mem hX).mp x.1).2
                rw [r] at this
                exact absurd (show 64 * s ≤ p ∧ p < 64 * s + sz s by omega) z
              · exact Or.inl r
            · exact Or.inr q⟩)]
end
section
variable {c_cells c_slopeCount : Int32} {b_used b_rank b_dims b_shown b_tensorOf b_view b_exists b_kind b_first b_second b_owner b_parts b_partCount b_value b_slopeOf b_order b_slopes : Nat → Int32}
theorem yg_sum {post : Int32 → SY → Prop} {J36 : Int32 → Int32 → Int32 → (Nat → Int32) → (Nat → Int32) → (Nat → Int32) → (Nat → Int32) → (Nat → Int32) → (Nat → Int32) → (Nat → Int32) → (Nat → Int32) → (Nat → Int32) → (Nat → Int32) → (Nat → Int32) → (Nat → Int32) → (Nat → Int32) → (Nat → Int32) → (Nat → Int32) → (Nat → Int32) → (Nat → Int32) → Prop} {w n i : Nat} {x2 : Int32} {cw : Nat → Nat} (hw : w < 24) (hn : n ≤ 64) (hi : i < 64) (hcw : ∀ e, e < n → b_shown (64 * w + e) = nI (cw e) ∧ cw e < 320) (h : J36 (nI (i + 1)) c_cells c_slopeCount b_used b_rank b_dims b_shown b_tensorOf b_view b_exists b_kind b_first b_second b_owner b_parts b_partCount b_value b_slopeOf b_order (upd b_slopes i (ab_sm (fun e => b_slopeOf (cw e)) n))) : ∀ k e : Nat, e + k = n → wY_gradient_72 post J36 (nI w) x2 (nI n) (nI i) c_cells c_slopeCount (k + 1) (nI e) b_used b_rank b_dims b_shown b_tensorOf b_view b_exists b_kind b_first b_second b_owner b_parts b_partCount b_value b_slopeOf b_order (upd b_slopes i (ab_sm (fun e => b_slopeOf (cw e)) e)) := by
  intro k
  induction k with
  | zero =>
    intro e he
    have : e = n := by omega
    subst this
    exact br_t (nI_le (by omega) (by omega)) (nm_r (nI_1 i) h)
  | succ k ih =>
    intro e he
    obtain ⟨c1, c2⟩ := hcw e (by omega)
    have hv : vp_in (nI i) 64 := vp_in_nI hi (by decide)
    refine br_f (nI_ge (by omega) (by omega)) ⟨hv, ab_vin ab_i64 (by omega) (by decide), ?_⟩
    rw [ab_i64, nI_clamp (show 64 * w + e < 2 ^ 31 by omega), c1, nI_clamp (show cw e < 2 ^ 31 by omega), nI_clamp (show i < 2 ^ 31 by omega), pk_us, ab_uu]
    exact ⟨vp_in_nI c2 (by decide), hv, nm_e (nm_r (nI_1 e) (ih (e + 1) (by omega)))⟩
end
end
section
theorem i_vc_gradient {k : Nat} {u : SX} {v : SY} (I : i_Rel k u v) (hk : k + 5 ≤ 2560) (v1 : Int32) (v2 : Int32) : wpX_gradient (fun r u' => wpY_gradient (fun r' v' => r' = r ∧ i_Rel (k + 5) u' v') v v1 v2) u v1 v2 := by
  obtain ⟨f_slotsTaken, f_elementsTaken, f_slopeCount, a_handleTaken, a_handleIsView, a_windowRank, a_windowSlot, a_windowStart, a_windowDimension, a_windowStride, a_slotSize, a_slotKind, a_slotTerms, a_slotNeeded, a_slotsByAge, a_values, a_derivatives, a_firstPlaces, a_secondPlaces, a_assigned, a_slopes⟩ := u
  obtain ⟨c_cells, c_slopeCount, b_used, b_rank, b_dims, b_shown, b_tensorOf, b_view, b_exists, b_kind, b_first, b_second, b_owner, b_parts, b_partCount, b_value, b_slopeOf, b_order, b_slopes⟩ := v
  have I' := I
  obtain ⟨rk, sl, d, G, ages, sz, kd, tm, yk, cl, hX, hY, hS⟩ := I'
  have hu := hY.1.1
  have hvw := hY.1.2
  by_cases hH : ab_isH a_handleTaken v1
  · obtain ⟨w, hw, rfl, hT⟩ := hH
    obtain ⟨w1, w2, w3, w4⟩ := hX.2.2.2.2 w hw hT
    have yw := hY.2.2.2.2.1 w hw hT
    have hU : ¬ b_used w = 0 := by rw [hu]; exact hT
    have nw := (rl_hk hX).2 w hw hT
    unfold wpX_gradient
    refine xw_isHandle_t hw hT (br_f ab_10 ?_)
    by_cases hK : ab_isH a_handleTaken v2
    · obtain ⟨p, hp, rfl, hTp⟩ := hK
      obtain ⟨p1, p2, p3, p4⟩ := hX.2.2.2.2 p hp hTp
      have yp := hY.2.2.2.2.1 p hp hTp
      have hUp : ¬ b_used p = 0 := by rw [hu]; exact hTp
      have npp := (rl_hk hX).2 p hp hTp
      have s32 := hX.2.2.1.2.1 _ p3.2.1
      have xs := hX.2.2.2.1 _ p3.2.1
      have ys := hY.2.2.2.2.2.1 _ p3.2.1
      have kr := rl_krL ys.2.1
      by_cases hlf : a_handleIsView p = 0 ∧ kd (sl p) = 4
      · obtain ⟨hv0, hk4⟩ := hlf
        have Lx : a_slotKind (sl p) = 4 := by rw [xs.2.2.2.1, hk4]; rfl
        have Ly : b_kind (sl p) = 0 := by rw [ys.1, kr.2.2.mp hk4]; rfl
        obtain ⟨st, pf⟩ := p4 hv0
        have sz64 := xs.2.2.1
        have hpl : ∀ e, rl_p d G w e ∈ ab_fl sz ages ∧ rl_p d G w e < 2048 := fun e => rl_pmem hX w3
        refine xw_isLeaf_t hp hTp hv0 p3.1 s32 Lx (br_f ab_10 (xk_compute hX (fun V F0 S0 hd hv => xg_start hw w3 (fun e => (hpl e).2) nw (fun D0 F1 hD0 => nm_r (e' := nI ages.reverse.length - 1) (by rw [hX.1.1, List.length_reverse]) ⟨ages.reverse.length + 1, ?_⟩))))
        refine xg_loop (C := fun S => ab_sm (fun e => S (rl_p d G w e)) (rl_n d w)) (rk := rk) (d := d) (G := G) hX (fun D F S n hD => ?_) ages.reverse [] D0 F1 S0 (by simp) (fun S hS => ?_)
        · refine br_t (by decide) (xw_windowSize (by omega) (p3.2.2.1 0 (by omega)).1 (p3.2.2.1 1 (by omega)).1 (p3.2.2.1 2 (by omega)).1 ⟨vp_in_nI (by omega) (by decide), nm_r (e' := nI (64 * sl p)) (by rw [nI_clamp (by omega), st]) ⟨rl_n d p + 1, ?_⟩⟩)
          refine xg_tail (b := 64 * sl p) (N := rl_n d p) npp (by omega) (fun Sx hSx => ?_) (rl_n d p) 0 a_slopes (by omega) (fun j hj => absurd hj (by omega))
          unfold wpY_gradient
          refine yb_isHandle_t hw hU (br_f ab_10 (yb_isLeaf_t hp hUp (by rw [hvw]; exact hv0) yp.2.2.1 s32 Ly (br_f ab_10 (yb_size (by omega) (rl_row p2 yp) (yb_size (by omega) (rl_row w2 yw) ⟨rl_n d p + 1, ?_⟩)))))
          have hO := hY.2.2.1
          have key : ∀ (i : Nat) (Sl : Nat → Int32), i < rl_n d p → (∀ s, s ∈ ages → kd s = 4 → ∀ j, j < sz s → wo_li cl (nI (cl (rl_p d G p i))) Sl s j) → (∀ s, s ∈ ages → kd s ≠ 4 → ∀ j, j < sz s → wo_re d G kd tm cl V Sl s j) → ab_sm (fun e => Sl (cl (rl_p d G w e))) (rl_n d w) = D (64 * sl p + i) := by
            intro i Sl hi q2 q3
            have h1 := hD (fun q => Sl (cl q)) (fun s hs hks j hj => q3 s hs hks j hj)
            rw [← h1]
            have i64 : i < 64 := Nat.lt_of_lt_of_le hi npp
            rw [← gd_ind (D := D) (a := 64 * sl p + i) (by omega)]
            refine gd_g (fun q hq => ?_)
            unfold gd_w
            have am := (rl_pmem hX p3 (e := i)).1
            by_cases z : q = 64 * sl p + i
            · have qm : q ∈ ab_fl sz ages := by rw [z, ← pf i hi]; exact am
              have qk : kd (q / 64) = 4 := by rw [z, show (64 * sl p + i) / 64 = sl p by omega]; exact hk4
              rw [if_pos z, if_pos ⟨qm, Or.inr qk⟩]
              obtain ⟨a1, a2⟩ := (rl_mem hX).mp qm
              have li := q2 _ a1 qk _ a2
              unfold wo_li at li
              rw [show 64 * (q / 64) + q % 64 = q by omega] at li
              dsimp only
              rw [li, if_pos (by rw [z, pf i hi])]
            · rw [if_neg z]
              by_cases y : q ∈ ab_fl sz ages ∧ (q / 64 ∈ [] ∨ kd (q / 64) = 4)
              · rw [if_pos y]
                have qk : kd (q / 64) = 4 := by
                  rcases y.2 with r | r
                  · exact absurd r (by simp)
                  · exact r
                obtain ⟨a1, a2⟩ := (rl_mem hX).mp y.1
                have li := q2 _ a1 qk _ a2
                unfold wo_li at li
                rw [show 64 * (q / 64) + q % 64 = q by omega] at li
                dsimp only
                rw [li, if_neg (fun e => z ?_)]
                have c1 := (hO.1 _ y.1).1
                have c2 := (hO.1 _ am).1
                have e2 := hO.2.1 _ _ y.1 am ((nI_eq (by omega) (by omega)).mp e)
                rw [e2, pf i hi]
              · rw [if_neg y]
          have L : ∀ (j i : Nat) (W Sl Sy : Nat → Int32), i + j = rl_n d p → (∀ q, q ∈ ab_fl sz ages → kd (q / 64) = 4 → W (cl q) = V q) → (∀ e, e < i → Sy e = D (64 * sl p + e)) → wY_gradient_36 (fun r' v' => r' = 1 ∧ i_Rel (k + 5) (f_slotsTaken, f_elementsTaken, nI (rl_n d p), a_handleTaken, a_handleIsView, a_windowRank, a_windowSlot, a_windowStart, a_windowDimension, a_windowStride, a_slotSize, a_slotKind, a_slotTerms, a_slotNeeded, a_slotsByAge, V, D, F, S, a_assigned, Sx) v') (nI w) (nI p) (nI (rl_n d w)) (j + 1) (nI i) c_cells (nI (rl_n d p)) b_used b_rank b_dims b_shown b_tensorOf b_view b_exists b_kind b_first b_second b_owner b_parts b_partCount W Sl b_order Sy := by
            intro j
            induction j with
            | zero =>
              intro i W Sl Sy hi hW hSy
              have : i = rl_n d p := by omega
              subst this
              refine br_t (nI_le (by omega) (by omega)) ⟨rfl, ?_⟩
              obtain ⟨y1, y2, y3, y4, y5, y6, y7⟩ := hY
              exact rl_mk (k + 5) rk sl d G ages sz kd tm yk cl hX ⟨y1, y2, y3, y4, y5, y6, hW⟩ ⟨rl_n d p, npp, rfl, rfl, fun e he => by rw [hSx e he, hSy e he]⟩
            | succ j ih =>
              intro i W Sl Sy hi hW hSy
              have i64 : i < 64 := by omega
              refine br_f (nI_ge (by omega) (by omega)) ⟨ab_vin ab_i64 (by omega) (by decide), ?_⟩
              rw [ab_i64, nI_clamp (show 64 * p + i < 2 ^ 31 by omega), yp.2.2.2 i (show i < rl_n d p by omega)]
              have hY' : rl_Y rk sl d G ages sz kd tm yk cl a_handleTaken a_handleIsView V c_cells b_used b_rank b_dims b_shown b_tensorOf b_view b_exists b_kind b_first b_second b_owner b_parts b_partCount W b_order := by
                obtain ⟨y1, y2, y3, y4, y5, y6, y7⟩ := hY
                exact ⟨y1, y2, y3, y4, y5, y6, hW⟩
              refine yk_work (V := V) hX hY' hd hW (fun W' Sl' q1 q2 q3 => ⟨vp_in_nI i64 (by decide), nm_r (e' := upd Sy i 0) (by rw [nI_clamp (by omega)]) ⟨rl_n d w + 1, ?_⟩⟩)
              refine yg_sum (cw := fun e => cl (rl_p d G w e)) hw nw i64 (fun e he => ⟨yw.2.2.2 e he, (hO.1 _ (hpl e).1).1⟩) ?_ (rl_n d w) 0 (by omega)
              refine ih (i + 1) W' Sl' _ (by omega) (fun q hq _ => q1 q hq) (fun e he => ?_)
              by_cases z : e = i
              · rw [z, pk_us]; exact key i Sl' (by omega) q2 q3
              · rw [pk_un z]; exact hSy e (by omega)
          exact L (rl_n d p) 0 b_value b_slopeOf b_slopes (by omega) (fun q hq hkq => by rw [hv q hkq]; exact hY.2.2.2.2.2.2 q hq hkq) (fun e he => absurd he (by omega))
        · rw [hD0]
          refine ab_smg (fun e _ => ?_)
          exact if_pos ⟨(hpl e).1, Or.inl (by rw [List.mem_reverse]; exact ((rl_mem hX).mp (hpl e).1).1)⟩
      · refine xw_isLeaf_f hp hTp p3.1 s32 xs.2.2.2.1 xs.2.2.2.2.1 hlf (br_t rfl ?_)
        unfold wpY_gradient
        exact yb_isHandle_t hw hU (br_f ab_10 (yb_isLeaf_f hp hUp yp.2.2.1 s32 ys.1 kr.1 (fun z => hlf ⟨by rw [← hvw]; exact z.1, kr.2.2.mpr z.2⟩) (br_t rfl ⟨rfl, I⟩)))
    · unfold wpX_isLeaf
      refine xw_isHandle_f hK (br_t rfl (br_t rfl ?_))
      unfold wpY_gradient
      refine yb_isHandle_t hw hU (br_f ab_10 ?_)
      unfold wpY_isLeaf
      exact yb_isHandle_f (by rw [hu]; exact hK) (br_t rfl (br_t rfl ⟨rfl, I⟩))
  · unfold wpX_gradient
    refine xw_isHandle_f hH (br_t rfl ?_)
    unfold wpY_gradient
    exact yb_isHandle_f (by rw [hu]; exact hH) (br_t rfl ⟨rfl, I⟩)
end
section
def dr_m (N : Nat → Int32) (s : Nat) : Bool := decide (¬ N s = 0)
theorem dr_mt {N : Nat → Int32} {s : Nat} : dr_m N s = true ↔ ¬ N s = 0 := by unfold dr_m; exact decide_eq_true_iff
theorem dr_plf {sz : Nat → Nat} {s : Nat} {m : Nat → Bool} (h : sz s ≤ 64) : (ab_pl sz s).filter (fun p => m (p / 64)) = if m s = true then ab_pl sz s else [] := by
  by_cases z : m s = true
  · rw [if_pos z, List.filter_eq_self]
    intro p hp
    rw [ab_plm h] at hp
    rw [hp.1]; exact z
  · rw [if_neg z, List.filter_eq_nil_iff]
    intro p hp
    rw [ab_plm h] at hp
    rw [hp.1]; exact z
theorem dr_flf {sz : Nat → Nat} {m : Nat → Bool} : ∀ {l : List Nat}, (∀ s, s ∈ l → sz s ≤ 64) → (ab_fl sz l).filter (fun p => m (p / 64)) = ab_fl sz (l.filter m) := by
  intro l
  induction l with
  | nil => intro _; rfl
  | cons s l ih =>
    intro h
    rw [ab_flc, List.filter_append, dr_plf (h s (by simp)), ih (fun t ht => h t (List.mem_cons_of_mem _ ht))]
    by_cases z : m s = true
    · rw [if_pos z, List.filter_cons_of_pos z, ab_flc]
    · rw [if_neg z, List.filter_cons_of_neg z, List.nil_append]
theorem dr_nod {sz : Nat → Nat} : ∀ {l : List Nat}, (∀ s, s ∈ l → sz s ≤ 64) → l.Nodup → (ab_fl sz l).Nodup := by
  intro l
  induction l with
  | nil => intro _ _; exact List.nodup_nil
  | cons s l ih =>
    intro h hn
    rw [List.nodup_cons] at hn
    rw [ab_flc, List.nodup_append]
    refine ⟨?_, ih (fun t ht => h t (List.mem_cons_of_mem _ ht)) hn.2, ?_⟩
    · unfold ab_pl
      refine List.Pairwise.map _ ?_ List.nodup_range
      intro a b hab; omega
    · intro p hp q hq z
      subst z
      rw [ab_plm (h s (by simp))] at hp
      rw [ab_flm (fun t ht => h t (List.mem_cons_of_mem _ ht))] at hq
      rw [hp.1] at hq
      exact hn.1 hq.1
theorem dr_or {kd sl : Nat → Nat} {m : Nat → Bool} : ∀ {l pre : List Nat}, rl_or kd sl pre l → (∀ s, s ∈ l → m s = true → kd s ≠ 4 → m (sl (24 + 2 * s)) = true ∧ m (sl (25 + 2 * s)) = true) → rl_or kd sl (pre.filter m) (l.filter m) := by
  intro l
  induction l with
  | nil => intro pre _ _; trivial
  | cons s l ih =>
    intro pre H h
    have h2 := ih H.2 (fun t ht => h t (List.mem_cons_of_mem _ ht))
    by_cases z : m s = true
    · rw [List.filter_cons_of_pos z] at h2 ⊢
      refine ⟨fun hk => ?_, h2⟩
      obtain ⟨a, b⟩ := h s (by simp) z hk
      obtain ⟨c, e⟩ := H.1 hk
      exact ⟨List.mem_filter.mpr ⟨c, a⟩, List.mem_filter.mpr ⟨e, b⟩⟩
    · rw [List.filter_cons_of_neg z] at h2 ⊢
      exact h2
theorem dr_inj : ∀ {l : List Nat} {i j x : Nat}, l.Nodup → l[i]? = some x → l[j]? = some x → i = j := by
  intro l
  induction l with
  | nil => intro i j x _ h; exact absurd h (by simp)
  | cons a l ih =>
    intro i j x hn h1 h2
    rw [List.nodup_cons] at hn
    cases i with
    | zero =>
      cases j with
      | zero => rfl
      | succ j =>
        have e1 : a = x := by simpa using h1
        have e2 : l[j]? = some x := by simpa using h2
        subst e1
        exact absurd (List.mem_of_getElem? e2) hn.1
    | succ i =>
      cases j with
      | zero =>
        have e1 : a = x := by simpa using h2
        have e2 : l[i]? = some x := by simpa using h1
        subst e1
        exact absurd (List.mem_of_getElem? e2) hn.1
      | succ j =>
        have := ih (i := i) (j := j) (x := x) hn.2 (by simpa using h1) (by simpa using h2)
        omega
theorem dr_ix {kd sl : Nat → Nat} {ages : List Nat} {i i' s s' : Nat} (H : rl_or kd sl [] ages) (hn : ages.Nodup) (h1 : ages[i]? = some s) (h2 : ages[i']? = some s') (hk : kd s' ≠ 4) (hs : s = sl (24 + 2 * s') ∨ s = sl (25 + 2 * s')) : i < i' := by
  obtain ⟨l2, e2⟩ := List.getElem?_eq_some_iff.mp h2
  have sp : ages = ages.take i' ++ s' :: ages.drop (i' + 1) := by
    rw [← e2, ← List.drop_eq_getElem_cons l2, List.take_append_drop]
  rw [sp] at H
  obtain ⟨o1, o2⟩ := rl_orS H hk
  rw [List.nil_append] at o1 o2
  have hm : s ∈ ages.take i' := by rcases hs with q | q <;> rw [q] <;> assumption
  obtain ⟨j, hj, ej⟩ := List.mem_take_iff_getElem.mp hm
  obtain ⟨l1, e1⟩ := List.getElem?_eq_some_iff.mp h1
  have : j = i := by
    have hj2 : j < ages.length := by omega
    exact dr_inj hn (by rw [List.getElem?_eq_getElem hj2, ej]) h1
  omega
theorem rl_winM {sl sz : Nat → Nat} {d : Nat → Nat → Nat} {G : Nat → Nat → Nat → Nat → Nat} {ages ages' : List Nat} {S St D E : Nat → Int32} {w : Nat} (h : sl w ∈ ages') (H : rl_win sl d G ages sz S St D E w) : rl_win sl d G ages' sz S St D E w := ⟨H.1, h, H.2.2.1, H.2.2.2⟩
def dr_ok (T : Nat → Int32) (sl kd : Nat → Nat) (ages : List Nat) (N : Nat → Int32) : Prop := (∀ h, h < 24 → ¬ T h = 0 → ¬ N (sl h) = 0) ∧ (∀ s, s ∈ ages → ¬ N s = 0 → kd s ≠ 4 → ¬ N (sl (24 + 2 * s)) = 0 ∧ ¬ N (sl (25 + 2 * s)) = 0) ∧ (∀ s, s < 32 → ¬ N s = 0 → (∃ h, h < 24 ∧ ¬ T h = 0 ∧ sl h = s) ∨ (∃ t, t ∈ ages ∧ ¬ N t = 0 ∧ kd t ≠ 4 ∧ (s = sl (24 + 2 * t) ∨ s = sl (25 + 2 * t))))
theorem dr_up {N : Nat → Int32} {k t : Nat} (h : ¬ N t = 0) : ¬ upd N k 1 t = 0 := by
  by_cases z : t = k
  · rw [z, pk_us]; exact ab_10
  · rw [pk_un z]; exact h
section
variable {f_slotsTaken f_elementsTaken f_slopeCount : Int32} {a_handleTaken a_handleIsView a_windowRank a_windowSlot a_windowStart a_windowDimension a_windowStride a_slotSize a_slotKind a_slotTerms a_slotNeeded a_slotsByAge a_values a_derivatives a_firstPlaces a_secondPlaces a_assigned a_slopes : Nat → Int32}
theorem xd_mark {post : SX → Prop} {rk sl sz kd tm : Nat → Nat} {d : Nat → Nat → Nat} {G : Nat → Nat → Nat → Nat → Nat} {ages : List Nat} {T : Nat → Int32} (hX : rl_X rk sl d G ages sz kd tm f_slotsTaken f_elementsTaken T a_handleIsView a_windowRank a_windowSlot a_windowStart a_windowDimension a_windowStride a_slotSize a_slotKind a_slotTerms a_slotsByAge) (hT : ∀ h, h < 24 → ¬ a_handleTaken h = 0 → ¬ T h = 0) (h : ∀ N : Nat → Int32, dr_ok a_handleTaken sl kd ages N → post (f_slotsTaken, f_elementsTaken, f_slopeCount, a_handleTaken, a_handleIsView, a_windowRank, a_windowSlot, a_windowStart, a_windowDimension, a_windowStride, a_slotSize, a_slotKind, a_slotTerms, N, a_slotsByAge, a_values, a_derivatives, a_firstPlaces, a_secondPlaces, a_assigned, a_slopes)) : wpX_markNeededSlots post (f_slotsTaken, f_elementsTaken, f_slopeCount, a_handleTaken, a_handleIsView, a_windowRank, a_windowSlot, a_windowStart, a_windowDimension, a_windowStride, a_slotSize, a_slotKind, a_slotTerms, a_slotNeeded, a_slotsByAge, a_values, a_derivatives, a_firstPlaces, a_secondPlaces, a_assigned, a_slopes) := by
  have A : ∀ (k j : Nat) (N : Nat → Int32), j + k = 32 → (∀ t, t < j → N t = 0) → wX_markNeededSlots_2 post f_slotsTaken f_elementsTaken f_slopeCount (k + 1) (nI j) a_handleTaken a_handleIsView a_windowRank a_windowSlot a_windowStart a_windowDimension a_windowStride a_slotSize a_slotKind a_slotTerms N a_slotsByAge a_values a_derivatives a_firstPlaces a_secondPlaces a_assigned a_slopes := by
    intro k
    induction k with
    | zero =>
      intro j N hj h0
      refine br_t (nI_le (a := 32) (by omega) (by omega)) ⟨25, ?_⟩
      have B : ∀ (k j : Nat) (N : Nat → Int32), j + k = 24 → (∀ h, h < j → ¬ a_handleTaken h = 0 → ¬ N (sl h) = 0) → (∀ s, s < 32 → ¬ N s = 0 → ∃ h, h < 24 ∧ ¬ a_handleTaken h = 0 ∧ sl h = s) → wX_markNeededSlots_23 post f_slotsTaken f_elementsTaken f_slopeCount (k + 1) (nI j) a_handleTaken a_handleIsView a_windowRank a_windowSlot a_windowStart a_windowDimension a_windowStride a_slotSize a_slotKind a_slotTerms N a_slotsByAge a_values a_derivatives a_firstPlaces a_secondPlaces a_assigned a_slopes := by
        intro k
        induction k with
        | zero =>
          intro j N hj b1 b2
          refine br_t (nI_le (a := 24) (by omega) (by omega)) (nm_r (e' := nI ages.reverse.length - 1) (by rw [hX.1.1, List.length_reverse]) ⟨ages.reverse.length + 1, ?_⟩)
          have C : ∀ (rl done : List Nat) (N : Nat → Int32), ages = rl.reverse ++ done → (∀ h, h < 24 → ¬ a_handleTaken h = 0 → ¬ N (sl h) = 0) → (∀ s, s ∈ done → ¬ N s = 0 → kd s ≠ 4 → ¬ N (sl (24 + 2 * s)) = 0 ∧ ¬ N (sl (25 + 2 * s)) = 0) → (∀ s, s < 32 → ¬ N s = 0 → (∃ h, h < 24 ∧ ¬ a_handleTaken h = 0 ∧ sl h = s) ∨ (∃ t, t ∈ ages ∧ ¬ N t = 0 ∧ kd t ≠ 4 ∧ (s = sl (24 + 2 * t) ∨ s = sl (25 + 2 * t)))) → wX_markNeededSlots_63 post f_slotsTaken f_elementsTaken f_slopeCount (rl.length + 1) (nI rl.length - 1) a_handleTaken a_handleIsView a_windowRank a_windowSlot a_windowStart a_windowDimension a_windowStride a_slotSize a_slotKind a_slotTerms N a_slotsByAge a_values a_derivatives a_firstPlaces a_secondPlaces a_assigned a_slopes := by
            intro rl
            induction rl with
            | nil =>
              intro done N ha c1 c2 c3
              have ha' : ages = done := by simpa using ha
              exact br_t (by decide) (h N ⟨c1, by rw [ha']; exact c2, c3⟩)
            | cons s rl ih =>
              intro done N ha c1 c2 c3
              have m32 := ab_pg2 32 ages hX.2.2.1.1 hX.2.2.1.2.1
              have ha' : ages = rl.reverse ++ (s :: done) := by rw [ha]; simp
              have hlen : ages.length = rl.length + (done.length + 1) := by rw [ha', List.length_append, List.length_reverse, List.length_cons]
              have hget : ages[rl.length]? = some s := by
                rw [ha', List.getElem?_append_right (by rw [List.length_reverse]; omega), List.length_reverse, Nat.sub_self]; rfl
              have hAg := hX.1.2 _ _ hget
              have hs : s ∈ ages := by rw [ha']; simp
              have s32 := hX.2.2.1.2.1 s hs
              have xs := hX.2.2.2.1 s hs
              have e0 : nI (s :: rl).length - 1 = nI rl.length := nI_pred _
              have e1 : nI rl.length + (-1) = nI rl.length - 1 := by grind
              have cs : (nI s).toNatClampNeg = s := nI_clamp (by omega)
              have hvs : vp_in (nI s) 32 := vp_in_nI s32 (by decide)
              rw [e0]
              refine br_f (nI_pos (by omega)) ⟨vp_in_nI (by omega) (by decide), nm_r (e' := nI s) (by rw [nI_clamp (by omega), hAg]) ⟨hvs, ?_⟩⟩
              rw [cs]
              refine br_c (fun n0 => nm_r e1 (ih (s :: done) N ha' c1 (fun t ht hN hk => ?_) c3)) (fun n0 => ⟨hvs, ?_⟩)
              · rcases List.mem_cons.mp ht with q | q
                · rw [q] at hN; exact absurd n0 hN
                · exact c2 t q hN hk
              · rw [xs.2.2.2.1]
                by_cases k4 : kd s = 4
                · refine br_t (by rw [k4]; rfl) (nm_r e1 (ih (s :: done) N ha' c1 (fun t ht hN hk => ?_) c3))
                  rcases List.mem_cons.mp ht with q | q
                  · rw [q] at hk; exact absurd k4 hk
                  · exact c2 t q hN hk
                · have ho := hX.2.2.1.2.2.2
                  rw [ha'] at ho
                  obtain ⟨o1, o2⟩ := rl_orS ho k4
                  rw [List.nil_append] at o1 o2
                  obtain ⟨u1, u2, u3, u4, u5, u6, u7⟩ := xs.2.2.2.2.2 k4
                  have t1 := hX.2.2.1.2.1 _ u6.2.1
                  have t2 := hX.2.2.1.2.1 _ u7.2.1
                  refine br_f (fun z => k4 ((nI_eq (b := 4) (by have := xs.2.2.2.2.1; omega) (by decide)).mp z)) (xw_firstSource ⟨vp_in_nI (by omega) (by decide), ?_⟩)
                  rw [show nI (24 + 2 * s) + 1 = nI (25 + 2 * s) from by rw [nI_1]; congr 1; omega, nI_clamp (show 24 + 2 * s < 2 ^ 31 by omega), nI_clamp (show 25 + 2 * s < 2 ^ 31 by omega), u6.1, u7.1, nI_clamp (show sl (24 + 2 * s) < 2 ^ 31 by omega), nI_clamp (show sl (25 + 2 * s) < 2 ^ 31 by omega), ab_b1]
                  refine ⟨vp_in_nI t1 (by decide), fun N1 hN1 => ⟨vp_in_nI (by omega) (by decide), vp_in_nI t2 (by decide), fun N2 hN2 => nm_r e1 (ih (s :: done) N2 ha' ?_ ?_ ?_)⟩⟩
                  all_goals subst hN1 hN2
                  · intro h' hh ht; exact dr_up (dr_up (c1 h' hh ht))
                  · intro t ht hN hk
                    have m1 : ¬ upd (upd N (sl (24 + 2 * s)) 1) (sl (25 + 2 * s)) 1 (sl (24 + 2 * s)) = 0 := dr_up (by rw [pk_us]; exact ab_10)
                    have m2 : ¬ upd (upd N (sl (24 + 2 * s)) 1) (sl (25 + 2 * s)) 1 (sl (25 + 2 * s)) = 0 := by rw [pk_us]; exact ab_10
                    rcases List.mem_cons.mp ht with q | q
                    · subst q; exact ⟨m1, m2⟩
                    · have hnd := hX.2.2.1.1
                      rw [ha', List.nodup_append] at hnd
                      have n1 : t ≠ sl (24 + 2 * s) := fun z => hnd.2.2 _ o1 t (List.mem_cons_of_mem _ q) z.symm
                      have n2 : t ≠ sl (25 + 2 * s) := fun z => hnd.2.2 _ o2 t (List.mem_cons_of_mem _ q) z.symm
                      rw [pk_un n2, pk_un n1] at hN
                      obtain ⟨a, b⟩ := c2 t q hN hk
                      exact ⟨dr_up (dr_up a), dr_up (dr_up b)⟩
                  · intro t ht hN
                    by_cases z2 : t = sl (25 + 2 * s)
                    · exact Or.inr ⟨s, hs, dr_up (dr_up n0), k4, Or.inr z2⟩
                    · by_cases z1 : t = sl (24 + 2 * s)
                      · exact Or.inr ⟨s, hs, dr_up (dr_up n0), k4, Or.inl z1⟩
                      · rw [pk_un z2, pk_un z1] at hN
                        rcases c3 t ht hN with q | ⟨r, r1, r2, r3, r4⟩
                        · exact Or.inl q
                        · exact Or.inr ⟨r, r1, dr_up (dr_up r2), r3, r4⟩
          exact C ages.reverse [] N (by simp) (fun h hh => b1 h (by omega)) (fun s hs => absurd hs (by simp)) (fun s hs hN => Or.inl (b2 s hs hN))
        | succ k ih =>
          intro j N hj b1 b2
          refine br_f (nI_ge (b := 24) (by omega) (by decide)) ⟨vp_in_nI (by omega) (by decide), ?_⟩
          rw [nI_clamp (show j < 2 ^ 31 by omega)]
          refine br_c (fun t0 => nm_r (nI_1 j) (ih (j + 1) N (by omega) (fun h' hh ht => ?_) b2)) (fun t0 => ⟨vp_in_nI (by omega) (by decide), ?_⟩)
          · by_cases z : h' = j
            · rw [z] at ht; exact absurd t0 ht
            · exact b1 h' (by omega) ht
          · obtain ⟨w1, w2, w3, w4⟩ := hX.2.2.2.2 j (by omega) (hT j (by omega) t0)
            have t32 := hX.2.2.1.2.1 _ w3.2.1
            rw [w3.1, nI_clamp (show sl j < 2 ^ 31 by omega), ab_b1]
            refine ⟨vp_in_nI t32 (by decide), fun N' hN' => nm_r (nI_1 j) (ih (j + 1) N' (by omega) (fun h' hh ht => ?_) (fun s hs hN => ?_))⟩
            · rw [hN']
              by_cases z : h' = j
              · rw [z, pk_us]; exact ab_10
              · exact dr_up (b1 h' (by omega) ht)
            · rw [hN'] at hN
              by_cases z : s = sl j
              · exact ⟨j, by omega, t0, z.symm⟩
              · rw [pk_un z] at hN; exact b2 s hs hN
      exact B 24 0 N (by omega) (fun h hh => absurd hh (by omega)) (fun s hs hN => absurd (h0 s (by omega)) hN)
    | succ k ih =>
      intro j N hj h0
      refine br_f (nI_ge (b := 32) (by omega) (by decide)) ⟨vp_in_nI (by omega) (by decide), fun N' hN' => nm_r (nI_1 j) (ih (j + 1) N' (by omega) ?_)⟩
      rw [nI_clamp (by omega), ab_b0] at hN'
      intro t ht
      rw [hN']
      by_cases z : t = j
      · rw [z, pk_us]
      · rw [pk_un z]; exact h0 t (by omega)
  exact ⟨33, A 32 0 a_slotNeeded (by omega) (fun t ht => absurd ht (by omega))⟩
theorem xd_free {post : SX → Prop} {sz : Nat → Nat} {ages : List Nat} (hm : f_slotsTaken = nI ages.length) (hAg : ∀ i s, ages[i]? = some s → a_slotsByAge i = nI s) (hel : f_elementsTaken = nI (ab_fl sz ages).length) (htot : (ab_fl sz ages).length ≤ 320) (hl32 : ages.length ≤ 32) (hnd : ages.Nodup) (hs32 : ∀ s, s ∈ ages → s < 32) (hsz : ∀ s, s ∈ ages → a_slotSize s = nI (sz s)) (h : ∀ Sz Ag : Nat → Int32, (∀ i s, (ages.filter (dr_m a_slotNeeded))[i]? = some s → Ag i = nI s) → (∀ s, s ∈ ages → a_slotNeeded s = 0 → Sz s = 0) → (∀ s, (s ∉ ages ∨ ¬ a_slotNeeded s = 0) → Sz s = a_slotSize s) → post (nI (ages.filter (dr_m a_slotNeeded)).length, nI (ab_fl sz (ages.filter (dr_m a_slotNeeded))).length, f_slopeCount, a_handleTaken, a_handleIsView, a_windowRank, a_windowSlot, a_windowStart, a_windowDimension, a_windowStride, Sz, a_slotKind, a_slotTerms, a_slotNeeded, Ag, a_values, a_derivatives, a_firstPlaces, a_secondPlaces, a_assigned, a_slopes)) : wpX_freeOtherSlots post (f_slotsTaken, f_elementsTaken, f_slopeCount, a_handleTaken, a_handleIsView, a_windowRank, a_windowSlot, a_windowStart, a_windowDimension, a_windowStride, a_slotSize, a_slotKind, a_slotTerms, a_slotNeeded, a_slotsByAge, a_values, a_derivatives, a_firstPlaces, a_secondPlaces, a_assigned, a_slopes) := by
  have L : ∀ (rest pre : List Nat) (Sz Ag : Nat → Int32), ages = pre ++ rest → (∀ i s, (pre.filter (dr_m a_slotNeeded))[i]? = some s → Ag i = nI s) → (∀ i s, rest[i]? = some s → Ag (pre.length + i) = nI s) → (∀ s, s ∈ pre → a_slotNeeded s = 0 → Sz s = 0) → (∀ s, (s ∉ pre ∨ ¬ a_slotNeeded s = 0) → Sz s = a_slotSize s) → wX_freeOtherSlots_4 post f_slotsTaken f_slopeCount (rest.length + 1) (nI (pre.filter (dr_m a_slotNeeded)).length) (nI pre.length) (nI ((ab_fl sz (pre.filter (dr_m a_slotNeeded))).length + (ab_fl sz rest).length)) a_handleTaken a_handleIsView a_windowRank a_windowSlot a_windowStart a_windowDimension a_windowStride Sz a_slotKind a_slotTerms a_slotNeeded Ag a_values a_derivatives a_firstPlaces a_secondPlaces a_assigned a_slopes := by
    intro rest
    induction rest with
    | nil =>
      intro pre Sz Ag ha h1 h2 h3 h4
      rw [List.append_nil] at ha
      subst ha
      refine br_t (by rw [hm]; exact nI_le (by omega) (by omega)) ?_
      have := h Sz Ag h1 h3 h4
      exact this
    | cons s rest ih =>
      intro pre Sz Ag ha h1 h2 h3 h4
      have hs : s ∈ ages := by rw [ha]; simp
      have s32 := hs32 s hs
      have hlen : ages.length = pre.length + (rest.length + 1) := by rw [ha, List.length_append, List.length_cons]
      have hfl : (pre.filter (dr_m a_slotNeeded)).length ≤ pre.length := List.length_filter_le _ _
      have hsp : s ∉ pre := by
        rw [ha, List.nodup_append] at hnd
        intro z
        exact hnd.2.2 s z s (by simp) rfl
      have ha' : ages = (pre ++ [s]) ++ rest := by rw [ha]; simp
      have hA0 := h2 0 s (by simp)
      rw [Nat.add_zero] at hA0
      have hvs : vp_in (nI s) 32 := vp_in_nI s32 (by decide)
      have cs : (nI s).toNatClampNeg = s := nI_clamp (by omega)
      have lc : (ab_fl sz (s :: rest)).length = sz s + (ab_fl sz rest).length := by rw [ab_flc, List.length_append, ab_pll]
      refine br_f (by rw [hm]; exact nI_ge (by omega) (by omega)) ⟨vp_in_nI (by omega) (by decide), nm_r (e' := nI s) (by rw [nI_clamp (by omega), hA0]) ⟨hvs, ?_⟩⟩
      rw [cs]
      have nl : (pre ++ [s]).length = pre.length + 1 := by rw [List.length_append]; rfl
      by_cases z : a_slotNeeded s = 0
      · have fz : ¬ dr_m a_slotNeeded s = true := fun q => dr_mt.mp q z
        have ff : (pre ++ [s]).filter (dr_m a_slotNeeded) = pre.filter (dr_m a_slotNeeded) := by rw [List.filter_append, List.filter_cons_of_neg fz]; simp
        refine br_t z ⟨hvs, nm_r (e' := nI ((ab_fl sz (pre.filter (dr_m a_slotNeeded))).length + (ab_fl sz rest).length)) ?_ ⟨hvs, nm_r (e' := upd Sz s 0) rfl (nm_r (e' := nI (pre ++ [s]).length) (by rw [nI_1, nl]) ?_)⟩⟩
        · rw [h4 s (Or.inl hsp), hsz s hs, pk_sub (by omega), lc]
          congr 1; omega
        · have := ih (pre ++ [s]) (upd Sz s 0) Ag ha' (by rw [ff]; exact h1) ?_ ?_ ?_
          · rw [ff] at this; exact this
          · intro i t ht
            rw [nl, Nat.add_assoc, Nat.add_comm 1 i]
            exact h2 (i + 1) t (by simpa using ht)
          · intro t ht hN
            by_cases y : t = s
            · rw [y, pk_us]
            · rw [pk_un y]
              refine h3 t ?_ hN
              rcases List.mem_append.mp ht with q | q
              · exact q
              · exact absurd (by simpa using q) y
          · intro t ht
            have y : t ≠ s := by
              intro y; subst y
              rcases ht with q | q
              · exact q (by simp)
              · exact q z
            rw [pk_un y]
            refine h4 t ?_
            rcases ht with q | q
            · exact Or.inl (fun r => q (List.mem_append_left _ r))
            · exact Or.inr q
      · have fz : dr_m a_slotNeeded s = true := dr_mt.mpr z
        have ff : (pre ++ [s]).filter (dr_m a_slotNeeded) = pre.filter (dr_m a_slotNeeded) ++ [s] := by rw [List.filter_append, List.filter_cons_of_pos fz]; simp
        have fl1 : ((pre ++ [s]).filter (dr_m a_slotNeeded)).length = (pre.filter (dr_m a_slotNeeded)).length + 1 := by rw [ff, List.length_append]; rfl
        refine br_f z ⟨vp_in_nI (by omega) (by decide), nm_r (e' := upd Ag (pre.filter (dr_m a_slotNeeded)).length (nI s)) (by rw [nI_clamp (by omega)]) (nm_r (e' := nI ((pre ++ [s]).filter (dr_m a_slotNeeded)).length) (by rw [nI_1, fl1]) (nm_r (e' := nI (pre ++ [s]).length) (by rw [nI_1, nl]) ?_))⟩
        have el : (ab_fl sz (pre.filter (dr_m a_slotNeeded))).length + (ab_fl sz (s :: rest)).length = (ab_fl sz ((pre ++ [s]).filter (dr_m a_slotNeeded))).length + (ab_fl sz rest).length := by
          rw [ff, ab_fla, List.length_append, lc, ab_flc, ab_fln, List.append_nil, ab_pll]; omega
        rw [el]
        refine ih (pre ++ [s]) Sz _ ha' ?_ ?_ ?_ ?_
        · intro i t ht
          rw [ff] at ht
          by_cases y : i = (pre.filter (dr_m a_slotNeeded)).length
          · subst y
            rw [List.getElem?_append_right (by omega)] at ht
            simp at ht
            rw [pk_us, ht]
          · rw [pk_un y]
            by_cases x : i < (pre.filter (dr_m a_slotNeeded)).length
            · rw [List.getElem?_append_left x] at ht; exact h1 i t ht
            · rw [List.getElem?_append_right (by omega), List.getElem?_eq_none (by simp; omega)] at ht
              exact absurd ht (by simp)
        · intro i t ht
          rw [nl, pk_un (by omega), Nat.add_assoc, Nat.add_comm 1 i]
          exact h2 (i + 1) t (by simpa using ht)
        · intro t ht hN
          refine h3 t ?_ hN
          rcases List.mem_append.mp ht with q | q
          · exact q
          · have : t = s := by simpa using q
            subst this; exact absurd hN z
        · intro t ht
          refine h4 t ?_
          rcases ht with q | q
          · exact Or.inl (fun r => q (List.mem_append_left _ r))
          · exact Or.inr q
  have := L ages [] a_slotSize a_slotsByAge rfl (fun i s hs => absurd hs (by simp)) (fun i s hs => by rw [List.length_nil, Nat.zero_add]; exact hAg i s hs) (fun s hs => absurd hs (by simp)) (fun _ _ => rfl)
  rw [List.filter_nil, ab_fln, List.length_nil, Nat.zero_add, ← hel] at this
  exact ⟨ages.length + 1, this⟩
end
end
section
section
variable {c_cells c_slopeCount : Int32} {b_used b_rank b_dims b_shown b_tensorOf b_view b_exists b_kind b_first b_second b_owner b_parts b_partCount b_value b_slopeOf b_order b_slopes : Nat → Int32}
theorem yd_142 {post : SY → Prop} {fl : List Nat} {cl : Nat → Nat} (hnd : fl.Nodup) (hc : c_cells = nI fl.length) (hl : fl.length ≤ 320) (h1 : ∀ p, p ∈ fl → cl p < 320 ∧ b_owner (cl p) = nI (p / 64) ∧ p / 64 < 32) (hinj : ∀ p q, p ∈ fl → q ∈ fl → cl p = cl q → p = q) (hord : ∀ i p, fl[i]? = some p → b_order i = nI (cl p)) (h : ∀ O R : Nat → Int32, (∀ i p, (fl.filter (fun p => dr_m b_exists (p / 64)))[i]? = some p → R i = nI (cl p)) → (∀ p, p ∈ fl → b_exists (p / 64) = 0 → O (cl p) < 0) → (∀ c, (∀ p, p ∈ fl → b_exists (p / 64) = 0 → c ≠ cl p) → O c = b_owner c) → post (nI (fl.filter (fun p => dr_m b_exists (p / 64))).length, c_slopeCount, b_used, b_rank, b_dims, b_shown, b_tensorOf, b_view, b_exists, b_kind, b_first, b_second, O, b_parts, b_partCount, b_value, b_slopeOf, R, b_slopes)) : ∃ n, wY_settle_142 post c_cells c_slopeCount n 0 0 b_used b_rank b_dims b_shown b_tensorOf b_view b_exists b_kind b_first b_second b_owner b_parts b_partCount b_value b_slopeOf b_order b_slopes := by
  have L : ∀ (rest pre : List Nat) (O R : Nat → Int32), fl = pre ++ rest → (∀ i p, (pre.filter (fun p => dr_m b_exists (p / 64)))[i]? = some p → R i = nI (cl p)) → (∀ i p, rest[i]? = some p → R (pre.length + i) = nI (cl p)) → (∀ p, p ∈ pre → b_exists (p / 64) = 0 → O (cl p) < 0) → (∀ c, (∀ p, p ∈ pre → b_exists (p / 64) = 0 → c ≠ cl p) → O c = b_owner c) → wY_settle_142 post c_cells c_slopeCount (rest.length + 1) (nI (pre.filter (fun p => dr_m b_exists (p / 64))).length) (nI pre.length) b_used b_rank b_dims b_shown b_tensorOf b_view b_exists b_kind b_first b_second O b_parts b_partCount b_value b_slopeOf R b_slopes := by
    intro rest
    induction rest with
    | nil =>
      intro pre O R ha r1 r2 o1 o2
      rw [List.append_nil] at ha
      subst ha
      exact br_t (by rw [hc]; exact nI_le (by omega) (by omega)) (h O R r1 o1 o2)
    | cons p rest ih =>
      intro pre O R ha r1 r2 o1 o2
      have hp : p ∈ fl := by rw [ha]; simp
      have hlen : fl.length = pre.length + (rest.length + 1) := by rw [ha, List.length_append, List.length_cons]
      have hfl : (pre.filter (fun p => dr_m b_exists (p / 64))).length ≤ pre.length := List.length_filter_le _ _
      have hpp : p ∉ pre := by
        rw [ha, List.nodup_append] at hnd
        intro z
        exact hnd.2.2 p z p (by simp) rfl
      have hin : ∀ q, q ∈ pre → q ∈ fl := fun q hq => by rw [ha]; simp [hq]
      have ha' : fl = (pre ++ [p]) ++ rest := by rw [ha]; simp
      obtain ⟨c1, c2, c3⟩ := h1 p hp
      have hR0 := r2 0 p (by simp)
      rw [Nat.add_zero] at hR0
      have hvc : vp_in (nI (cl p)) 320 := vp_in_nI c1 (by decide)
      have cc : (nI (cl p)).toNatClampNeg = cl p := nI_clamp (by omega)
      have hOp : O (cl p) = nI (p / 64) := by
        rw [o2 (cl p) (fun q hq _ e => hpp (hinj _ _ hp (hin q hq) e ▸ hq)), c2]
      have nl : (pre ++ [p]).length = pre.length + 1 := by rw [List.length_append]; rfl
      refine br_f (by rw [hc]; exact nI_ge (by omega) (by omega)) ⟨vp_in_nI (by omega) (by decide), nm_r (e' := nI (cl p)) (by rw [nI_clamp (by omega), hR0]) ⟨hvc, ?_⟩⟩
      rw [cc, hOp, nI_clamp (show p / 64 < 2 ^ 31 by omega)]
      refine ⟨vp_in_nI c3 (by decide), ?_⟩
      by_cases z : b_exists (p / 64) = 0
      · have fz : ¬ dr_m b_exists (p / 64) = true := fun q => dr_mt.mp q z
        have ff : (pre ++ [p]).filter (fun p => dr_m b_exists (p / 64)) = pre.filter (fun p => dr_m b_exists (p / 64)) := by rw [List.filter_append, List.filter_cons_of_neg (p := fun p => dr_m b_exists (p / 64)) fz]; simp
        refine br_t z ⟨hvc, nm_r (e' := upd O (cl p) (-1)) (by rw [ab_vbm]) (nm_r (e' := nI (pre ++ [p]).length) (by rw [nI_1, nl]) ?_)⟩
        have := ih (pre ++ [p]) (upd O (cl p) (-1)) R ha' (by rw [ff]; exact r1) ?_ ?_ ?_
        · rw [ff] at this; exact this
        · intro i q hq
          rw [nl, Nat.add_assoc, Nat.add_comm 1 i]
          exact r2 (i + 1) q (by simpa using hq)
        · intro q hq hE
          by_cases y : cl q = cl p
          · rw [y, pk_us]; decide
          · rw [pk_un y]
            rcases List.mem_append.mp hq with r | r
            · exact o1 q r hE
            · exact absurd (congrArg cl (show q = p by simpa using r)) y
        · intro c hcn
          rw [pk_un (hcn p (by simp) z)]
          exact o2 c (fun q hq hE => hcn q (List.mem_append_left _ hq) hE)
      · have fz : dr_m b_exists (p / 64) = true := dr_mt.mpr z
        have ff : (pre ++ [p]).filter (fun p => dr_m b_exists (p / 64)) = pre.filter (fun p => dr_m b_exists (p / 64)) ++ [p] := by rw [List.filter_append, List.filter_cons_of_pos (p := fun p => dr_m b_exists (p / 64)) fz]; simp
        have fl1 : ((pre ++ [p]).filter (fun p => dr_m b_exists (p / 64))).length = (pre.filter (fun p => dr_m b_exists (p / 64))).length + 1 := by rw [ff, List.length_append]; rfl
        refine br_f z (nm_r (e' := nI ((pre ++ [p]).filter (fun p => dr_m b_exists (p / 64))).length) (by rw [nI_1, fl1]) ⟨vp_in_nI (by omega) (by decide), nm_r (e' := upd R (pre.filter (fun p => dr_m b_exists (p / 64))).length (nI (cl p))) (by rw [nI_clamp (by omega), ab_vs2 (by omega)]) (nm_r (e' := nI (pre ++ [p]).length) (by rw [nI_1, nl]) ?_)⟩)
        refine ih (pre ++ [p]) O _ ha' ?_ ?_ ?_ ?_
        · intro i q hq
          rw [ff] at hq
          by_cases y : i = (pre.filter (fun p => dr_m b_exists (p / 64))).length
          · subst y
            rw [List.getElem?_append_right (by omega)] at hq
            simp at hq
            rw [pk_us, hq]
          · rw [pk_un y]
            by_cases x : i < (pre.filter (fun p => dr_m b_exists (p / 64))).length
            · rw [List.getElem?_append_left x] at hq; exact r1 i q hq
            · rw [List.getElem?_append_right (by omega), List.getElem?_eq_none (by simp; omega)] at hq
              exact absurd hq (by simp)
        · intro i q hq
          rw [nl, pk_un (by omega), Nat.add_assoc, Nat.add_comm 1 i]
          exact r2 (i + 1) q (by simpa using hq)
        · intro q hq hE
          rcases List.mem_append.mp hq with r | r
          · exact o1 q r hE
          · have : q = p := by simpa using r
            subst this; exact absurd hE z
        · intro c hcn
          exact o2 c (fun q hq hE => hcn q (List.mem_append_left _ hq) hE)
  exact ⟨fl.length + 1, L fl [] b_owner b_order rfl (fun i p hp => absurd hp (by simp)) (fun i p hp => by rw [List.length_nil, Nat.zero_add]; exact hord i p hp) (fun p hp => absurd hp (by simp)) (fun _ _ => rfl)⟩
theorem yd_round {post : SY → Prop} {J58 : Int32 → (Nat → Int32) → (Nat → Int32) → (Nat → Int32) → (Nat → Int32) → (Nat → Int32) → (Nat → Int32) → (Nat → Int32) → (Nat → Int32) → (Nat → Int32) → (Nat → Int32) → (Nat → Int32) → (Nat → Int32) → (Nat → Int32) → (Nat → Int32) → (Nat → Int32) → (Nat → Int32) → (Nat → Int32) → Prop} {M : Nat → Prop} {kd s1 s2 : Nat → Nat} {x : Nat} {E0 : Nat → Int32} (hF : ∀ t, t < 32 → M t → (kd t = 4 → b_first t < 0 ∧ b_second t < 0) ∧ (kd t ≠ 4 → b_first t = nI (s1 t) ∧ s1 t < 32 ∧ M (s1 t) ∧ ((b_second t < 0 ∧ s2 t = s1 t) ∨ b_second t = nI (s2 t)) ∧ s2 t < 32 ∧ M (s2 t))) (h : ∀ E : Nat → Int32, (∀ r, ¬ E0 r = 0 → ¬ E r = 0) → (∀ r, r < 32 → ¬ E r = 0 → M r) → (∀ r, r < 32 → ¬ E0 r = 0 → kd r ≠ 4 → ¬ E (s1 r) = 0 ∧ ¬ E (s2 r) = 0) → J58 (nI (x + 1)) b_used b_rank b_dims b_shown b_tensorOf b_view E b_kind b_first b_second b_owner b_parts b_partCount b_value b_slopeOf b_order b_slopes) : ∀ (k t : Nat) (E : Nat → Int32), t + k = 32 → (∀ r, ¬ E0 r = 0 → ¬ E r = 0) → (∀ r, r < 32 → ¬ E r = 0 → M r) → (∀ r, r < t → ¬ E0 r = 0 → kd r ≠ 4 → ¬ E (s1 r) = 0 ∧ ¬ E (s2 r) = 0) → wY_settle_66 post J58 (nI x) c_cells c_slopeCount (k + 1) (nI t) b_used b_rank b_dims b_shown b_tensorOf b_view E b_kind b_first b_second b_owner b_parts b_partCount b_value b_slopeOf b_order b_slopes := by
  intro k
  induction k with
  | zero =>
    intro t E ht a b c
    exact br_t (nI_le (a := 32) (by omega) (by omega)) (nm_r (nI_1 x) (h E a b (fun r hr => c r (by omega))))
  | succ k ih =>
    intro t E ht a b c
    have hv : vp_in (nI t) 32 := vp_in_nI (by omega) (by decide)
    have ct : (nI t).toNatClampNeg = t := nI_clamp (by omega)
    refine br_f (nI_ge (b := 32) (by omega) (by decide)) ⟨hv, ?_⟩
    rw [ct]
    refine br_c (fun z => nm_r (nI_1 t) (ih (t + 1) E (by omega) a b (fun r hr hE hk => ?_))) (fun z => ⟨hv, ?_⟩)
    · by_cases y : r = t
      · rw [y] at hE; exact absurd z (a t hE)
      · exact c r (by omega) hE hk
    obtain ⟨f4, f5⟩ := hF t (by omega) (b t (by omega) z)
    by_cases k4 : kd t = 4
    · obtain ⟨g1, g2⟩ := f4 k4
      refine br_t g1 ⟨hv, br_t (by rw [ct]; exact g2) (nm_r (nI_1 t) (ih (t + 1) E (by omega) a b (fun r hr hE hk => ?_)))⟩
      by_cases y : r = t
      · rw [y] at hk; exact absurd k4 hk
      · exact c r (by omega) hE hk
    · obtain ⟨g1, g2, g3, g4, g5, g6⟩ := f5 k4
      refine br_f (by rw [g1]; exact nI_pos (by omega)) ⟨hv, ?_⟩
      rw [g1]
      refine ⟨vp_in_nI g2 (by decide), nm_r (e' := upd E (s1 t) 1) (by rw [nI_clamp (by omega), ab_b1]) ⟨hv, ?_⟩⟩
      rw [ct]
      have a1 : ∀ r, ¬ E0 r = 0 → ¬ upd E (s1 t) 1 r = 0 := fun r hr => dr_up (a r hr)
      have b1 : ∀ r, r < 32 → ¬ upd E (s1 t) 1 r = 0 → M r := by
        intro r hr hE
        by_cases y : r = s1 t
        · rw [y]; exact g3
        · rw [pk_un y] at hE; exact b r hr hE
      have m1 : ¬ upd E (s1 t) 1 (s1 t) = 0 := by rw [pk_us]; exact ab_10
      rcases g4 with ⟨q1, q2⟩ | q
      · refine br_t q1 (nm_r (nI_1 t) (ih (t + 1) _ (by omega) a1 b1 (fun r hr hE hk => ?_)))
        by_cases y : r = t
        · rw [y, q2]; exact ⟨m1, m1⟩
        · obtain ⟨e1, e2⟩ := c r (by omega) hE hk
          exact ⟨dr_up e1, dr_up e2⟩
      · refine br_f (by rw [q]; exact nI_pos (by omega)) ⟨hv, ?_⟩
        rw [q]
        refine ⟨vp_in_nI g5 (by decide), nm_r (e' := upd (upd E (s1 t) 1) (s2 t) 1) (by rw [nI_clamp (by omega), ab_b1]) (nm_r (nI_1 t) (ih (t + 1) _ (by omega) (fun r hr => dr_up (a1 r hr)) ?_ (fun r hr hE hk => ?_)))⟩
        · intro r hr hE
          by_cases y : r = s2 t
          · rw [y]; exact g6
          · rw [pk_un y] at hE; exact b1 r hr hE
        · by_cases y : r = t
          · rw [y]; exact ⟨dr_up m1, by rw [pk_us]; exact ab_10⟩
          · obtain ⟨e1, e2⟩ := c r (by omega) hE hk
            exact ⟨dr_up (dr_up e1), dr_up (dr_up e2)⟩
theorem yd_settle {post : SY → Prop} {sl kd : Nat → Nat} {ages : List Nat} {N : Nat → Int32} (hok : dr_ok b_used sl kd ages N) (hor : rl_or kd sl [] ages) (hnd : ages.Nodup) (hl32 : ages.length ≤ 32) (hS : ∀ s, s ∈ ages → s < 32) (hMa : ∀ s, s < 32 → ¬ N s = 0 → s ∈ ages) (hT : ∀ h, h < 24 → ¬ b_used h = 0 → b_tensorOf h = nI (sl h) ∧ sl h < 32) (hF : ∀ t, t ∈ ages → (kd t = 4 → b_first t < 0 ∧ b_second t < 0) ∧ (kd t ≠ 4 → b_first t = nI (sl (24 + 2 * t)) ∧ sl (24 + 2 * t) < 32 ∧ ((b_second t < 0 ∧ sl (25 + 2 * t) = sl (24 + 2 * t)) ∨ b_second t = nI (sl (25 + 2 * t))) ∧ sl (25 + 2 * t) < 32)) (h : ∀ E : Nat → Int32, (∀ t, t < 32 → (¬ E t = 0 ↔ ¬ N t = 0)) → ∃ n, wY_settle_142 post c_cells c_slopeCount n 0 0 b_used b_rank b_dims b_shown b_tensorOf b_view E b_kind b_first b_second b_owner b_parts b_partCount b_value b_slopeOf b_order b_slopes) : wpY_settle post (c_cells, c_slopeCount, b_used, b_rank, b_dims, b_shown, b_tensorOf, b_view, b_exists, b_kind, b_first, b_second, b_owner, b_parts, b_partCount, b_value, b_slopeOf, b_order, b_slopes) := by
  obtain ⟨k1, k2, k3⟩ := hok
  have C : ∀ (k r : Nat) (E : Nat → Int32), r + k = 32 → (∀ t, t < 32 → ¬ E t = 0 → ¬ N t = 0) → (∀ h, h < 24 → ¬ b_used h = 0 → ¬ E (sl h) = 0) → (∀ i s, ages[i]? = some s → ¬ N s = 0 → ages.length ≤ i + r → ¬ E s = 0) → wY_settle_58 post c_cells c_slopeCount (k + 1) (nI r) b_used b_rank b_dims b_shown b_tensorOf b_view E b_kind b_first b_second b_owner b_parts b_partCount b_value b_slopeOf b_order b_slopes := by
    intro k
    induction k with
    | zero =>
      intro r E hr e1 e2 e3
      refine br_t (nI_le (a := 32) (by omega) (by omega)) (h E (fun t ht => ⟨e1 t ht, fun hN => ?_⟩))
      obtain ⟨i, hi, ei⟩ := List.mem_iff_getElem.mp (hMa t ht hN)
      exact e3 i t (by rw [List.getElem?_eq_getElem hi, ei]) hN (by omega)
    | succ k ih =>
      intro r E hr e1 e2 e3
      refine br_f (nI_ge (b := 32) (by omega) (by decide)) ⟨33, ?_⟩
      refine yd_round (M := fun t => ¬ N t = 0) (kd := kd) (s1 := fun t => sl (24 + 2 * t)) (s2 := fun t => sl (25 + 2 * t)) (E0 := E) (fun t ht hM => ?_) (fun E' f1 f2 f3 => ih (r + 1) E' (by omega) f2 (fun h' hh hu => f1 _ (e2 h' hh hu)) (fun i s hi hN hl => ?_)) 32 0 E (by omega) (fun _ q => q) e1 (fun q hq => absurd hq (by omega))
      · have hta := hMa t ht hM
        obtain ⟨g1, g2⟩ := hF t hta
        refine ⟨g1, fun hk => ?_⟩
        obtain ⟨x1, x2, x3, x4⟩ := g2 hk
        obtain ⟨m1, m2⟩ := k2 t hta hM hk
        exact ⟨x1, x2, m1, x3, x4, m2⟩
      · obtain ⟨li, ei⟩ := List.getElem?_eq_some_iff.mp hi
        have hsa : s ∈ ages := List.mem_of_getElem? hi
        have hM32 : s < 32 := hS s hsa
        rcases k3 s hM32 hN with ⟨h', hh, hu, es⟩ | ⟨t, ht, hNt, hk, hs⟩
        · rw [← es]; exact f1 _ (e2 h' hh hu)
        · obtain ⟨i', li', ei'⟩ := List.mem_iff_getElem.mp ht
          have hi' : ages[i']? = some t := by rw [List.getElem?_eq_getElem li', ei']
          have lt := dr_ix hor hnd hi hi' hk hs
          have hEt := e3 i' t hi' hNt (by omega)
          obtain ⟨q1, q2⟩ := f3 t (hS t ht) hEt hk
          rcases hs with q | q
          · rw [q]; exact q1
          · rw [q]; exact q2
  have B : ∀ (k j : Nat) (E : Nat → Int32), j + k = 24 → (∀ t, t < 32 → ¬ E t = 0 → ¬ N t = 0) → (∀ h, h < j → ¬ b_used h = 0 → ¬ E (sl h) = 0) → wY_settle_23 post c_cells c_slopeCount (k + 1) (nI j) b_used b_rank b_dims b_shown b_tensorOf b_view E b_kind b_first b_second b_owner b_parts b_partCount b_value b_slopeOf b_order b_slopes := by
    intro k
    induction k with
    | zero =>
      intro j E hj e1 e2
      refine br_t (nI_le (a := 24) (by omega) (by omega)) ⟨33, C 32 0 E (by omega) e1 (fun h' hh => e2 h' (by omega)) (fun i s hi hN hl => ?_)⟩
      have := (List.getElem?_eq_some_iff.mp hi).1
      omega
    | succ k ih =>
      intro j E hj e1 e2
      have cj : (nI j).toNatClampNeg = j := nI_clamp (by omega)
      have hvj : vp_in (nI j) 25 := vp_in_nI (by omega) (by decide)
      refine br_f (nI_ge (b := 24) (by omega) (by decide)) ⟨hvj, ?_⟩
      rw [cj]
      refine br_c (fun t0 => nm_r (nI_1 j) (ih (j + 1) E (by omega) e1 (fun h' hh ht => ?_))) (fun t0 => ⟨hvj, ?_⟩)
      · by_cases z : h' = j
        · rw [z] at ht; exact absurd t0 ht
        · exact e2 h' (by omega) ht
      · obtain ⟨g1, g2⟩ := hT j (by omega) t0
        rw [g1]
        refine ⟨vp_in_nI g2 (by decide), nm_r (e' := upd E (sl j) 1) (by rw [nI_clamp (by omega), ab_b1]) (nm_r (nI_1 j) (ih (j + 1) _ (by omega) (fun t ht hE => ?_) (fun h' hh ht => ?_)))⟩
        · by_cases z : t = sl j
          · rw [z]; exact k1 j (by omega) t0
          · rw [pk_un z] at hE; exact e1 t ht hE
        · by_cases z : h' = j
          · rw [z, pk_us]; exact ab_10
          · exact dr_up (e2 h' (by omega) ht)
  have A : ∀ (k j : Nat) (E : Nat → Int32), j + k = 32 → (∀ t, t < j → E t = 0) → wY_settle_2 post c_cells c_slopeCount (k + 1) (nI j) b_used b_rank b_dims b_shown b_tensorOf b_view E b_kind b_first b_second b_owner b_parts b_partCount b_value b_slopeOf b_order b_slopes := by
    intro k
    induction k with
    | zero =>
      intro j E hj h0
      exact br_t (nI_le (a := 32) (by omega) (by omega)) ⟨25, B 24 0 E (by omega) (fun t ht hE => absurd (h0 t (by omega)) hE) (fun h' hh => absurd hh (by omega))⟩
    | succ k ih =>
      intro j E hj h0
      refine br_f (nI_ge (b := 32) (by omega) (by decide)) ⟨vp_in_nI (by omega) (by decide), fun E' hE' => nm_r (nI_1 j) (ih (j + 1) E' (by omega) ?_)⟩
      rw [nI_clamp (by omega), ab_b0] at hE'
      intro t ht
      rw [hE']
      by_cases z : t = j
      · rw [z, pk_us]
      · rw [pk_un z]; exact h0 t (by omega)
  exact ⟨33, A 32 0 b_exists (by omega) (fun t ht => absurd ht (by omega))⟩
end
end
section
theorem i_vc_drop {k : Nat} {u : SX} {v : SY} (I : i_Rel k u v) (hk : k + 5 ≤ 2560) (v1 : Int32) : wpX_drop (fun r u' => wpY_drop (fun r' v' => r' = r ∧ i_Rel (k + 5) u' v') v v1) u v1 := by
  obtain ⟨f_slotsTaken, f_elementsTaken, f_slopeCount, a_handleTaken, a_handleIsView, a_windowRank, a_windowSlot, a_windowStart, a_windowDimension, a_windowStride, a_slotSize, a_slotKind, a_slotTerms, a_slotNeeded, a_slotsByAge, a_values, a_derivatives, a_firstPlaces, a_secondPlaces, a_assigned, a_slopes⟩ := u
  obtain ⟨c_cells, c_slopeCount, b_used, b_rank, b_dims, b_shown, b_tensorOf, b_view, b_exists, b_kind, b_first, b_second, b_owner, b_parts, b_partCount, b_value, b_slopeOf, b_order, b_slopes⟩ := v
  have I' := I
  obtain ⟨rk, sl, d, G, ages, sz, kd, tm, yk, cl, hX, hY, hS⟩ := I'
  have hu := hY.1.1
  have hvw := hY.1.2
  by_cases hH : ab_isH a_handleTaken v1
  · obtain ⟨w, hw, rfl, hT⟩ := hH
    have hU : ¬ b_used w = 0 := by rw [hu]; exact hT
    have cw : (nI w).toNatClampNeg = w := nI_clamp (by omega)
    have hsub : ∀ h, h < 24 → ¬ upd a_handleTaken w 0 h = 0 → ¬ a_handleTaken h = 0 := by
      intro h hh ht
      by_cases z : h = w
      · rw [z, pk_us] at ht; exact absurd rfl ht
      · rw [pk_un z] at ht; exact ht
    unfold wpX_drop
    refine xw_isHandle_t hw hT (br_f ab_10 ⟨vp_in_nI hw (by decide), nm_r (e' := upd a_handleTaken w 0) (by rw [cw, ab_b0]) (xd_mark (T := a_handleTaken) hX hsub (fun N hok => ?_))⟩)
    have m32 := ab_pg2 32 ages hX.2.2.1.1 hX.2.2.1.2.1
    have s32 := hX.2.2.1.2.1
    have szl : ∀ s, s ∈ ages → sz s ≤ 64 := fun s hs => (hX.2.2.2.1 s hs).2.2.1
    refine xd_free (sz := sz) (ages := ages) hX.1.1 hX.1.2 hX.2.1.1 hX.2.1.2 m32 hX.2.2.1.1 s32 (fun s hs => (hX.2.2.2.1 s hs).1) (fun Sz Ag a1 z1 z2 => ?_)
    have hMa : ∀ s, s < 32 → ¬ N s = 0 → s ∈ ages := by
      intro s hs hN
      rcases hok.2.2 s hs hN with ⟨h, hh, ht, es⟩ | ⟨t, ht, hNt, hkt, es⟩
      · rw [← es]; exact (hX.2.2.2.2 h hh (hsub h hh ht)).2.2.1.2.1
      · obtain ⟨_, _, _, _, _, w6, w7⟩ := (hX.2.2.2.1 t ht).2.2.2.2.2 hkt
        rcases es with q | q
        · rw [q]; exact w6.2.1
        · rw [q]; exact w7.2.1
    have mf : ∀ s, s ∈ ages.filter (dr_m N) ↔ s ∈ ages ∧ ¬ N s = 0 := fun s => by rw [List.mem_filter, dr_mt]
    unfold wpY_drop
    refine yb_isHandle_t hw hU (br_f ab_10 ⟨vp_in_nI (by omega) (by decide), nm_r (e' := upd a_handleTaken w 0) (by rw [cw, ab_b0, hu]) ?_⟩)
    refine yd_settle (sl := sl) (kd := kd) (ages := ages) (N := N) hok hX.2.2.1.2.2.2 hX.2.2.1.1 m32 s32 hMa (fun h hh ht => ?_) (fun t ht => ?_) (fun E hE => ?_)
    · have th := hsub h hh ht
      have yh := hY.2.2.2.2.1 h hh th
      exact ⟨yh.2.2.1, s32 _ (hX.2.2.2.2 h hh th).2.2.1.2.1⟩
    · have ys := hY.2.2.2.2.2.1 t ht
      refine ⟨ys.2.2.1, fun hkt => ?_⟩
      obtain ⟨f1, f2, f3, f4⟩ := ys.2.2.2 hkt
      obtain ⟨_, _, _, _, _, w6, w7⟩ := (hX.2.2.2.1 t ht).2.2.2.2.2 hkt
      refine ⟨f1, s32 _ w6.2.1, ?_, s32 _ w7.2.1⟩
      by_cases k3 : kd t = 3
      · exact Or.inl (f2 k3)
      · exact Or.inr (f3 k3)
    · have hO := hY.2.2.1
      have pm : ∀ p, p ∈ ab_fl sz ages → p / 64 ∈ ages ∧ p / 64 < 32 := fun p hp => ⟨((rl_mem hX).mp hp).1, s32 _ ((rl_mem hX).mp hp).1⟩
      have eqm : ∀ p, p ∈ ab_fl sz ages → (fun p => dr_m E (p / 64)) p = (fun p => dr_m N (p / 64)) p := by
        intro p hp
        have := hE (p / 64) (pm p hp).2
        show dr_m E (p / 64) = dr_m N (p / 64)
        unfold dr_m
        exact decide_eq_decide.mpr this
      have flf : (ab_fl sz ages).filter (fun p => dr_m E (p / 64)) = ab_fl sz (ages.filter (dr_m N)) := by
        rw [List.filter_congr eqm]; exact dr_flf (m := dr_m N) szl
      refine yd_142 (fl := ab_fl sz ages) (cl := cl) (dr_nod szl hX.2.2.1.1) hY.2.1.1 hX.2.1.2 (fun p hp => ⟨(hO.1 p hp).1, (hO.1 p hp).2, (pm p hp).2⟩) hO.2.1 hY.2.1.2 (fun O R r1 o1 o2 => ⟨rfl, ?_⟩)
      rw [flf] at r1 ⊢
      have fm : ∀ p, p ∈ ab_fl sz (ages.filter (dr_m N)) ↔ p ∈ ab_fl sz ages ∧ ¬ N (p / 64) = 0 := by
        intro p
        rw [← flf, List.mem_filter]
        constructor
        · rintro ⟨a, b⟩
          exact ⟨a, (hE _ (pm p a).2).mp (dr_mt.mp b)⟩
        · rintro ⟨a, b⟩
          exact ⟨a, dr_mt.mpr ((hE _ (pm p a).2).mpr b)⟩
      have clo : ∀ s, s ∈ ages → ¬ N s = 0 → kd s ≠ 4 → sl (24 + 2 * s) ∈ ages.filter (dr_m N) ∧ sl (25 + 2 * s) ∈ ages.filter (dr_m N) := by
        intro s hs hN hks
        obtain ⟨a, b⟩ := hok.2.1 s hs hN hks
        obtain ⟨_, _, _, _, _, w6, w7⟩ := (hX.2.2.2.1 s hs).2.2.2.2.2 hks
        exact ⟨(mf _).mpr ⟨w6.2.1, a⟩, (mf _).mpr ⟨w7.2.1, b⟩⟩
      refine rl_mk (k + 5) rk sl d G (ages.filter (dr_m N)) sz kd tm yk cl ?_ ?_ hS
      · obtain ⟨x1, x2, ⟨x3, x4, x5, x6⟩, x7, x8⟩ := hX
        refine ⟨⟨rfl, a1⟩, ⟨rfl, ?_⟩, ⟨x3.filter _, fun s hs => x4 s ((mf s).mp hs).1, fun s hs hn => ?_, ?_⟩, fun s hs => ?_, fun h hh ht => ?_⟩
        · rw [← flf]
          exact Nat.le_trans (List.length_filter_le _ _) x2.2
        · by_cases z : s ∈ ages
          · refine z1 s z ?_
            apply Classical.byContradiction
            intro y
            exact hn ((mf s).mpr ⟨z, y⟩)
          · rw [z2 s (Or.inl z)]; exact x5 s hs z
        · have := dr_or (m := dr_m N) x6 (fun s hs hm hks => ?_)
          · exact this
          · obtain ⟨a, b⟩ := hok.2.1 s hs (dr_mt.mp hm) hks
            exact ⟨dr_mt.mpr a, dr_mt.mpr b⟩
        · obtain ⟨h1, h2⟩ := (mf s).mp hs
          obtain ⟨q1, q2, q3, q4, q5, q6⟩ := x7 s h1
          refine ⟨by rw [z2 s (Or.inr h2)]; exact q1, q2, q3, q4, q5, fun hks => ?_⟩
          obtain ⟨u1, u2, u3, u4, u5, u6, u7⟩ := q6 hks
          obtain ⟨c1, c2⟩ := clo s h1 h2 hks
          exact ⟨u1, u2, u3, u4, u5, rl_winM c1 u6, rl_winM c2 u7⟩
        · have th := hsub h hh ht
          obtain ⟨y1, y2, y3, y4⟩ := x8 h hh th
          exact ⟨y1, y2, rl_winM ((mf _).mpr ⟨y3.2.1, hok.1 h hh ht⟩) y3, y4⟩
      · obtain ⟨y1, y2, y3, y4, y5, y6, y7⟩ := hY
        refine ⟨⟨rfl, hvw⟩, ⟨rfl, r1⟩, ⟨fun p hp => ?_, fun p q hp hq => ?_, fun c hc hno => ?_⟩, fun t ht => ?_, fun h hh ht => y5 h hh (hsub h hh ht), fun s hs => y6 s ((mf s).mp hs).1, fun p hp => y7 p ((fm p).mp hp).1⟩
        · obtain ⟨p1, p2⟩ := (fm p).mp hp
          refine ⟨(y3.1 p p1).1, ?_⟩
          rw [o2 (cl p) (fun q hq hEq e => ?_)]
          · exact (y3.1 p p1).2
          · have := y3.2.1 _ _ p1 hq e
            subst this
            exact (hE _ (pm p p1).2).mpr p2 hEq
        · exact y3.2.1 p q ((fm p).mp hp).1 ((fm q).mp hq).1
        · by_cases z : ∃ p, p ∈ ab_fl sz ages ∧ cl p = c
          · obtain ⟨p, hp, rfl⟩ := z
            refine o1 p hp ?_
            apply Classical.byContradiction
            intro y
            exact hno p ((fm p).mpr ⟨hp, (hE _ (pm p hp).2).mp y⟩) rfl
          · rw [o2 c (fun p hp _ e => z ⟨p, hp, e.symm⟩)]
            exact y3.2.2 c hc (fun p hp e => z ⟨p, hp, e⟩)
        · rw [mf]
          constructor
          · intro z q
            exact (hE t ht).mpr q.2 z
          · intro q
            apply Classical.byContradiction
            intro y
            have := (hE t ht).mp y
            exact q ⟨hMa t ht this, this⟩
  · unfold wpX_drop
    refine xw_isHandle_f hH (br_t rfl ?_)
    unfold wpY_drop
    exact yb_isHandle_f (by rw [hu]; exact hH) (br_t rfl ⟨rfl, I⟩)
end
