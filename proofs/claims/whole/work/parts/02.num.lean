/-! whole numbers as Int32 and Int64, below 0 too -/
def hz_i (z : Int) : Int32 := Int32.ofInt z
def hz_l (z : Int) : Int64 := Int64.ofInt z
theorem hz_in (n : Nat) : hz_i (n : Int) = nI n := Int32.ofInt_eq_ofNat
theorem hz_ln (n : Nat) : hz_l (n : Int) = lN n := Int64.ofInt_eq_ofNat
theorem hz_iT {z : Int} (h : -2147483648 ≤ z) (h2 : z < 2147483648) : (hz_i z).toInt = z := Int32.toInt_ofInt_of_le (by omega) (by omega)
theorem hz_lT {z : Int} (h : -9223372036854775808 ≤ z) (h2 : z < 9223372036854775808) : (hz_l z).toInt = z := Int64.toInt_ofInt_of_le (by omega) (by omega)
theorem hz_ia (a b : Int) : hz_i a + hz_i b = hz_i (a + b) := (Int32.ofInt_add a b).symm
theorem hz_is (a b : Int) : hz_i a - hz_i b = hz_i (a - b) := (Int32.ofInt_sub a b).symm
theorem hz_ig (a : Int) : -hz_i a = hz_i (-a) := Int32.neg_ofInt
theorem hz_la (a b : Int) : hz_l a + hz_l b = hz_l (a + b) := (Int64.ofInt_add a b).symm
theorem hz_ls (a b : Int) : hz_l a - hz_l b = hz_l (a - b) := (Int64.ofInt_sub a b).symm
theorem hz_lg (a : Int) : -hz_l a = hz_l (-a) := Int64.neg_ofInt
theorem hz_iLE {a b : Int} (ha : -2147483648 ≤ a ∧ a < 2147483648) (hb : -2147483648 ≤ b ∧ b < 2147483648) : hz_i a ≤ hz_i b ↔ a ≤ b := by
  rw [Int32.le_iff_toInt_le, hz_iT ha.1 ha.2, hz_iT hb.1 hb.2]
theorem hz_iLT {a b : Int} (ha : -2147483648 ≤ a ∧ a < 2147483648) (hb : -2147483648 ≤ b ∧ b < 2147483648) : hz_i a < hz_i b ↔ a < b := by
  rw [Int32.lt_iff_toInt_lt, hz_iT ha.1 ha.2, hz_iT hb.1 hb.2]
theorem hz_iEQ {a b : Int} (ha : -2147483648 ≤ a ∧ a < 2147483648) (hb : -2147483648 ≤ b ∧ b < 2147483648) : hz_i a = hz_i b ↔ a = b := by
  rw [← Int32.toInt_inj, hz_iT ha.1 ha.2, hz_iT hb.1 hb.2]
theorem hz_lLE {a b : Int} (ha : -9223372036854775808 ≤ a ∧ a < 9223372036854775808) (hb : -9223372036854775808 ≤ b ∧ b < 9223372036854775808) : hz_l a ≤ hz_l b ↔ a ≤ b := by
  rw [Int64.le_iff_toInt_le, hz_lT ha.1 ha.2, hz_lT hb.1 hb.2]
theorem hz_lLT {a b : Int} (ha : -9223372036854775808 ≤ a ∧ a < 9223372036854775808) (hb : -9223372036854775808 ≤ b ∧ b < 9223372036854775808) : hz_l a < hz_l b ↔ a < b := by
  rw [Int64.lt_iff_toInt_lt, hz_lT ha.1 ha.2, hz_lT hb.1 hb.2]
theorem hz_lEQ {a b : Int} (ha : -9223372036854775808 ≤ a ∧ a < 9223372036854775808) (hb : -9223372036854775808 ≤ b ∧ b < 9223372036854775808) : hz_l a = hz_l b ↔ a = b := by
  rw [← Int64.toInt_inj, hz_lT ha.1 ha.2, hz_lT hb.1 hb.2]
/-! a comparison decided by naturals, as truth values that the kernel reckons fast -/
theorem hf_bt {a b : Nat} (h : a < b) : Nat.blt a b = true := by rw [Nat.blt_eq]; exact h
theorem hf_bf {a b : Nat} (h : b ≤ a) : Nat.blt a b = false := by
  cases e : Nat.blt a b with
  | false => rfl
  | true => rw [Nat.blt_eq] at e; omega
theorem hf_et {a b : Nat} (h : a ≤ b) : Nat.ble a b = true := by rw [Nat.ble_eq]; exact h
theorem hf_ef {a b : Nat} (h : b < a) : Nat.ble a b = false := by
  cases e : Nat.ble a b with
  | false => rfl
  | true => rw [Nat.ble_eq] at e; omega
theorem hf_qt {a b : Nat} (h : a = b) : Nat.beq a b = true := by rw [Nat.beq_eq]; exact h
theorem hf_qf {a b : Nat} (h : a ≠ b) : Nat.beq a b = false := by
  cases e : Nat.beq a b with
  | false => rfl
  | true => rw [Nat.beq_eq] at e; exact absurd e h
/-! the amount of a pattern, in units of 2^-24 -/
def hf_A (p : Nat) : Nat := bif Nat.blt p 1024 then p else (1024 + p % 1024) * 2 ^ (p / 1024 - 1)
theorem hf_A_lo {p : Nat} (h : p < 1024) : hf_A p = p := by simp only [hf_A, hf_bt h, cond_true]
theorem hf_A_hi {p : Nat} (h : 1024 ≤ p) : hf_A p = (1024 + p % 1024) * 2 ^ (p / 1024 - 1) := by simp only [hf_A, hf_bf h, cond_false]
theorem hf_A_eq {E q : Nat} (h : E = 0 ∨ 1024 ≤ q) (hq : q ≤ 2048) : hf_A (E * 1024 + q) = q * 2 ^ E := by
  rcases Nat.lt_or_ge (E * 1024 + q) 1024 with h1 | h1
  · have e : E = 0 := by omega
    subst e
    rw [hf_A_lo h1]
    simp
  · rw [hf_A_hi h1]
    rcases Nat.lt_or_ge q 2048 with h2 | h2
    · have e1 : (E * 1024 + q) / 1024 - 1 = E := by omega
      have e2 : 1024 + (E * 1024 + q) % 1024 = q := by omega
      rw [e1, e2]
    · have e0 : q = 2048 := by omega
      subst e0
      have e1 : (E * 1024 + 2048) / 1024 - 1 = E + 1 := by omega
      have e2 : 1024 + (E * 1024 + 2048) % 1024 = 1024 := by omega
      rw [e1, e2, Nat.pow_succ]
      omega
theorem hf_dec (p : Nat) : ∃ E q, p = E * 1024 + q ∧ (E = 0 ∨ 1024 ≤ q) ∧ q < 2048 :=
  ⟨p / 1024 - 1, p - (p / 1024 - 1) * 1024, by omega, by omega, by omega⟩
theorem hf_A_lt (p : Nat) : hf_A p < hf_A (p + 1) := by
  obtain ⟨E, q, rfl, h, hq⟩ := hf_dec p
  rw [hf_A_eq h (by omega), Nat.add_assoc, hf_A_eq (by omega) (by omega), Nat.add_mul]
  have := Nat.two_pow_pos E
  omega
theorem hf_A_mono {p r : Nat} (h : p ≤ r) : hf_A p ≤ hf_A r := by
  induction h with
  | refl => exact Nat.le_refl _
  | step _ ih => exact Nat.le_trans ih (Nat.le_of_lt (hf_A_lt _))
theorem hf_A_top : hf_A 31744 = 1099511627776 := by decide +kernel
theorem hf_A_bd {p : Nat} (h : p ≤ 31744) : hf_A p ≤ 1099511627776 := by
  rw [← hf_A_top]
  exact hf_A_mono h
/-! u / l units, rounded to a pattern -/
def hf_E (w : Nat) : Nat := bif Nat.blt w 2048 then 0 else Nat.log2 w - 10
def hf_up (q r g : Nat) : Nat := bif Nat.blt g (2 * r) then 1 else bif Nat.beq (2 * r) g then q % 2 else 0
def hf_mn (a : Nat) : Nat := bif Nat.blt a 31744 then a else 31744
def hf_R2 (u g E : Nat) : Nat := hf_mn (E * 1024 + u / g + hf_up (u / g) (u % g) g)
def hf_R1 (u l E : Nat) : Nat := hf_R2 u (l * 2 ^ E) E
def hf_R (u l : Nat) : Nat := hf_R1 u l (hf_E (u / l))
theorem hf_mn_lo {a : Nat} (h : a ≤ 31744) : hf_mn a = a := by
  rcases Nat.lt_or_ge a 31744 with z | z
  · simp only [hf_mn, hf_bt z, cond_true]
  · simp only [hf_mn, hf_bf z, cond_false]
    omega
theorem hf_mn_hi {a : Nat} (h : 31744 ≤ a) : hf_mn a = 31744 := by simp only [hf_mn, hf_bf h, cond_false]
theorem hf_mn_le (a : Nat) : hf_mn a ≤ 31744 := by
  rcases Nat.lt_or_ge a 31744 with z | z
  · rw [hf_mn_lo (by omega)]; omega
  · rw [hf_mn_hi z]; omega
theorem hf_up_1 {q r g : Nat} (h : g < 2 * r) : hf_up q r g = 1 := by simp only [hf_up, hf_bt h, cond_true]
theorem hf_up_e {q r g : Nat} (h : 2 * r = g) : hf_up q r g = q % 2 := by
  simp only [hf_up, hf_bf (show 2 * r ≤ g by omega), hf_qt h, cond_true, cond_false]
theorem hf_up_0 {q r g : Nat} (h : 2 * r < g) : hf_up q r g = 0 := by
  simp only [hf_up, hf_bf (show 2 * r ≤ g by omega), hf_qf (show 2 * r ≠ g by omega), cond_false]
theorem hf_R_le (u l : Nat) : hf_R u l ≤ 31744 := hf_mn_le _
theorem hf_E_eq {w E q : Nat} (hE : E = 0 ∨ 1024 ≤ q) (hq : q < 2048) (e3 : w / 2 ^ E = q) : hf_E w = E := by
  have hp := Nat.two_pow_pos E
  have a1 : q * 2 ^ E ≤ w := by rw [← e3]; exact Nat.div_mul_le_self w (2 ^ E)
  have a2 : w < (q + 1) * 2 ^ E := (Nat.div_lt_iff_lt_mul hp).mp (by rw [e3]; exact Nat.lt_succ_self q)
  by_cases z : E = 0
  · subst z
    rw [Nat.pow_zero, Nat.mul_one] at a2
    simp only [hf_E, hf_bt (show w < 2048 by omega), cond_true]
  · have hE2 : 1024 ≤ q := by omega
    have b1 : 1024 * 2 ^ E ≤ q * 2 ^ E := Nat.mul_le_mul_right _ hE2
    have b2 : (q + 1) * 2 ^ E ≤ 2048 * 2 ^ E := Nat.mul_le_mul_right _ (by omega)
    have b3 : 2 ^ 1 ≤ 2 ^ E := Nat.pow_le_pow_right (by decide) (by omega)
    have c1 : 2 ^ (E + 10) = 1024 * 2 ^ E := by rw [Nat.pow_add]; omega
    have c2 : 2 ^ (E + 10 + 1) = 2048 * 2 ^ E := by rw [Nat.pow_succ, c1]; omega
    have e : w.log2 = E + 10 := (Nat.log2_eq_iff (by omega)).mpr ⟨by omega, by omega⟩
    simp only [hf_E, hf_bf (show 2048 ≤ w by omega), cond_false, e, Nat.add_sub_cancel]
theorem hf_R_eq {u l E q : Nat} (hE : E = 0 ∨ 1024 ≤ q) (hq : q < 2048) (h1 : q * (l * 2 ^ E) ≤ u) (h2 : u < (q + 1) * (l * 2 ^ E)) :
    hf_R u l = hf_mn (E * 1024 + q + hf_up q (u - q * (l * 2 ^ E)) (l * 2 ^ E)) := by
  have e1 : u / (l * 2 ^ E) = q := Nat.div_eq_of_lt_le h1 h2
  have e2 : u % (l * 2 ^ E) = u - q * (l * 2 ^ E) := by
    have := Nat.div_add_mod' u (l * 2 ^ E)
    rw [e1] at this
    exact Nat.eq_sub_of_add_eq ((Nat.add_comm _ _).trans this)
  have e3 : u / l / 2 ^ E = q := by rw [Nat.div_div_eq_div_mul, e1]
  simp only [hf_R, hf_E_eq hE hq e3, hf_R1, hf_R2, e1, e2]
theorem hf_R_big {u l : Nat} (h : 1099511627776 ≤ u / l) : hf_R u l = 31744 := by
  have hw : u / l ≠ 0 := by omega
  have h40 : 40 ≤ (u / l).log2 := (Nat.le_log2 hw).mpr (by omega)
  obtain ⟨E, hE⟩ : ∃ E, (u / l).log2 = E + 10 := ⟨(u / l).log2 - 10, by omega⟩
  have h2 : 2 ^ (E + 10) ≤ u / l := by
    have := Nat.log2_self_le hw
    rw [hE] at this
    exact this
  have h3 : 1024 ≤ u / (l * 2 ^ E) := by
    rw [← Nat.div_div_eq_div_mul]
    apply (Nat.le_div_iff_mul_le (Nat.two_pow_pos E)).mpr
    rw [Nat.pow_add] at h2
    omega
  have h4 : hf_E (u / l) = E := by simp only [hf_E, hf_bf (show 2048 ≤ u / l by omega), cond_false, hE, Nat.add_sub_cancel]
  simp only [hf_R, h4, hf_R1, hf_R2]
  exact hf_mn_hi (by omega)
theorem hf_R_zero {l : Nat} (hl : 0 < l) : hf_R 0 l = 0 := by
  rw [hf_R_eq (E := 0) (q := 0) (Or.inl rfl) (by decide) (by omega) (by omega), hf_up_0 (by omega)]
  exact hf_mn_lo (a := 0) (by decide)
/-! the component's rounding: amount, shift, and whether something is left below -/
theorem hf_x1 {u A q rest G P H W half ρ : Nat} (hP : 0 < P) (hG : G * P = H * W) (hH : H = 2 * half) (hA : A = q * H + rest) (hr : rest < H) (hu : u * P = A * W + ρ) (hρ : ρ < W) :
    q * G ≤ u ∧ u < (q + 1) * G ∧ (half < rest ∨ (rest = half ∧ 0 < ρ) → G < 2 * (u - q * G)) ∧ (rest = half → ρ = 0 → 2 * (u - q * G) = G) ∧ (rest < half → 2 * (u - q * G) < G) := by
  have e0 : A * W = q * G * P + rest * W := by rw [hA, Nat.mul_assoc q G P, hG, Nat.add_mul, Nat.mul_assoc]
  have e2 : (rest + 1) * W ≤ H * W := Nat.mul_le_mul_right W hr
  rw [Nat.add_mul, Nat.one_mul] at e2
  have c1 : q * G ≤ u := Nat.le_of_mul_le_mul_right (c := P) (by omega) hP
  obtain ⟨r, rfl⟩ : ∃ r, u = q * G + r := ⟨u - q * G, by omega⟩
  rw [Nat.add_mul] at hu
  have e3 : r * P = rest * W + ρ := by omega
  have e4 : r < G := Nat.lt_of_mul_lt_mul_right (a := P) (by omega)
  have e5 : H * W = 2 * (half * W) := by rw [hH, Nat.mul_assoc]
  have e6 : 2 * r * P = 2 * (r * P) := Nat.mul_assoc _ _ _
  rw [Nat.add_sub_cancel_left]
  refine ⟨c1, by rw [Nat.add_mul]; omega, fun h => ?_, fun h h2 => ?_, fun h => ?_⟩
  · apply Nat.lt_of_mul_lt_mul_right (a := P)
    rcases h with h | ⟨rfl, h⟩
    · have := Nat.mul_le_mul_right W (show half + 1 ≤ rest from h)
      rw [Nat.add_mul] at this
      omega
    · omega
  · subst h
    apply Nat.eq_of_mul_eq_mul_right hP
    omega
  · apply Nat.lt_of_mul_lt_mul_right (a := P)
    have := Nat.mul_le_mul_right W (show rest + 1 ≤ half from h)
    rw [Nat.add_mul] at this
    omega
theorem hf_X1v {u l A a b E q rest H half : Nat} {M : Prop} (hH : H = 2 * half) (hG : l * 2 ^ E * 2 ^ b = H * (l * 2 ^ a)) (hA : A = q * H + rest) (hr : rest < H) (h1 : A * (l * 2 ^ a) ≤ u * 2 ^ b) (h2 : u * 2 ^ b < (A + 1) * (l * 2 ^ a)) (hm : M ↔ u * 2 ^ b ≠ A * (l * 2 ^ a)) (hE : E = 0 ∨ 1024 ≤ q) (hq : q < 2048) :
    (half < rest ∨ (rest = half ∧ (M ∨ q % 2 = 1)) → hf_R u l = hf_mn (E * 1024 + (q + 1))) ∧
    (¬ (half < rest ∨ (rest = half ∧ (M ∨ q % 2 = 1))) → hf_R u l = hf_mn (E * 1024 + q)) := by
  rw [Nat.add_mul, Nat.one_mul] at h2
  obtain ⟨ρ, hu⟩ : ∃ ρ, u * 2 ^ b = A * (l * 2 ^ a) + ρ := ⟨u * 2 ^ b - A * (l * 2 ^ a), by omega⟩
  have hρ : ρ < l * 2 ^ a := by omega
  have hm2 : M ↔ 0 < ρ := hm.trans ⟨fun h => by omega, fun h => by omega⟩
  obtain ⟨c1, c2, c3, c4, c5⟩ := hf_x1 (Nat.two_pow_pos b) hG hH hA hr hu hρ
  rw [hf_R_eq hE hq c1 c2]
  constructor
  · intro h
    rcases h with h | ⟨h, h'⟩
    · rw [hf_up_1 (c3 (Or.inl h)), Nat.add_assoc]
    · rcases Nat.eq_zero_or_pos ρ with z | z
      · have h3 : q % 2 = 1 := by
          rcases h' with h' | h'
          · have := hm2.mp h'
            omega
          · exact h'
        rw [hf_up_e (c4 h z), h3, Nat.add_assoc]
      · rw [hf_up_1 (c3 (Or.inr ⟨h, z⟩)), Nat.add_assoc]
  · intro h
    rcases Nat.lt_trichotomy rest half with z | z | z
    · rw [hf_up_0 (c5 z), Nat.add_zero]
    · have h3 : ¬ M := fun k => h (Or.inr ⟨z, Or.inl k⟩)
      have h4 : ¬ q % 2 = 1 := fun k => h (Or.inr ⟨z, Or.inr k⟩)
      have h5 : ρ = 0 := by
        rcases Nat.eq_zero_or_pos ρ with y | y
        · exact y
        · exact absurd (hm2.mpr y) h3
      rw [hf_up_e (c4 z h5), show q % 2 = 0 by omega, Nat.add_zero]
    · exact absurd (Or.inl z) h
theorem hf_X1 {u l A a b E sh : Nat} {M : Prop} (hs : 0 < sh) (hab : E + b = sh + a) (h1 : A * (l * 2 ^ a) ≤ u * 2 ^ b) (h2 : u * 2 ^ b < (A + 1) * (l * 2 ^ a)) (hm : M ↔ u * 2 ^ b ≠ A * (l * 2 ^ a)) (hE : E = 0 ∨ 1024 ≤ A / 2 ^ sh) (hq : A / 2 ^ sh < 2048) :
    (2 ^ (sh - 1) < A % 2 ^ sh ∨ (A % 2 ^ sh = 2 ^ (sh - 1) ∧ (M ∨ A / 2 ^ sh % 2 = 1)) → hf_R u l = hf_mn (E * 1024 + (A / 2 ^ sh + 1))) ∧
    (¬ (2 ^ (sh - 1) < A % 2 ^ sh ∨ (A % 2 ^ sh = 2 ^ (sh - 1) ∧ (M ∨ A / 2 ^ sh % 2 = 1))) → hf_R u l = hf_mn (E * 1024 + A / 2 ^ sh)) := by
  have hH : 2 ^ sh = 2 * 2 ^ (sh - 1) := by
    obtain ⟨t, rfl⟩ : ∃ t, sh = t + 1 := ⟨sh - 1, by omega⟩
    rw [Nat.add_sub_cancel, Nat.pow_succ, Nat.mul_comm]
  have hG : l * 2 ^ E * 2 ^ b = 2 ^ sh * (l * 2 ^ a) := by
    rw [Nat.mul_assoc, ← Nat.pow_add, hab, Nat.pow_add, Nat.mul_left_comm]
  exact hf_X1v hH hG (Nat.div_add_mod' A (2 ^ sh)).symm (Nat.mod_lt A (Nat.two_pow_pos sh)) h1 h2 hm hE hq
theorem hf_X0 {u l A a b E t : Nat} (hl : 0 < l) (hab : E + t + b = a) (h : u * 2 ^ b = A * (l * 2 ^ a)) (hE : E = 0 ∨ 1024 ≤ A * 2 ^ t) (hq : A * 2 ^ t < 2048) :
    hf_R u l = hf_mn (E * 1024 + A * 2 ^ t) := by
  have hu : u = A * 2 ^ t * (l * 2 ^ E) := by
    apply Nat.eq_of_mul_eq_mul_right (Nat.two_pow_pos b)
    rw [h, ← hab, Nat.pow_add, Nat.pow_add]
    simp only [Nat.mul_assoc, Nat.mul_comm, Nat.mul_left_comm]
  have hG : 0 < l * 2 ^ E := Nat.mul_pos hl (Nat.two_pow_pos E)
  rw [hf_R_eq hE hq (by omega) (by rw [Nat.add_mul]; omega), hu, Nat.sub_self, hf_up_0 (by omega), Nat.add_zero]
theorem hf_pw_lt {A L t m : Nat} (h : A < 2 ^ L) (h2 : L + t ≤ m) : A * 2 ^ t < 2 ^ m :=
  Nat.lt_of_lt_of_le (Nat.mul_lt_mul_of_pos_right h (Nat.two_pow_pos t)) (by rw [← Nat.pow_add]; exact Nat.pow_le_pow_right (by decide) h2)
theorem hf_pw_ge {A k t m : Nat} (h : 2 ^ k ≤ A) (h2 : m ≤ k + t) : 2 ^ m ≤ A * 2 ^ t :=
  Nat.le_trans (Nat.pow_le_pow_right (by decide) h2) (by rw [Nat.pow_add]; exact Nat.mul_le_mul_right _ h)
theorem hf_dv_lt {A L sh m : Nat} (h : A < 2 ^ L) (h2 : L ≤ m + sh) : A / 2 ^ sh < 2 ^ m :=
  (Nat.div_lt_iff_lt_mul (Nat.two_pow_pos sh)).mpr (Nat.lt_of_lt_of_le h (by rw [← Nat.pow_add]; exact Nat.pow_le_pow_right (by decide) h2))
theorem hf_dv_ge {A k sh m : Nat} (h : 2 ^ k ≤ A) (h2 : m + sh ≤ k) : 2 ^ m ≤ A / 2 ^ sh :=
  (Nat.le_div_iff_mul_le (Nat.two_pow_pos sh)).mpr (Nat.le_trans (by rw [← Nat.pow_add]; exact Nat.pow_le_pow_right (by decide) h2) h)
theorem hf_sel {A L E : Nat} {s sf : Int} (hL : 2 ^ (L - 1) ≤ A) (hL2 : A < 2 ^ L) (h1 : 1 ≤ L)
    (hc : ((L : Int) - 11 + s < -24 ∧ E = 0 ∧ sf = -24 - s) ∨ (-24 ≤ (L : Int) - 11 + s ∧ (E : Int) = L - 11 + s + 24 ∧ sf = L - 11)) :
    (∀ t : Nat, sf = -(t : Int) → (E = 0 ∨ 1024 ≤ A * 2 ^ t) ∧ A * 2 ^ t < 2048) ∧ (∀ sh : Nat, sf = (sh : Int) → (E = 0 ∨ 1024 ≤ A / 2 ^ sh) ∧ A / 2 ^ sh < 2048) := by
  refine ⟨fun t ht => ?_, fun sh hs => ?_⟩
  · rcases hc with ⟨c1, c2, c3⟩ | ⟨c1, c2, c3⟩
    · exact ⟨Or.inl c2, hf_pw_lt (m := 11) hL2 (by omega)⟩
    · exact ⟨Or.inr (hf_pw_ge (m := 10) hL (by omega)), hf_pw_lt (m := 11) hL2 (by omega)⟩
  · rcases hc with ⟨c1, c2, c3⟩ | ⟨c1, c2, c3⟩
    · exact ⟨Or.inl c2, hf_dv_lt (m := 11) hL2 (by omega)⟩
    · exact ⟨Or.inr (hf_dv_ge (m := 10) hL (by omega)), hf_dv_lt (m := 11) hL2 (by omega)⟩
theorem hf_shz {A i : Nat} (hA : A ≠ 0) : A / 2 ^ i = 0 ↔ A.log2 + 1 ≤ i := by
  rw [show A.log2 + 1 ≤ i ↔ A.log2 < i from Iff.rfl, Nat.log2_lt hA]
  constructor
  · intro h
    have := (Nat.div_lt_iff_lt_mul (Nat.two_pow_pos i)).mp (show A / 2 ^ i < 1 by omega)
    omega
  · exact Nat.div_eq_of_lt
theorem hf_L1 {A : Nat} (hA : A ≠ 0) : 2 ^ (A.log2 + 1 - 1) ≤ A := by rw [Nat.add_sub_cancel]; exact Nat.log2_self_le hA
theorem hf_L2 (A : Nat) : A < 2 ^ (A.log2 + 1) := Nat.lt_log2_self
theorem hf_L3 {A m : Nat} (hA : A ≠ 0) (h : A < 2 ^ m) : A.log2 + 1 ≤ m := (Nat.log2_lt hA).mpr h
theorem hf_L4 {A m : Nat} (hA : A ≠ 0) (h : 2 ^ m ≤ A) : m + 1 ≤ A.log2 + 1 := Nat.succ_le_succ ((Nat.le_log2 hA).mpr h)
/-! shifts of longs by ints -/
theorem hz_shr {n k : Nat} (hn : n < 2 ^ 62) (hk : k < 64) : lN n >>> ((nI k).toInt64 &&& 63) = lN (n / 2 ^ k) := by
  rw [wb_c k hk]
  exact pf_shr (by rw [wb_tb, wb_sm k hk, BitVec.toNat_ofNat]; omega) hn
/-! the decimal numbers: d * 10^n, d / 10^n -/
theorem hf_R_dec_big {d i x : Nat} (h : i ≤ x) (hv : 100000 ≤ d * 10 ^ i) : hf_R (d * 10 ^ x * 16777216) 1 = 31744 := by
  apply hf_R_big
  rw [Nat.div_one]
  have h1 : d * 10 ^ i ≤ d * 10 ^ x := Nat.mul_le_mul_left d (Nat.pow_le_pow_right (by decide) h)
  omega
theorem hf_R_40 : hf_R 1099511627776 1 = 31744 := hf_R_big (by decide)
/-! whole roots -/
theorem hf_rt_un {r s v : Nat} (h1 : r * r ≤ v) (h2 : v < (r + 1) * (r + 1)) (h3 : s * s ≤ v) (h4 : v < (s + 1) * (s + 1)) : r = s := by
  have a : r < s + 1 := Nat.mul_self_lt_mul_self_iff.mp (Nat.lt_of_le_of_lt h1 h4)
  have b : s < r + 1 := Nat.mul_self_lt_mul_self_iff.mp (Nat.lt_of_le_of_lt h3 h2)
  omega
/-! the reference's rounding: the pattern below, the gap above it, twice what is left -/
theorem hf_N {u l low w r a0 a1 : Nat} (hu : w * l + r = u) (hr : r < l) (hlow : low < 31744) (ha0 : hf_A low = a0) (ha1 : hf_A (low + 1) = a1) (h1 : a0 ≤ w) (h2 : w < a1) :
    (2 * (w - a0) * l + 2 * r = (a1 - a0) * l → hf_R u l = low + low % 2) ∧ ((a1 - a0) * l < 2 * (w - a0) * l + 2 * r → hf_R u l = low + 1) ∧ (2 * (w - a0) * l + 2 * r < (a1 - a0) * l → hf_R u l = low) ∧ 2 * (w - a0) * l + 2 * r ≤ 2 * u ∧ ((a1 - a0) * l ≤ l ∨ (a1 - a0) * l ≤ u) := by
  obtain ⟨E, q, rfl, hE, hq⟩ := hf_dec low
  have g0 : a0 = q * 2 ^ E := by rw [← ha0, hf_A_eq hE (by omega)]
  have g1 : a1 = q * 2 ^ E + 2 ^ E := by rw [← ha1, Nat.add_assoc, hf_A_eq (by omega) (by omega), Nat.add_mul, Nat.one_mul]
  have k1 : (a1 - a0) * l = l * 2 ^ E := by rw [g1, g0, Nat.add_sub_cancel_left, Nat.mul_comm]
  obtain ⟨d, hd⟩ : ∃ d, w = a0 + d := ⟨w - a0, by omega⟩
  have k2 : w * l = q * (l * 2 ^ E) + d * l := by rw [hd, g0, Nat.add_mul, Nat.mul_assoc, Nat.mul_comm (2 ^ E) l]
  have k3 : 2 * (w - a0) * l = 2 * (d * l) := by rw [hd, Nat.add_sub_cancel_left, Nat.mul_assoc]
  have k4 : (d + 1) * l ≤ 2 ^ E * l := Nat.mul_le_mul_right l (by omega)
  rw [Nat.add_mul, Nat.one_mul, Nat.mul_comm (2 ^ E) l] at k4
  have c1 : q * (l * 2 ^ E) ≤ u := by omega
  have c2 : u < (q + 1) * (l * 2 ^ E) := by rw [Nat.add_mul]; omega
  have k5 : u - q * (l * 2 ^ E) = d * l + r := by omega
  rw [hf_R_eq hE hq c1 c2, k1, k3, k5]
  refine ⟨fun h => ?_, fun h => ?_, fun h => ?_, ?_, ?_⟩
  · rw [hf_up_e (by omega), hf_mn_lo (by omega)]
    omega
  · rw [hf_up_1 (by omega), hf_mn_lo (by omega)]
  · rw [hf_up_0 (by omega), hf_mn_lo (by omega), Nat.add_zero]
  · omega
  · by_cases z : E = 0
    · left
      subst z
      simp
    · right
      have := Nat.mul_le_mul_right (l * 2 ^ E) (show 1 ≤ q by omega)
      omega
/-! quotients -/
theorem hf_q1 {x y a b : Nat} (hy : 0 < y) : x * 2 ^ b / y * (y * 2 ^ a) ≤ x * 2 ^ a * 2 ^ b ∧ x * 2 ^ a * 2 ^ b < (x * 2 ^ b / y + 1) * (y * 2 ^ a) ∧ (x * 2 ^ b / y * y ≠ x * 2 ^ b ↔ x * 2 ^ a * 2 ^ b ≠ x * 2 ^ b / y * (y * 2 ^ a)) := by
  have hp := Nat.two_pow_pos a
  have e1 := Nat.div_mul_le_self (x * 2 ^ b) y
  have e2 := Nat.lt_mul_of_div_lt (Nat.lt_succ_self (x * 2 ^ b / y)) hy
  have e3 : x * 2 ^ a * 2 ^ b = x * 2 ^ b * 2 ^ a := by rw [Nat.mul_assoc, Nat.mul_comm (2 ^ a), ← Nat.mul_assoc]
  rw [e3, ← Nat.mul_assoc, ← Nat.mul_assoc]
  refine ⟨Nat.mul_le_mul_right _ e1, Nat.mul_lt_mul_of_pos_right e2 hp, ?_⟩
  constructor
  · intro h h2
    exact h (Nat.eq_of_mul_eq_mul_right hp h2.symm)
  · intro h h2
    exact h (by rw [h2])
/-! a search by halves -/
theorem hb_search (W : Nat → Nat → Nat → Prop) (f : Nat → Nat) (w B : Nat) (hx : ∀ n lo, lo ≤ B → f lo ≤ w → w < f (lo + 1) → W (n + 1) lo lo)
    (hs : ∀ n lo hi, lo < hi → hi ≤ B → (f ((lo + hi + 1) / 2) ≤ w → W n ((lo + hi + 1) / 2) hi) → (w < f ((lo + hi + 1) / 2) → W n lo ((lo + hi + 1) / 2 - 1)) → W (n + 1) lo hi) :
    ∀ d lo hi, hi - lo ≤ d → lo ≤ hi → hi ≤ B → f lo ≤ w → w < f (hi + 1) → W (d + 1) lo hi := by
  intro d
  induction d with
  | zero =>
    intro lo hi h1 h2 hB h3 h4
    have e : lo = hi := by omega
    subst e
    exact hx 0 lo hB h3 h4
  | succ d ih =>
    intro lo hi h1 h2 hB h3 h4
    rcases Nat.eq_or_lt_of_le h2 with z | z
    · subst z
      exact hx _ lo hB h3 h4
    · exact hs (d + 1) lo hi z hB (fun h => ih _ hi (by omega) (by omega) hB h h4)
        (fun h => ih lo _ (by omega) (by omega) (by omega) h3 (by rw [show (lo + hi + 1) / 2 - 1 + 1 = (lo + hi + 1) / 2 by omega]; exact h))
theorem hf_rt_step {w v i : Nat} (h : v < (w + 2 ^ (i + 1)) * (w + 2 ^ (i + 1))) : v < (w + 2 ^ i + 2 ^ i) * (w + 2 ^ i + 2 ^ i) := by
  have e : w + 2 ^ (i + 1) = w + 2 ^ i + 2 ^ i := by rw [Nat.pow_succ]; omega
  rw [← e]
  exact h
theorem hf_rtP {r δ P : Nat} (hP : 0 < P) (hδ : δ ≤ 1) : r * (P * 2) ≤ (2 * r + δ) * P ∧ (2 * r + δ) * P < (r + 1) * (P * 2) ∧ (δ ≠ 0 ↔ (2 * r + δ) * P ≠ r * (P * 2)) := by
  have e1 : r * (P * 2) = 2 * (r * P) := by rw [← Nat.mul_assoc, Nat.mul_comm]
  have e2 : (2 * r + δ) * P = 2 * (r * P) + δ * P := by rw [Nat.add_mul, Nat.mul_assoc]
  have e3 : (r + 1) * (P * 2) = 2 * (r * P) + 2 * P := by rw [Nat.add_mul, e1]; omega
  rw [e1, e2, e3]
  rcases (show δ = 0 ∨ δ = 1 by omega) with rfl | rfl
  · exact ⟨by omega, by omega, ⟨fun h => by omega, fun h => by omega⟩⟩
  · exact ⟨by omega, by omega, ⟨fun h => by omega, fun h => by omega⟩⟩
