section
/-! rows of kit/rows, pasted -/
theorem pk_sub {a b : Nat} (h : b ≤ a) : nI a - nI b = nI (a - b) := by
  obtain ⟨c, rfl⟩ : ∃ c, a = c + b := ⟨a - b, by omega⟩
  rw [← nI_add, Int32.add_sub_cancel, Nat.add_sub_cancel]
theorem pk_m1 (n : Nat) : nI (n + 1) + (-1) = nI n := by
  rw [← nI_1, Int32.add_assoc, show (1 : Int32) + (-1) = 0 from rfl, Int32.add_zero]
theorem pk_mul (a b : Nat) : nI a * nI b = nI (a * b) := (Int32.ofNat_mul a b).symm
theorem pk_div {a d : Nat} (ha : a < 2 ^ 31) (h0 : 0 < d) (hd : d < 2 ^ 31) : nI a / nI d = nI (a / d) := by
  apply Int32.toInt_inj.mp
  rw [lg_idiv_nonneg (by rw [nI_toInt ha]; omega) (by rw [nI_toInt hd]; omega), nI_toInt ha, nI_toInt hd, nI_toInt (Nat.lt_of_le_of_lt (Nat.div_le_self a d) ha)]
  first | rfl | exact (Int.natCast_ediv _ _).symm
theorem pk_rem {a d : Nat} (ha : a < 2 ^ 31) (h0 : 0 < d) (hd : d < 2 ^ 31) : nI a - nI a / nI d * nI d = nI (a % d) := by
  rw [pk_div ha h0 hd, pk_mul, pk_sub (Nat.div_mul_le_self a d)]
  exact congrArg nI (by have := Nat.div_add_mod' a d; omega)
theorem pk_sub_toInt {a b : Nat} (ha : a < 2 ^ 30) (hb : b < 2 ^ 30) : (nI a - nI b).toInt = (a : Int) - b := by
  rw [Int32.toInt_sub, nI_toInt (by omega), nI_toInt (by omega)]
  exact Int.bmod_eq_of_le (by omega) (by omega)
theorem pk_sneg {a b : Nat} (hb : b < 2 ^ 30) (h : a < b) : nI a - nI b < 0 := by
  rw [Int32.lt_iff_toInt_lt, pk_sub_toInt (by omega) hb, show (0 : Int32).toInt = 0 from by decide]
  omega
theorem pk_ix (x : Int32) {n : Nat} (hn : n < 2 ^ 31) : x < 0 ∨ nI n ≤ x ∨ ∃ j : Nat, j < n ∧ x = nI j := by
  by_cases h : x < 0
  · exact Or.inl h
  · obtain ⟨j, hj, rfl⟩ := nI_of h
    by_cases h2 : j < n
    · exact Or.inr (Or.inr ⟨j, h2, rfl⟩)
    · exact Or.inr (Or.inl (nI_le (by omega) hj))
theorem pk_le {x y : Int32} {A B : Prop} (a b : Nat) (f : a ≤ b → A) (g : b < a → B) (hx : x = nI a := by rfl) (hy : y = nI b := by rfl) (ha : a < 2 ^ 31 := by omega) (hb : b < 2 ^ 31 := by omega) : (x ≤ y → A) ∧ (¬ x ≤ y → B) := by
  subst hx hy
  rw [nI_leI ha hb]
  exact ⟨f, fun z => g (by omega)⟩
theorem pk_lt {x y : Int32} {A B : Prop} (a b : Nat) (f : a < b → A) (g : b ≤ a → B) (hx : x = nI a := by rfl) (hy : y = nI b := by rfl) (ha : a < 2 ^ 31 := by omega) (hb : b < 2 ^ 31 := by omega) : (x < y → A) ∧ (¬ x < y → B) := by
  subst hx hy
  rw [nI_ltI ha hb]
  exact ⟨f, fun z => g (by omega)⟩
theorem pk_eq {x y : Int32} {A B : Prop} (a b : Nat) (f : a = b → A) (g : a ≠ b → B) (hx : x = nI a := by rfl) (hy : y = nI b := by rfl) (ha : a < 2 ^ 31 := by omega) (hb : b < 2 ^ 31 := by omega) : (x = y → A) ∧ (¬ x = y → B) := by
  subst hx hy
  rw [nI_eq ha hb]
  exact ⟨f, g⟩
theorem pk_in {x : Int32} (n N : Nat) (h : n < N) (hx : x = nI n := by rfl) (hN : N < 2 ^ 31 := by omega) : vp_in x N := by
  subst hx
  exact vp_in_nI h hN
theorem pk_cl {x : Int32} (n : Nat) (hx : x = nI n := by rfl) (h : n < 2 ^ 31 := by omega) : x.toNatClampNeg = n := by
  subst hx
  exact nI_clamp h
theorem pk_tn {n : Nat} (h : n < 2 ^ 32) : (nI n).toBitVec.toNat = n := Nat.mod_eq_of_lt h
theorem pk_and (x : Int32) {m : Int32} (k : Nat) (hm : m.toBitVec.toNat = 2 ^ k - 1) : x &&& m = nI (x.toBitVec.toNat % 2 ^ k) := by
  apply Int32.toBitVec_inj.mp
  apply BitVec.eq_of_toNat_eq
  rw [Int32.toBitVec_and, BitVec.toNat_and, hm, Nat.and_two_pow_sub_one_eq_mod]
  show _ = (BitVec.ofNat 32 _).toNat
  rw [BitVec.toNat_ofNat]
  exact (Nat.mod_eq_of_lt (Nat.lt_of_le_of_lt (Nat.mod_le _ _) x.toBitVec.isLt)).symm
theorem pk_andN {n : Nat} (h : n < 2 ^ 32) {m : Int32} (k : Nat) (hm : m.toBitVec.toNat = 2 ^ k - 1) : nI n &&& m = nI (n % 2 ^ k) := by
  rw [pk_and _ k hm, pk_tn h]
theorem pk_andE (x : Int32) {m : Int32} (k : Nat) (hm : m.toBitVec.toNat = 2 ^ k - 1) : ∃ j : Nat, j < 2 ^ k ∧ x &&& m = nI j := ⟨_, Nat.mod_lt _ (Nat.two_pow_pos k), pk_and x k hm⟩
theorem pk_andIn (x : Int32) {m : Int32} (k : Nat) (hm : m.toBitVec.toNat = 2 ^ k - 1) (hk : k ≤ 30) : vp_in (x &&& m) (2 ^ k) := by
  obtain ⟨j, hj, e⟩ := pk_andE x k hm
  rw [e]
  exact vp_in_nI hj (Nat.lt_of_le_of_lt (Nat.pow_le_pow_right (by decide) hk) (by decide))
theorem pk_shl (a s : Int32) (k : Nat) (hs : (s.toBitVec.smod 32).toNat = k) : (a <<< s).toBitVec.toNat = a.toBitVec.toNat * 2 ^ k % 2 ^ 32 := by
  show (a.toBitVec <<< (s.toBitVec.smod 32).toNat).toNat = _
  rw [hs, BitVec.toNat_shiftLeft, Nat.shiftLeft_eq]
theorem pk_shlN {n : Nat} (s : Int32) (k : Nat) (hs : (s.toBitVec.smod 32).toNat = k) (h : n * 2 ^ k < 2 ^ 32) : nI n <<< s = nI (n * 2 ^ k) := by
  apply Int32.toBitVec_inj.mp
  apply BitVec.eq_of_toNat_eq
  have hn : n < 2 ^ 32 := Nat.lt_of_le_of_lt (Nat.le_mul_of_pos_right n (Nat.two_pow_pos k)) h
  rw [pk_shl _ _ k hs, pk_tn hn, pk_tn h, Nat.mod_eq_of_lt h]
theorem pk_shr (a s : Int32) (k : Nat) (hs : (s.toBitVec.smod 32).toNat = k) : (a >>> s).toInt = a.toInt >>> k := by
  show (a.toBitVec.sshiftRight (s.toBitVec.smod 32).toNat).toInt = _
  rw [hs, BitVec.toInt_sshiftRight]
  rfl
theorem pk_shrN {n : Nat} (h : n < 2 ^ 31) (s : Int32) (k : Nat) (hs : (s.toBitVec.smod 32).toNat = k) : nI n >>> s = nI (n / 2 ^ k) := by
  apply Int32.toInt_inj.mp
  have h2 : n / 2 ^ k ≤ n := Nat.div_le_self _ _
  rw [pk_shr _ _ k hs, nI_toInt h, nI_toInt (by omega), Int.shiftRight_eq_div_pow]
  rfl
theorem pk_ushr (x s : Int32) (k : Nat) (hs : ((s.toUInt32 &&& Int32.toUInt32 31).toBitVec % 32).toNat = k) : (x.toUInt32 >>> (s.toUInt32 &&& Int32.toUInt32 31)).toInt32.toBitVec.toNat = x.toBitVec.toNat / 2 ^ k := by
  have e : (x.toUInt32 >>> (s.toUInt32 &&& Int32.toUInt32 31)).toInt32.toBitVec = x.toBitVec >>> k := by
    rw [← hs]
    exact UInt32.toBitVec_shiftRight _ _
  rw [e, BitVec.toNat_ushiftRight, Nat.shiftRight_eq_div_pow]
theorem pk_ushrN {n : Nat} (hn : n < 2 ^ 32) (s : Int32) (k : Nat) (hs : ((s.toUInt32 &&& Int32.toUInt32 31).toBitVec % 32).toNat = k) : ((nI n).toUInt32 >>> (s.toUInt32 &&& Int32.toUInt32 31)).toInt32 = nI (n / 2 ^ k) := by
  apply Int32.toBitVec_inj.mp
  apply BitVec.eq_of_toNat_eq
  rw [pk_ushr _ s k hs, pk_tn hn, pk_tn (Nat.lt_of_le_of_lt (Nat.div_le_self _ _) hn)]
theorem pk_lT {n : Nat} (h : n < 2 ^ 63) : (lN n).toInt = (n : Int) := lg_ofNat_toInt h
theorem pk_lLT {a b : Nat} (ha : a < 2 ^ 63) (hb : b < 2 ^ 63) : lN a < lN b ↔ a < b := by
  rw [Int64.lt_iff_toInt_lt, pk_lT ha, pk_lT hb]; omega
theorem pk_lLE {a b : Nat} (ha : a < 2 ^ 63) (hb : b < 2 ^ 63) : lN a ≤ lN b ↔ a ≤ b := by
  rw [Int64.le_iff_toInt_le, pk_lT ha, pk_lT hb]; omega
theorem pk_lEQ {a b : Nat} (ha : a < 2 ^ 63) (hb : b < 2 ^ 63) : lN a = lN b ↔ a = b := by
  rw [← Int64.toInt_inj, pk_lT ha, pk_lT hb]; omega
theorem pk_lOf {x : Int64} (h : ¬ x < 0) : ∃ k : Nat, k < 2 ^ 63 ∧ x = lN k := by
  rw [Int64.lt_iff_toInt_lt] at h
  have h0 : (0 : Int64).toInt = 0 := by decide
  have hx := Int64.toInt_lt x
  refine ⟨x.toInt.toNat, by omega, Int64.toInt_inj.mp ?_⟩
  rw [pk_lT (by omega)]
  omega
theorem pk_lDiv {a b : Nat} (ha : a < 2 ^ 63) (h0 : 0 < b) (hb : b < 2 ^ 63) : lN a / lN b = lN (a / b) := by
  apply Int64.toInt_inj.mp
  rw [lg_ldiv_nonneg (by rw [pk_lT ha]; omega) (by rw [pk_lT hb]; omega), pk_lT ha, pk_lT hb, pk_lT (Nat.lt_of_le_of_lt (Nat.div_le_self a b) ha)]
  rfl
theorem pk_lRem {a b : Nat} (ha : a < 2 ^ 63) (h0 : 0 < b) (hb : b < 2 ^ 63) : lN a - lN a / lN b * lN b = lN (a % b) := by
  rw [pk_lDiv ha h0 hb, lN_mul, lN_sub (Nat.div_mul_le_self a b)]
  exact congrArg lN (by have := Nat.div_add_mod' a b; omega)
theorem pk_loop {σ : Type} (W : Nat → Nat → σ → Prop) (I : Nat → σ → Prop) (e i0 : Nat) (s : σ) (hi : i0 ≤ e) (h0 : I i0 s) (hx : ∀ n s, I e s → W (n + 1) e s)
    (hs : ∀ n i s, i < e → I i s → (∀ s', I (i + 1) s' → W n (i + 1) s') → W (n + 1) i s) : ∃ n, W n i0 s :=
  ⟨e + 1, loop_i W I e hx hs (e + 1) i0 s hi (by omega) h0⟩
theorem pk_loopD {σ : Type} (W : Nat → Nat → σ → Prop) (I : Nat → σ → Prop) (hx : ∀ n s, I 0 s → W (n + 1) 0 s)
    (hs : ∀ n i s, I (i + 1) s → (∀ s', I i s' → W n i s') → W (n + 1) (i + 1) s) : ∀ (e : Nat) (s : σ), I e s → W (e + 1) e s := by
  intro e
  induction e with
  | zero => exact fun s h => hx 0 s h
  | succ e ih => exact fun s h => hs (e + 1) e s h (fun s' h' => ih s' h')
theorem lp1 {A1 : Type} (W : Nat → A1 → Prop) (I : A1 → Prop) (μ : A1 → Nat) (hs : ∀ (n : Nat) (a1 : A1), I a1 → (∀ (b1 : A1), I b1 → μ b1 < μ a1 → W n b1) → W (n + 1) a1) (a1 : A1) (h : I a1) : ∃ n, W n a1 :=
  loop_m (σ := A1) (fun n s => W n s) (fun s => I s) (fun s => μ s) (fun n s hI hk => hs n s hI (fun b1 h9 hm => hk b1 h9 hm)) a1 h
theorem lp2 {A1 A2 : Type} (W : Nat → A1 → A2 → Prop) (I : A1 → A2 → Prop) (μ : A1 → A2 → Nat) (hs : ∀ (n : Nat) (a1 : A1) (a2 : A2), I a1 a2 → (∀ (b1 : A1) (b2 : A2), I b1 b2 → μ b1 b2 < μ a1 a2 → W n b1 b2) → W (n + 1) a1 a2) (a1 : A1) (a2 : A2) (h : I a1 a2) : ∃ n, W n a1 a2 :=
  loop_m (σ := A1 × A2) (fun n s => W n s.1 s.2) (fun s => I s.1 s.2) (fun s => μ s.1 s.2) (fun n s hI hk => hs n s.1 s.2 hI (fun b1 b2 h9 hm => hk (b1, b2) h9 hm)) (a1, a2) h
theorem lp3 {A1 A2 A3 : Type} (W : Nat → A1 → A2 → A3 → Prop) (I : A1 → A2 → A3 → Prop) (μ : A1 → A2 → A3 → Nat) (hs : ∀ (n : Nat) (a1 : A1) (a2 : A2) (a3 : A3), I a1 a2 a3 → (∀ (b1 : A1) (b2 : A2) (b3 : A3), I b1 b2 b3 → μ b1 b2 b3 < μ a1 a2 a3 → W n b1 b2 b3) → W (n + 1) a1 a2 a3) (a1 : A1) (a2 : A2) (a3 : A3) (h : I a1 a2 a3) : ∃ n, W n a1 a2 a3 :=
  loop_m (σ := A1 × A2 × A3) (fun n s => W n s.1 s.2.1 s.2.2) (fun s => I s.1 s.2.1 s.2.2) (fun s => μ s.1 s.2.1 s.2.2) (fun n s hI hk => hs n s.1 s.2.1 s.2.2 hI (fun b1 b2 b3 h9 hm => hk (b1, b2, b3) h9 hm)) (a1, a2, a3) h
theorem ek_if {c d A B : Prop} (e : c ↔ d) (f : d → A) (g : ¬ d → B) : (c → A) ∧ (¬ c → B) :=
  ⟨fun z => f (e.mp z), fun z => g (fun y => z (e.mpr y))⟩
theorem ek_v {α : Sort _} {P : α → Prop} {a b : α} (e : a = b) (h : P b) : P a := e ▸ h
theorem pk_mu {x : Int32} {L : Nat} (h0 : ¬ x < 0) (h : ¬ nI L ≤ x) (hL : L < 2 ^ 31) : ∃ j : Nat, j < L ∧ x = nI j ∧ x + 1 = nI (j + 1) ∧ x.toNatClampNeg = j ∧ L - (x + 1).toNatClampNeg < L - x.toNatClampNeg := by
  obtain ⟨j, hj, rfl⟩ := nI_of h0
  have hl : j < L := Nat.not_le.mp fun q => h (nI_le q hj)
  refine ⟨j, hl, rfl, nI_1 j, nI_clamp hj, ?_⟩
  rw [nI_1, nI_clamp (by omega), nI_clamp hj]
  omega
theorem wb_tb (n : Nat) : (lN n).toBitVec = BitVec.ofNat 64 n := rfl
theorem wb_inj {a b : Int64} (h : a.toBitVec = b.toBitVec) : a = b := Int64.toBitVec_inj.mp h
theorem wb_tn {n : Nat} (h : n < 2 ^ 64) : (lN n).toBitVec.toNat = n := by rw [wb_tb, BitVec.toNat_ofNat, Nat.mod_eq_of_lt h]
theorem wb_of (x : Int64) : ∃ n, n < 2 ^ 64 ∧ x = lN n := ⟨x.toBitVec.toNat, x.toBitVec.isLt, wb_inj (by rw [wb_tb]; simp)⟩
theorem wb_of32 (x : Int32) : ∃ n, n < 2 ^ 32 ∧ x = nI n := ⟨x.toBitVec.toNat, x.toBitVec.isLt, Int32.toBitVec_inj.mp (by show _ = BitVec.ofNat 32 _; simp)⟩
theorem wb_c : ∀ k, k < 64 → ((nI k).toInt64 &&& 63) = lN k := by decide +kernel
theorem wb_cu : ∀ k, k < 64 → ((nI k).toInt64.toUInt64 &&& Int64.toUInt64 63) = UInt64.ofNat k := by decide +kernel
theorem wb_sm : ∀ k, k < 64 → (BitVec.ofNat 64 k).smod 64 = BitVec.ofNat 64 k := by decide +kernel
theorem wb_pw {a b : Nat} (h : a ≤ b) : 2 ^ b = 2 ^ a * 2 ^ (b - a) := by rw [← Nat.pow_add]; congr 1; omega
theorem wb_lt2 {a b : Nat} (h : a < b) : 2 ^ a < 2 ^ b := Nat.pow_lt_pow_right (by decide) h
theorem wb_mod (n : Nat) : lN n = lN (n % 2 ^ 64) := wb_inj (by rw [wb_tb, wb_tb]; apply BitVec.eq_of_toNat_eq; rw [BitVec.toNat_ofNat, BitVec.toNat_ofNat, Nat.mod_mod])
theorem wb_shr {n k : Nat} (hn : n < 2 ^ 64) (hk : k < 64) : ((lN n).toUInt64 >>> ((nI k).toInt64.toUInt64 &&& Int64.toUInt64 63)).toInt64 = lN (n / 2 ^ k) := by
  rw [wb_cu k hk]
  apply wb_inj
  apply BitVec.eq_of_toNat_eq
  show ((lN n).toUInt64 >>> UInt64.ofNat k).toNat = (BitVec.ofNat 64 _).toNat
  have h1 : (UInt64.ofNat k).toNat = k := by
    show (BitVec.ofNat 64 k).toNat = k
    rw [BitVec.toNat_ofNat, Nat.mod_eq_of_lt (by omega)]
  have h2 : (lN n).toUInt64.toNat = n := wb_tn hn
  rw [UInt64.toNat_shiftRight, h1, h2, Nat.mod_eq_of_lt hk, Nat.shiftRight_eq_div_pow, BitVec.toNat_ofNat, Nat.mod_eq_of_lt (Nat.lt_of_le_of_lt (Nat.div_le_self _ _) hn)]
theorem wb_shl (n : Nat) {k : Nat} (hk : k < 64) : lN n <<< ((nI k).toInt64 &&& 63) = lN (n * 2 ^ k) := by
  rw [wb_c k hk]
  apply wb_inj
  rw [Int64.toBitVec_shiftLeft, wb_tb, wb_tb, wb_tb, wb_sm k hk]
  apply BitVec.eq_of_toNat_eq
  rw [BitVec.shiftLeft_eq', BitVec.toNat_shiftLeft, BitVec.toNat_ofNat, BitVec.toNat_ofNat, BitVec.toNat_ofNat, Nat.mod_eq_of_lt (show k < 2 ^ 64 by omega), Nat.shiftLeft_eq, Nat.mul_mod, Nat.mod_mod, ← Nat.mul_mod]
theorem wb_and {a b : Nat} (ha : a < 2 ^ 64) (hb : b < 2 ^ 64) : lN a &&& lN b = lN (a &&& b) := by
  apply wb_inj
  rw [Int64.toBitVec_and, wb_tb, wb_tb, wb_tb]
  apply BitVec.eq_of_toNat_eq
  rw [BitVec.toNat_and, BitVec.toNat_ofNat, BitVec.toNat_ofNat, BitVec.toNat_ofNat, Nat.mod_eq_of_lt ha, Nat.mod_eq_of_lt hb, Nat.mod_eq_of_lt (Nat.and_lt_two_pow _ hb)]
theorem wb_or {a b : Nat} (ha : a < 2 ^ 64) (hb : b < 2 ^ 64) : lN a ||| lN b = lN (a ||| b) := by
  apply wb_inj
  rw [Int64.toBitVec_or, wb_tb, wb_tb, wb_tb]
  apply BitVec.eq_of_toNat_eq
  rw [BitVec.toNat_or, BitVec.toNat_ofNat, BitVec.toNat_ofNat, BitVec.toNat_ofNat, Nat.mod_eq_of_lt ha, Nat.mod_eq_of_lt hb, Nat.mod_eq_of_lt (Nat.or_lt_two_pow ha hb)]
theorem wb_mask {n k : Nat} (hn : n < 2 ^ 64) (hk : k < 64) : lN n &&& lN (2 ^ k - 1) = lN (n % 2 ^ k) := by
  rw [wb_and hn (by have := wb_lt2 hk; omega), Nat.and_two_pow_sub_one_eq_mod]
theorem wb_a1 {n : Nat} (hn : n < 2 ^ 64) : lN n &&& 1 = lN (n % 2) := wb_mask (k := 1) hn (by decide)
theorem wb_bit {n k : Nat} (hn : n < 2 ^ 64) (hk : k < 64) : ((lN n).toUInt64 >>> ((nI k).toInt64.toUInt64 &&& Int64.toUInt64 63)).toInt64 &&& 1 = lN (n / 2 ^ k % 2) := by
  rw [wb_shr hn hk, wb_a1 (Nat.lt_of_le_of_lt (Nat.div_le_self _ _) hn)]
theorem wb_xor {q k : Nat} (hk : k < 63) (h : 2 ^ k ≤ q) (h2 : q < 2 ^ (k + 1)) : lN q ^^^ lN (2 ^ k) = lN (q - 2 ^ k) := by
  obtain ⟨r, rfl⟩ : ∃ r, q = 2 ^ k + r := ⟨q - 2 ^ k, by omega⟩
  have hr : r < 2 ^ k := by rw [Nat.pow_succ] at h2; omega
  have hx : (2 ^ k + r) ^^^ 2 ^ k = r := by
    apply Nat.eq_of_testBit_eq
    intro i
    rw [Nat.testBit_xor, Nat.testBit_two_pow]
    rcases Nat.lt_trichotomy i k with h | h | h
    · rw [Nat.testBit_two_pow_add_gt h]
      simp [show ¬ k = i by omega]
    · subst h
      rw [Nat.testBit_two_pow_add_eq]
      simp
    · have a1 : 2 ^ (k + 1) ≤ 2 ^ i := Nat.pow_le_pow_right (by decide) h
      rw [Nat.testBit_lt_two_pow (show 2 ^ k + r < 2 ^ i by omega), Nat.testBit_lt_two_pow (show r < 2 ^ i by omega)]
      simp [show ¬ k = i by omega]
  have b1 := wb_lt2 (show k + 1 < 64 by omega)
  have b2 := wb_lt2 (show k < 64 by omega)
  apply wb_inj
  rw [Int64.toBitVec_xor, wb_tb, wb_tb, wb_tb]
  apply BitVec.eq_of_toNat_eq
  rw [BitVec.toNat_xor, BitVec.toNat_ofNat, BitVec.toNat_ofNat, BitVec.toNat_ofNat, Nat.mod_eq_of_lt (by omega : 2 ^ k + r < 2 ^ 64), Nat.mod_eq_of_lt b2, hx, Nat.add_sub_cancel_left, Nat.mod_eq_of_lt (by omega)]
theorem pf_lI {a : Nat} (h : a < 2 ^ 63) : (lN a).toInt = (a : Int) := lg_ofNat_toInt h
theorem pf_shr {a d : Nat} {D : Int64} (hD : (D.toBitVec.smod 64).toNat = d) (h : a < 2 ^ 62) : lN a >>> D = lN (a / 2 ^ d) := by
  have hd : a / 2 ^ d ≤ a := Nat.div_le_self _ _
  apply Int64.toInt_inj.mp
  have e : (lN a >>> D).toInt = (lN a).toInt >>> d := by
    rw [← hD]
    exact BitVec.toInt_sshiftRight ..
  rw [e, Int.shiftRight_eq_div_pow, pf_lI (by omega), pf_lI (by omega)]
  rfl
end
section
/-! whole numbers as Int32 and Int64, below 0 too -/
def hz_i (z : Int) : Int32 := Int32.ofInt z
def hz_l (z : Int) : Int64 := Int64.ofInt z
theorem hz_in (n : Nat) : hz_i (n : Int) = nI n := Int32.ofInt_eq_ofNat
theorem hz_ln (n : Nat) : hz_l (n : Int) = lN n := Int64.ofInt_eq_ofNat
theorem hz_iT {z : Int} (h : -2147483648 ≤ z) (h2 : z < 2147483648) : (hz_i z).toInt = z := Int32.toInt_ofInt_of_le (by omega) (by omega)
theorem hz_lT {z : Int} (h : -9223372036854775808 ≤ z) (h2 : z < 9223372036854775808) : (hz_l z).toInt = z := Int64.toInt_ofInt_of_le (by omega) (by omega)
theorem hz_ia (a b : Int) : hz_i a + hz_i b = hz_i (a + b) := (Int32.ofInt_add a b).symm
theorem hz_is (a b : Int) : hz_i a - hz_i b = hz_i (a - b) := (Int32.ofInt_sub a b).symm
theorem hz_ig (a : Int) : -hz_i a = hz_i (-a) := Int32.neg_ofInt
theorem hz_la (a b : Int) : hz_l a + hz_l b = hz_l (a + b) := (Int64.ofInt_add a b).symm
theorem hz_ls (a b : Int) : hz_l a - hz_l b = hz_l (a - b) := (Int64.ofInt_sub a b).symm
theorem hz_lg (a : Int) : -hz_l a = hz_l (-a) := Int64.neg_ofInt
theorem hz_iLE {a b : Int} (ha : -2147483648 ≤ a ∧ a < 2147483648) (hb : -2147483648 ≤ b ∧ b < 2147483648) : hz_i a ≤ hz_i b ↔ a ≤ b := by
  rw [Int32.le_iff_toInt_le, hz_iT ha.1 ha.2, hz_iT hb.1 hb.2]
theorem hz_iLT {a b : Int} (ha : -2147483648 ≤ a ∧ a < 2147483648) (hb : -2147483648 ≤ b ∧ b < 2147483648) : hz_i a < hz_i b ↔ a < b := by
  rw [Int32.lt_iff_toInt_lt, hz_iT ha.1 ha.2, hz_iT hb.1 hb.2]
theorem hz_iEQ {a b : Int} (ha : -2147483648 ≤ a ∧ a < 2147483648) (hb : -2147483648 ≤ b ∧ b < 2147483648) : hz_i a = hz_i b ↔ a = b := by
  rw [← Int32.toInt_inj, hz_iT ha.1 ha.2, hz_iT hb.1 hb.2]
theorem hz_lLE {a b : Int} (ha : -9223372036854775808 ≤ a ∧ a < 9223372036854775808) (hb : -9223372036854775808 ≤ b ∧ b < 9223372036854775808) : hz_l a ≤ hz_l b ↔ a ≤ b := by
  rw [Int64.le_iff_toInt_le, hz_lT ha.1 ha.2, hz_lT hb.1 hb.2]
theorem hz_lLT {a b : Int} (ha : -9223372036854775808 ≤ a ∧ a < 9223372036854775808) (hb : -9223372036854775808 ≤ b ∧ b < 9223372036854775808) : hz_l a < hz_l b ↔ a < b := by
  rw [Int64.lt_iff_toInt_lt, hz_lT ha.1 ha.2, hz_lT hb.1 hb.2]
theorem hz_lEQ {a b : Int} (ha : -9223372036854775808 ≤ a ∧ a < 9223372036854775808) (hb : -9223372036854775808 ≤ b ∧ b < 9223372036854775808) : hz_l a = hz_l b ↔ a = b := by
  rw [← Int64.toInt_inj, hz_lT ha.1 ha.2, hz_lT hb.1 hb.2]
/-! a comparison decided by naturals, as truth values that the kernel reckons fast -/
theorem hf_bt {a b : Nat} (h : a < b) : Nat.blt a b = true := by rw [Nat.blt_eq]; exact h
theorem hf_bf {a b : Nat} (h : b ≤ a) : Nat.blt a b = false := by
  cases e : Nat.blt a b with
  | false => rfl
  | true => rw [Nat.blt_eq] at e; omega
theorem hf_et {a b : Nat} (h : a ≤ b) : Nat.ble a b = true := by rw [Nat.ble_eq]; exact h
theorem hf_ef {a b : Nat} (h : b < a) : Nat.ble a b = false := by
  cases e : Nat.ble a b with
  | false => rfl
  | true => rw [Nat.ble_eq] at e; omega
theorem hf_qt {a b : Nat} (h : a = b) : Nat.beq a b = true := by rw [Nat.beq_eq]; exact h
theorem hf_qf {a b : Nat} (h : a ≠ b) : Nat.beq a b = false := by
  cases e : Nat.beq a b with
  | false => rfl
  | true => rw [Nat.beq_eq] at e; exact absurd e h
/-! the amount of a pattern, in units of 2^-24 -/
def hf_A (p : Nat) : Nat := bif Nat.blt p 1024 then p else (1024 + p % 1024) * 2 ^ (p / 1024 - 1)
theorem hf_A_lo {p : Nat} (h : p < 1024) : hf_A p = p := by simp only [hf_A, hf_bt h, cond_true]
theorem hf_A_hi {p : Nat} (h : 1024 ≤ p) : hf_A p = (1024 + p % 1024) * 2 ^ (p / 1024 - 1) := by simp only [hf_A, hf_bf h, cond_false]
theorem hf_A_eq {E q : Nat} (h : E = 0 ∨ 1024 ≤ q) (hq : q ≤ 2048) : hf_A (E * 1024 + q) = q * 2 ^ E := by
  rcases Nat.lt_or_ge (E * 1024 + q) 1024 with h1 | h1
  · have e : E = 0 := by omega
    subst e
    rw [hf_A_lo h1]
    simp
  · rw [hf_A_hi h1]
    rcases Nat.lt_or_ge q 2048 with h2 | h2
    · have e1 : (E * 1024 + q) / 1024 - 1 = E := by omega
      have e2 : 1024 + (E * 1024 + q) % 1024 = q := by omega
      rw [e1, e2]
    · have e0 : q = 2048 := by omega
      subst e0
      have e1 : (E * 1024 + 2048) / 1024 - 1 = E + 1 := by omega
      have e2 : 1024 + (E * 1024 + 2048) % 1024 = 1024 := by omega
      rw [e1, e2, Nat.pow_succ]
      omega
theorem hf_dec (p : Nat) : ∃ E q, p = E * 1024 + q ∧ (E = 0 ∨ 1024 ≤ q) ∧ q < 2048 :=
  ⟨p / 1024 - 1, p - (p / 1024 - 1) * 1024, by omega, by omega, by omega⟩
theorem hf_A_lt (p : Nat) : hf_A p < hf_A (p + 1) := by
  obtain ⟨E, q, rfl, h, hq⟩ := hf_dec p
  rw [hf_A_eq h (by omega), Nat.add_assoc, hf_A_eq (by omega) (by omega), Nat.add_mul]
  have := Nat.two_pow_pos E
  omega
theorem hf_A_mono {p r : Nat} (h : p ≤ r) : hf_A p ≤ hf_A r := by
  induction h with
  | refl => exact Nat.le_refl _
  | step _ ih => exact Nat.le_trans ih (Nat.le_of_lt (hf_A_lt _))
theorem hf_A_top : hf_A 31744 = 1099511627776 := by decide +kernel
theorem hf_A_bd {p : Nat} (h : p ≤ 31744) : hf_A p ≤ 1099511627776 := by
  rw [← hf_A_top]
  exact hf_A_mono h
/-! u / l units, rounded to a pattern -/
def hf_E (w : Nat) : Nat := bif Nat.blt w 2048 then 0 else Nat.log2 w - 10
def hf_up (q r g : Nat) : Nat := bif Nat.blt g (2 * r) then 1 else bif Nat.beq (2 * r) g then q % 2 else 0
def hf_mn (a : Nat) : Nat := bif Nat.blt a 31744 then a else 31744
def hf_R2 (u g E : Nat) : Nat := hf_mn (E * 1024 + u / g + hf_up (u / g) (u % g) g)
def hf_R1 (u l E : Nat) : Nat := hf_R2 u (l * 2 ^ E) E
def hf_R (u l : Nat) : Nat := hf_R1 u l (hf_E (u / l))
theorem hf_mn_lo {a : Nat} (h : a ≤ 31744) : hf_mn a = a := by
  rcases Nat.lt_or_ge a 31744 with z | z
  · simp only [hf_mn, hf_bt z, cond_true]
  · simp only [hf_mn, hf_bf z, cond_false]
    omega
theorem hf_mn_hi {a : Nat} (h : 31744 ≤ a) : hf_mn a = 31744 := by simp only [hf_mn, hf_bf h, cond_false]
theorem hf_mn_le (a : Nat) : hf_mn a ≤ 31744 := by
  rcases Nat.lt_or_ge a 31744 with z | z
  · rw [hf_mn_lo (by omega)]; omega
  · rw [hf_mn_hi z]; omega
theorem hf_up_1 {q r g : Nat} (h : g < 2 * r) : hf_up q r g = 1 := by simp only [hf_up, hf_bt h, cond_true]
theorem hf_up_e {q r g : Nat} (h : 2 * r = g) : hf_up q r g = q % 2 := by
  simp only [hf_up, hf_bf (show 2 * r ≤ g by omega), hf_qt h, cond_true, cond_false]
theorem hf_up_0 {q r g : Nat} (h : 2 * r < g) : hf_up q r g = 0 := by
  simp only [hf_up, hf_bf (show 2 * r ≤ g by omega), hf_qf (show 2 * r ≠ g by omega), cond_false]
theorem hf_R_le (u l : Nat) : hf_R u l ≤ 31744 := hf_mn_le _
theorem hf_E_eq {w E q : Nat} (hE : E = 0 ∨ 1024 ≤ q) (hq : q < 2048) (e3 : w / 2 ^ E = q) : hf_E w = E := by
  have hp := Nat.two_pow_pos E
  have a1 : q * 2 ^ E ≤ w := by rw [← e3]; exact Nat.div_mul_le_self w (2 ^ E)
  have a2 : w < (q + 1) * 2 ^ E := (Nat.div_lt_iff_lt_mul hp).mp (by rw [e3]; exact Nat.lt_succ_self q)
  by_cases z : E = 0
  · subst z
    rw [Nat.pow_zero, Nat.mul_one] at a2
    simp only [hf_E, hf_bt (show w < 2048 by omega), cond_true]
  · have hE2 : 1024 ≤ q := by omega
    have b1 : 1024 * 2 ^ E ≤ q * 2 ^ E := Nat.mul_le_mul_right _ hE2
    have b2 : (q + 1) * 2 ^ E ≤ 2048 * 2 ^ E := Nat.mul_le_mul_right _ (by omega)
    have b3 : 2 ^ 1 ≤ 2 ^ E := Nat.pow_le_pow_right (by decide) (by omega)
    have c1 : 2 ^ (E + 10) = 1024 * 2 ^ E := by rw [Nat.pow_add]; omega
    have c2 : 2 ^ (E + 10 + 1) = 2048 * 2 ^ E := by rw [Nat.pow_succ, c1]; omega
    have e : w.log2 = E + 10 := (Nat.log2_eq_iff (by omega)).mpr ⟨by omega, by omega⟩
    simp only [hf_E, hf_bf (show 2048 ≤ w by omega), cond_false, e, Nat.add_sub_cancel]
theorem hf_R_eq {u l E q : Nat} (hE : E = 0 ∨ 1024 ≤ q) (hq : q < 2048) (h1 : q * (l * 2 ^ E) ≤ u) (h2 : u < (q + 1) * (l * 2 ^ E)) :
    hf_R u l = hf_mn (E * 1024 + q + hf_up q (u - q * (l * 2 ^ E)) (l * 2 ^ E)) := by
  have e1 : u / (l * 2 ^ E) = q := Nat.div_eq_of_lt_le h1 h2
  have e2 : u % (l * 2 ^ E) = u - q * (l * 2 ^ E) := by
    have := Nat.div_add_mod' u (l * 2 ^ E)
    rw [e1] at this
    exact Nat.eq_sub_of_add_eq ((Nat.add_comm _ _).trans this)
  have e3 : u / l / 2 ^ E = q := by rw [Nat.div_div_eq_div_mul, e1]
  simp only [hf_R, hf_E_eq hE hq e3, hf_R1, hf_R2, e1, e2]
theorem hf_R_big {u l : Nat} (h : 1099511627776 ≤ u / l) : hf_R u l = 31744 := by
  have hw : u / l ≠ 0 := by omega
  have h40 : 40 ≤ (u / l).log2 := (Nat.le_log2 hw).mpr (by omega)
  obtain ⟨E, hE⟩ : ∃ E, (u / l).log2 = E + 10 := ⟨(u / l).log2 - 10, by omega⟩
  have h2 : 2 ^ (E + 10) ≤ u / l := by
    have := Nat.log2_self_le hw
    rw [hE] at this
    exact this
  have h3 : 1024 ≤ u / (l * 2 ^ E) := by
    rw [← Nat.div_div_eq_div_mul]
    apply (Nat.le_div_iff_mul_le (Nat.two_pow_pos E)).mpr
    rw [Nat.pow_add] at h2
    omega
  have h4 : hf_E (u / l) = E := by simp only [hf_E, hf_bf (show 2048 ≤ u / l by omega), cond_false, hE, Nat.add_sub_cancel]
  simp only [hf_R, h4, hf_R1, hf_R2]
  exact hf_mn_hi (by omega)
theorem hf_R_zero {l : Nat} (hl : 0 < l) : hf_R 0 l = 0 := by
  rw [hf_R_eq (E := 0) (q := 0) (Or.inl rfl) (by decide) (by omega) (by omega), hf_up_0 (by omega)]
  exact hf_mn_lo (a := 0) (by decide)
/-! the component's rounding: amount, shift, and whether something is left below -/
theorem hf_x1 {u A q rest G P H W half ρ : Nat} (hP : 0 < P) (hG : G * P = H * W) (hH : H = 2 * half) (hA : A = q * H + rest) (hr : rest < H) (hu : u * P = A * W + ρ) (hρ : ρ < W) :
    q * G ≤ u ∧ u < (q + 1) * G ∧ (half < rest ∨ (rest = half ∧ 0 < ρ) → G < 2 * (u - q * G)) ∧ (rest = half → ρ = 0 → 2 * (u - q * G) = G) ∧ (rest < half → 2 * (u - q * G) < G) := by
  have e0 : A * W = q * G * P + rest * W := by rw [hA, Nat.mul_assoc q G P, hG, Nat.add_mul, Nat.mul_assoc]
  have e2 : (rest + 1) * W ≤ H * W := Nat.mul_le_mul_right W hr
  rw [Nat.add_mul, Nat.one_mul] at e2
  have c1 : q * G ≤ u := Nat.le_of_mul_le_mul_right (c := P) (by omega) hP
  obtain ⟨r, rfl⟩ : ∃ r, u = q * G + r := ⟨u - q * G, by omega⟩
  rw [Nat.add_mul] at hu
  have e3 : r * P = rest * W + ρ := by omega
  have e4 : r < G := Nat.lt_of_mul_lt_mul_right (a := P) (by omega)
  have e5 : H * W = 2 * (half * W) := by rw [hH, Nat.mul_assoc]
  have e6 : 2 * r * P = 2 * (r * P) := Nat.mul_assoc _ _ _
  rw [Nat.add_sub_cancel_left]
  refine ⟨c1, by rw [Nat.add_mul]; omega, fun h => ?_, fun h h2 => ?_, fun h => ?_⟩
  · apply Nat.lt_of_mul_lt_mul_right (a := P)
    rcases h with h | ⟨rfl, h⟩
    · have := Nat.mul_le_mul_right W (show half + 1 ≤ rest from h)
      rw [Nat.add_mul] at this
      omega
    · omega
  · subst h
    apply Nat.eq_of_mul_eq_mul_right hP
    omega
  · apply Nat.lt_of_mul_lt_mul_right (a := P)
    have := Nat.mul_le_mul_right W (show rest + 1 ≤ half from h)
    rw [Nat.add_mul] at this
    omega
theorem hf_X1v {u l A a b E q rest H half : Nat} {M : Prop} (hH : H = 2 * half) (hG : l * 2 ^ E * 2 ^ b = H * (l * 2 ^ a)) (hA : A = q * H + rest) (hr : rest < H) (h1 : A * (l * 2 ^ a) ≤ u * 2 ^ b) (h2 : u * 2 ^ b < (A + 1) * (l * 2 ^ a)) (hm : M ↔ u * 2 ^ b ≠ A * (l * 2 ^ a)) (hE : E = 0 ∨ 1024 ≤ q) (hq : q < 2048) :
    (half < rest ∨ (rest = half ∧ (M ∨ q % 2 = 1)) → hf_R u l = hf_mn (E * 1024 + (q + 1))) ∧
    (¬ (half < rest ∨ (rest = half ∧ (M ∨ q % 2 = 1))) → hf_R u l = hf_mn (E * 1024 + q)) := by
  rw [Nat.add_mul, Nat.one_mul] at h2
  obtain ⟨ρ, hu⟩ : ∃ ρ, u * 2 ^ b = A * (l * 2 ^ a) + ρ := ⟨u * 2 ^ b - A * (l * 2 ^ a), by omega⟩
  have hρ : ρ < l * 2 ^ a := by omega
  have hm2 : M ↔ 0 < ρ := hm.trans ⟨fun h => by omega, fun h => by omega⟩
  obtain ⟨c1, c2, c3, c4, c5⟩ := hf_x1 (Nat.two_pow_pos b) hG hH hA hr hu hρ
  rw [hf_R_eq hE hq c1 c2]
  constructor
  · intro h
    rcases h with h | ⟨h, h'⟩
    · rw [hf_up_1 (c3 (Or.inl h)), Nat.add_assoc]
    · rcases Nat.eq_zero_or_pos ρ with z | z
      · have h3 : q % 2 = 1 := by
          rcases h' with h' | h'
          · have := hm2.mp h'
            omega
          · exact h'
        rw [hf_up_e (c4 h z), h3, Nat.add_assoc]
      · rw [hf_up_1 (c3 (Or.inr ⟨h, z⟩)), Nat.add_assoc]
  · intro h
    rcases Nat.lt_trichotomy rest half with z | z | z
    · rw [hf_up_0 (c5 z), Nat.add_zero]
    · have h3 : ¬ M := fun k => h (Or.inr ⟨z, Or.inl k⟩)
      have h4 : ¬ q % 2 = 1 := fun k => h (Or.inr ⟨z, Or.inr k⟩)
      have h5 : ρ = 0 := by
        rcases Nat.eq_zero_or_pos ρ with y | y
        · exact y
        · exact absurd (hm2.mpr y) h3
      rw [hf_up_e (c4 z h5), show q % 2 = 0 by omega, Nat.add_zero]
    · exact absurd (Or.inl z) h
theorem hf_X1 {u l A a b E sh : Nat} {M : Prop} (hs : 0 < sh) (hab : E + b = sh + a) (h1 : A * (l * 2 ^ a) ≤ u * 2 ^ b) (h2 : u * 2 ^ b < (A + 1) * (l * 2 ^ a)) (hm : M ↔ u * 2 ^ b ≠ A * (l * 2 ^ a)) (hE : E = 0 ∨ 1024 ≤ A / 2 ^ sh) (hq : A / 2 ^ sh < 2048) :
    (2 ^ (sh - 1) < A % 2 ^ sh ∨ (A % 2 ^ sh = 2 ^ (sh - 1) ∧ (M ∨ A / 2 ^ sh % 2 = 1)) → hf_R u l = hf_mn (E * 1024 + (A / 2 ^ sh + 1))) ∧
    (¬ (2 ^ (sh - 1) < A % 2 ^ sh ∨ (A % 2 ^ sh = 2 ^ (sh - 1) ∧ (M ∨ A / 2 ^ sh % 2 = 1))) → hf_R u l = hf_mn (E * 1024 + A / 2 ^ sh)) := by
  have hH : 2 ^ sh = 2 * 2 ^ (sh - 1) := by
    obtain ⟨t, rfl⟩ : ∃ t, sh = t + 1 := ⟨sh - 1, by omega⟩
    rw [Nat.add_sub_cancel, Nat.pow_succ, Nat.mul_comm]
  have hG : l * 2 ^ E * 2 ^ b = 2 ^ sh * (l * 2 ^ a) := by
    rw [Nat.mul_assoc, ← Nat.pow_add, hab, Nat.pow_add, Nat.mul_left_comm]
  exact hf_X1v hH hG (Nat.div_add_mod' A (2 ^ sh)).symm (Nat.mod_lt A (Nat.two_pow_pos sh)) h1 h2 hm hE hq
theorem hf_X0 {u l A a b E t : Nat} (hl : 0 < l) (hab : E + t + b = a) (h : u * 2 ^ b = A * (l * 2 ^ a)) (hE : E = 0 ∨ 1024 ≤ A * 2 ^ t) (hq : A * 2 ^ t < 2048) :
    hf_R u l = hf_mn (E * 1024 + A * 2 ^ t) := by
  have hu : u = A * 2 ^ t * (l * 2 ^ E) := by
    apply Nat.eq_of_mul_eq_mul_right (Nat.two_pow_pos b)
    rw [h, ← hab, Nat.pow_add, Nat.pow_add]
    simp only [Nat.mul_assoc, Nat.mul_comm, Nat.mul_left_comm]
  have hG : 0 < l * 2 ^ E := Nat.mul_pos hl (Nat.two_pow_pos E)
  rw [hf_R_eq hE hq (by omega) (by rw [Nat.add_mul]; omega), hu, Nat.sub_self, hf_up_0 (by omega), Nat.add_zero]
theorem hf_pw_lt {A L t m : Nat} (h : A < 2 ^ L) (h2 : L + t ≤ m) : A * 2 ^ t < 2 ^ m :=
  Nat.lt_of_lt_of_le (Nat.mul_lt_mul_of_pos_right h (Nat.two_pow_pos t)) (by rw [← Nat.pow_add]; exact Nat.pow_le_pow_right (by decide) h2)
theorem hf_pw_ge {A k t m : Nat} (h : 2 ^ k ≤ A) (h2 : m ≤ k + t) : 2 ^ m ≤ A * 2 ^ t :=
  Nat.le_trans (Nat.pow_le_pow_right (by decide) h2) (by rw [Nat.pow_add]; exact Nat.mul_le_mul_right _ h)
theorem hf_dv_lt {A L sh m : Nat} (h : A < 2 ^ L) (h2 : L ≤ m + sh) : A / 2 ^ sh < 2 ^ m :=
  (Nat.div_lt_iff_lt_mul (Nat.two_pow_pos sh)).mpr (Nat.lt_of_lt_of_le h (by rw [← Nat.pow_add]; exact Nat.pow_le_pow_right (by decide) h2))
theorem hf_dv_ge {A k sh m : Nat} (h : 2 ^ k ≤ A) (h2 : m + sh ≤ k) : 2 ^ m ≤ A / 2 ^ sh :=
  (Nat.le_div_iff_mul_le (Nat.two_pow_pos sh)).mpr (Nat.le_trans (by rw [← Nat.pow_add]; exact Nat.pow_le_pow_right (by decide) h2) h)
theorem hf_sel {A L E : Nat} {s sf : Int} (hL : 2 ^ (L - 1) ≤ A) (hL2 : A < 2 ^ L) (h1 : 1 ≤ L)
    (hc : ((L : Int) - 11 + s < -24 ∧ E = 0 ∧ sf = -24 - s) ∨ (-24 ≤ (L : Int) - 11 + s ∧ (E : Int) = L - 11 + s + 24 ∧ sf = L - 11)) :
    (∀ t : Nat, sf = -(t : Int) → (E = 0 ∨ 1024 ≤ A * 2 ^ t) ∧ A * 2 ^ t < 2048) ∧ (∀ sh : Nat, sf = (sh : Int) → (E = 0 ∨ 1024 ≤ A / 2 ^ sh) ∧ A / 2 ^ sh < 2048) := by
  refine ⟨fun t ht => ?_, fun sh hs => ?_⟩
  · rcases hc with ⟨c1, c2, c3⟩ | ⟨c1, c2, c3⟩
    · exact ⟨Or.inl c2, hf_pw_lt (m := 11) hL2 (by omega)⟩
    · exact ⟨Or.inr (hf_pw_ge (m := 10) hL (by omega)), hf_pw_lt (m := 11) hL2 (by omega)⟩
  · rcases hc with ⟨c1, c2, c3⟩ | ⟨c1, c2, c3⟩
    · exact ⟨Or.inl c2, hf_dv_lt (m := 11) hL2 (by omega)⟩
    · exact ⟨Or.inr (hf_dv_ge (m := 10) hL (by omega)), hf_dv_lt (m := 11) hL2 (by omega)⟩
theorem hf_shz {A i : Nat} (hA : A ≠ 0) : A / 2 ^ i = 0 ↔ A.log2 + 1 ≤ i := by
  rw [show A.log2 + 1 ≤ i ↔ A.log2 < i from Iff.rfl, Nat.log2_lt hA]
  constructor
  · intro h
    have := (Nat.div_lt_iff_lt_mul (Nat.two_pow_pos i)).mp (show A / 2 ^ i < 1 by omega)
    omega
  · exact Nat.div_eq_of_lt
theorem hf_L1 {A : Nat} (hA : A ≠ 0) : 2 ^ (A.log2 + 1 - 1) ≤ A := by rw [Nat.add_sub_cancel]; exact Nat.log2_self_le hA
theorem hf_L2 (A : Nat) : A < 2 ^ (A.log2 + 1) := Nat.lt_log2_self
theorem hf_L3 {A m : Nat} (hA : A ≠ 0) (h : A < 2 ^ m) : A.log2 + 1 ≤ m := (Nat.log2_lt hA).mpr h
theorem hf_L4 {A m : Nat} (hA : A ≠ 0) (h : 2 ^ m ≤ A) : m + 1 ≤ A.log2 + 1 := Nat.succ_le_succ ((Nat.le_log2 hA).mpr h)
/-! shifts of longs by ints -/
theorem hz_shr {n k : Nat} (hn : n < 2 ^ 62) (hk : k < 64) : lN n >>> ((nI k).toInt64 &&& 63) = lN (n / 2 ^ k) := by
  rw [wb_c k hk]
  exact pf_shr (by rw [wb_tb, wb_sm k hk, BitVec.toNat_ofNat]; omega) hn
/-! the decimal numbers: d * 10^n, d / 10^n -/
theorem hf_R_dec_big {d i x : Nat} (h : i ≤ x) (hv : 100000 ≤ d * 10 ^ i) : hf_R (d * 10 ^ x * 16777216) 1 = 31744 := by
  apply hf_R_big
  rw [Nat.div_one]
  have h1 : d * 10 ^ i ≤ d * 10 ^ x := Nat.mul_le_mul_left d (Nat.pow_le_pow_right (by decide) h)
  omega
theorem hf_R_40 : hf_R 1099511627776 1 = 31744 := hf_R_big (by decide)
/-! whole roots -/
theorem hf_rt_un {r s v : Nat} (h1 : r * r ≤ v) (h2 : v < (r + 1) * (r + 1)) (h3 : s * s ≤ v) (h4 : v < (s + 1) * (s + 1)) : r = s := by
  have a : r < s + 1 := Nat.mul_self_lt_mul_self_iff.mp (Nat.lt_of_le_of_lt h1 h4)
  have b : s < r + 1 := Nat.mul_self_lt_mul_self_iff.mp (Nat.lt_of_le_of_lt h3 h2)
  omega
/-! the reference's rounding: the pattern below, the gap above it, twice what is left -/
theorem hf_N {u l low w r a0 a1 : Nat} (hu : w * l + r = u) (hr : r < l) (hlow : low < 31744) (ha0 : hf_A low = a0) (ha1 : hf_A (low + 1) = a1) (h1 : a0 ≤ w) (h2 : w < a1) :
    (2 * (w - a0) * l + 2 * r = (a1 - a0) * l → hf_R u l = low + low % 2) ∧ ((a1 - a0) * l < 2 * (w - a0) * l + 2 * r → hf_R u l = low + 1) ∧ (2 * (w - a0) * l + 2 * r < (a1 - a0) * l → hf_R u l = low) ∧ 2 * (w - a0) * l + 2 * r ≤ 2 * u ∧ ((a1 - a0) * l ≤ l ∨ (a1 - a0) * l ≤ u) := by
  obtain ⟨E, q, rfl, hE, hq⟩ := hf_dec low
  have g0 : a0 = q * 2 ^ E := by rw [← ha0, hf_A_eq hE (by omega)]
  have g1 : a1 = q * 2 ^ E + 2 ^ E := by rw [← ha1, Nat.add_assoc, hf_A_eq (by omega) (by omega), Nat.add_mul, Nat.one_mul]
  have k1 : (a1 - a0) * l = l * 2 ^ E := by rw [g1, g0, Nat.add_sub_cancel_left, Nat.mul_comm]
  obtain ⟨d, hd⟩ : ∃ d, w = a0 + d := ⟨w - a0, by omega⟩
  have k2 : w * l = q * (l * 2 ^ E) + d * l := by rw [hd, g0, Nat.add_mul, Nat.mul_assoc, Nat.mul_comm (2 ^ E) l]
  have k3 : 2 * (w - a0) * l = 2 * (d * l) := by rw [hd, Nat.add_sub_cancel_left, Nat.mul_assoc]
  have k4 : (d + 1) * l ≤ 2 ^ E * l := Nat.mul_le_mul_right l (by omega)
  rw [Nat.add_mul, Nat.one_mul, Nat.mul_comm (2 ^ E) l] at k4
  have c1 : q * (l * 2 ^ E) ≤ u := by omega
  have c2 : u < (q + 1) * (l * 2 ^ E) := by rw [Nat.add_mul]; omega
  have k5 : u - q * (l * 2 ^ E) = d * l + r := by omega
  rw [hf_R_eq hE hq c1 c2, k1, k3, k5]
  refine ⟨fun h => ?_, fun h => ?_, fun h => ?_, ?_, ?_⟩
  · rw [hf_up_e (by omega), hf_mn_lo (by omega)]
    omega
  · rw [hf_up_1 (by omega), hf_mn_lo (by omega)]
  · rw [hf_up_0 (by omega), hf_mn_lo (by omega), Nat.add_zero]
  · omega
  · by_cases z : E = 0
    · left
      subst z
      simp
    · right
      have := Nat.mul_le_mul_right (l * 2 ^ E) (show 1 ≤ q by omega)
      omega
/-! quotients -/
theorem hf_q1 {x y a b : Nat} (hy : 0 < y) : x * 2 ^ b / y * (y * 2 ^ a) ≤ x * 2 ^ a * 2 ^ b ∧ x * 2 ^ a * 2 ^ b < (x * 2 ^ b / y + 1) * (y * 2 ^ a) ∧ (x * 2 ^ b / y * y ≠ x * 2 ^ b ↔ x * 2 ^ a * 2 ^ b ≠ x * 2 ^ b / y * (y * 2 ^ a)) := by
  have hp := Nat.two_pow_pos a
  have e1 := Nat.div_mul_le_self (x * 2 ^ b) y
  have e2 := Nat.lt_mul_of_div_lt (Nat.lt_succ_self (x * 2 ^ b / y)) hy
  have e3 : x * 2 ^ a * 2 ^ b = x * 2 ^ b * 2 ^ a := by rw [Nat.mul_assoc, Nat.mul_comm (2 ^ a), ← Nat.mul_assoc]
  rw [e3, ← Nat.mul_assoc, ← Nat.mul_assoc]
  refine ⟨Nat.mul_le_mul_right _ e1, Nat.mul_lt_mul_of_pos_right e2 hp, ?_⟩
  constructor
  · intro h h2
    exact h (Nat.eq_of_mul_eq_mul_right hp h2.symm)
  · intro h h2
    exact h (by rw [h2])
/-! a search by halves -/
theorem hb_search (W : Nat → Nat → Nat → Prop) (f : Nat → Nat) (w B : Nat) (hx : ∀ n lo, lo ≤ B → f lo ≤ w → w < f (lo + 1) → W (n + 1) lo lo)
    (hs : ∀ n lo hi, lo < hi → hi ≤ B → (f ((lo + hi + 1) / 2) ≤ w → W n ((lo + hi + 1) / 2) hi) → (w < f ((lo + hi + 1) / 2) → W n lo ((lo + hi + 1) / 2 - 1)) → W (n + 1) lo hi) :
    ∀ d lo hi, hi - lo ≤ d → lo ≤ hi → hi ≤ B → f lo ≤ w → w < f (hi + 1) → W (d + 1) lo hi := by
  intro d
  induction d with
  | zero =>
    intro lo hi h1 h2 hB h3 h4
    have e : lo = hi := by omega
    subst e
    exact hx 0 lo hB h3 h4
  | succ d ih =>
    intro lo hi h1 h2 hB h3 h4
    rcases Nat.eq_or_lt_of_le h2 with z | z
    · subst z
      exact hx _ lo hB h3 h4
    · exact hs (d + 1) lo hi z hB (fun h => ih _ hi (by omega) (by omega) hB h h4)
        (fun h => ih lo _ (by omega) (by omega) (by omega) h3 (by rw [show (lo + hi + 1) / 2 - 1 + 1 = (lo + hi + 1) / 2 by omega]; exact h))
theorem hf_rt_step {w v i : Nat} (h : v < (w + 2 ^ (i + 1)) * (w + 2 ^ (i + 1))) : v < (w + 2 ^ i + 2 ^ i) * (w + 2 ^ i + 2 ^ i) := by
  have e : w + 2 ^ (i + 1) = w + 2 ^ i + 2 ^ i := by rw [Nat.pow_succ]; omega
  rw [← e]
  exact h
theorem hf_rtP {r δ P : Nat} (hP : 0 < P) (hδ : δ ≤ 1) : r * (P * 2) ≤ (2 * r + δ) * P ∧ (2 * r + δ) * P < (r + 1) * (P * 2) ∧ (δ ≠ 0 ↔ (2 * r + δ) * P ≠ r * (P * 2)) := by
  have e1 : r * (P * 2) = 2 * (r * P) := by rw [← Nat.mul_assoc, Nat.mul_comm]
  have e2 : (2 * r + δ) * P = 2 * (r * P) + δ * P := by rw [Nat.add_mul, Nat.mul_assoc]
  have e3 : (r + 1) * (P * 2) = 2 * (r * P) + 2 * P := by rw [Nat.add_mul, e1]; omega
  rw [e1, e2, e3]
  rcases (show δ = 0 ∨ δ = 1 by omega) with rfl | rfl
  · exact ⟨by omega, by omega, ⟨fun h => by omega, fun h => by omega⟩⟩
  · exact ⟨by omega, by omega, ⟨fun h => by omega, fun h => by omega⟩⟩
end
section
/-! the writing, as both sides reckon it; x = 4 - j -/
def hf_rd (d j : Nat) : Nat := bif Nat.ble j 4 then hf_R (d * 10 ^ (4 - j) * 16777216) 1 else hf_R (d * 16777216) (10 ^ (j - 4))
def hf_ov (V j : Nat) : Nat := V * 10 ^ (j - 4)
def hf_un (j : Nat) : Nat := 16777216 * 10 ^ (4 - j)
def hf_nd2 (p j o u lo : Nat) : Nat :=
  bif Nat.blt o 4611686018427387904 && Nat.blt lo 999999 then
    bif Nat.beq (hf_rd lo j) p && (Nat.ble (2 * (o % u)) u || !(Nat.beq (hf_rd (lo + 1) j) p)) then lo
    else bif Nat.beq (hf_rd (lo + 1) j) p then lo + 1 else 0
  else 100000000000000000000
def hf_nd1 (p j o u : Nat) : Nat := hf_nd2 p j o u (o / u)
def hf_nd (V p j : Nat) : Nat := hf_nd1 p j (hf_ov V j) (hf_un j)
/-- the greatest place: the first k from 0 on (place 4 - k) that is reached, 12 at last -/
def hf_pl (V : Nat) : Nat → Nat → Nat
  | 0, k => k
  | n + 1, k => bif Nat.ble (hf_un k) (hf_ov V k) then k else hf_pl V n (k + 1)
def hf_xr (d j : Nat) : Nat := bif Nat.beq d 10 then 53 - j else d * 32 + 20 - j
def hf_xl (V p : Nat) : Nat → Nat → Nat
  | 0, _ => 0
  | n + 1, j => bif Nat.beq (hf_nd V p j) 0 then hf_xl V p n (j + 1) else hf_xr (hf_nd V p j) j
def hf_ln (d : Nat) : Nat := bif Nat.blt d 10 then 1 else bif Nat.blt d 100 then 2 else bif Nat.blt d 1000 then 3 else bif Nat.blt d 10000 then 4 else bif Nat.blt d 100000 then 5 else bif Nat.blt d 1000000 then 6 else 7
def hf_yd (V j : Nat) : Nat :=
  bif Nat.ble j 4 then V / 16777216 / 10 ^ (4 - j)
  else bif Nat.blt V (9000000000000000000 / 10 ^ (j - 4)) then V * 10 ^ (j - 4) / 16777216 else 1000000
def hf_ds (a b : Nat) : Nat := (a - b) + (b - a)
def hf_nr2 (VV me ot : Nat) : Bool :=
  bif Nat.beq (hf_ds (me * 16777216) VV) (hf_ds (ot * 16777216) VV) then Nat.blt me ot else Nat.blt (hf_ds (me * 16777216) VV) (hf_ds (ot * 16777216) VV)
def hf_nr (V j e s : Nat) : Bool := hf_nr2 (V * 10 ^ (j - 4)) (e * 10 ^ (4 - j)) (s / 32 * 10 ^ (4 - j + j - s % 32))
def hf_tk (V p j e s : Nat) : Nat :=
  bif Nat.ble 100000000000000000000 s then s
  else bif Nat.beq (e % 10) 0 then s
  else bif Nat.beq s 0 then (bif Nat.beq (hf_rd e j) p then e * 32 + j else s)
  else bif Nat.blt (hf_ln (s / 32)) (hf_ln e) then s
  else bif Nat.beq (hf_rd e j) p then
    (bif Nat.blt (hf_ln e) (hf_ln (s / 32)) then e * 32 + j
     else bif Nat.ble j (s % 32 + 1) then (bif hf_nr V j e s then e * 32 + j else s) else 100000000000000000000)
  else s
def hf_ys1 (V p j d s : Nat) : Nat := bif Nat.blt d 999999 then hf_tk V p j (d + 1) (hf_tk V p j d s) else s
def hf_ys (V p : Nat) : Nat → Nat → Nat → Nat
  | 0, _, s => s
  | n + 1, j, s => hf_ys V p n (j + 1) (hf_ys1 V p j (hf_yd V j) s)
def hf_ck2 (x s : Nat) : Bool := Nat.blt 31 s && Nat.blt s 100000000000000000000 && Nat.beq x (s / 32 * 32 + 20 - s % 32)
def hf_ck1 (V p : Nat) : Bool := hf_ck2 (hf_xl V p 5 (hf_pl V 12 0)) (hf_ys V p 17 0 0)
def hf_ck (p : Nat) : Bool := Nat.beq p 0 || hf_ck1 (hf_A p) p
def hf_al : Nat → Nat → Bool
  | 0, _ => true
  | n + 1, b => hf_ck b && hf_al n (b + 1)
theorem hf_al_get : ∀ (n b p : Nat), hf_al n b = true → b ≤ p → p < b + n → hf_ck p = true := by
  intro n
  induction n with
  | zero => intro b p _ h1 h2; omega
  | succ n ih =>
    intro b p h h1 h2
    rw [hf_al, Bool.and_eq_true] at h
    rcases Nat.eq_or_lt_of_le h1 with z | z
    · rw [← z]; exact h.1
    · exact ih (b + 1) p h.2 z (by omega)
theorem hf_tk_poi {V p j e s : Nat} (h : 100000000000000000000 ≤ s) : hf_tk V p j e s = s := by simp only [hf_tk, hf_et h, cond_true]
theorem hf_ys1_poi {V p j d s : Nat} (h : 100000000000000000000 ≤ s) : hf_ys1 V p j d s = s := by
  unfold hf_ys1
  rw [hf_tk_poi (V := V) (p := p) (j := j) (e := d) h, hf_tk_poi h]
  cases Nat.blt d 999999 <;> rfl
theorem hf_ys_poi (V p : Nat) : ∀ (n j s : Nat), 100000000000000000000 ≤ s → hf_ys V p n j s = s := by
  intro n
  induction n with
  | zero => intro j s h; rfl
  | succ n ih =>
    intro j s h
    rw [hf_ys, hf_ys1_poi h]
    exact ih (j + 1) s h
theorem hf_tk_lt {V p j e s : Nat} (h : hf_tk V p j e s < 100000000000000000000) : s < 100000000000000000000 := by
  rcases Nat.lt_or_ge s 100000000000000000000 with z | z
  · exact z
  · rw [hf_tk_poi z] at h; exact h
theorem hf_ys_lt {V p n j s : Nat} (h : hf_ys V p n j s < 100000000000000000000) : s < 100000000000000000000 := by
  rcases Nat.lt_or_ge s 100000000000000000000 with z | z
  · exact z
  · rw [hf_ys_poi V p n j s z] at h; exact h
theorem hf_tk_no {V p j e s : Nat} (hs : s < 100000000000000000000) (h : e % 10 = 0 ∨ hf_rd e j ≠ p) : hf_tk V p j e s = s := by
  rcases h with h | h
  · simp only [hf_tk, hf_ef hs, hf_qt h, cond_true, cond_false]
  · simp only [hf_tk, hf_ef hs, hf_qf h, cond_false]
    cases Nat.beq (e % 10) 0 <;> cases Nat.beq s 0 <;> cases Nat.blt (hf_ln (s / 32)) (hf_ln e) <;> rfl
theorem hf_tk_0 {V p j e : Nat} (he : e % 10 ≠ 0) (hr : hf_rd e j = p) : hf_tk V p j e 0 = e * 32 + j := by
  simp only [hf_tk, hf_ef (show 0 < 100000000000000000000 by decide), hf_qf he, hf_qt hr, hf_qt (rfl : (0 : Nat) = 0), cond_true, cond_false]
theorem hf_tk_s {V p j e s : Nat} (hs : s < 100000000000000000000) (h0 : s ≠ 0) (he : e % 10 ≠ 0) (hr : hf_rd e j = p) :
    hf_tk V p j e s = bif Nat.blt (hf_ln (s / 32)) (hf_ln e) then s else bif Nat.blt (hf_ln e) (hf_ln (s / 32)) then e * 32 + j
      else bif Nat.ble j (s % 32 + 1) then (bif hf_nr V j e s then e * 32 + j else s) else 100000000000000000000 := by
  simp only [hf_tk, hf_ef hs, hf_qf he, hf_qt hr, hf_qf h0, cond_true, cond_false]
theorem hf_nd_g {V p j : Nat} (h : hf_nd V p j < 100000000000000000000) : hf_ov V j < 4611686018427387904 ∧ hf_ov V j / hf_un j < 999999 := by
  rcases Nat.lt_or_ge (hf_ov V j) 4611686018427387904 with z | z
  · rcases Nat.lt_or_ge (hf_ov V j / hf_un j) 999999 with y | y
    · exact ⟨z, y⟩
    · have e : hf_nd V p j = 100000000000000000000 := by simp only [hf_nd, hf_nd1, hf_nd2, hf_bf y, Bool.and_false, cond_false]
      omega
  · have e : hf_nd V p j = 100000000000000000000 := by simp only [hf_nd, hf_nd1, hf_nd2, hf_bf z, Bool.false_and, cond_false]
    omega
theorem hf_nd_v {V p j o u lo : Nat} (ho : hf_ov V j = o) (hu : hf_un j = u) (hl : o / u = lo) (h1 : o < 4611686018427387904) (h2 : lo < 999999) :
    hf_nd V p j = bif Nat.beq (hf_rd lo j) p && (Nat.ble (2 * (o % u)) u || !(Nat.beq (hf_rd (lo + 1) j) p)) then lo
    else bif Nat.beq (hf_rd (lo + 1) j) p then lo + 1 else 0 := by
  simp only [hf_nd, hf_nd1, hf_nd2, ho, hu, hl, hf_bt h1, hf_bt h2, Bool.and_true, cond_true]
theorem hf_xr_lt {d j : Nat} (hj : j ≤ 16) (h : hf_xr d j < 1000000000000000000000) : d < 100000000000000000000 := by
  rcases Nat.lt_or_ge d 100000000000000000000 with z | z
  · exact z
  · have e : hf_xr d j = d * 32 + 20 - j := by simp only [hf_xr, hf_qf (show d ≠ 10 by omega), cond_false]
    omega
theorem hf_ck_get {p : Nat} (h0 : p ≠ 0) (h : hf_ck p = true) :
    ∃ s, hf_ys (hf_A p) p 17 0 0 = s ∧ 32 ≤ s ∧ s < 100000000000000000000 ∧ hf_xl (hf_A p) p 5 (hf_pl (hf_A p) 12 0) = s / 32 * 32 + 20 - s % 32 := by
  simp only [hf_ck, hf_qf h0, Bool.false_or, hf_ck1, hf_ck2, Bool.and_eq_true, Nat.blt_eq, Nat.beq_eq] at h
  exact ⟨_, rfl, h.1.1, h.1.2, h.2⟩
/-! the digits' count -/
theorem hf_ln_is {d n : Nat} (h1 : n = 1 ∨ 10 ^ (n - 1) ≤ d) (h2 : d < 10 ^ n) (hn : 1 ≤ n) (h7 : n ≤ 7) (hd : d < 10000000) : hf_ln d = n := by
  rcases (show n = 1 ∨ n = 2 ∨ n = 3 ∨ n = 4 ∨ n = 5 ∨ n = 6 ∨ n = 7 by omega) with rfl | rfl | rfl | rfl | rfl | rfl | rfl
  · have c2 : d < 10 := h2
    simp only [hf_ln, hf_bt c2, cond_true]
  · have c1 : 10 ≤ d := h1.resolve_left (by decide)
    have c2 : d < 100 := h2
    simp only [hf_ln, hf_bf (show 10 ≤ d by omega), hf_bt c2, cond_true, cond_false]
  · have c1 : 100 ≤ d := h1.resolve_left (by decide)
    have c2 : d < 1000 := h2
    simp only [hf_ln, hf_bf (show 10 ≤ d by omega), hf_bf (show 100 ≤ d by omega), hf_bt c2, cond_true, cond_false]
  · have c1 : 1000 ≤ d := h1.resolve_left (by decide)
    have c2 : d < 10000 := h2
    simp only [hf_ln, hf_bf (show 10 ≤ d by omega), hf_bf (show 100 ≤ d by omega), hf_bf (show 1000 ≤ d by omega), hf_bt c2, cond_true, cond_false]
  · have c1 : 10000 ≤ d := h1.resolve_left (by decide)
    have c2 : d < 100000 := h2
    simp only [hf_ln, hf_bf (show 10 ≤ d by omega), hf_bf (show 100 ≤ d by omega), hf_bf (show 1000 ≤ d by omega), hf_bf (show 10000 ≤ d by omega), hf_bt c2, cond_true, cond_false]
  · have c1 : 100000 ≤ d := h1.resolve_left (by decide)
    have c2 : d < 1000000 := h2
    simp only [hf_ln, hf_bf (show 10 ≤ d by omega), hf_bf (show 100 ≤ d by omega), hf_bf (show 1000 ≤ d by omega), hf_bf (show 10000 ≤ d by omega), hf_bf (show 100000 ≤ d by omega), hf_bt c2, cond_true, cond_false]
  · have c1 : 1000000 ≤ d := h1.resolve_left (by decide)
    simp only [hf_ln, hf_bf (show 10 ≤ d by omega), hf_bf (show 100 ≤ d by omega), hf_bf (show 1000 ≤ d by omega), hf_bf (show 10000 ≤ d by omega), hf_bf (show 100000 ≤ d by omega), hf_bf (show 1000000 ≤ d by omega), cond_false]
theorem hf_tk_or {V p j e s : Nat} (h : hf_tk V p j e s < 100000000000000000000) : hf_tk V p j e s = s ∨ (hf_tk V p j e s = e * 32 + j ∧ e % 10 ≠ 0) := by
  have hs := hf_tk_lt h
  by_cases he : e % 10 = 0
  · exact Or.inl (hf_tk_no hs (Or.inl he))
  · by_cases hr : hf_rd e j = p
    · by_cases h0 : s = 0
      · subst h0
        exact Or.inr ⟨hf_tk_0 he hr, he⟩
      · have q := hf_tk_s (V := V) hs h0 he hr
        rw [q] at h ⊢
        revert h
        cases Nat.blt (hf_ln (s / 32)) (hf_ln e) <;> cases Nat.blt (hf_ln e) (hf_ln (s / 32)) <;> cases Nat.ble j (s % 32 + 1) <;> cases hf_nr V j e s <;> intro h <;>
          first | exact Or.inl rfl | exact Or.inr ⟨rfl, he⟩ | exact absurd h (Nat.lt_irrefl _)
    · exact Or.inl (hf_tk_no hs (Or.inr hr))
def hf_inv (j s : Nat) : Prop := s = 0 ∨ (32 ≤ s ∧ s < 32000000 ∧ s % 32 ≤ j)
theorem hf_inv_up {j s : Nat} (h : hf_inv j s) : hf_inv (j + 1) s := by
  rcases h with h | ⟨h1, h2, h3⟩
  · exact Or.inl h
  · exact Or.inr ⟨h1, h2, by omega⟩
theorem hf_inv_tk {V p j e s : Nat} (hj : j ≤ 16) (he : e ≤ 999999) (hI : hf_inv j s) (h : hf_tk V p j e s < 100000000000000000000) : hf_inv j (hf_tk V p j e s) := by
  rcases hf_tk_or h with q | ⟨q, z⟩
  · rw [q]; exact hI
  · rw [q]; exact Or.inr ⟨by omega, by omega, by omega⟩
theorem hf_ov_s {V j : Nat} (h : 4 ≤ j) : hf_ov V (j + 1) = hf_ov V j * 10 := by
  unfold hf_ov
  rw [show j + 1 - 4 = j - 4 + 1 by omega, Nat.pow_succ, Nat.mul_assoc]
theorem hf_un_hi {j : Nat} (h : 4 ≤ j) : hf_un j = 16777216 := by
  have e : 4 - j = 0 := by omega
  simp [hf_un, e]
theorem hf_ov_lo {V j : Nat} (h : j ≤ 4) : hf_ov V j = V := by
  unfold hf_ov
  rw [show j - 4 = 0 by omega, Nat.pow_zero, Nat.mul_one]
theorem hf_pl_le (V : Nat) : ∀ n k, hf_pl V n k ≤ k + n := by
  intro n
  induction n with
  | zero => intro k; exact Nat.le_refl _
  | succ n ih =>
    intro k
    rw [hf_pl]
    have := ih (k + 1)
    cases Nat.ble (hf_un k) (hf_ov V k)
    · simp only [cond_false]; omega
    · simp only [cond_true]; omega
theorem hf_ct {α : Type} {c : Bool} {a b : α} (h : c = true) : cond c a b = a := by subst h; rfl
theorem hf_cf {α : Type} {c : Bool} {a b : α} (h : c = false) : cond c a b = b := by subst h; rfl
theorem hf_rd_lo {d j : Nat} (h : j ≤ 4) : hf_rd d j = hf_R (d * 10 ^ (4 - j) * 16777216) 1 := by
  unfold hf_rd
  exact hf_ct (hf_et h)
theorem hf_rd_hi {d j : Nat} (h : 4 < j) : hf_rd d j = hf_R (d * 16777216) (10 ^ (j - 4)) := by
  unfold hf_rd
  exact hf_cf (hf_ef h)
/-- d * 10^x, rounded -/
def hf_dc (d : Nat) (x : Int) : Nat := if 0 ≤ x then hf_R (d * 10 ^ x.toNat * 16777216) 1 else hf_R (d * 16777216) (10 ^ (-x).toNat)
theorem hf_dc_n (d n : Nat) : hf_dc d (n : Int) = hf_R (d * 10 ^ n * 16777216) 1 := by
  rw [hf_dc, if_pos (by omega), Int.toNat_natCast]
theorem hf_dc_m {d n : Nat} (h : 0 < n) : hf_dc d (-(n : Int)) = hf_R (d * 16777216) (10 ^ n) := by
  rw [hf_dc, if_neg (by omega), Int.neg_neg, Int.toNat_natCast]
theorem hf_dc_j (d j : Nat) : hf_dc d (4 - (j : Int)) = hf_rd d j := by
  rcases Nat.lt_or_ge 4 j with h | h
  · rw [hf_rd_hi h, show (4 : Int) - (j : Int) = -((j - 4 : Nat) : Int) by omega, hf_dc_m (by omega)]
  · rw [hf_rd_lo h, show (4 : Int) - (j : Int) = ((4 - j : Nat) : Int) by omega, hf_dc_n]
theorem hf_p10 {n : Nat} (h : n ≤ 12) : 10 ^ n ≤ 1000000000000 := Nat.pow_le_pow_right (n := 10) (j := 12) (by decide) h
theorem hf_p10p (n : Nat) : 0 < 10 ^ n := Nat.pow_pos_iff.mpr (Or.inl (by decide))
end
section
/-! the fields of a pattern -/
def hf_e (k : Nat) : Nat := k / 1024 % 32
def hf_dg (k : Nat) : Nat := if hf_e k = 0 then k % 1024 else 1024 + k % 1024
def hf_sh (k : Nat) : Nat := if hf_e k = 0 then 0 else hf_e k - 1
theorem hf_e_lt (k : Nat) : hf_e k < 32 := Nat.mod_lt _ (by decide)
theorem hf_dg_lt (k : Nat) : hf_dg k < 2048 := by unfold hf_dg; split <;> omega
theorem hf_sh_lt (k : Nat) : hf_sh k < 31 := by
  have := hf_e_lt k
  unfold hf_sh
  split <;> omega
theorem hf_e_mod (k : Nat) : hf_e (k % 32768) = hf_e k := by unfold hf_e; omega
theorem hf_A_ds (k : Nat) : hf_A (k % 32768) = hf_dg k * 2 ^ hf_sh k := by
  have e0 : hf_e k = k % 32768 / 1024 := by unfold hf_e; omega
  have e1 : k % 32768 % 1024 = k % 1024 := by omega
  rcases Nat.lt_or_ge (k % 32768) 1024 with h | h
  · have z : hf_e k = 0 := by omega
    rw [hf_A_lo h, hf_dg, hf_sh, if_pos z, if_pos z]
    omega
  · have z : ¬ hf_e k = 0 := by omega
    rw [hf_A_hi h, hf_dg, hf_sh, if_neg z, if_neg z, e1, ← e0]
theorem hf_A_lt40 {k : Nat} (h : hf_e k ≠ 31) : hf_A (k % 32768) < 1099511627776 := by
  have h2 : k % 32768 < 31744 := by unfold hf_e at h; omega
  have h3 := hf_A_lt (k % 32768)
  have h4 := hf_A_bd (p := k % 32768 + 1) (by omega)
  omega
theorem hx_eb {k : Nat} (hk : k < 65536) : (nI k >>> ((10 : Int32) &&& 31)) &&& 31 = nI (hf_e k) := by
  have e1 := pk_shrN (n := k) (by omega) ((10 : Int32) &&& 31) 10 (by decide)
  have e2 := pk_andN (n := k / 1024) (by omega) (m := 31) 5 (by decide)
  rw [e1]
  exact e2
theorem hx_fr {k : Nat} (hk : k < 65536) : nI k &&& 1023 = nI (k % 1024) := pk_andN (by omega) 10 (by decide)
theorem hx_nand (a b : Nat) : nI a &&& nI b = nI (a &&& b) := by
  apply Int32.toBitVec_inj.1
  show BitVec.ofNat 32 a &&& BitVec.ofNat 32 b = BitVec.ofNat 32 (a &&& b)
  apply BitVec.eq_of_getLsbD_eq
  intro i hi
  simp [hi]
theorem hx_a0 {k : Nat} (h : k < 32768) : k &&& 32768 = 0 := by
  apply Nat.eq_of_testBit_eq
  intro i
  rw [Nat.testBit_and, Nat.zero_testBit, show (32768 : Nat) = 2 ^ 15 from rfl, Nat.testBit_two_pow]
  by_cases e : 15 = i
  · subst e
    rw [Nat.testBit_lt_two_pow h]
    rfl
  · simp [e]
theorem hx_a1 {k : Nat} (h : 32768 ≤ k) (h2 : k < 65536) : k &&& 32768 ≠ 0 := by
  intro z
  have t : Nat.testBit (k &&& 32768) 15 = Nat.testBit 0 15 := by rw [z]
  have h3 : Nat.testBit k 15 = true := by rw [Nat.testBit_eq_decide_div_mod_eq]; exact decide_eq_true (by omega)
  have h4 : Nat.testBit 32768 15 = true := by decide
  rw [Nat.testBit_and, h3, h4, Nat.zero_testBit] at t
  exact absurd t (by decide)
theorem hx_sg {k : Nat} (hk : k < 65536) : nI k &&& 32768 = 0 ↔ k < 32768 := by
  have e : nI k &&& 32768 = nI (k &&& 32768) := hx_nand k 32768
  have b : k &&& 32768 ≤ k := Nat.and_le_left
  rw [e, ← nI_0, nI_eq (by omega) (by omega)]
  constructor
  · intro z
    rcases Nat.lt_or_ge k 32768 with y | y
    · exact y
    · exact absurd z (hx_a1 y hk)
  · exact hx_a0
theorem hx_ms {k : Nat} (hk : k < 65536) : nI k &&& (-32769) = nI (k % 32768) := by
  have e : nI k &&& nI 4294934527 = nI (k &&& 4294934527) := hx_nand k 4294934527
  have e0 : (-32769 : Int32) = nI 4294934527 := by decide +kernel
  have e1 : k &&& 65535 = k := by
    have := Nat.and_two_pow_sub_one_eq_mod k 16
    rw [Nat.mod_eq_of_lt (by omega)] at this
    exact this
  have e2 : k &&& 4294934527 = k % 32768 := by
    have h : k &&& 65535 &&& 4294934527 = k &&& 32767 := by
      rw [Nat.and_assoc]
      exact congrArg (fun x => k &&& x) (by decide +kernel)
    rw [e1] at h
    rw [h]
    exact Nat.and_two_pow_sub_one_eq_mod k 15
  rw [e0, e, e2]
theorem hx_lo {k : Nat} (hk : k < 65536) : nI k &&& 32767 = nI (k % 32768) := pk_andN (by omega) 15 (by decide)
theorem hy_dv {k : Nat} (hk : k < 65536) : nI k / 1024 = nI (k / 1024) := pk_div (d := 1024) (by omega) (by decide) (by decide)
theorem hy_eb {k : Nat} (hk : k < 65536) : nI k / 1024 - nI k / 1024 / 32 * 32 = nI (hf_e k) := by
  rw [hy_dv hk]
  exact pk_rem (d := 32) (by omega) (by decide) (by decide)
theorem hy_fr {k : Nat} (hk : k < 65536) : nI k - nI k / 1024 * 1024 = nI (k % 1024) := pk_rem (d := 1024) (by omega) (by decide) (by decide)
/-- the number of a pattern, with its sign, in units -/
def hf_Z (k : Nat) : Int := if k < 32768 then (hf_A (k % 32768) : Int) else -(hf_A (k % 32768) : Int)
/-- patterns that are numbers -/
def hf_ok (k : Nat) : Prop := k < 65536 ∧ hf_e k ≠ 31
theorem hf_Z_bd {k : Nat} (h : hf_ok k) : -1099511627776 < hf_Z k ∧ hf_Z k < 1099511627776 := by
  have := hf_A_lt40 h.2
  unfold hf_Z
  split <;> omega
def hf_sn (r : Nat) : Nat := if r = 0 then 0 else r + 32768
end
section
/-! the component's small methods -/
theorem hz_m24 : hz_i (-24) = -24 := by decide +kernel
theorem hz_m40 : hz_i (-40) = -40 := by decide +kernel
theorem hz_25 : hz_i 25 = 25 := by decide +kernel
theorem hz_11 : hz_i 11 = 11 := by decide +kernel
theorem hz_i0 : hz_i 0 = 0 := by decide +kernel
theorem hz_30 : hz_i 30 = 30 := by decide +kernel
theorem hz_l0 : hz_l 0 = 0 := by decide +kernel
theorem hx_expB {k : Nat} (hk : k < 65536) {post : Int32 → Prop} (h : post (nI (hf_e k))) : wpX_exponentBits post (nI k) := by
  unfold wpX_exponentBits
  rw [hx_eb hk]
  exact h
theorem hx_e0 (k : Nat) : nI (hf_e k) = 0 ↔ hf_e k = 0 := nI_eq (b := 0) (by have := hf_e_lt k; omega) (by decide)
theorem hx_e31 (k : Nat) : nI (hf_e k) = 31 ↔ hf_e k = 31 := nI_eq (b := 31) (by have := hf_e_lt k; omega) (by decide)
theorem hx_ok {k : Nat} (h : hf_ok k) {post : Int32 → Prop} (hp : post 1) : wpX_isNumber post (nI k) := by
  have hk := h.1
  exact br_f (nI_pos (by omega)) (br_f (nI_nlt (a := 65535) (b := k) (by omega) (by decide)) (hx_expB hk (br_f (fun z => h.2 ((hx_e31 k).mp z)) hp)))
theorem hy_ok {k : Nat} (h : hf_ok k) {post : Int32 → Prop} (hp : post 0) : wpY_bad post (nI k) := by
  have hk := h.1
  refine br_f (nI_pos (by omega)) (br_f (nI_nlt (a := 65535) (b := k) (by omega) (by decide)) ⟨by decide, by decide, br_f ?_ hp⟩)
  rw [hy_eb hk]
  exact fun z => h.2 ((hx_e31 k).mp z)
theorem hx_cls (v : Int32) : (∃ k, v = nI k ∧ hf_ok k) ∨ ((∀ post : Int32 → Prop, post 0 → wpX_isNumber post v) ∧ (∀ post : Int32 → Prop, post 1 → wpY_bad post v)) := by
  by_cases h0 : v < 0
  · exact Or.inr ⟨fun post hp => br_t h0 hp, fun post hp => br_t h0 hp⟩
  · obtain ⟨k, hk, rfl⟩ := nI_of h0
    rcases Nat.lt_or_ge 65535 k with h1 | h1
    · have h2 : (65535 : Int32) < nI k := nI_lt (a := 65535) h1 hk
      exact Or.inr ⟨fun post hp => br_f h0 (br_t h2 hp), fun post hp => br_f h0 (br_t h2 hp)⟩
    · have h2 : ¬ (65535 : Int32) < nI k := nI_nlt (a := 65535) h1 (by decide)
      have hk2 : k < 65536 := by omega
      by_cases h3 : hf_e k = 31
      · refine Or.inr ⟨fun post hp => br_f h0 (br_f h2 (hx_expB hk2 (br_t ((hx_e31 k).mpr h3) hp))), fun post hp => br_f h0 (br_f h2 ⟨by decide, by decide, br_t ?_ hp⟩)⟩
        rw [hy_eb hk2]
        exact (hx_e31 k).mpr h3
      · exact Or.inl ⟨k, rfl, hk2, h3⟩
theorem hx_sig {k : Nat} (hk : k < 65536) {post : Int64 → Prop} (hp : post (lN (hf_dg k))) : wpX_significandOf post (nI k) := by
  refine nm_r (hx_fr hk) (hx_expB hk ?_)
  unfold hf_dg at hp
  by_cases z : hf_e k = 0
  · rw [if_pos z] at hp
    refine br_t ((hx_e0 k).mpr z) ?_
    rw [nI_l (by omega)]
    exact hp
  · rw [if_neg z] at hp
    refine br_f (fun y => z ((hx_e0 k).mp y)) ?_
    rw [show (1024 : Int32) + nI (k % 1024) = nI (1024 + k % 1024) from nI_add 1024 _, nI_l (by omega)]
    exact hp
theorem hx_sca {k : Nat} (hk : k < 65536) {post : Int32 → Prop} (hp : post (hz_i ((hf_sh k : Int) - 24))) : wpX_scaleOf post (nI k) := by
  refine hx_expB hk ?_
  by_cases z : hf_e k = 0
  · have e : (hf_sh k : Int) - 24 = -24 := by rw [hf_sh, if_pos z]; rfl
    rw [e, hz_m24] at hp
    exact br_t ((hx_e0 k).mpr z) hp
  · have e : (hf_sh k : Int) - 24 = (hf_e k : Int) - 25 := by rw [hf_sh, if_neg z]; omega
    rw [e, ← hz_is, hz_in, hz_25] at hp
    exact br_f (fun y => z ((hx_e0 k).mp y)) hp
theorem hx_neg {k : Nat} (hk : k < 65536) {post : Int32 → Prop} (hp : post (if k < 32768 then 0 else 1)) : wpX_isMarkedNegative post (nI k) := by
  by_cases z : k < 32768
  · rw [if_pos z] at hp
    exact br_t ((hx_sg hk).mpr z) hp
  · rw [if_neg z] at hp
    exact br_f (fun y => z ((hx_sg hk).mp y)) hp
theorem hx_uni {k : Nat} (h : hf_ok k) {post : Int64 → Prop} (hp : post (hz_l (hf_Z k))) : wpX_unitsOf post (nI k) := by
  have hk := h.1
  refine hx_sig hk (hx_sca hk (nm_r (e' := lN (hf_A (k % 32768))) ?_ (hx_neg hk ?_)))
  · have e : hz_i ((hf_sh k : Int) - 24) - (-24) = nI (hf_sh k) := by
      rw [← hz_m24, hz_is, show (hf_sh k : Int) - 24 - (-24) = (hf_sh k : Int) by omega, hz_in]
    rw [e, wb_shl _ (by have := hf_sh_lt k; omega), ← hf_A_ds]
  · unfold hf_Z at hp
    by_cases z : k < 32768
    · rw [if_pos z] at hp
      rw [if_pos z]
      exact br_t rfl (by rw [← hz_ln]; exact hp)
    · rw [if_neg z] at hp
      rw [if_neg z]
      exact br_f (by decide) (by rw [← hz_ln, hz_lg]; exact hp)
/-! the bits of an amount -/
theorem hx_bl {A : Nat} (h0 : A ≠ 0) (hA : A < 2 ^ 62) {post : Int32 → Prop} (hp : post (nI (A.log2 + 1))) : wpX_bitLength post (lN A) := by
  have hL : A.log2 + 1 ≤ 62 := hf_L3 h0 hA
  have key : ∀ d i, i + d = 63 → wX_bitLength_4 post (lN A) (d + 1) (nI (min i (A.log2 + 1))) (nI i) := by
    intro d
    induction d with
    | zero =>
      intro i hi
      refine br_t (nI_le (a := 63) (b := i) (by omega) (by omega)) ?_
      rw [show min i (A.log2 + 1) = A.log2 + 1 by omega]
      exact hp
    | succ d ih =>
      intro i hi
      refine br_f (nI_ge (a := i) (b := 63) (by omega) (by decide)) ?_
      have e : lN A >>> ((nI i).toInt64 &&& 63) = lN (A / 2 ^ i) := hz_shr hA (by omega)
      have hq : A / 2 ^ i < 2 ^ 62 := Nat.lt_of_le_of_lt (Nat.div_le_self _ _) hA
      have ih2 := ih (i + 1) (by omega)
      rcases Nat.lt_or_ge i (A.log2 + 1) with z | z
      · refine br_f (fun y => ?_) (nm_r (nI_1 i) (nm_r (nI_1 i) ?_))
        · rw [e] at y
          have y2 := (pk_lEQ (b := 0) (by omega) (by decide)).mp y
          have y3 := (hf_shz h0).mp y2
          omega
        · rw [show min (i + 1) (A.log2 + 1) = i + 1 by omega] at ih2
          exact ih2
      · refine br_t ?_ (nm_r (nI_1 i) ?_)
        · rw [e, (hf_shz h0).mpr z]
          rfl
        · rw [show min (i + 1) (A.log2 + 1) = min i (A.log2 + 1) by omega] at ih2
          exact ih2
  have k0 := key 63 0 (by omega)
  rw [Nat.zero_min] at k0
  exact ⟨64, k0⟩
/-! the shift that rounds -/
theorem hx_rs0 {A t : Nat} (ht : t < 64) {m : Int32} {post : Int64 → Prop} (hp : post (lN (A * 2 ^ t))) : wpX_roundedShift post (lN A) (hz_i (-(t : Int))) m := by
  refine br_f (fun y => ?_) ?_
  · rw [← hz_i0, hz_iLT (by omega) (by omega)] at y
    omega
  · rw [hz_ig, Int.neg_neg, hz_in, wb_shl _ ht]
    exact hp
theorem hx_54t {q : Nat} {x6 x8 : Int64} {post : Int64 → Prop} (hp : post (lN (q + 1))) : wX_roundedShift_54 post (lN q) x6 x8 1 := by
  rw [← lN_1] at hp
  exact br_c (fun _ => br_c (fun _ => br_f (by decide) hp) (fun _ => br_f (by decide) hp)) (fun _ => br_f (by decide) hp)
theorem hx_54f {q rest half : Nat} (hq : q < 2 ^ 63) (hr : rest < 2 ^ 63) (hh : half < 2 ^ 63) {post : Int64 → Prop} (h1 : rest = half → q % 2 = 1 → post (lN (q + 1))) (h0 : ¬ (rest = half ∧ q % 2 = 1) → post (lN q)) :
    wX_roundedShift_54 post (lN q) (lN rest) (lN half) 0 := by
  by_cases z : rest = half
  · refine br_t (by rw [z]) ?_
    by_cases y : q % 2 = 1
    · refine br_f (fun w => ?_) ?_
      · rw [wb_a1 (by omega)] at w
        have := (pk_lEQ (b := 0) (by omega) (by decide)).mp w
        omega
      · have h2 := h1 z y
        rw [← lN_1] at h2
        exact br_t rfl (br_f (by decide) h2)
    · refine br_t ?_ (br_t rfl (br_t rfl (h0 (fun w => y w.2))))
      rw [wb_a1 (by omega), show q % 2 = 0 by omega]
      rfl
  · exact br_f (fun w => z ((pk_lEQ hr hh).mp w)) (br_t rfl (br_t rfl (h0 (fun w => z w.1))))
theorem hx_rs1 {A sh : Nat} (hA : A < 2 ^ 62) (h0 : 0 < sh) (h6 : sh < 63) {m : Int32} {post : Int64 → Prop}
    (hp1 : (2 ^ (sh - 1) < A % 2 ^ sh ∨ (A % 2 ^ sh = 2 ^ (sh - 1) ∧ (¬ m = 0 ∨ A / 2 ^ sh % 2 = 1))) → post (lN (A / 2 ^ sh + 1)))
    (hp0 : ¬ (2 ^ (sh - 1) < A % 2 ^ sh ∨ (A % 2 ^ sh = 2 ^ (sh - 1) ∧ (¬ m = 0 ∨ A / 2 ^ sh % 2 = 1))) → post (lN (A / 2 ^ sh))) :
    wpX_roundedShift post (lN A) (nI sh) m := by
  have e6 : lN A - (lN (A / 2 ^ sh) <<< ((nI sh).toInt64 &&& 63)) = lN (A % 2 ^ sh) := by
    rw [wb_shl _ (by omega), lN_sub (Nat.div_mul_le_self _ _), ← Nat.mod_eq_sub_div_mul]
  have e8 : (1 : Int64) <<< ((nI sh - 1).toInt64 &&& 63) = lN (2 ^ (sh - 1)) := by
    obtain ⟨t, rfl⟩ : ∃ t, sh = t + 1 := ⟨sh - 1, by omega⟩
    rw [nI_pred, Nat.add_sub_cancel]
    have := wb_shl 1 (k := t) (by omega)
    rw [Nat.one_mul] at this
    exact this
  have b1 : A / 2 ^ sh < 2 ^ 62 := Nat.lt_of_le_of_lt (Nat.div_le_self _ _) hA
  have b2 : A % 2 ^ sh < 2 ^ 62 := Nat.lt_of_le_of_lt (Nat.mod_le _ _) hA
  have b3 : 2 ^ (sh - 1) < 2 ^ 62 := wb_lt2 (by omega)
  refine br_t (nI_lt (a := 0) (b := sh) h0 (by omega)) (nm_r (hz_shr hA (by omega)) (nm_r e6 (nm_r e8 ?_)))
  revert hp1 hp0 b1 b2 b3
  generalize A / 2 ^ sh = q
  generalize A % 2 ^ sh = rest
  generalize 2 ^ (sh - 1) = half
  intro hp1 hp0 b1 b2 b3
  by_cases z : half < rest
  · exact br_t ((pk_lLT (by omega) (by omega)).mpr z) (hx_54t (hp1 (Or.inl z)))
  · refine br_f (fun y => z ((pk_lLT (by omega) (by omega)).mp y)) ?_
    by_cases y : rest = half
    · refine br_t (by rw [y]) ?_
      by_cases w : m = 0
      · refine br_t w (hx_54f (by omega) (by omega) (by omega) (fun _ k => hp1 (Or.inr ⟨y, Or.inr k⟩)) (fun k => hp0 (fun v => ?_)))
        rcases v with v | ⟨v1, v2 | v2⟩
        · exact z v
        · exact v2 w
        · exact k ⟨v1, v2⟩
      · exact br_f w (hx_54t (hp1 (Or.inr ⟨y, Or.inl w⟩)))
    · refine br_f (fun w => y ((pk_lEQ (by omega) (by omega)).mp w)) (hx_54f (by omega) (by omega) (by omega) (fun k _ => absurd k y) (fun _ => hp0 (fun v => ?_)))
      rcases v with v | ⟨v1, _⟩
      · exact z v
      · exact y v1
end
section
/-! the component's rounding -/
theorem hx_69 {r : Nat} (hr : r ≤ 31744) {neg : Int32} {post : Int32 → Prop} (hp : post (if neg = 0 then nI r else nI (hf_sn r))) : wX_rounded_69 post neg (lN r) := by
  by_cases z : neg = 0
  · rw [if_pos z] at hp
    exact br_t z (by rw [lN_i]; exact hp)
  · rw [if_neg z] at hp
    refine br_f z ?_
    by_cases y : r = 0
    · subst y
      exact br_t rfl (by rw [lN_i]; exact hp)
    · rw [hf_sn, if_neg y] at hp
      refine br_f (fun w => y ((pk_lEQ (b := 0) (by omega) (by decide)).mp w)) (nm_r (lN_add r 32768) ?_)
      rw [lN_i]
      exact hp
theorem hx_pat {E K r : Nat} {pl : Int} {neg : Int32} {post : Int32 → Prop} (hpl : pl = (E : Int) - 24) (hE : E < 400) (hK : K ≤ 2048) (hr : hf_mn (E * 1024 + K) = r) (hp : post (if neg = 0 then nI r else nI (hf_sn r))) :
    ∀ x8 : Int64, x8 = (((hz_i pl - (-24)).toInt64) <<< ((10 : Int32).toInt64 &&& 63)) + lN K → ((x8 ≤ 31744 → wX_rounded_69 post neg x8) ∧ (¬ x8 ≤ 31744 → wX_rounded_69 post neg 31744)) := by
  have e1 : hz_i pl - (-24) = nI E := by rw [← hz_m24, hz_is, hpl, show (E : Int) - 24 - -24 = (E : Int) by omega, hz_in]
  have e2 : lN E <<< ((10 : Int32).toInt64 &&& 63) + lN K = lN (E * 1024 + K) :=
    (congrArg (fun z => z + lN K) (wb_shl E (k := 10) (by decide))).trans (lN_add _ _)
  rw [e1, nI_l (by omega), e2]
  refine nm_e ?_
  rcases Nat.lt_or_ge 31744 (E * 1024 + K) with z | z
  · rw [hf_mn_hi (by omega)] at hr
    subst hr
    refine br_f (fun y => ?_) (hx_69 (r := 31744) (by omega) hp)
    have := (pk_lLE (b := 31744) (by omega) (by decide)).mp y
    omega
  · rw [hf_mn_lo z] at hr
    subst hr
    exact br_t ((pk_lLE (b := 31744) (by omega) (by decide)).mpr z) (hx_69 z hp)
theorem hx_30 {A u l a b E L : Nat} {s pl sf : Int} {m neg : Int32} {post : Int32 → Prop} (hA : A < 2 ^ 62) (hs : -85 ≤ s ∧ s ≤ 60) (hab : s + 24 = (a : Int) - b) (hl : 0 < l)
    (h1 : A * (l * 2 ^ a) ≤ u * 2 ^ b) (h2 : u * 2 ^ b < (A + 1) * (l * 2 ^ a)) (hm : ¬ m = 0 ↔ u * 2 ^ b ≠ A * (l * 2 ^ a)) (hM : ¬ m = 0 → 2048 ≤ A ∨ a < b)
    (hL1 : 2 ^ (L - 1) ≤ A) (hL2 : A < 2 ^ L) (hL : 1 ≤ L) (hL3 : L ≤ 62) (hpl : pl = (E : Int) - 24)
    (hc : ((L : Int) - 11 + s < -24 ∧ E = 0 ∧ sf = -24 - s) ∨ (-24 ≤ (L : Int) - 11 + s ∧ (E : Int) = L - 11 + s + 24 ∧ sf = L - 11))
    (hp : post (if neg = 0 then nI (hf_R u l) else nI (hf_sn (hf_R u l)))) : wX_rounded_30 post (lN A) (hz_i s) m neg (hz_i pl) := by
  obtain ⟨s0, s1⟩ := hf_sel hL1 hL2 hL hc
  have e : hz_i pl - hz_i s = hz_i sf := by rw [hz_is]; congr 1; omega
  unfold wX_rounded_30
  rw [e]
  have hE : E < 400 := by omega
  by_cases c : 0 < sf
  · obtain ⟨sh, hsh⟩ : ∃ sh : Nat, sf = (sh : Int) := ⟨sf.toNat, by omega⟩
    obtain ⟨k1, k2⟩ := s1 sh hsh
    have X := hf_X1 (sh := sh) (by omega) (show E + b = sh + a by omega) h1 h2 hm k1 k2
    rw [hsh, hz_in]
    exact hx_rs1 hA (by omega) (by omega) (fun w => hx_pat hpl hE (by omega) (X.1 w).symm hp) (fun w => hx_pat hpl hE (by omega) (X.2 w).symm hp)
  · obtain ⟨t, ht⟩ : ∃ t : Nat, sf = -(t : Int) := ⟨(-sf).toNat, by omega⟩
    obtain ⟨k1, k2⟩ := s0 t ht
    have hm0 : m = 0 := by
      by_cases y : m = 0
      · exact y
      · rcases hM y with w | w
        · have h12 : 2 ^ 11 < 2 ^ L := Nat.lt_of_le_of_lt w hL2
          have h13 : 11 < L := (Nat.pow_lt_pow_iff_right (by decide)).mp h12
          omega
        · omega
    have hx : u * 2 ^ b = A * (l * 2 ^ a) := by
      by_cases y : u * 2 ^ b = A * (l * 2 ^ a)
      · exact y
      · exact absurd hm0 (hm.mpr y)
    have X := hf_X0 hl (show E + t + b = a by omega) hx k1 k2
    rw [ht]
    exact hx_rs0 (by omega) (hx_pat hpl hE (by omega) X.symm hp)
theorem hx_rounded {A u l a b : Nat} {s : Int} {m neg : Int32} {post : Int32 → Prop} (hA : A < 2 ^ 62) (hs : -85 ≤ s ∧ s ≤ 60) (hab : s + 24 = (a : Int) - b) (hl : 0 < l)
    (h1 : A * (l * 2 ^ a) ≤ u * 2 ^ b) (h2 : u * 2 ^ b < (A + 1) * (l * 2 ^ a)) (hm : ¬ m = 0 ↔ u * 2 ^ b ≠ A * (l * 2 ^ a)) (hM : ¬ m = 0 → 0 < A ∧ (2048 ≤ A ∨ a < b))
    (hp : post (if neg = 0 then nI (hf_R u l) else nI (hf_sn (hf_R u l)))) : wpX_rounded post (lN A) (hz_i s) m neg := by
  by_cases z : A = 0
  · subst z
    have hm0 : m = 0 := by
      by_cases y : m = 0
      · exact y
      · have := (hM y).1
        omega
    have hx : u * 2 ^ b = 0 := by
      by_cases y : u * 2 ^ b = 0 * (l * 2 ^ a)
      · rw [y, Nat.zero_mul]
      · exact absurd hm0 (hm.mpr y)
    have hu : u = 0 := by
      rcases Nat.mul_eq_zero.mp hx with y | y
      · exact y
      · have := Nat.two_pow_pos b
        omega
    rw [hu, hf_R_zero hl] at hp
    refine br_t rfl ?_
    by_cases y : neg = 0
    · rw [if_pos y] at hp
      exact hp
    · rw [if_neg y] at hp
      exact hp
  · refine br_f (fun y => z ((pk_lEQ (b := 0) (by omega) (by decide)).mp y)) (hx_bl z hA ?_)
    have hL3 := hf_L3 z hA
    have hL1 := hf_L1 z
    have hL2 := hf_L2 A
    revert hL1 hL2 hL3
    generalize hLe : A.log2 + 1 = L
    intro hL3 hL1 hL2
    have hL : 1 ≤ L := by omega
    have e : nI L - 11 + hz_i s = hz_i ((L : Int) - 11 + s) := by rw [← hz_in, ← hz_11, hz_is, hz_ia]
    refine nm_r e ?_
    by_cases c : -24 ≤ (L : Int) - 11 + s
    · obtain ⟨E, hE⟩ : ∃ E : Nat, (E : Int) = (L : Int) - 11 + s + 24 := ⟨((L : Int) - 11 + s + 24).toNat, by omega⟩
      refine br_t ?_ (hx_30 hA (by omega) hab hl h1 h2 hm (fun y => (hM y).2) hL1 hL2 hL hL3 (by omega) (Or.inr ⟨c, hE, rfl⟩) hp)
      rw [← hz_m24, hz_iLE (by omega) (by omega)]
      exact c
    · refine br_f (fun y => ?_) ?_
      · rw [← hz_m24, hz_iLE (by omega) (by omega)] at y
        exact c y
      · rw [← hz_m24]
        exact hx_30 (E := 0) hA (by omega) hab hl h1 h2 hm (fun y => (hM y).2) hL1 hL2 hL hL3 (by omega) (Or.inl ⟨by omega, rfl, rfl⟩) hp
theorem hx_rex {A u l a b : Nat} {s : Int} {neg : Int32} {post : Int32 → Prop} (hA : A < 2 ^ 62) (hs : -85 ≤ s ∧ s ≤ 60) (hab : s + 24 = (a : Int) - b) (hl : 0 < l) (h : u * 2 ^ b = A * (l * 2 ^ a))
    (hp : post (if neg = 0 then nI (hf_R u l) else nI (hf_sn (hf_R u l)))) : wpX_rounded post (lN A) (hz_i s) 0 neg := by
  have hq : 0 < l * 2 ^ a := Nat.mul_pos hl (Nat.two_pow_pos a)
  exact hx_rounded hA hs hab hl (by rw [h]; exact Nat.le_refl _) (by rw [h, Nat.add_mul, Nat.one_mul]; omega) ⟨fun y => absurd rfl y, fun y => absurd h y⟩ (fun y => absurd rfl y) hp
end
section
/-! sums, products, quotients -/
def hf_sum (σ : Int) : Int32 := if 0 ≤ σ then nI (hf_R σ.toNat 1) else nI (hf_sn (hf_R (-σ).toNat 1))
theorem hx_sum {σ : Int} (hb : -2199023255552 < σ ∧ σ < 2199023255552) {post : Int32 → Prop} (hp : post (hf_sum σ)) :
    (0 ≤ hz_l σ → wX_add_37 post (hz_l σ) 0) ∧ (¬ 0 ≤ hz_l σ → wX_add_37 post (hz_l σ) 1) := by
  have e : 0 ≤ hz_l σ ↔ 0 ≤ σ := by rw [← hz_l0]; exact hz_lLE (by omega) (by omega)
  unfold hf_sum at hp
  by_cases z : 0 ≤ σ
  · rw [if_pos z] at hp
    obtain ⟨n, rfl⟩ : ∃ n : Nat, σ = (n : Int) := ⟨σ.toNat, by omega⟩
    rw [Int.toNat_natCast] at hp
    have h := hx_rex (A := n) (u := n) (l := 1) (a := 0) (b := 0) (s := -24) (neg := 0) (post := post) (by omega) (by omega) (by omega) (by decide) (by omega) hp
    rw [hz_m24] at h
    refine br_t (e.mpr z) (br_t rfl ?_)
    rw [hz_ln]
    exact h
  · rw [if_neg z] at hp
    obtain ⟨n, hn⟩ : ∃ n : Nat, -σ = (n : Int) := ⟨(-σ).toNat, by omega⟩
    rw [hn, Int.toNat_natCast] at hp
    have h := hx_rex (A := n) (u := n) (l := 1) (a := 0) (b := 0) (s := -24) (neg := 1) (post := post) (by omega) (by omega) (by omega) (by decide) (by omega) hp
    rw [hz_m24] at h
    refine br_f (fun y => z (e.mp y)) (br_f (by decide) ?_)
    rw [hz_lg, hn, hz_ln]
    exact h
theorem hx_add {j k : Nat} (hj : hf_ok j) (hk : hf_ok k) {u : SX} {post : Int32 → Prop} (hp : post (hf_sum (hf_Z j + hf_Z k))) : wpX_add post u (nI j) (nI k) := by
  have b1 := hf_Z_bd hj
  have b2 := hf_Z_bd hk
  exact hx_ok hj (br_f (by decide) (hx_ok hk (br_f (by decide) (hx_uni hj (hx_uni hk (nm_r (hz_la _ _) (hx_sum (by omega) hp)))))))
/-- the sign of a product or quotient, and the answer -/
def hf_sg (j k r : Nat) : Int32 := if (j < 32768 ↔ k < 32768) then nI r else nI (hf_sn r)
theorem hx_mul {j k : Nat} (hj : hf_ok j) (hk : hf_ok k) {u : SX} {post : Int32 → Prop} {v l a b : Nat} (hab : (hf_sh j : Int) + hf_sh k - 24 = (a : Int) - b) (hl : 0 < l) (h : v * 2 ^ b = hf_dg j * hf_dg k * (l * 2 ^ a))
    (hp : post (hf_sg j k (hf_R v l))) : wpX_multiply post u (nI j) (nI k) := by
  have d1 := hf_dg_lt j
  have d2 := hf_dg_lt k
  have s1 := hf_sh_lt j
  have s2 := hf_sh_lt k
  have hA : hf_dg j * hf_dg k < 2 ^ 62 := Nat.lt_of_le_of_lt (Nat.mul_le_mul (Nat.le_of_lt d1) (Nat.le_of_lt d2)) (by decide)
  refine hx_ok hj (br_f (by decide) (hx_ok hk (br_f (by decide) (hx_sig hj.1 (hx_sig hk.1 (nm_r (lN_mul _ _) (hx_sca hj.1 (hx_sca hk.1 (nm_r (hz_ia _ _) (hx_neg hj.1 (hx_neg hk.1 ?_)))))))))))
  unfold hf_sg at hp
  by_cases z1 : j < 32768 <;> by_cases z2 : k < 32768
  · rw [if_pos (by simp [z1, z2])] at hp
    rw [if_pos z1, if_pos z2]
    exact br_t rfl (hx_rex hA (by omega) (by omega) hl h hp)
  · rw [if_neg (by simp [z1, z2])] at hp
    rw [if_pos z1, if_neg z2]
    exact br_f (by decide) (hx_rex hA (by omega) (by omega) hl h hp)
  · rw [if_neg (by simp [z1, z2])] at hp
    rw [if_neg z1, if_pos z2]
    exact br_f (by decide) (hx_rex hA (by omega) (by omega) hl h hp)
  · rw [if_pos (by simp [z1, z2])] at hp
    rw [if_neg z1, if_neg z2]
    exact br_t rfl (hx_rex hA (by omega) (by omega) hl h hp)
theorem hx_59 {j k A v l a b : Nat} {m : Int32} (hj : hf_ok j) (hk : hf_ok k) {post : Int32 → Prop} (hA : A < 2 ^ 62) (hab : (hf_sh j : Int) - hf_sh k - 6 = (a : Int) - b) (hl : 0 < l)
    (h1 : A * (l * 2 ^ a) ≤ v * 2 ^ b) (h2 : v * 2 ^ b < (A + 1) * (l * 2 ^ a)) (hm : ¬ m = 0 ↔ v * 2 ^ b ≠ A * (l * 2 ^ a)) (hM : ¬ m = 0 → 0 < A ∧ (2048 ≤ A ∨ a < b))
    (hp : post (hf_sg j k (hf_R v l))) : wX_divide_59 post (nI j) (nI k) (lN A) m := by
  have s1 := hf_sh_lt j
  have s2 := hf_sh_lt k
  have e : hz_i ((hf_sh j : Int) - 24) - hz_i ((hf_sh k : Int) - 24) - 30 = hz_i ((hf_sh j : Int) - 24 - ((hf_sh k : Int) - 24) - 30) := by rw [hz_is, ← hz_30, hz_is]
  refine hx_sca hj.1 (hx_sca hk.1 (nm_r e (hx_neg hj.1 (hx_neg hk.1 ?_))))
  unfold hf_sg at hp
  by_cases z1 : j < 32768 <;> by_cases z2 : k < 32768
  · rw [if_pos (by simp [z1, z2])] at hp
    rw [if_pos z1, if_pos z2]
    exact br_t rfl (hx_rounded hA (by omega) (by omega) hl h1 h2 hm hM hp)
  · rw [if_neg (by simp [z1, z2])] at hp
    rw [if_pos z1, if_neg z2]
    exact br_f (by decide) (hx_rounded hA (by omega) (by omega) hl h1 h2 hm hM hp)
  · rw [if_neg (by simp [z1, z2])] at hp
    rw [if_neg z1, if_pos z2]
    exact br_f (by decide) (hx_rounded hA (by omega) (by omega) hl h1 h2 hm hM hp)
  · rw [if_pos (by simp [z1, z2])] at hp
    rw [if_neg z1, if_neg z2]
    exact br_t rfl (hx_rounded hA (by omega) (by omega) hl h1 h2 hm hM hp)
theorem hx_div0 {j k : Nat} (hj : hf_ok j) (hk : hf_ok k) {u : SX} {post : Int32 → Prop} (z : hf_dg k = 0) (hp : post (-1)) : wpX_divide post u (nI j) (nI k) := by
  refine hx_ok hj (br_f (by decide) (hx_ok hk (br_f (by decide) (hx_sig hk.1 (br_t ?_ hp)))))
  rw [z]
  rfl
theorem hx_div {j k : Nat} (hj : hf_ok j) (hk : hf_ok k) {u : SX} {post : Int32 → Prop} {A v l a b : Nat} (z : hf_dg k ≠ 0) (hAe : hf_dg j * 2 ^ 30 / hf_dg k = A) (hab : (hf_sh j : Int) - hf_sh k - 6 = (a : Int) - b) (hl : 0 < l)
    (h1 : A * (l * 2 ^ a) ≤ v * 2 ^ b) (h2 : v * 2 ^ b < (A + 1) * (l * 2 ^ a)) (hm : A * hf_dg k ≠ hf_dg j * 2 ^ 30 ↔ v * 2 ^ b ≠ A * (l * 2 ^ a))
    (hp : post (hf_sg j k (hf_R v l))) : wpX_divide post u (nI j) (nI k) := by
  have d1 := hf_dg_lt j
  have d2 := hf_dg_lt k
  have hA : A < 2 ^ 62 := by
    have := Nat.div_le_self (hf_dg j * 2 ^ 30) (hf_dg k)
    omega
  have ne : ¬ lN (hf_dg k) = 0 := fun y => z ((pk_lEQ (b := 0) (by omega) (by decide)).mp y)
  have e1 : lN (hf_dg j) <<< ((30 : Int32).toInt64 &&& 63) = lN (hf_dg j * 2 ^ 30) := wb_shl _ (k := 30) (by decide)
  have e2 : lN (hf_dg j * 2 ^ 30) / lN (hf_dg k) = lN A := by rw [pk_lDiv (by omega) (by omega) (by omega), hAe]
  have b1 : A * hf_dg k ≤ hf_dg j * 2 ^ 30 := by rw [← hAe]; exact Nat.div_mul_le_self _ _
  refine hx_ok hj (br_f (by decide) (hx_ok hk (br_f (by decide) (hx_sig hk.1 (br_f ne (hx_sig hj.1 (nm_r e1 ⟨ne, nm_r e2 ?_⟩)))))))
  rw [lN_mul]
  have eq : lN (A * hf_dg k) = lN (hf_dg j * 2 ^ 30) ↔ A * hf_dg k = hf_dg j * 2 ^ 30 := pk_lEQ (by omega) (by omega)
  by_cases y : A * hf_dg k = hf_dg j * 2 ^ 30
  · exact br_t (eq.mpr y) (hx_59 hj hk hA hab hl h1 h2 ⟨fun w => absurd rfl w, fun w => absurd y (hm.mpr w)⟩ (fun w => absurd rfl w) hp)
  · refine br_f (fun w => y (eq.mp w)) (hx_59 hj hk hA hab hl h1 h2 ⟨fun _ => hm.mp y, fun _ => by decide⟩ (fun _ => ?_) hp)
    have hj0 : hf_dg j ≠ 0 := by
      intro w
      rw [w] at hAe y b1
      omega
    have h3 : 2048 ≤ A := by
      rw [← hAe]
      apply (Nat.le_div_iff_mul_le (by omega)).mpr
      omega
    exact ⟨by omega, Or.inl h3⟩
/-! roots -/
theorem hz_m1 : hz_i (-1) = -1 := by decide +kernel
theorem hz_pm {i : Nat} : nI i + (-1) = hz_i ((i : Int) - 1) := by rw [Int.sub_eq_add_neg, ← hz_ia, hz_in, hz_m1]
theorem hx_wr {F r : Nat} (hF : F < 2 ^ 42) (hr1 : r * r ≤ F) (hr2 : F < (r + 1) * (r + 1)) {post : Int64 → Prop} (hp : post (lN r)) : wpX_wholeRoot post (lN F) := by
  have key : ∀ i w, i ≤ 21 → w + 2 ^ i ≤ 2 ^ 21 → w * w ≤ F → F < (w + 2 ^ i) * (w + 2 ^ i) → wX_wholeRoot_6 post (lN F) (i + 1) (lN w) (hz_i ((i : Int) - 1)) := by
    intro i
    induction i with
    | zero =>
      intro w _ _ h1 h2
      have e : w = r := hf_rt_un h1 h2 hr1 hr2
      subst e
      refine br_t ?_ hp
      rw [← hz_i0, hz_iLT (by omega) (by omega)]
      omega
    | succ i ih =>
      intro w hi hw h1 h2
      refine br_f (fun y => ?_) ?_
      · rw [← hz_i0, hz_iLT (by omega) (by omega)] at y
        omega
      · have e0 : hz_i (((i + 1 : Nat) : Int) - 1) = nI i := by rw [show (((i + 1 : Nat) : Int) - 1) = (i : Int) by omega, hz_in]
        rw [e0]
        have e1 : lN w + ((1 : Int64) <<< ((nI i).toInt64 &&& 63)) = lN (w + 2 ^ i) := by
          have := wb_shl 1 (k := i) (by omega)
          rw [Nat.one_mul] at this
          exact (congrArg (fun z => lN w + z) this).trans (lN_add _ _)
        refine nm_r e1 ?_
        have p1 : 2 ^ (i + 1) = 2 ^ i + 2 ^ i := by rw [Nat.pow_succ]; omega
        have p2 := Nat.two_pow_pos i
        have b1 : (w + 2 ^ i) * (w + 2 ^ i) ≤ 2 ^ 21 * 2 ^ 21 := Nat.mul_le_mul (by omega) (by omega)
        rw [lN_mul]
        by_cases z : F < (w + 2 ^ i) * (w + 2 ^ i)
        · exact br_t ((pk_lLT (by omega) (by omega)).mpr z) (nm_r hz_pm (ih w (by omega) (by omega) h1 z))
        · exact br_f (fun y => z ((pk_lLT (by omega) (by omega)).mp y)) (nm_r hz_pm (ih (w + 2 ^ i) (by omega) (by omega) (by omega) (hf_rt_step h2)))
  have k0 := key 21 0 (by omega) (by omega) (by omega) (by omega)
  have e20 : hz_i (((21 : Nat) : Int) - 1) = 20 := by decide +kernel
  rw [e20] at k0
  exact ⟨22, k0⟩
theorem hf_rt_ex (v : Nat) : ∃ r, r * r ≤ v ∧ v < (r + 1) * (r + 1) := by
  induction v with
  | zero => exact ⟨0, by decide, by decide⟩
  | succ v ih =>
    obtain ⟨r, h1, h2⟩ := ih
    rcases Nat.lt_or_ge (v + 1) ((r + 1) * (r + 1)) with z | z
    · exact ⟨r, by omega, z⟩
    · have h3 : (r + 1) * (r + 1) < (r + 1 + 1) * (r + 1 + 1) := Nat.mul_self_lt_mul_self (by omega)
      exact ⟨r + 1, z, by omega⟩
theorem hx_rp : ∀ e : Nat, e < 31 → (e % 2 = 0 → ((hz_i ((e : Int) - 24) &&& 1) = 0 ∧ hz_i ((e : Int) - 24) / 2 - 14 = hz_i (((e / 2 : Nat) : Int) - 26))) ∧ (e % 2 = 1 → (¬ (hz_i ((e : Int) - 24) &&& 1) = 0 ∧ (hz_i ((e : Int) - 24) - 1) / 2 - 14 = hz_i (((e / 2 : Nat) : Int) - 26))) := by decide +kernel
/-- the digits under the root -/
def hf_D (k : Nat) : Nat := if hf_sh k % 2 = 0 then hf_dg k else hf_dg k * 2
theorem hf_D_lt (k : Nat) : hf_D k < 4096 := by
  have := hf_dg_lt k
  unfold hf_D
  split <;> omega
theorem hx_48 {D r v l a b c : Nat} {x4 : Int32} (hD : D < 4096) (hx4 : x4 / 2 - 14 = hz_i ((c : Int) - 26)) (hc : c < 16) {post : Int32 → Prop} (hr1 : r * r ≤ D * 2 ^ 28) (hr2 : D * 2 ^ 28 < (r + 1) * (r + 1)) (hab : (c : Int) - 2 = (a : Int) - b) (hl : 0 < l)
    (h1 : r * (l * 2 ^ a) ≤ v * 2 ^ b) (h2 : v * 2 ^ b < (r + 1) * (l * 2 ^ a)) (hm : r * r ≠ D * 2 ^ 28 ↔ v * 2 ^ b ≠ r * (l * 2 ^ a)) (hp : post (nI (hf_R v l))) : wX_root_48 post (lN D) x4 := by
  have e1 : lN D <<< ((28 : Int32).toInt64 &&& 63) = lN (D * 2 ^ 28) := wb_shl _ (k := 28) (by decide)
  have hr3 : r < 2 ^ 21 := by
    rcases Nat.lt_or_ge r (2 ^ 21) with z | z
    · exact z
    · have := Nat.mul_le_mul z z
      omega
  refine nm_r e1 (hx_wr (by omega) hr1 hr2 ?_)
  rw [lN_mul]
  have eq : lN (r * r) = lN (D * 2 ^ 28) ↔ r * r = D * 2 ^ 28 := pk_lEQ (by omega) (by omega)
  by_cases y : r * r = D * 2 ^ 28
  · refine br_t (eq.mpr y) ⟨by decide, ?_⟩
    rw [hx4]
    exact hx_rounded (by omega) (by omega) (by omega) hl h1 h2 ⟨fun w => absurd rfl w, fun w => absurd y (hm.mpr w)⟩ (fun w => absurd rfl w) (by rw [if_pos rfl]; exact hp)
  · refine br_f (fun w => y (eq.mp w)) ⟨by decide, ?_⟩
    rw [hx4]
    have hD0 : D ≠ 0 := by
      intro w
      subst w
      omega
    have h3 : 2048 ≤ r := by
      rcases Nat.lt_or_ge r 2048 with z | z
      · have := Nat.mul_le_mul (show r + 1 ≤ 2048 from z) (show r + 1 ≤ 2048 from z)
        omega
      · exact z
    exact hx_rounded (by omega) (by omega) (by omega) hl h1 h2 ⟨fun _ => hm.mp y, fun _ => by decide⟩ (fun _ => ⟨by omega, Or.inl h3⟩) (by rw [if_pos rfl]; exact hp)
theorem hx_root {k r v l a b : Nat} (hk : hf_ok k) (h32 : k ≤ 32768) {u : SX} {post : Int32 → Prop} (hr1 : r * r ≤ hf_D k * 2 ^ 28) (hr2 : hf_D k * 2 ^ 28 < (r + 1) * (r + 1)) (hab : ((hf_sh k / 2 : Nat) : Int) - 2 = (a : Int) - b) (hl : 0 < l)
    (h1 : r * (l * 2 ^ a) ≤ v * 2 ^ b) (h2 : v * 2 ^ b < (r + 1) * (l * 2 ^ a)) (hm : r * r ≠ hf_D k * 2 ^ 28 ↔ v * 2 ^ b ≠ r * (l * 2 ^ a)) (hp : post (nI (hf_R v l))) : wpX_root post u (nI k) := by
  have b1 := hf_Z_bd hk
  have hs := hf_sh_lt k
  have hz : 0 ≤ hf_Z k := by
    unfold hf_Z
    split
    · omega
    · have e : k % 32768 = 0 := by omega
      rw [e, hf_A_lo (by decide)]
      decide
  have e0 : 0 ≤ hz_l (hf_Z k) := by
    rw [← hz_l0]
    exact (hz_lLE (by omega) (by omega)).mpr hz
  have hDl := hf_D_lt k
  obtain ⟨p0, p1⟩ := hx_rp (hf_sh k) hs
  refine hx_ok hk (br_f (by decide) (hx_uni hk (br_t e0 (hx_sig hk.1 (hx_sca hk.1 ?_)))))
  by_cases z : hf_sh k % 2 = 0
  · obtain ⟨q1, q2⟩ := p0 z
    have eD : hf_D k = hf_dg k := by rw [hf_D, if_pos z]
    rw [eD] at hr1 hr2 hm hDl
    exact br_t q1 (hx_48 hDl q2 (by omega) hr1 hr2 hab hl h1 h2 hm hp)
  · obtain ⟨q1, q2⟩ := p1 (by omega)
    have eD : hf_D k = hf_dg k * 2 := by rw [hf_D, if_neg z]
    rw [eD] at hr1 hr2 hm hDl
    exact br_f q1 (nm_r (lN_mul (hf_dg k) 2) (nm_e (hx_48 hDl q2 (by omega) hr1 hr2 hab hl h1 h2 hm hp)))
theorem hx_root0 {k : Nat} (hk : hf_ok k) (h32 : 32768 < k) {u : SX} {post : Int32 → Prop} (hp : post (-1)) : wpX_root post u (nI k) := by
  have b1 := hf_Z_bd hk
  have hk2 := hk.1
  have hz : hf_Z k < 0 := by
    unfold hf_Z
    rw [if_neg (by omega)]
    have h1 := hf_A_mono (p := 1) (r := k % 32768) (by omega)
    rw [hf_A_lo (by decide)] at h1
    omega
  have e0 : ¬ 0 ≤ hz_l (hf_Z k) := by
    rw [← hz_l0, hz_lLE (by omega) (by omega)]
    omega
  exact hx_ok hk (br_f (by decide) (hx_uni hk (br_f e0 hp)))
end
section
/-! powers of ten, quotients, decimal numbers -/
theorem hx_ten {x : Nat} (hx : x ≤ 12) {post : Int64 → Prop} (hp : post (lN (10 ^ x))) : wpX_tenTo post (nI x) := by
  have key : ∀ d i, i + d = 12 → wX_tenTo_4 post (nI x) (d + 1) (lN (10 ^ (min i x))) (nI i) := by
    intro d
    induction d with
    | zero =>
      intro i hi
      refine br_t (nI_le (a := 12) (b := i) (by omega) (by omega)) ?_
      rw [show min i x = x by omega]
      exact hp
    | succ d ih =>
      intro i hi
      refine br_f (nI_ge (a := i) (b := 12) (by omega) (by decide)) ?_
      have ih2 := ih (i + 1) (by omega)
      rcases Nat.lt_or_ge i x with z | z
      · refine br_f (fun y => ?_) (nm_r (e' := lN (10 ^ (i + 1))) ?_ (nm_r (nI_1 i) ?_))
        · have := (nI_leI (by omega) (by omega)).mp y
          omega
        · rw [show min i x = i by omega, Nat.pow_succ]
          exact lN_mul _ 10
        · rw [show min (i + 1) x = i + 1 by omega] at ih2
          exact ih2
      · refine br_t ((nI_leI (by omega) (by omega)).mpr z) (nm_r (nI_1 i) ?_)
        rw [show min (i + 1) x = min i x by omega] at ih2
        exact ih2
  have k0 := key 12 0 (by omega)
  rw [Nat.zero_min] at k0
  exact ⟨13, k0⟩
theorem hx_wq {a b : Nat} (ha : a < 2 ^ 63) (hb : b < 2 ^ 63) (h0 : 0 < b) {post : Int64 → Prop} (hp : post (lN (a / b))) : wpX_wholeQuotient post (lN a) (lN b) := by
  refine br_f (fun y => ?_) ⟨fun y => ?_, ?_⟩
  · have := (pk_lLE (b := 0) hb (by decide)).mp y
    omega
  · have := (pk_lEQ (b := 0) hb (by decide)).mp y
    omega
  · rw [pk_lDiv ha h0 hb]
    exact hp
theorem hx_rdn {d n : Nat} (hd : d ≤ 999999) (h0 : 0 < n) (h12 : n ≤ 12) {post : Int32 → Prop} (hp : post (nI (hf_R (d * 16777216) (10 ^ n)))) : wpX_roundedDecimal post (lN d) (hz_i (-(n : Int))) := by
  have p1 := hf_p10 h12
  have p0 := hf_p10p n
  have e : d * 16777216 * 2 ^ 16 = d * 2 ^ 40 := by omega
  have hb : d * 2 ^ 40 < 2 ^ 62 := by omega
  have hb3 : d * 2 ^ 40 < 2 ^ 63 := by omega
  have e40 : lN d <<< ((40 : Int32).toInt64 &&& 63) = lN (d * 2 ^ 40) := wb_shl d (k := 40) (by decide)
  refine br_t ?_ ?_
  · rw [← hz_i0, hz_iLT (by omega) (by omega)]
    omega
  · rw [hz_ig, Int.neg_neg, hz_in]
    refine hx_ten h12 (nm_r e40 (hx_wq (by omega) (by omega) p0 ?_))
    have h1 : d * 2 ^ 40 / 10 ^ n * (10 ^ n * 2 ^ 0) ≤ d * 16777216 * 2 ^ 16 := by
      rw [Nat.pow_zero, Nat.mul_one, e]
      exact Nat.div_mul_le_self _ _
    have h2 : d * 16777216 * 2 ^ 16 < (d * 2 ^ 40 / 10 ^ n + 1) * (10 ^ n * 2 ^ 0) := by
      rw [Nat.pow_zero, Nat.mul_one, e]
      exact Nat.lt_mul_of_div_lt (Nat.lt_succ_self _) p0
    have h3 : d * 16777216 * 2 ^ 16 = d * 2 ^ 40 / 10 ^ n * (10 ^ n * 2 ^ 0) ↔ d * 2 ^ 40 / 10 ^ n * 10 ^ n = d * 2 ^ 40 := by
      rw [Nat.pow_zero, Nat.mul_one, e]
      exact ⟨fun h => h.symm, fun h => h.symm⟩
    have b0 : d * 2 ^ 40 / 10 ^ n * 10 ^ n ≤ d * 2 ^ 40 := Nat.div_mul_le_self _ _
    have b1 : d * 2 ^ 40 / 10 ^ n ≤ d * 2 ^ 40 := Nat.div_le_self _ _
    have b2 : d ≠ 0 → 0 < d * 2 ^ 40 / 10 ^ n := fun w => Nat.div_pos (by omega) p0
    have b3 : d = 0 → d * 2 ^ 40 / 10 ^ n * 10 ^ n = d * 2 ^ 40 := by
      intro w
      subst w
      rw [Nat.zero_mul, Nat.zero_div, Nat.zero_mul]
    rw [lN_mul]
    revert h1 h2 h3 b0 b1 b2 b3
    generalize d * 2 ^ 40 / 10 ^ n = A
    intro h1 h2 h3 b0 b1 b2 b3
    have eq : lN (A * 10 ^ n) = lN (d * 2 ^ 40) ↔ A * 10 ^ n = d * 2 ^ 40 := pk_lEQ (Nat.lt_of_le_of_lt b0 hb3) hb3
    by_cases y : A * 10 ^ n = d * 2 ^ 40
    · refine br_t (eq.mpr y) ?_
      have g := hx_rounded (A := A) (u := d * 16777216) (l := 10 ^ n) (a := 0) (b := 16) (s := -40) (m := 0) (neg := 0) (post := post) (Nat.lt_of_le_of_lt b1 hb) (by decide) (by decide) p0 h1 h2 ⟨fun w => absurd rfl w, fun w => absurd (h3.mpr y) w⟩ (fun w => absurd rfl w) (by rw [if_pos rfl]; exact hp)
      rw [hz_m40] at g
      exact g
    · refine br_f (fun w => y (eq.mp w)) ?_
      have g := hx_rounded (A := A) (u := d * 16777216) (l := 10 ^ n) (a := 0) (b := 16) (s := -40) (m := 1) (neg := 0) (post := post) (Nat.lt_of_le_of_lt b1 hb) (by decide) (by decide) p0 h1 h2 ⟨fun _ w => y (h3.mp w), fun _ => by decide⟩ (fun _ => ⟨b2 (fun w => y (b3 w)), Or.inr (by decide)⟩) (by rw [if_pos rfl]; exact hp)
      rw [hz_m40] at g
      exact g
theorem hx_rdp {d n : Nat} (hd : d ≤ 999999) (h12 : n ≤ 12) {post : Int32 → Prop} (hp : post (nI (hf_R (d * 10 ^ n * 16777216) 1))) : wpX_roundedDecimal post (lN d) (nI n) := by
  have p1 := hf_p10 h12
  have b1 : d * 10 ^ n ≤ 999999 * 1000000000000 := Nat.mul_le_mul hd p1
  refine br_f (nI_pos (by omega)) (hx_ten h12 (nm_r (lN_mul d (10 ^ n)) ?_))
  have g := hx_rex (A := d * 10 ^ n) (u := d * 10 ^ n * 16777216) (l := 1) (a := 24) (b := 0) (s := 0) (neg := 0) (post := post) (by omega) (by omega) (by omega) (by decide) (by omega) (by rw [if_pos rfl]; exact hp)
  rw [hz_i0] at g
  exact g
theorem hx_rd {d : Nat} {x : Int} (hd : d ≤ 999999) (hx : -12 ≤ x ∧ x ≤ 12) {post : Int32 → Prop} (hp : post (nI (hf_dc d x))) : wpX_roundedDecimal post (lN d) (hz_i x) := by
  by_cases z : x < 0
  · obtain ⟨n, rfl⟩ : ∃ n : Nat, x = -(n : Int) := ⟨(-x).toNat, by omega⟩
    rw [hf_dc_m (by omega)] at hp
    exact hx_rdn hd (by omega) (by omega) hp
  · obtain ⟨n, rfl⟩ : ∃ n : Nat, x = (n : Int) := ⟨x.toNat, by omega⟩
    rw [hf_dc_n] at hp
    rw [hz_in]
    exact hx_rdp hd (by omega) hp
/-! the writing -/
theorem hf_Z_lo {p : Nat} (h : p < 32768) : hf_Z p = (hf_A p : Int) := by rw [hf_Z, if_pos h, Nat.mod_eq_of_lt h]
theorem hx_u {p : Nat} (h : p < 31744) {post : Int64 → Prop} (hp : post (lN (hf_A p))) : wpX_unitsOf post (nI p) := by
  have ho : hf_ok p := ⟨by omega, by unfold hf_e; omega⟩
  refine hx_uni ho ?_
  rw [hf_Z_lo (by omega), hz_ln]
  exact hp
theorem hz_m8 : hz_i (-8) = -8 := by decide +kernel
theorem hx_fdp {V : Nat} (hV : V < 1099511627776) {post : Int32 → Prop} (n : Nat) : ∀ k, k + n = 12 → (5 ≤ k → hf_ov V (k - 1) < 16777216) → post (hz_i (4 - (hf_pl V n k : Int))) → wX_firstDigitPlace_7 post (lN V) (n + 1) (hz_i (4 - (k : Int))) := by
  induction n with
  | zero =>
    intro k hk _ hp
    have e : k = 12 := by omega
    subst e
    refine br_t ?_ ?_
    · rw [← hz_m8, hz_iLE (by omega) (by omega)]
      omega
    · rw [← hz_m8]
      exact hp
  | succ n ih =>
    intro k hk hI hp
    refine br_f (fun y => ?_) ?_
    · rw [← hz_m8, hz_iLE (by omega) (by omega)] at y
      omega
    have step : hz_i (4 - (k : Int)) + (-1) = hz_i (4 - ((k + 1 : Nat) : Int)) := by
      rw [← hz_m1, hz_ia]
      congr 1
      omega
    rw [hf_pl] at hp
    have main : ∀ (x y : Nat), hf_ov V k = x → hf_un k = y → (y ≤ x → wX_firstDigitPlace_57 post (wX_firstDigitPlace_7 post (lN V) (n + 1)) (lN V) (hz_i (4 - (k : Int))) 1) ∧ (x < y → wX_firstDigitPlace_57 post (wX_firstDigitPlace_7 post (lN V) (n + 1)) (lN V) (hz_i (4 - (k : Int))) 0) := by
      intro x y hx hy
      rw [hx, hy] at hp
      refine ⟨fun h => ?_, fun h => ?_⟩
      · rw [hf_ct (hf_et h)] at hp
        exact br_f (by decide) hp
      · rw [hf_cf (hf_ef h)] at hp
        refine br_t rfl (nm_r step (ih (k + 1) (by omega) (fun h5 => ?_) hp))
        rw [Nat.add_sub_cancel, hx]
        rw [hf_un_hi (by omega)] at hy
        omega
    by_cases c : 4 < k
    · have hov : hf_ov V k < 167772160 := by
        obtain ⟨i, rfl⟩ : ∃ i, k = i + 1 := ⟨k - 1, by omega⟩
        have := hI (by omega)
        rw [Nat.add_sub_cancel] at this
        rw [hf_ov_s (by omega)]
        omega
      obtain ⟨m1, m2⟩ := main _ _ rfl (hf_un_hi (by omega))
      refine br_t ?_ ?_
      · rw [← hz_i0, hz_iLT (by omega) (by omega)]
        omega
      · rw [hz_ig, show -(4 - (k : Int)) = ((k - 4 : Nat) : Int) by omega, hz_in]
        refine hx_ten (by omega) ?_
        rw [lN_mul]
        have eq : lN (V * 10 ^ (k - 4)) < 16777216 ↔ hf_ov V k < 16777216 := pk_lLT (b := 16777216) (show hf_ov V k < 2 ^ 63 by omega) (by decide)
        by_cases y : hf_ov V k < 16777216
        · exact br_t (eq.mpr y) (m2 y)
        · exact br_f (fun w => y (eq.mp w)) (m1 (by omega))
    · obtain ⟨m1, m2⟩ := main _ _ (hf_ov_lo (by omega)) rfl
      have p1 := hf_p10 (n := 4 - k) (by omega)
      have p2 : 10 ^ (4 - k) ≤ 10 ^ 4 := Nat.pow_le_pow_right (by decide) (by omega)
      refine br_f ?_ ?_
      · rw [← hz_i0, hz_iLT (by omega) (by omega)]
        omega
      · rw [show (4 : Int) - (k : Int) = ((4 - k : Nat) : Int) by omega, hz_in] at m1 m2 ⊢
        refine hx_ten (by omega) ?_
        have e : (16777216 : Int64) * lN (10 ^ (4 - k)) = lN (hf_un k) := lN_mul 16777216 _
        rw [e]
        have hun : hf_un k < 2 ^ 63 := by
          show 16777216 * 10 ^ (4 - k) < 2 ^ 63
          omega
        have eq : lN V < lN (hf_un k) ↔ V < hf_un k := pk_lLT (by omega) hun
        by_cases y : V < hf_un k
        · exact br_t (eq.mpr y) (m2 y)
        · exact br_f (fun w => y (eq.mp w)) (m1 (by omega))
end
section
theorem hf_rd_le (d j : Nat) : hf_rd d j ≤ 31744 := by
  rcases Nat.lt_or_ge 4 j with h | h
  · rw [hf_rd_hi h]; exact hf_R_le _ _
  · rw [hf_rd_lo h]; exact hf_R_le _ _
/-! the nearest digits at a place -/
theorem hx_129 {hi : Nat} {b : Bool} {post : Int32 → Prop} (hp : post (bif b then nI hi else 0)) : wX_nearestDigits_129 post (lN hi) (bif b then 1 else 0) := by
  cases b
  · exact br_t rfl hp
  · exact br_f (by decide) (by rw [lN_i]; exact hp)
theorem hx_108 {lo hi : Nat} {f g n : Bool} {post : Int32 → Prop} (hp : post (nI (bif f && (n || !g) then lo else bif g then hi else 0))) :
    wX_nearestDigits_108 post (lN lo) (lN hi) (bif f then 1 else 0) (bif g then 1 else 0) (bif n then 1 else 0) := by
  cases f
  · cases g
    · exact br_t rfl (br_t rfl hp)
    · exact br_t rfl (br_f (by decide) (by rw [lN_i]; cases n <;> exact hp))
  · cases n
    · cases g
      · exact br_f (by decide) (br_t rfl (br_t rfl (by rw [lN_i]; exact hp)))
      · exact br_f (by decide) (br_t rfl (br_f (by decide) (br_f (by decide) (by rw [lN_i]; exact hp))))
    · exact br_f (by decide) (br_f (by decide) (by rw [lN_i]; cases g <;> exact hp))
theorem hx_34 {V p j o u lo : Nat} {x : Int} (ho : hf_ov V j = o) (hu : hf_un j = u) (hl : o / u = lo) (h1 : o < 4611686018427387904) (h2 : lo < 999999) (hu0 : 0 < u) (hu2 : u < 4611686018427387904)
    (hx : x = 4 - (j : Int)) (hj : j ≤ 16) (hp31 : p < 31744) {post : Int32 → Prop} (hp : post (nI (hf_nd V p j))) : wX_nearestDigits_34 post (nI p) (hz_i x) (lN o) (lN u) := by
  rw [hf_nd_v ho hu hl h1 h2] at hp
  have hm := Nat.div_add_mod' o u
  have hmod := Nat.mod_lt o hu0
  have e1 : lN o - lN lo * lN u = lN (o % u) := by
    rw [lN_mul, ← hl, lN_sub (Nat.div_mul_le_self _ _), ← Nat.mod_eq_sub_div_mul]
  have q1 : hf_dc lo x = hf_rd lo j := by rw [hx]; exact hf_dc_j lo j
  have q2 : hf_dc (lo + 1) x = hf_rd (lo + 1) j := by rw [hx]; exact hf_dc_j (lo + 1) j
  have r1 := hf_rd_le lo j
  have r2 := hf_rd_le (lo + 1) j
  refine hx_wq (by omega) (by omega) hu0 ?_
  rw [hl]
  refine nm_r (lN_1 lo) (nm_r e1 (hx_rd (by omega) (by omega) ?_))
  rw [q1]
  generalize hf_rd lo j = A at *
  have s2 : ∀ f : Bool, Nat.beq A p = f → wX_nearestDigits_72 post (nI p) (hz_i x) (lN u) (lN lo) (lN (lo + 1)) (lN (o % u)) (bif f then 1 else 0) := by
    intro f hf
    rw [hf] at hp
    refine hx_rd (by omega) (by omega) ?_
    rw [q2]
    generalize hf_rd (lo + 1) j = B at *
    have s3 : ∀ g : Bool, Nat.beq B p = g → wX_nearestDigits_89 post (lN u) (lN lo) (lN (lo + 1)) (lN (o % u)) (bif f then 1 else 0) (bif g then 1 else 0) := by
      intro g hg
      rw [hg] at hp
      have e2 : (2 : Int64) * lN (o % u) = lN (2 * (o % u)) := lN_mul 2 _
      have eq : lN u < lN (2 * (o % u)) ↔ u < 2 * (o % u) := pk_lLT (by omega) (by omega)
      unfold wX_nearestDigits_89
      rw [e2]
      rcases Nat.lt_or_ge u (2 * (o % u)) with z | z
      · rw [hf_ef z] at hp
        exact br_t (eq.mpr z) (hx_108 (n := false) hp)
      · rw [hf_et z] at hp
        exact br_f (fun y => by have := eq.mp y; omega) (hx_108 (n := true) hp)
    by_cases y : B = p
    · exact br_t (by rw [y]) (s3 true (hf_qt y))
    · exact br_f (fun w => y ((nI_eq (by omega) (by omega)).mp w)) (s3 false (hf_qf y))
  by_cases y : A = p
  · exact br_t (by rw [y]) (s2 true (hf_qt y))
  · exact br_f (fun w => y ((nI_eq (by omega) (by omega)).mp w)) (s2 false (hf_qf y))
theorem hx_nd {V p j : Nat} (hV : hf_A p = V) (hp31 : p < 31744) (hj : j ≤ 16) (hg : hf_nd V p j < 100000000000000000000) {post : Int32 → Prop} (hp : post (nI (hf_nd V p j))) : wpX_nearestDigits post (nI p) (hz_i (4 - (j : Int))) := by
  obtain ⟨g1, g2⟩ := hf_nd_g hg
  have hu0 : 0 < hf_un j := Nat.mul_pos (by decide) (hf_p10p _)
  have p2 : 10 ^ (4 - j) ≤ 10 ^ 4 := Nat.pow_le_pow_right (by decide) (by omega)
  have hu2 : hf_un j < 4611686018427387904 := by
    show 16777216 * 10 ^ (4 - j) < 4611686018427387904
    omega
  have main := hx_34 (V := V) (p := p) (j := j) rfl rfl rfl g1 g2 hu0 hu2 rfl hj hp31 hp
  refine hx_u hp31 ?_
  rw [hV]
  by_cases c : 4 < j
  · refine br_f ?_ ?_
    · rw [← hz_i0, hz_iLE (by omega) (by omega)]
      omega
    · have e : -hz_i (4 - (j : Int)) = nI (j - 4) := by rw [hz_ig, show -(4 - (j : Int)) = ((j - 4 : Nat) : Int) by omega, hz_in]
      rw [e]
      refine hx_ten (by omega) (nm_r (lN_mul V (10 ^ (j - 4))) ?_)
      rw [hf_un_hi (by omega)] at main
      exact main
  · refine br_t ?_ ?_
    · rw [← hz_i0, hz_iLE (by omega) (by omega)]
      omega
    · rw [hf_ov_lo (by omega)] at main
      have e : hz_i (4 - (j : Int)) = nI (4 - j) := by rw [show (4 : Int) - (j : Int) = ((4 - j : Nat) : Int) by omega, hz_in]
      rw [e] at main ⊢
      exact hx_ten (by omega) (nm_r (lN_mul 16777216 (10 ^ (4 - j))) main)
/-! the writing, count by count -/
theorem hz_16 : hz_i 16 = 16 := by decide +kernel
theorem hz_1 : hz_i 1 = 1 := by decide +kernel
theorem hx_wrt {V p k : Nat} (hV : hf_A p = V) (hp31 : p < 31744) (hk : k ≤ 12) {post : Int32 → Prop} (n : Nat) : ∀ c, c + n = 5 → hf_xl V p n (k + c) < 1000000000000000000000 → post (nI (hf_xl V p n (k + c))) →
    wX_writingOf_7 post (nI p) (hz_i (4 - (k : Int))) (n + 1) (nI (c + 1)) := by
  induction n with
  | zero =>
    intro c hc _ hp
    exact br_t (nI_lt (a := 5) (b := c + 1) (by omega) (by omega)) hp
  | succ n ih =>
    intro c hc hb hp
    refine br_f (nI_nlt (a := 5) (b := c + 1) (by omega) (by decide)) ?_
    have e3 : hz_i (4 - (k : Int)) - nI (c + 1) + 1 = hz_i (4 - ((k + c : Nat) : Int)) := by
      rw [← hz_in, ← hz_1, hz_is, hz_ia]
      congr 1
      omega
    refine nm_r e3 ?_
    rw [hf_xl] at hb hp
    have hg : hf_nd V p (k + c) < 100000000000000000000 := by
      by_cases z : hf_nd V p (k + c) = 0
      · omega
      · rw [hf_cf (hf_qf z)] at hb
        exact hf_xr_lt (by omega) hb
    refine hx_nd hV hp31 (by omega) hg ?_
    obtain ⟨g1, g2⟩ := hf_nd_g hg
    have hd : hf_nd V p (k + c) ≤ 999999 := by
      rw [hf_nd_v rfl rfl rfl g1 g2]
      generalize (Nat.beq (hf_rd (hf_ov V (k + c) / hf_un (k + c)) (k + c)) p && (Nat.ble (2 * (hf_ov V (k + c) % hf_un (k + c))) (hf_un (k + c)) || !(Nat.beq (hf_rd (hf_ov V (k + c) / hf_un (k + c) + 1) (k + c)) p))) = b1
      generalize Nat.beq (hf_rd (hf_ov V (k + c) / hf_un (k + c) + 1) (k + c)) p = b2
      cases b1 <;> cases b2 <;> simp only [cond_true, cond_false] <;> omega
    generalize hf_nd V p (k + c) = d at *
    have sh5 : ∀ d : Nat, d ≤ 999999 → nI d <<< ((5 : Int32) &&& 31) = nI (d * 32) := fun d h => pk_shlN _ 5 (by decide) (by omega)
    by_cases z : d = 0
    · subst z
      rw [hf_ct (hf_qt rfl)] at hb hp
      refine br_f (by decide) (br_t rfl (nm_r (nI_1 (c + 1)) ?_))
      have := ih (c + 1) (by omega)
      rw [← Nat.add_assoc] at this
      exact this hb hp
    · rw [hf_cf (hf_qf z)] at hb hp
      by_cases t : d = 10
      · subst t
        rw [hf_xr, hf_ct (hf_qt rfl)] at hp
        have e4 : hz_i (4 - ((k + c : Nat) : Int)) + 1 = hz_i (5 - ((k + c : Nat) : Int)) := by
          rw [← hz_1, hz_ia]
          congr 1
          omega
        refine br_t rfl (nm_r e4 (br_f (by decide) ?_))
        have e5 : (1 : Int32) <<< ((5 : Int32) &&& 31) + hz_i (5 - ((k + c : Nat) : Int)) + 16 = nI (53 - (k + c)) := by
          have e6 : (1 : Int32) <<< ((5 : Int32) &&& 31) = hz_i 32 := by decide +kernel
          rw [e6, ← hz_16, hz_ia, hz_ia, ← hz_in]
          congr 1
          omega
        rw [e5]
        exact hp
      · rw [hf_xr, hf_cf (hf_qf t)] at hp
        refine br_f (fun w => t ((nI_eq (b := 10) (by omega) (by decide)).mp w)) (br_f (fun w => z ((nI_eq (b := 0) (by omega) (by decide)).mp w)) ?_)
        have e5 : nI d <<< ((5 : Int32) &&& 31) + hz_i (4 - ((k + c : Nat) : Int)) + 16 = nI (d * 32 + 20 - (k + c)) := by
          rw [sh5 d hd, ← hz_16, ← hz_in, hz_ia, hz_ia, ← hz_in]
          congr 1
          omega
        rw [e5]
        exact hp
theorem hx_writing {p : Nat} (hp31 : p < 31744) {post : Int32 → Prop} (hb : hf_xl (hf_A p) p 5 (hf_pl (hf_A p) 12 0) < 1000000000000000000000) (hp : post (nI (hf_xl (hf_A p) p 5 (hf_pl (hf_A p) 12 0)))) : wpX_writingOf post (nI p) := by
  have hA : hf_A p < 1099511627776 := by
    have h3 := hf_A_lt p
    have h4 := hf_A_bd (p := p + 1) (by omega)
    omega
  have hpl := hf_pl_le (hf_A p) 12 0
  refine hx_u hp31 ⟨13, hx_fdp hA 12 0 (by omega) (fun h => by omega) ?_⟩
  have g := hx_wrt (k := hf_pl (hf_A p) 12 0) rfl hp31 (by omega) (post := post) 5 0 (by omega)
  rw [Nat.add_zero] at g
  exact ⟨6, g hb hp⟩
end
section
/-! the reference's small methods -/
theorem hy_dig {k : Nat} (hk : k < 65536) {post : Int64 → Prop} (hp : post (lN (hf_dg k))) : wpY_digitsOf post (nI k) := by
  unfold wpY_digitsOf
  rw [hy_eb hk, hy_fr hk]
  refine ⟨by decide, by decide, ?_⟩
  unfold hf_dg at hp
  by_cases z : hf_e k = 0
  · rw [if_pos z] at hp
    exact br_t ((hx_e0 k).mpr z) ⟨by decide, by rw [nI_l (by omega)]; exact hp⟩
  · rw [if_neg z] at hp
    refine br_f (fun y => z ((hx_e0 k).mp y)) ⟨by decide, ?_⟩
    rw [show (1024 : Int32) + nI (k % 1024) = nI (1024 + k % 1024) from nI_add 1024 _, nI_l (by omega)]
    exact hp
theorem hy_shi {k : Nat} (hk : k < 65536) {post : Int32 → Prop} (hp : post (nI (hf_sh k))) : wpY_shiftOf post (nI k) := by
  refine ⟨by decide, by decide, nm_r (hy_eb hk) ?_⟩
  unfold hf_sh at hp
  by_cases z : hf_e k = 0
  · rw [if_pos z] at hp
    exact br_t ((hx_e0 k).mpr z) hp
  · rw [if_neg z] at hp
    refine br_f (fun y => z ((hx_e0 k).mp y)) ?_
    rw [show nI (hf_e k) - 1 = nI (hf_e k - 1) from pk_sub (b := 1) (by omega)]
    exact hp
theorem hy_amt {k : Nat} (hk : k < 65536) (h : k % 32768 ≤ 31744) {post : Int64 → Prop} (hp : post (lN (hf_A (k % 32768)))) : wpY_amount post (nI k) := by
  refine nm_r (hx_lo hk) ?_
  by_cases z : k % 32768 = 31744
  · rw [z, hf_A_top] at hp
    exact br_t (by rw [z]; rfl) hp
  · refine br_f (fun w => z ((nI_eq (b := 31744) (by omega) (by decide)).mp w)) (hy_dig (by omega) (hy_shi (by omega) ?_))
    rw [wb_shl _ (by have := hf_sh_lt (k % 32768); omega), ← hf_A_ds, Nat.mod_mod]
    exact hp
theorem hy_am {p : Nat} (h : p ≤ 31744) {post : Int64 → Prop} (hp : post (lN (hf_A p))) : wpY_amount post (nI p) :=
  hy_amt (by omega) (by omega) (by rw [Nat.mod_eq_of_lt (by omega)]; exact hp)
theorem hy_sgn {k : Nat} (h : hf_ok k) {post : Int64 → Prop} (hp : post (hz_l (hf_Z k))) : wpY_signed post (nI k) := by
  have hk := h.1
  have he := h.2
  have h2 : k % 32768 ≤ 31744 := by unfold hf_e at he; omega
  unfold hf_Z at hp
  by_cases z : k < 32768
  · rw [if_pos z, hz_ln] at hp
    exact br_t (nI_lt (b := 32768) z (by decide)) (hy_amt hk h2 hp)
  · rw [if_neg z, ← hz_lg, hz_ln] at hp
    exact br_f (nI_nlt (b := 32768) (by omega) (by omega)) (hy_amt hk h2 hp)
/-! the reference's rounding -/
theorem hy_end {u l w r lo : Nat} {n : Nat} (hu : u < 2 ^ 62) (hl2 : l < 2 ^ 62) (hw : w * l + r = u) (hr : r < l) (hlo : lo ≤ 31743) (h1 : hf_A lo ≤ w) (h2 : w < hf_A (lo + 1)) {post : Int32 → Prop} (hp : post (nI (hf_R u l))) :
    wY_nearest_54 post (lN l) (lN w) (lN r) (n + 1) (nI lo) (nI lo) := by
  refine br_t (Int32.le_refl _) ?_
  rw [nI_1]
  have e : (2 : Int64) * (lN w - lN (hf_A lo)) * lN l + 2 * lN r = lN (2 * (w - hf_A lo) * l + 2 * r) := by
    have t : (2 : Int64) = lN 2 := rfl
    rw [lN_sub h1, t, lN_mul, lN_mul, lN_mul, lN_add]
  have e2 : nI lo - nI lo / 2 * 2 = nI (lo % 2) := pk_rem (d := 2) (by omega) (by decide) (by decide)
  obtain ⟨N1, N2, N3, N4, N5⟩ := hf_N hw hr (show lo < 31744 by omega) rfl rfl h1 h2
  refine hy_am (p := lo + 1) (by omega) (hy_am (p := lo) (by omega) (nm_r (lN_sub (Nat.le_of_lt (hf_A_lt lo))) (hy_am (p := lo) (by omega) (nm_r e ?_))))
  rw [lN_mul, e2]
  revert N1 N2 N3 N4 N5
  generalize 2 * (w - hf_A lo) * l + 2 * r = T
  generalize (hf_A (lo + 1) - hf_A lo) * l = G
  intro N1 N2 N3 N4 N5
  have bT : T < 2 ^ 63 := by omega
  have bG : G < 2 ^ 63 := by omega
  rcases Nat.lt_trichotomy T G with c | c | c
  · rw [N3 c] at hp
    exact br_f (fun y => by have := (pk_lEQ bT bG).mp y; omega) (br_t ((pk_lLE bT bG).mpr (by omega)) hp)
  · refine br_t (by rw [c]) ⟨by decide, ?_⟩
    rw [N1 c] at hp
    by_cases z : lo % 2 = 0
    · rw [z] at hp ⊢
      exact br_t rfl hp
    · have z1 : lo % 2 = 1 := by omega
      rw [z1] at hp ⊢
      exact br_f (by decide) hp
  · rw [N2 c] at hp
    exact br_f (fun y => by have := (pk_lEQ bT bG).mp y; omega) (br_f (fun y => by have := (pk_lLE bT bG).mp y; omega) hp)
theorem hy_near {u l : Nat} (hu : u < 2 ^ 62) (hl : 0 < l) (hl2 : l < 2 ^ 62) {post : Int32 → Prop} (hp : post (nI (hf_R u l))) : wpY_nearest post (lN u) (lN l) := by
  have n0 : ¬ lN l ≤ 0 := fun y => by have := (pk_lLE (b := 0) (by omega) (by decide)).mp y; omega
  have n1 : ¬ lN l = 0 := fun y => by have := (pk_lEQ (b := 0) (by omega) (by decide)).mp y; omega
  refine br_f n0 ⟨n1, br_f n0 ⟨n1, ?_⟩⟩
  rw [pk_lRem (by omega) hl (by omega), pk_lDiv (by omega) hl (by omega)]
  have hw := Nat.div_add_mod' u l
  have hr := Nat.mod_lt u hl
  have hle := Nat.div_le_self u l
  refine hy_am (p := 31744) (by omega) ?_
  rw [hf_A_top]
  by_cases c : u / l < 1099511627776
  · refine br_t ((pk_lLT (by omega) (by omega)).mpr c) ⟨31744, ?_⟩
    refine hb_search (fun n lo hi => wY_nearest_54 post (lN l) (lN (u / l)) (lN (u % l)) n (nI lo) (nI hi)) hf_A (u / l) 31743 ?_ ?_ 31743 0 31743 (by omega) (by omega) (by omega) ?_ ?_
    · intro n lo hlo h1 h2
      exact hy_end hu hl2 hw hr hlo h1 h2 hp
    · intro n lo hi hlt hB f g
      have b1 := hf_A_bd (p := (lo + hi + 1) / 2) (by omega)
      have e : (nI lo + nI hi + 1) / 2 = nI ((lo + hi + 1) / 2) := by
        rw [nI_add, nI_1]
        exact pk_div (d := 2) (by omega) (by decide) (by decide)
      refine br_f (fun y => by have := (nI_leI (by omega) (by omega)).mp y; omega) ⟨by decide, nm_r e (hy_am (by omega) ?_)⟩
      by_cases c2 : u / l < hf_A ((lo + hi + 1) / 2)
      · exact br_t ((pk_lLT (by omega) (by omega)).mpr c2) (nm_r (pk_sub (b := 1) (by omega)) (g c2))
      · exact br_f (fun y => c2 ((pk_lLT (by omega) (by omega)).mp y)) (f (by omega))
    · rw [hf_A_lo (by decide)]
      exact Nat.zero_le _
    · rw [hf_A_top]
      exact c
  · rw [hf_R_big (by omega)] at hp
    exact br_f (fun y => c ((pk_lLT (by omega) (by omega)).mp y)) hp
theorem hy_ws {r : Nat} (hr : r ≤ 31744) {neg : Int32} {post : Int32 → Prop} (hp : post (if neg = 0 then nI r else nI (hf_sn r))) : wpY_withSign post (nI r) neg := by
  by_cases z : neg = 0
  · rw [if_pos z] at hp
    exact br_t z hp
  · rw [if_neg z] at hp
    refine br_f z ?_
    by_cases y : r = 0
    · subst y
      exact br_t (by decide) hp
    · rw [hf_sn, if_neg y, ← nI_add] at hp
      exact br_f (nI_nle (by omega) (by omega)) hp
end
section
/-! sums, products, quotients, roots: the reference, and the two together -/
theorem hy_sum {σ : Int} (hb : -2199023255552 < σ ∧ σ < 2199023255552) {fd fx : Int32} {post : Int32 → Prop} (hp : post (hf_sum σ)) :
    (0 ≤ hz_l σ → wY_add_38 post (hz_l σ) (hz_l σ) fd fx) ∧ (¬ 0 ≤ hz_l σ → wY_add_38 post (hz_l σ) (-(hz_l σ)) fd fx) := by
  have e : 0 ≤ hz_l σ ↔ 0 ≤ σ := by rw [← hz_l0]; exact hz_lLE (by omega) (by omega)
  unfold hf_sum at hp
  by_cases z : 0 ≤ σ
  · rw [if_pos z] at hp
    refine br_t (e.mpr z) ?_
    unfold wY_add_38
    have h0 := e.mpr z
    revert h0
    obtain ⟨n, rfl⟩ : ∃ n : Nat, σ = (n : Int) := ⟨σ.toNat, by omega⟩
    rw [Int.toNat_natCast] at hp
    rw [hz_ln]
    intro h0
    exact hy_near (l := 1) (by omega) (by decide) (by decide) (br_t h0 (hy_ws (hf_R_le _ _) (by rw [if_pos rfl]; exact hp)))
  · rw [if_neg z] at hp
    obtain ⟨n, hn⟩ : ∃ n : Nat, -σ = (n : Int) := ⟨(-σ).toNat, by omega⟩
    rw [hn, Int.toNat_natCast] at hp
    refine br_f (fun y => z (e.mp y)) ?_
    unfold wY_add_38
    rw [hz_lg, hn, hz_ln]
    exact hy_near (l := 1) (by omega) (by decide) (by decide) (br_f (fun y => z (e.mp y)) (hy_ws (hf_R_le _ _) (by rw [if_neg (by decide)]; exact hp)))
/-! refusals -/
theorem hy_add_n1 {v1 v2 : Int32} (y1 : ∀ post : Int32 → Prop, post 1 → wpY_bad post v1) {v : SY} {post : Int32 → Prop} (hp : post (-1)) : wpY_add post v v1 v2 := by
  obtain ⟨fd, fx⟩ := v
  unfold wpY_add
  dsimp only
  exact y1 _ (br_f (by decide) hp)
theorem hy_add_n2 {a : Nat} {v2 : Int32} (ha : hf_ok a) (y2 : ∀ post : Int32 → Prop, post 1 → wpY_bad post v2) {v : SY} {post : Int32 → Prop} (hp : post (-1)) : wpY_add post v (nI a) v2 := by
  obtain ⟨fd, fx⟩ := v
  unfold wpY_add
  dsimp only
  exact hy_ok ha (br_t rfl (y2 _ (br_f (by decide) hp)))
theorem hy_multiply_n1 {v1 v2 : Int32} (y1 : ∀ post : Int32 → Prop, post 1 → wpY_bad post v1) {v : SY} {post : Int32 → Prop} (hp : post (-1)) : wpY_multiply post v v1 v2 := by
  obtain ⟨fd, fx⟩ := v
  unfold wpY_multiply
  dsimp only
  exact y1 _ (br_f (by decide) hp)
theorem hy_multiply_n2 {a : Nat} {v2 : Int32} (ha : hf_ok a) (y2 : ∀ post : Int32 → Prop, post 1 → wpY_bad post v2) {v : SY} {post : Int32 → Prop} (hp : post (-1)) : wpY_multiply post v (nI a) v2 := by
  obtain ⟨fd, fx⟩ := v
  unfold wpY_multiply
  dsimp only
  exact hy_ok ha (br_t rfl (y2 _ (br_f (by decide) hp)))
theorem hy_divide_n1 {v1 v2 : Int32} (y1 : ∀ post : Int32 → Prop, post 1 → wpY_bad post v1) {v : SY} {post : Int32 → Prop} (hp : post (-1)) : wpY_divide post v v1 v2 := by
  obtain ⟨fd, fx⟩ := v
  unfold wpY_divide
  dsimp only
  exact y1 _ (br_f (by decide) hp)
theorem hy_divide_n2 {a : Nat} {v2 : Int32} (ha : hf_ok a) (y2 : ∀ post : Int32 → Prop, post 1 → wpY_bad post v2) {v : SY} {post : Int32 → Prop} (hp : post (-1)) : wpY_divide post v (nI a) v2 := by
  obtain ⟨fd, fx⟩ := v
  unfold wpY_divide
  dsimp only
  exact hy_ok ha (br_t rfl (y2 _ (br_f (by decide) hp)))
theorem hy_compare_n1 {v1 v2 : Int32} (y1 : ∀ post : Int32 → Prop, post 1 → wpY_bad post v1) {v : SY} {post : Int32 → Prop} (hp : post (-1)) : wpY_compare post v v1 v2 := by
  obtain ⟨fd, fx⟩ := v
  unfold wpY_compare
  dsimp only
  exact y1 _ (br_f (by decide) hp)
theorem hy_compare_n2 {a : Nat} {v2 : Int32} (ha : hf_ok a) (y2 : ∀ post : Int32 → Prop, post 1 → wpY_bad post v2) {v : SY} {post : Int32 → Prop} (hp : post (-1)) : wpY_compare post v (nI a) v2 := by
  obtain ⟨fd, fx⟩ := v
  unfold wpY_compare
  dsimp only
  exact hy_ok ha (br_t rfl (y2 _ (br_f (by decide) hp)))
theorem hy_root_n1 {v1 : Int32} (y1 : ∀ post : Int32 → Prop, post 1 → wpY_bad post v1) {v : SY} {post : Int32 → Prop} (hp : post (-1)) : wpY_root post v v1 := by
  obtain ⟨fd, fx⟩ := v
  unfold wpY_root
  dsimp only
  exact y1 _ (br_f (by decide) hp)
theorem hy_floor_n1 {v1 : Int32} (y1 : ∀ post : Int32 → Prop, post 1 → wpY_bad post v1) {v : SY} {post : Int32 → Prop} (hp : post 100000) : wpY_floor post v v1 := by
  obtain ⟨fd, fx⟩ := v
  unfold wpY_floor
  dsimp only
  exact y1 _ (br_f (by decide) hp)
theorem hy_digits_n1 {v1 : Int32} (y1 : ∀ post : Int32 → Prop, post 1 → wpY_bad post v1) {v : SY} {post : Int32 → SY → Prop} (hp : post (-1) v) : wpY_digits post v v1 := by
  obtain ⟨fd, fx⟩ := v
  unfold wpY_digits
  dsimp only
  exact y1 _ (br_f (by decide) hp)
theorem hy_exponent_n1 {v1 : Int32} (y1 : ∀ post : Int32 → Prop, post 1 → wpY_bad post v1) {v : SY} {post : Int32 → SY → Prop} (hp : post 100 v) : wpY_exponent post v v1 := by
  obtain ⟨fd, fx⟩ := v
  unfold wpY_exponent
  dsimp only
  exact y1 _ (br_f (by decide) hp)
theorem hy_add {a b : Nat} (ha : hf_ok a) (hb : hf_ok b) {v : SY} {post : Int32 → Prop} (hp : post (hf_sum (hf_Z a + hf_Z b))) : wpY_add post v (nI a) (nI b) := by
  obtain ⟨fd, fx⟩ := v
  have b1 := hf_Z_bd ha
  have b2 := hf_Z_bd hb
  unfold wpY_add
  dsimp only
  exact hy_ok ha (br_t rfl (hy_ok hb (br_t rfl (hy_sgn ha (hy_sgn hb (nm_r (hz_la _ _) (hy_sum (by omega) hp)))))))
theorem hy_compare {a b : Nat} (ha : hf_ok a) (hb : hf_ok b) {v : SY} {post : Int32 → Prop} (hp : (hz_l (hf_Z b) ≤ hz_l (hf_Z a) → ((hz_l (hf_Z a) = hz_l (hf_Z b) → post 2) ∧ (¬ hz_l (hf_Z a) = hz_l (hf_Z b) → post 3))) ∧ (¬ hz_l (hf_Z b) ≤ hz_l (hf_Z a) → post 1)) : wpY_compare post v (nI a) (nI b) := by
  obtain ⟨fd, fx⟩ := v
  unfold wpY_compare
  dsimp only
  exact hy_ok ha (br_t rfl (hy_ok hb (br_t rfl (hy_sgn ha (hy_sgn hb hp)))))
theorem hy_floor {a : Nat} (ha : hf_ok a) {v : SY} {post : Int32 → Prop} (hp : post ((hz_l (hf_Z a) >>> ((24 : Int32).toInt64 &&& 63)).toInt32)) : wpY_floor post v (nI a) := by
  obtain ⟨fd, fx⟩ := v
  unfold wpY_floor
  dsimp only
  exact hy_ok ha (br_t rfl (hy_sgn ha hp))
def i_Rel (_ : Nat) (_ : SX) (_ : SY) : Prop := True
theorem i_up {k : Nat} {u : SX} {v : SY} (h : i_Rel k u v) : i_Rel (k + 3) u v := h
theorem i_vc0 : wpX_init (fun u => wpY_init (fun v => i_Rel 0 u v)) := True.intro
theorem i_vc_add {k : Nat} {u : SX} {v : SY} (I : i_Rel k u v) (hk : k + 3 ≤ 1536) (v1 : Int32) (v2 : Int32) : wpX_add (fun r => wpY_add (fun r' => r' = r ∧ i_Rel (k + 3) u v) v v1 v2) u v1 v2 := by
  rcases hx_cls v1 with ⟨a, rfl, ha⟩ | ⟨x1, y1⟩
  · rcases hx_cls v2 with ⟨b, rfl, hb⟩ | ⟨x2, y2⟩
    · exact hx_add ha hb (hy_add ha hb ⟨rfl, True.intro⟩)
    · exact hx_ok ha (br_f (by decide) (x2 _ (br_t rfl (hy_add_n2 ha y2 ⟨rfl, True.intro⟩))))
  · exact x1 _ (br_t rfl (hy_add_n1 y1 ⟨rfl, True.intro⟩))
theorem i_vc_compare {k : Nat} {u : SX} {v : SY} (I : i_Rel k u v) (hk : k + 3 ≤ 1536) (v1 : Int32) (v2 : Int32) : wpX_compare (fun r => wpY_compare (fun r' => r' = r ∧ i_Rel (k + 3) u v) v v1 v2) u v1 v2 := by
  rcases hx_cls v1 with ⟨a, rfl, ha⟩ | ⟨x1, y1⟩
  · rcases hx_cls v2 with ⟨b, rfl, hb⟩ | ⟨x2, y2⟩
    · refine hx_ok ha (br_f (by decide) (hx_ok hb (br_f (by decide) (hx_uni ha (hx_uni hb ?_)))))
      refine br_c (fun h => br_c (fun g => ?_) (fun g => ?_)) (fun h => ?_)
      · exact hy_compare ha hb (br_t h (br_t g ⟨rfl, True.intro⟩))
      · exact hy_compare ha hb (br_t h (br_f g ⟨rfl, True.intro⟩))
      · exact hy_compare ha hb (br_f h ⟨rfl, True.intro⟩)
    · exact hx_ok ha (br_f (by decide) (x2 _ (br_t rfl (hy_compare_n2 ha y2 ⟨rfl, True.intro⟩))))
  · exact x1 _ (br_t rfl (hy_compare_n1 y1 ⟨rfl, True.intro⟩))
theorem i_vc_floor {k : Nat} {u : SX} {v : SY} (I : i_Rel k u v) (hk : k + 3 ≤ 1536) (v1 : Int32) : wpX_floor (fun r => wpY_floor (fun r' => r' = r ∧ i_Rel (k + 3) u v) v v1) u v1 := by
  rcases hx_cls v1 with ⟨a, rfl, ha⟩ | ⟨x1, y1⟩
  · exact hx_ok ha (br_f (by decide) (hx_uni ha (hy_floor ha ⟨rfl, True.intro⟩)))
  · exact x1 _ (br_t rfl (hy_floor_n1 y1 ⟨rfl, True.intro⟩))
/-! products -/
theorem hy_lt {j : Nat} (hj : j < 65536) : nI j < 32768 ↔ j < 32768 := nI_ltI (b := 32768) (by omega) (by decide)
theorem hy_65 {j k r : Nat} (hj : j < 65536) (hk : k < 65536) (hr : r ≤ 31744) {fd fx : Int32} {post : Int32 → Prop} (hp : post (hf_sg j k r)) : wY_multiply_65 post (nI j) (nI k) (nI r) fd fx := by
  unfold hf_sg at hp
  by_cases z1 : j < 32768 <;> by_cases z2 : k < 32768
  · rw [if_pos (by simp [z1, z2])] at hp
    exact br_t ((hy_lt hj).mpr z1) (br_t ((hy_lt hk).mpr z2) (br_t rfl (hy_ws hr (by rw [if_pos rfl]; exact hp))))
  · rw [if_neg (by simp [z1, z2])] at hp
    exact br_t ((hy_lt hj).mpr z1) (br_f (fun y => z2 ((hy_lt hk).mp y)) (br_f (by decide) (hy_ws hr (by rw [if_neg (by decide)]; exact hp))))
  · rw [if_neg (by simp [z1, z2])] at hp
    exact br_f (fun y => z1 ((hy_lt hj).mp y)) (br_t ((hy_lt hk).mpr z2) (br_f (by decide) (hy_ws hr (by rw [if_neg (by decide)]; exact hp))))
  · rw [if_pos (by simp [z1, z2])] at hp
    exact br_f (fun y => z1 ((hy_lt hj).mp y)) (br_f (fun y => z2 ((hy_lt hk).mp y)) (br_t rfl (hy_ws hr (by rw [if_pos rfl]; exact hp))))
theorem hz_24 : hz_i 24 = 24 := by decide +kernel
theorem hz_1s {n : Nat} (h : n < 64) : (1 : Int64) <<< ((nI n).toInt64 &&& 63) = lN (2 ^ n) := by
  have := wb_shl 1 (k := n) h
  rw [Nat.one_mul] at this
  exact this
theorem hy_mul0 {a b n : Nat} (ha : hf_ok a) (hb : hf_ok b) (hn : (hf_sh a : Int) + hf_sh b - 24 = -(n : Int)) (h0 : 0 < n) {v : SY} {post : Int32 → Prop} (hp : post (hf_sg a b (hf_R (hf_dg a * hf_dg b) (2 ^ n)))) : wpY_multiply post v (nI a) (nI b) := by
  obtain ⟨fd, fx⟩ := v
  have s1 := hf_sh_lt a
  have s2 := hf_sh_lt b
  have d0 : hf_dg a * hf_dg b ≤ 2048 * 2048 := Nat.mul_le_mul (Nat.le_of_lt (hf_dg_lt a)) (Nat.le_of_lt (hf_dg_lt b))
  have e5 : nI (hf_sh a) + nI (hf_sh b) - 24 = hz_i (-(n : Int)) := by rw [← hz_in, ← hz_in, hz_ia, ← hz_24, hz_is, hn]
  have p1 : 2 ^ n ≤ 2 ^ 24 := Nat.pow_le_pow_right (by decide) (by omega)
  unfold wpY_multiply
  dsimp only
  refine hy_ok ha (br_t rfl (hy_ok hb (br_t rfl (hy_dig ha.1 (hy_dig hb.1 (nm_r (lN_mul _ _) (hy_shi ha.1 (hy_shi hb.1 (nm_r e5 (br_t ?_ ?_))))))))))
  · rw [← hz_i0, hz_iLT (by omega) (by omega)]
    omega
  · rw [hz_ig, Int.neg_neg, hz_in, hz_1s (by omega)]
    exact hy_near (by omega) (Nat.two_pow_pos n) (by omega) (hy_65 ha.1 hb.1 (hf_R_le _ _) hp)
theorem hy_mul1 {a b n : Nat} (ha : hf_ok a) (hb : hf_ok b) (hn : (hf_sh a : Int) + hf_sh b - 24 = (n : Int)) {v : SY} {post : Int32 → Prop} (hp : post (hf_sg a b (hf_R (hf_dg a * hf_dg b * 2 ^ n) 1))) : wpY_multiply post v (nI a) (nI b) := by
  obtain ⟨fd, fx⟩ := v
  have s1 := hf_sh_lt a
  have s2 := hf_sh_lt b
  have d0 : hf_dg a * hf_dg b ≤ 2048 * 2048 := Nat.mul_le_mul (Nat.le_of_lt (hf_dg_lt a)) (Nat.le_of_lt (hf_dg_lt b))
  have e5 : nI (hf_sh a) + nI (hf_sh b) - 24 = hz_i (n : Int) := by rw [← hz_in, ← hz_in, hz_ia, ← hz_24, hz_is, hn]
  have p1 : hf_dg a * hf_dg b * 2 ^ n ≤ 2048 * 2048 * 2 ^ 36 := Nat.mul_le_mul d0 (Nat.pow_le_pow_right (by decide) (by omega))
  unfold wpY_multiply
  dsimp only
  refine hy_ok ha (br_t rfl (hy_ok hb (br_t rfl (hy_dig ha.1 (hy_dig hb.1 (nm_r (lN_mul _ _) (hy_shi ha.1 (hy_shi hb.1 (nm_r e5 (br_f ?_ ?_))))))))))
  · rw [← hz_i0, hz_iLT (by omega) (by omega)]
    omega
  · rw [hz_in, wb_shl _ (by omega)]
    exact hy_near (l := 1) (Nat.lt_of_le_of_lt p1 (by decide)) (by decide) (by decide) (hy_65 ha.1 hb.1 (hf_R_le _ _) hp)
theorem i_vc_multiply {k : Nat} {u : SX} {v : SY} (I : i_Rel k u v) (hk : k + 3 ≤ 1536) (v1 : Int32) (v2 : Int32) : wpX_multiply (fun r => wpY_multiply (fun r' => r' = r ∧ i_Rel (k + 3) u v) v v1 v2) u v1 v2 := by
  rcases hx_cls v1 with ⟨a, rfl, ha⟩ | ⟨x1, y1⟩
  · rcases hx_cls v2 with ⟨b, rfl, hb⟩ | ⟨x2, y2⟩
    · by_cases c : (hf_sh a : Int) + hf_sh b - 24 < 0
      · obtain ⟨n, hn⟩ : ∃ n : Nat, (hf_sh a : Int) + hf_sh b - 24 = -(n : Int) := ⟨(-((hf_sh a : Int) + hf_sh b - 24)).toNat, by omega⟩
        exact hx_mul ha hb (v := hf_dg a * hf_dg b) (l := 2 ^ n) (a := 0) (b := n) (by omega) (Nat.two_pow_pos n) (by rw [Nat.pow_zero, Nat.mul_one]) (hy_mul0 ha hb hn (by omega) ⟨rfl, True.intro⟩)
      · obtain ⟨n, hn⟩ : ∃ n : Nat, (hf_sh a : Int) + hf_sh b - 24 = (n : Int) := ⟨((hf_sh a : Int) + hf_sh b - 24).toNat, by omega⟩
        exact hx_mul ha hb (v := hf_dg a * hf_dg b * 2 ^ n) (l := 1) (a := n) (b := 0) (by omega) (by decide) (by rw [Nat.pow_zero, Nat.mul_one, Nat.one_mul]) (hy_mul1 ha hb hn ⟨rfl, True.intro⟩)
    · exact hx_ok ha (br_f (by decide) (x2 _ (br_t rfl (hy_multiply_n2 ha y2 ⟨rfl, True.intro⟩))))
  · exact x1 _ (br_t rfl (hy_multiply_n1 y1 ⟨rfl, True.intro⟩))
end
section
/-! quotients -/
theorem hy_sgd {a b r : Nat} {fd fx : Int32} {x3 : Int32} {post : Int32 → Prop} (ha : a < 65536) (hb : b < 65536) (hr : r ≤ 31744) (hp : post (hf_sg a b r))
    (K : ∀ z0 : Int32, wpY_withSign (fun y => post y) (nI r) z0 → wY_divide_68 post (nI a) (nI b) x3 z0 fd fx) :
    (nI a < 32768 → wY_divide_49 post (nI a) (nI b) x3 0 fd fx) ∧ (¬ nI a < 32768 → wY_divide_49 post (nI a) (nI b) x3 1 fd fx) := by
  unfold hf_sg at hp
  by_cases z1 : a < 32768 <;> by_cases z2 : b < 32768
  · rw [if_pos (by simp [z1, z2])] at hp
    exact br_t ((hy_lt ha).mpr z1) (br_t ((hy_lt hb).mpr z2) (br_t rfl (K 0 (hy_ws hr (by rw [if_pos rfl]; exact hp)))))
  · rw [if_neg (by simp [z1, z2])] at hp
    exact br_t ((hy_lt ha).mpr z1) (br_f (fun y => z2 ((hy_lt hb).mp y)) (br_f (by decide) (K 1 (hy_ws hr (by rw [if_neg (by decide)]; exact hp)))))
  · rw [if_neg (by simp [z1, z2])] at hp
    exact br_f (fun y => z1 ((hy_lt ha).mp y)) (br_t ((hy_lt hb).mpr z2) (br_f (by decide) (K 1 (hy_ws hr (by rw [if_neg (by decide)]; exact hp)))))
  · rw [if_pos (by simp [z1, z2])] at hp
    exact br_f (fun y => z1 ((hy_lt ha).mp y)) (br_f (fun y => z2 ((hy_lt hb).mp y)) (br_t rfl (K 0 (hy_ws hr (by rw [if_pos rfl]; exact hp)))))
theorem hy_div0 {a b : Nat} (ha : hf_ok a) (hb : hf_ok b) (z : hf_dg b = 0) {v : SY} {post : Int32 → Prop} (hp : post (-1)) : wpY_divide post v (nI a) (nI b) := by
  obtain ⟨fd, fx⟩ := v
  unfold wpY_divide
  dsimp only
  refine hy_ok ha (br_t rfl (hy_ok hb (br_t rfl (hy_dig hb.1 (br_t ?_ hp)))))
  rw [z]
  rfl
theorem hy_div {a b r : Nat} (ha : hf_ok a) (hb : hf_ok b) (z : hf_dg b ≠ 0) (hr : r ≤ 31744) {v : SY} {post : Int32 → Prop} (hp : post (hf_sg a b r))
    (K : ∀ (z0 fd fx : Int32), wpY_withSign (fun y => post y) (nI r) z0 → wY_divide_68 post (nI a) (nI b) (hz_i ((hf_sh a : Int) - hf_sh b + 24)) z0 fd fx) : wpY_divide post v (nI a) (nI b) := by
  obtain ⟨fd, fx⟩ := v
  have d2 := hf_dg_lt b
  have ne : ¬ lN (hf_dg b) = 0 := fun y => z ((pk_lEQ (b := 0) (by omega) (by decide)).mp y)
  have e5 : nI (hf_sh a) - nI (hf_sh b) + 24 = hz_i ((hf_sh a : Int) - hf_sh b + 24) := by rw [← hz_in, ← hz_in, hz_is, ← hz_24, hz_ia]
  unfold wpY_divide
  dsimp only
  exact hy_ok ha (br_t rfl (hy_ok hb (br_t rfl (hy_dig hb.1 (br_f ne (hy_shi ha.1 (hy_shi hb.1 (nm_r e5 (hy_sgd ha.1 hb.1 hr hp (fun z0 => K z0 fd fx))))))))))
theorem hy_tr {x y : Nat} (e : x = y) {post : Int32 → Prop} {z : Int32} (h : wpY_withSign post (nI x) z) : wpY_withSign post (nI y) z := e ▸ h
theorem hf_p2 {n m : Nat} (h : n ≤ m) : 2 ^ n ≤ 2 ^ m := Nat.pow_le_pow_right (by decide) h
theorem hz_45 : hz_i 45 = 45 := by decide +kernel
theorem i_vc_divide {k : Nat} {u : SX} {v : SY} (I : i_Rel k u v) (hk : k + 3 ≤ 1536) (v1 : Int32) (v2 : Int32) : wpX_divide (fun r => wpY_divide (fun r' => r' = r ∧ i_Rel (k + 3) u v) v v1 v2) u v1 v2 := by
  rcases hx_cls v1 with ⟨a, rfl, ha⟩ | ⟨x1, y1⟩
  · rcases hx_cls v2 with ⟨b, rfl, hb⟩ | ⟨x2, y2⟩
    · by_cases z : hf_dg b = 0
      · exact hx_div0 ha hb z (hy_div0 ha hb z ⟨rfl, True.intro⟩)
      · have d1 := hf_dg_lt a
        have d2 := hf_dg_lt b
        have s1 := hf_sh_lt a
        have s2 := hf_sh_lt b
        by_cases c : (hf_sh a : Int) - hf_sh b + 24 < 0
        · obtain ⟨n, hn⟩ : ∃ n : Nat, (hf_sh a : Int) - hf_sh b + 24 = -(n : Int) := ⟨(-((hf_sh a : Int) - hf_sh b + 24)).toNat, by omega⟩
          obtain ⟨q1, q2, q3⟩ := hf_q1 (x := hf_dg a) (y := hf_dg b) (a := n) (b := 30) (by omega)
          have e : hf_dg a * 2 ^ n * 2 ^ 30 = hf_dg a * 2 ^ (n + 30) := by rw [Nat.mul_assoc, ← Nat.pow_add]
          rw [e] at q1 q2 q3
          have p1 := hf_p2 (show n ≤ 6 by omega)
          have p2 : hf_dg b * 2 ^ n ≤ 2048 * 2 ^ 6 := Nat.mul_le_mul (by omega) p1
          have p3 : 0 < hf_dg b * 2 ^ n := Nat.mul_pos (by omega) (Nat.two_pow_pos n)
          refine hx_div ha hb (A := hf_dg a * 2 ^ 30 / hf_dg b) (v := hf_dg a) (l := hf_dg b * 2 ^ n) (a := 0) (b := n + 30) z rfl (by omega) p3 (by rw [Nat.pow_zero, Nat.mul_one]; exact q1) (by rw [Nat.pow_zero, Nat.mul_one]; exact q2) (by rw [Nat.pow_zero, Nat.mul_one]; exact q3) ?_
          refine hy_div ha hb z (hf_R_le _ _) ⟨rfl, True.intro⟩ (fun z0 fd fx hw => hy_dig ha.1 (hy_dig hb.1 ?_))
          by_cases za : hf_dg a = 0
          · exact br_t (by rw [za]; rfl) (hy_tr (y := 0) (by rw [za]; exact hf_R_zero p3) hw)
          · refine br_f (fun y => za ((pk_lEQ (b := 0) (by omega) (by decide)).mp y)) (br_f (fun y => ?_) (br_t ?_ ?_))
            · rw [← hz_45, hz_iLT (by omega) (by omega)] at y
              omega
            · rw [← hz_i0, hz_iLT (by omega) (by omega)]
              exact c
            · rw [hn, hz_ig, Int.neg_neg, hz_in, wb_shl _ (by omega)]
              exact hy_near (by omega) p3 (by omega) hw
        · obtain ⟨n, hn⟩ : ∃ n : Nat, (hf_sh a : Int) - hf_sh b + 24 = (n : Int) := ⟨((hf_sh a : Int) - hf_sh b + 24).toNat, by omega⟩
          obtain ⟨q1, q2, q3⟩ := hf_q1 (x := hf_dg a) (y := hf_dg b) (a := n) (b := 30) (by omega)
          refine hx_div ha hb (A := hf_dg a * 2 ^ 30 / hf_dg b) (v := hf_dg a * 2 ^ n) (l := hf_dg b) (a := n) (b := 30) z rfl (by omega) (by omega) q1 q2 q3 ?_
          refine hy_div ha hb z (hf_R_le _ _) ⟨rfl, True.intro⟩ (fun z0 fd fx hw => hy_dig ha.1 (hy_dig hb.1 ?_))
          by_cases za : hf_dg a = 0
          · exact br_t (by rw [za]; rfl) (hy_tr (y := 0) (by rw [za, Nat.zero_mul]; exact hf_R_zero (by omega)) hw)
          · refine br_f (fun y => za ((pk_lEQ (b := 0) (by omega) (by decide)).mp y)) ?_
            by_cases c45 : (45 : Int) < (hf_sh a : Int) - hf_sh b + 24
            · have hd : 1024 ≤ hf_dg a := by
                have h22 : hf_sh a ≠ 0 := by omega
                unfold hf_sh at h22
                unfold hf_dg
                split
                · rename_i h0
                  rw [if_pos h0] at h22
                  omega
                · omega
              have p1 := hf_p2 (show 46 ≤ n by omega)
              have p2 : 1024 * 2 ^ 46 ≤ hf_dg a * 2 ^ n := Nat.mul_le_mul hd p1
              have big : 1099511627776 ≤ hf_dg a * 2 ^ n / hf_dg b := by
                apply (Nat.le_div_iff_mul_le (by omega)).mpr
                omega
              refine br_t ?_ (hy_tr (y := 31744) (hf_R_big big) hw)
              rw [← hz_45, hz_iLT (by omega) (by omega)]
              exact c45
            · have p1 : hf_dg a * 2 ^ n ≤ 2048 * 2 ^ 45 := Nat.mul_le_mul (by omega) (hf_p2 (by omega))
              refine br_f (fun y => ?_) (br_f ?_ ?_)
              · rw [← hz_45, hz_iLT (by omega) (by omega)] at y
                exact c45 y
              · rw [← hz_i0, hz_iLT (by omega) (by omega)]
                exact c
              · rw [hn, hz_in, wb_shl _ (by omega)]
                exact hy_near (Nat.lt_of_le_of_lt p1 (by decide)) (by omega) (by omega) hw
    · exact hx_ok ha (br_f (by decide) (x2 _ (br_t rfl (hy_divide_n2 ha y2 ⟨rfl, True.intro⟩))))
  · exact x1 _ (br_t rfl (hy_divide_n1 y1 ⟨rfl, True.intro⟩))
/-! roots -/
theorem hy_rt {F r : Nat} (hF : F < 2 ^ 62) (hr1 : r * r ≤ F) (hr2 : F < (r + 1) * (r + 1)) {post : Int64 → Prop} (hp : post (lN r)) : wpY_rootOf post (lN F) := by
  obtain ⟨N, hN⟩ : ∃ N, 2147483648 ≤ N := ⟨2147483648, Nat.le_refl _⟩
  refine ⟨N + 1, hb_search (fun n lo hi => wY_rootOf_7 post (lN F) n (lN lo) (lN hi)) (fun x => x * x) F 2147483648 ?_ ?_ N 0 2147483648 (by omega) (by omega) (by omega) (Nat.zero_le _) ?_⟩
  · intro n lo hB h1 h2
    have e : lo = r := hf_rt_un h1 h2 hr1 hr2
    subst e
    exact br_t (Int64.le_refl _) hp
  · intro n lo hi hlt hB f g
    have e : (lN lo + lN hi + 1) / 2 = lN ((lo + hi + 1) / 2) := by
      rw [lN_add, lN_1]
      exact pk_lDiv (b := 2) (by omega) (by decide) (by decide)
    have b1 : (lo + hi + 1) / 2 * ((lo + hi + 1) / 2) ≤ 2147483648 * 2147483648 := Nat.mul_le_mul (by omega) (by omega)
    have hm : 1 ≤ (lo + hi + 1) / 2 := by omega
    refine br_f (fun y => by have := (pk_lLE (by omega) (by omega)).mp y; omega) ⟨by decide, nm_r e ?_⟩
    rw [lN_mul]
    revert f g b1 hm
    generalize (lo + hi + 1) / 2 = m
    intro f g b1 hm
    by_cases c : F < m * m
    · exact br_t ((pk_lLT (by omega) (by omega)).mpr c) (nm_r (lN_sub (b := 1) hm) (g c))
    · exact br_f (fun y => c ((pk_lLT (by omega) (by omega)).mp y)) (f (Nat.le_of_not_lt c))
  · show F < (2147483648 + 1) * (2147483648 + 1)
    omega
/-- the root of the digits, rounded: r and what is left -/
def hf_rv (c h : Nat) : Nat := if 3 ≤ c then hf_R (h * 2 ^ (c - 3)) 1 else hf_R h (2 ^ (3 - c))
theorem hy_80 {c r δ : Nat} {x2 z0 : Int32} (hc : c < 16) (hx2 : x2 / 2 - 15 = hz_i ((c : Int) - 3)) (hz : z0.toInt64 = lN δ) (hδ : δ ≤ 1) (hr : r < 2 ^ 21) {fd fx : Int32} {post : Int32 → Prop} (hp : post (nI (hf_rv c (2 * r + δ)))) :
    wY_root_80 post x2 z0 (2 * lN r) fd fx := by
  have e : (2 : Int64) * lN r + z0.toInt64 = lN (2 * r + δ) := by
    rw [hz]
    have t : (2 : Int64) = lN 2 := rfl
    rw [t, lN_mul, lN_add]
  refine nm_r e ⟨by decide, nm_r hx2 ?_⟩
  unfold hf_rv at hp
  by_cases c3 : 3 ≤ c
  · rw [if_pos c3] at hp
    have p1 : (2 * r + δ) * 2 ^ (c - 3) ≤ 2 ^ 23 * 2 ^ 13 := Nat.mul_le_mul (by omega) (hf_p2 (by omega))
    refine br_f ?_ ?_
    · rw [← hz_i0, hz_iLT (by omega) (by omega)]
      omega
    · rw [show (c : Int) - 3 = ((c - 3 : Nat) : Int) by omega, hz_in, wb_shl _ (by omega)]
      exact hy_near (l := 1) (Nat.lt_of_le_of_lt p1 (by decide)) (by decide) (by decide) hp
  · rw [if_neg c3] at hp
    have p1 := hf_p2 (show 3 - c ≤ 3 by omega)
    refine br_t ?_ ?_
    · rw [← hz_i0, hz_iLT (by omega) (by omega)]
      omega
    · rw [show (c : Int) - 3 = -((3 - c : Nat) : Int) by omega, hz_ig, Int.neg_neg, hz_in, hz_1s (by omega)]
      exact hy_near (by omega) (Nat.two_pow_pos _) (by omega) hp
theorem hy_44 {c r D δ : Nat} {x2 : Int32} (hc : c < 16) (hx2 : x2 / 2 - 15 = hz_i ((c : Int) - 3)) (hD : D < 4096) (hr1 : r * r ≤ D * 2 ^ 28) (hr2 : D * 2 ^ 28 < (r + 1) * (r + 1)) (hδ : δ = if r * r = D * 2 ^ 28 then 0 else 1) {fd fx : Int32} {post : Int32 → Prop}
    (hp : post (nI (hf_rv c (2 * r + δ)))) : wY_root_44 post x2 (lN D) fd fx := by
  have e1 : lN D <<< ((28 : Int32).toInt64 &&& 63) = lN (D * 2 ^ 28) := wb_shl _ (k := 28) (by decide)
  have hr3 : r < 2 ^ 21 := by
    rcases Nat.lt_or_ge r (2 ^ 21) with z | z
    · exact z
    · have := Nat.mul_le_mul z z
      omega
  refine nm_r e1 (hy_rt (by omega) hr1 hr2 ?_)
  rw [lN_mul]
  have eq : lN (r * r) = lN (D * 2 ^ 28) ↔ r * r = D * 2 ^ 28 := pk_lEQ (by omega) (by omega)
  by_cases y : r * r = D * 2 ^ 28
  · rw [if_pos y] at hδ
    subst hδ
    exact br_t (eq.mpr y) (hy_80 hc hx2 (by decide) (by omega) hr3 hp)
  · rw [if_neg y] at hδ
    subst hδ
    exact br_f (fun w => y (eq.mp w)) (hy_80 hc hx2 (by decide) (by omega) hr3 hp)
theorem hy_root {k r δ : Nat} (hk : hf_ok k) (h32 : k ≤ 32768) (hr1 : r * r ≤ hf_D k * 2 ^ 28) (hr2 : hf_D k * 2 ^ 28 < (r + 1) * (r + 1)) (hδ : δ = if r * r = hf_D k * 2 ^ 28 then 0 else 1) {v : SY} {post : Int32 → Prop}
    (hp : post (nI (hf_rv (hf_sh k / 2) (2 * r + δ)))) : wpY_root post v (nI k) := by
  obtain ⟨fd, fx⟩ := v
  have hs := hf_sh_lt k
  have hDl := hf_D_lt k
  have e2 : nI (hf_sh k) + 24 = nI (hf_sh k + 24) := nI_add _ 24
  have e3 : nI (hf_sh k + 24) - nI (hf_sh k + 24) / 2 * 2 = nI ((hf_sh k + 24) % 2) := pk_rem (d := 2) (by omega) (by decide) (by decide)
  have e4 : nI (hf_sh k + 24) / 2 - 15 = hz_i (((hf_sh k / 2 : Nat) : Int) - 3) := by
    have t : nI (hf_sh k + 24) / 2 = nI ((hf_sh k + 24) / 2) := pk_div (d := 2) (by omega) (by decide) (by decide)
    have t2 : hz_i 15 = 15 := by decide +kernel
    rw [t, ← hz_in, ← t2, hz_is]
    congr 1
    omega
  unfold wpY_root
  dsimp only
  refine hy_ok hk (br_t rfl (br_t (nI_le (b := 32768) h32 (by decide)) (hy_shi hk.1 (nm_r e2 ⟨by decide, ?_⟩))))
  rw [e3]
  by_cases z : hf_sh k % 2 = 0
  · have eD : hf_D k = hf_dg k := by rw [hf_D, if_pos z]
    rw [eD] at hr1 hr2 hδ hDl
    exact br_t (by rw [show (hf_sh k + 24) % 2 = 0 by omega]; rfl) (hy_dig hk.1 (hy_44 (by omega) e4 hDl hr1 hr2 hδ hp))
  · have eD : hf_D k = hf_dg k * 2 := by rw [hf_D, if_neg z]
    rw [eD] at hr1 hr2 hδ hDl
    refine br_f (by rw [show (hf_sh k + 24) % 2 = 1 by omega]; decide) (hy_dig hk.1 ?_)
    have t : (2 : Int64) * lN (hf_dg k) = lN (hf_dg k * 2) := by
      rw [Nat.mul_comm]
      exact lN_mul 2 _
    rw [t]
    exact hy_44 (by omega) e4 hDl hr1 hr2 hδ hp
theorem hy_root0 {k : Nat} (hk : hf_ok k) (h32 : 32768 < k) {v : SY} {post : Int32 → Prop} (hp : post (-1)) : wpY_root post v (nI k) := by
  obtain ⟨fd, fx⟩ := v
  have := hk.1
  unfold wpY_root
  dsimp only
  exact hy_ok hk (br_t rfl (br_f (nI_ge (a := 32768) h32 (by omega)) hp))
theorem i_vc_root {k : Nat} {u : SX} {v : SY} (I : i_Rel k u v) (hk : k + 3 ≤ 1536) (v1 : Int32) : wpX_root (fun r => wpY_root (fun r' => r' = r ∧ i_Rel (k + 3) u v) v v1) u v1 := by
  rcases hx_cls v1 with ⟨a, rfl, ha⟩ | ⟨x1, y1⟩
  · rcases Nat.lt_or_ge 32768 a with h | h
    · exact hx_root0 ha h (hy_root0 ha h ⟨rfl, True.intro⟩)
    · obtain ⟨r, hr1, hr2⟩ := hf_rt_ex (hf_D a * 2 ^ 28)
      obtain ⟨δ, hδ⟩ : ∃ δ, δ = if r * r = hf_D a * 2 ^ 28 then 0 else 1 := ⟨_, rfl⟩
      have hδ1 : δ ≤ 1 := by rw [hδ]; split <;> omega
      have hne : r * r ≠ hf_D a * 2 ^ 28 ↔ δ ≠ 0 := by
        rw [hδ]
        split
        · rename_i y
          exact ⟨fun w => absurd y w, fun w => absurd rfl w⟩
        · rename_i y
          exact ⟨fun _ => by decide, fun _ => y⟩
      have hY : wpY_root (fun r' => r' = nI (hf_rv (hf_sh a / 2) (2 * r + δ)) ∧ i_Rel (k + 3) u v) v (nI a) := hy_root ha h hr1 hr2 hδ ⟨rfl, True.intro⟩
      revert hY
      have hs := hf_sh_lt a
      generalize hcc : hf_sh a / 2 = c
      unfold hf_rv
      by_cases c3 : 3 ≤ c
      · rw [if_pos c3]
        intro hY
        obtain ⟨q1, q2, q3⟩ := hf_rtP (r := r) (P := 2 ^ (c - 3)) (Nat.two_pow_pos _) hδ1
        have e : 1 * 2 ^ (c - 2) = 2 ^ (c - 3) * 2 := by rw [Nat.one_mul, ← Nat.pow_succ]; congr 1; omega
        refine hx_root ha h (v := (2 * r + δ) * 2 ^ (c - 3)) (l := 1) (a := c - 2) (b := 0) hr1 hr2 (by omega) (by decide) ?_ ?_ ?_ hY
        · rw [e, Nat.pow_zero, Nat.mul_one]; exact q1
        · rw [e, Nat.pow_zero, Nat.mul_one]; exact q2
        · rw [e, Nat.pow_zero, Nat.mul_one]; exact hne.trans q3
      · rw [if_neg c3]
        intro hY
        obtain ⟨q1, q2, q3⟩ := hf_rtP (r := r) (P := 2 ^ (3 - c)) (Nat.two_pow_pos _) hδ1
        refine hx_root ha h (v := 2 * r + δ) (l := 2 ^ (3 - c)) (a := 1) (b := 3 - c) hr1 hr2 (by omega) (Nat.two_pow_pos _) ?_ ?_ ?_ hY
        · rw [Nat.pow_one]; exact q1
        · rw [Nat.pow_one]; exact q2
        · rw [Nat.pow_one]; exact hne.trans q3
  · exact x1 _ (br_t rfl (hy_root_n1 y1 ⟨rfl, True.intro⟩))
end
section
/-! decimal numbers: the reference -/
theorem hy_pow {x : Nat} (hx : x ≤ 30) {post : Int64 → Prop} (hp : post (lN (10 ^ x))) : wpY_power post (nI x) := by
  have key : ∀ d i, i + d = x → wY_power_4 post (nI x) (d + 1) (lN (10 ^ i)) (nI i) := by
    intro d
    induction d with
    | zero =>
      intro i hi
      have e : i = x := by omega
      subst e
      exact br_t (Int32.le_refl _) hp
    | succ d ih =>
      intro i hi
      refine br_f (nI_ge (a := i) (b := x) (by omega) (by omega)) (nm_r (e' := lN (10 ^ (i + 1))) ?_ (nm_r (nI_1 i) (ih (i + 1) (by omega))))
      rw [Nat.pow_succ, Nat.mul_comm]
      exact lN_mul 10 _
  exact ⟨x + 1, key x 0 (by omega)⟩
theorem hy_50 {v R : Nat} (hv : v < 2 ^ 30) {post : Int32 → Prop} (hp : post (nI R)) (h1 : 100000 ≤ v → R = 31744) (h2 : v < 100000 → R = hf_R (v * 16777216) 1) : wY_parsed_50 post (lN v) := by
  rcases Nat.lt_or_ge v 100000 with z | z
  · rw [h2 z] at hp
    refine br_f (fun y => by have := (pk_lLE (a := 100000) (by decide) (by omega)).mp y; omega) ?_
    have e : lN v <<< ((24 : Int32).toInt64 &&& 63) = lN (v * 16777216) := wb_shl _ (k := 24) (by decide)
    unfold wY_parsed_68
    rw [e]
    exact hy_near (l := 1) (by omega) (by decide) (by decide) hp
  · rw [h1 z] at hp
    refine br_t ((pk_lLE (a := 100000) (by decide) (by omega)).mpr z) ?_
    exact hy_near (u := 1099511627776) (l := 1) (by decide) (by decide) (by decide) (by rw [hf_R_40]; exact hp)
theorem hy_pp {d n : Nat} (hd : d ≤ 999999) (hn : n ≤ 12) {post : Int32 → Prop} (hp : post (nI (hf_R (d * 10 ^ n * 16777216) 1))) : wpY_parsed post (lN d) (nI n) := by
  have key : ∀ t i, i + t = n → d * 10 ^ i ≤ 999999 → wY_parsed_24 post (nI n) (t + 1) (lN (d * 10 ^ i)) (nI i) := by
    intro t
    induction t with
    | zero =>
      intro i hi hv
      have e : i = n := by omega
      subst e
      exact br_t (Int32.le_refl _) (hy_50 (by omega) hp (fun z => hf_R_dec_big (Nat.le_refl _) z) (fun _ => rfl))
    | succ t ih =>
      intro i hi hv
      refine br_f (nI_ge (a := i) (b := n) (by omega) (by omega)) ?_
      rcases Nat.lt_or_ge (d * 10 ^ i) 100000 with z | z
      · refine br_f (fun y => by have := (pk_lLE (a := 100000) (by decide) (by omega)).mp y; omega) ?_
        have e : d * 10 ^ (i + 1) = 10 * (d * 10 ^ i) := by rw [Nat.pow_succ, ← Nat.mul_assoc, Nat.mul_comm]
        refine nm_r (e' := lN (d * 10 ^ (i + 1))) ?_ (nm_r (nI_1 i) (ih (i + 1) (by omega) (by omega)))
        rw [e]
        exact lN_mul 10 _
      · exact br_t ((pk_lLE (a := 100000) (by decide) (by omega)).mpr z) (hy_50 (by omega) hp (fun _ => hf_R_dec_big (by omega) z) (fun w => by omega))
  have k0 := key n 0 (by omega) (by omega)
  rw [Nat.pow_zero, Nat.mul_one] at k0
  exact br_t (nI_pos' (by omega)) ⟨n + 1, k0⟩
theorem hy_pn {d n : Nat} (hd : d ≤ 999999) (h0 : 0 < n) (hn : n ≤ 12) {post : Int32 → Prop} (hp : post (nI (hf_R (d * 16777216) (10 ^ n)))) : wpY_parsed post (lN d) (hz_i (-(n : Int))) := by
  have p1 := hf_p10 hn
  refine br_f (fun y => ?_) ?_
  · rw [← hz_i0, hz_iLE (by omega) (by omega)] at y
    omega
  · rw [hz_ig, Int.neg_neg, hz_in]
    have e : lN d <<< ((24 : Int32).toInt64 &&& 63) = lN (d * 16777216) := wb_shl _ (k := 24) (by decide)
    rw [e]
    exact hy_pow (by omega) (hy_near (by omega) (hf_p10p n) (by omega) hp)
theorem hy_pd {d : Nat} {x : Int} (hd : d ≤ 999999) (hx : -12 ≤ x ∧ x ≤ 12) {post : Int32 → Prop} (hp : post (nI (hf_dc d x))) : wpY_parsed post (lN d) (hz_i x) := by
  by_cases z : x < 0
  · obtain ⟨n, rfl⟩ : ∃ n : Nat, x = -(n : Int) := ⟨(-x).toNat, by omega⟩
    rw [hf_dc_m (by omega)] at hp
    exact hy_pn hd (by omega) (by omega) hp
  · obtain ⟨n, rfl⟩ : ∃ n : Nat, x = (n : Int) := ⟨x.toNat, by omega⟩
    rw [hf_dc_n] at hp
    rw [hz_in]
    exact hy_pp hd (by omega) hp
theorem hz_m12 : hz_i (-12) = -12 := by decide +kernel
theorem hz_12 : hz_i 12 = 12 := by decide +kernel
theorem i_vc_parse {k : Nat} {u : SX} {v : SY} (I : i_Rel k u v) (hk : k + 3 ≤ 1536) (v1 : Int32) (v2 : Int32) : wpX_parse (fun r => wpY_parse (fun r' => r' = r ∧ i_Rel (k + 3) u v) v v1 v2) u v1 v2 := by
  obtain ⟨fd, fx⟩ := v
  unfold wpX_parse wpY_parse
  dsimp only
  by_cases h0 : v1 < 0
  · exact br_t h0 (br_t h0 ⟨rfl, True.intro⟩)
  refine br_f h0 ?_
  by_cases h1 : 999999 < v1
  · exact br_t h1 (br_f h0 (br_t h1 ⟨rfl, True.intro⟩))
  refine br_f h1 ?_
  by_cases h2 : v2 < (-12)
  · exact br_t h2 (br_f h0 (br_f h1 (br_t h2 ⟨rfl, True.intro⟩)))
  refine br_f h2 ?_
  by_cases h3 : v2 ≤ 12
  · refine br_t h3 ?_
    obtain ⟨d, hd, rfl⟩ := nI_of h0
    have hd2 : d ≤ 999999 := by
      rcases Nat.lt_or_ge 999999 d with z | z
      · exact absurd (nI_lt (a := 999999) z hd) h1
      · exact z
    have e2 : v2 = hz_i v2.toInt := (Int32.ofInt_toInt v2).symm
    have c1 : -12 ≤ v2.toInt := by
      rw [← hz_m12, Int32.lt_iff_toInt_lt, hz_iT (by omega) (by omega)] at h2
      omega
    have c2 : v2.toInt ≤ 12 := by
      rw [← hz_12, Int32.le_iff_toInt_le, hz_iT (by omega) (by omega)] at h3
      exact h3
    have hX : ∀ post : Int32 → Prop, post (nI (hf_dc d v2.toInt)) → wpX_roundedDecimal post (nI d).toInt64 v2 := by
      intro post hp
      rw [nI_l hd, e2]
      exact hx_rd hd2 ⟨c1, c2⟩ hp
    have hY : ∀ post : Int32 → Prop, post (nI (hf_dc d v2.toInt)) → wpY_parsed post (nI d).toInt64 v2 := by
      intro post hp
      rw [nI_l hd, e2]
      exact hy_pd hd2 ⟨c1, c2⟩ hp
    exact hX _ (br_f h0 (br_f h1 (br_f h2 (br_t h3 (hY _ ⟨rfl, True.intro⟩)))))
  · exact br_f h3 (br_f h0 (br_f h1 (br_f h2 (br_f h3 ⟨rfl, True.intro⟩))))
end
section
/-! the reference's writing: lengths, distances -/
theorem hy_len {d : Nat} (hd : d < 10000000) {post : Int32 → Prop} (hp : post (nI (hf_ln d))) : wpY_length post (lN d) := by
  have key : ∀ t i, i + t = 8 → 1 ≤ i → (i = 1 ∨ 10 ^ (i - 1) ≤ d) → wY_length_2 post (lN d) (t + 1) (nI i) := by
    intro t
    induction t with
    | zero =>
      intro i hi h1 h
      have e : i = 8 := by omega
      subst e
      have h2 : 10000000 ≤ d := h.resolve_left (by decide)
      omega
    | succ t ih =>
      intro i hi h1 h
      have p7 : 10 ^ i ≤ 10 ^ 7 := Nat.pow_le_pow_right (by decide) (by omega)
      refine br_f (nI_ge (a := i) (b := 18) (by omega) (by decide)) (hy_pow (by omega) ?_)
      rcases Nat.lt_or_ge d (10 ^ i) with c | c
      · rw [hf_ln_is h c h1 (by omega) hd] at hp
        exact br_t ((pk_lLT (by omega) (by omega)).mpr c) hp
      · exact br_f (fun y => by have := (pk_lLT (by omega) (by omega)).mp y; omega) (nm_r (nI_1 i) (ih (i + 1) (by omega) (by omega) (Or.inr (by rw [Nat.add_sub_cancel]; exact c))))
  exact ⟨8, key 7 1 (by omega) (by omega) (Or.inl rfl)⟩
theorem hy_far {d V n m : Nat} {p1 : Int32} (h1 : p1 + nI m = nI n) (hn : n ≤ 30) (hm : m ≤ 30) (ha : d * 10 ^ n * 16777216 < 2 ^ 62) (hb : V * 10 ^ m < 2 ^ 63) {post : Int64 → Prop} (hp : post (lN (hf_ds (d * 10 ^ n * 16777216) (V * 10 ^ m)))) : wpY_far post (lN d) p1 (nI m) (lN V) := by
  have e : lN (d * 10 ^ n) <<< ((24 : Int32).toInt64 &&& 63) = lN (d * 10 ^ n * 16777216) := wb_shl _ (k := 24) (by decide)
  unfold wpY_far
  rw [h1]
  refine hy_pow hn (hy_pow hm ?_)
  rw [lN_mul, lN_mul, e]
  revert ha hb hp
  generalize d * 10 ^ n * 16777216 = a
  generalize V * 10 ^ m = b
  intro ha hb hp
  refine nm_r (e' := hz_l ((a : Int) - (b : Int))) (by rw [← hz_ln, ← hz_ln, hz_ls]) ?_
  rcases Nat.lt_or_ge a b with c | c
  · have e2 : hf_ds a b = b - a := by unfold hf_ds; omega
    rw [e2] at hp
    refine br_f (fun y => ?_) ?_
    · rw [← hz_l0, hz_lLE (by omega) (by omega)] at y
      omega
    · rw [hz_lg, show -((a : Int) - (b : Int)) = ((b - a : Nat) : Int) by omega, hz_ln]
      exact hp
  · have e2 : hf_ds a b = a - b := by unfold hf_ds; omega
    rw [e2] at hp
    refine br_t ?_ ?_
    · rw [← hz_l0, hz_lLE (by omega) (by omega)]
      omega
    · rw [show (a : Int) - (b : Int) = ((a - b : Nat) : Int) by omega, hz_ln]
      exact hp
theorem hf_ds_lt {a b : Nat} (ha : a < 2 ^ 62) (hb : b < 2 ^ 63) : hf_ds a b < 2 ^ 63 := by unfold hf_ds; omega
theorem hy_26c {x y d bd n1 n2 : Nat} (hn1 : n1 ≤ 30) (hn2 : n2 ≤ 30) (b1 : x < 2 ^ 63) (b2 : y < 2 ^ 63) (k1 : d * 10 ^ n1 < 2 ^ 62) (k2 : bd * 10 ^ n2 < 2 ^ 62) {post : Int32 → Prop}
    (hp : post (bif (bif Nat.beq x y then Nat.blt (d * 10 ^ n1) (bd * 10 ^ n2) else Nat.blt x y) then 1 else 0)) :
    ((lN x = lN y → wpY_power (fun r_6 => wpY_power (fun r_7 => ((lN bd * r_7 ≤ lN d * r_6 → post 0) ∧ (¬ lN bd * r_7 ≤ lN d * r_6 → post 1))) (nI n2)) (nI n1)) ∧ (¬ lN x = lN y → ((lN y ≤ lN x → post 0) ∧ (¬ lN y ≤ lN x → post 1)))) := by
  by_cases z : x = y
  · rw [hf_ct (hf_qt z)] at hp
    refine br_t (by rw [z]) (hy_pow hn1 (hy_pow hn2 ?_))
    rw [lN_mul, lN_mul]
    rcases Nat.lt_or_ge (d * 10 ^ n1) (bd * 10 ^ n2) with c | c
    · rw [hf_bt c] at hp
      exact br_f (fun w => by have := (pk_lLE (by omega) (by omega)).mp w; omega) hp
    · rw [hf_bf c] at hp
      exact br_t ((pk_lLE (by omega) (by omega)).mpr c) hp
  · rw [hf_cf (hf_qf z)] at hp
    refine br_f (fun w => z ((pk_lEQ b1 b2).mp w)) ?_
    rcases Nat.lt_or_ge x y with c | c
    · rw [hf_bt c] at hp
      exact br_f (fun w => by have := (pk_lLE b2 b1).mp w; omega) hp
    · rw [hf_bf c] at hp
      exact br_t ((pk_lLE b2 b1).mpr c) hp
theorem hy_26 {d bd V n1 n2 m : Nat} {p1 p3 : Int32} (h1 : p1 + nI m = nI n1) (h3 : p3 + nI m = nI n2) (hn1 : n1 ≤ 30) (hn2 : n2 ≤ 30) (hm : m ≤ 30) (ha : d * 10 ^ n1 * 16777216 < 2 ^ 62) (hc : bd * 10 ^ n2 * 16777216 < 2 ^ 62) (hb : V * 10 ^ m < 2 ^ 63)
    {post : Int32 → Prop} (hp : post (bif hf_nr2 (V * 10 ^ m) (d * 10 ^ n1) (bd * 10 ^ n2) then 1 else 0)) : wY_nearer_26 post (lN d) p1 (lN bd) p3 (lN V) (nI m) := by
  refine hy_far h1 hn1 hm ha hb (hy_far h3 hn2 hm hc hb ?_)
  have k1 : d * 10 ^ n1 < 2 ^ 62 := by omega
  have k2 : bd * 10 ^ n2 < 2 ^ 62 := by omega
  rw [h1, h3]
  unfold hf_nr2 at hp
  exact hy_26c hn1 hn2 (hf_ds_lt ha hb) (hf_ds_lt hc hb) k1 k2 hp
theorem hy_nearer {V j e s : Nat} (hj : j ≤ 16) (hbj : s % 32 ≤ j) (hj1 : j ≤ s % 32 + 1) (he : e ≤ 999999) (hs : s / 32 ≤ 999999) (hV : V * 10 ^ (j - 4) < 2 ^ 63) {post : Int32 → Prop} (hp : post (bif hf_nr V j e s then 1 else 0)) :
    wpY_nearer post (lN e) (hz_i (4 - (j : Int))) (lN (s / 32)) (hz_i (4 - ((s % 32 : Nat) : Int))) (lN V) := by
  have q1 : 10 ^ (4 - j) ≤ 10 ^ 4 := Nat.pow_le_pow_right (by decide) (by omega)
  have q2 : 10 ^ (4 - j + j - s % 32) ≤ 10 ^ 4 := Nat.pow_le_pow_right (by decide) (by omega)
  have r1 : e * 10 ^ (4 - j) ≤ 999999 * 10 ^ 4 := Nat.mul_le_mul he q1
  have r2 : s / 32 * 10 ^ (4 - j + j - s % 32) ≤ 999999 * 10 ^ 4 := Nat.mul_le_mul hs q2
  have a1 : hz_i (4 - (j : Int)) + nI (j - 4) = nI (4 - j) := by
    rw [← hz_in, hz_ia, ← hz_in]
    congr 1
    omega
  have a3 : hz_i (4 - ((s % 32 : Nat) : Int)) + nI (j - 4) = nI (4 - j + j - s % 32) := by
    rw [← hz_in, hz_ia, ← hz_in]
    congr 1
    omega
  have main := hy_26 (d := e) (bd := s / 32) (V := V) (post := post) a1 a3 (by omega) (by omega) (by omega) (by omega) (by omega) hV hp
  have m12 : wY_nearer_12 post (lN e) (hz_i (4 - (j : Int))) (lN (s / 32)) (hz_i (4 - ((s % 32 : Nat) : Int))) (lN V) (hz_i (4 - (j : Int))) := by
    by_cases c : 4 < j
    · refine br_f (fun y => ?_) ?_
      · rw [← hz_i0, hz_iLE (by omega) (by omega)] at y
        omega
      · rw [hz_ig, show -(4 - (j : Int)) = ((j - 4 : Nat) : Int) by omega, hz_in]
        exact main
    · refine br_t ?_ ?_
      · rw [← hz_i0, hz_iLE (by omega) (by omega)]
        omega
      · rw [show j - 4 = 0 by omega] at main
        exact main
  by_cases c : s % 32 = j
  · rw [c] at m12 ⊢
    exact br_t (Int32.le_refl _) m12
  · refine br_f (fun y => ?_) m12
    rw [hz_iLE (by omega) (by omega)] at y
    omega
/-! the best so far -/
def hf_rep (s : Nat) (fd fx : Int32) : Prop := fd = nI (s / 32) ∧ (s ≠ 0 → fx = hz_i (4 - ((s % 32 : Nat) : Int)))
theorem hy_take {V p j e s : Nat} {fd fx : Int32} (hI : hf_inv j s) (hj : j ≤ 16) (he1 : e % 10 ≠ 0) (he : e ≤ 999999) (hr : hf_rd e j = p) (hV : V * 10 ^ (j - 4) < 2 ^ 63) (hlt : hf_tk V p j e s < 100000000000000000000) (hf : hf_rep s fd fx)
    {post : SY → Prop} (hp : ∀ fd' fx' : Int32, hf_rep (hf_tk V p j e s) fd' fx' → post (fd', fx')) : wpY_take post (fd, fx) (lN e) (hz_i (4 - (j : Int))) (lN V) := by
  have hs := hf_tk_lt hlt
  have tk : hf_tk V p j e s = e * 32 + j → post ((lN e).toInt32, hz_i (4 - (j : Int))) := by
    intro t
    apply hp
    rw [t]
    refine ⟨?_, fun _ => ?_⟩
    · rw [lN_i, show (e * 32 + j) / 32 = e by omega]
    · rw [show (e * 32 + j) % 32 = j by omega]
  have sm : hf_tk V p j e s = s → post (fd, fx) := by
    intro t
    apply hp
    rw [t]
    exact hf
  unfold wpY_take
  dsimp only
  refine hy_len (by omega) ?_
  by_cases z : s = 0
  · subst z
    have l1 : hf_ln e ≤ 7 := by
      unfold hf_ln
      repeat (first | omega | (cases Nat.blt e _ <;> simp only [cond_true, cond_false]))
    exact br_t hf.1 (br_t (nI_lt (b := 100) (by omega) (by decide)) (tk (hf_tk_0 he1 hr)))
  · have hI2 : 32 ≤ s ∧ s < 32000000 ∧ s % 32 ≤ j := hI.resolve_left z
    have q := hf_tk_s (V := V) hs z he1 hr
    have hfd := hf.1
    have hfx := hf.2 z
    have ne : ¬ fd = 0 := by
      rw [hfd]
      intro y
      have := (nI_eq (b := 0) (by omega) (by decide)).mp y
      omega
    have e64 : fd.toInt64 = lN (s / 32) := by rw [hfd, nI_l (by omega)]
    have B : ∀ d : Nat, hf_ln d < 100 := by
      intro d
      unfold hf_ln
      repeat (first | omega | (cases Nat.blt d _ <;> simp only [cond_true, cond_false]))
    have B1 := B e
    have B2 := B (s / 32)
    refine br_f ne ?_
    rw [e64]
    refine hy_len (by omega) ?_
    rcases Nat.lt_trichotomy (hf_ln e) (hf_ln (s / 32)) with c | c | c
    · rw [hf_cf (hf_bf (by omega)), hf_ct (hf_bt c)] at q
      exact br_t (nI_lt c (by omega)) (tk q)
    · rw [hf_cf (hf_bf (by omega)), hf_cf (hf_bf (by omega))] at q
      have hj1 : j ≤ s % 32 + 1 := by
        rcases Nat.lt_or_ge (s % 32 + 1) j with w | w
        · rw [hf_cf (hf_ef w)] at q
          omega
        · exact w
      rw [hf_ct (hf_et hj1)] at q
      refine br_f (by rw [c]; exact Int32.lt_irrefl) (br_t (by rw [c]) ?_)
      rw [e64, hfx]
      refine hy_nearer hj hI2.2.2 hj1 he (by omega) hV ?_
      rw [← hfx]
      cases b : hf_nr V j e s
      · rw [b] at q
        exact br_t rfl (sm q)
      · rw [b] at q
        exact br_f (by decide) (tk q)
    · rw [hf_ct (hf_bt c)] at q
      exact br_f (nI_nlt (by omega) (by omega)) (br_f (fun w => by have := (nI_eq (by omega) (by omega)).mp w; omega) (sm q))
end
section
/-! the reference's writing: the loops -/
theorem hz_pshr {a d : Nat} {D : Int64} (hD : (D.toBitVec.smod 64).toNat = d) (h : a < 2 ^ 63) : lN a >>> D = lN (a / 2 ^ d) := by
  have hd : a / 2 ^ d ≤ a := Nat.div_le_self _ _
  apply Int64.toInt_inj.mp
  have e : (lN a >>> D).toInt = (lN a).toInt >>> d := by
    rw [← hD]
    exact BitVec.toInt_sshiftRight ..
  rw [e, Int.shiftRight_eq_div_pow, pf_lI (by omega), pf_lI (by omega)]
  rfl
theorem hy_s24 {a : Nat} (h : a < 2 ^ 63) : lN a >>> ((24 : Int32).toInt64 &&& 63) = lN (a / 16777216) := hz_pshr (d := 24) (by decide) h
theorem hy_w1 {V p j e s d k n : Nat} {fd fx : Int32} {post : SY → Prop} {J : Int32 → Int32 → Int32 → Prop} (hk : k < 65536) (hkp : k % 32768 = p) (hp31 : p < 31744) (hI : hf_inv j s) (hj : j ≤ 16) (hd : d < 999999) (he : e ≤ d + 1) (hV : V * 10 ^ (j - 4) < 2 ^ 63)
    (hlt : hf_tk V p j e s < 100000000000000000000) (hf : hf_rep s fd fx)
    (hc : ∀ fd' fx' : Int32, hf_rep (hf_tk V p j e s) fd' fx' → wY_write_100 post J (nI k) (lN V) (hz_i (4 - (j : Int))) (lN d) n (lN (e + 1)) fd' fx') :
    wY_write_100 post J (nI k) (lN V) (hz_i (4 - (j : Int))) (lN d) (n + 1) (lN e) fd fx := by
  have hs := hf_tk_lt hlt
  have no : (e % 10 = 0 ∨ hf_rd e j ≠ p) → wY_write_100 post J (nI k) (lN V) (hz_i (4 - (j : Int))) (lN d) n (lN (e + 1)) fd fx := by
    intro h
    apply hc
    rw [hf_tk_no hs h]
    exact hf
  have e1 : lN d + 1 = lN (d + 1) := lN_1 d
  have r10 : lN e - lN e / 10 * 10 = lN (e % 10) := pk_lRem (b := 10) (by omega) (by decide) (by decide)
  refine br_f ?_ (br_f ?_ ?_)
  · rw [e1, pk_lLT (by omega) (by omega)]
    omega
  · exact fun y => by have := (pk_lLE (a := 999999) (by decide) (by omega)).mp y; omega
  · by_cases e0 : e = 0
    · refine br_t ((pk_lLT (b := 1) (by omega) (by decide)).mpr (by omega)) (nm_r (lN_1 e) (no (Or.inl (by omega))))
    · refine br_f (fun y => by have := (pk_lLT (b := 1) (by omega) (by decide)).mp y; omega) ⟨by decide, ?_⟩
      rw [r10]
      by_cases t : e % 10 = 0
      · exact br_t (by rw [t]; rfl) (nm_r (lN_1 e) (no (Or.inl t)))
      · refine br_f (fun y => t ((pk_lEQ (b := 0) (by omega) (by decide)).mp y)) (hy_pd (by omega) (by omega) ?_)
        rw [hf_dc_j, hx_lo hk, hkp]
        have rl := hf_rd_le e j
        by_cases hr : hf_rd e j = p
        · refine br_t (by rw [hr]) (hy_take hI hj t (by omega) hr hV hlt hf (fun fd' fx' h => nm_r (lN_1 e) (hc fd' fx' h)))
        · exact br_f (fun y => hr ((nI_eq (by omega) (by omega)).mp y)) (nm_r (lN_1 e) (no (Or.inr hr)))
theorem hy_step {j : Nat} : hz_i (4 - (j : Int)) + (-1) = hz_i (4 - ((j + 1 : Nat) : Int)) := by
  rw [← hz_m1, hz_ia]
  congr 1
  omega
theorem hy_w2 {V p j s d k : Nat} {fd fx : Int32} {post : SY → Prop} {J : Int32 → Int32 → Int32 → Prop} (hk : k < 65536) (hkp : k % 32768 = p) (hp31 : p < 31744) (hI : hf_inv j s) (hj : j ≤ 16) (hd62 : d < 2 ^ 62) (hV : d < 999999 → V * 10 ^ (j - 4) < 2 ^ 63)
    (hlt : hf_ys1 V p j d s < 100000000000000000000) (hf : hf_rep s fd fx) (hJ : ∀ fd' fx' : Int32, hf_rep (hf_ys1 V p j d s) fd' fx' → J (hz_i (4 - ((j + 1 : Nat) : Int))) fd' fx') :
    ∃ n, wY_write_100 post J (nI k) (lN V) (hz_i (4 - (j : Int))) (lN d) n (lN d) fd fx := by
  have e1 : lN d + 1 = lN (d + 1) := lN_1 d
  rcases Nat.lt_or_ge d 999999 with c | c
  · have ey : hf_ys1 V p j d s = hf_tk V p j (d + 1) (hf_tk V p j d s) := by
      unfold hf_ys1
      exact hf_ct (hf_bt c)
    rw [ey] at hlt hJ
    have h1 := hf_tk_lt hlt
    have I1 := hf_inv_tk (V := V) (p := p) hj (show d ≤ 999999 by omega) hI h1
    refine ⟨3, hy_w1 hk hkp hp31 hI hj c (by omega) (hV c) h1 hf (fun fd1 fx1 g1 => hy_w1 hk hkp hp31 I1 hj c (by omega) (hV c) hlt g1 (fun fd2 fx2 g2 => br_t ?_ (nm_r hy_step (hJ fd2 fx2 g2))))⟩
    rw [e1, pk_lLT (by omega) (by omega)]
    omega
  · have ey : hf_ys1 V p j d s = s := by
      unfold hf_ys1
      exact hf_cf (hf_bf c)
    rw [ey] at hJ
    refine ⟨1, br_f ?_ (br_t ((pk_lLE (a := 999999) (by decide) (by omega)).mpr c) (nm_r hy_step (hJ fd fx hf)))⟩
    rw [e1, pk_lLT (by omega) (by omega)]
    omega
theorem hy_33 {V p j s k : Nat} {fd fx x0 : Int32} {post : SY → Prop} {J : Int32 → Int32 → Int32 → Prop} (hk : k < 65536) (hkp : k % 32768 = p) (hp31 : p < 31744) (hI : hf_inv j s) (hj : j ≤ 16) (hV40 : V < 1099511627776)
    (hlt : hf_ys1 V p j (hf_yd V j) s < 100000000000000000000) (hf : hf_rep s fd fx) (hJ : ∀ fd' fx' : Int32, hf_rep (hf_ys1 V p j (hf_yd V j) s) fd' fx' → J (hz_i (4 - ((j + 1 : Nat) : Int))) fd' fx')
    (hx1 : 4 < j → x0 = nI (j - 4)) (hx2 : j ≤ 4 → x0 = nI (4 - j)) :
    wY_write_33 post J (nI k) (lN V) (hz_i (4 - (j : Int))) x0 fd fx := by
  by_cases c : 4 < j
  · rw [hx1 c]
    have p1 := hf_p10 (n := j - 4) (by omega)
    have p0 := hf_p10p (j - 4)
    have neg : ¬ 0 ≤ hz_i (4 - (j : Int)) := by
      rw [← hz_i0, hz_iLE (by omega) (by omega)]
      omega
    have lt0 : hz_i (4 - (j : Int)) < 0 := by
      rw [← hz_i0, hz_iLT (by omega) (by omega)]
      omega
    have ne : ¬ lN (10 ^ (j - 4)) = 0 := fun y => by have := (pk_lEQ (b := 0) (by omega) (by decide)).mp y; omega
    have ed : (9000000000000000000 : Int64) / lN (10 ^ (j - 4)) = lN (9000000000000000000 / 10 ^ (j - 4)) := pk_lDiv (a := 9000000000000000000) (by decide) p0 (by omega)
    have bq : 9000000000000000000 / 10 ^ (j - 4) ≤ 9000000000000000000 := Nat.div_le_self _ _
    refine hy_pow (by omega) (br_f neg ⟨ne, ?_⟩)
    rw [ed]
    have yd : hf_yd V j = bif Nat.blt V (9000000000000000000 / 10 ^ (j - 4)) then V * 10 ^ (j - 4) / 16777216 else 1000000 := by
      unfold hf_yd
      exact hf_cf (hf_ef c)
    rcases Nat.lt_or_ge V (9000000000000000000 / 10 ^ (j - 4)) with w | w
    · rw [hf_ct (hf_bt w)] at yd
      have bV : V * 10 ^ (j - 4) ≤ 9000000000000000000 := Nat.le_trans (Nat.mul_le_mul_right _ (Nat.le_of_lt w)) (Nat.div_mul_le_self _ _)
      have bV3 : V * 10 ^ (j - 4) < 2 ^ 63 := Nat.lt_of_le_of_lt bV (by decide)
      refine br_f (fun y => by have := (pk_lLE (by omega) (by omega)).mp y; omega) (br_f (by decide) (br_t lt0 ?_))
      rw [lN_mul]
      refine nm_r (hy_s24 bV3) ?_
      rw [yd] at hlt hJ
      exact hy_w2 hk hkp hp31 hI hj (by omega) (fun _ => bV3) hlt hf hJ
    · rw [hf_cf (hf_bf w)] at yd
      rw [yd] at hlt hJ
      exact br_t ((pk_lLE (by omega) (by omega)).mpr w) (br_t rfl (hy_w2 (d := 1000000) hk hkp hp31 hI hj (by decide) (fun y => absurd y (by decide)) hlt hf hJ))
  · rw [hx2 (by omega)]
    have p1 := hf_p10 (n := 4 - j) (by omega)
    have p0 := hf_p10p (4 - j)
    have pos : 0 ≤ hz_i (4 - (j : Int)) := by
      rw [← hz_i0, hz_iLE (by omega) (by omega)]
      omega
    have nlt : ¬ hz_i (4 - (j : Int)) < 0 := by
      rw [← hz_i0, hz_iLT (by omega) (by omega)]
      omega
    have ne : ¬ lN (10 ^ (4 - j)) = 0 := fun y => by have := (pk_lEQ (b := 0) (by omega) (by decide)).mp y; omega
    have yd : hf_yd V j = V / 16777216 / 10 ^ (4 - j) := by
      unfold hf_yd
      exact hf_ct (hf_et (by omega))
    have bd : V / 16777216 / 10 ^ (4 - j) ≤ V / 16777216 := Nat.div_le_self _ _
    refine hy_pow (by omega) (br_t pos (br_f (by decide) (br_f nlt ⟨ne, ?_⟩)))
    rw [hy_s24 (by omega), pk_lDiv (by omega) p0 (by omega)]
    rw [yd] at hlt hJ
    refine nm_e (hy_w2 hk hkp hp31 hI hj (by omega) (fun _ => ?_) hlt hf hJ)
    rw [show j - 4 = 0 by omega, Nat.pow_zero, Nat.mul_one]
    omega
theorem hf_inv_ys1 {V p j d s : Nat} (hj : j ≤ 16) (hI : hf_inv j s) (h : hf_ys1 V p j d s < 100000000000000000000) : hf_inv j (hf_ys1 V p j d s) := by
  rcases Nat.lt_or_ge d 999999 with c | c
  · have ey : hf_ys1 V p j d s = hf_tk V p j (d + 1) (hf_tk V p j d s) := by
      unfold hf_ys1
      exact hf_ct (hf_bt c)
    rw [ey] at h ⊢
    exact hf_inv_tk hj (by omega) (hf_inv_tk hj (by omega) hI (hf_tk_lt h)) h
  · have ey : hf_ys1 V p j d s = s := by
      unfold hf_ys1
      exact hf_cf (hf_bf c)
    rw [ey]
    exact hI
theorem hf_inv_ys {V p : Nat} (n : Nat) : ∀ j s, j + n = 17 → hf_inv j s → hf_ys V p n j s < 100000000000000000000 → hf_inv 17 (hf_ys V p n j s) := by
  induction n with
  | zero =>
    intro j s hj hI _
    have e : j = 17 := by omega
    subst e
    exact hI
  | succ n ih =>
    intro j s hj hI h
    rw [hf_ys] at h ⊢
    exact ih (j + 1) _ (by omega) (hf_inv_up (hf_inv_ys1 (by omega) hI (hf_ys_lt h))) h
theorem hy_13 {V p k : Nat} {post : SY → Prop} (hk : k < 65536) (hkp : k % 32768 = p) (hp31 : p < 31744) (hV40 : V < 1099511627776) (n : Nat) : ∀ (j s : Nat) (fd fx : Int32), j + n = 17 → hf_inv j s → hf_rep s fd fx → hf_ys V p n j s < 100000000000000000000 →
    (∀ fd' fx' : Int32, hf_rep (hf_ys V p n j s) fd' fx' → post (fd', fx')) → wY_write_13 post (nI k) (lN V) (n + 1) (hz_i (4 - (j : Int))) fd fx := by
  induction n with
  | zero =>
    intro j s fd fx hj hI hf _ hp
    refine br_t ?_ (hp fd fx hf)
    rw [← hz_m12, hz_iLT (by omega) (by omega)]
    omega
  | succ n ih =>
    intro j s fd fx hj hI hf hlt hp
    rw [hf_ys] at hlt hp
    have h1 := hf_ys_lt hlt
    have I1 := hf_inv_up (hf_inv_ys1 (by omega) hI h1)
    have HJ : ∀ fd' fx' : Int32, hf_rep (hf_ys1 V p j (hf_yd V j) s) fd' fx' → wY_write_13 post (nI k) (lN V) (n + 1) (hz_i (4 - ((j + 1 : Nat) : Int))) fd' fx' :=
      fun fd' fx' g => ih (j + 1) _ fd' fx' (by omega) I1 g hlt hp
    refine br_f (fun y => ?_) ?_
    · rw [← hz_m12, hz_iLT (by omega) (by omega)] at y
      omega
    · by_cases c : 4 < j
      · refine br_f (fun y => ?_) ?_
        · rw [← hz_i0, hz_iLE (by omega) (by omega)] at y
          omega
        · have e : -hz_i (4 - (j : Int)) = nI (j - 4) := by rw [hz_ig, show -(4 - (j : Int)) = ((j - 4 : Nat) : Int) by omega, hz_in]
          rw [e]
          exact hy_33 hk hkp hp31 hI (by omega) hV40 h1 hf HJ (fun _ => rfl) (fun y => by omega)
      · refine br_t ?_ ?_
        · rw [← hz_i0, hz_iLE (by omega) (by omega)]
          omega
        · have e : hz_i (4 - (j : Int)) = nI (4 - j) := by rw [show (4 : Int) - (j : Int) = ((4 - j : Nat) : Int) by omega, hz_in]
          exact hy_33 hk hkp hp31 hI (by omega) hV40 h1 hf HJ (fun y => by omega) (fun _ => e)
theorem hy_write {k S : Nat} {v : SY} {post : SY → Prop} (hk : hf_ok k) (hS : hf_ys (hf_A (k % 32768)) (k % 32768) 17 0 0 = S) (hlt : S < 100000000000000000000) (hp : ∀ fd' fx' : Int32, hf_rep S fd' fx' → post (fd', fx')) : wpY_write post v (nI k) := by
  obtain ⟨fd, fx⟩ := v
  have he := hk.2
  have h2 : k % 32768 < 31744 := by unfold hf_e at he; omega
  have hA := hf_A_lt40 hk.2
  unfold wpY_write
  dsimp only
  refine hy_amt hk.1 (by omega) ⟨18, ?_⟩
  subst hS
  exact hy_13 hk.1 rfl h2 hA 17 0 0 0 fx (by omega) (Or.inl rfl) ⟨rfl, fun y => absurd rfl y⟩ hlt hp
end
section
/-! does a decimal number round to p: by its neighbours' midpoints alone -/
theorem hf_low (w : Nat) : ∀ n, w < hf_A n → ∃ low, low < n ∧ hf_A low ≤ w ∧ w < hf_A (low + 1) := by
  intro n
  induction n with
  | zero => intro h; rw [hf_A_lo (by decide)] at h; omega
  | succ n ih =>
    intro h
    rcases Nat.lt_or_ge w (hf_A n) with z | z
    · obtain ⟨low, h1, h2, h3⟩ := ih z
      exact ⟨low, by omega, h2, h3⟩
    · exact ⟨n, by omega, z, h⟩
theorem hf_fit {p u l : Nat} (hp : 0 < p) (hp2 : p < 31744) (hl : 0 < l) :
    (Nat.ble ((hf_A (p - 1) + hf_A p) * l + p % 2) (2 * u) && Nat.ble (2 * u + p % 2) ((hf_A p + hf_A (p + 1)) * l)) = Nat.beq (hf_R u l) p := by
  have hu := Nat.div_add_mod' u l
  have hr := Nat.mod_lt u hl
  have pm := hf_A_lt (p - 1)
  rw [Nat.sub_add_cancel hp] at pm
  have pp := hf_A_lt p
  have top := hf_A_bd (p := p + 1) (by omega)
  have eL : (hf_A (p - 1) + hf_A p) * l = hf_A (p - 1) * l + hf_A p * l := Nat.add_mul _ _ _
  have eH : (hf_A p + hf_A (p + 1)) * l = hf_A p * l + hf_A (p + 1) * l := Nat.add_mul _ _ _
  have m1 : (hf_A (p - 1) + 1) * l ≤ hf_A p * l := Nat.mul_le_mul_right l pm
  have m2 : (hf_A p + 1) * l ≤ hf_A (p + 1) * l := Nat.mul_le_mul_right l pp
  rw [Nat.add_mul, Nat.one_mul] at m1 m2
  have o1 : p % 2 ≤ 1 := by omega
  rw [eL, eH]
  rcases Nat.lt_or_ge (u / l) 1099511627776 with c | c
  · rw [← hf_A_top] at c
    obtain ⟨low, l1, l2, l3⟩ := hf_low (u / l) 31744 c
    obtain ⟨N1, N2, N3, _, _⟩ := hf_N hu hr l1 rfl rfl l2 l3
    have g1 := hf_A_lt low
    have k2 : hf_A low * l ≤ u / l * l := Nat.mul_le_mul_right l l2
    have k3 : (u / l + 1) * l ≤ hf_A (low + 1) * l := Nat.mul_le_mul_right l l3
    rw [Nat.add_mul, Nat.one_mul] at k3
    have eT : 2 * (u / l - hf_A low) * l = 2 * (u / l * l) - 2 * (hf_A low * l) := by
      rw [Nat.mul_assoc, Nat.sub_mul, Nat.mul_sub]
    have eG : (hf_A (low + 1) - hf_A low) * l = hf_A (low + 1) * l - hf_A low * l := Nat.sub_mul _ _ _
    rw [eT, eG] at N1 N2 N3
    rcases Nat.lt_trichotomy (low + 1) p with z | z | z
    · have mm : hf_A (low + 1) * l ≤ hf_A (p - 1) * l := Nat.mul_le_mul_right l (hf_A_mono (by omega))
      have hR : hf_R u l ≠ p := by
        rcases Nat.lt_trichotomy (2 * (u / l * l) - 2 * (hf_A low * l) + 2 * (u % l)) (hf_A (low + 1) * l - hf_A low * l) with y | y | y
        · rw [N3 y]; omega
        · rw [N1 y]; omega
        · rw [N2 y]; omega
      rw [hf_qf hR, hf_ef (by omega), Bool.false_and]
    · have e1 : p - 1 = low := by omega
      rw [z] at N1 N2 N3 k3
      rw [e1] at m1 ⊢
      rw [hf_et (show 2 * u + p % 2 ≤ hf_A p * l + hf_A (p + 1) * l by omega), Bool.and_true]
      rcases Nat.lt_trichotomy (2 * (u / l * l) - 2 * (hf_A low * l) + 2 * (u % l)) (hf_A p * l - hf_A low * l) with y | y | y
      · rw [hf_qf (by rw [N3 y]; omega), hf_ef (by omega)]
      · by_cases od : p % 2 = 0
        · rw [hf_qt (by rw [N1 y]; omega), hf_et (by omega)]
        · rw [hf_qf (by rw [N1 y]; omega), hf_ef (by omega)]
      · rw [hf_qt (N2 y), hf_et (by omega)]
    · rcases Nat.lt_or_ge p low with q | q
      · have mm : hf_A (p + 1) * l ≤ hf_A low * l := Nat.mul_le_mul_right l (hf_A_mono (by omega))
        have hR : hf_R u l ≠ p := by
          rcases Nat.lt_trichotomy (2 * (u / l * l) - 2 * (hf_A low * l) + 2 * (u % l)) (hf_A (low + 1) * l - hf_A low * l) with y | y | y
          · rw [N3 y]; omega
          · rw [N1 y]; omega
          · rw [N2 y]; omega
        rw [hf_qf hR, hf_ef (show hf_A p * l + hf_A (p + 1) * l < 2 * u + p % 2 by omega), Bool.and_false]
      · have ez : low = p := by omega
        rw [ez] at N1 N2 N3 k2 k3
        rw [hf_et (show hf_A (p - 1) * l + hf_A p * l + p % 2 ≤ 2 * u by omega), Bool.true_and]
        rcases Nat.lt_trichotomy (2 * (u / l * l) - 2 * (hf_A p * l) + 2 * (u % l)) (hf_A (p + 1) * l - hf_A p * l) with y | y | y
        · rw [hf_qt (N3 y), hf_et (by omega)]
        · by_cases od : p % 2 = 0
          · rw [hf_qt (by rw [N1 y]; omega), hf_et (by omega)]
          · rw [hf_qf (by rw [N1 y]; omega), hf_ef (by omega)]
        · rw [hf_qf (by rw [N2 y]; omega), hf_ef (by omega)]
  · have k1 : 1099511627776 * l ≤ u / l * l := Nat.mul_le_mul_right l c
    have k2 : hf_A (p + 1) * l ≤ 1099511627776 * l := Nat.mul_le_mul_right l top
    rw [hf_qf (by rw [hf_R_big c]; omega), hf_ef (show hf_A p * l + hf_A (p + 1) * l < 2 * u + p % 2 by omega), Bool.and_false]
/-! the two writings over any test of fitting -/
def hg_f (lo hi o e j : Nat) : Bool :=
  bif Nat.ble j 4 then Nat.ble (Nat.add lo o) (Nat.mul (Nat.mul e (Nat.pow 10 (Nat.sub 4 j))) 33554432) && Nat.ble (Nat.add (Nat.mul (Nat.mul e (Nat.pow 10 (Nat.sub 4 j))) 33554432) o) hi
  else Nat.ble (Nat.add (Nat.mul lo (Nat.pow 10 (Nat.sub j 4))) o) (Nat.mul e 33554432) && Nat.ble (Nat.add (Nat.mul e 33554432) o) (Nat.mul hi (Nat.pow 10 (Nat.sub j 4)))
theorem hg_f_eq {p : Nat} (hp : 0 < p) (hp2 : p < 31744) (e j : Nat) : hg_f (hf_A (p - 1) + hf_A p) (hf_A p + hf_A (p + 1)) (p % 2) e j = Nat.beq (hf_rd e j) p := by
  unfold hg_f
  rcases Nat.lt_or_ge 4 j with h | h
  · rw [hf_cf (hf_ef h), hf_rd_hi h, ← hf_fit hp hp2 (hf_p10p _)]
    have e1 : Nat.mul e 33554432 = 2 * (e * 16777216) := by show e * 33554432 = _; omega
    rw [e1]
    rfl
  · rw [hf_ct (hf_et h), hf_rd_lo h, ← hf_fit hp hp2 (by decide), Nat.mul_one, Nat.mul_one]
    have e1 : Nat.mul (Nat.mul e (Nat.pow 10 (Nat.sub 4 j))) 33554432 = 2 * (e * 10 ^ (4 - j) * 16777216) := by show e * 10 ^ (4 - j) * 33554432 = _; omega
    rw [e1]
    rfl
def hg_nd2 (f : Nat → Nat → Bool) (j o u lo : Nat) : Nat :=
  bif Nat.blt o 4611686018427387904 && Nat.blt lo 999999 then
    bif f lo j && (Nat.ble (2 * (o % u)) u || !(f (lo + 1) j)) then lo
    else bif f (lo + 1) j then lo + 1 else 0
  else 100000000000000000000
def hg_nd1 (f : Nat → Nat → Bool) (j o u : Nat) : Nat := hg_nd2 f j o u (o / u)
def hg_nd (f : Nat → Nat → Bool) (V j : Nat) : Nat := hg_nd1 f j (hf_ov V j) (hf_un j)
def hg_xl (f : Nat → Nat → Bool) (V : Nat) : Nat → Nat → Nat
  | 0, _ => 0
  | n + 1, j => bif Nat.beq (hg_nd f V j) 0 then hg_xl f V n (j + 1) else hf_xr (hg_nd f V j) j
def hg_tk (f : Nat → Nat → Bool) (V j e s : Nat) : Nat :=
  bif Nat.ble 100000000000000000000 s then s
  else bif Nat.beq (e % 10) 0 then s
  else bif Nat.beq s 0 then (bif f e j then e * 32 + j else s)
  else bif Nat.blt (hf_ln (s / 32)) (hf_ln e) then s
  else bif f e j then
    (bif Nat.blt (hf_ln e) (hf_ln (s / 32)) then e * 32 + j
     else bif Nat.ble j (s % 32 + 1) then (bif hf_nr V j e s then e * 32 + j else s) else 100000000000000000000)
  else s
def hg_ys1 (f : Nat → Nat → Bool) (V j d s : Nat) : Nat := bif Nat.blt d 999999 then hg_tk f V j (d + 1) (hg_tk f V j d s) else s
def hg_ys (f : Nat → Nat → Bool) (V : Nat) : Nat → Nat → Nat → Nat
  | 0, _, s => s
  | n + 1, j, s => hg_ys f V n (j + 1) (hg_ys1 f V j (hf_yd V j) s)
def hg_ck2 (f : Nat → Nat → Bool) (V : Nat) : Bool := hf_ck2 (hg_xl f V 5 (hf_pl V 12 0)) (hg_ys f V 17 0 0)
def hg_ck1 (p A0 V A2 : Nat) : Bool := hg_ck2 (hg_f (A0 + V) (V + A2) (p % 2)) V
def hg_ck (p : Nat) : Bool := Nat.beq p 0 || hg_ck1 p (hf_A (p - 1)) (hf_A p) (hf_A (p + 1))
theorem hg_xl_eq (V p : Nat) : ∀ n j, hg_xl (fun e j => Nat.beq (hf_rd e j) p) V n j = hf_xl V p n j := by
  intro n
  induction n with
  | zero => intro j; rfl
  | succ n ih =>
    intro j
    rw [hg_xl, hf_xl, ih]
    rfl
theorem hg_ys_eq (V p : Nat) : ∀ n j s, hg_ys (fun e j => Nat.beq (hf_rd e j) p) V n j s = hf_ys V p n j s := by
  intro n
  induction n with
  | zero => intro j s; rfl
  | succ n ih =>
    intro j s
    rw [hg_ys, hf_ys, ih]
    rfl
theorem hg_ck_eq {p : Nat} (hp2 : p < 31744) (h : hg_ck p = true) : hf_ck p = true := by
  rcases Nat.eq_zero_or_pos p with z | z
  · subst z
    rfl
  · have e : hg_f (hf_A (p - 1) + hf_A p) (hf_A p + hf_A (p + 1)) (p % 2) = fun e j => Nat.beq (hf_rd e j) p := by
      funext e j
      exact hg_f_eq z hp2 e j
    simp only [hg_ck, hg_ck1, hg_ck2, e, hg_xl_eq, hg_ys_eq] at h
    exact h
def hg_al : Nat → Nat → Bool
  | 0, _ => true
  | n + 1, b => hg_ck b && hg_al n (b + 1)
theorem hg_al_get : ∀ (n b p : Nat), hg_al n b = true → b ≤ p → p < b + n → p < 31744 → hf_ck p = true := by
  intro n
  induction n with
  | zero => intro b p _ h1 h2; omega
  | succ n ih =>
    intro b p h h1 h2 h3
    rw [hg_al, Bool.and_eq_true] at h
    rcases Nat.eq_or_lt_of_le h1 with z | z
    · rw [← z]; exact hg_ck_eq (by omega) h.1
    · exact ih (b + 1) p h.2 z (by omega) h3
end
section
/-! the two writings are one, pattern by pattern, reckoned by the kernel -/
theorem hf_c0_0 : hg_al 32 0 = true := by decide +kernel
theorem hf_c0_1 : hg_al 32 32 = true := by decide +kernel
theorem hf_c0_2 : hg_al 32 64 = true := by decide +kernel
theorem hf_c0_3 : hg_al 32 96 = true := by decide +kernel
theorem hf_c0_4 : hg_al 32 128 = true := by decide +kernel
theorem hf_c0_5 : hg_al 32 160 = true := by decide +kernel
theorem hf_c0_6 : hg_al 32 192 = true := by decide +kernel
theorem hf_c0_7 : hg_al 32 224 = true := by decide +kernel
theorem hf_c0_8 : hg_al 32 256 = true := by decide +kernel
theorem hf_c0_9 : hg_al 32 288 = true := by decide +kernel
theorem hf_c0_10 : hg_al 32 320 = true := by decide +kernel
theorem hf_c0_11 : hg_al 32 352 = true := by decide +kernel
theorem hf_c0_12 : hg_al 32 384 = true := by decide +kernel
theorem hf_c0_13 : hg_al 32 416 = true := by decide +kernel
theorem hf_c0_14 : hg_al 32 448 = true := by decide +kernel
theorem hf_c0_15 : hg_al 32 480 = true := by decide +kernel
theorem hf_c0_16 : hg_al 32 512 = true := by decide +kernel
theorem hf_c0_17 : hg_al 32 544 = true := by decide +kernel
theorem hf_c0_18 : hg_al 32 576 = true := by decide +kernel
theorem hf_c0_19 : hg_al 32 608 = true := by decide +kernel
theorem hf_c0_20 : hg_al 32 640 = true := by decide +kernel
theorem hf_c0_21 : hg_al 32 672 = true := by decide +kernel
theorem hf_c0_22 : hg_al 32 704 = true := by decide +kernel
theorem hf_c0_23 : hg_al 32 736 = true := by decide +kernel
theorem hf_c0_24 : hg_al 32 768 = true := by decide +kernel
theorem hf_c0_25 : hg_al 32 800 = true := by decide +kernel
theorem hf_c0_26 : hg_al 32 832 = true := by decide +kernel
theorem hf_c0_27 : hg_al 32 864 = true := by decide +kernel
theorem hf_c0_28 : hg_al 32 896 = true := by decide +kernel
theorem hf_c0_29 : hg_al 32 928 = true := by decide +kernel
theorem hf_c0_30 : hg_al 32 960 = true := by decide +kernel
theorem hf_c0_31 : hg_al 32 992 = true := by decide +kernel
theorem hf_c0 {p : Nat} (h : 0 ≤ p) (h2 : p < 1024) (h3 : p < 31744) : hf_ck p = true := by
  rcases Nat.lt_or_ge p 32 with z0 | z0
  · exact hg_al_get 32 0 p hf_c0_0 h z0 h3
  rcases Nat.lt_or_ge p 64 with z1 | z1
  · exact hg_al_get 32 32 p hf_c0_1 z0 z1 h3
  rcases Nat.lt_or_ge p 96 with z2 | z2
  · exact hg_al_get 32 64 p hf_c0_2 z1 z2 h3
  rcases Nat.lt_or_ge p 128 with z3 | z3
  · exact hg_al_get 32 96 p hf_c0_3 z2 z3 h3
  rcases Nat.lt_or_ge p 160 with z4 | z4
  · exact hg_al_get 32 128 p hf_c0_4 z3 z4 h3
  rcases Nat.lt_or_ge p 192 with z5 | z5
  · exact hg_al_get 32 160 p hf_c0_5 z4 z5 h3
  rcases Nat.lt_or_ge p 224 with z6 | z6
  · exact hg_al_get 32 192 p hf_c0_6 z5 z6 h3
  rcases Nat.lt_or_ge p 256 with z7 | z7
  · exact hg_al_get 32 224 p hf_c0_7 z6 z7 h3
  rcases Nat.lt_or_ge p 288 with z8 | z8
  · exact hg_al_get 32 256 p hf_c0_8 z7 z8 h3
  rcases Nat.lt_or_ge p 320 with z9 | z9
  · exact hg_al_get 32 288 p hf_c0_9 z8 z9 h3
  rcases Nat.lt_or_ge p 352 with z10 | z10
  · exact hg_al_get 32 320 p hf_c0_10 z9 z10 h3
  rcases Nat.lt_or_ge p 384 with z11 | z11
  · exact hg_al_get 32 352 p hf_c0_11 z10 z11 h3
  rcases Nat.lt_or_ge p 416 with z12 | z12
  · exact hg_al_get 32 384 p hf_c0_12 z11 z12 h3
  rcases Nat.lt_or_ge p 448 with z13 | z13
  · exact hg_al_get 32 416 p hf_c0_13 z12 z13 h3
  rcases Nat.lt_or_ge p 480 with z14 | z14
  · exact hg_al_get 32 448 p hf_c0_14 z13 z14 h3
  rcases Nat.lt_or_ge p 512 with z15 | z15
  · exact hg_al_get 32 480 p hf_c0_15 z14 z15 h3
  rcases Nat.lt_or_ge p 544 with z16 | z16
  · exact hg_al_get 32 512 p hf_c0_16 z15 z16 h3
  rcases Nat.lt_or_ge p 576 with z17 | z17
  · exact hg_al_get 32 544 p hf_c0_17 z16 z17 h3
  rcases Nat.lt_or_ge p 608 with z18 | z18
  · exact hg_al_get 32 576 p hf_c0_18 z17 z18 h3
  rcases Nat.lt_or_ge p 640 with z19 | z19
  · exact hg_al_get 32 608 p hf_c0_19 z18 z19 h3
  rcases Nat.lt_or_ge p 672 with z20 | z20
  · exact hg_al_get 32 640 p hf_c0_20 z19 z20 h3
  rcases Nat.lt_or_ge p 704 with z21 | z21
  · exact hg_al_get 32 672 p hf_c0_21 z20 z21 h3
  rcases Nat.lt_or_ge p 736 with z22 | z22
  · exact hg_al_get 32 704 p hf_c0_22 z21 z22 h3
  rcases Nat.lt_or_ge p 768 with z23 | z23
  · exact hg_al_get 32 736 p hf_c0_23 z22 z23 h3
  rcases Nat.lt_or_ge p 800 with z24 | z24
  · exact hg_al_get 32 768 p hf_c0_24 z23 z24 h3
  rcases Nat.lt_or_ge p 832 with z25 | z25
  · exact hg_al_get 32 800 p hf_c0_25 z24 z25 h3
  rcases Nat.lt_or_ge p 864 with z26 | z26
  · exact hg_al_get 32 832 p hf_c0_26 z25 z26 h3
  rcases Nat.lt_or_ge p 896 with z27 | z27
  · exact hg_al_get 32 864 p hf_c0_27 z26 z27 h3
  rcases Nat.lt_or_ge p 928 with z28 | z28
  · exact hg_al_get 32 896 p hf_c0_28 z27 z28 h3
  rcases Nat.lt_or_ge p 960 with z29 | z29
  · exact hg_al_get 32 928 p hf_c0_29 z28 z29 h3
  rcases Nat.lt_or_ge p 992 with z30 | z30
  · exact hg_al_get 32 960 p hf_c0_30 z29 z30 h3
  exact hg_al_get 32 992 p hf_c0_31 z30 h2 h3
theorem hf_c1_0 : hg_al 32 1024 = true := by decide +kernel
theorem hf_c1_1 : hg_al 32 1056 = true := by decide +kernel
theorem hf_c1_2 : hg_al 32 1088 = true := by decide +kernel
theorem hf_c1_3 : hg_al 32 1120 = true := by decide +kernel
theorem hf_c1_4 : hg_al 32 1152 = true := by decide +kernel
theorem hf_c1_5 : hg_al 32 1184 = true := by decide +kernel
theorem hf_c1_6 : hg_al 32 1216 = true := by decide +kernel
theorem hf_c1_7 : hg_al 32 1248 = true := by decide +kernel
theorem hf_c1_8 : hg_al 32 1280 = true := by decide +kernel
theorem hf_c1_9 : hg_al 32 1312 = true := by decide +kernel
theorem hf_c1_10 : hg_al 32 1344 = true := by decide +kernel
theorem hf_c1_11 : hg_al 32 1376 = true := by decide +kernel
theorem hf_c1_12 : hg_al 32 1408 = true := by decide +kernel
theorem hf_c1_13 : hg_al 32 1440 = true := by decide +kernel
theorem hf_c1_14 : hg_al 32 1472 = true := by decide +kernel
theorem hf_c1_15 : hg_al 32 1504 = true := by decide +kernel
theorem hf_c1_16 : hg_al 32 1536 = true := by decide +kernel
theorem hf_c1_17 : hg_al 32 1568 = true := by decide +kernel
theorem hf_c1_18 : hg_al 32 1600 = true := by decide +kernel
theorem hf_c1_19 : hg_al 32 1632 = true := by decide +kernel
theorem hf_c1_20 : hg_al 32 1664 = true := by decide +kernel
theorem hf_c1_21 : hg_al 32 1696 = true := by decide +kernel
theorem hf_c1_22 : hg_al 32 1728 = true := by decide +kernel
theorem hf_c1_23 : hg_al 32 1760 = true := by decide +kernel
theorem hf_c1_24 : hg_al 32 1792 = true := by decide +kernel
theorem hf_c1_25 : hg_al 32 1824 = true := by decide +kernel
theorem hf_c1_26 : hg_al 32 1856 = true := by decide +kernel
theorem hf_c1_27 : hg_al 32 1888 = true := by decide +kernel
theorem hf_c1_28 : hg_al 32 1920 = true := by decide +kernel
theorem hf_c1_29 : hg_al 32 1952 = true := by decide +kernel
theorem hf_c1_30 : hg_al 32 1984 = true := by decide +kernel
theorem hf_c1_31 : hg_al 32 2016 = true := by decide +kernel
theorem hf_c1 {p : Nat} (h : 1024 ≤ p) (h2 : p < 2048) (h3 : p < 31744) : hf_ck p = true := by
  rcases Nat.lt_or_ge p 1056 with z0 | z0
  · exact hg_al_get 32 1024 p hf_c1_0 h z0 h3
  rcases Nat.lt_or_ge p 1088 with z1 | z1
  · exact hg_al_get 32 1056 p hf_c1_1 z0 z1 h3
  rcases Nat.lt_or_ge p 1120 with z2 | z2
  · exact hg_al_get 32 1088 p hf_c1_2 z1 z2 h3
  rcases Nat.lt_or_ge p 1152 with z3 | z3
  · exact hg_al_get 32 1120 p hf_c1_3 z2 z3 h3
  rcases Nat.lt_or_ge p 1184 with z4 | z4
  · exact hg_al_get 32 1152 p hf_c1_4 z3 z4 h3
  rcases Nat.lt_or_ge p 1216 with z5 | z5
  · exact hg_al_get 32 1184 p hf_c1_5 z4 z5 h3
  rcases Nat.lt_or_ge p 1248 with z6 | z6
  · exact hg_al_get 32 1216 p hf_c1_6 z5 z6 h3
  rcases Nat.lt_or_ge p 1280 with z7 | z7
  · exact hg_al_get 32 1248 p hf_c1_7 z6 z7 h3
  rcases Nat.lt_or_ge p 1312 with z8 | z8
  · exact hg_al_get 32 1280 p hf_c1_8 z7 z8 h3
  rcases Nat.lt_or_ge p 1344 with z9 | z9
  · exact hg_al_get 32 1312 p hf_c1_9 z8 z9 h3
  rcases Nat.lt_or_ge p 1376 with z10 | z10
  · exact hg_al_get 32 1344 p hf_c1_10 z9 z10 h3
  rcases Nat.lt_or_ge p 1408 with z11 | z11
  · exact hg_al_get 32 1376 p hf_c1_11 z10 z11 h3
  rcases Nat.lt_or_ge p 1440 with z12 | z12
  · exact hg_al_get 32 1408 p hf_c1_12 z11 z12 h3
  rcases Nat.lt_or_ge p 1472 with z13 | z13
  · exact hg_al_get 32 1440 p hf_c1_13 z12 z13 h3
  rcases Nat.lt_or_ge p 1504 with z14 | z14
  · exact hg_al_get 32 1472 p hf_c1_14 z13 z14 h3
  rcases Nat.lt_or_ge p 1536 with z15 | z15
  · exact hg_al_get 32 1504 p hf_c1_15 z14 z15 h3
  rcases Nat.lt_or_ge p 1568 with z16 | z16
  · exact hg_al_get 32 1536 p hf_c1_16 z15 z16 h3
  rcases Nat.lt_or_ge p 1600 with z17 | z17
  · exact hg_al_get 32 1568 p hf_c1_17 z16 z17 h3
  rcases Nat.lt_or_ge p 1632 with z18 | z18
  · exact hg_al_get 32 1600 p hf_c1_18 z17 z18 h3
  rcases Nat.lt_or_ge p 1664 with z19 | z19
  · exact hg_al_get 32 1632 p hf_c1_19 z18 z19 h3
  rcases Nat.lt_or_ge p 1696 with z20 | z20
  · exact hg_al_get 32 1664 p hf_c1_20 z19 z20 h3
  rcases Nat.lt_or_ge p 1728 with z21 | z21
  · exact hg_al_get 32 1696 p hf_c1_21 z20 z21 h3
  rcases Nat.lt_or_ge p 1760 with z22 | z22
  · exact hg_al_get 32 1728 p hf_c1_22 z21 z22 h3
  rcases Nat.lt_or_ge p 1792 with z23 | z23
  · exact hg_al_get 32 1760 p hf_c1_23 z22 z23 h3
  rcases Nat.lt_or_ge p 1824 with z24 | z24
  · exact hg_al_get 32 1792 p hf_c1_24 z23 z24 h3
  rcases Nat.lt_or_ge p 1856 with z25 | z25
  · exact hg_al_get 32 1824 p hf_c1_25 z24 z25 h3
  rcases Nat.lt_or_ge p 1888 with z26 | z26
  · exact hg_al_get 32 1856 p hf_c1_26 z25 z26 h3
  rcases Nat.lt_or_ge p 1920 with z27 | z27
  · exact hg_al_get 32 1888 p hf_c1_27 z26 z27 h3
  rcases Nat.lt_or_ge p 1952 with z28 | z28
  · exact hg_al_get 32 1920 p hf_c1_28 z27 z28 h3
  rcases Nat.lt_or_ge p 1984 with z29 | z29
  · exact hg_al_get 32 1952 p hf_c1_29 z28 z29 h3
  rcases Nat.lt_or_ge p 2016 with z30 | z30
  · exact hg_al_get 32 1984 p hf_c1_30 z29 z30 h3
  exact hg_al_get 32 2016 p hf_c1_31 z30 h2 h3
theorem hf_c2_0 : hg_al 32 2048 = true := by decide +kernel
theorem hf_c2_1 : hg_al 32 2080 = true := by decide +kernel
theorem hf_c2_2 : hg_al 32 2112 = true := by decide +kernel
theorem hf_c2_3 : hg_al 32 2144 = true := by decide +kernel
theorem hf_c2_4 : hg_al 32 2176 = true := by decide +kernel
theorem hf_c2_5 : hg_al 32 2208 = true := by decide +kernel
theorem hf_c2_6 : hg_al 32 2240 = true := by decide +kernel
theorem hf_c2_7 : hg_al 32 2272 = true := by decide +kernel
theorem hf_c2_8 : hg_al 32 2304 = true := by decide +kernel
theorem hf_c2_9 : hg_al 32 2336 = true := by decide +kernel
theorem hf_c2_10 : hg_al 32 2368 = true := by decide +kernel
theorem hf_c2_11 : hg_al 32 2400 = true := by decide +kernel
theorem hf_c2_12 : hg_al 32 2432 = true := by decide +kernel
theorem hf_c2_13 : hg_al 32 2464 = true := by decide +kernel
theorem hf_c2_14 : hg_al 32 2496 = true := by decide +kernel
theorem hf_c2_15 : hg_al 32 2528 = true := by decide +kernel
theorem hf_c2_16 : hg_al 32 2560 = true := by decide +kernel
theorem hf_c2_17 : hg_al 32 2592 = true := by decide +kernel
theorem hf_c2_18 : hg_al 32 2624 = true := by decide +kernel
theorem hf_c2_19 : hg_al 32 2656 = true := by decide +kernel
theorem hf_c2_20 : hg_al 32 2688 = true := by decide +kernel
theorem hf_c2_21 : hg_al 32 2720 = true := by decide +kernel
theorem hf_c2_22 : hg_al 32 2752 = true := by decide +kernel
theorem hf_c2_23 : hg_al 32 2784 = true := by decide +kernel
theorem hf_c2_24 : hg_al 32 2816 = true := by decide +kernel
theorem hf_c2_25 : hg_al 32 2848 = true := by decide +kernel
theorem hf_c2_26 : hg_al 32 2880 = true := by decide +kernel
theorem hf_c2_27 : hg_al 32 2912 = true := by decide +kernel
theorem hf_c2_28 : hg_al 32 2944 = true := by decide +kernel
theorem hf_c2_29 : hg_al 32 2976 = true := by decide +kernel
theorem hf_c2_30 : hg_al 32 3008 = true := by decide +kernel
theorem hf_c2_31 : hg_al 32 3040 = true := by decide +kernel
theorem hf_c2 {p : Nat} (h : 2048 ≤ p) (h2 : p < 3072) (h3 : p < 31744) : hf_ck p = true := by
  rcases Nat.lt_or_ge p 2080 with z0 | z0
  · exact hg_al_get 32 2048 p hf_c2_0 h z0 h3
  rcases Nat.lt_or_ge p 2112 with z1 | z1
  · exact hg_al_get 32 2080 p hf_c2_1 z0 z1 h3
  rcases Nat.lt_or_ge p 2144 with z2 | z2
  · exact hg_al_get 32 2112 p hf_c2_2 z1 z2 h3
  rcases Nat.lt_or_ge p 2176 with z3 | z3
  · exact hg_al_get 32 2144 p hf_c2_3 z2 z3 h3
  rcases Nat.lt_or_ge p 2208 with z4 | z4
  · exact hg_al_get 32 2176 p hf_c2_4 z3 z4 h3
  rcases Nat.lt_or_ge p 2240 with z5 | z5
  · exact hg_al_get 32 2208 p hf_c2_5 z4 z5 h3
  rcases Nat.lt_or_ge p 2272 with z6 | z6
  · exact hg_al_get 32 2240 p hf_c2_6 z5 z6 h3
  rcases Nat.lt_or_ge p 2304 with z7 | z7
  · exact hg_al_get 32 2272 p hf_c2_7 z6 z7 h3
  rcases Nat.lt_or_ge p 2336 with z8 | z8
  · exact hg_al_get 32 2304 p hf_c2_8 z7 z8 h3
  rcases Nat.lt_or_ge p 2368 with z9 | z9
  · exact hg_al_get 32 2336 p hf_c2_9 z8 z9 h3
  rcases Nat.lt_or_ge p 2400 with z10 | z10
  · exact hg_al_get 32 2368 p hf_c2_10 z9 z10 h3
  rcases Nat.lt_or_ge p 2432 with z11 | z11
  · exact hg_al_get 32 2400 p hf_c2_11 z10 z11 h3
  rcases Nat.lt_or_ge p 2464 with z12 | z12
  · exact hg_al_get 32 2432 p hf_c2_12 z11 z12 h3
  rcases Nat.lt_or_ge p 2496 with z13 | z13
  · exact hg_al_get 32 2464 p hf_c2_13 z12 z13 h3
  rcases Nat.lt_or_ge p 2528 with z14 | z14
  · exact hg_al_get 32 2496 p hf_c2_14 z13 z14 h3
  rcases Nat.lt_or_ge p 2560 with z15 | z15
  · exact hg_al_get 32 2528 p hf_c2_15 z14 z15 h3
  rcases Nat.lt_or_ge p 2592 with z16 | z16
  · exact hg_al_get 32 2560 p hf_c2_16 z15 z16 h3
  rcases Nat.lt_or_ge p 2624 with z17 | z17
  · exact hg_al_get 32 2592 p hf_c2_17 z16 z17 h3
  rcases Nat.lt_or_ge p 2656 with z18 | z18
  · exact hg_al_get 32 2624 p hf_c2_18 z17 z18 h3
  rcases Nat.lt_or_ge p 2688 with z19 | z19
  · exact hg_al_get 32 2656 p hf_c2_19 z18 z19 h3
  rcases Nat.lt_or_ge p 2720 with z20 | z20
  · exact hg_al_get 32 2688 p hf_c2_20 z19 z20 h3
  rcases Nat.lt_or_ge p 2752 with z21 | z21
  · exact hg_al_get 32 2720 p hf_c2_21 z20 z21 h3
  rcases Nat.lt_or_ge p 2784 with z22 | z22
  · exact hg_al_get 32 2752 p hf_c2_22 z21 z22 h3
  rcases Nat.lt_or_ge p 2816 with z23 | z23
  · exact hg_al_get 32 2784 p hf_c2_23 z22 z23 h3
  rcases Nat.lt_or_ge p 2848 with z24 | z24
  · exact hg_al_get 32 2816 p hf_c2_24 z23 z24 h3
  rcases Nat.lt_or_ge p 2880 with z25 | z25
  · exact hg_al_get 32 2848 p hf_c2_25 z24 z25 h3
  rcases Nat.lt_or_ge p 2912 with z26 | z26
  · exact hg_al_get 32 2880 p hf_c2_26 z25 z26 h3
  rcases Nat.lt_or_ge p 2944 with z27 | z27
  · exact hg_al_get 32 2912 p hf_c2_27 z26 z27 h3
  rcases Nat.lt_or_ge p 2976 with z28 | z28
  · exact hg_al_get 32 2944 p hf_c2_28 z27 z28 h3
  rcases Nat.lt_or_ge p 3008 with z29 | z29
  · exact hg_al_get 32 2976 p hf_c2_29 z28 z29 h3
  rcases Nat.lt_or_ge p 3040 with z30 | z30
  · exact hg_al_get 32 3008 p hf_c2_30 z29 z30 h3
  exact hg_al_get 32 3040 p hf_c2_31 z30 h2 h3
theorem hf_c3_0 : hg_al 32 3072 = true := by decide +kernel
theorem hf_c3_1 : hg_al 32 3104 = true := by decide +kernel
theorem hf_c3_2 : hg_al 32 3136 = true := by decide +kernel
theorem hf_c3_3 : hg_al 32 3168 = true := by decide +kernel
theorem hf_c3_4 : hg_al 32 3200 = true := by decide +kernel
theorem hf_c3_5 : hg_al 32 3232 = true := by decide +kernel
theorem hf_c3_6 : hg_al 32 3264 = true := by decide +kernel
theorem hf_c3_7 : hg_al 32 3296 = true := by decide +kernel
theorem hf_c3_8 : hg_al 32 3328 = true := by decide +kernel
theorem hf_c3_9 : hg_al 32 3360 = true := by decide +kernel
theorem hf_c3_10 : hg_al 32 3392 = true := by decide +kernel
theorem hf_c3_11 : hg_al 32 3424 = true := by decide +kernel
theorem hf_c3_12 : hg_al 32 3456 = true := by decide +kernel
theorem hf_c3_13 : hg_al 32 3488 = true := by decide +kernel
theorem hf_c3_14 : hg_al 32 3520 = true := by decide +kernel
theorem hf_c3_15 : hg_al 32 3552 = true := by decide +kernel
theorem hf_c3_16 : hg_al 32 3584 = true := by decide +kernel
theorem hf_c3_17 : hg_al 32 3616 = true := by decide +kernel
theorem hf_c3_18 : hg_al 32 3648 = true := by decide +kernel
theorem hf_c3_19 : hg_al 32 3680 = true := by decide +kernel
theorem hf_c3_20 : hg_al 32 3712 = true := by decide +kernel
theorem hf_c3_21 : hg_al 32 3744 = true := by decide +kernel
theorem hf_c3_22 : hg_al 32 3776 = true := by decide +kernel
theorem hf_c3_23 : hg_al 32 3808 = true := by decide +kernel
theorem hf_c3_24 : hg_al 32 3840 = true := by decide +kernel
theorem hf_c3_25 : hg_al 32 3872 = true := by decide +kernel
theorem hf_c3_26 : hg_al 32 3904 = true := by decide +kernel
theorem hf_c3_27 : hg_al 32 3936 = true := by decide +kernel
theorem hf_c3_28 : hg_al 32 3968 = true := by decide +kernel
theorem hf_c3_29 : hg_al 32 4000 = true := by decide +kernel
theorem hf_c3_30 : hg_al 32 4032 = true := by decide +kernel
theorem hf_c3_31 : hg_al 32 4064 = true := by decide +kernel
theorem hf_c3 {p : Nat} (h : 3072 ≤ p) (h2 : p < 4096) (h3 : p < 31744) : hf_ck p = true := by
  rcases Nat.lt_or_ge p 3104 with z0 | z0
  · exact hg_al_get 32 3072 p hf_c3_0 h z0 h3
  rcases Nat.lt_or_ge p 3136 with z1 | z1
  · exact hg_al_get 32 3104 p hf_c3_1 z0 z1 h3
  rcases Nat.lt_or_ge p 3168 with z2 | z2
  · exact hg_al_get 32 3136 p hf_c3_2 z1 z2 h3
  rcases Nat.lt_or_ge p 3200 with z3 | z3
  · exact hg_al_get 32 3168 p hf_c3_3 z2 z3 h3
  rcases Nat.lt_or_ge p 3232 with z4 | z4
  · exact hg_al_get 32 3200 p hf_c3_4 z3 z4 h3
  rcases Nat.lt_or_ge p 3264 with z5 | z5
  · exact hg_al_get 32 3232 p hf_c3_5 z4 z5 h3
  rcases Nat.lt_or_ge p 3296 with z6 | z6
  · exact hg_al_get 32 3264 p hf_c3_6 z5 z6 h3
  rcases Nat.lt_or_ge p 3328 with z7 | z7
  · exact hg_al_get 32 3296 p hf_c3_7 z6 z7 h3
  rcases Nat.lt_or_ge p 3360 with z8 | z8
  · exact hg_al_get 32 3328 p hf_c3_8 z7 z8 h3
  rcases Nat.lt_or_ge p 3392 with z9 | z9
  · exact hg_al_get 32 3360 p hf_c3_9 z8 z9 h3
  rcases Nat.lt_or_ge p 3424 with z10 | z10
  · exact hg_al_get 32 3392 p hf_c3_10 z9 z10 h3
  rcases Nat.lt_or_ge p 3456 with z11 | z11
  · exact hg_al_get 32 3424 p hf_c3_11 z10 z11 h3
  rcases Nat.lt_or_ge p 3488 with z12 | z12
  · exact hg_al_get 32 3456 p hf_c3_12 z11 z12 h3
  rcases Nat.lt_or_ge p 3520 with z13 | z13
  · exact hg_al_get 32 3488 p hf_c3_13 z12 z13 h3
  rcases Nat.lt_or_ge p 3552 with z14 | z14
  · exact hg_al_get 32 3520 p hf_c3_14 z13 z14 h3
  rcases Nat.lt_or_ge p 3584 with z15 | z15
  · exact hg_al_get 32 3552 p hf_c3_15 z14 z15 h3
  rcases Nat.lt_or_ge p 3616 with z16 | z16
  · exact hg_al_get 32 3584 p hf_c3_16 z15 z16 h3
  rcases Nat.lt_or_ge p 3648 with z17 | z17
  · exact hg_al_get 32 3616 p hf_c3_17 z16 z17 h3
  rcases Nat.lt_or_ge p 3680 with z18 | z18
  · exact hg_al_get 32 3648 p hf_c3_18 z17 z18 h3
  rcases Nat.lt_or_ge p 3712 with z19 | z19
  · exact hg_al_get 32 3680 p hf_c3_19 z18 z19 h3
  rcases Nat.lt_or_ge p 3744 with z20 | z20
  · exact hg_al_get 32 3712 p hf_c3_20 z19 z20 h3
  rcases Nat.lt_or_ge p 3776 with z21 | z21
  · exact hg_al_get 32 3744 p hf_c3_21 z20 z21 h3
  rcases Nat.lt_or_ge p 3808 with z22 | z22
  · exact hg_al_get 32 3776 p hf_c3_22 z21 z22 h3
  rcases Nat.lt_or_ge p 3840 with z23 | z23
  · exact hg_al_get 32 3808 p hf_c3_23 z22 z23 h3
  rcases Nat.lt_or_ge p 3872 with z24 | z24
  · exact hg_al_get 32 3840 p hf_c3_24 z23 z24 h3
  rcases Nat.lt_or_ge p 3904 with z25 | z25
  · exact hg_al_get 32 3872 p hf_c3_25 z24 z25 h3
  rcases Nat.lt_or_ge p 3936 with z26 | z26
  · exact hg_al_get 32 3904 p hf_c3_26 z25 z26 h3
  rcases Nat.lt_or_ge p 3968 with z27 | z27
  · exact hg_al_get 32 3936 p hf_c3_27 z26 z27 h3
  rcases Nat.lt_or_ge p 4000 with z28 | z28
  · exact hg_al_get 32 3968 p hf_c3_28 z27 z28 h3
  rcases Nat.lt_or_ge p 4032 with z29 | z29
  · exact hg_al_get 32 4000 p hf_c3_29 z28 z29 h3
  rcases Nat.lt_or_ge p 4064 with z30 | z30
  · exact hg_al_get 32 4032 p hf_c3_30 z29 z30 h3
  exact hg_al_get 32 4064 p hf_c3_31 z30 h2 h3
theorem hf_c4_0 : hg_al 32 4096 = true := by decide +kernel
theorem hf_c4_1 : hg_al 32 4128 = true := by decide +kernel
theorem hf_c4_2 : hg_al 32 4160 = true := by decide +kernel
theorem hf_c4_3 : hg_al 32 4192 = true := by decide +kernel
theorem hf_c4_4 : hg_al 32 4224 = true := by decide +kernel
theorem hf_c4_5 : hg_al 32 4256 = true := by decide +kernel
theorem hf_c4_6 : hg_al 32 4288 = true := by decide +kernel
theorem hf_c4_7 : hg_al 32 4320 = true := by decide +kernel
theorem hf_c4_8 : hg_al 32 4352 = true := by decide +kernel
theorem hf_c4_9 : hg_al 32 4384 = true := by decide +kernel
theorem hf_c4_10 : hg_al 32 4416 = true := by decide +kernel
theorem hf_c4_11 : hg_al 32 4448 = true := by decide +kernel
theorem hf_c4_12 : hg_al 32 4480 = true := by decide +kernel
theorem hf_c4_13 : hg_al 32 4512 = true := by decide +kernel
theorem hf_c4_14 : hg_al 32 4544 = true := by decide +kernel
theorem hf_c4_15 : hg_al 32 4576 = true := by decide +kernel
theorem hf_c4_16 : hg_al 32 4608 = true := by decide +kernel
theorem hf_c4_17 : hg_al 32 4640 = true := by decide +kernel
theorem hf_c4_18 : hg_al 32 4672 = true := by decide +kernel
theorem hf_c4_19 : hg_al 32 4704 = true := by decide +kernel
theorem hf_c4_20 : hg_al 32 4736 = true := by decide +kernel
theorem hf_c4_21 : hg_al 32 4768 = true := by decide +kernel
theorem hf_c4_22 : hg_al 32 4800 = true := by decide +kernel
theorem hf_c4_23 : hg_al 32 4832 = true := by decide +kernel
theorem hf_c4_24 : hg_al 32 4864 = true := by decide +kernel
theorem hf_c4_25 : hg_al 32 4896 = true := by decide +kernel
theorem hf_c4_26 : hg_al 32 4928 = true := by decide +kernel
theorem hf_c4_27 : hg_al 32 4960 = true := by decide +kernel
theorem hf_c4_28 : hg_al 32 4992 = true := by decide +kernel
theorem hf_c4_29 : hg_al 32 5024 = true := by decide +kernel
theorem hf_c4_30 : hg_al 32 5056 = true := by decide +kernel
theorem hf_c4_31 : hg_al 32 5088 = true := by decide +kernel
theorem hf_c4 {p : Nat} (h : 4096 ≤ p) (h2 : p < 5120) (h3 : p < 31744) : hf_ck p = true := by
  rcases Nat.lt_or_ge p 4128 with z0 | z0
  · exact hg_al_get 32 4096 p hf_c4_0 h z0 h3
  rcases Nat.lt_or_ge p 4160 with z1 | z1
  · exact hg_al_get 32 4128 p hf_c4_1 z0 z1 h3
  rcases Nat.lt_or_ge p 4192 with z2 | z2
  · exact hg_al_get 32 4160 p hf_c4_2 z1 z2 h3
  rcases Nat.lt_or_ge p 4224 with z3 | z3
  · exact hg_al_get 32 4192 p hf_c4_3 z2 z3 h3
  rcases Nat.lt_or_ge p 4256 with z4 | z4
  · exact hg_al_get 32 4224 p hf_c4_4 z3 z4 h3
  rcases Nat.lt_or_ge p 4288 with z5 | z5
  · exact hg_al_get 32 4256 p hf_c4_5 z4 z5 h3
  rcases Nat.lt_or_ge p 4320 with z6 | z6
  · exact hg_al_get 32 4288 p hf_c4_6 z5 z6 h3
  rcases Nat.lt_or_ge p 4352 with z7 | z7
  · exact hg_al_get 32 4320 p hf_c4_7 z6 z7 h3
  rcases Nat.lt_or_ge p 4384 with z8 | z8
  · exact hg_al_get 32 4352 p hf_c4_8 z7 z8 h3
  rcases Nat.lt_or_ge p 4416 with z9 | z9
  · exact hg_al_get 32 4384 p hf_c4_9 z8 z9 h3
  rcases Nat.lt_or_ge p 4448 with z10 | z10
  · exact hg_al_get 32 4416 p hf_c4_10 z9 z10 h3
  rcases Nat.lt_or_ge p 4480 with z11 | z11
  · exact hg_al_get 32 4448 p hf_c4_11 z10 z11 h3
  rcases Nat.lt_or_ge p 4512 with z12 | z12
  · exact hg_al_get 32 4480 p hf_c4_12 z11 z12 h3
  rcases Nat.lt_or_ge p 4544 with z13 | z13
  · exact hg_al_get 32 4512 p hf_c4_13 z12 z13 h3
  rcases Nat.lt_or_ge p 4576 with z14 | z14
  · exact hg_al_get 32 4544 p hf_c4_14 z13 z14 h3
  rcases Nat.lt_or_ge p 4608 with z15 | z15
  · exact hg_al_get 32 4576 p hf_c4_15 z14 z15 h3
  rcases Nat.lt_or_ge p 4640 with z16 | z16
  · exact hg_al_get 32 4608 p hf_c4_16 z15 z16 h3
  rcases Nat.lt_or_ge p 4672 with z17 | z17
  · exact hg_al_get 32 4640 p hf_c4_17 z16 z17 h3
  rcases Nat.lt_or_ge p 4704 with z18 | z18
  · exact hg_al_get 32 4672 p hf_c4_18 z17 z18 h3
  rcases Nat.lt_or_ge p 4736 with z19 | z19
  · exact hg_al_get 32 4704 p hf_c4_19 z18 z19 h3
  rcases Nat.lt_or_ge p 4768 with z20 | z20
  · exact hg_al_get 32 4736 p hf_c4_20 z19 z20 h3
  rcases Nat.lt_or_ge p 4800 with z21 | z21
  · exact hg_al_get 32 4768 p hf_c4_21 z20 z21 h3
  rcases Nat.lt_or_ge p 4832 with z22 | z22
  · exact hg_al_get 32 4800 p hf_c4_22 z21 z22 h3
  rcases Nat.lt_or_ge p 4864 with z23 | z23
  · exact hg_al_get 32 4832 p hf_c4_23 z22 z23 h3
  rcases Nat.lt_or_ge p 4896 with z24 | z24
  · exact hg_al_get 32 4864 p hf_c4_24 z23 z24 h3
  rcases Nat.lt_or_ge p 4928 with z25 | z25
  · exact hg_al_get 32 4896 p hf_c4_25 z24 z25 h3
  rcases Nat.lt_or_ge p 4960 with z26 | z26
  · exact hg_al_get 32 4928 p hf_c4_26 z25 z26 h3
  rcases Nat.lt_or_ge p 4992 with z27 | z27
  · exact hg_al_get 32 4960 p hf_c4_27 z26 z27 h3
  rcases Nat.lt_or_ge p 5024 with z28 | z28
  · exact hg_al_get 32 4992 p hf_c4_28 z27 z28 h3
  rcases Nat.lt_or_ge p 5056 with z29 | z29
  · exact hg_al_get 32 5024 p hf_c4_29 z28 z29 h3
  rcases Nat.lt_or_ge p 5088 with z30 | z30
  · exact hg_al_get 32 5056 p hf_c4_30 z29 z30 h3
  exact hg_al_get 32 5088 p hf_c4_31 z30 h2 h3
theorem hf_c5_0 : hg_al 32 5120 = true := by decide +kernel
theorem hf_c5_1 : hg_al 32 5152 = true := by decide +kernel
theorem hf_c5_2 : hg_al 32 5184 = true := by decide +kernel
theorem hf_c5_3 : hg_al 32 5216 = true := by decide +kernel
theorem hf_c5_4 : hg_al 32 5248 = true := by decide +kernel
theorem hf_c5_5 : hg_al 32 5280 = true := by decide +kernel
theorem hf_c5_6 : hg_al 32 5312 = true := by decide +kernel
theorem hf_c5_7 : hg_al 32 5344 = true := by decide +kernel
theorem hf_c5_8 : hg_al 32 5376 = true := by decide +kernel
theorem hf_c5_9 : hg_al 32 5408 = true := by decide +kernel
theorem hf_c5_10 : hg_al 32 5440 = true := by decide +kernel
theorem hf_c5_11 : hg_al 32 5472 = true := by decide +kernel
theorem hf_c5_12 : hg_al 32 5504 = true := by decide +kernel
theorem hf_c5_13 : hg_al 32 5536 = true := by decide +kernel
theorem hf_c5_14 : hg_al 32 5568 = true := by decide +kernel
theorem hf_c5_15 : hg_al 32 5600 = true := by decide +kernel
theorem hf_c5_16 : hg_al 32 5632 = true := by decide +kernel
theorem hf_c5_17 : hg_al 32 5664 = true := by decide +kernel
theorem hf_c5_18 : hg_al 32 5696 = true := by decide +kernel
theorem hf_c5_19 : hg_al 32 5728 = true := by decide +kernel
theorem hf_c5_20 : hg_al 32 5760 = true := by decide +kernel
theorem hf_c5_21 : hg_al 32 5792 = true := by decide +kernel
theorem hf_c5_22 : hg_al 32 5824 = true := by decide +kernel
theorem hf_c5_23 : hg_al 32 5856 = true := by decide +kernel
theorem hf_c5_24 : hg_al 32 5888 = true := by decide +kernel
theorem hf_c5_25 : hg_al 32 5920 = true := by decide +kernel
theorem hf_c5_26 : hg_al 32 5952 = true := by decide +kernel
theorem hf_c5_27 : hg_al 32 5984 = true := by decide +kernel
theorem hf_c5_28 : hg_al 32 6016 = true := by decide +kernel
theorem hf_c5_29 : hg_al 32 6048 = true := by decide +kernel
theorem hf_c5_30 : hg_al 32 6080 = true := by decide +kernel
theorem hf_c5_31 : hg_al 32 6112 = true := by decide +kernel
theorem hf_c5 {p : Nat} (h : 5120 ≤ p) (h2 : p < 6144) (h3 : p < 31744) : hf_ck p = true := by
  rcases Nat.lt_or_ge p 5152 with z0 | z0
  · exact hg_al_get 32 5120 p hf_c5_0 h z0 h3
  rcases Nat.lt_or_ge p 5184 with z1 | z1
  · exact hg_al_get 32 5152 p hf_c5_1 z0 z1 h3
  rcases Nat.lt_or_ge p 5216 with z2 | z2
  · exact hg_al_get 32 5184 p hf_c5_2 z1 z2 h3
  rcases Nat.lt_or_ge p 5248 with z3 | z3
  · exact hg_al_get 32 5216 p hf_c5_3 z2 z3 h3
  rcases Nat.lt_or_ge p 5280 with z4 | z4
  · exact hg_al_get 32 5248 p hf_c5_4 z3 z4 h3
  rcases Nat.lt_or_ge p 5312 with z5 | z5
  · exact hg_al_get 32 5280 p hf_c5_5 z4 z5 h3
  rcases Nat.lt_or_ge p 5344 with z6 | z6
  · exact hg_al_get 32 5312 p hf_c5_6 z5 z6 h3
  rcases Nat.lt_or_ge p 5376 with z7 | z7
  · exact hg_al_get 32 5344 p hf_c5_7 z6 z7 h3
  rcases Nat.lt_or_ge p 5408 with z8 | z8
  · exact hg_al_get 32 5376 p hf_c5_8 z7 z8 h3
  rcases Nat.lt_or_ge p 5440 with z9 | z9
  · exact hg_al_get 32 5408 p hf_c5_9 z8 z9 h3
  rcases Nat.lt_or_ge p 5472 with z10 | z10
  · exact hg_al_get 32 5440 p hf_c5_10 z9 z10 h3
  rcases Nat.lt_or_ge p 5504 with z11 | z11
  · exact hg_al_get 32 5472 p hf_c5_11 z10 z11 h3
  rcases Nat.lt_or_ge p 5536 with z12 | z12
  · exact hg_al_get 32 5504 p hf_c5_12 z11 z12 h3
  rcases Nat.lt_or_ge p 5568 with z13 | z13
  · exact hg_al_get 32 5536 p hf_c5_13 z12 z13 h3
  rcases Nat.lt_or_ge p 5600 with z14 | z14
  · exact hg_al_get 32 5568 p hf_c5_14 z13 z14 h3
  rcases Nat.lt_or_ge p 5632 with z15 | z15
  · exact hg_al_get 32 5600 p hf_c5_15 z14 z15 h3
  rcases Nat.lt_or_ge p 5664 with z16 | z16
  · exact hg_al_get 32 5632 p hf_c5_16 z15 z16 h3
  rcases Nat.lt_or_ge p 5696 with z17 | z17
  · exact hg_al_get 32 5664 p hf_c5_17 z16 z17 h3
  rcases Nat.lt_or_ge p 5728 with z18 | z18
  · exact hg_al_get 32 5696 p hf_c5_18 z17 z18 h3
  rcases Nat.lt_or_ge p 5760 with z19 | z19
  · exact hg_al_get 32 5728 p hf_c5_19 z18 z19 h3
  rcases Nat.lt_or_ge p 5792 with z20 | z20
  · exact hg_al_get 32 5760 p hf_c5_20 z19 z20 h3
  rcases Nat.lt_or_ge p 5824 with z21 | z21
  · exact hg_al_get 32 5792 p hf_c5_21 z20 z21 h3
  rcases Nat.lt_or_ge p 5856 with z22 | z22
  · exact hg_al_get 32 5824 p hf_c5_22 z21 z22 h3
  rcases Nat.lt_or_ge p 5888 with z23 | z23
  · exact hg_al_get 32 5856 p hf_c5_23 z22 z23 h3
  rcases Nat.lt_or_ge p 5920 with z24 | z24
  · exact hg_al_get 32 5888 p hf_c5_24 z23 z24 h3
  rcases Nat.lt_or_ge p 5952 with z25 | z25
  · exact hg_al_get 32 5920 p hf_c5_25 z24 z25 h3
  rcases Nat.lt_or_ge p 5984 with z26 | z26
  · exact hg_al_get 32 5952 p hf_c5_26 z25 z26 h3
  rcases Nat.lt_or_ge p 6016 with z27 | z27
  · exact hg_al_get 32 5984 p hf_c5_27 z26 z27 h3
  rcases Nat.lt_or_ge p 6048 with z28 | z28
  · exact hg_al_get 32 6016 p hf_c5_28 z27 z28 h3
  rcases Nat.lt_or_ge p 6080 with z29 | z29
  · exact hg_al_get 32 6048 p hf_c5_29 z28 z29 h3
  rcases Nat.lt_or_ge p 6112 with z30 | z30
  · exact hg_al_get 32 6080 p hf_c5_30 z29 z30 h3
  exact hg_al_get 32 6112 p hf_c5_31 z30 h2 h3
theorem hf_c6_0 : hg_al 32 6144 = true := by decide +kernel
theorem hf_c6_1 : hg_al 32 6176 = true := by decide +kernel
theorem hf_c6_2 : hg_al 32 6208 = true := by decide +kernel
theorem hf_c6_3 : hg_al 32 6240 = true := by decide +kernel
theorem hf_c6_4 : hg_al 32 6272 = true := by decide +kernel
theorem hf_c6_5 : hg_al 32 6304 = true := by decide +kernel
theorem hf_c6_6 : hg_al 32 6336 = true := by decide +kernel
theorem hf_c6_7 : hg_al 32 6368 = true := by decide +kernel
theorem hf_c6_8 : hg_al 32 6400 = true := by decide +kernel
theorem hf_c6_9 : hg_al 32 6432 = true := by decide +kernel
theorem hf_c6_10 : hg_al 32 6464 = true := by decide +kernel
theorem hf_c6_11 : hg_al 32 6496 = true := by decide +kernel
theorem hf_c6_12 : hg_al 32 6528 = true := by decide +kernel
theorem hf_c6_13 : hg_al 32 6560 = true := by decide +kernel
theorem hf_c6_14 : hg_al 32 6592 = true := by decide +kernel
theorem hf_c6_15 : hg_al 32 6624 = true := by decide +kernel
theorem hf_c6_16 : hg_al 32 6656 = true := by decide +kernel
theorem hf_c6_17 : hg_al 32 6688 = true := by decide +kernel
theorem hf_c6_18 : hg_al 32 6720 = true := by decide +kernel
theorem hf_c6_19 : hg_al 32 6752 = true := by decide +kernel
theorem hf_c6_20 : hg_al 32 6784 = true := by decide +kernel
theorem hf_c6_21 : hg_al 32 6816 = true := by decide +kernel
theorem hf_c6_22 : hg_al 32 6848 = true := by decide +kernel
theorem hf_c6_23 : hg_al 32 6880 = true := by decide +kernel
theorem hf_c6_24 : hg_al 32 6912 = true := by decide +kernel
theorem hf_c6_25 : hg_al 32 6944 = true := by decide +kernel
theorem hf_c6_26 : hg_al 32 6976 = true := by decide +kernel
theorem hf_c6_27 : hg_al 32 7008 = true := by decide +kernel
theorem hf_c6_28 : hg_al 32 7040 = true := by decide +kernel
theorem hf_c6_29 : hg_al 32 7072 = true := by decide +kernel
theorem hf_c6_30 : hg_al 32 7104 = true := by decide +kernel
theorem hf_c6_31 : hg_al 32 7136 = true := by decide +kernel
theorem hf_c6 {p : Nat} (h : 6144 ≤ p) (h2 : p < 7168) (h3 : p < 31744) : hf_ck p = true := by
  rcases Nat.lt_or_ge p 6176 with z0 | z0
  · exact hg_al_get 32 6144 p hf_c6_0 h z0 h3
  rcases Nat.lt_or_ge p 6208 with z1 | z1
  · exact hg_al_get 32 6176 p hf_c6_1 z0 z1 h3
  rcases Nat.lt_or_ge p 6240 with z2 | z2
  · exact hg_al_get 32 6208 p hf_c6_2 z1 z2 h3
  rcases Nat.lt_or_ge p 6272 with z3 | z3
  · exact hg_al_get 32 6240 p hf_c6_3 z2 z3 h3
  rcases Nat.lt_or_ge p 6304 with z4 | z4
  · exact hg_al_get 32 6272 p hf_c6_4 z3 z4 h3
  rcases Nat.lt_or_ge p 6336 with z5 | z5
  · exact hg_al_get 32 6304 p hf_c6_5 z4 z5 h3
  rcases Nat.lt_or_ge p 6368 with z6 | z6
  · exact hg_al_get 32 6336 p hf_c6_6 z5 z6 h3
  rcases Nat.lt_or_ge p 6400 with z7 | z7
  · exact hg_al_get 32 6368 p hf_c6_7 z6 z7 h3
  rcases Nat.lt_or_ge p 6432 with z8 | z8
  · exact hg_al_get 32 6400 p hf_c6_8 z7 z8 h3
  rcases Nat.lt_or_ge p 6464 with z9 | z9
  · exact hg_al_get 32 6432 p hf_c6_9 z8 z9 h3
  rcases Nat.lt_or_ge p 6496 with z10 | z10
  · exact hg_al_get 32 6464 p hf_c6_10 z9 z10 h3
  rcases Nat.lt_or_ge p 6528 with z11 | z11
  · exact hg_al_get 32 6496 p hf_c6_11 z10 z11 h3
  rcases Nat.lt_or_ge p 6560 with z12 | z12
  · exact hg_al_get 32 6528 p hf_c6_12 z11 z12 h3
  rcases Nat.lt_or_ge p 6592 with z13 | z13
  · exact hg_al_get 32 6560 p hf_c6_13 z12 z13 h3
  rcases Nat.lt_or_ge p 6624 with z14 | z14
  · exact hg_al_get 32 6592 p hf_c6_14 z13 z14 h3
  rcases Nat.lt_or_ge p 6656 with z15 | z15
  · exact hg_al_get 32 6624 p hf_c6_15 z14 z15 h3
  rcases Nat.lt_or_ge p 6688 with z16 | z16
  · exact hg_al_get 32 6656 p hf_c6_16 z15 z16 h3
  rcases Nat.lt_or_ge p 6720 with z17 | z17
  · exact hg_al_get 32 6688 p hf_c6_17 z16 z17 h3
  rcases Nat.lt_or_ge p 6752 with z18 | z18
  · exact hg_al_get 32 6720 p hf_c6_18 z17 z18 h3
  rcases Nat.lt_or_ge p 6784 with z19 | z19
  · exact hg_al_get 32 6752 p hf_c6_19 z18 z19 h3
  rcases Nat.lt_or_ge p 6816 with z20 | z20
  · exact hg_al_get 32 6784 p hf_c6_20 z19 z20 h3
  rcases Nat.lt_or_ge p 6848 with z21 | z21
  · exact hg_al_get 32 6816 p hf_c6_21 z20 z21 h3
  rcases Nat.lt_or_ge p 6880 with z22 | z22
  · exact hg_al_get 32 6848 p hf_c6_22 z21 z22 h3
  rcases Nat.lt_or_ge p 6912 with z23 | z23
  · exact hg_al_get 32 6880 p hf_c6_23 z22 z23 h3
  rcases Nat.lt_or_ge p 6944 with z24 | z24
  · exact hg_al_get 32 6912 p hf_c6_24 z23 z24 h3
  rcases Nat.lt_or_ge p 6976 with z25 | z25
  · exact hg_al_get 32 6944 p hf_c6_25 z24 z25 h3
  rcases Nat.lt_or_ge p 7008 with z26 | z26
  · exact hg_al_get 32 6976 p hf_c6_26 z25 z26 h3
  rcases Nat.lt_or_ge p 7040 with z27 | z27
  · exact hg_al_get 32 7008 p hf_c6_27 z26 z27 h3
  rcases Nat.lt_or_ge p 7072 with z28 | z28
  · exact hg_al_get 32 7040 p hf_c6_28 z27 z28 h3
  rcases Nat.lt_or_ge p 7104 with z29 | z29
  · exact hg_al_get 32 7072 p hf_c6_29 z28 z29 h3
  rcases Nat.lt_or_ge p 7136 with z30 | z30
  · exact hg_al_get 32 7104 p hf_c6_30 z29 z30 h3
  exact hg_al_get 32 7136 p hf_c6_31 z30 h2 h3
theorem hf_c7_0 : hg_al 32 7168 = true := by decide +kernel
theorem hf_c7_1 : hg_al 32 7200 = true := by decide +kernel
theorem hf_c7_2 : hg_al 32 7232 = true := by decide +kernel
theorem hf_c7_3 : hg_al 32 7264 = true := by decide +kernel
theorem hf_c7_4 : hg_al 32 7296 = true := by decide +kernel
theorem hf_c7_5 : hg_al 32 7328 = true := by decide +kernel
theorem hf_c7_6 : hg_al 32 7360 = true := by decide +kernel
theorem hf_c7_7 : hg_al 32 7392 = true := by decide +kernel
theorem hf_c7_8 : hg_al 32 7424 = true := by decide +kernel
theorem hf_c7_9 : hg_al 32 7456 = true := by decide +kernel
theorem hf_c7_10 : hg_al 32 7488 = true := by decide +kernel
theorem hf_c7_11 : hg_al 32 7520 = true := by decide +kernel
theorem hf_c7_12 : hg_al 32 7552 = true := by decide +kernel
theorem hf_c7_13 : hg_al 32 7584 = true := by decide +kernel
theorem hf_c7_14 : hg_al 32 7616 = true := by decide +kernel
theorem hf_c7_15 : hg_al 32 7648 = true := by decide +kernel
theorem hf_c7_16 : hg_al 32 7680 = true := by decide +kernel
theorem hf_c7_17 : hg_al 32 7712 = true := by decide +kernel
theorem hf_c7_18 : hg_al 32 7744 = true := by decide +kernel
theorem hf_c7_19 : hg_al 32 7776 = true := by decide +kernel
theorem hf_c7_20 : hg_al 32 7808 = true := by decide +kernel
theorem hf_c7_21 : hg_al 32 7840 = true := by decide +kernel
theorem hf_c7_22 : hg_al 32 7872 = true := by decide +kernel
theorem hf_c7_23 : hg_al 32 7904 = true := by decide +kernel
theorem hf_c7_24 : hg_al 32 7936 = true := by decide +kernel
theorem hf_c7_25 : hg_al 32 7968 = true := by decide +kernel
theorem hf_c7_26 : hg_al 32 8000 = true := by decide +kernel
theorem hf_c7_27 : hg_al 32 8032 = true := by decide +kernel
theorem hf_c7_28 : hg_al 32 8064 = true := by decide +kernel
theorem hf_c7_29 : hg_al 32 8096 = true := by decide +kernel
theorem hf_c7_30 : hg_al 32 8128 = true := by decide +kernel
theorem hf_c7_31 : hg_al 32 8160 = true := by decide +kernel
theorem hf_c7 {p : Nat} (h : 7168 ≤ p) (h2 : p < 8192) (h3 : p < 31744) : hf_ck p = true := by
  rcases Nat.lt_or_ge p 7200 with z0 | z0
  · exact hg_al_get 32 7168 p hf_c7_0 h z0 h3
  rcases Nat.lt_or_ge p 7232 with z1 | z1
  · exact hg_al_get 32 7200 p hf_c7_1 z0 z1 h3
  rcases Nat.lt_or_ge p 7264 with z2 | z2
  · exact hg_al_get 32 7232 p hf_c7_2 z1 z2 h3
  rcases Nat.lt_or_ge p 7296 with z3 | z3
  · exact hg_al_get 32 7264 p hf_c7_3 z2 z3 h3
  rcases Nat.lt_or_ge p 7328 with z4 | z4
  · exact hg_al_get 32 7296 p hf_c7_4 z3 z4 h3
  rcases Nat.lt_or_ge p 7360 with z5 | z5
  · exact hg_al_get 32 7328 p hf_c7_5 z4 z5 h3
  rcases Nat.lt_or_ge p 7392 with z6 | z6
  · exact hg_al_get 32 7360 p hf_c7_6 z5 z6 h3
  rcases Nat.lt_or_ge p 7424 with z7 | z7
  · exact hg_al_get 32 7392 p hf_c7_7 z6 z7 h3
  rcases Nat.lt_or_ge p 7456 with z8 | z8
  · exact hg_al_get 32 7424 p hf_c7_8 z7 z8 h3
  rcases Nat.lt_or_ge p 7488 with z9 | z9
  · exact hg_al_get 32 7456 p hf_c7_9 z8 z9 h3
  rcases Nat.lt_or_ge p 7520 with z10 | z10
  · exact hg_al_get 32 7488 p hf_c7_10 z9 z10 h3
  rcases Nat.lt_or_ge p 7552 with z11 | z11
  · exact hg_al_get 32 7520 p hf_c7_11 z10 z11 h3
  rcases Nat.lt_or_ge p 7584 with z12 | z12
  · exact hg_al_get 32 7552 p hf_c7_12 z11 z12 h3
  rcases Nat.lt_or_ge p 7616 with z13 | z13
  · exact hg_al_get 32 7584 p hf_c7_13 z12 z13 h3
  rcases Nat.lt_or_ge p 7648 with z14 | z14
  · exact hg_al_get 32 7616 p hf_c7_14 z13 z14 h3
  rcases Nat.lt_or_ge p 7680 with z15 | z15
  · exact hg_al_get 32 7648 p hf_c7_15 z14 z15 h3
  rcases Nat.lt_or_ge p 7712 with z16 | z16
  · exact hg_al_get 32 7680 p hf_c7_16 z15 z16 h3
  rcases Nat.lt_or_ge p 7744 with z17 | z17
  · exact hg_al_get 32 7712 p hf_c7_17 z16 z17 h3
  rcases Nat.lt_or_ge p 7776 with z18 | z18
  · exact hg_al_get 32 7744 p hf_c7_18 z17 z18 h3
  rcases Nat.lt_or_ge p 7808 with z19 | z19
  · exact hg_al_get 32 7776 p hf_c7_19 z18 z19 h3
  rcases Nat.lt_or_ge p 7840 with z20 | z20
  · exact hg_al_get 32 7808 p hf_c7_20 z19 z20 h3
  rcases Nat.lt_or_ge p 7872 with z21 | z21
  · exact hg_al_get 32 7840 p hf_c7_21 z20 z21 h3
  rcases Nat.lt_or_ge p 7904 with z22 | z22
  · exact hg_al_get 32 7872 p hf_c7_22 z21 z22 h3
  rcases Nat.lt_or_ge p 7936 with z23 | z23
  · exact hg_al_get 32 7904 p hf_c7_23 z22 z23 h3
  rcases Nat.lt_or_ge p 7968 with z24 | z24
  · exact hg_al_get 32 7936 p hf_c7_24 z23 z24 h3
  rcases Nat.lt_or_ge p 8000 with z25 | z25
  · exact hg_al_get 32 7968 p hf_c7_25 z24 z25 h3
  rcases Nat.lt_or_ge p 8032 with z26 | z26
  · exact hg_al_get 32 8000 p hf_c7_26 z25 z26 h3
  rcases Nat.lt_or_ge p 8064 with z27 | z27
  · exact hg_al_get 32 8032 p hf_c7_27 z26 z27 h3
  rcases Nat.lt_or_ge p 8096 with z28 | z28
  · exact hg_al_get 32 8064 p hf_c7_28 z27 z28 h3
  rcases Nat.lt_or_ge p 8128 with z29 | z29
  · exact hg_al_get 32 8096 p hf_c7_29 z28 z29 h3
  rcases Nat.lt_or_ge p 8160 with z30 | z30
  · exact hg_al_get 32 8128 p hf_c7_30 z29 z30 h3
  exact hg_al_get 32 8160 p hf_c7_31 z30 h2 h3
theorem hf_c8_0 : hg_al 32 8192 = true := by decide +kernel
theorem hf_c8_1 : hg_al 32 8224 = true := by decide +kernel
theorem hf_c8_2 : hg_al 32 8256 = true := by decide +kernel
theorem hf_c8_3 : hg_al 32 8288 = true := by decide +kernel
theorem hf_c8_4 : hg_al 32 8320 = true := by decide +kernel
theorem hf_c8_5 : hg_al 32 8352 = true := by decide +kernel
theorem hf_c8_6 : hg_al 32 8384 = true := by decide +kernel
theorem hf_c8_7 : hg_al 32 8416 = true := by decide +kernel
theorem hf_c8_8 : hg_al 32 8448 = true := by decide +kernel
theorem hf_c8_9 : hg_al 32 8480 = true := by decide +kernel
theorem hf_c8_10 : hg_al 32 8512 = true := by decide +kernel
theorem hf_c8_11 : hg_al 32 8544 = true := by decide +kernel
theorem hf_c8_12 : hg_al 32 8576 = true := by decide +kernel
theorem hf_c8_13 : hg_al 32 8608 = true := by decide +kernel
theorem hf_c8_14 : hg_al 32 8640 = true := by decide +kernel
theorem hf_c8_15 : hg_al 32 8672 = true := by decide +kernel
theorem hf_c8_16 : hg_al 32 8704 = true := by decide +kernel
theorem hf_c8_17 : hg_al 32 8736 = true := by decide +kernel
theorem hf_c8_18 : hg_al 32 8768 = true := by decide +kernel
theorem hf_c8_19 : hg_al 32 8800 = true := by decide +kernel
theorem hf_c8_20 : hg_al 32 8832 = true := by decide +kernel
theorem hf_c8_21 : hg_al 32 8864 = true := by decide +kernel
theorem hf_c8_22 : hg_al 32 8896 = true := by decide +kernel
theorem hf_c8_23 : hg_al 32 8928 = true := by decide +kernel
theorem hf_c8_24 : hg_al 32 8960 = true := by decide +kernel
theorem hf_c8_25 : hg_al 32 8992 = true := by decide +kernel
theorem hf_c8_26 : hg_al 32 9024 = true := by decide +kernel
theorem hf_c8_27 : hg_al 32 9056 = true := by decide +kernel
theorem hf_c8_28 : hg_al 32 9088 = true := by decide +kernel
theorem hf_c8_29 : hg_al 32 9120 = true := by decide +kernel
theorem hf_c8_30 : hg_al 32 9152 = true := by decide +kernel
theorem hf_c8_31 : hg_al 32 9184 = true := by decide +kernel
theorem hf_c8 {p : Nat} (h : 8192 ≤ p) (h2 : p < 9216) (h3 : p < 31744) : hf_ck p = true := by
  rcases Nat.lt_or_ge p 8224 with z0 | z0
  · exact hg_al_get 32 8192 p hf_c8_0 h z0 h3
  rcases Nat.lt_or_ge p 8256 with z1 | z1
  · exact hg_al_get 32 8224 p hf_c8_1 z0 z1 h3
  rcases Nat.lt_or_ge p 8288 with z2 | z2
  · exact hg_al_get 32 8256 p hf_c8_2 z1 z2 h3
  rcases Nat.lt_or_ge p 8320 with z3 | z3
  · exact hg_al_get 32 8288 p hf_c8_3 z2 z3 h3
  rcases Nat.lt_or_ge p 8352 with z4 | z4
  · exact hg_al_get 32 8320 p hf_c8_4 z3 z4 h3
  rcases Nat.lt_or_ge p 8384 with z5 | z5
  · exact hg_al_get 32 8352 p hf_c8_5 z4 z5 h3
  rcases Nat.lt_or_ge p 8416 with z6 | z6
  · exact hg_al_get 32 8384 p hf_c8_6 z5 z6 h3
  rcases Nat.lt_or_ge p 8448 with z7 | z7
  · exact hg_al_get 32 8416 p hf_c8_7 z6 z7 h3
  rcases Nat.lt_or_ge p 8480 with z8 | z8
  · exact hg_al_get 32 8448 p hf_c8_8 z7 z8 h3
  rcases Nat.lt_or_ge p 8512 with z9 | z9
  · exact hg_al_get 32 8480 p hf_c8_9 z8 z9 h3
  rcases Nat.lt_or_ge p 8544 with z10 | z10
  · exact hg_al_get 32 8512 p hf_c8_10 z9 z10 h3
  rcases Nat.lt_or_ge p 8576 with z11 | z11
  · exact hg_al_get 32 8544 p hf_c8_11 z10 z11 h3
  rcases Nat.lt_or_ge p 8608 with z12 | z12
  · exact hg_al_get 32 8576 p hf_c8_12 z11 z12 h3
  rcases Nat.lt_or_ge p 8640 with z13 | z13
  · exact hg_al_get 32 8608 p hf_c8_13 z12 z13 h3
  rcases Nat.lt_or_ge p 8672 with z14 | z14
  · exact hg_al_get 32 8640 p hf_c8_14 z13 z14 h3
  rcases Nat.lt_or_ge p 8704 with z15 | z15
  · exact hg_al_get 32 8672 p hf_c8_15 z14 z15 h3
  rcases Nat.lt_or_ge p 8736 with z16 | z16
  · exact hg_al_get 32 8704 p hf_c8_16 z15 z16 h3
  rcases Nat.lt_or_ge p 8768 with z17 | z17
  · exact hg_al_get 32 8736 p hf_c8_17 z16 z17 h3
  rcases Nat.lt_or_ge p 8800 with z18 | z18
  · exact hg_al_get 32 8768 p hf_c8_18 z17 z18 h3
  rcases Nat.lt_or_ge p 8832 with z19 | z19
  · exact hg_al_get 32 8800 p hf_c8_19 z18 z19 h3
  rcases Nat.lt_or_ge p 8864 with z20 | z20
  · exact hg_al_get 32 8832 p hf_c8_20 z19 z20 h3
  rcases Nat.lt_or_ge p 8896 with z21 | z21
  · exact hg_al_get 32 8864 p hf_c8_21 z20 z21 h3
  rcases Nat.lt_or_ge p 8928 with z22 | z22
  · exact hg_al_get 32 8896 p hf_c8_22 z21 z22 h3
  rcases Nat.lt_or_ge p 8960 with z23 | z23
  · exact hg_al_get 32 8928 p hf_c8_23 z22 z23 h3
  rcases Nat.lt_or_ge p 8992 with z24 | z24
  · exact hg_al_get 32 8960 p hf_c8_24 z23 z24 h3
  rcases Nat.lt_or_ge p 9024 with z25 | z25
  · exact hg_al_get 32 8992 p hf_c8_25 z24 z25 h3
  rcases Nat.lt_or_ge p 9056 with z26 | z26
  · exact hg_al_get 32 9024 p hf_c8_26 z25 z26 h3
  rcases Nat.lt_or_ge p 9088 with z27 | z27
  · exact hg_al_get 32 9056 p hf_c8_27 z26 z27 h3
  rcases Nat.lt_or_ge p 9120 with z28 | z28
  · exact hg_al_get 32 9088 p hf_c8_28 z27 z28 h3
  rcases Nat.lt_or_ge p 9152 with z29 | z29
  · exact hg_al_get 32 9120 p hf_c8_29 z28 z29 h3
  rcases Nat.lt_or_ge p 9184 with z30 | z30
  · exact hg_al_get 32 9152 p hf_c8_30 z29 z30 h3
  exact hg_al_get 32 9184 p hf_c8_31 z30 h2 h3
theorem hf_c9_0 : hg_al 32 9216 = true := by decide +kernel
theorem hf_c9_1 : hg_al 32 9248 = true := by decide +kernel
theorem hf_c9_2 : hg_al 32 9280 = true := by decide +kernel
theorem hf_c9_3 : hg_al 32 9312 = true := by decide +kernel
theorem hf_c9_4 : hg_al 32 9344 = true := by decide +kernel
theorem hf_c9_5 : hg_al 32 9376 = true := by decide +kernel
theorem hf_c9_6 : hg_al 32 9408 = true := by decide +kernel
theorem hf_c9_7 : hg_al 32 9440 = true := by decide +kernel
theorem hf_c9_8 : hg_al 32 9472 = true := by decide +kernel
theorem hf_c9_9 : hg_al 32 9504 = true := by decide +kernel
theorem hf_c9_10 : hg_al 32 9536 = true := by decide +kernel
theorem hf_c9_11 : hg_al 32 9568 = true := by decide +kernel
theorem hf_c9_12 : hg_al 32 9600 = true := by decide +kernel
theorem hf_c9_13 : hg_al 32 9632 = true := by decide +kernel
theorem hf_c9_14 : hg_al 32 9664 = true := by decide +kernel
theorem hf_c9_15 : hg_al 32 9696 = true := by decide +kernel
theorem hf_c9_16 : hg_al 32 9728 = true := by decide +kernel
theorem hf_c9_17 : hg_al 32 9760 = true := by decide +kernel
theorem hf_c9_18 : hg_al 32 9792 = true := by decide +kernel
theorem hf_c9_19 : hg_al 32 9824 = true := by decide +kernel
theorem hf_c9_20 : hg_al 32 9856 = true := by decide +kernel
theorem hf_c9_21 : hg_al 32 9888 = true := by decide +kernel
theorem hf_c9_22 : hg_al 32 9920 = true := by decide +kernel
theorem hf_c9_23 : hg_al 32 9952 = true := by decide +kernel
theorem hf_c9_24 : hg_al 32 9984 = true := by decide +kernel
theorem hf_c9_25 : hg_al 32 10016 = true := by decide +kernel
theorem hf_c9_26 : hg_al 32 10048 = true := by decide +kernel
theorem hf_c9_27 : hg_al 32 10080 = true := by decide +kernel
theorem hf_c9_28 : hg_al 32 10112 = true := by decide +kernel
theorem hf_c9_29 : hg_al 32 10144 = true := by decide +kernel
theorem hf_c9_30 : hg_al 32 10176 = true := by decide +kernel
theorem hf_c9_31 : hg_al 32 10208 = true := by decide +kernel
theorem hf_c9 {p : Nat} (h : 9216 ≤ p) (h2 : p < 10240) (h3 : p < 31744) : hf_ck p = true := by
  rcases Nat.lt_or_ge p 9248 with z0 | z0
  · exact hg_al_get 32 9216 p hf_c9_0 h z0 h3
  rcases Nat.lt_or_ge p 9280 with z1 | z1
  · exact hg_al_get 32 9248 p hf_c9_1 z0 z1 h3
  rcases Nat.lt_or_ge p 9312 with z2 | z2
  · exact hg_al_get 32 9280 p hf_c9_2 z1 z2 h3
  rcases Nat.lt_or_ge p 9344 with z3 | z3
  · exact hg_al_get 32 9312 p hf_c9_3 z2 z3 h3
  rcases Nat.lt_or_ge p 9376 with z4 | z4
  · exact hg_al_get 32 9344 p hf_c9_4 z3 z4 h3
  rcases Nat.lt_or_ge p 9408 with z5 | z5
  · exact hg_al_get 32 9376 p hf_c9_5 z4 z5 h3
  rcases Nat.lt_or_ge p 9440 with z6 | z6
  · exact hg_al_get 32 9408 p hf_c9_6 z5 z6 h3
  rcases Nat.lt_or_ge p 9472 with z7 | z7
  · exact hg_al_get 32 9440 p hf_c9_7 z6 z7 h3
  rcases Nat.lt_or_ge p 9504 with z8 | z8
  · exact hg_al_get 32 9472 p hf_c9_8 z7 z8 h3
  rcases Nat.lt_or_ge p 9536 with z9 | z9
  · exact hg_al_get 32 9504 p hf_c9_9 z8 z9 h3
  rcases Nat.lt_or_ge p 9568 with z10 | z10
  · exact hg_al_get 32 9536 p hf_c9_10 z9 z10 h3
  rcases Nat.lt_or_ge p 9600 with z11 | z11
  · exact hg_al_get 32 9568 p hf_c9_11 z10 z11 h3
  rcases Nat.lt_or_ge p 9632 with z12 | z12
  · exact hg_al_get 32 9600 p hf_c9_12 z11 z12 h3
  rcases Nat.lt_or_ge p 9664 with z13 | z13
  · exact hg_al_get 32 9632 p hf_c9_13 z12 z13 h3
  rcases Nat.lt_or_ge p 9696 with z14 | z14
  · exact hg_al_get 32 9664 p hf_c9_14 z13 z14 h3
  rcases Nat.lt_or_ge p 9728 with z15 | z15
  · exact hg_al_get 32 9696 p hf_c9_15 z14 z15 h3
  rcases Nat.lt_or_ge p 9760 with z16 | z16
  · exact hg_al_get 32 9728 p hf_c9_16 z15 z16 h3
  rcases Nat.lt_or_ge p 9792 with z17 | z17
  · exact hg_al_get 32 9760 p hf_c9_17 z16 z17 h3
  rcases Nat.lt_or_ge p 9824 with z18 | z18
  · exact hg_al_get 32 9792 p hf_c9_18 z17 z18 h3
  rcases Nat.lt_or_ge p 9856 with z19 | z19
  · exact hg_al_get 32 9824 p hf_c9_19 z18 z19 h3
  rcases Nat.lt_or_ge p 9888 with z20 | z20
  · exact hg_al_get 32 9856 p hf_c9_20 z19 z20 h3
  rcases Nat.lt_or_ge p 9920 with z21 | z21
  · exact hg_al_get 32 9888 p hf_c9_21 z20 z21 h3
  rcases Nat.lt_or_ge p 9952 with z22 | z22
  · exact hg_al_get 32 9920 p hf_c9_22 z21 z22 h3
  rcases Nat.lt_or_ge p 9984 with z23 | z23
  · exact hg_al_get 32 9952 p hf_c9_23 z22 z23 h3
  rcases Nat.lt_or_ge p 10016 with z24 | z24
  · exact hg_al_get 32 9984 p hf_c9_24 z23 z24 h3
  rcases Nat.lt_or_ge p 10048 with z25 | z25
  · exact hg_al_get 32 10016 p hf_c9_25 z24 z25 h3
  rcases Nat.lt_or_ge p 10080 with z26 | z26
  · exact hg_al_get 32 10048 p hf_c9_26 z25 z26 h3
  rcases Nat.lt_or_ge p 10112 with z27 | z27
  · exact hg_al_get 32 10080 p hf_c9_27 z26 z27 h3
  rcases Nat.lt_or_ge p 10144 with z28 | z28
  · exact hg_al_get 32 10112 p hf_c9_28 z27 z28 h3
  rcases Nat.lt_or_ge p 10176 with z29 | z29
  · exact hg_al_get 32 10144 p hf_c9_29 z28 z29 h3
  rcases Nat.lt_or_ge p 10208 with z30 | z30
  · exact hg_al_get 32 10176 p hf_c9_30 z29 z30 h3
  exact hg_al_get 32 10208 p hf_c9_31 z30 h2 h3
theorem hf_c10_0 : hg_al 32 10240 = true := by decide +kernel
theorem hf_c10_1 : hg_al 32 10272 = true := by decide +kernel
theorem hf_c10_2 : hg_al 32 10304 = true := by decide +kernel
theorem hf_c10_3 : hg_al 32 10336 = true := by decide +kernel
theorem hf_c10_4 : hg_al 32 10368 = true := by decide +kernel
theorem hf_c10_5 : hg_al 32 10400 = true := by decide +kernel
theorem hf_c10_6 : hg_al 32 10432 = true := by decide +kernel
theorem hf_c10_7 : hg_al 32 10464 = true := by decide +kernel
theorem hf_c10_8 : hg_al 32 10496 = true := by decide +kernel
theorem hf_c10_9 : hg_al 32 10528 = true := by decide +kernel
theorem hf_c10_10 : hg_al 32 10560 = true := by decide +kernel
theorem hf_c10_11 : hg_al 32 10592 = true := by decide +kernel
theorem hf_c10_12 : hg_al 32 10624 = true := by decide +kernel
theorem hf_c10_13 : hg_al 32 10656 = true := by decide +kernel
theorem hf_c10_14 : hg_al 32 10688 = true := by decide +kernel
theorem hf_c10_15 : hg_al 32 10720 = true := by decide +kernel
theorem hf_c10_16 : hg_al 32 10752 = true := by decide +kernel
theorem hf_c10_17 : hg_al 32 10784 = true := by decide +kernel
theorem hf_c10_18 : hg_al 32 10816 = true := by decide +kernel
theorem hf_c10_19 : hg_al 32 10848 = true := by decide +kernel
theorem hf_c10_20 : hg_al 32 10880 = true := by decide +kernel
theorem hf_c10_21 : hg_al 32 10912 = true := by decide +kernel
theorem hf_c10_22 : hg_al 32 10944 = true := by decide +kernel
theorem hf_c10_23 : hg_al 32 10976 = true := by decide +kernel
theorem hf_c10_24 : hg_al 32 11008 = true := by decide +kernel
theorem hf_c10_25 : hg_al 32 11040 = true := by decide +kernel
theorem hf_c10_26 : hg_al 32 11072 = true := by decide +kernel
theorem hf_c10_27 : hg_al 32 11104 = true := by decide +kernel
theorem hf_c10_28 : hg_al 32 11136 = true := by decide +kernel
theorem hf_c10_29 : hg_al 32 11168 = true := by decide +kernel
theorem hf_c10_30 : hg_al 32 11200 = true := by decide +kernel
theorem hf_c10_31 : hg_al 32 11232 = true := by decide +kernel
theorem hf_c10 {p : Nat} (h : 10240 ≤ p) (h2 : p < 11264) (h3 : p < 31744) : hf_ck p = true := by
  rcases Nat.lt_or_ge p 10272 with z0 | z0
  · exact hg_al_get 32 10240 p hf_c10_0 h z0 h3
  rcases Nat.lt_or_ge p 10304 with z1 | z1
  · exact hg_al_get 32 10272 p hf_c10_1 z0 z1 h3
  rcases Nat.lt_or_ge p 10336 with z2 | z2
  · exact hg_al_get 32 10304 p hf_c10_2 z1 z2 h3
  rcases Nat.lt_or_ge p 10368 with z3 | z3
  · exact hg_al_get 32 10336 p hf_c10_3 z2 z3 h3
  rcases Nat.lt_or_ge p 10400 with z4 | z4
  · exact hg_al_get 32 10368 p hf_c10_4 z3 z4 h3
  rcases Nat.lt_or_ge p 10432 with z5 | z5
  · exact hg_al_get 32 10400 p hf_c10_5 z4 z5 h3
  rcases Nat.lt_or_ge p 10464 with z6 | z6
  · exact hg_al_get 32 10432 p hf_c10_6 z5 z6 h3
  rcases Nat.lt_or_ge p 10496 with z7 | z7
  · exact hg_al_get 32 10464 p hf_c10_7 z6 z7 h3
  rcases Nat.lt_or_ge p 10528 with z8 | z8
  · exact hg_al_get 32 10496 p hf_c10_8 z7 z8 h3
  rcases Nat.lt_or_ge p 10560 with z9 | z9
  · exact hg_al_get 32 10528 p hf_c10_9 z8 z9 h3
  rcases Nat.lt_or_ge p 10592 with z10 | z10
  · exact hg_al_get 32 10560 p hf_c10_10 z9 z10 h3
  rcases Nat.lt_or_ge p 10624 with z11 | z11
  · exact hg_al_get 32 10592 p hf_c10_11 z10 z11 h3
  rcases Nat.lt_or_ge p 10656 with z12 | z12
  · exact hg_al_get 32 10624 p hf_c10_12 z11 z12 h3
  rcases Nat.lt_or_ge p 10688 with z13 | z13
  · exact hg_al_get 32 10656 p hf_c10_13 z12 z13 h3
  rcases Nat.lt_or_ge p 10720 with z14 | z14
  · exact hg_al_get 32 10688 p hf_c10_14 z13 z14 h3
  rcases Nat.lt_or_ge p 10752 with z15 | z15
  · exact hg_al_get 32 10720 p hf_c10_15 z14 z15 h3
  rcases Nat.lt_or_ge p 10784 with z16 | z16
  · exact hg_al_get 32 10752 p hf_c10_16 z15 z16 h3
  rcases Nat.lt_or_ge p 10816 with z17 | z17
  · exact hg_al_get 32 10784 p hf_c10_17 z16 z17 h3
  rcases Nat.lt_or_ge p 10848 with z18 | z18
  · exact hg_al_get 32 10816 p hf_c10_18 z17 z18 h3
  rcases Nat.lt_or_ge p 10880 with z19 | z19
  · exact hg_al_get 32 10848 p hf_c10_19 z18 z19 h3
  rcases Nat.lt_or_ge p 10912 with z20 | z20
  · exact hg_al_get 32 10880 p hf_c10_20 z19 z20 h3
  rcases Nat.lt_or_ge p 10944 with z21 | z21
  · exact hg_al_get 32 10912 p hf_c10_21 z20 z21 h3
  rcases Nat.lt_or_ge p 10976 with z22 | z22
  · exact hg_al_get 32 10944 p hf_c10_22 z21 z22 h3
  rcases Nat.lt_or_ge p 11008 with z23 | z23
  · exact hg_al_get 32 10976 p hf_c10_23 z22 z23 h3
  rcases Nat.lt_or_ge p 11040 with z24 | z24
  · exact hg_al_get 32 11008 p hf_c10_24 z23 z24 h3
  rcases Nat.lt_or_ge p 11072 with z25 | z25
  · exact hg_al_get 32 11040 p hf_c10_25 z24 z25 h3
  rcases Nat.lt_or_ge p 11104 with z26 | z26
  · exact hg_al_get 32 11072 p hf_c10_26 z25 z26 h3
  rcases Nat.lt_or_ge p 11136 with z27 | z27
  · exact hg_al_get 32 11104 p hf_c10_27 z26 z27 h3
  rcases Nat.lt_or_ge p 11168 with z28 | z28
  · exact hg_al_get 32 11136 p hf_c10_28 z27 z28 h3
  rcases Nat.lt_or_ge p 11200 with z29 | z29
  · exact hg_al_get 32 11168 p hf_c10_29 z28 z29 h3
  rcases Nat.lt_or_ge p 11232 with z30 | z30
  · exact hg_al_get 32 11200 p hf_c10_30 z29 z30 h3
  exact hg_al_get 32 11232 p hf_c10_31 z30 h2 h3
theorem hf_c11_0 : hg_al 32 11264 = true := by decide +kernel
theorem hf_c11_1 : hg_al 32 11296 = true := by decide +kernel
theorem hf_c11_2 : hg_al 32 11328 = true := by decide +kernel
theorem hf_c11_3 : hg_al 32 11360 = true := by decide +kernel
theorem hf_c11_4 : hg_al 32 11392 = true := by decide +kernel
theorem hf_c11_5 : hg_al 32 11424 = true := by decide +kernel
theorem hf_c11_6 : hg_al 32 11456 = true := by decide +kernel
theorem hf_c11_7 : hg_al 32 11488 = true := by decide +kernel
theorem hf_c11_8 : hg_al 32 11520 = true := by decide +kernel
theorem hf_c11_9 : hg_al 32 11552 = true := by decide +kernel
theorem hf_c11_10 : hg_al 32 11584 = true := by decide +kernel
theorem hf_c11_11 : hg_al 32 11616 = true := by decide +kernel
theorem hf_c11_12 : hg_al 32 11648 = true := by decide +kernel
theorem hf_c11_13 : hg_al 32 11680 = true := by decide +kernel
theorem hf_c11_14 : hg_al 32 11712 = true := by decide +kernel
theorem hf_c11_15 : hg_al 32 11744 = true := by decide +kernel
theorem hf_c11_16 : hg_al 32 11776 = true := by decide +kernel
theorem hf_c11_17 : hg_al 32 11808 = true := by decide +kernel
theorem hf_c11_18 : hg_al 32 11840 = true := by decide +kernel
theorem hf_c11_19 : hg_al 32 11872 = true := by decide +kernel
theorem hf_c11_20 : hg_al 32 11904 = true := by decide +kernel
theorem hf_c11_21 : hg_al 32 11936 = true := by decide +kernel
theorem hf_c11_22 : hg_al 32 11968 = true := by decide +kernel
theorem hf_c11_23 : hg_al 32 12000 = true := by decide +kernel
theorem hf_c11_24 : hg_al 32 12032 = true := by decide +kernel
theorem hf_c11_25 : hg_al 32 12064 = true := by decide +kernel
theorem hf_c11_26 : hg_al 32 12096 = true := by decide +kernel
theorem hf_c11_27 : hg_al 32 12128 = true := by decide +kernel
theorem hf_c11_28 : hg_al 32 12160 = true := by decide +kernel
theorem hf_c11_29 : hg_al 32 12192 = true := by decide +kernel
theorem hf_c11_30 : hg_al 32 12224 = true := by decide +kernel
theorem hf_c11_31 : hg_al 32 12256 = true := by decide +kernel
theorem hf_c11 {p : Nat} (h : 11264 ≤ p) (h2 : p < 12288) (h3 : p < 31744) : hf_ck p = true := by
  rcases Nat.lt_or_ge p 11296 with z0 | z0
  · exact hg_al_get 32 11264 p hf_c11_0 h z0 h3
  rcases Nat.lt_or_ge p 11328 with z1 | z1
  · exact hg_al_get 32 11296 p hf_c11_1 z0 z1 h3
  rcases Nat.lt_or_ge p 11360 with z2 | z2
  · exact hg_al_get 32 11328 p hf_c11_2 z1 z2 h3
  rcases Nat.lt_or_ge p 11392 with z3 | z3
  · exact hg_al_get 32 11360 p hf_c11_3 z2 z3 h3
  rcases Nat.lt_or_ge p 11424 with z4 | z4
  · exact hg_al_get 32 11392 p hf_c11_4 z3 z4 h3
  rcases Nat.lt_or_ge p 11456 with z5 | z5
  · exact hg_al_get 32 11424 p hf_c11_5 z4 z5 h3
  rcases Nat.lt_or_ge p 11488 with z6 | z6
  · exact hg_al_get 32 11456 p hf_c11_6 z5 z6 h3
  rcases Nat.lt_or_ge p 11520 with z7 | z7
  · exact hg_al_get 32 11488 p hf_c11_7 z6 z7 h3
  rcases Nat.lt_or_ge p 11552 with z8 | z8
  · exact hg_al_get 32 11520 p hf_c11_8 z7 z8 h3
  rcases Nat.lt_or_ge p 11584 with z9 | z9
  · exact hg_al_get 32 11552 p hf_c11_9 z8 z9 h3
  rcases Nat.lt_or_ge p 11616 with z10 | z10
  · exact hg_al_get 32 11584 p hf_c11_10 z9 z10 h3
  rcases Nat.lt_or_ge p 11648 with z11 | z11
  · exact hg_al_get 32 11616 p hf_c11_11 z10 z11 h3
  rcases Nat.lt_or_ge p 11680 with z12 | z12
  · exact hg_al_get 32 11648 p hf_c11_12 z11 z12 h3
  rcases Nat.lt_or_ge p 11712 with z13 | z13
  · exact hg_al_get 32 11680 p hf_c11_13 z12 z13 h3
  rcases Nat.lt_or_ge p 11744 with z14 | z14
  · exact hg_al_get 32 11712 p hf_c11_14 z13 z14 h3
  rcases Nat.lt_or_ge p 11776 with z15 | z15
  · exact hg_al_get 32 11744 p hf_c11_15 z14 z15 h3
  rcases Nat.lt_or_ge p 11808 with z16 | z16
  · exact hg_al_get 32 11776 p hf_c11_16 z15 z16 h3
  rcases Nat.lt_or_ge p 11840 with z17 | z17
  · exact hg_al_get 32 11808 p hf_c11_17 z16 z17 h3
  rcases Nat.lt_or_ge p 11872 with z18 | z18
  · exact hg_al_get 32 11840 p hf_c11_18 z17 z18 h3
  rcases Nat.lt_or_ge p 11904 with z19 | z19
  · exact hg_al_get 32 11872 p hf_c11_19 z18 z19 h3
  rcases Nat.lt_or_ge p 11936 with z20 | z20
  · exact hg_al_get 32 11904 p hf_c11_20 z19 z20 h3
  rcases Nat.lt_or_ge p 11968 with z21 | z21
  · exact hg_al_get 32 11936 p hf_c11_21 z20 z21 h3
  rcases Nat.lt_or_ge p 12000 with z22 | z22
  · exact hg_al_get 32 11968 p hf_c11_22 z21 z22 h3
  rcases Nat.lt_or_ge p 12032 with z23 | z23
  · exact hg_al_get 32 12000 p hf_c11_23 z22 z23 h3
  rcases Nat.lt_or_ge p 12064 with z24 | z24
  · exact hg_al_get 32 12032 p hf_c11_24 z23 z24 h3
  rcases Nat.lt_or_ge p 12096 with z25 | z25
  · exact hg_al_get 32 12064 p hf_c11_25 z24 z25 h3
  rcases Nat.lt_or_ge p 12128 with z26 | z26
  · exact hg_al_get 32 12096 p hf_c11_26 z25 z26 h3
  rcases Nat.lt_or_ge p 12160 with z27 | z27
  · exact hg_al_get 32 12128 p hf_c11_27 z26 z27 h3
  rcases Nat.lt_or_ge p 12192 with z28 | z28
  · exact hg_al_get 32 12160 p hf_c11_28 z27 z28 h3
  rcases Nat.lt_or_ge p 12224 with z29 | z29
  · exact hg_al_get 32 12192 p hf_c11_29 z28 z29 h3
  rcases Nat.lt_or_ge p 12256 with z30 | z30
  · exact hg_al_get 32 12224 p hf_c11_30 z29 z30 h3
  exact hg_al_get 32 12256 p hf_c11_31 z30 h2 h3
theorem hf_c12_0 : hg_al 32 12288 = true := by decide +kernel
theorem hf_c12_1 : hg_al 32 12320 = true := by decide +kernel
theorem hf_c12_2 : hg_al 32 12352 = true := by decide +kernel
theorem hf_c12_3 : hg_al 32 12384 = true := by decide +kernel
theorem hf_c12_4 : hg_al 32 12416 = true := by decide +kernel
theorem hf_c12_5 : hg_al 32 12448 = true := by decide +kernel
theorem hf_c12_6 : hg_al 32 12480 = true := by decide +kernel
theorem hf_c12_7 : hg_al 32 12512 = true := by decide +kernel
theorem hf_c12_8 : hg_al 32 12544 = true := by decide +kernel
theorem hf_c12_9 : hg_al 32 12576 = true := by decide +kernel
theorem hf_c12_10 : hg_al 32 12608 = true := by decide +kernel
theorem hf_c12_11 : hg_al 32 12640 = true := by decide +kernel
theorem hf_c12_12 : hg_al 32 12672 = true := by decide +kernel
theorem hf_c12_13 : hg_al 32 12704 = true := by decide +kernel
theorem hf_c12_14 : hg_al 32 12736 = true := by decide +kernel
theorem hf_c12_15 : hg_al 32 12768 = true := by decide +kernel
theorem hf_c12_16 : hg_al 32 12800 = true := by decide +kernel
theorem hf_c12_17 : hg_al 32 12832 = true := by decide +kernel
theorem hf_c12_18 : hg_al 32 12864 = true := by decide +kernel
theorem hf_c12_19 : hg_al 32 12896 = true := by decide +kernel
theorem hf_c12_20 : hg_al 32 12928 = true := by decide +kernel
theorem hf_c12_21 : hg_al 32 12960 = true := by decide +kernel
theorem hf_c12_22 : hg_al 32 12992 = true := by decide +kernel
theorem hf_c12_23 : hg_al 32 13024 = true := by decide +kernel
theorem hf_c12_24 : hg_al 32 13056 = true := by decide +kernel
theorem hf_c12_25 : hg_al 32 13088 = true := by decide +kernel
theorem hf_c12_26 : hg_al 32 13120 = true := by decide +kernel
theorem hf_c12_27 : hg_al 32 13152 = true := by decide +kernel
theorem hf_c12_28 : hg_al 32 13184 = true := by decide +kernel
theorem hf_c12_29 : hg_al 32 13216 = true := by decide +kernel
theorem hf_c12_30 : hg_al 32 13248 = true := by decide +kernel
theorem hf_c12_31 : hg_al 32 13280 = true := by decide +kernel
theorem hf_c12 {p : Nat} (h : 12288 ≤ p) (h2 : p < 13312) (h3 : p < 31744) : hf_ck p = true := by
  rcases Nat.lt_or_ge p 12320 with z0 | z0
  · exact hg_al_get 32 12288 p hf_c12_0 h z0 h3
  rcases Nat.lt_or_ge p 12352 with z1 | z1
  · exact hg_al_get 32 12320 p hf_c12_1 z0 z1 h3
  rcases Nat.lt_or_ge p 12384 with z2 | z2
  · exact hg_al_get 32 12352 p hf_c12_2 z1 z2 h3
  rcases Nat.lt_or_ge p 12416 with z3 | z3
  · exact hg_al_get 32 12384 p hf_c12_3 z2 z3 h3
  rcases Nat.lt_or_ge p 12448 with z4 | z4
  · exact hg_al_get 32 12416 p hf_c12_4 z3 z4 h3
  rcases Nat.lt_or_ge p 12480 with z5 | z5
  · exact hg_al_get 32 12448 p hf_c12_5 z4 z5 h3
  rcases Nat.lt_or_ge p 12512 with z6 | z6
  · exact hg_al_get 32 12480 p hf_c12_6 z5 z6 h3
  rcases Nat.lt_or_ge p 12544 with z7 | z7
  · exact hg_al_get 32 12512 p hf_c12_7 z6 z7 h3
  rcases Nat.lt_or_ge p 12576 with z8 | z8
  · exact hg_al_get 32 12544 p hf_c12_8 z7 z8 h3
  rcases Nat.lt_or_ge p 12608 with z9 | z9
  · exact hg_al_get 32 12576 p hf_c12_9 z8 z9 h3
  rcases Nat.lt_or_ge p 12640 with z10 | z10
  · exact hg_al_get 32 12608 p hf_c12_10 z9 z10 h3
  rcases Nat.lt_or_ge p 12672 with z11 | z11
  · exact hg_al_get 32 12640 p hf_c12_11 z10 z11 h3
  rcases Nat.lt_or_ge p 12704 with z12 | z12
  · exact hg_al_get 32 12672 p hf_c12_12 z11 z12 h3
  rcases Nat.lt_or_ge p 12736 with z13 | z13
  · exact hg_al_get 32 12704 p hf_c12_13 z12 z13 h3
  rcases Nat.lt_or_ge p 12768 with z14 | z14
  · exact hg_al_get 32 12736 p hf_c12_14 z13 z14 h3
  rcases Nat.lt_or_ge p 12800 with z15 | z15
  · exact hg_al_get 32 12768 p hf_c12_15 z14 z15 h3
  rcases Nat.lt_or_ge p 12832 with z16 | z16
  · exact hg_al_get 32 12800 p hf_c12_16 z15 z16 h3
  rcases Nat.lt_or_ge p 12864 with z17 | z17
  · exact hg_al_get 32 12832 p hf_c12_17 z16 z17 h3
  rcases Nat.lt_or_ge p 12896 with z18 | z18
  · exact hg_al_get 32 12864 p hf_c12_18 z17 z18 h3
  rcases Nat.lt_or_ge p 12928 with z19 | z19
  · exact hg_al_get 32 12896 p hf_c12_19 z18 z19 h3
  rcases Nat.lt_or_ge p 12960 with z20 | z20
  · exact hg_al_get 32 12928 p hf_c12_20 z19 z20 h3
  rcases Nat.lt_or_ge p 12992 with z21 | z21
  · exact hg_al_get 32 12960 p hf_c12_21 z20 z21 h3
  rcases Nat.lt_or_ge p 13024 with z22 | z22
  · exact hg_al_get 32 12992 p hf_c12_22 z21 z22 h3
  rcases Nat.lt_or_ge p 13056 with z23 | z23
  · exact hg_al_get 32 13024 p hf_c12_23 z22 z23 h3
  rcases Nat.lt_or_ge p 13088 with z24 | z24
  · exact hg_al_get 32 13056 p hf_c12_24 z23 z24 h3
  rcases Nat.lt_or_ge p 13120 with z25 | z25
  · exact hg_al_get 32 13088 p hf_c12_25 z24 z25 h3
  rcases Nat.lt_or_ge p 13152 with z26 | z26
  · exact hg_al_get 32 13120 p hf_c12_26 z25 z26 h3
  rcases Nat.lt_or_ge p 13184 with z27 | z27
  · exact hg_al_get 32 13152 p hf_c12_27 z26 z27 h3
  rcases Nat.lt_or_ge p 13216 with z28 | z28
  · exact hg_al_get 32 13184 p hf_c12_28 z27 z28 h3
  rcases Nat.lt_or_ge p 13248 with z29 | z29
  · exact hg_al_get 32 13216 p hf_c12_29 z28 z29 h3
  rcases Nat.lt_or_ge p 13280 with z30 | z30
  · exact hg_al_get 32 13248 p hf_c12_30 z29 z30 h3
  exact hg_al_get 32 13280 p hf_c12_31 z30 h2 h3
theorem hf_c13_0 : hg_al 32 13312 = true := by decide +kernel
theorem hf_c13_1 : hg_al 32 13344 = true := by decide +kernel
theorem hf_c13_2 : hg_al 32 13376 = true := by decide +kernel
theorem hf_c13_3 : hg_al 32 13408 = true := by decide +kernel
theorem hf_c13_4 : hg_al 32 13440 = true := by decide +kernel
theorem hf_c13_5 : hg_al 32 13472 = true := by decide +kernel
theorem hf_c13_6 : hg_al 32 13504 = true := by decide +kernel
theorem hf_c13_7 : hg_al 32 13536 = true := by decide +kernel
theorem hf_c13_8 : hg_al 32 13568 = true := by decide +kernel
theorem hf_c13_9 : hg_al 32 13600 = true := by decide +kernel
theorem hf_c13_10 : hg_al 32 13632 = true := by decide +kernel
theorem hf_c13_11 : hg_al 32 13664 = true := by decide +kernel
theorem hf_c13_12 : hg_al 32 13696 = true := by decide +kernel
theorem hf_c13_13 : hg_al 32 13728 = true := by decide +kernel
theorem hf_c13_14 : hg_al 32 13760 = true := by decide +kernel
theorem hf_c13_15 : hg_al 32 13792 = true := by decide +kernel
theorem hf_c13_16 : hg_al 32 13824 = true := by decide +kernel
theorem hf_c13_17 : hg_al 32 13856 = true := by decide +kernel
theorem hf_c13_18 : hg_al 32 13888 = true := by decide +kernel
theorem hf_c13_19 : hg_al 32 13920 = true := by decide +kernel
theorem hf_c13_20 : hg_al 32 13952 = true := by decide +kernel
theorem hf_c13_21 : hg_al 32 13984 = true := by decide +kernel
theorem hf_c13_22 : hg_al 32 14016 = true := by decide +kernel
theorem hf_c13_23 : hg_al 32 14048 = true := by decide +kernel
theorem hf_c13_24 : hg_al 32 14080 = true := by decide +kernel
theorem hf_c13_25 : hg_al 32 14112 = true := by decide +kernel
theorem hf_c13_26 : hg_al 32 14144 = true := by decide +kernel
theorem hf_c13_27 : hg_al 32 14176 = true := by decide +kernel
theorem hf_c13_28 : hg_al 32 14208 = true := by decide +kernel
theorem hf_c13_29 : hg_al 32 14240 = true := by decide +kernel
theorem hf_c13_30 : hg_al 32 14272 = true := by decide +kernel
theorem hf_c13_31 : hg_al 32 14304 = true := by decide +kernel
theorem hf_c13 {p : Nat} (h : 13312 ≤ p) (h2 : p < 14336) (h3 : p < 31744) : hf_ck p = true := by
  rcases Nat.lt_or_ge p 13344 with z0 | z0
  · exact hg_al_get 32 13312 p hf_c13_0 h z0 h3
  rcases Nat.lt_or_ge p 13376 with z1 | z1
  · exact hg_al_get 32 13344 p hf_c13_1 z0 z1 h3
  rcases Nat.lt_or_ge p 13408 with z2 | z2
  · exact hg_al_get 32 13376 p hf_c13_2 z1 z2 h3
  rcases Nat.lt_or_ge p 13440 with z3 | z3
  · exact hg_al_get 32 13408 p hf_c13_3 z2 z3 h3
  rcases Nat.lt_or_ge p 13472 with z4 | z4
  · exact hg_al_get 32 13440 p hf_c13_4 z3 z4 h3
  rcases Nat.lt_or_ge p 13504 with z5 | z5
  · exact hg_al_get 32 13472 p hf_c13_5 z4 z5 h3
  rcases Nat.lt_or_ge p 13536 with z6 | z6
  · exact hg_al_get 32 13504 p hf_c13_6 z5 z6 h3
  rcases Nat.lt_or_ge p 13568 with z7 | z7
  · exact hg_al_get 32 13536 p hf_c13_7 z6 z7 h3
  rcases Nat.lt_or_ge p 13600 with z8 | z8
  · exact hg_al_get 32 13568 p hf_c13_8 z7 z8 h3
  rcases Nat.lt_or_ge p 13632 with z9 | z9
  · exact hg_al_get 32 13600 p hf_c13_9 z8 z9 h3
  rcases Nat.lt_or_ge p 13664 with z10 | z10
  · exact hg_al_get 32 13632 p hf_c13_10 z9 z10 h3
  rcases Nat.lt_or_ge p 13696 with z11 | z11
  · exact hg_al_get 32 13664 p hf_c13_11 z10 z11 h3
  rcases Nat.lt_or_ge p 13728 with z12 | z12
  · exact hg_al_get 32 13696 p hf_c13_12 z11 z12 h3
  rcases Nat.lt_or_ge p 13760 with z13 | z13
  · exact hg_al_get 32 13728 p hf_c13_13 z12 z13 h3
  rcases Nat.lt_or_ge p 13792 with z14 | z14
  · exact hg_al_get 32 13760 p hf_c13_14 z13 z14 h3
  rcases Nat.lt_or_ge p 13824 with z15 | z15
  · exact hg_al_get 32 13792 p hf_c13_15 z14 z15 h3
  rcases Nat.lt_or_ge p 13856 with z16 | z16
  · exact hg_al_get 32 13824 p hf_c13_16 z15 z16 h3
  rcases Nat.lt_or_ge p 13888 with z17 | z17
  · exact hg_al_get 32 13856 p hf_c13_17 z16 z17 h3
  rcases Nat.lt_or_ge p 13920 with z18 | z18
  · exact hg_al_get 32 13888 p hf_c13_18 z17 z18 h3
  rcases Nat.lt_or_ge p 13952 with z19 | z19
  · exact hg_al_get 32 13920 p hf_c13_19 z18 z19 h3
  rcases Nat.lt_or_ge p 13984 with z20 | z20
  · exact hg_al_get 32 13952 p hf_c13_20 z19 z20 h3
  rcases Nat.lt_or_ge p 14016 with z21 | z21
  · exact hg_al_get 32 13984 p hf_c13_21 z20 z21 h3
  rcases Nat.lt_or_ge p 14048 with z22 | z22
  · exact hg_al_get 32 14016 p hf_c13_22 z21 z22 h3
  rcases Nat.lt_or_ge p 14080 with z23 | z23
  · exact hg_al_get 32 14048 p hf_c13_23 z22 z23 h3
  rcases Nat.lt_or_ge p 14112 with z24 | z24
  · exact hg_al_get 32 14080 p hf_c13_24 z23 z24 h3
  rcases Nat.lt_or_ge p 14144 with z25 | z25
  · exact hg_al_get 32 14112 p hf_c13_25 z24 z25 h3
  rcases Nat.lt_or_ge p 14176 with z26 | z26
  · exact hg_al_get 32 14144 p hf_c13_26 z25 z26 h3
  rcases Nat.lt_or_ge p 14208 with z27 | z27
  · exact hg_al_get 32 14176 p hf_c13_27 z26 z27 h3
  rcases Nat.lt_or_ge p 14240 with z28 | z28
  · exact hg_al_get 32 14208 p hf_c13_28 z27 z28 h3
  rcases Nat.lt_or_ge p 14272 with z29 | z29
  · exact hg_al_get 32 14240 p hf_c13_29 z28 z29 h3
  rcases Nat.lt_or_ge p 14304 with z30 | z30
  · exact hg_al_get 32 14272 p hf_c13_30 z29 z30 h3
  exact hg_al_get 32 14304 p hf_c13_31 z30 h2 h3
theorem hf_c14_0 : hg_al 32 14336 = true := by decide +kernel
theorem hf_c14_1 : hg_al 32 14368 = true := by decide +kernel
theorem hf_c14_2 : hg_al 32 14400 = true := by decide +kernel
theorem hf_c14_3 : hg_al 32 14432 = true := by decide +kernel
theorem hf_c14_4 : hg_al 32 14464 = true := by decide +kernel
theorem hf_c14_5 : hg_al 32 14496 = true := by decide +kernel
theorem hf_c14_6 : hg_al 32 14528 = true := by decide +kernel
theorem hf_c14_7 : hg_al 32 14560 = true := by decide +kernel
theorem hf_c14_8 : hg_al 32 14592 = true := by decide +kernel
theorem hf_c14_9 : hg_al 32 14624 = true := by decide +kernel
theorem hf_c14_10 : hg_al 32 14656 = true := by decide +kernel
theorem hf_c14_11 : hg_al 32 14688 = true := by decide +kernel
theorem hf_c14_12 : hg_al 32 14720 = true := by decide +kernel
theorem hf_c14_13 : hg_al 32 14752 = true := by decide +kernel
theorem hf_c14_14 : hg_al 32 14784 = true := by decide +kernel
theorem hf_c14_15 : hg_al 32 14816 = true := by decide +kernel
theorem hf_c14_16 : hg_al 32 14848 = true := by decide +kernel
theorem hf_c14_17 : hg_al 32 14880 = true := by decide +kernel
theorem hf_c14_18 : hg_al 32 14912 = true := by decide +kernel
theorem hf_c14_19 : hg_al 32 14944 = true := by decide +kernel
theorem hf_c14_20 : hg_al 32 14976 = true := by decide +kernel
theorem hf_c14_21 : hg_al 32 15008 = true := by decide +kernel
theorem hf_c14_22 : hg_al 32 15040 = true := by decide +kernel
theorem hf_c14_23 : hg_al 32 15072 = true := by decide +kernel
theorem hf_c14_24 : hg_al 32 15104 = true := by decide +kernel
theorem hf_c14_25 : hg_al 32 15136 = true := by decide +kernel
theorem hf_c14_26 : hg_al 32 15168 = true := by decide +kernel
theorem hf_c14_27 : hg_al 32 15200 = true := by decide +kernel
theorem hf_c14_28 : hg_al 32 15232 = true := by decide +kernel
theorem hf_c14_29 : hg_al 32 15264 = true := by decide +kernel
theorem hf_c14_30 : hg_al 32 15296 = true := by decide +kernel
theorem hf_c14_31 : hg_al 32 15328 = true := by decide +kernel
theorem hf_c14 {p : Nat} (h : 14336 ≤ p) (h2 : p < 15360) (h3 : p < 31744) : hf_ck p = true := by
  rcases Nat.lt_or_ge p 14368 with z0 | z0
  · exact hg_al_get 32 14336 p hf_c14_0 h z0 h3
  rcases Nat.lt_or_ge p 14400 with z1 | z1
  · exact hg_al_get 32 14368 p hf_c14_1 z0 z1 h3
  rcases Nat.lt_or_ge p 14432 with z2 | z2
  · exact hg_al_get 32 14400 p hf_c14_2 z1 z2 h3
  rcases Nat.lt_or_ge p 14464 with z3 | z3
  · exact hg_al_get 32 14432 p hf_c14_3 z2 z3 h3
  rcases Nat.lt_or_ge p 14496 with z4 | z4
  · exact hg_al_get 32 14464 p hf_c14_4 z3 z4 h3
  rcases Nat.lt_or_ge p 14528 with z5 | z5
  · exact hg_al_get 32 14496 p hf_c14_5 z4 z5 h3
  rcases Nat.lt_or_ge p 14560 with z6 | z6
  · exact hg_al_get 32 14528 p hf_c14_6 z5 z6 h3
  rcases Nat.lt_or_ge p 14592 with z7 | z7
  · exact hg_al_get 32 14560 p hf_c14_7 z6 z7 h3
  rcases Nat.lt_or_ge p 14624 with z8 | z8
  · exact hg_al_get 32 14592 p hf_c14_8 z7 z8 h3
  rcases Nat.lt_or_ge p 14656 with z9 | z9
  · exact hg_al_get 32 14624 p hf_c14_9 z8 z9 h3
  rcases Nat.lt_or_ge p 14688 with z10 | z10
  · exact hg_al_get 32 14656 p hf_c14_10 z9 z10 h3
  rcases Nat.lt_or_ge p 14720 with z11 | z11
  · exact hg_al_get 32 14688 p hf_c14_11 z10 z11 h3
  rcases Nat.lt_or_ge p 14752 with z12 | z12
  · exact hg_al_get 32 14720 p hf_c14_12 z11 z12 h3
  rcases Nat.lt_or_ge p 14784 with z13 | z13
  · exact hg_al_get 32 14752 p hf_c14_13 z12 z13 h3
  rcases Nat.lt_or_ge p 14816 with z14 | z14
  · exact hg_al_get 32 14784 p hf_c14_14 z13 z14 h3
  rcases Nat.lt_or_ge p 14848 with z15 | z15
  · exact hg_al_get 32 14816 p hf_c14_15 z14 z15 h3
  rcases Nat.lt_or_ge p 14880 with z16 | z16
  · exact hg_al_get 32 14848 p hf_c14_16 z15 z16 h3
  rcases Nat.lt_or_ge p 14912 with z17 | z17
  · exact hg_al_get 32 14880 p hf_c14_17 z16 z17 h3
  rcases Nat.lt_or_ge p 14944 with z18 | z18
  · exact hg_al_get 32 14912 p hf_c14_18 z17 z18 h3
  rcases Nat.lt_or_ge p 14976 with z19 | z19
  · exact hg_al_get 32 14944 p hf_c14_19 z18 z19 h3
  rcases Nat.lt_or_ge p 15008 with z20 | z20
  · exact hg_al_get 32 14976 p hf_c14_20 z19 z20 h3
  rcases Nat.lt_or_ge p 15040 with z21 | z21
  · exact hg_al_get 32 15008 p hf_c14_21 z20 z21 h3
  rcases Nat.lt_or_ge p 15072 with z22 | z22
  · exact hg_al_get 32 15040 p hf_c14_22 z21 z22 h3
  rcases Nat.lt_or_ge p 15104 with z23 | z23
  · exact hg_al_get 32 15072 p hf_c14_23 z22 z23 h3
  rcases Nat.lt_or_ge p 15136 with z24 | z24
  · exact hg_al_get 32 15104 p hf_c14_24 z23 z24 h3
  rcases Nat.lt_or_ge p 15168 with z25 | z25
  · exact hg_al_get 32 15136 p hf_c14_25 z24 z25 h3
  rcases Nat.lt_or_ge p 15200 with z26 | z26
  · exact hg_al_get 32 15168 p hf_c14_26 z25 z26 h3
  rcases Nat.lt_or_ge p 15232 with z27 | z27
  · exact hg_al_get 32 15200 p hf_c14_27 z26 z27 h3
  rcases Nat.lt_or_ge p 15264 with z28 | z28
  · exact hg_al_get 32 15232 p hf_c14_28 z27 z28 h3
  rcases Nat.lt_or_ge p 15296 with z29 | z29
  · exact hg_al_get 32 15264 p hf_c14_29 z28 z29 h3
  rcases Nat.lt_or_ge p 15328 with z30 | z30
  · exact hg_al_get 32 15296 p hf_c14_30 z29 z30 h3
  exact hg_al_get 32 15328 p hf_c14_31 z30 h2 h3
theorem hf_c15_0 : hg_al 32 15360 = true := by decide +kernel
theorem hf_c15_1 : hg_al 32 15392 = true := by decide +kernel
theorem hf_c15_2 : hg_al 32 15424 = true := by decide +kernel
theorem hf_c15_3 : hg_al 32 15456 = true := by decide +kernel
theorem hf_c15_4 : hg_al 32 15488 = true := by decide +kernel
theorem hf_c15_5 : hg_al 32 15520 = true := by decide +kernel
theorem hf_c15_6 : hg_al 32 15552 = true := by decide +kernel
theorem hf_c15_7 : hg_al 32 15584 = true := by decide +kernel
theorem hf_c15_8 : hg_al 32 15616 = true := by decide +kernel
theorem hf_c15_9 : hg_al 32 15648 = true := by decide +kernel
theorem hf_c15_10 : hg_al 32 15680 = true := by decide +kernel
theorem hf_c15_11 : hg_al 32 15712 = true := by decide +kernel
theorem hf_c15_12 : hg_al 32 15744 = true := by decide +kernel
theorem hf_c15_13 : hg_al 32 15776 = true := by decide +kernel
theorem hf_c15_14 : hg_al 32 15808 = true := by decide +kernel
theorem hf_c15_15 : hg_al 32 15840 = true := by decide +kernel
theorem hf_c15_16 : hg_al 32 15872 = true := by decide +kernel
theorem hf_c15_17 : hg_al 32 15904 = true := by decide +kernel
theorem hf_c15_18 : hg_al 32 15936 = true := by decide +kernel
theorem hf_c15_19 : hg_al 32 15968 = true := by decide +kernel
theorem hf_c15_20 : hg_al 32 16000 = true := by decide +kernel
theorem hf_c15_21 : hg_al 32 16032 = true := by decide +kernel
theorem hf_c15_22 : hg_al 32 16064 = true := by decide +kernel
theorem hf_c15_23 : hg_al 32 16096 = true := by decide +kernel
theorem hf_c15_24 : hg_al 32 16128 = true := by decide +kernel
theorem hf_c15_25 : hg_al 32 16160 = true := by decide +kernel
theorem hf_c15_26 : hg_al 32 16192 = true := by decide +kernel
theorem hf_c15_27 : hg_al 32 16224 = true := by decide +kernel
theorem hf_c15_28 : hg_al 32 16256 = true := by decide +kernel
theorem hf_c15_29 : hg_al 32 16288 = true := by decide +kernel
theorem hf_c15_30 : hg_al 32 16320 = true := by decide +kernel
theorem hf_c15_31 : hg_al 32 16352 = true := by decide +kernel
theorem hf_c15 {p : Nat} (h : 15360 ≤ p) (h2 : p < 16384) (h3 : p < 31744) : hf_ck p = true := by
  rcases Nat.lt_or_ge p 15392 with z0 | z0
  · exact hg_al_get 32 15360 p hf_c15_0 h z0 h3
  rcases Nat.lt_or_ge p 15424 with z1 | z1
  · exact hg_al_get 32 15392 p hf_c15_1 z0 z1 h3
  rcases Nat.lt_or_ge p 15456 with z2 | z2
  · exact hg_al_get 32 15424 p hf_c15_2 z1 z2 h3
  rcases Nat.lt_or_ge p 15488 with z3 | z3
  · exact hg_al_get 32 15456 p hf_c15_3 z2 z3 h3
  rcases Nat.lt_or_ge p 15520 with z4 | z4
  · exact hg_al_get 32 15488 p hf_c15_4 z3 z4 h3
  rcases Nat.lt_or_ge p 15552 with z5 | z5
  · exact hg_al_get 32 15520 p hf_c15_5 z4 z5 h3
  rcases Nat.lt_or_ge p 15584 with z6 | z6
  · exact hg_al_get 32 15552 p hf_c15_6 z5 z6 h3
  rcases Nat.lt_or_ge p 15616 with z7 | z7
  · exact hg_al_get 32 15584 p hf_c15_7 z6 z7 h3
  rcases Nat.lt_or_ge p 15648 with z8 | z8
  · exact hg_al_get 32 15616 p hf_c15_8 z7 z8 h3
  rcases Nat.lt_or_ge p 15680 with z9 | z9
  · exact hg_al_get 32 15648 p hf_c15_9 z8 z9 h3
  rcases Nat.lt_or_ge p 15712 with z10 | z10
  · exact hg_al_get 32 15680 p hf_c15_10 z9 z10 h3
  rcases Nat.lt_or_ge p 15744 with z11 | z11
  · exact hg_al_get 32 15712 p hf_c15_11 z10 z11 h3
  rcases Nat.lt_or_ge p 15776 with z12 | z12
  · exact hg_al_get 32 15744 p hf_c15_12 z11 z12 h3
  rcases Nat.lt_or_ge p 15808 with z13 | z13
  · exact hg_al_get 32 15776 p hf_c15_13 z12 z13 h3
  rcases Nat.lt_or_ge p 15840 with z14 | z14
  · exact hg_al_get 32 15808 p hf_c15_14 z13 z14 h3
  rcases Nat.lt_or_ge p 15872 with z15 | z15
  · exact hg_al_get 32 15840 p hf_c15_15 z14 z15 h3
  rcases Nat.lt_or_ge p 15904 with z16 | z16
  · exact hg_al_get 32 15872 p hf_c15_16 z15 z16 h3
  rcases Nat.lt_or_ge p 15936 with z17 | z17
  · exact hg_al_get 32 15904 p hf_c15_17 z16 z17 h3
  rcases Nat.lt_or_ge p 15968 with z18 | z18
  · exact hg_al_get 32 15936 p hf_c15_18 z17 z18 h3
  rcases Nat.lt_or_ge p 16000 with z19 | z19
  · exact hg_al_get 32 15968 p hf_c15_19 z18 z19 h3
  rcases Nat.lt_or_ge p 16032 with z20 | z20
  · exact hg_al_get 32 16000 p hf_c15_20 z19 z20 h3
  rcases Nat.lt_or_ge p 16064 with z21 | z21
  · exact hg_al_get 32 16032 p hf_c15_21 z20 z21 h3
  rcases Nat.lt_or_ge p 16096 with z22 | z22
  · exact hg_al_get 32 16064 p hf_c15_22 z21 z22 h3
  rcases Nat.lt_or_ge p 16128 with z23 | z23
  · exact hg_al_get 32 16096 p hf_c15_23 z22 z23 h3
  rcases Nat.lt_or_ge p 16160 with z24 | z24
  · exact hg_al_get 32 16128 p hf_c15_24 z23 z24 h3
  rcases Nat.lt_or_ge p 16192 with z25 | z25
  · exact hg_al_get 32 16160 p hf_c15_25 z24 z25 h3
  rcases Nat.lt_or_ge p 16224 with z26 | z26
  · exact hg_al_get 32 16192 p hf_c15_26 z25 z26 h3
  rcases Nat.lt_or_ge p 16256 with z27 | z27
  · exact hg_al_get 32 16224 p hf_c15_27 z26 z27 h3
  rcases Nat.lt_or_ge p 16288 with z28 | z28
  · exact hg_al_get 32 16256 p hf_c15_28 z27 z28 h3
  rcases Nat.lt_or_ge p 16320 with z29 | z29
  · exact hg_al_get 32 16288 p hf_c15_29 z28 z29 h3
  rcases Nat.lt_or_ge p 16352 with z30 | z30
  · exact hg_al_get 32 16320 p hf_c15_30 z29 z30 h3
  exact hg_al_get 32 16352 p hf_c15_31 z30 h2 h3
theorem hf_c16_0 : hg_al 32 16384 = true := by decide +kernel
theorem hf_c16_1 : hg_al 32 16416 = true := by decide +kernel
theorem hf_c16_2 : hg_al 32 16448 = true := by decide +kernel
theorem hf_c16_3 : hg_al 32 16480 = true := by decide +kernel
theorem hf_c16_4 : hg_al 32 16512 = true := by decide +kernel
theorem hf_c16_5 : hg_al 32 16544 = true := by decide +kernel
theorem hf_c16_6 : hg_al 32 16576 = true := by decide +kernel
theorem hf_c16_7 : hg_al 32 16608 = true := by decide +kernel
theorem hf_c16_8 : hg_al 32 16640 = true := by decide +kernel
theorem hf_c16_9 : hg_al 32 16672 = true := by decide +kernel
theorem hf_c16_10 : hg_al 32 16704 = true := by decide +kernel
theorem hf_c16_11 : hg_al 32 16736 = true := by decide +kernel
theorem hf_c16_12 : hg_al 32 16768 = true := by decide +kernel
theorem hf_c16_13 : hg_al 32 16800 = true := by decide +kernel
theorem hf_c16_14 : hg_al 32 16832 = true := by decide +kernel
theorem hf_c16_15 : hg_al 32 16864 = true := by decide +kernel
theorem hf_c16_16 : hg_al 32 16896 = true := by decide +kernel
theorem hf_c16_17 : hg_al 32 16928 = true := by decide +kernel
theorem hf_c16_18 : hg_al 32 16960 = true := by decide +kernel
theorem hf_c16_19 : hg_al 32 16992 = true := by decide +kernel
theorem hf_c16_20 : hg_al 32 17024 = true := by decide +kernel
theorem hf_c16_21 : hg_al 32 17056 = true := by decide +kernel
theorem hf_c16_22 : hg_al 32 17088 = true := by decide +kernel
theorem hf_c16_23 : hg_al 32 17120 = true := by decide +kernel
theorem hf_c16_24 : hg_al 32 17152 = true := by decide +kernel
theorem hf_c16_25 : hg_al 32 17184 = true := by decide +kernel
theorem hf_c16_26 : hg_al 32 17216 = true := by decide +kernel
theorem hf_c16_27 : hg_al 32 17248 = true := by decide +kernel
theorem hf_c16_28 : hg_al 32 17280 = true := by decide +kernel
theorem hf_c16_29 : hg_al 32 17312 = true := by decide +kernel
theorem hf_c16_30 : hg_al 32 17344 = true := by decide +kernel
theorem hf_c16_31 : hg_al 32 17376 = true := by decide +kernel
theorem hf_c16 {p : Nat} (h : 16384 ≤ p) (h2 : p < 17408) (h3 : p < 31744) : hf_ck p = true := by
  rcases Nat.lt_or_ge p 16416 with z0 | z0
  · exact hg_al_get 32 16384 p hf_c16_0 h z0 h3
  rcases Nat.lt_or_ge p 16448 with z1 | z1
  · exact hg_al_get 32 16416 p hf_c16_1 z0 z1 h3
  rcases Nat.lt_or_ge p 16480 with z2 | z2
  · exact hg_al_get 32 16448 p hf_c16_2 z1 z2 h3
  rcases Nat.lt_or_ge p 16512 with z3 | z3
  · exact hg_al_get 32 16480 p hf_c16_3 z2 z3 h3
  rcases Nat.lt_or_ge p 16544 with z4 | z4
  · exact hg_al_get 32 16512 p hf_c16_4 z3 z4 h3
  rcases Nat.lt_or_ge p 16576 with z5 | z5
  · exact hg_al_get 32 16544 p hf_c16_5 z4 z5 h3
  rcases Nat.lt_or_ge p 16608 with z6 | z6
  · exact hg_al_get 32 16576 p hf_c16_6 z5 z6 h3
  rcases Nat.lt_or_ge p 16640 with z7 | z7
  · exact hg_al_get 32 16608 p hf_c16_7 z6 z7 h3
  rcases Nat.lt_or_ge p 16672 with z8 | z8
  · exact hg_al_get 32 16640 p hf_c16_8 z7 z8 h3
  rcases Nat.lt_or_ge p 16704 with z9 | z9
  · exact hg_al_get 32 16672 p hf_c16_9 z8 z9 h3
  rcases Nat.lt_or_ge p 16736 with z10 | z10
  · exact hg_al_get 32 16704 p hf_c16_10 z9 z10 h3
  rcases Nat.lt_or_ge p 16768 with z11 | z11
  · exact hg_al_get 32 16736 p hf_c16_11 z10 z11 h3
  rcases Nat.lt_or_ge p 16800 with z12 | z12
  · exact hg_al_get 32 16768 p hf_c16_12 z11 z12 h3
  rcases Nat.lt_or_ge p 16832 with z13 | z13
  · exact hg_al_get 32 16800 p hf_c16_13 z12 z13 h3
  rcases Nat.lt_or_ge p 16864 with z14 | z14
  · exact hg_al_get 32 16832 p hf_c16_14 z13 z14 h3
  rcases Nat.lt_or_ge p 16896 with z15 | z15
  · exact hg_al_get 32 16864 p hf_c16_15 z14 z15 h3
  rcases Nat.lt_or_ge p 16928 with z16 | z16
  · exact hg_al_get 32 16896 p hf_c16_16 z15 z16 h3
  rcases Nat.lt_or_ge p 16960 with z17 | z17
  · exact hg_al_get 32 16928 p hf_c16_17 z16 z17 h3
  rcases Nat.lt_or_ge p 16992 with z18 | z18
  · exact hg_al_get 32 16960 p hf_c16_18 z17 z18 h3
  rcases Nat.lt_or_ge p 17024 with z19 | z19
  · exact hg_al_get 32 16992 p hf_c16_19 z18 z19 h3
  rcases Nat.lt_or_ge p 17056 with z20 | z20
  · exact hg_al_get 32 17024 p hf_c16_20 z19 z20 h3
  rcases Nat.lt_or_ge p 17088 with z21 | z21
  · exact hg_al_get 32 17056 p hf_c16_21 z20 z21 h3
  rcases Nat.lt_or_ge p 17120 with z22 | z22
  · exact hg_al_get 32 17088 p hf_c16_22 z21 z22 h3
  rcases Nat.lt_or_ge p 17152 with z23 | z23
  · exact hg_al_get 32 17120 p hf_c16_23 z22 z23 h3
  rcases Nat.lt_or_ge p 17184 with z24 | z24
  · exact hg_al_get 32 17152 p hf_c16_24 z23 z24 h3
  rcases Nat.lt_or_ge p 17216 with z25 | z25
  · exact hg_al_get 32 17184 p hf_c16_25 z24 z25 h3
  rcases Nat.lt_or_ge p 17248 with z26 | z26
  · exact hg_al_get 32 17216 p hf_c16_26 z25 z26 h3
  rcases Nat.lt_or_ge p 17280 with z27 | z27
  · exact hg_al_get 32 17248 p hf_c16_27 z26 z27 h3
  rcases Nat.lt_or_ge p 17312 with z28 | z28
  · exact hg_al_get 32 17280 p hf_c16_28 z27 z28 h3
  rcases Nat.lt_or_ge p 17344 with z29 | z29
  · exact hg_al_get 32 17312 p hf_c16_29 z28 z29 h3
  rcases Nat.lt_or_ge p 17376 with z30 | z30
  · exact hg_al_get 32 17344 p hf_c16_30 z29 z30 h3
  exact hg_al_get 32 17376 p hf_c16_31 z30 h2 h3
theorem hf_c17_0 : hg_al 32 17408 = true := by decide +kernel
theorem hf_c17_1 : hg_al 32 17440 = true := by decide +kernel
theorem hf_c17_2 : hg_al 32 17472 = true := by decide +kernel
theorem hf_c17_3 : hg_al 32 17504 = true := by decide +kernel
theorem hf_c17_4 : hg_al 32 17536 = true := by decide +kernel
theorem hf_c17_5 : hg_al 32 17568 = true := by decide +kernel
theorem hf_c17_6 : hg_al 32 17600 = true := by decide +kernel
theorem hf_c17_7 : hg_al 32 17632 = true := by decide +kernel
theorem hf_c17_8 : hg_al 32 17664 = true := by decide +kernel
theorem hf_c17_9 : hg_al 32 17696 = true := by decide +kernel
theorem hf_c17_10 : hg_al 32 17728 = true := by decide +kernel
theorem hf_c17_11 : hg_al 32 17760 = true := by decide +kernel
theorem hf_c17_12 : hg_al 32 17792 = true := by decide +kernel
theorem hf_c17_13 : hg_al 32 17824 = true := by decide +kernel
theorem hf_c17_14 : hg_al 32 17856 = true := by decide +kernel
theorem hf_c17_15 : hg_al 32 17888 = true := by decide +kernel
theorem hf_c17_16 : hg_al 32 17920 = true := by decide +kernel
theorem hf_c17_17 : hg_al 32 17952 = true := by decide +kernel
theorem hf_c17_18 : hg_al 32 17984 = true := by decide +kernel
theorem hf_c17_19 : hg_al 32 18016 = true := by decide +kernel
theorem hf_c17_20 : hg_al 32 18048 = true := by decide +kernel
theorem hf_c17_21 : hg_al 32 18080 = true := by decide +kernel
theorem hf_c17_22 : hg_al 32 18112 = true := by decide +kernel
theorem hf_c17_23 : hg_al 32 18144 = true := by decide +kernel
theorem hf_c17_24 : hg_al 32 18176 = true := by decide +kernel
theorem hf_c17_25 : hg_al 32 18208 = true := by decide +kernel
theorem hf_c17_26 : hg_al 32 18240 = true := by decide +kernel
theorem hf_c17_27 : hg_al 32 18272 = true := by decide +kernel
theorem hf_c17_28 : hg_al 32 18304 = true := by decide +kernel
theorem hf_c17_29 : hg_al 32 18336 = true := by decide +kernel
theorem hf_c17_30 : hg_al 32 18368 = true := by decide +kernel
theorem hf_c17_31 : hg_al 32 18400 = true := by decide +kernel
theorem hf_c17 {p : Nat} (h : 17408 ≤ p) (h2 : p < 18432) (h3 : p < 31744) : hf_ck p = true := by
  rcases Nat.lt_or_ge p 17440 with z0 | z0
  · exact hg_al_get 32 17408 p hf_c17_0 h z0 h3
  rcases Nat.lt_or_ge p 17472 with z1 | z1
  · exact hg_al_get 32 17440 p hf_c17_1 z0 z1 h3
  rcases Nat.lt_or_ge p 17504 with z2 | z2
  · exact hg_al_get 32 17472 p hf_c17_2 z1 z2 h3
  rcases Nat.lt_or_ge p 17536 with z3 | z3
  · exact hg_al_get 32 17504 p hf_c17_3 z2 z3 h3
  rcases Nat.lt_or_ge p 17568 with z4 | z4
  · exact hg_al_get 32 17536 p hf_c17_4 z3 z4 h3
  rcases Nat.lt_or_ge p 17600 with z5 | z5
  · exact hg_al_get 32 17568 p hf_c17_5 z4 z5 h3
  rcases Nat.lt_or_ge p 17632 with z6 | z6
  · exact hg_al_get 32 17600 p hf_c17_6 z5 z6 h3
  rcases Nat.lt_or_ge p 17664 with z7 | z7
  · exact hg_al_get 32 17632 p hf_c17_7 z6 z7 h3
  rcases Nat.lt_or_ge p 17696 with z8 | z8
  · exact hg_al_get 32 17664 p hf_c17_8 z7 z8 h3
  rcases Nat.lt_or_ge p 17728 with z9 | z9
  · exact hg_al_get 32 17696 p hf_c17_9 z8 z9 h3
  rcases Nat.lt_or_ge p 17760 with z10 | z10
  · exact hg_al_get 32 17728 p hf_c17_10 z9 z10 h3
  rcases Nat.lt_or_ge p 17792 with z11 | z11
  · exact hg_al_get 32 17760 p hf_c17_11 z10 z11 h3
  rcases Nat.lt_or_ge p 17824 with z12 | z12
  · exact hg_al_get 32 17792 p hf_c17_12 z11 z12 h3
  rcases Nat.lt_or_ge p 17856 with z13 | z13
  · exact hg_al_get 32 17824 p hf_c17_13 z12 z13 h3
  rcases Nat.lt_or_ge p 17888 with z14 | z14
  · exact hg_al_get 32 17856 p hf_c17_14 z13 z14 h3
  rcases Nat.lt_or_ge p 17920 with z15 | z15
  · exact hg_al_get 32 17888 p hf_c17_15 z14 z15 h3
  rcases Nat.lt_or_ge p 17952 with z16 | z16
  · exact hg_al_get 32 17920 p hf_c17_16 z15 z16 h3
  rcases Nat.lt_or_ge p 17984 with z17 | z17
  · exact hg_al_get 32 17952 p hf_c17_17 z16 z17 h3
  rcases Nat.lt_or_ge p 18016 with z18 | z18
  · exact hg_al_get 32 17984 p hf_c17_18 z17 z18 h3
  rcases Nat.lt_or_ge p 18048 with z19 | z19
  · exact hg_al_get 32 18016 p hf_c17_19 z18 z19 h3
  rcases Nat.lt_or_ge p 18080 with z20 | z20
  · exact hg_al_get 32 18048 p hf_c17_20 z19 z20 h3
  rcases Nat.lt_or_ge p 18112 with z21 | z21
  · exact hg_al_get 32 18080 p hf_c17_21 z20 z21 h3
  rcases Nat.lt_or_ge p 18144 with z22 | z22
  · exact hg_al_get 32 18112 p hf_c17_22 z21 z22 h3
  rcases Nat.lt_or_ge p 18176 with z23 | z23
  · exact hg_al_get 32 18144 p hf_c17_23 z22 z23 h3
  rcases Nat.lt_or_ge p 18208 with z24 | z24
  · exact hg_al_get 32 18176 p hf_c17_24 z23 z24 h3
  rcases Nat.lt_or_ge p 18240 with z25 | z25
  · exact hg_al_get 32 18208 p hf_c17_25 z24 z25 h3
  rcases Nat.lt_or_ge p 18272 with z26 | z26
  · exact hg_al_get 32 18240 p hf_c17_26 z25 z26 h3
  rcases Nat.lt_or_ge p 18304 with z27 | z27
  · exact hg_al_get 32 18272 p hf_c17_27 z26 z27 h3
  rcases Nat.lt_or_ge p 18336 with z28 | z28
  · exact hg_al_get 32 18304 p hf_c17_28 z27 z28 h3
  rcases Nat.lt_or_ge p 18368 with z29 | z29
  · exact hg_al_get 32 18336 p hf_c17_29 z28 z29 h3
  rcases Nat.lt_or_ge p 18400 with z30 | z30
  · exact hg_al_get 32 18368 p hf_c17_30 z29 z30 h3
  exact hg_al_get 32 18400 p hf_c17_31 z30 h2 h3
theorem hf_c18_0 : hg_al 32 18432 = true := by decide +kernel
theorem hf_c18_1 : hg_al 32 18464 = true := by decide +kernel
theorem hf_c18_2 : hg_al 32 18496 = true := by decide +kernel
theorem hf_c18_3 : hg_al 32 18528 = true := by decide +kernel
theorem hf_c18_4 : hg_al 32 18560 = true := by decide +kernel
theorem hf_c18_5 : hg_al 32 18592 = true := by decide +kernel
theorem hf_c18_6 : hg_al 32 18624 = true := by decide +kernel
theorem hf_c18_7 : hg_al 32 18656 = true := by decide +kernel
theorem hf_c18_8 : hg_al 32 18688 = true := by decide +kernel
theorem hf_c18_9 : hg_al 32 18720 = true := by decide +kernel
theorem hf_c18_10 : hg_al 32 18752 = true := by decide +kernel
theorem hf_c18_11 : hg_al 32 18784 = true := by decide +kernel
theorem hf_c18_12 : hg_al 32 18816 = true := by decide +kernel
theorem hf_c18_13 : hg_al 32 18848 = true := by decide +kernel
theorem hf_c18_14 : hg_al 32 18880 = true := by decide +kernel
theorem hf_c18_15 : hg_al 32 18912 = true := by decide +kernel
theorem hf_c18_16 : hg_al 32 18944 = true := by decide +kernel
theorem hf_c18_17 : hg_al 32 18976 = true := by decide +kernel
theorem hf_c18_18 : hg_al 32 19008 = true := by decide +kernel
theorem hf_c18_19 : hg_al 32 19040 = true := by decide +kernel
theorem hf_c18_20 : hg_al 32 19072 = true := by decide +kernel
theorem hf_c18_21 : hg_al 32 19104 = true := by decide +kernel
theorem hf_c18_22 : hg_al 32 19136 = true := by decide +kernel
theorem hf_c18_23 : hg_al 32 19168 = true := by decide +kernel
theorem hf_c18_24 : hg_al 32 19200 = true := by decide +kernel
theorem hf_c18_25 : hg_al 32 19232 = true := by decide +kernel
theorem hf_c18_26 : hg_al 32 19264 = true := by decide +kernel
theorem hf_c18_27 : hg_al 32 19296 = true := by decide +kernel
theorem hf_c18_28 : hg_al 32 19328 = true := by decide +kernel
theorem hf_c18_29 : hg_al 32 19360 = true := by decide +kernel
theorem hf_c18_30 : hg_al 32 19392 = true := by decide +kernel
theorem hf_c18_31 : hg_al 32 19424 = true := by decide +kernel
theorem hf_c18 {p : Nat} (h : 18432 ≤ p) (h2 : p < 19456) (h3 : p < 31744) : hf_ck p = true := by
  rcases Nat.lt_or_ge p 18464 with z0 | z0
  · exact hg_al_get 32 18432 p hf_c18_0 h z0 h3
  rcases Nat.lt_or_ge p 18496 with z1 | z1
  · exact hg_al_get 32 18464 p hf_c18_1 z0 z1 h3
  rcases Nat.lt_or_ge p 18528 with z2 | z2
  · exact hg_al_get 32 18496 p hf_c18_2 z1 z2 h3
  rcases Nat.lt_or_ge p 18560 with z3 | z3
  · exact hg_al_get 32 18528 p hf_c18_3 z2 z3 h3
  rcases Nat.lt_or_ge p 18592 with z4 | z4
  · exact hg_al_get 32 18560 p hf_c18_4 z3 z4 h3
  rcases Nat.lt_or_ge p 18624 with z5 | z5
  · exact hg_al_get 32 18592 p hf_c18_5 z4 z5 h3
  rcases Nat.lt_or_ge p 18656 with z6 | z6
  · exact hg_al_get 32 18624 p hf_c18_6 z5 z6 h3
  rcases Nat.lt_or_ge p 18688 with z7 | z7
  · exact hg_al_get 32 18656 p hf_c18_7 z6 z7 h3
  rcases Nat.lt_or_ge p 18720 with z8 | z8
  · exact hg_al_get 32 18688 p hf_c18_8 z7 z8 h3
  rcases Nat.lt_or_ge p 18752 with z9 | z9
  · exact hg_al_get 32 18720 p hf_c18_9 z8 z9 h3
  rcases Nat.lt_or_ge p 18784 with z10 | z10
  · exact hg_al_get 32 18752 p hf_c18_10 z9 z10 h3
  rcases Nat.lt_or_ge p 18816 with z11 | z11
  · exact hg_al_get 32 18784 p hf_c18_11 z10 z11 h3
  rcases Nat.lt_or_ge p 18848 with z12 | z12
  · exact hg_al_get 32 18816 p hf_c18_12 z11 z12 h3
  rcases Nat.lt_or_ge p 18880 with z13 | z13
  · exact hg_al_get 32 18848 p hf_c18_13 z12 z13 h3
  rcases Nat.lt_or_ge p 18912 with z14 | z14
  · exact hg_al_get 32 18880 p hf_c18_14 z13 z14 h3
  rcases Nat.lt_or_ge p 18944 with z15 | z15
  · exact hg_al_get 32 18912 p hf_c18_15 z14 z15 h3
  rcases Nat.lt_or_ge p 18976 with z16 | z16
  · exact hg_al_get 32 18944 p hf_c18_16 z15 z16 h3
  rcases Nat.lt_or_ge p 19008 with z17 | z17
  · exact hg_al_get 32 18976 p hf_c18_17 z16 z17 h3
  rcases Nat.lt_or_ge p 19040 with z18 | z18
  · exact hg_al_get 32 19008 p hf_c18_18 z17 z18 h3
  rcases Nat.lt_or_ge p 19072 with z19 | z19
  · exact hg_al_get 32 19040 p hf_c18_19 z18 z19 h3
  rcases Nat.lt_or_ge p 19104 with z20 | z20
  · exact hg_al_get 32 19072 p hf_c18_20 z19 z20 h3
  rcases Nat.lt_or_ge p 19136 with z21 | z21
  · exact hg_al_get 32 19104 p hf_c18_21 z20 z21 h3
  rcases Nat.lt_or_ge p 19168 with z22 | z22
  · exact hg_al_get 32 19136 p hf_c18_22 z21 z22 h3
  rcases Nat.lt_or_ge p 19200 with z23 | z23
  · exact hg_al_get 32 19168 p hf_c18_23 z22 z23 h3
  rcases Nat.lt_or_ge p 19232 with z24 | z24
  · exact hg_al_get 32 19200 p hf_c18_24 z23 z24 h3
  rcases Nat.lt_or_ge p 19264 with z25 | z25
  · exact hg_al_get 32 19232 p hf_c18_25 z24 z25 h3
  rcases Nat.lt_or_ge p 19296 with z26 | z26
  · exact hg_al_get 32 19264 p hf_c18_26 z25 z26 h3
  rcases Nat.lt_or_ge p 19328 with z27 | z27
  · exact hg_al_get 32 19296 p hf_c18_27 z26 z27 h3
  rcases Nat.lt_or_ge p 19360 with z28 | z28
  · exact hg_al_get 32 19328 p hf_c18_28 z27 z28 h3
  rcases Nat.lt_or_ge p 19392 with z29 | z29
  · exact hg_al_get 32 19360 p hf_c18_29 z28 z29 h3
  rcases Nat.lt_or_ge p 19424 with z30 | z30
  · exact hg_al_get 32 19392 p hf_c18_30 z29 z30 h3
  exact hg_al_get 32 19424 p hf_c18_31 z30 h2 h3
theorem hf_c19_0 : hg_al 32 19456 = true := by decide +kernel
theorem hf_c19_1 : hg_al 32 19488 = true := by decide +kernel
theorem hf_c19_2 : hg_al 32 19520 = true := by decide +kernel
theorem hf_c19_3 : hg_al 32 19552 = true := by decide +kernel
theorem hf_c19_4 : hg_al 32 19584 = true := by decide +kernel
theorem hf_c19_5 : hg_al 32 19616 = true := by decide +kernel
theorem hf_c19_6 : hg_al 32 19648 = true := by decide +kernel
theorem hf_c19_7 : hg_al 32 19680 = true := by decide +kernel
theorem hf_c19_8 : hg_al 32 19712 = true := by decide +kernel
theorem hf_c19_9 : hg_al 32 19744 = true := by decide +kernel
theorem hf_c19_10 : hg_al 32 19776 = true := by decide +kernel
theorem hf_c19_11 : hg_al 32 19808 = true := by decide +kernel
theorem hf_c19_12 : hg_al 32 19840 = true := by decide +kernel
theorem hf_c19_13 : hg_al 32 19872 = true := by decide +kernel
theorem hf_c19_14 : hg_al 32 19904 = true := by decide +kernel
theorem hf_c19_15 : hg_al 32 19936 = true := by decide +kernel
theorem hf_c19_16 : hg_al 32 19968 = true := by decide +kernel
theorem hf_c19_17 : hg_al 32 20000 = true := by decide +kernel
theorem hf_c19_18 : hg_al 32 20032 = true := by decide +kernel
theorem hf_c19_19 : hg_al 32 20064 = true := by decide +kernel
theorem hf_c19_20 : hg_al 32 20096 = true := by decide +kernel
theorem hf_c19_21 : hg_al 32 20128 = true := by decide +kernel
theorem hf_c19_22 : hg_al 32 20160 = true := by decide +kernel
theorem hf_c19_23 : hg_al 32 20192 = true := by decide +kernel
theorem hf_c19_24 : hg_al 32 20224 = true := by decide +kernel
theorem hf_c19_25 : hg_al 32 20256 = true := by decide +kernel
theorem hf_c19_26 : hg_al 32 20288 = true := by decide +kernel
theorem hf_c19_27 : hg_al 32 20320 = true := by decide +kernel
theorem hf_c19_28 : hg_al 32 20352 = true := by decide +kernel
theorem hf_c19_29 : hg_al 32 20384 = true := by decide +kernel
theorem hf_c19_30 : hg_al 32 20416 = true := by decide +kernel
theorem hf_c19_31 : hg_al 32 20448 = true := by decide +kernel
theorem hf_c19 {p : Nat} (h : 19456 ≤ p) (h2 : p < 20480) (h3 : p < 31744) : hf_ck p = true := by
  rcases Nat.lt_or_ge p 19488 with z0 | z0
  · exact hg_al_get 32 19456 p hf_c19_0 h z0 h3
  rcases Nat.lt_or_ge p 19520 with z1 | z1
  · exact hg_al_get 32 19488 p hf_c19_1 z0 z1 h3
  rcases Nat.lt_or_ge p 19552 with z2 | z2
  · exact hg_al_get 32 19520 p hf_c19_2 z1 z2 h3
  rcases Nat.lt_or_ge p 19584 with z3 | z3
  · exact hg_al_get 32 19552 p hf_c19_3 z2 z3 h3
  rcases Nat.lt_or_ge p 19616 with z4 | z4
  · exact hg_al_get 32 19584 p hf_c19_4 z3 z4 h3
  rcases Nat.lt_or_ge p 19648 with z5 | z5
  · exact hg_al_get 32 19616 p hf_c19_5 z4 z5 h3
  rcases Nat.lt_or_ge p 19680 with z6 | z6
  · exact hg_al_get 32 19648 p hf_c19_6 z5 z6 h3
  rcases Nat.lt_or_ge p 19712 with z7 | z7
  · exact hg_al_get 32 19680 p hf_c19_7 z6 z7 h3
  rcases Nat.lt_or_ge p 19744 with z8 | z8
  · exact hg_al_get 32 19712 p hf_c19_8 z7 z8 h3
  rcases Nat.lt_or_ge p 19776 with z9 | z9
  · exact hg_al_get 32 19744 p hf_c19_9 z8 z9 h3
  rcases Nat.lt_or_ge p 19808 with z10 | z10
  · exact hg_al_get 32 19776 p hf_c19_10 z9 z10 h3
  rcases Nat.lt_or_ge p 19840 with z11 | z11
  · exact hg_al_get 32 19808 p hf_c19_11 z10 z11 h3
  rcases Nat.lt_or_ge p 19872 with z12 | z12
  · exact hg_al_get 32 19840 p hf_c19_12 z11 z12 h3
  rcases Nat.lt_or_ge p 19904 with z13 | z13
  · exact hg_al_get 32 19872 p hf_c19_13 z12 z13 h3
  rcases Nat.lt_or_ge p 19936 with z14 | z14
  · exact hg_al_get 32 19904 p hf_c19_14 z13 z14 h3
  rcases Nat.lt_or_ge p 19968 with z15 | z15
  · exact hg_al_get 32 19936 p hf_c19_15 z14 z15 h3
  rcases Nat.lt_or_ge p 20000 with z16 | z16
  · exact hg_al_get 32 19968 p hf_c19_16 z15 z16 h3
  rcases Nat.lt_or_ge p 20032 with z17 | z17
  · exact hg_al_get 32 20000 p hf_c19_17 z16 z17 h3
  rcases Nat.lt_or_ge p 20064 with z18 | z18
  · exact hg_al_get 32 20032 p hf_c19_18 z17 z18 h3
  rcases Nat.lt_or_ge p 20096 with z19 | z19
  · exact hg_al_get 32 20064 p hf_c19_19 z18 z19 h3
  rcases Nat.lt_or_ge p 20128 with z20 | z20
  · exact hg_al_get 32 20096 p hf_c19_20 z19 z20 h3
  rcases Nat.lt_or_ge p 20160 with z21 | z21
  · exact hg_al_get 32 20128 p hf_c19_21 z20 z21 h3
  rcases Nat.lt_or_ge p 20192 with z22 | z22
  · exact hg_al_get 32 20160 p hf_c19_22 z21 z22 h3
  rcases Nat.lt_or_ge p 20224 with z23 | z23
  · exact hg_al_get 32 20192 p hf_c19_23 z22 z23 h3
  rcases Nat.lt_or_ge p 20256 with z24 | z24
  · exact hg_al_get 32 20224 p hf_c19_24 z23 z24 h3
  rcases Nat.lt_or_ge p 20288 with z25 | z25
  · exact hg_al_get 32 20256 p hf_c19_25 z24 z25 h3
  rcases Nat.lt_or_ge p 20320 with z26 | z26
  · exact hg_al_get 32 20288 p hf_c19_26 z25 z26 h3
  rcases Nat.lt_or_ge p 20352 with z27 | z27
  · exact hg_al_get 32 20320 p hf_c19_27 z26 z27 h3
  rcases Nat.lt_or_ge p 20384 with z28 | z28
  · exact hg_al_get 32 20352 p hf_c19_28 z27 z28 h3
  rcases Nat.lt_or_ge p 20416 with z29 | z29
  · exact hg_al_get 32 20384 p hf_c19_29 z28 z29 h3
  rcases Nat.lt_or_ge p 20448 with z30 | z30
  · exact hg_al_get 32 20416 p hf_c19_30 z29 z30 h3
  exact hg_al_get 32 20448 p hf_c19_31 z30 h2 h3
theorem hf_c20_0 : hg_al 32 20480 = true := by decide +kernel
theorem hf_c20_1 : hg_al 32 20512 = true := by decide +kernel
theorem hf_c20_2 : hg_al 32 20544 = true := by decide +kernel
theorem hf_c20_3 : hg_al 32 20576 = true := by decide +kernel
theorem hf_c20_4 : hg_al 32 20608 = true := by decide +kernel
theorem hf_c20_5 : hg_al 32 20640 = true := by decide +kernel
theorem hf_c20_6 : hg_al 32 20672 = true := by decide +kernel
theorem hf_c20_7 : hg_al 32 20704 = true := by decide +kernel
theorem hf_c20_8 : hg_al 32 20736 = true := by decide +kernel
theorem hf_c20_9 : hg_al 32 20768 = true := by decide +kernel
theorem hf_c20_10 : hg_al 32 20800 = true := by decide +kernel
theorem hf_c20_11 : hg_al 32 20832 = true := by decide +kernel
theorem hf_c20_12 : hg_al 32 20864 = true := by decide +kernel
theorem hf_c20_13 : hg_al 32 20896 = true := by decide +kernel
theorem hf_c20_14 : hg_al 32 20928 = true := by decide +kernel
theorem hf_c20_15 : hg_al 32 20960 = true := by decide +kernel
theorem hf_c20_16 : hg_al 32 20992 = true := by decide +kernel
theorem hf_c20_17 : hg_al 32 21024 = true := by decide +kernel
theorem hf_c20_18 : hg_al 32 21056 = true := by decide +kernel
theorem hf_c20_19 : hg_al 32 21088 = true := by decide +kernel
theorem hf_c20_20 : hg_al 32 21120 = true := by decide +kernel
theorem hf_c20_21 : hg_al 32 21152 = true := by decide +kernel
theorem hf_c20_22 : hg_al 32 21184 = true := by decide +kernel
theorem hf_c20_23 : hg_al 32 21216 = true := by decide +kernel
theorem hf_c20_24 : hg_al 32 21248 = true := by decide +kernel
theorem hf_c20_25 : hg_al 32 21280 = true := by decide +kernel
theorem hf_c20_26 : hg_al 32 21312 = true := by decide +kernel
theorem hf_c20_27 : hg_al 32 21344 = true := by decide +kernel
theorem hf_c20_28 : hg_al 32 21376 = true := by decide +kernel
theorem hf_c20_29 : hg_al 32 21408 = true := by decide +kernel
theorem hf_c20_30 : hg_al 32 21440 = true := by decide +kernel
theorem hf_c20_31 : hg_al 32 21472 = true := by decide +kernel
theorem hf_c20 {p : Nat} (h : 20480 ≤ p) (h2 : p < 21504) (h3 : p < 31744) : hf_ck p = true := by
  rcases Nat.lt_or_ge p 20512 with z0 | z0
  · exact hg_al_get 32 20480 p hf_c20_0 h z0 h3
  rcases Nat.lt_or_ge p 20544 with z1 | z1
  · exact hg_al_get 32 20512 p hf_c20_1 z0 z1 h3
  rcases Nat.lt_or_ge p 20576 with z2 | z2
  · exact hg_al_get 32 20544 p hf_c20_2 z1 z2 h3
  rcases Nat.lt_or_ge p 20608 with z3 | z3
  · exact hg_al_get 32 20576 p hf_c20_3 z2 z3 h3
  rcases Nat.lt_or_ge p 20640 with z4 | z4
  · exact hg_al_get 32 20608 p hf_c20_4 z3 z4 h3
  rcases Nat.lt_or_ge p 20672 with z5 | z5
  · exact hg_al_get 32 20640 p hf_c20_5 z4 z5 h3
  rcases Nat.lt_or_ge p 20704 with z6 | z6
  · exact hg_al_get 32 20672 p hf_c20_6 z5 z6 h3
  rcases Nat.lt_or_ge p 20736 with z7 | z7
  · exact hg_al_get 32 20704 p hf_c20_7 z6 z7 h3
  rcases Nat.lt_or_ge p 20768 with z8 | z8
  · exact hg_al_get 32 20736 p hf_c20_8 z7 z8 h3
  rcases Nat.lt_or_ge p 20800 with z9 | z9
  · exact hg_al_get 32 20768 p hf_c20_9 z8 z9 h3
  rcases Nat.lt_or_ge p 20832 with z10 | z10
  · exact hg_al_get 32 20800 p hf_c20_10 z9 z10 h3
  rcases Nat.lt_or_ge p 20864 with z11 | z11
  · exact hg_al_get 32 20832 p hf_c20_11 z10 z11 h3
  rcases Nat.lt_or_ge p 20896 with z12 | z12
  · exact hg_al_get 32 20864 p hf_c20_12 z11 z12 h3
  rcases Nat.lt_or_ge p 20928 with z13 | z13
  · exact hg_al_get 32 20896 p hf_c20_13 z12 z13 h3
  rcases Nat.lt_or_ge p 20960 with z14 | z14
  · exact hg_al_get 32 20928 p hf_c20_14 z13 z14 h3
  rcases Nat.lt_or_ge p 20992 with z15 | z15
  · exact hg_al_get 32 20960 p hf_c20_15 z14 z15 h3
  rcases Nat.lt_or_ge p 21024 with z16 | z16
  · exact hg_al_get 32 20992 p hf_c20_16 z15 z16 h3
  rcases Nat.lt_or_ge p 21056 with z17 | z17
  · exact hg_al_get 32 21024 p hf_c20_17 z16 z17 h3
  rcases Nat.lt_or_ge p 21088 with z18 | z18
  · exact hg_al_get 32 21056 p hf_c20_18 z17 z18 h3
  rcases Nat.lt_or_ge p 21120 with z19 | z19
  · exact hg_al_get 32 21088 p hf_c20_19 z18 z19 h3
  rcases Nat.lt_or_ge p 21152 with z20 | z20
  · exact hg_al_get 32 21120 p hf_c20_20 z19 z20 h3
  rcases Nat.lt_or_ge p 21184 with z21 | z21
  · exact hg_al_get 32 21152 p hf_c20_21 z20 z21 h3
  rcases Nat.lt_or_ge p 21216 with z22 | z22
  · exact hg_al_get 32 21184 p hf_c20_22 z21 z22 h3
  rcases Nat.lt_or_ge p 21248 with z23 | z23
  · exact hg_al_get 32 21216 p hf_c20_23 z22 z23 h3
  rcases Nat.lt_or_ge p 21280 with z24 | z24
  · exact hg_al_get 32 21248 p hf_c20_24 z23 z24 h3
  rcases Nat.lt_or_ge p 21312 with z25 | z25
  · exact hg_al_get 32 21280 p hf_c20_25 z24 z25 h3
  rcases Nat.lt_or_ge p 21344 with z26 | z26
  · exact hg_al_get 32 21312 p hf_c20_26 z25 z26 h3
  rcases Nat.lt_or_ge p 21376 with z27 | z27
  · exact hg_al_get 32 21344 p hf_c20_27 z26 z27 h3
  rcases Nat.lt_or_ge p 21408 with z28 | z28
  · exact hg_al_get 32 21376 p hf_c20_28 z27 z28 h3
  rcases Nat.lt_or_ge p 21440 with z29 | z29
  · exact hg_al_get 32 21408 p hf_c20_29 z28 z29 h3
  rcases Nat.lt_or_ge p 21472 with z30 | z30
  · exact hg_al_get 32 21440 p hf_c20_30 z29 z30 h3
  exact hg_al_get 32 21472 p hf_c20_31 z30 h2 h3
theorem hf_c21_0 : hg_al 32 21504 = true := by decide +kernel
theorem hf_c21_1 : hg_al 32 21536 = true := by decide +kernel
theorem hf_c21_2 : hg_al 32 21568 = true := by decide +kernel
theorem hf_c21_3 : hg_al 32 21600 = true := by decide +kernel
theorem hf_c21_4 : hg_al 32 21632 = true := by decide +kernel
theorem hf_c21_5 : hg_al 32 21664 = true := by decide +kernel
theorem hf_c21_6 : hg_al 32 21696 = true := by decide +kernel
theorem hf_c21_7 : hg_al 32 21728 = true := by decide +kernel
theorem hf_c21_8 : hg_al 32 21760 = true := by decide +kernel
theorem hf_c21_9 : hg_al 32 21792 = true := by decide +kernel
theorem hf_c21_10 : hg_al 32 21824 = true := by decide +kernel
theorem hf_c21_11 : hg_al 32 21856 = true := by decide +kernel
theorem hf_c21_12 : hg_al 32 21888 = true := by decide +kernel
theorem hf_c21_13 : hg_al 32 21920 = true := by decide +kernel
theorem hf_c21_14 : hg_al 32 21952 = true := by decide +kernel
theorem hf_c21_15 : hg_al 32 21984 = true := by decide +kernel
theorem hf_c21_16 : hg_al 32 22016 = true := by decide +kernel
theorem hf_c21_17 : hg_al 32 22048 = true := by decide +kernel
theorem hf_c21_18 : hg_al 32 22080 = true := by decide +kernel
theorem hf_c21_19 : hg_al 32 22112 = true := by decide +kernel
theorem hf_c21_20 : hg_al 32 22144 = true := by decide +kernel
theorem hf_c21_21 : hg_al 32 22176 = true := by decide +kernel
theorem hf_c21_22 : hg_al 32 22208 = true := by decide +kernel
theorem hf_c21_23 : hg_al 32 22240 = true := by decide +kernel
theorem hf_c21_24 : hg_al 32 22272 = true := by decide +kernel
theorem hf_c21_25 : hg_al 32 22304 = true := by decide +kernel
theorem hf_c21_26 : hg_al 32 22336 = true := by decide +kernel
theorem hf_c21_27 : hg_al 32 22368 = true := by decide +kernel
theorem hf_c21_28 : hg_al 32 22400 = true := by decide +kernel
theorem hf_c21_29 : hg_al 32 22432 = true := by decide +kernel
theorem hf_c21_30 : hg_al 32 22464 = true := by decide +kernel
theorem hf_c21_31 : hg_al 32 22496 = true := by decide +kernel
theorem hf_c21 {p : Nat} (h : 21504 ≤ p) (h2 : p < 22528) (h3 : p < 31744) : hf_ck p = true := by
  rcases Nat.lt_or_ge p 21536 with z0 | z0
  · exact hg_al_get 32 21504 p hf_c21_0 h z0 h3
  rcases Nat.lt_or_ge p 21568 with z1 | z1
  · exact hg_al_get 32 21536 p hf_c21_1 z0 z1 h3
  rcases Nat.lt_or_ge p 21600 with z2 | z2
  · exact hg_al_get 32 21568 p hf_c21_2 z1 z2 h3
  rcases Nat.lt_or_ge p 21632 with z3 | z3
  · exact hg_al_get 32 21600 p hf_c21_3 z2 z3 h3
  rcases Nat.lt_or_ge p 21664 with z4 | z4
  · exact hg_al_get 32 21632 p hf_c21_4 z3 z4 h3
  rcases Nat.lt_or_ge p 21696 with z5 | z5
  · exact hg_al_get 32 21664 p hf_c21_5 z4 z5 h3
  rcases Nat.lt_or_ge p 21728 with z6 | z6
  · exact hg_al_get 32 21696 p hf_c21_6 z5 z6 h3
  rcases Nat.lt_or_ge p 21760 with z7 | z7
  · exact hg_al_get 32 21728 p hf_c21_7 z6 z7 h3
  rcases Nat.lt_or_ge p 21792 with z8 | z8
  · exact hg_al_get 32 21760 p hf_c21_8 z7 z8 h3
  rcases Nat.lt_or_ge p 21824 with z9 | z9
  · exact hg_al_get 32 21792 p hf_c21_9 z8 z9 h3
  rcases Nat.lt_or_ge p 21856 with z10 | z10
  · exact hg_al_get 32 21824 p hf_c21_10 z9 z10 h3
  rcases Nat.lt_or_ge p 21888 with z11 | z11
  · exact hg_al_get 32 21856 p hf_c21_11 z10 z11 h3
  rcases Nat.lt_or_ge p 21920 with z12 | z12
  · exact hg_al_get 32 21888 p hf_c21_12 z11 z12 h3
  rcases Nat.lt_or_ge p 21952 with z13 | z13
  · exact hg_al_get 32 21920 p hf_c21_13 z12 z13 h3
  rcases Nat.lt_or_ge p 21984 with z14 | z14
  · exact hg_al_get 32 21952 p hf_c21_14 z13 z14 h3
  rcases Nat.lt_or_ge p 22016 with z15 | z15
  · exact hg_al_get 32 21984 p hf_c21_15 z14 z15 h3
  rcases Nat.lt_or_ge p 22048 with z16 | z16
  · exact hg_al_get 32 22016 p hf_c21_16 z15 z16 h3
  rcases Nat.lt_or_ge p 22080 with z17 | z17
  · exact hg_al_get 32 22048 p hf_c21_17 z16 z17 h3
  rcases Nat.lt_or_ge p 22112 with z18 | z18
  · exact hg_al_get 32 22080 p hf_c21_18 z17 z18 h3
  rcases Nat.lt_or_ge p 22144 with z19 | z19
  · exact hg_al_get 32 22112 p hf_c21_19 z18 z19 h3
  rcases Nat.lt_or_ge p 22176 with z20 | z20
  · exact hg_al_get 32 22144 p hf_c21_20 z19 z20 h3
  rcases Nat.lt_or_ge p 22208 with z21 | z21
  · exact hg_al_get 32 22176 p hf_c21_21 z20 z21 h3
  rcases Nat.lt_or_ge p 22240 with z22 | z22
  · exact hg_al_get 32 22208 p hf_c21_22 z21 z22 h3
  rcases Nat.lt_or_ge p 22272 with z23 | z23
  · exact hg_al_get 32 22240 p hf_c21_23 z22 z23 h3
  rcases Nat.lt_or_ge p 22304 with z24 | z24
  · exact hg_al_get 32 22272 p hf_c21_24 z23 z24 h3
  rcases Nat.lt_or_ge p 22336 with z25 | z25
  · exact hg_al_get 32 22304 p hf_c21_25 z24 z25 h3
  rcases Nat.lt_or_ge p 22368 with z26 | z26
  · exact hg_al_get 32 22336 p hf_c21_26 z25 z26 h3
  rcases Nat.lt_or_ge p 22400 with z27 | z27
  · exact hg_al_get 32 22368 p hf_c21_27 z26 z27 h3
  rcases Nat.lt_or_ge p 22432 with z28 | z28
  · exact hg_al_get 32 22400 p hf_c21_28 z27 z28 h3
  rcases Nat.lt_or_ge p 22464 with z29 | z29
  · exact hg_al_get 32 22432 p hf_c21_29 z28 z29 h3
  rcases Nat.lt_or_ge p 22496 with z30 | z30
  · exact hg_al_get 32 22464 p hf_c21_30 z29 z30 h3
  exact hg_al_get 32 22496 p hf_c21_31 z30 h2 h3
theorem hf_c22_0 : hg_al 32 22528 = true := by decide +kernel
theorem hf_c22_1 : hg_al 32 22560 = true := by decide +kernel
theorem hf_c22_2 : hg_al 32 22592 = true := by decide +kernel
theorem hf_c22_3 : hg_al 32 22624 = true := by decide +kernel
theorem hf_c22_4 : hg_al 32 22656 = true := by decide +kernel
theorem hf_c22_5 : hg_al 32 22688 = true := by decide +kernel
theorem hf_c22_6 : hg_al 32 22720 = true := by decide +kernel
theorem hf_c22_7 : hg_al 32 22752 = true := by decide +kernel
theorem hf_c22_8 : hg_al 32 22784 = true := by decide +kernel
theorem hf_c22_9 : hg_al 32 22816 = true := by decide +kernel
theorem hf_c22_10 : hg_al 32 22848 = true := by decide +kernel
theorem hf_c22_11 : hg_al 32 22880 = true := by decide +kernel
theorem hf_c22_12 : hg_al 32 22912 = true := by decide +kernel
theorem hf_c22_13 : hg_al 32 22944 = true := by decide +kernel
theorem hf_c22_14 : hg_al 32 22976 = true := by decide +kernel
theorem hf_c22_15 : hg_al 32 23008 = true := by decide +kernel
theorem hf_c22_16 : hg_al 32 23040 = true := by decide +kernel
theorem hf_c22_17 : hg_al 32 23072 = true := by decide +kernel
theorem hf_c22_18 : hg_al 32 23104 = true := by decide +kernel
theorem hf_c22_19 : hg_al 32 23136 = true := by decide +kernel
theorem hf_c22_20 : hg_al 32 23168 = true := by decide +kernel
theorem hf_c22_21 : hg_al 32 23200 = true := by decide +kernel
theorem hf_c22_22 : hg_al 32 23232 = true := by decide +kernel
theorem hf_c22_23 : hg_al 32 23264 = true := by decide +kernel
theorem hf_c22_24 : hg_al 32 23296 = true := by decide +kernel
theorem hf_c22_25 : hg_al 32 23328 = true := by decide +kernel
theorem hf_c22_26 : hg_al 32 23360 = true := by decide +kernel
theorem hf_c22_27 : hg_al 32 23392 = true := by decide +kernel
theorem hf_c22_28 : hg_al 32 23424 = true := by decide +kernel
theorem hf_c22_29 : hg_al 32 23456 = true := by decide +kernel
theorem hf_c22_30 : hg_al 32 23488 = true := by decide +kernel
theorem hf_c22_31 : hg_al 32 23520 = true := by decide +kernel
theorem hf_c22 {p : Nat} (h : 22528 ≤ p) (h2 : p < 23552) (h3 : p < 31744) : hf_ck p = true := by
  rcases Nat.lt_or_ge p 22560 with z0 | z0
  · exact hg_al_get 32 22528 p hf_c22_0 h z0 h3
  rcases Nat.lt_or_ge p 22592 with z1 | z1
  · exact hg_al_get 32 22560 p hf_c22_1 z0 z1 h3
  rcases Nat.lt_or_ge p 22624 with z2 | z2
  · exact hg_al_get 32 22592 p hf_c22_2 z1 z2 h3
  rcases Nat.lt_or_ge p 22656 with z3 | z3
  · exact hg_al_get 32 22624 p hf_c22_3 z2 z3 h3
  rcases Nat.lt_or_ge p 22688 with z4 | z4
  · exact hg_al_get 32 22656 p hf_c22_4 z3 z4 h3
  rcases Nat.lt_or_ge p 22720 with z5 | z5
  · exact hg_al_get 32 22688 p hf_c22_5 z4 z5 h3
  rcases Nat.lt_or_ge p 22752 with z6 | z6
  · exact hg_al_get 32 22720 p hf_c22_6 z5 z6 h3
  rcases Nat.lt_or_ge p 22784 with z7 | z7
  · exact hg_al_get 32 22752 p hf_c22_7 z6 z7 h3
  rcases Nat.lt_or_ge p 22816 with z8 | z8
  · exact hg_al_get 32 22784 p hf_c22_8 z7 z8 h3
  rcases Nat.lt_or_ge p 22848 with z9 | z9
  · exact hg_al_get 32 22816 p hf_c22_9 z8 z9 h3
  rcases Nat.lt_or_ge p 22880 with z10 | z10
  · exact hg_al_get 32 22848 p hf_c22_10 z9 z10 h3
  rcases Nat.lt_or_ge p 22912 with z11 | z11
  · exact hg_al_get 32 22880 p hf_c22_11 z10 z11 h3
  rcases Nat.lt_or_ge p 22944 with z12 | z12
  · exact hg_al_get 32 22912 p hf_c22_12 z11 z12 h3
  rcases Nat.lt_or_ge p 22976 with z13 | z13
  · exact hg_al_get 32 22944 p hf_c22_13 z12 z13 h3
  rcases Nat.lt_or_ge p 23008 with z14 | z14
  · exact hg_al_get 32 22976 p hf_c22_14 z13 z14 h3
  rcases Nat.lt_or_ge p 23040 with z15 | z15
  · exact hg_al_get 32 23008 p hf_c22_15 z14 z15 h3
  rcases Nat.lt_or_ge p 23072 with z16 | z16
  · exact hg_al_get 32 23040 p hf_c22_16 z15 z16 h3
  rcases Nat.lt_or_ge p 23104 with z17 | z17
  · exact hg_al_get 32 23072 p hf_c22_17 z16 z17 h3
  rcases Nat.lt_or_ge p 23136 with z18 | z18
  · exact hg_al_get 32 23104 p hf_c22_18 z17 z18 h3
  rcases Nat.lt_or_ge p 23168 with z19 | z19
  · exact hg_al_get 32 23136 p hf_c22_19 z18 z19 h3
  rcases Nat.lt_or_ge p 23200 with z20 | z20
  · exact hg_al_get 32 23168 p hf_c22_20 z19 z20 h3
  rcases Nat.lt_or_ge p 23232 with z21 | z21
  · exact hg_al_get 32 23200 p hf_c22_21 z20 z21 h3
  rcases Nat.lt_or_ge p 23264 with z22 | z22
  · exact hg_al_get 32 23232 p hf_c22_22 z21 z22 h3
  rcases Nat.lt_or_ge p 23296 with z23 | z23
  · exact hg_al_get 32 23264 p hf_c22_23 z22 z23 h3
  rcases Nat.lt_or_ge p 23328 with z24 | z24
  · exact hg_al_get 32 23296 p hf_c22_24 z23 z24 h3
  rcases Nat.lt_or_ge p 23360 with z25 | z25
  · exact hg_al_get 32 23328 p hf_c22_25 z24 z25 h3
  rcases Nat.lt_or_ge p 23392 with z26 | z26
  · exact hg_al_get 32 23360 p hf_c22_26 z25 z26 h3
  rcases Nat.lt_or_ge p 23424 with z27 | z27
  · exact hg_al_get 32 23392 p hf_c22_27 z26 z27 h3
  rcases Nat.lt_or_ge p 23456 with z28 | z28
  · exact hg_al_get 32 23424 p hf_c22_28 z27 z28 h3
  rcases Nat.lt_or_ge p 23488 with z29 | z29
  · exact hg_al_get 32 23456 p hf_c22_29 z28 z29 h3
  rcases Nat.lt_or_ge p 23520 with z30 | z30
  · exact hg_al_get 32 23488 p hf_c22_30 z29 z30 h3
  exact hg_al_get 32 23520 p hf_c22_31 z30 h2 h3
theorem hf_c23_0 : hg_al 32 23552 = true := by decide +kernel
theorem hf_c23_1 : hg_al 32 23584 = true := by decide +kernel
theorem hf_c23_2 : hg_al 32 23616 = true := by decide +kernel
theorem hf_c23_3 : hg_al 32 23648 = true := by decide +kernel
theorem hf_c23_4 : hg_al 32 23680 = true := by decide +kernel
theorem hf_c23_5 : hg_al 32 23712 = true := by decide +kernel
theorem hf_c23_6 : hg_al 32 23744 = true := by decide +kernel
theorem hf_c23_7 : hg_al 32 23776 = true := by decide +kernel
theorem hf_c23_8 : hg_al 32 23808 = true := by decide +kernel
theorem hf_c23_9 : hg_al 32 23840 = true := by decide +kernel
theorem hf_c23_10 : hg_al 32 23872 = true := by decide +kernel
theorem hf_c23_11 : hg_al 32 23904 = true := by decide +kernel
theorem hf_c23_12 : hg_al 32 23936 = true := by decide +kernel
theorem hf_c23_13 : hg_al 32 23968 = true := by decide +kernel
theorem hf_c23_14 : hg_al 32 24000 = true := by decide +kernel
theorem hf_c23_15 : hg_al 32 24032 = true := by decide +kernel
theorem hf_c23_16 : hg_al 32 24064 = true := by decide +kernel
theorem hf_c23_17 : hg_al 32 24096 = true := by decide +kernel
theorem hf_c23_18 : hg_al 32 24128 = true := by decide +kernel
theorem hf_c23_19 : hg_al 32 24160 = true := by decide +kernel
theorem hf_c23_20 : hg_al 32 24192 = true := by decide +kernel
theorem hf_c23_21 : hg_al 32 24224 = true := by decide +kernel
theorem hf_c23_22 : hg_al 32 24256 = true := by decide +kernel
theorem hf_c23_23 : hg_al 32 24288 = true := by decide +kernel
theorem hf_c23_24 : hg_al 32 24320 = true := by decide +kernel
theorem hf_c23_25 : hg_al 32 24352 = true := by decide +kernel
theorem hf_c23_26 : hg_al 32 24384 = true := by decide +kernel
theorem hf_c23_27 : hg_al 32 24416 = true := by decide +kernel
theorem hf_c23_28 : hg_al 32 24448 = true := by decide +kernel
theorem hf_c23_29 : hg_al 32 24480 = true := by decide +kernel
theorem hf_c23_30 : hg_al 32 24512 = true := by decide +kernel
theorem hf_c23_31 : hg_al 32 24544 = true := by decide +kernel
theorem hf_c23 {p : Nat} (h : 23552 ≤ p) (h2 : p < 24576) (h3 : p < 31744) : hf_ck p = true := by
  rcases Nat.lt_or_ge p 23584 with z0 | z0
  · exact hg_al_get 32 23552 p hf_c23_0 h z0 h3
  rcases Nat.lt_or_ge p 23616 with z1 | z1
  · exact hg_al_get 32 23584 p hf_c23_1 z0 z1 h3
  rcases Nat.lt_or_ge p 23648 with z2 | z2
  · exact hg_al_get 32 23616 p hf_c23_2 z1 z2 h3
  rcases Nat.lt_or_ge p 23680 with z3 | z3
  · exact hg_al_get 32 23648 p hf_c23_3 z2 z3 h3
  rcases Nat.lt_or_ge p 23712 with z4 | z4
  · exact hg_al_get 32 23680 p hf_c23_4 z3 z4 h3
  rcases Nat.lt_or_ge p 23744 with z5 | z5
  · exact hg_al_get 32 23712 p hf_c23_5 z4 z5 h3
  rcases Nat.lt_or_ge p 23776 with z6 | z6
  · exact hg_al_get 32 23744 p hf_c23_6 z5 z6 h3
  rcases Nat.lt_or_ge p 23808 with z7 | z7
  · exact hg_al_get 32 23776 p hf_c23_7 z6 z7 h3
  rcases Nat.lt_or_ge p 23840 with z8 | z8
  · exact hg_al_get 32 23808 p hf_c23_8 z7 z8 h3
  rcases Nat.lt_or_ge p 23872 with z9 | z9
  · exact hg_al_get 32 23840 p hf_c23_9 z8 z9 h3
  rcases Nat.lt_or_ge p 23904 with z10 | z10
  · exact hg_al_get 32 23872 p hf_c23_10 z9 z10 h3
  rcases Nat.lt_or_ge p 23936 with z11 | z11
  · exact hg_al_get 32 23904 p hf_c23_11 z10 z11 h3
  rcases Nat.lt_or_ge p 23968 with z12 | z12
  · exact hg_al_get 32 23936 p hf_c23_12 z11 z12 h3
  rcases Nat.lt_or_ge p 24000 with z13 | z13
  · exact hg_al_get 32 23968 p hf_c23_13 z12 z13 h3
  rcases Nat.lt_or_ge p 24032 with z14 | z14
  · exact hg_al_get 32 24000 p hf_c23_14 z13 z14 h3
  rcases Nat.lt_or_ge p 24064 with z15 | z15
  · exact hg_al_get 32 24032 p hf_c23_15 z14 z15 h3
  rcases Nat.lt_or_ge p 24096 with z16 | z16
  · exact hg_al_get 32 24064 p hf_c23_16 z15 z16 h3
  rcases Nat.lt_or_ge p 24128 with z17 | z17
  · exact hg_al_get 32 24096 p hf_c23_17 z16 z17 h3
  rcases Nat.lt_or_ge p 24160 with z18 | z18
  · exact hg_al_get 32 24128 p hf_c23_18 z17 z18 h3
  rcases Nat.lt_or_ge p 24192 with z19 | z19
  · exact hg_al_get 32 24160 p hf_c23_19 z18 z19 h3
  rcases Nat.lt_or_ge p 24224 with z20 | z20
  · exact hg_al_get 32 24192 p hf_c23_20 z19 z20 h3
  rcases Nat.lt_or_ge p 24256 with z21 | z21
  · exact hg_al_get 32 24224 p hf_c23_21 z20 z21 h3
  rcases Nat.lt_or_ge p 24288 with z22 | z22
  · exact hg_al_get 32 24256 p hf_c23_22 z21 z22 h3
  rcases Nat.lt_or_ge p 24320 with z23 | z23
  · exact hg_al_get 32 24288 p hf_c23_23 z22 z23 h3
  rcases Nat.lt_or_ge p 24352 with z24 | z24
  · exact hg_al_get 32 24320 p hf_c23_24 z23 z24 h3
  rcases Nat.lt_or_ge p 24384 with z25 | z25
  · exact hg_al_get 32 24352 p hf_c23_25 z24 z25 h3
  rcases Nat.lt_or_ge p 24416 with z26 | z26
  · exact hg_al_get 32 24384 p hf_c23_26 z25 z26 h3
  rcases Nat.lt_or_ge p 24448 with z27 | z27
  · exact hg_al_get 32 24416 p hf_c23_27 z26 z27 h3
  rcases Nat.lt_or_ge p 24480 with z28 | z28
  · exact hg_al_get 32 24448 p hf_c23_28 z27 z28 h3
  rcases Nat.lt_or_ge p 24512 with z29 | z29
  · exact hg_al_get 32 24480 p hf_c23_29 z28 z29 h3
  rcases Nat.lt_or_ge p 24544 with z30 | z30
  · exact hg_al_get 32 24512 p hf_c23_30 z29 z30 h3
  exact hg_al_get 32 24544 p hf_c23_31 z30 h2 h3
theorem hf_c24_0 : hg_al 32 24576 = true := by decide +kernel
theorem hf_c24_1 : hg_al 32 24608 = true := by decide +kernel
theorem hf_c24_2 : hg_al 32 24640 = true := by decide +kernel
theorem hf_c24_3 : hg_al 32 24672 = true := by decide +kernel
theorem hf_c24_4 : hg_al 32 24704 = true := by decide +kernel
theorem hf_c24_5 : hg_al 32 24736 = true := by decide +kernel
theorem hf_c24_6 : hg_al 32 24768 = true := by decide +kernel
theorem hf_c24_7 : hg_al 32 24800 = true := by decide +kernel
theorem hf_c24_8 : hg_al 32 24832 = true := by decide +kernel
theorem hf_c24_9 : hg_al 32 24864 = true := by decide +kernel
theorem hf_c24_10 : hg_al 32 24896 = true := by decide +kernel
theorem hf_c24_11 : hg_al 32 24928 = true := by decide +kernel
theorem hf_c24_12 : hg_al 32 24960 = true := by decide +kernel
theorem hf_c24_13 : hg_al 32 24992 = true := by decide +kernel
theorem hf_c24_14 : hg_al 32 25024 = true := by decide +kernel
theorem hf_c24_15 : hg_al 32 25056 = true := by decide +kernel
theorem hf_c24_16 : hg_al 32 25088 = true := by decide +kernel
theorem hf_c24_17 : hg_al 32 25120 = true := by decide +kernel
theorem hf_c24_18 : hg_al 32 25152 = true := by decide +kernel
theorem hf_c24_19 : hg_al 32 25184 = true := by decide +kernel
theorem hf_c24_20 : hg_al 32 25216 = true := by decide +kernel
theorem hf_c24_21 : hg_al 32 25248 = true := by decide +kernel
theorem hf_c24_22 : hg_al 32 25280 = true := by decide +kernel
theorem hf_c24_23 : hg_al 32 25312 = true := by decide +kernel
theorem hf_c24_24 : hg_al 32 25344 = true := by decide +kernel
theorem hf_c24_25 : hg_al 32 25376 = true := by decide +kernel
theorem hf_c24_26 : hg_al 32 25408 = true := by decide +kernel
theorem hf_c24_27 : hg_al 32 25440 = true := by decide +kernel
theorem hf_c24_28 : hg_al 32 25472 = true := by decide +kernel
theorem hf_c24_29 : hg_al 32 25504 = true := by decide +kernel
theorem hf_c24_30 : hg_al 32 25536 = true := by decide +kernel
theorem hf_c24_31 : hg_al 32 25568 = true := by decide +kernel
theorem hf_c24 {p : Nat} (h : 24576 ≤ p) (h2 : p < 25600) (h3 : p < 31744) : hf_ck p = true := by
  rcases Nat.lt_or_ge p 24608 with z0 | z0
  · exact hg_al_get 32 24576 p hf_c24_0 h z0 h3
  rcases Nat.lt_or_ge p 24640 with z1 | z1
  · exact hg_al_get 32 24608 p hf_c24_1 z0 z1 h3
  rcases Nat.lt_or_ge p 24672 with z2 | z2
  · exact hg_al_get 32 24640 p hf_c24_2 z1 z2 h3
  rcases Nat.lt_or_ge p 24704 with z3 | z3
  · exact hg_al_get 32 24672 p hf_c24_3 z2 z3 h3
  rcases Nat.lt_or_ge p 24736 with z4 | z4
  · exact hg_al_get 32 24704 p hf_c24_4 z3 z4 h3
  rcases Nat.lt_or_ge p 24768 with z5 | z5
  · exact hg_al_get 32 24736 p hf_c24_5 z4 z5 h3
  rcases Nat.lt_or_ge p 24800 with z6 | z6
  · exact hg_al_get 32 24768 p hf_c24_6 z5 z6 h3
  rcases Nat.lt_or_ge p 24832 with z7 | z7
  · exact hg_al_get 32 24800 p hf_c24_7 z6 z7 h3
  rcases Nat.lt_or_ge p 24864 with z8 | z8
  · exact hg_al_get 32 24832 p hf_c24_8 z7 z8 h3
  rcases Nat.lt_or_ge p 24896 with z9 | z9
  · exact hg_al_get 32 24864 p hf_c24_9 z8 z9 h3
  rcases Nat.lt_or_ge p 24928 with z10 | z10
  · exact hg_al_get 32 24896 p hf_c24_10 z9 z10 h3
  rcases Nat.lt_or_ge p 24960 with z11 | z11
  · exact hg_al_get 32 24928 p hf_c24_11 z10 z11 h3
  rcases Nat.lt_or_ge p 24992 with z12 | z12
  · exact hg_al_get 32 24960 p hf_c24_12 z11 z12 h3
  rcases Nat.lt_or_ge p 25024 with z13 | z13
  · exact hg_al_get 32 24992 p hf_c24_13 z12 z13 h3
  rcases Nat.lt_or_ge p 25056 with z14 | z14
  · exact hg_al_get 32 25024 p hf_c24_14 z13 z14 h3
  rcases Nat.lt_or_ge p 25088 with z15 | z15
  · exact hg_al_get 32 25056 p hf_c24_15 z14 z15 h3
  rcases Nat.lt_or_ge p 25120 with z16 | z16
  · exact hg_al_get 32 25088 p hf_c24_16 z15 z16 h3
  rcases Nat.lt_or_ge p 25152 with z17 | z17
  · exact hg_al_get 32 25120 p hf_c24_17 z16 z17 h3
  rcases Nat.lt_or_ge p 25184 with z18 | z18
  · exact hg_al_get 32 25152 p hf_c24_18 z17 z18 h3
  rcases Nat.lt_or_ge p 25216 with z19 | z19
  · exact hg_al_get 32 25184 p hf_c24_19 z18 z19 h3
  rcases Nat.lt_or_ge p 25248 with z20 | z20
  · exact hg_al_get 32 25216 p hf_c24_20 z19 z20 h3
  rcases Nat.lt_or_ge p 25280 with z21 | z21
  · exact hg_al_get 32 25248 p hf_c24_21 z20 z21 h3
  rcases Nat.lt_or_ge p 25312 with z22 | z22
  · exact hg_al_get 32 25280 p hf_c24_22 z21 z22 h3
  rcases Nat.lt_or_ge p 25344 with z23 | z23
  · exact hg_al_get 32 25312 p hf_c24_23 z22 z23 h3
  rcases Nat.lt_or_ge p 25376 with z24 | z24
  · exact hg_al_get 32 25344 p hf_c24_24 z23 z24 h3
  rcases Nat.lt_or_ge p 25408 with z25 | z25
  · exact hg_al_get 32 25376 p hf_c24_25 z24 z25 h3
  rcases Nat.lt_or_ge p 25440 with z26 | z26
  · exact hg_al_get 32 25408 p hf_c24_26 z25 z26 h3
  rcases Nat.lt_or_ge p 25472 with z27 | z27
  · exact hg_al_get 32 25440 p hf_c24_27 z26 z27 h3
  rcases Nat.lt_or_ge p 25504 with z28 | z28
  · exact hg_al_get 32 25472 p hf_c24_28 z27 z28 h3
  rcases Nat.lt_or_ge p 25536 with z29 | z29
  · exact hg_al_get 32 25504 p hf_c24_29 z28 z29 h3
  rcases Nat.lt_or_ge p 25568 with z30 | z30
  · exact hg_al_get 32 25536 p hf_c24_30 z29 z30 h3
  exact hg_al_get 32 25568 p hf_c24_31 z30 h2 h3
theorem hf_c25_0 : hg_al 32 25600 = true := by decide +kernel
theorem hf_c25_1 : hg_al 32 25632 = true := by decide +kernel
theorem hf_c25_2 : hg_al 32 25664 = true := by decide +kernel
theorem hf_c25_3 : hg_al 32 25696 = true := by decide +kernel
theorem hf_c25_4 : hg_al 32 25728 = true := by decide +kernel
theorem hf_c25_5 : hg_al 32 25760 = true := by decide +kernel
theorem hf_c25_6 : hg_al 32 25792 = true := by decide +kernel
theorem hf_c25_7 : hg_al 32 25824 = true := by decide +kernel
theorem hf_c25_8 : hg_al 32 25856 = true := by decide +kernel
theorem hf_c25_9 : hg_al 32 25888 = true := by decide +kernel
theorem hf_c25_10 : hg_al 32 25920 = true := by decide +kernel
theorem hf_c25_11 : hg_al 32 25952 = true := by decide +kernel
theorem hf_c25_12 : hg_al 32 25984 = true := by decide +kernel
theorem hf_c25_13 : hg_al 32 26016 = true := by decide +kernel
theorem hf_c25_14 : hg_al 32 26048 = true := by decide +kernel
theorem hf_c25_15 : hg_al 32 26080 = true := by decide +kernel
theorem hf_c25_16 : hg_al 32 26112 = true := by decide +kernel
theorem hf_c25_17 : hg_al 32 26144 = true := by decide +kernel
theorem hf_c25_18 : hg_al 32 26176 = true := by decide +kernel
theorem hf_c25_19 : hg_al 32 26208 = true := by decide +kernel
theorem hf_c25_20 : hg_al 32 26240 = true := by decide +kernel
theorem hf_c25_21 : hg_al 32 26272 = true := by decide +kernel
theorem hf_c25_22 : hg_al 32 26304 = true := by decide +kernel
theorem hf_c25_23 : hg_al 32 26336 = true := by decide +kernel
theorem hf_c25_24 : hg_al 32 26368 = true := by decide +kernel
theorem hf_c25_25 : hg_al 32 26400 = true := by decide +kernel
theorem hf_c25_26 : hg_al 32 26432 = true := by decide +kernel
theorem hf_c25_27 : hg_al 32 26464 = true := by decide +kernel
theorem hf_c25_28 : hg_al 32 26496 = true := by decide +kernel
theorem hf_c25_29 : hg_al 32 26528 = true := by decide +kernel
theorem hf_c25_30 : hg_al 32 26560 = true := by decide +kernel
theorem hf_c25_31 : hg_al 32 26592 = true := by decide +kernel
theorem hf_c25 {p : Nat} (h : 25600 ≤ p) (h2 : p < 26624) (h3 : p < 31744) : hf_ck p = true := by
  rcases Nat.lt_or_ge p 25632 with z0 | z0
  · exact hg_al_get 32 25600 p hf_c25_0 h z0 h3
  rcases Nat.lt_or_ge p 25664 with z1 | z1
  · exact hg_al_get 32 25632 p hf_c25_1 z0 z1 h3
  rcases Nat.lt_or_ge p 25696 with z2 | z2
  · exact hg_al_get 32 25664 p hf_c25_2 z1 z2 h3
  rcases Nat.lt_or_ge p 25728 with z3 | z3
  · exact hg_al_get 32 25696 p hf_c25_3 z2 z3 h3
  rcases Nat.lt_or_ge p 25760 with z4 | z4
  · exact hg_al_get 32 25728 p hf_c25_4 z3 z4 h3
  rcases Nat.lt_or_ge p 25792 with z5 | z5
  · exact hg_al_get 32 25760 p hf_c25_5 z4 z5 h3
  rcases Nat.lt_or_ge p 25824 with z6 | z6
  · exact hg_al_get 32 25792 p hf_c25_6 z5 z6 h3
  rcases Nat.lt_or_ge p 25856 with z7 | z7
  · exact hg_al_get 32 25824 p hf_c25_7 z6 z7 h3
  rcases Nat.lt_or_ge p 25888 with z8 | z8
  · exact hg_al_get 32 25856 p hf_c25_8 z7 z8 h3
  rcases Nat.lt_or_ge p 25920 with z9 | z9
  · exact hg_al_get 32 25888 p hf_c25_9 z8 z9 h3
  rcases Nat.lt_or_ge p 25952 with z10 | z10
  · exact hg_al_get 32 25920 p hf_c25_10 z9 z10 h3
  rcases Nat.lt_or_ge p 25984 with z11 | z11
  · exact hg_al_get 32 25952 p hf_c25_11 z10 z11 h3
  rcases Nat.lt_or_ge p 26016 with z12 | z12
  · exact hg_al_get 32 25984 p hf_c25_12 z11 z12 h3
  rcases Nat.lt_or_ge p 26048 with z13 | z13
  · exact hg_al_get 32 26016 p hf_c25_13 z12 z13 h3
  rcases Nat.lt_or_ge p 26080 with z14 | z14
  · exact hg_al_get 32 26048 p hf_c25_14 z13 z14 h3
  rcases Nat.lt_or_ge p 26112 with z15 | z15
  · exact hg_al_get 32 26080 p hf_c25_15 z14 z15 h3
  rcases Nat.lt_or_ge p 26144 with z16 | z16
  · exact hg_al_get 32 26112 p hf_c25_16 z15 z16 h3
  rcases Nat.lt_or_ge p 26176 with z17 | z17
  · exact hg_al_get 32 26144 p hf_c25_17 z16 z17 h3
  rcases Nat.lt_or_ge p 26208 with z18 | z18
  · exact hg_al_get 32 26176 p hf_c25_18 z17 z18 h3
  rcases Nat.lt_or_ge p 26240 with z19 | z19
  · exact hg_al_get 32 26208 p hf_c25_19 z18 z19 h3
  rcases Nat.lt_or_ge p 26272 with z20 | z20
  · exact hg_al_get 32 26240 p hf_c25_20 z19 z20 h3
  rcases Nat.lt_or_ge p 26304 with z21 | z21
  · exact hg_al_get 32 26272 p hf_c25_21 z20 z21 h3
  rcases Nat.lt_or_ge p 26336 with z22 | z22
  · exact hg_al_get 32 26304 p hf_c25_22 z21 z22 h3
  rcases Nat.lt_or_ge p 26368 with z23 | z23
  · exact hg_al_get 32 26336 p hf_c25_23 z22 z23 h3
  rcases Nat.lt_or_ge p 26400 with z24 | z24
  · exact hg_al_get 32 26368 p hf_c25_24 z23 z24 h3
  rcases Nat.lt_or_ge p 26432 with z25 | z25
  · exact hg_al_get 32 26400 p hf_c25_25 z24 z25 h3
  rcases Nat.lt_or_ge p 26464 with z26 | z26
  · exact hg_al_get 32 26432 p hf_c25_26 z25 z26 h3
  rcases Nat.lt_or_ge p 26496 with z27 | z27
  · exact hg_al_get 32 26464 p hf_c25_27 z26 z27 h3
  rcases Nat.lt_or_ge p 26528 with z28 | z28
  · exact hg_al_get 32 26496 p hf_c25_28 z27 z28 h3
  rcases Nat.lt_or_ge p 26560 with z29 | z29
  · exact hg_al_get 32 26528 p hf_c25_29 z28 z29 h3
  rcases Nat.lt_or_ge p 26592 with z30 | z30
  · exact hg_al_get 32 26560 p hf_c25_30 z29 z30 h3
  exact hg_al_get 32 26592 p hf_c25_31 z30 h2 h3
theorem hf_c26_0 : hg_al 32 26624 = true := by decide +kernel
theorem hf_c26_1 : hg_al 32 26656 = true := by decide +kernel
theorem hf_c26_2 : hg_al 32 26688 = true := by decide +kernel
theorem hf_c26_3 : hg_al 32 26720 = true := by decide +kernel
theorem hf_c26_4 : hg_al 32 26752 = true := by decide +kernel
theorem hf_c26_5 : hg_al 32 26784 = true := by decide +kernel
theorem hf_c26_6 : hg_al 32 26816 = true := by decide +kernel
theorem hf_c26_7 : hg_al 32 26848 = true := by decide +kernel
theorem hf_c26_8 : hg_al 32 26880 = true := by decide +kernel
theorem hf_c26_9 : hg_al 32 26912 = true := by decide +kernel
theorem hf_c26_10 : hg_al 32 26944 = true := by decide +kernel
theorem hf_c26_11 : hg_al 32 26976 = true := by decide +kernel
theorem hf_c26_12 : hg_al 32 27008 = true := by decide +kernel
theorem hf_c26_13 : hg_al 32 27040 = true := by decide +kernel
theorem hf_c26_14 : hg_al 32 27072 = true := by decide +kernel
theorem hf_c26_15 : hg_al 32 27104 = true := by decide +kernel
theorem hf_c26_16 : hg_al 32 27136 = true := by decide +kernel
theorem hf_c26_17 : hg_al 32 27168 = true := by decide +kernel
theorem hf_c26_18 : hg_al 32 27200 = true := by decide +kernel
theorem hf_c26_19 : hg_al 32 27232 = true := by decide +kernel
theorem hf_c26_20 : hg_al 32 27264 = true := by decide +kernel
theorem hf_c26_21 : hg_al 32 27296 = true := by decide +kernel
theorem hf_c26_22 : hg_al 32 27328 = true := by decide +kernel
theorem hf_c26_23 : hg_al 32 27360 = true := by decide +kernel
theorem hf_c26_24 : hg_al 32 27392 = true := by decide +kernel
theorem hf_c26_25 : hg_al 32 27424 = true := by decide +kernel
theorem hf_c26_26 : hg_al 32 27456 = true := by decide +kernel
theorem hf_c26_27 : hg_al 32 27488 = true := by decide +kernel
theorem hf_c26_28 : hg_al 32 27520 = true := by decide +kernel
theorem hf_c26_29 : hg_al 32 27552 = true := by decide +kernel
theorem hf_c26_30 : hg_al 32 27584 = true := by decide +kernel
theorem hf_c26_31 : hg_al 32 27616 = true := by decide +kernel
theorem hf_c26 {p : Nat} (h : 26624 ≤ p) (h2 : p < 27648) (h3 : p < 31744) : hf_ck p = true := by
  rcases Nat.lt_or_ge p 26656 with z0 | z0
  · exact hg_al_get 32 26624 p hf_c26_0 h z0 h3
  rcases Nat.lt_or_ge p 26688 with z1 | z1
  · exact hg_al_get 32 26656 p hf_c26_1 z0 z1 h3
  rcases Nat.lt_or_ge p 26720 with z2 | z2
  · exact hg_al_get 32 26688 p hf_c26_2 z1 z2 h3
  rcases Nat.lt_or_ge p 26752 with z3 | z3
  · exact hg_al_get 32 26720 p hf_c26_3 z2 z3 h3
  rcases Nat.lt_or_ge p 26784 with z4 | z4
  · exact hg_al_get 32 26752 p hf_c26_4 z3 z4 h3
  rcases Nat.lt_or_ge p 26816 with z5 | z5
  · exact hg_al_get 32 26784 p hf_c26_5 z4 z5 h3
  rcases Nat.lt_or_ge p 26848 with z6 | z6
  · exact hg_al_get 32 26816 p hf_c26_6 z5 z6 h3
  rcases Nat.lt_or_ge p 26880 with z7 | z7
  · exact hg_al_get 32 26848 p hf_c26_7 z6 z7 h3
  rcases Nat.lt_or_ge p 26912 with z8 | z8
  · exact hg_al_get 32 26880 p hf_c26_8 z7 z8 h3
  rcases Nat.lt_or_ge p 26944 with z9 | z9
  · exact hg_al_get 32 26912 p hf_c26_9 z8 z9 h3
  rcases Nat.lt_or_ge p 26976 with z10 | z10
  · exact hg_al_get 32 26944 p hf_c26_10 z9 z10 h3
  rcases Nat.lt_or_ge p 27008 with z11 | z11
  · exact hg_al_get 32 26976 p hf_c26_11 z10 z11 h3
  rcases Nat.lt_or_ge p 27040 with z12 | z12
  · exact hg_al_get 32 27008 p hf_c26_12 z11 z12 h3
  rcases Nat.lt_or_ge p 27072 with z13 | z13
  · exact hg_al_get 32 27040 p hf_c26_13 z12 z13 h3
  rcases Nat.lt_or_ge p 27104 with z14 | z14
  · exact hg_al_get 32 27072 p hf_c26_14 z13 z14 h3
  rcases Nat.lt_or_ge p 27136 with z15 | z15
  · exact hg_al_get 32 27104 p hf_c26_15 z14 z15 h3
  rcases Nat.lt_or_ge p 27168 with z16 | z16
  · exact hg_al_get 32 27136 p hf_c26_16 z15 z16 h3
  rcases Nat.lt_or_ge p 27200 with z17 | z17
  · exact hg_al_get 32 27168 p hf_c26_17 z16 z17 h3
  rcases Nat.lt_or_ge p 27232 with z18 | z18
  · exact hg_al_get 32 27200 p hf_c26_18 z17 z18 h3
  rcases Nat.lt_or_ge p 27264 with z19 | z19
  · exact hg_al_get 32 27232 p hf_c26_19 z18 z19 h3
  rcases Nat.lt_or_ge p 27296 with z20 | z20
  · exact hg_al_get 32 27264 p hf_c26_20 z19 z20 h3
  rcases Nat.lt_or_ge p 27328 with z21 | z21
  · exact hg_al_get 32 27296 p hf_c26_21 z20 z21 h3
  rcases Nat.lt_or_ge p 27360 with z22 | z22
  · exact hg_al_get 32 27328 p hf_c26_22 z21 z22 h3
  rcases Nat.lt_or_ge p 27392 with z23 | z23
  · exact hg_al_get 32 27360 p hf_c26_23 z22 z23 h3
  rcases Nat.lt_or_ge p 27424 with z24 | z24
  · exact hg_al_get 32 27392 p hf_c26_24 z23 z24 h3
  rcases Nat.lt_or_ge p 27456 with z25 | z25
  · exact hg_al_get 32 27424 p hf_c26_25 z24 z25 h3
  rcases Nat.lt_or_ge p 27488 with z26 | z26
  · exact hg_al_get 32 27456 p hf_c26_26 z25 z26 h3
  rcases Nat.lt_or_ge p 27520 with z27 | z27
  · exact hg_al_get 32 27488 p hf_c26_27 z26 z27 h3
  rcases Nat.lt_or_ge p 27552 with z28 | z28
  · exact hg_al_get 32 27520 p hf_c26_28 z27 z28 h3
  rcases Nat.lt_or_ge p 27584 with z29 | z29
  · exact hg_al_get 32 27552 p hf_c26_29 z28 z29 h3
  rcases Nat.lt_or_ge p 27616 with z30 | z30
  · exact hg_al_get 32 27584 p hf_c26_30 z29 z30 h3
  exact hg_al_get 32 27616 p hf_c26_31 z30 h2 h3
theorem hf_c27_0 : hg_al 32 27648 = true := by decide +kernel
theorem hf_c27_1 : hg_al 32 27680 = true := by decide +kernel
theorem hf_c27_2 : hg_al 32 27712 = true := by decide +kernel
theorem hf_c27_3 : hg_al 32 27744 = true := by decide +kernel
theorem hf_c27_4 : hg_al 32 27776 = true := by decide +kernel
theorem hf_c27_5 : hg_al 32 27808 = true := by decide +kernel
theorem hf_c27_6 : hg_al 32 27840 = true := by decide +kernel
theorem hf_c27_7 : hg_al 32 27872 = true := by decide +kernel
theorem hf_c27_8 : hg_al 32 27904 = true := by decide +kernel
theorem hf_c27_9 : hg_al 32 27936 = true := by decide +kernel
theorem hf_c27_10 : hg_al 32 27968 = true := by decide +kernel
theorem hf_c27_11 : hg_al 32 28000 = true := by decide +kernel
theorem hf_c27_12 : hg_al 32 28032 = true := by decide +kernel
theorem hf_c27_13 : hg_al 32 28064 = true := by decide +kernel
theorem hf_c27_14 : hg_al 32 28096 = true := by decide +kernel
theorem hf_c27_15 : hg_al 32 28128 = true := by decide +kernel
theorem hf_c27_16 : hg_al 32 28160 = true := by decide +kernel
theorem hf_c27_17 : hg_al 32 28192 = true := by decide +kernel
theorem hf_c27_18 : hg_al 32 28224 = true := by decide +kernel
theorem hf_c27_19 : hg_al 32 28256 = true := by decide +kernel
theorem hf_c27_20 : hg_al 32 28288 = true := by decide +kernel
theorem hf_c27_21 : hg_al 32 28320 = true := by decide +kernel
theorem hf_c27_22 : hg_al 32 28352 = true := by decide +kernel
theorem hf_c27_23 : hg_al 32 28384 = true := by decide +kernel
theorem hf_c27_24 : hg_al 32 28416 = true := by decide +kernel
theorem hf_c27_25 : hg_al 32 28448 = true := by decide +kernel
theorem hf_c27_26 : hg_al 32 28480 = true := by decide +kernel
theorem hf_c27_27 : hg_al 32 28512 = true := by decide +kernel
theorem hf_c27_28 : hg_al 32 28544 = true := by decide +kernel
theorem hf_c27_29 : hg_al 32 28576 = true := by decide +kernel
theorem hf_c27_30 : hg_al 32 28608 = true := by decide +kernel
theorem hf_c27_31 : hg_al 32 28640 = true := by decide +kernel
theorem hf_c27 {p : Nat} (h : 27648 ≤ p) (h2 : p < 28672) (h3 : p < 31744) : hf_ck p = true := by
  rcases Nat.lt_or_ge p 27680 with z0 | z0
  · exact hg_al_get 32 27648 p hf_c27_0 h z0 h3
  rcases Nat.lt_or_ge p 27712 with z1 | z1
  · exact hg_al_get 32 27680 p hf_c27_1 z0 z1 h3
  rcases Nat.lt_or_ge p 27744 with z2 | z2
  · exact hg_al_get 32 27712 p hf_c27_2 z1 z2 h3
  rcases Nat.lt_or_ge p 27776 with z3 | z3
  · exact hg_al_get 32 27744 p hf_c27_3 z2 z3 h3
  rcases Nat.lt_or_ge p 27808 with z4 | z4
  · exact hg_al_get 32 27776 p hf_c27_4 z3 z4 h3
  rcases Nat.lt_or_ge p 27840 with z5 | z5
  · exact hg_al_get 32 27808 p hf_c27_5 z4 z5 h3
  rcases Nat.lt_or_ge p 27872 with z6 | z6
  · exact hg_al_get 32 27840 p hf_c27_6 z5 z6 h3
  rcases Nat.lt_or_ge p 27904 with z7 | z7
  · exact hg_al_get 32 27872 p hf_c27_7 z6 z7 h3
  rcases Nat.lt_or_ge p 27936 with z8 | z8
  · exact hg_al_get 32 27904 p hf_c27_8 z7 z8 h3
  rcases Nat.lt_or_ge p 27968 with z9 | z9
  · exact hg_al_get 32 27936 p hf_c27_9 z8 z9 h3
  rcases Nat.lt_or_ge p 28000 with z10 | z10
  · exact hg_al_get 32 27968 p hf_c27_10 z9 z10 h3
  rcases Nat.lt_or_ge p 28032 with z11 | z11
  · exact hg_al_get 32 28000 p hf_c27_11 z10 z11 h3
  rcases Nat.lt_or_ge p 28064 with z12 | z12
  · exact hg_al_get 32 28032 p hf_c27_12 z11 z12 h3
  rcases Nat.lt_or_ge p 28096 with z13 | z13
  · exact hg_al_get 32 28064 p hf_c27_13 z12 z13 h3
  rcases Nat.lt_or_ge p 28128 with z14 | z14
  · exact hg_al_get 32 28096 p hf_c27_14 z13 z14 h3
  rcases Nat.lt_or_ge p 28160 with z15 | z15
  · exact hg_al_get 32 28128 p hf_c27_15 z14 z15 h3
  rcases Nat.lt_or_ge p 28192 with z16 | z16
  · exact hg_al_get 32 28160 p hf_c27_16 z15 z16 h3
  rcases Nat.lt_or_ge p 28224 with z17 | z17
  · exact hg_al_get 32 28192 p hf_c27_17 z16 z17 h3
  rcases Nat.lt_or_ge p 28256 with z18 | z18
  · exact hg_al_get 32 28224 p hf_c27_18 z17 z18 h3
  rcases Nat.lt_or_ge p 28288 with z19 | z19
  · exact hg_al_get 32 28256 p hf_c27_19 z18 z19 h3
  rcases Nat.lt_or_ge p 28320 with z20 | z20
  · exact hg_al_get 32 28288 p hf_c27_20 z19 z20 h3
  rcases Nat.lt_or_ge p 28352 with z21 | z21
  · exact hg_al_get 32 28320 p hf_c27_21 z20 z21 h3
  rcases Nat.lt_or_ge p 28384 with z22 | z22
  · exact hg_al_get 32 28352 p hf_c27_22 z21 z22 h3
  rcases Nat.lt_or_ge p 28416 with z23 | z23
  · exact hg_al_get 32 28384 p hf_c27_23 z22 z23 h3
  rcases Nat.lt_or_ge p 28448 with z24 | z24
  · exact hg_al_get 32 28416 p hf_c27_24 z23 z24 h3
  rcases Nat.lt_or_ge p 28480 with z25 | z25
  · exact hg_al_get 32 28448 p hf_c27_25 z24 z25 h3
  rcases Nat.lt_or_ge p 28512 with z26 | z26
  · exact hg_al_get 32 28480 p hf_c27_26 z25 z26 h3
  rcases Nat.lt_or_ge p 28544 with z27 | z27
  · exact hg_al_get 32 28512 p hf_c27_27 z26 z27 h3
  rcases Nat.lt_or_ge p 28576 with z28 | z28
  · exact hg_al_get 32 28544 p hf_c27_28 z27 z28 h3
  rcases Nat.lt_or_ge p 28608 with z29 | z29
  · exact hg_al_get 32 28576 p hf_c27_29 z28 z29 h3
  rcases Nat.lt_or_ge p 28640 with z30 | z30
  · exact hg_al_get 32 28608 p hf_c27_30 z29 z30 h3
  exact hg_al_get 32 28640 p hf_c27_31 z30 h2 h3
theorem hf_c28_0 : hg_al 32 28672 = true := by decide +kernel
theorem hf_c28_1 : hg_al 32 28704 = true := by decide +kernel
theorem hf_c28_2 : hg_al 32 28736 = true := by decide +kernel
theorem hf_c28_3 : hg_al 32 28768 = true := by decide +kernel
theorem hf_c28_4 : hg_al 32 28800 = true := by decide +kernel
theorem hf_c28_5 : hg_al 32 28832 = true := by decide +kernel
theorem hf_c28_6 : hg_al 32 28864 = true := by decide +kernel
theorem hf_c28_7 : hg_al 32 28896 = true := by decide +kernel
theorem hf_c28_8 : hg_al 32 28928 = true := by decide +kernel
theorem hf_c28_9 : hg_al 32 28960 = true := by decide +kernel
theorem hf_c28_10 : hg_al 32 28992 = true := by decide +kernel
theorem hf_c28_11 : hg_al 32 29024 = true := by decide +kernel
theorem hf_c28_12 : hg_al 32 29056 = true := by decide +kernel
theorem hf_c28_13 : hg_al 32 29088 = true := by decide +kernel
theorem hf_c28_14 : hg_al 32 29120 = true := by decide +kernel
theorem hf_c28_15 : hg_al 32 29152 = true := by decide +kernel
theorem hf_c28_16 : hg_al 32 29184 = true := by decide +kernel
theorem hf_c28_17 : hg_al 32 29216 = true := by decide +kernel
theorem hf_c28_18 : hg_al 32 29248 = true := by decide +kernel
theorem hf_c28_19 : hg_al 32 29280 = true := by decide +kernel
theorem hf_c28_20 : hg_al 32 29312 = true := by decide +kernel
theorem hf_c28_21 : hg_al 32 29344 = true := by decide +kernel
theorem hf_c28_22 : hg_al 32 29376 = true := by decide +kernel
theorem hf_c28_23 : hg_al 32 29408 = true := by decide +kernel
theorem hf_c28_24 : hg_al 32 29440 = true := by decide +kernel
theorem hf_c28_25 : hg_al 32 29472 = true := by decide +kernel
theorem hf_c28_26 : hg_al 32 29504 = true := by decide +kernel
theorem hf_c28_27 : hg_al 32 29536 = true := by decide +kernel
theorem hf_c28_28 : hg_al 32 29568 = true := by decide +kernel
theorem hf_c28_29 : hg_al 32 29600 = true := by decide +kernel
theorem hf_c28_30 : hg_al 32 29632 = true := by decide +kernel
theorem hf_c28_31 : hg_al 32 29664 = true := by decide +kernel
theorem hf_c28 {p : Nat} (h : 28672 ≤ p) (h2 : p < 29696) (h3 : p < 31744) : hf_ck p = true := by
  rcases Nat.lt_or_ge p 28704 with z0 | z0
  · exact hg_al_get 32 28672 p hf_c28_0 h z0 h3
  rcases Nat.lt_or_ge p 28736 with z1 | z1
  · exact hg_al_get 32 28704 p hf_c28_1 z0 z1 h3
  rcases Nat.lt_or_ge p 28768 with z2 | z2
  · exact hg_al_get 32 28736 p hf_c28_2 z1 z2 h3
  rcases Nat.lt_or_ge p 28800 with z3 | z3
  · exact hg_al_get 32 28768 p hf_c28_3 z2 z3 h3
  rcases Nat.lt_or_ge p 28832 with z4 | z4
  · exact hg_al_get 32 28800 p hf_c28_4 z3 z4 h3
  rcases Nat.lt_or_ge p 28864 with z5 | z5
  · exact hg_al_get 32 28832 p hf_c28_5 z4 z5 h3
  rcases Nat.lt_or_ge p 28896 with z6 | z6
  · exact hg_al_get 32 28864 p hf_c28_6 z5 z6 h3
  rcases Nat.lt_or_ge p 28928 with z7 | z7
  · exact hg_al_get 32 28896 p hf_c28_7 z6 z7 h3
  rcases Nat.lt_or_ge p 28960 with z8 | z8
  · exact hg_al_get 32 28928 p hf_c28_8 z7 z8 h3
  rcases Nat.lt_or_ge p 28992 with z9 | z9
  · exact hg_al_get 32 28960 p hf_c28_9 z8 z9 h3
  rcases Nat.lt_or_ge p 29024 with z10 | z10
  · exact hg_al_get 32 28992 p hf_c28_10 z9 z10 h3
  rcases Nat.lt_or_ge p 29056 with z11 | z11
  · exact hg_al_get 32 29024 p hf_c28_11 z10 z11 h3
  rcases Nat.lt_or_ge p 29088 with z12 | z12
  · exact hg_al_get 32 29056 p hf_c28_12 z11 z12 h3
  rcases Nat.lt_or_ge p 29120 with z13 | z13
  · exact hg_al_get 32 29088 p hf_c28_13 z12 z13 h3
  rcases Nat.lt_or_ge p 29152 with z14 | z14
  · exact hg_al_get 32 29120 p hf_c28_14 z13 z14 h3
  rcases Nat.lt_or_ge p 29184 with z15 | z15
  · exact hg_al_get 32 29152 p hf_c28_15 z14 z15 h3
  rcases Nat.lt_or_ge p 29216 with z16 | z16
  · exact hg_al_get 32 29184 p hf_c28_16 z15 z16 h3
  rcases Nat.lt_or_ge p 29248 with z17 | z17
  · exact hg_al_get 32 29216 p hf_c28_17 z16 z17 h3
  rcases Nat.lt_or_ge p 29280 with z18 | z18
  · exact hg_al_get 32 29248 p hf_c28_18 z17 z18 h3
  rcases Nat.lt_or_ge p 29312 with z19 | z19
  · exact hg_al_get 32 29280 p hf_c28_19 z18 z19 h3
  rcases Nat.lt_or_ge p 29344 with z20 | z20
  · exact hg_al_get 32 29312 p hf_c28_20 z19 z20 h3
  rcases Nat.lt_or_ge p 29376 with z21 | z21
  · exact hg_al_get 32 29344 p hf_c28_21 z20 z21 h3
  rcases Nat.lt_or_ge p 29408 with z22 | z22
  · exact hg_al_get 32 29376 p hf_c28_22 z21 z22 h3
  rcases Nat.lt_or_ge p 29440 with z23 | z23
  · exact hg_al_get 32 29408 p hf_c28_23 z22 z23 h3
  rcases Nat.lt_or_ge p 29472 with z24 | z24
  · exact hg_al_get 32 29440 p hf_c28_24 z23 z24 h3
  rcases Nat.lt_or_ge p 29504 with z25 | z25
  · exact hg_al_get 32 29472 p hf_c28_25 z24 z25 h3
  rcases Nat.lt_or_ge p 29536 with z26 | z26
  · exact hg_al_get 32 29504 p hf_c28_26 z25 z26 h3
  rcases Nat.lt_or_ge p 29568 with z27 | z27
  · exact hg_al_get 32 29536 p hf_c28_27 z26 z27 h3
  rcases Nat.lt_or_ge p 29600 with z28 | z28
  · exact hg_al_get 32 29568 p hf_c28_28 z27 z28 h3
  rcases Nat.lt_or_ge p 29632 with z29 | z29
  · exact hg_al_get 32 29600 p hf_c28_29 z28 z29 h3
  rcases Nat.lt_or_ge p 29664 with z30 | z30
  · exact hg_al_get 32 29632 p hf_c28_30 z29 z30 h3
  exact hg_al_get 32 29664 p hf_c28_31 z30 h2 h3
theorem hf_c29_0 : hg_al 32 29696 = true := by decide +kernel
theorem hf_c29_1 : hg_al 32 29728 = true := by decide +kernel
theorem hf_c29_2 : hg_al 32 29760 = true := by decide +kernel
theorem hf_c29_3 : hg_al 32 29792 = true := by decide +kernel
theorem hf_c29_4 : hg_al 32 29824 = true := by decide +kernel
theorem hf_c29_5 : hg_al 32 29856 = true := by decide +kernel
theorem hf_c29_6 : hg_al 32 29888 = true := by decide +kernel
theorem hf_c29_7 : hg_al 32 29920 = true := by decide +kernel
theorem hf_c29_8 : hg_al 32 29952 = true := by decide +kernel
theorem hf_c29_9 : hg_al 32 29984 = true := by decide +kernel
theorem hf_c29_10 : hg_al 32 30016 = true := by decide +kernel
theorem hf_c29_11 : hg_al 32 30048 = true := by decide +kernel
theorem hf_c29_12 : hg_al 32 30080 = true := by decide +kernel
theorem hf_c29_13 : hg_al 32 30112 = true := by decide +kernel
theorem hf_c29_14 : hg_al 32 30144 = true := by decide +kernel
theorem hf_c29_15 : hg_al 32 30176 = true := by decide +kernel
theorem hf_c29_16 : hg_al 32 30208 = true := by decide +kernel
theorem hf_c29_17 : hg_al 32 30240 = true := by decide +kernel
theorem hf_c29_18 : hg_al 32 30272 = true := by decide +kernel
theorem hf_c29_19 : hg_al 32 30304 = true := by decide +kernel
theorem hf_c29_20 : hg_al 32 30336 = true := by decide +kernel
theorem hf_c29_21 : hg_al 32 30368 = true := by decide +kernel
theorem hf_c29_22 : hg_al 32 30400 = true := by decide +kernel
theorem hf_c29_23 : hg_al 32 30432 = true := by decide +kernel
theorem hf_c29_24 : hg_al 32 30464 = true := by decide +kernel
theorem hf_c29_25 : hg_al 32 30496 = true := by decide +kernel
theorem hf_c29_26 : hg_al 32 30528 = true := by decide +kernel
theorem hf_c29_27 : hg_al 32 30560 = true := by decide +kernel
theorem hf_c29_28 : hg_al 32 30592 = true := by decide +kernel
theorem hf_c29_29 : hg_al 32 30624 = true := by decide +kernel
theorem hf_c29_30 : hg_al 32 30656 = true := by decide +kernel
theorem hf_c29_31 : hg_al 32 30688 = true := by decide +kernel
theorem hf_c29 {p : Nat} (h : 29696 ≤ p) (h2 : p < 30720) (h3 : p < 31744) : hf_ck p = true := by
  rcases Nat.lt_or_ge p 29728 with z0 | z0
  · exact hg_al_get 32 29696 p hf_c29_0 h z0 h3
  rcases Nat.lt_or_ge p 29760 with z1 | z1
  · exact hg_al_get 32 29728 p hf_c29_1 z0 z1 h3
  rcases Nat.lt_or_ge p 29792 with z2 | z2
  · exact hg_al_get 32 29760 p hf_c29_2 z1 z2 h3
  rcases Nat.lt_or_ge p 29824 with z3 | z3
  · exact hg_al_get 32 29792 p hf_c29_3 z2 z3 h3
  rcases Nat.lt_or_ge p 29856 with z4 | z4
  · exact hg_al_get 32 29824 p hf_c29_4 z3 z4 h3
  rcases Nat.lt_or_ge p 29888 with z5 | z5
  · exact hg_al_get 32 29856 p hf_c29_5 z4 z5 h3
  rcases Nat.lt_or_ge p 29920 with z6 | z6
  · exact hg_al_get 32 29888 p hf_c29_6 z5 z6 h3
  rcases Nat.lt_or_ge p 29952 with z7 | z7
  · exact hg_al_get 32 29920 p hf_c29_7 z6 z7 h3
  rcases Nat.lt_or_ge p 29984 with z8 | z8
  · exact hg_al_get 32 29952 p hf_c29_8 z7 z8 h3
  rcases Nat.lt_or_ge p 30016 with z9 | z9
  · exact hg_al_get 32 29984 p hf_c29_9 z8 z9 h3
  rcases Nat.lt_or_ge p 30048 with z10 | z10
  · exact hg_al_get 32 30016 p hf_c29_10 z9 z10 h3
  rcases Nat.lt_or_ge p 30080 with z11 | z11
  · exact hg_al_get 32 30048 p hf_c29_11 z10 z11 h3
  rcases Nat.lt_or_ge p 30112 with z12 | z12
  · exact hg_al_get 32 30080 p hf_c29_12 z11 z12 h3
  rcases Nat.lt_or_ge p 30144 with z13 | z13
  · exact hg_al_get 32 30112 p hf_c29_13 z12 z13 h3
  rcases Nat.lt_or_ge p 30176 with z14 | z14
  · exact hg_al_get 32 30144 p hf_c29_14 z13 z14 h3
  rcases Nat.lt_or_ge p 30208 with z15 | z15
  · exact hg_al_get 32 30176 p hf_c29_15 z14 z15 h3
  rcases Nat.lt_or_ge p 30240 with z16 | z16
  · exact hg_al_get 32 30208 p hf_c29_16 z15 z16 h3
  rcases Nat.lt_or_ge p 30272 with z17 | z17
  · exact hg_al_get 32 30240 p hf_c29_17 z16 z17 h3
  rcases Nat.lt_or_ge p 30304 with z18 | z18
  · exact hg_al_get 32 30272 p hf_c29_18 z17 z18 h3
  rcases Nat.lt_or_ge p 30336 with z19 | z19
  · exact hg_al_get 32 30304 p hf_c29_19 z18 z19 h3
  rcases Nat.lt_or_ge p 30368 with z20 | z20
  · exact hg_al_get 32 30336 p hf_c29_20 z19 z20 h3
  rcases Nat.lt_or_ge p 30400 with z21 | z21
  · exact hg_al_get 32 30368 p hf_c29_21 z20 z21 h3
  rcases Nat.lt_or_ge p 30432 with z22 | z22
  · exact hg_al_get 32 30400 p hf_c29_22 z21 z22 h3
  rcases Nat.lt_or_ge p 30464 with z23 | z23
  · exact hg_al_get 32 30432 p hf_c29_23 z22 z23 h3
  rcases Nat.lt_or_ge p 30496 with z24 | z24
  · exact hg_al_get 32 30464 p hf_c29_24 z23 z24 h3
  rcases Nat.lt_or_ge p 30528 with z25 | z25
  · exact hg_al_get 32 30496 p hf_c29_25 z24 z25 h3
  rcases Nat.lt_or_ge p 30560 with z26 | z26
  · exact hg_al_get 32 30528 p hf_c29_26 z25 z26 h3
  rcases Nat.lt_or_ge p 30592 with z27 | z27
  · exact hg_al_get 32 30560 p hf_c29_27 z26 z27 h3
  rcases Nat.lt_or_ge p 30624 with z28 | z28
  · exact hg_al_get 32 30592 p hf_c29_28 z27 z28 h3
  rcases Nat.lt_or_ge p 30656 with z29 | z29
  · exact hg_al_get 32 30624 p hf_c29_29 z28 z29 h3
  rcases Nat.lt_or_ge p 30688 with z30 | z30
  · exact hg_al_get 32 30656 p hf_c29_30 z29 z30 h3
  exact hg_al_get 32 30688 p hf_c29_31 z30 h2 h3
theorem hf_c30_0 : hg_al 32 30720 = true := by decide +kernel
theorem hf_c30_1 : hg_al 32 30752 = true := by decide +kernel
theorem hf_c30_2 : hg_al 32 30784 = true := by decide +kernel
theorem hf_c30_3 : hg_al 32 30816 = true := by decide +kernel
theorem hf_c30_4 : hg_al 32 30848 = true := by decide +kernel
theorem hf_c30_5 : hg_al 32 30880 = true := by decide +kernel
theorem hf_c30_6 : hg_al 32 30912 = true := by decide +kernel
theorem hf_c30_7 : hg_al 32 30944 = true := by decide +kernel
theorem hf_c30_8 : hg_al 32 30976 = true := by decide +kernel
theorem hf_c30_9 : hg_al 32 31008 = true := by decide +kernel
theorem hf_c30_10 : hg_al 32 31040 = true := by decide +kernel
theorem hf_c30_11 : hg_al 32 31072 = true := by decide +kernel
theorem hf_c30_12 : hg_al 32 31104 = true := by decide +kernel
theorem hf_c30_13 : hg_al 32 31136 = true := by decide +kernel
theorem hf_c30_14 : hg_al 32 31168 = true := by decide +kernel
theorem hf_c30_15 : hg_al 32 31200 = true := by decide +kernel
theorem hf_c30_16 : hg_al 32 31232 = true := by decide +kernel
theorem hf_c30_17 : hg_al 32 31264 = true := by decide +kernel
theorem hf_c30_18 : hg_al 32 31296 = true := by decide +kernel
theorem hf_c30_19 : hg_al 32 31328 = true := by decide +kernel
theorem hf_c30_20 : hg_al 32 31360 = true := by decide +kernel
theorem hf_c30_21 : hg_al 32 31392 = true := by decide +kernel
theorem hf_c30_22 : hg_al 32 31424 = true := by decide +kernel
theorem hf_c30_23 : hg_al 32 31456 = true := by decide +kernel
theorem hf_c30_24 : hg_al 32 31488 = true := by decide +kernel
theorem hf_c30_25 : hg_al 32 31520 = true := by decide +kernel
theorem hf_c30_26 : hg_al 32 31552 = true := by decide +kernel
theorem hf_c30_27 : hg_al 32 31584 = true := by decide +kernel
theorem hf_c30_28 : hg_al 32 31616 = true := by decide +kernel
theorem hf_c30_29 : hg_al 32 31648 = true := by decide +kernel
theorem hf_c30_30 : hg_al 32 31680 = true := by decide +kernel
theorem hf_c30_31 : hg_al 32 31712 = true := by decide +kernel
theorem hf_c30 {p : Nat} (h : 30720 ≤ p) (h2 : p < 31744) (h3 : p < 31744) : hf_ck p = true := by
  rcases Nat.lt_or_ge p 30752 with z0 | z0
  · exact hg_al_get 32 30720 p hf_c30_0 h z0 h3
  rcases Nat.lt_or_ge p 30784 with z1 | z1
  · exact hg_al_get 32 30752 p hf_c30_1 z0 z1 h3
  rcases Nat.lt_or_ge p 30816 with z2 | z2
  · exact hg_al_get 32 30784 p hf_c30_2 z1 z2 h3
  rcases Nat.lt_or_ge p 30848 with z3 | z3
  · exact hg_al_get 32 30816 p hf_c30_3 z2 z3 h3
  rcases Nat.lt_or_ge p 30880 with z4 | z4
  · exact hg_al_get 32 30848 p hf_c30_4 z3 z4 h3
  rcases Nat.lt_or_ge p 30912 with z5 | z5
  · exact hg_al_get 32 30880 p hf_c30_5 z4 z5 h3
  rcases Nat.lt_or_ge p 30944 with z6 | z6
  · exact hg_al_get 32 30912 p hf_c30_6 z5 z6 h3
  rcases Nat.lt_or_ge p 30976 with z7 | z7
  · exact hg_al_get 32 30944 p hf_c30_7 z6 z7 h3
  rcases Nat.lt_or_ge p 31008 with z8 | z8
  · exact hg_al_get 32 30976 p hf_c30_8 z7 z8 h3
  rcases Nat.lt_or_ge p 31040 with z9 | z9
  · exact hg_al_get 32 31008 p hf_c30_9 z8 z9 h3
  rcases Nat.lt_or_ge p 31072 with z10 | z10
  · exact hg_al_get 32 31040 p hf_c30_10 z9 z10 h3
  rcases Nat.lt_or_ge p 31104 with z11 | z11
  · exact hg_al_get 32 31072 p hf_c30_11 z10 z11 h3
  rcases Nat.lt_or_ge p 31136 with z12 | z12
  · exact hg_al_get 32 31104 p hf_c30_12 z11 z12 h3
  rcases Nat.lt_or_ge p 31168 with z13 | z13
  · exact hg_al_get 32 31136 p hf_c30_13 z12 z13 h3
  rcases Nat.lt_or_ge p 31200 with z14 | z14
  · exact hg_al_get 32 31168 p hf_c30_14 z13 z14 h3
  rcases Nat.lt_or_ge p 31232 with z15 | z15
  · exact hg_al_get 32 31200 p hf_c30_15 z14 z15 h3
  rcases Nat.lt_or_ge p 31264 with z16 | z16
  · exact hg_al_get 32 31232 p hf_c30_16 z15 z16 h3
  rcases Nat.lt_or_ge p 31296 with z17 | z17
  · exact hg_al_get 32 31264 p hf_c30_17 z16 z17 h3
  rcases Nat.lt_or_ge p 31328 with z18 | z18
  · exact hg_al_get 32 31296 p hf_c30_18 z17 z18 h3
  rcases Nat.lt_or_ge p 31360 with z19 | z19
  · exact hg_al_get 32 31328 p hf_c30_19 z18 z19 h3
  rcases Nat.lt_or_ge p 31392 with z20 | z20
  · exact hg_al_get 32 31360 p hf_c30_20 z19 z20 h3
  rcases Nat.lt_or_ge p 31424 with z21 | z21
  · exact hg_al_get 32 31392 p hf_c30_21 z20 z21 h3
  rcases Nat.lt_or_ge p 31456 with z22 | z22
  · exact hg_al_get 32 31424 p hf_c30_22 z21 z22 h3
  rcases Nat.lt_or_ge p 31488 with z23 | z23
  · exact hg_al_get 32 31456 p hf_c30_23 z22 z23 h3
  rcases Nat.lt_or_ge p 31520 with z24 | z24
  · exact hg_al_get 32 31488 p hf_c30_24 z23 z24 h3
  rcases Nat.lt_or_ge p 31552 with z25 | z25
  · exact hg_al_get 32 31520 p hf_c30_25 z24 z25 h3
  rcases Nat.lt_or_ge p 31584 with z26 | z26
  · exact hg_al_get 32 31552 p hf_c30_26 z25 z26 h3
  rcases Nat.lt_or_ge p 31616 with z27 | z27
  · exact hg_al_get 32 31584 p hf_c30_27 z26 z27 h3
  rcases Nat.lt_or_ge p 31648 with z28 | z28
  · exact hg_al_get 32 31616 p hf_c30_28 z27 z28 h3
  rcases Nat.lt_or_ge p 31680 with z29 | z29
  · exact hg_al_get 32 31648 p hf_c30_29 z28 z29 h3
  rcases Nat.lt_or_ge p 31712 with z30 | z30
  · exact hg_al_get 32 31680 p hf_c30_30 z29 z30 h3
  exact hg_al_get 32 31712 p hf_c30_31 z30 h2 h3
theorem hf_ck_all {p : Nat} (h : p < 31744) : hf_ck p = true := by
  rcases Nat.lt_or_ge p 1024 with z0 | z0
  · exact hf_c0 (Nat.zero_le p) z0 h
  rcases Nat.lt_or_ge p 2048 with z1 | z1
  · exact hf_c1 z0 z1 h
  rcases Nat.lt_or_ge p 3072 with z2 | z2
  · exact hf_c2 z1 z2 h
  rcases Nat.lt_or_ge p 4096 with z3 | z3
  · exact hf_c3 z2 z3 h
  rcases Nat.lt_or_ge p 5120 with z4 | z4
  · exact hf_c4 z3 z4 h
  rcases Nat.lt_or_ge p 6144 with z5 | z5
  · exact hf_c5 z4 z5 h
  rcases Nat.lt_or_ge p 7168 with z6 | z6
  · exact hf_c6 z5 z6 h
  rcases Nat.lt_or_ge p 8192 with z7 | z7
  · exact hf_c7 z6 z7 h
  rcases Nat.lt_or_ge p 9216 with z8 | z8
  · exact hf_c8 z7 z8 h
  rcases Nat.lt_or_ge p 10240 with z9 | z9
  · exact hf_c9 z8 z9 h
  rcases Nat.lt_or_ge p 11264 with z10 | z10
  · exact hf_c10 z9 z10 h
  rcases Nat.lt_or_ge p 12288 with z11 | z11
  · exact hf_c11 z10 z11 h
  rcases Nat.lt_or_ge p 13312 with z12 | z12
  · exact hf_c12 z11 z12 h
  rcases Nat.lt_or_ge p 14336 with z13 | z13
  · exact hf_c13 z12 z13 h
  rcases Nat.lt_or_ge p 15360 with z14 | z14
  · exact hf_c14 z13 z14 h
  rcases Nat.lt_or_ge p 16384 with z15 | z15
  · exact hf_c15 z14 z15 h
  rcases Nat.lt_or_ge p 17408 with z16 | z16
  · exact hf_c16 z15 z16 h
  rcases Nat.lt_or_ge p 18432 with z17 | z17
  · exact hf_c17 z16 z17 h
  rcases Nat.lt_or_ge p 19456 with z18 | z18
  · exact hf_c18 z17 z18 h
  rcases Nat.lt_or_ge p 20480 with z19 | z19
  · exact hf_c19 z18 z19 h
  rcases Nat.lt_or_ge p 21504 with z20 | z20
  · exact hf_c20 z19 z20 h
  rcases Nat.lt_or_ge p 22528 with z21 | z21
  · exact hf_c21 z20 z21 h
  rcases Nat.lt_or_ge p 23552 with z22 | z22
  · exact hf_c22 z21 z22 h
  rcases Nat.lt_or_ge p 24576 with z23 | z23
  · exact hf_c23 z22 z23 h
  rcases Nat.lt_or_ge p 25600 with z24 | z24
  · exact hf_c24 z23 z24 h
  rcases Nat.lt_or_ge p 26624 with z25 | z25
  · exact hf_c25 z24 z25 h
  rcases Nat.lt_or_ge p 27648 with z26 | z26
  · exact hf_c26 z25 z26 h
  rcases Nat.lt_or_ge p 28672 with z27 | z27
  · exact hf_c27 z26 z27 h
  rcases Nat.lt_or_ge p 29696 with z28 | z28
  · exact hf_c28 z27 z28 h
  rcases Nat.lt_or_ge p 30720 with z29 | z29
  · exact hf_c29 z28 z29 h
  exact hf_c30 z29 h h
end
section
/-! digits and exponent -/
theorem hf_Z0 {k : Nat} (hk : hf_ok k) : hz_l (hf_Z k) = 0 ↔ hf_dg k = 0 := by
  have b := hf_Z_bd hk
  rw [← hz_l0, hz_lEQ (by omega) (by omega)]
  have e : hf_Z k = 0 ↔ hf_A (k % 32768) = 0 := by
    unfold hf_Z
    split <;> omega
  rw [e, hf_A_ds, Nat.mul_eq_zero]
  have := Nat.two_pow_pos (hf_sh k)
  constructor
  · intro h
    rcases h with h | h
    · exact h
    · omega
  · exact Or.inl
theorem hf_dg_p {k : Nat} (h : hf_dg k ≠ 0) : k % 32768 ≠ 0 := by
  intro z
  apply h
  unfold hf_dg hf_e
  rw [if_pos (by omega)]
  omega
theorem hx_big {k : Nat} (hk : hf_ok k) (h : hf_dg k ≠ 0) : ∃ S, hf_ys (hf_A (k % 32768)) (k % 32768) 17 0 0 = S ∧ 32 ≤ S ∧ S < 32000000 ∧ S % 32 ≤ 17 ∧
    (∀ post : Int32 → Prop, post (nI (S / 32 * 32 + 20 - S % 32)) → wpX_writingOf post (nI k &&& (-32769))) := by
  have he := hk.2
  have h2 : k % 32768 < 31744 := by unfold hf_e at he; omega
  obtain ⟨S, hS, h32, hlt, hx⟩ := hf_ck_get (hf_dg_p h) (hf_ck_all h2)
  have inv := hf_inv_ys 17 0 0 (by omega) (Or.inl rfl) (by rw [hS]; exact hlt)
  rw [hS] at inv
  rcases inv with z | ⟨i1, i2, i3⟩
  · omega
  · refine ⟨S, hS, i1, i2, i3, fun post hp => ?_⟩
    rw [hx_ms hk.1]
    exact hx_writing h2 (by rw [hx]; omega) (by rw [hx]; exact hp)
theorem hy_digits {k S : Nat} (hk : hf_ok k) (h : hf_dg k ≠ 0) (hS : hf_ys (hf_A (k % 32768)) (k % 32768) 17 0 0 = S) (hlt : S < 100000000000000000000) {v : SY} {post : Int32 → SY → Prop} (hp : ∀ w : SY, post (nI (S / 32)) w) : wpY_digits post v (nI k) := by
  obtain ⟨fd, fx⟩ := v
  have d2 := hf_dg_lt k
  unfold wpY_digits
  dsimp only
  refine hy_ok hk (br_t rfl (hy_dig hk.1 (br_f (fun y => h ((pk_lEQ (b := 0) (by omega) (by decide)).mp y)) (hy_write hk hS hlt (fun fd' fx' g => ?_)))))
  rw [g.1]
  exact hp _
theorem hy_digits0 {k : Nat} (hk : hf_ok k) (h : hf_dg k = 0) {v : SY} {post : Int32 → SY → Prop} (hp : post 0 v) : wpY_digits post v (nI k) := by
  obtain ⟨fd, fx⟩ := v
  unfold wpY_digits
  dsimp only
  exact hy_ok hk (br_t rfl (hy_dig hk.1 (br_t (by rw [h]; rfl) hp)))
theorem hy_exponent {k S : Nat} (hk : hf_ok k) (h : hf_dg k ≠ 0) (hS : hf_ys (hf_A (k % 32768)) (k % 32768) 17 0 0 = S) (h0 : S ≠ 0) (hlt : S < 100000000000000000000) {v : SY} {post : Int32 → SY → Prop} (hp : ∀ w : SY, post (hz_i (4 - ((S % 32 : Nat) : Int))) w) : wpY_exponent post v (nI k) := by
  obtain ⟨fd, fx⟩ := v
  have d2 := hf_dg_lt k
  unfold wpY_exponent
  dsimp only
  refine hy_ok hk (br_t rfl (hy_dig hk.1 (br_f (fun y => h ((pk_lEQ (b := 0) (by omega) (by decide)).mp y)) (hy_write hk hS hlt (fun fd' fx' g => ?_)))))
  rw [g.2 h0]
  exact hp _
theorem hy_exponent0 {k : Nat} (hk : hf_ok k) (h : hf_dg k = 0) {v : SY} {post : Int32 → SY → Prop} (hp : post 0 v) : wpY_exponent post v (nI k) := by
  obtain ⟨fd, fx⟩ := v
  unfold wpY_exponent
  dsimp only
  exact hy_ok hk (br_t rfl (hy_dig hk.1 (br_t (by rw [h]; rfl) hp)))
theorem i_vc_digits {k : Nat} {u : SX} {v : SY} (I : i_Rel k u v) (hk : k + 3 ≤ 1536) (v1 : Int32) : wpX_digits (fun r => wpY_digits (fun r' v' => r' = r ∧ i_Rel (k + 3) u v') v v1) u v1 := by
  rcases hx_cls v1 with ⟨a, rfl, ha⟩ | ⟨x1, y1⟩
  · by_cases z : hf_dg a = 0
    · exact hx_ok ha (br_f (by decide) (hx_uni ha (br_t ((hf_Z0 ha).mpr z) (hy_digits0 ha z ⟨rfl, True.intro⟩))))
    · obtain ⟨S, hS, h32, hlt, h17, W⟩ := hx_big ha z
      refine hx_ok ha (br_f (by decide) (hx_uni ha (br_f (fun y => z ((hf_Z0 ha).mp y)) (W _ (hy_digits ha z hS (by omega) (fun w => ⟨?_, True.intro⟩))))))
      have e : nI (S / 32 * 32 + 20 - S % 32) >>> ((5 : Int32) &&& 31) = nI ((S / 32 * 32 + 20 - S % 32) / 32) := pk_shrN (by omega) _ 5 (by decide)
      rw [e]
      congr 1
      omega
  · exact x1 _ (br_t rfl (hy_digits_n1 y1 ⟨rfl, True.intro⟩))
theorem i_vc_exponent {k : Nat} {u : SX} {v : SY} (I : i_Rel k u v) (hk : k + 3 ≤ 1536) (v1 : Int32) : wpX_exponent (fun r => wpY_exponent (fun r' v' => r' = r ∧ i_Rel (k + 3) u v') v v1) u v1 := by
  rcases hx_cls v1 with ⟨a, rfl, ha⟩ | ⟨x1, y1⟩
  · by_cases z : hf_dg a = 0
    · exact hx_ok ha (br_f (by decide) (hx_uni ha (br_t ((hf_Z0 ha).mpr z) (hy_exponent0 ha z ⟨rfl, True.intro⟩))))
    · obtain ⟨S, hS, h32, hlt, h17, W⟩ := hx_big ha z
      refine hx_ok ha (br_f (by decide) (hx_uni ha (br_f (fun y => z ((hf_Z0 ha).mp y)) (W _ (hy_exponent ha z hS (by omega) (by omega) (fun w => ⟨?_, True.intro⟩))))))
      have e : nI (S / 32 * 32 + 20 - S % 32) &&& 31 = nI ((S / 32 * 32 + 20 - S % 32) % 32) := pk_andN (by omega) 5 (by decide)
      rw [e, ← hz_in, ← hz_16, hz_is]
      congr 1
      omega
  · exact x1 _ (br_t rfl (hy_exponent_n1 y1 ⟨rfl, True.intro⟩))
end
