/-! the fields of a pattern -/
def hf_e (k : Nat) : Nat := k / 1024 % 32
def hf_dg (k : Nat) : Nat := if hf_e k = 0 then k % 1024 else 1024 + k % 1024
def hf_sh (k : Nat) : Nat := if hf_e k = 0 then 0 else hf_e k - 1
theorem hf_e_lt (k : Nat) : hf_e k < 32 := Nat.mod_lt _ (by decide)
theorem hf_dg_lt (k : Nat) : hf_dg k < 2048 := by unfold hf_dg; split <;> omega
theorem hf_sh_lt (k : Nat) : hf_sh k < 31 := by
  have := hf_e_lt k
  unfold hf_sh
  split <;> omega
theorem hf_e_mod (k : Nat) : hf_e (k % 32768) = hf_e k := by unfold hf_e; omega
theorem hf_A_ds (k : Nat) : hf_A (k % 32768) = hf_dg k * 2 ^ hf_sh k := by
  have e0 : hf_e k = k % 32768 / 1024 := by unfold hf_e; omega
  have e1 : k % 32768 % 1024 = k % 1024 := by omega
  rcases Nat.lt_or_ge (k % 32768) 1024 with h | h
  · have z : hf_e k = 0 := by omega
    rw [hf_A_lo h, hf_dg, hf_sh, if_pos z, if_pos z]
    omega
  · have z : ¬ hf_e k = 0 := by omega
    rw [hf_A_hi h, hf_dg, hf_sh, if_neg z, if_neg z, e1, ← e0]
theorem hf_A_lt40 {k : Nat} (h : hf_e k ≠ 31) : hf_A (k % 32768) < 1099511627776 := by
  have h2 : k % 32768 < 31744 := by unfold hf_e at h; omega
  have h3 := hf_A_lt (k % 32768)
  have h4 := hf_A_bd (p := k % 32768 + 1) (by omega)
  omega
theorem hx_eb {k : Nat} (hk : k < 65536) : (nI k >>> ((10 : Int32) &&& 31)) &&& 31 = nI (hf_e k) := by
  have e1 := pk_shrN (n := k) (by omega) ((10 : Int32) &&& 31) 10 (by decide)
  have e2 := pk_andN (n := k / 1024) (by omega) (m := 31) 5 (by decide)
  rw [e1]
  exact e2
theorem hx_fr {k : Nat} (hk : k < 65536) : nI k &&& 1023 = nI (k % 1024) := pk_andN (by omega) 10 (by decide)
theorem hx_nand (a b : Nat) : nI a &&& nI b = nI (a &&& b) := by
  apply Int32.toBitVec_inj.1
  show BitVec.ofNat 32 a &&& BitVec.ofNat 32 b = BitVec.ofNat 32 (a &&& b)
  apply BitVec.eq_of_getLsbD_eq
  intro i hi
  simp [hi]
theorem hx_a0 {k : Nat} (h : k < 32768) : k &&& 32768 = 0 := by
  apply Nat.eq_of_testBit_eq
  intro i
  rw [Nat.testBit_and, Nat.zero_testBit, show (32768 : Nat) = 2 ^ 15 from rfl, Nat.testBit_two_pow]
  by_cases e : 15 = i
  · subst e
    rw [Nat.testBit_lt_two_pow h]
    rfl
  · simp [e]
theorem hx_a1 {k : Nat} (h : 32768 ≤ k) (h2 : k < 65536) : k &&& 32768 ≠ 0 := by
  intro z
  have t : Nat.testBit (k &&& 32768) 15 = Nat.testBit 0 15 := by rw [z]
  have h3 : Nat.testBit k 15 = true := by rw [Nat.testBit_eq_decide_div_mod_eq]; exact decide_eq_true (by omega)
  have h4 : Nat.testBit 32768 15 = true := by decide
  rw [Nat.testBit_and, h3, h4, Nat.zero_testBit] at t
  exact absurd t (by decide)
theorem hx_sg {k : Nat} (hk : k < 65536) : nI k &&& 32768 = 0 ↔ k < 32768 := by
  have e : nI k &&& 32768 = nI (k &&& 32768) := hx_nand k 32768
  have b : k &&& 32768 ≤ k := Nat.and_le_left
  rw [e, ← nI_0, nI_eq (by omega) (by omega)]
  constructor
  · intro z
    rcases Nat.lt_or_ge k 32768 with y | y
    · exact y
    · exact absurd z (hx_a1 y hk)
  · exact hx_a0
theorem hx_ms {k : Nat} (hk : k < 65536) : nI k &&& (-32769) = nI (k % 32768) := by
  have e : nI k &&& nI 4294934527 = nI (k &&& 4294934527) := hx_nand k 4294934527
  have e0 : (-32769 : Int32) = nI 4294934527 := by decide +kernel
  have e1 : k &&& 65535 = k := by
    have := Nat.and_two_pow_sub_one_eq_mod k 16
    rw [Nat.mod_eq_of_lt (by omega)] at this
    exact this
  have e2 : k &&& 4294934527 = k % 32768 := by
    have h : k &&& 65535 &&& 4294934527 = k &&& 32767 := by
      rw [Nat.and_assoc]
      exact congrArg (fun x => k &&& x) (by decide +kernel)
    rw [e1] at h
    rw [h]
    exact Nat.and_two_pow_sub_one_eq_mod k 15
  rw [e0, e, e2]
theorem hx_lo {k : Nat} (hk : k < 65536) : nI k &&& 32767 = nI (k % 32768) := pk_andN (by omega) 15 (by decide)
theorem hy_dv {k : Nat} (hk : k < 65536) : nI k / 1024 = nI (k / 1024) := pk_div (d := 1024) (by omega) (by decide) (by decide)
theorem hy_eb {k : Nat} (hk : k < 65536) : nI k / 1024 - nI k / 1024 / 32 * 32 = nI (hf_e k) := by
  rw [hy_dv hk]
  exact pk_rem (d := 32) (by omega) (by decide) (by decide)
theorem hy_fr {k : Nat} (hk : k < 65536) : nI k - nI k / 1024 * 1024 = nI (k % 1024) := pk_rem (d := 1024) (by omega) (by decide) (by decide)
/-- the number of a pattern, with its sign, in units -/
def hf_Z (k : Nat) : Int := if k < 32768 then (hf_A (k % 32768) : Int) else -(hf_A (k % 32768) : Int)
/-- patterns that are numbers -/
def hf_ok (k : Nat) : Prop := k < 65536 ∧ hf_e k ≠ 31
theorem hf_Z_bd {k : Nat} (h : hf_ok k) : -1099511627776 < hf_Z k ∧ hf_Z k < 1099511627776 := by
  have := hf_A_lt40 h.2
  unfold hf_Z
  split <;> omega
def hf_sn (r : Nat) : Nat := if r = 0 then 0 else r + 32768
