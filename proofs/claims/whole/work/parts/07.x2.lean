/-! the component's rounding -/
theorem hx_69 {r : Nat} (hr : r ≤ 31744) {neg : Int32} {post : Int32 → Prop} (hp : post (if neg = 0 then nI r else nI (hf_sn r))) : wX_rounded_69 post neg (lN r) := by
  by_cases z : neg = 0
  · rw [if_pos z] at hp
    exact br_t z (by rw [lN_i]; exact hp)
  · rw [if_neg z] at hp
    refine br_f z ?_
    by_cases y : r = 0
    · subst y
      exact br_t rfl (by rw [lN_i]; exact hp)
    · rw [hf_sn, if_neg y] at hp
      refine br_f (fun w => y ((pk_lEQ (b := 0) (by omega) (by decide)).mp w)) (nm_r (lN_add r 32768) ?_)
      rw [lN_i]
      exact hp
theorem hx_pat {E K r : Nat} {pl : Int} {neg : Int32} {post : Int32 → Prop} (hpl : pl = (E : Int) - 24) (hE : E < 400) (hK : K ≤ 2048) (hr : hf_mn (E * 1024 + K) = r) (hp : post (if neg = 0 then nI r else nI (hf_sn r))) :
    ∀ x8 : Int64, x8 = (((hz_i pl - (-24)).toInt64) <<< ((10 : Int32).toInt64 &&& 63)) + lN K → ((x8 ≤ 31744 → wX_rounded_69 post neg x8) ∧ (¬ x8 ≤ 31744 → wX_rounded_69 post neg 31744)) := by
  have e1 : hz_i pl - (-24) = nI E := by rw [← hz_m24, hz_is, hpl, show (E : Int) - 24 - -24 = (E : Int) by omega, hz_in]
  have e2 : lN E <<< ((10 : Int32).toInt64 &&& 63) + lN K = lN (E * 1024 + K) :=
    (congrArg (fun z => z + lN K) (wb_shl E (k := 10) (by decide))).trans (lN_add _ _)
  rw [e1, nI_l (by omega), e2]
  refine nm_e ?_
  rcases Nat.lt_or_ge 31744 (E * 1024 + K) with z | z
  · rw [hf_mn_hi (by omega)] at hr
    subst hr
    refine br_f (fun y => ?_) (hx_69 (r := 31744) (by omega) hp)
    have := (pk_lLE (b := 31744) (by omega) (by decide)).mp y
    omega
  · rw [hf_mn_lo z] at hr
    subst hr
    exact br_t ((pk_lLE (b := 31744) (by omega) (by decide)).mpr z) (hx_69 z hp)
theorem hx_30 {A u l a b E L : Nat} {s pl sf : Int} {m neg : Int32} {post : Int32 → Prop} (hA : A < 2 ^ 62) (hs : -85 ≤ s ∧ s ≤ 60) (hab : s + 24 = (a : Int) - b) (hl : 0 < l)
    (h1 : A * (l * 2 ^ a) ≤ u * 2 ^ b) (h2 : u * 2 ^ b < (A + 1) * (l * 2 ^ a)) (hm : ¬ m = 0 ↔ u * 2 ^ b ≠ A * (l * 2 ^ a)) (hM : ¬ m = 0 → 2048 ≤ A ∨ a < b)
    (hL1 : 2 ^ (L - 1) ≤ A) (hL2 : A < 2 ^ L) (hL : 1 ≤ L) (hL3 : L ≤ 62) (hpl : pl = (E : Int) - 24)
    (hc : ((L : Int) - 11 + s < -24 ∧ E = 0 ∧ sf = -24 - s) ∨ (-24 ≤ (L : Int) - 11 + s ∧ (E : Int) = L - 11 + s + 24 ∧ sf = L - 11))
    (hp : post (if neg = 0 then nI (hf_R u l) else nI (hf_sn (hf_R u l)))) : wX_rounded_30 post (lN A) (hz_i s) m neg (hz_i pl) := by
  obtain ⟨s0, s1⟩ := hf_sel hL1 hL2 hL hc
  have e : hz_i pl - hz_i s = hz_i sf := by rw [hz_is]; congr 1; omega
  unfold wX_rounded_30
  rw [e]
  have hE : E < 400 := by omega
  by_cases c : 0 < sf
  · obtain ⟨sh, hsh⟩ : ∃ sh : Nat, sf = (sh : Int) := ⟨sf.toNat, by omega⟩
    obtain ⟨k1, k2⟩ := s1 sh hsh
    have X := hf_X1 (sh := sh) (by omega) (show E + b = sh + a by omega) h1 h2 hm k1 k2
    rw [hsh, hz_in]
    exact hx_rs1 hA (by omega) (by omega) (fun w => hx_pat hpl hE (by omega) (X.1 w).symm hp) (fun w => hx_pat hpl hE (by omega) (X.2 w).symm hp)
  · obtain ⟨t, ht⟩ : ∃ t : Nat, sf = -(t : Int) := ⟨(-sf).toNat, by omega⟩
    obtain ⟨k1, k2⟩ := s0 t ht
    have hm0 : m = 0 := by
      by_cases y : m = 0
      · exact y
      · rcases hM y with w | w
        · have h12 : 2 ^ 11 < 2 ^ L := Nat.lt_of_le_of_lt w hL2
          have h13 : 11 < L := (Nat.pow_lt_pow_iff_right (by decide)).mp h12
          omega
        · omega
    have hx : u * 2 ^ b = A * (l * 2 ^ a) := by
      by_cases y : u * 2 ^ b = A * (l * 2 ^ a)
      · exact y
      · exact absurd hm0 (hm.mpr y)
    have X := hf_X0 hl (show E + t + b = a by omega) hx k1 k2
    rw [ht]
    exact hx_rs0 (by omega) (hx_pat hpl hE (by omega) X.symm hp)
theorem hx_rounded {A u l a b : Nat} {s : Int} {m neg : Int32} {post : Int32 → Prop} (hA : A < 2 ^ 62) (hs : -85 ≤ s ∧ s ≤ 60) (hab : s + 24 = (a : Int) - b) (hl : 0 < l)
    (h1 : A * (l * 2 ^ a) ≤ u * 2 ^ b) (h2 : u * 2 ^ b < (A + 1) * (l * 2 ^ a)) (hm : ¬ m = 0 ↔ u * 2 ^ b ≠ A * (l * 2 ^ a)) (hM : ¬ m = 0 → 0 < A ∧ (2048 ≤ A ∨ a < b))
    (hp : post (if neg = 0 then nI (hf_R u l) else nI (hf_sn (hf_R u l)))) : wpX_rounded post (lN A) (hz_i s) m neg := by
  by_cases z : A = 0
  · subst z
    have hm0 : m = 0 := by
      by_cases y : m = 0
      · exact y
      · have := (hM y).1
        omega
    have hx : u * 2 ^ b = 0 := by
      by_cases y : u * 2 ^ b = 0 * (l * 2 ^ a)
      · rw [y, Nat.zero_mul]
      · exact absurd hm0 (hm.mpr y)
    have hu : u = 0 := by
      rcases Nat.mul_eq_zero.mp hx with y | y
      · exact y
      · have := Nat.two_pow_pos b
        omega
    rw [hu, hf_R_zero hl] at hp
    refine br_t rfl ?_
    by_cases y : neg = 0
    · rw [if_pos y] at hp
      exact hp
    · rw [if_neg y] at hp
      exact hp
  · refine br_f (fun y => z ((pk_lEQ (b := 0) (by omega) (by decide)).mp y)) (hx_bl z hA ?_)
    have hL3 := hf_L3 z hA
    have hL1 := hf_L1 z
    have hL2 := hf_L2 A
    revert hL1 hL2 hL3
    generalize hLe : A.log2 + 1 = L
    intro hL3 hL1 hL2
    have hL : 1 ≤ L := by omega
    have e : nI L - 11 + hz_i s = hz_i ((L : Int) - 11 + s) := by rw [← hz_in, ← hz_11, hz_is, hz_ia]
    refine nm_r e ?_
    by_cases c : -24 ≤ (L : Int) - 11 + s
    · obtain ⟨E, hE⟩ : ∃ E : Nat, (E : Int) = (L : Int) - 11 + s + 24 := ⟨((L : Int) - 11 + s + 24).toNat, by omega⟩
      refine br_t ?_ (hx_30 hA (by omega) hab hl h1 h2 hm (fun y => (hM y).2) hL1 hL2 hL hL3 (by omega) (Or.inr ⟨c, hE, rfl⟩) hp)
      rw [← hz_m24, hz_iLE (by omega) (by omega)]
      exact c
    · refine br_f (fun y => ?_) ?_
      · rw [← hz_m24, hz_iLE (by omega) (by omega)] at y
        exact c y
      · rw [← hz_m24]
        exact hx_30 (E := 0) hA (by omega) hab hl h1 h2 hm (fun y => (hM y).2) hL1 hL2 hL hL3 (by omega) (Or.inl ⟨by omega, rfl, rfl⟩) hp
theorem hx_rex {A u l a b : Nat} {s : Int} {neg : Int32} {post : Int32 → Prop} (hA : A < 2 ^ 62) (hs : -85 ≤ s ∧ s ≤ 60) (hab : s + 24 = (a : Int) - b) (hl : 0 < l) (h : u * 2 ^ b = A * (l * 2 ^ a))
    (hp : post (if neg = 0 then nI (hf_R u l) else nI (hf_sn (hf_R u l)))) : wpX_rounded post (lN A) (hz_i s) 0 neg := by
  have hq : 0 < l * 2 ^ a := Nat.mul_pos hl (Nat.two_pow_pos a)
  exact hx_rounded hA hs hab hl (by rw [h]; exact Nat.le_refl _) (by rw [h, Nat.add_mul, Nat.one_mul]; omega) ⟨fun y => absurd rfl y, fun y => absurd h y⟩ (fun y => absurd rfl y) hp
