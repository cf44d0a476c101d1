/-! powers of ten, quotients, decimal numbers -/
theorem hx_ten {x : Nat} (hx : x ≤ 12) {post : Int64 → Prop} (hp : post (lN (10 ^ x))) : wpX_tenTo post (nI x) := by
  have key : ∀ d i, i + d = 12 → wX_tenTo_4 post (nI x) (d + 1) (lN (10 ^ (min i x))) (nI i) := by
    intro d
    induction d with
    | zero =>
      intro i hi
      refine br_t (nI_le (a := 12) (b := i) (by omega) (by omega)) ?_
      rw [show min i x = x by omega]
      exact hp
    | succ d ih =>
      intro i hi
      refine br_f (nI_ge (a := i) (b := 12) (by omega) (by decide)) ?_
      have ih2 := ih (i + 1) (by omega)
      rcases Nat.lt_or_ge i x with z | z
      · refine br_f (fun y => ?_) (nm_r (e' := lN (10 ^ (i + 1))) ?_ (nm_r (nI_1 i) ?_))
        · have := (nI_leI (by omega) (by omega)).mp y
          omega
        · rw [show min i x = i by omega, Nat.pow_succ]
          exact lN_mul _ 10
        · rw [show min (i + 1) x = i + 1 by omega] at ih2
          exact ih2
      · refine br_t ((nI_leI (by omega) (by omega)).mpr z) (nm_r (nI_1 i) ?_)
        rw [show min (i + 1) x = min i x by omega] at ih2
        exact ih2
  have k0 := key 12 0 (by omega)
  rw [Nat.zero_min] at k0
  exact ⟨13, k0⟩
theorem hx_wq {a b : Nat} (ha : a < 2 ^ 63) (hb : b < 2 ^ 63) (h0 : 0 < b) {post : Int64 → Prop} (hp : post (lN (a / b))) : wpX_wholeQuotient post (lN a) (lN b) := by
  refine br_f (fun y => ?_) ⟨fun y => ?_, ?_⟩
  · have := (pk_lLE (b := 0) hb (by decide)).mp y
    omega
  · have := (pk_lEQ (b := 0) hb (by decide)).mp y
    omega
  · rw [pk_lDiv ha h0 hb]
    exact hp
theorem hx_rdn {d n : Nat} (hd : d ≤ 999999) (h0 : 0 < n) (h12 : n ≤ 12) {post : Int32 → Prop} (hp : post (nI (hf_R (d * 16777216) (10 ^ n)))) : wpX_roundedDecimal post (lN d) (hz_i (-(n : Int))) := by
  have p1 := hf_p10 h12
  have p0 := hf_p10p n
  have e : d * 16777216 * 2 ^ 16 = d * 2 ^ 40 := by omega
  have hb : d * 2 ^ 40 < 2 ^ 62 := by omega
  have hb3 : d * 2 ^ 40 < 2 ^ 63 := by omega
  have e40 : lN d <<< ((40 : Int32).toInt64 &&& 63) = lN (d * 2 ^ 40) := wb_shl d (k := 40) (by decide)
  refine br_t ?_ ?_
  · rw [← hz_i0, hz_iLT (by omega) (by omega)]
    omega
  · rw [hz_ig, Int.neg_neg, hz_in]
    refine hx_ten h12 (nm_r e40 (hx_wq (by omega) (by omega) p0 ?_))
    have h1 : d * 2 ^ 40 / 10 ^ n * (10 ^ n * 2 ^ 0) ≤ d * 16777216 * 2 ^ 16 := by
      rw [Nat.pow_zero, Nat.mul_one, e]
      exact Nat.div_mul_le_self _ _
    have h2 : d * 16777216 * 2 ^ 16 < (d * 2 ^ 40 / 10 ^ n + 1) * (10 ^ n * 2 ^ 0) := by
      rw [Nat.pow_zero, Nat.mul_one, e]
      exact Nat.lt_mul_of_div_lt (Nat.lt_succ_self _) p0
    have h3 : d * 16777216 * 2 ^ 16 = d * 2 ^ 40 / 10 ^ n * (10 ^ n * 2 ^ 0) ↔ d * 2 ^ 40 / 10 ^ n * 10 ^ n = d * 2 ^ 40 := by
      rw [Nat.pow_zero, Nat.mul_one, e]
      exact ⟨fun h => h.symm, fun h => h.symm⟩
    have b0 : d * 2 ^ 40 / 10 ^ n * 10 ^ n ≤ d * 2 ^ 40 := Nat.div_mul_le_self _ _
    have b1 : d * 2 ^ 40 / 10 ^ n ≤ d * 2 ^ 40 := Nat.div_le_self _ _
    have b2 : d ≠ 0 → 0 < d * 2 ^ 40 / 10 ^ n := fun w => Nat.div_pos (by omega) p0
    have b3 : d = 0 → d * 2 ^ 40 / 10 ^ n * 10 ^ n = d * 2 ^ 40 := by
      intro w
      subst w
      rw [Nat.zero_mul, Nat.zero_div, Nat.zero_mul]
    rw [lN_mul]
    revert h1 h2 h3 b0 b1 b2 b3
    generalize d * 2 ^ 40 / 10 ^ n = A
    intro h1 h2 h3 b0 b1 b2 b3
    have eq : lN (A * 10 ^ n) = lN (d * 2 ^ 40) ↔ A * 10 ^ n = d * 2 ^ 40 := pk_lEQ (Nat.lt_of_le_of_lt b0 hb3) hb3
    by_cases y : A * 10 ^ n = d * 2 ^ 40
    · refine br_t (eq.mpr y) ?_
      have g := hx_rounded (A := A) (u := d * 16777216) (l := 10 ^ n) (a := 0) (b := 16) (s := -40) (m := 0) (neg := 0) (post := post) (Nat.lt_of_le_of_lt b1 hb) (by decide) (by decide) p0 h1 h2 ⟨fun w => absurd rfl w, fun w => absurd (h3.mpr y) w⟩ (fun w => absurd rfl w) (by rw [if_pos rfl]; exact hp)
      rw [hz_m40] at g
      exact g
    · refine br_f (fun w => y (eq.mp w)) ?_
      have g := hx_rounded (A := A) (u := d * 16777216) (l := 10 ^ n) (a := 0) (b := 16) (s := -40) (m := 1) (neg := 0) (post := post) (Nat.lt_of_le_of_lt b1 hb) (by decide) (by decide) p0 h1 h2 ⟨fun _ w => y (h3.mp w), fun _ => by decide⟩ (fun _ => ⟨b2 (fun w => y (b3 w)), Or.inr (by decide)⟩) (by rw [if_pos rfl]; exact hp)
      rw [hz_m40] at g
      exact g
theorem hx_rdp {d n : Nat} (hd : d ≤ 999999) (h12 : n ≤ 12) {post : Int32 → Prop} (hp : post (nI (hf_R (d * 10 ^ n * 16777216) 1))) : wpX_roundedDecimal post (lN d) (nI n) := by
  have p1 := hf_p10 h12
  have b1 : d * 10 ^ n ≤ 999999 * 1000000000000 := Nat.mul_le_mul hd p1
  refine br_f (nI_pos (by omega)) (hx_ten h12 (nm_r (lN_mul d (10 ^ n)) ?_))
  have g := hx_rex (A := d * 10 ^ n) (u := d * 10 ^ n * 16777216) (l := 1) (a := 24) (b := 0) (s := 0) (neg := 0) (post := post) (by omega) (by omega) (by omega) (by decide) (by omega) (by rw [if_pos rfl]; exact hp)
  rw [hz_i0] at g
  exact g
theorem hx_rd {d : Nat} {x : Int} (hd : d ≤ 999999) (hx : -12 ≤ x ∧ x ≤ 12) {post : Int32 → Prop} (hp : post (nI (hf_dc d x))) : wpX_roundedDecimal post (lN d) (hz_i x) := by
  by_cases z : x < 0
  · obtain ⟨n, rfl⟩ : ∃ n : Nat, x = -(n : Int) := ⟨(-x).toNat, by omega⟩
    rw [hf_dc_m (by omega)] at hp
    exact hx_rdn hd (by omega) (by omega) hp
  · obtain ⟨n, rfl⟩ : ∃ n : Nat, x = (n : Int) := ⟨x.toNat, by omega⟩
    rw [hf_dc_n] at hp
    rw [hz_in]
    exact hx_rdp hd (by omega) hp
/-! the writing -/
theorem hf_Z_lo {p : Nat} (h : p < 32768) : hf_Z p = (hf_A p : Int) := by rw [hf_Z, if_pos h, Nat.mod_eq_of_lt h]
theorem hx_u {p : Nat} (h : p < 31744) {post : Int64 → Prop} (hp : post (lN (hf_A p))) : wpX_unitsOf post (nI p) := by
  have ho : hf_ok p := ⟨by omega, by unfold hf_e; omega⟩
  refine hx_uni ho ?_
  rw [hf_Z_lo (by omega), hz_ln]
  exact hp
theorem hz_m8 : hz_i (-8) = -8 := by decide +kernel
theorem hx_fdp {V : Nat} (hV : V < 1099511627776) {post : Int32 → Prop} (n : Nat) : ∀ k, k + n = 12 → (5 ≤ k → hf_ov V (k - 1) < 16777216) → post (hz_i (4 - (hf_pl V n k : Int))) → wX_firstDigitPlace_7 post (lN V) (n + 1) (hz_i (4 - (k : Int))) := by
  induction n with
  | zero =>
    intro k hk _ hp
    have e : k = 12 := by omega
    subst e
    refine br_t ?_ ?_
    · rw [← hz_m8, hz_iLE (by omega) (by omega)]
      omega
    · rw [← hz_m8]
      exact hp
  | succ n ih =>
    intro k hk hI hp
    refine br_f (fun y => ?_) ?_
    · rw [← hz_m8, hz_iLE (by omega) (by omega)] at y
      omega
    have step : hz_i (4 - (k : Int)) + (-1) = hz_i (4 - ((k + 1 : Nat) : Int)) := by
      rw [← hz_m1, hz_ia]
      congr 1
      omega
    rw [hf_pl] at hp
    have main : ∀ (x y : Nat), hf_ov V k = x → hf_un k = y → (y ≤ x → wX_firstDigitPlace_57 post (wX_firstDigitPlace_7 post (lN V) (n + 1)) (lN V) (hz_i (4 - (k : Int))) 1) ∧ (x < y → wX_firstDigitPlace_57 post (wX_firstDigitPlace_7 post (lN V) (n + 1)) (lN V) (hz_i (4 - (k : Int))) 0) := by
      intro x y hx hy
      rw [hx, hy] at hp
      refine ⟨fun h => ?_, fun h => ?_⟩
      · rw [hf_ct (hf_et h)] at hp
        exact br_f (by decide) hp
      · rw [hf_cf (hf_ef h)] at hp
        refine br_t rfl (nm_r step (ih (k + 1) (by omega) (fun h5 => ?_) hp))
        rw [Nat.add_sub_cancel, hx]
        rw [hf_un_hi (by omega)] at hy
        omega
    by_cases c : 4 < k
    · have hov : hf_ov V k < 167772160 := by
        obtain ⟨i, rfl⟩ : ∃ i, k = i + 1 := ⟨k - 1, by omega⟩
        have := hI (by omega)
        rw [Nat.add_sub_cancel] at this
        rw [hf_ov_s (by omega)]
        omega
      obtain ⟨m1, m2⟩ := main _ _ rfl (hf_un_hi (by omega))
      refine br_t ?_ ?_
      · rw [← hz_i0, hz_iLT (by omega) (by omega)]
        omega
      · rw [hz_ig, show -(4 - (k : Int)) = ((k - 4 : Nat) : Int) by omega, hz_in]
        refine hx_ten (by omega) ?_
        rw [lN_mul]
        have eq : lN (V * 10 ^ (k - 4)) < 16777216 ↔ hf_ov V k < 16777216 := pk_lLT (b := 16777216) (show hf_ov V k < 2 ^ 63 by omega) (by decide)
        by_cases y : hf_ov V k < 16777216
        · exact br_t (eq.mpr y) (m2 y)
        · exact br_f (fun w => y (eq.mp w)) (m1 (by omega))
    · obtain ⟨m1, m2⟩ := main _ _ (hf_ov_lo (by omega)) rfl
      have p1 := hf_p10 (n := 4 - k) (by omega)
      have p2 : 10 ^ (4 - k) ≤ 10 ^ 4 := Nat.pow_le_pow_right (by decide) (by omega)
      refine br_f ?_ ?_
      · rw [← hz_i0, hz_iLT (by omega) (by omega)]
        omega
      · rw [show (4 : Int) - (k : Int) = ((4 - k : Nat) : Int) by omega, hz_in] at m1 m2 ⊢
        refine hx_ten (by omega) ?_
        have e : (16777216 : Int64) * lN (10 ^ (4 - k)) = lN (hf_un k) := lN_mul 16777216 _
        rw [e]
        have hun : hf_un k < 2 ^ 63 := by
          show 16777216 * 10 ^ (4 - k) < 2 ^ 63
          omega
        have eq : lN V < lN (hf_un k) ↔ V < hf_un k := pk_lLT (by omega) hun
        by_cases y : V < hf_un k
        · exact br_t (eq.mpr y) (m2 y)
        · exact br_f (fun w => y (eq.mp w)) (m1 (by omega))
