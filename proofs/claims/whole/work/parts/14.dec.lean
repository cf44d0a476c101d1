/-! decimal numbers: the reference -/
theorem hy_pow {x : Nat} (hx : x ≤ 30) {post : Int64 → Prop} (hp : post (lN (10 ^ x))) : wpY_power post (nI x) := by
  have key : ∀ d i, i + d = x → wY_power_4 post (nI x) (d + 1) (lN (10 ^ i)) (nI i) := by
    intro d
    induction d with
    | zero =>
      intro i hi
      have e : i = x := by omega
      subst e
      exact br_t (Int32.le_refl _) hp
    | succ d ih =>
      intro i hi
      refine br_f (nI_ge (a := i) (b := x) (by omega) (by omega)) (nm_r (e' := lN (10 ^ (i + 1))) ?_ (nm_r (nI_1 i) (ih (i + 1) (by omega))))
      rw [Nat.pow_succ, Nat.mul_comm]
      exact lN_mul 10 _
  exact ⟨x + 1, key x 0 (by omega)⟩
theorem hy_50 {v R : Nat} (hv : v < 2 ^ 30) {post : Int32 → Prop} (hp : post (nI R)) (h1 : 100000 ≤ v → R = 31744) (h2 : v < 100000 → R = hf_R (v * 16777216) 1) : wY_parsed_50 post (lN v) := by
  rcases Nat.lt_or_ge v 100000 with z | z
  · rw [h2 z] at hp
    refine br_f (fun y => by have := (pk_lLE (a := 100000) (by decide) (by omega)).mp y; omega) ?_
    have e : lN v <<< ((24 : Int32).toInt64 &&& 63) = lN (v * 16777216) := wb_shl _ (k := 24) (by decide)
    unfold wY_parsed_68
    rw [e]
    exact hy_near (l := 1) (by omega) (by decide) (by decide) hp
  · rw [h1 z] at hp
    refine br_t ((pk_lLE (a := 100000) (by decide) (by omega)).mpr z) ?_
    exact hy_near (u := 1099511627776) (l := 1) (by decide) (by decide) (by decide) (by rw [hf_R_40]; exact hp)
theorem hy_pp {d n : Nat} (hd : d ≤ 999999) (hn : n ≤ 12) {post : Int32 → Prop} (hp : post (nI (hf_R (d * 10 ^ n * 16777216) 1))) : wpY_parsed post (lN d) (nI n) := by
  have key : ∀ t i, i + t = n → d * 10 ^ i ≤ 999999 → wY_parsed_24 post (nI n) (t + 1) (lN (d * 10 ^ i)) (nI i) := by
    intro t
    induction t with
    | zero =>
      intro i hi hv
      have e : i = n := by omega
      subst e
      exact br_t (Int32.le_refl _) (hy_50 (by omega) hp (fun z => hf_R_dec_big (Nat.le_refl _) z) (fun _ => rfl))
    | succ t ih =>
      intro i hi hv
      refine br_f (nI_ge (a := i) (b := n) (by omega) (by omega)) ?_
      rcases Nat.lt_or_ge (d * 10 ^ i) 100000 with z | z
      · refine br_f (fun y => by have := (pk_lLE (a := 100000) (by decide) (by omega)).mp y; omega) ?_
        have e : d * 10 ^ (i + 1) = 10 * (d * 10 ^ i) := by rw [Nat.pow_succ, ← Nat.mul_assoc, Nat.mul_comm]
        refine nm_r (e' := lN (d * 10 ^ (i + 1))) ?_ (nm_r (nI_1 i) (ih (i + 1) (by omega) (by omega)))
        rw [e]
        exact lN_mul 10 _
      · exact br_t ((pk_lLE (a := 100000) (by decide) (by omega)).mpr z) (hy_50 (by omega) hp (fun _ => hf_R_dec_big (by omega) z) (fun w => by omega))
  have k0 := key n 0 (by omega) (by omega)
  rw [Nat.pow_zero, Nat.mul_one] at k0
  exact br_t (nI_pos' (by omega)) ⟨n + 1, k0⟩
theorem hy_pn {d n : Nat} (hd : d ≤ 999999) (h0 : 0 < n) (hn : n ≤ 12) {post : Int32 → Prop} (hp : post (nI (hf_R (d * 16777216) (10 ^ n)))) : wpY_parsed post (lN d) (hz_i (-(n : Int))) := by
  have p1 := hf_p10 hn
  refine br_f (fun y => ?_) ?_
  · rw [← hz_i0, hz_iLE (by omega) (by omega)] at y
    omega
  · rw [hz_ig, Int.neg_neg, hz_in]
    have e : lN d <<< ((24 : Int32).toInt64 &&& 63) = lN (d * 16777216) := wb_shl _ (k := 24) (by decide)
    rw [e]
    exact hy_pow (by omega) (hy_near (by omega) (hf_p10p n) (by omega) hp)
theorem hy_pd {d : Nat} {x : Int} (hd : d ≤ 999999) (hx : -12 ≤ x ∧ x ≤ 12) {post : Int32 → Prop} (hp : post (nI (hf_dc d x))) : wpY_parsed post (lN d) (hz_i x) := by
  by_cases z : x < 0
  · obtain ⟨n, rfl⟩ : ∃ n : Nat, x = -(n : Int) := ⟨(-x).toNat, by omega⟩
    rw [hf_dc_m (by omega)] at hp
    exact hy_pn hd (by omega) (by omega) hp
  · obtain ⟨n, rfl⟩ : ∃ n : Nat, x = (n : Int) := ⟨x.toNat, by omega⟩
    rw [hf_dc_n] at hp
    rw [hz_in]
    exact hy_pp hd (by omega) hp
theorem hz_m12 : hz_i (-12) = -12 := by decide +kernel
theorem hz_12 : hz_i 12 = 12 := by decide +kernel
theorem i_vc_parse {k : Nat} {u : SX} {v : SY} (I : i_Rel k u v) (hk : k + 3 ≤ 1536) (v1 : Int32) (v2 : Int32) : wpX_parse (fun r => wpY_parse (fun r' => r' = r ∧ i_Rel (k + 3) u v) v v1 v2) u v1 v2 := by
  obtain ⟨fd, fx⟩ := v
  unfold wpX_parse wpY_parse
  dsimp only
  by_cases h0 : v1 < 0
  · exact br_t h0 (br_t h0 ⟨rfl, True.intro⟩)
  refine br_f h0 ?_
  by_cases h1 : 999999 < v1
  · exact br_t h1 (br_f h0 (br_t h1 ⟨rfl, True.intro⟩))
  refine br_f h1 ?_
  by_cases h2 : v2 < (-12)
  · exact br_t h2 (br_f h0 (br_f h1 (br_t h2 ⟨rfl, True.intro⟩)))
  refine br_f h2 ?_
  by_cases h3 : v2 ≤ 12
  · refine br_t h3 ?_
    obtain ⟨d, hd, rfl⟩ := nI_of h0
    have hd2 : d ≤ 999999 := by
      rcases Nat.lt_or_ge 999999 d with z | z
      · exact absurd (nI_lt (a := 999999) z hd) h1
      · exact z
    have e2 : v2 = hz_i v2.toInt := (Int32.ofInt_toInt v2).symm
    have c1 : -12 ≤ v2.toInt := by
      rw [← hz_m12, Int32.lt_iff_toInt_lt, hz_iT (by omega) (by omega)] at h2
      omega
    have c2 : v2.toInt ≤ 12 := by
      rw [← hz_12, Int32.le_iff_toInt_le, hz_iT (by omega) (by omega)] at h3
      exact h3
    have hX : ∀ post : Int32 → Prop, post (nI (hf_dc d v2.toInt)) → wpX_roundedDecimal post (nI d).toInt64 v2 := by
      intro post hp
      rw [nI_l hd, e2]
      exact hx_rd hd2 ⟨c1, c2⟩ hp
    have hY : ∀ post : Int32 → Prop, post (nI (hf_dc d v2.toInt)) → wpY_parsed post (nI d).toInt64 v2 := by
      intro post hp
      rw [nI_l hd, e2]
      exact hy_pd hd2 ⟨c1, c2⟩ hp
    exact hX _ (br_f h0 (br_f h1 (br_f h2 (br_t h3 (hY _ ⟨rfl, True.intro⟩)))))
  · exact br_f h3 (br_f h0 (br_f h1 (br_f h2 (br_f h3 ⟨rfl, True.intro⟩))))
