/-! digits and exponent -/
theorem hf_Z0 {k : Nat} (hk : hf_ok k) : hz_l (hf_Z k) = 0 ↔ hf_dg k = 0 := by
  have b := hf_Z_bd hk
  rw [← hz_l0, hz_lEQ (by omega) (by omega)]
  have e : hf_Z k = 0 ↔ hf_A (k % 32768) = 0 := by
    unfold hf_Z
    split <;> omega
  rw [e, hf_A_ds, Nat.mul_eq_zero]
  have := Nat.two_pow_pos (hf_sh k)
  constructor
  · intro h
    rcases h with h | h
    · exact h
    · omega
  · exact Or.inl
theorem hf_dg_p {k : Nat} (h : hf_dg k ≠ 0) : k % 32768 ≠ 0 := by
  intro z
  apply h
  unfold hf_dg hf_e
  rw [if_pos (by omega)]
  omega
theorem hx_big {k : Nat} (hk : hf_ok k) (h : hf_dg k ≠ 0) : ∃ S, hf_ys (hf_A (k % 32768)) (k % 32768) 17 0 0 = S ∧ 32 ≤ S ∧ S < 32000000 ∧ S % 32 ≤ 17 ∧
    (∀ post : Int32 → Prop, post (nI (S / 32 * 32 + 20 - S % 32)) → wpX_writingOf post (nI k &&& (-32769))) := by
  have he := hk.2
  have h2 : k % 32768 < 31744 := by unfold hf_e at he; omega
  obtain ⟨S, hS, h32, hlt, hx⟩ := hf_ck_get (hf_dg_p h) (hf_ck_all h2)
  have inv := hf_inv_ys 17 0 0 (by omega) (Or.inl rfl) (by rw [hS]; exact hlt)
  rw [hS] at inv
  rcases inv with z | ⟨i1, i2, i3⟩
  · omega
  · refine ⟨S, hS, i1, i2, i3, fun post hp => ?_⟩
    rw [hx_ms hk.1]
    exact hx_writing h2 (by rw [hx]; omega) (by rw [hx]; exact hp)
theorem hy_digits {k S : Nat} (hk : hf_ok k) (h : hf_dg k ≠ 0) (hS : hf_ys (hf_A (k % 32768)) (k % 32768) 17 0 0 = S) (hlt : S < 100000000000000000000) {v : SY} {post : Int32 → SY → Prop} (hp : ∀ w : SY, post (nI (S / 32)) w) : wpY_digits post v (nI k) := by
  obtain ⟨fd, fx⟩ := v
  have d2 := hf_dg_lt k
  unfold wpY_digits
  dsimp only
  refine hy_ok hk (br_t rfl (hy_dig hk.1 (br_f (fun y => h ((pk_lEQ (b := 0) (by omega) (by decide)).mp y)) (hy_write hk hS hlt (fun fd' fx' g => ?_)))))
  rw [g.1]
  exact hp _
theorem hy_digits0 {k : Nat} (hk : hf_ok k) (h : hf_dg k = 0) {v : SY} {post : Int32 → SY → Prop} (hp : post 0 v) : wpY_digits post v (nI k) := by
  obtain ⟨fd, fx⟩ := v
  unfold wpY_digits
  dsimp only
  exact hy_ok hk (br_t rfl (hy_dig hk.1 (br_t (by rw [h]; rfl) hp)))
theorem hy_exponent {k S : Nat} (hk : hf_ok k) (h : hf_dg k ≠ 0) (hS : hf_ys (hf_A (k % 32768)) (k % 32768) 17 0 0 = S) (h0 : S ≠ 0) (hlt : S < 100000000000000000000) {v : SY} {post : Int32 → SY → Prop} (hp : ∀ w : SY, post (hz_i (4 - ((S % 32 : Nat) : Int))) w) : wpY_exponent post v (nI k) := by
  obtain ⟨fd, fx⟩ := v
  have d2 := hf_dg_lt k
  unfold wpY_exponent
  dsimp only
  refine hy_ok hk (br_t rfl (hy_dig hk.1 (br_f (fun y => h ((pk_lEQ (b := 0) (by omega) (by decide)).mp y)) (hy_write hk hS hlt (fun fd' fx' g => ?_)))))
  rw [g.2 h0]
  exact hp _
theorem hy_exponent0 {k : Nat} (hk : hf_ok k) (h : hf_dg k = 0) {v : SY} {post : Int32 → SY → Prop} (hp : post 0 v) : wpY_exponent post v (nI k) := by
  obtain ⟨fd, fx⟩ := v
  unfold wpY_exponent
  dsimp only
  exact hy_ok hk (br_t rfl (hy_dig hk.1 (br_t (by rw [h]; rfl) hp)))
theorem i_vc_digits {k : Nat} {u : SX} {v : SY} (I : i_Rel k u v) (hk : k + 3 ≤ 1536) (v1 : Int32) : wpX_digits (fun r => wpY_digits (fun r' v' => r' = r ∧ i_Rel (k + 3) u v') v v1) u v1 := by
  rcases hx_cls v1 with ⟨a, rfl, ha⟩ | ⟨x1, y1⟩
  · by_cases z : hf_dg a = 0
    · exact hx_ok ha (br_f (by decide) (hx_uni ha (br_t ((hf_Z0 ha).mpr z) (hy_digits0 ha z ⟨rfl, True.intro⟩))))
    · obtain ⟨S, hS, h32, hlt, h17, W⟩ := hx_big ha z
      refine hx_ok ha (br_f (by decide) (hx_uni ha (br_f (fun y => z ((hf_Z0 ha).mp y)) (W _ (hy_digits ha z hS (by omega) (fun w => ⟨?_, True.intro⟩))))))
      have e : nI (S / 32 * 32 + 20 - S % 32) >>> ((5 : Int32) &&& 31) = nI ((S / 32 * 32 + 20 - S % 32) / 32) := pk_shrN (by omega) _ 5 (by decide)
      rw [e]
      congr 1
      omega
  · exact x1 _ (br_t rfl (hy_digits_n1 y1 ⟨rfl, True.intro⟩))
theorem i_vc_exponent {k : Nat} {u : SX} {v : SY} (I : i_Rel k u v) (hk : k + 3 ≤ 1536) (v1 : Int32) : wpX_exponent (fun r => wpY_exponent (fun r' v' => r' = r ∧ i_Rel (k + 3) u v') v v1) u v1 := by
  rcases hx_cls v1 with ⟨a, rfl, ha⟩ | ⟨x1, y1⟩
  · by_cases z : hf_dg a = 0
    · exact hx_ok ha (br_f (by decide) (hx_uni ha (br_t ((hf_Z0 ha).mpr z) (hy_exponent0 ha z ⟨rfl, True.intro⟩))))
    · obtain ⟨S, hS, h32, hlt, h17, W⟩ := hx_big ha z
      refine hx_ok ha (br_f (by decide) (hx_uni ha (br_f (fun y => z ((hf_Z0 ha).mp y)) (W _ (hy_exponent ha z hS (by omega) (by omega) (fun w => ⟨?_, True.intro⟩))))))
      have e : nI (S / 32 * 32 + 20 - S % 32) &&& 31 = nI ((S / 32 * 32 + 20 - S % 32) % 32) := pk_andN (by omega) 5 (by decide)
      rw [e, ← hz_in, ← hz_16, hz_is]
      congr 1
      omega
  · exact x1 _ (br_t rfl (hy_exponent_n1 y1 ⟨rfl, True.intro⟩))
