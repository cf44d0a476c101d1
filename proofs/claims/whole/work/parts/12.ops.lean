/-! sums, products, quotients, roots: the reference, and the two together -/
theorem hy_sum {σ : Int} (hb : -2199023255552 < σ ∧ σ < 2199023255552) {fd fx : Int32} {post : Int32 → Prop} (hp : post (hf_sum σ)) :
    (0 ≤ hz_l σ → wY_add_38 post (hz_l σ) (hz_l σ) fd fx) ∧ (¬ 0 ≤ hz_l σ → wY_add_38 post (hz_l σ) (-(hz_l σ)) fd fx) := by
  have e : 0 ≤ hz_l σ ↔ 0 ≤ σ := by rw [← hz_l0]; exact hz_lLE (by omega) (by omega)
  unfold hf_sum at hp
  by_cases z : 0 ≤ σ
  · rw [if_pos z] at hp
    refine br_t (e.mpr z) ?_
    unfold wY_add_38
    have h0 := e.mpr z
    revert h0
    obtain ⟨n, rfl⟩ : ∃ n : Nat, σ = (n : Int) := ⟨σ.toNat, by omega⟩
    rw [Int.toNat_natCast] at hp
    rw [hz_ln]
    intro h0
    exact hy_near (l := 1) (by omega) (by decide) (by decide) (br_t h0 (hy_ws (hf_R_le _ _) (by rw [if_pos rfl]; exact hp)))
  · rw [if_neg z] at hp
    obtain ⟨n, hn⟩ : ∃ n : Nat, -σ = (n : Int) := ⟨(-σ).toNat, by omega⟩
    rw [hn, Int.toNat_natCast] at hp
    refine br_f (fun y => z (e.mp y)) ?_
    unfold wY_add_38
    rw [hz_lg, hn, hz_ln]
    exact hy_near (l := 1) (by omega) (by decide) (by decide) (br_f (fun y => z (e.mp y)) (hy_ws (hf_R_le _ _) (by rw [if_neg (by decide)]; exact hp)))
/-! refusals -/
theorem hy_add_n1 {v1 v2 : Int32} (y1 : ∀ post : Int32 → Prop, post 1 → wpY_bad post v1) {v : SY} {post : Int32 → Prop} (hp : post (-1)) : wpY_add post v v1 v2 := by
  obtain ⟨fd, fx⟩ := v
  unfold wpY_add
  dsimp only
  exact y1 _ (br_f (by decide) hp)
theorem hy_add_n2 {a : Nat} {v2 : Int32} (ha : hf_ok a) (y2 : ∀ post : Int32 → Prop, post 1 → wpY_bad post v2) {v : SY} {post : Int32 → Prop} (hp : post (-1)) : wpY_add post v (nI a) v2 := by
  obtain ⟨fd, fx⟩ := v
  unfold wpY_add
  dsimp only
  exact hy_ok ha (br_t rfl (y2 _ (br_f (by decide) hp)))
theorem hy_multiply_n1 {v1 v2 : Int32} (y1 : ∀ post : Int32 → Prop, post 1 → wpY_bad post v1) {v : SY} {post : Int32 → Prop} (hp : post (-1)) : wpY_multiply post v v1 v2 := by
  obtain ⟨fd, fx⟩ := v
  unfold wpY_multiply
  dsimp only
  exact y1 _ (br_f (by decide) hp)
theorem hy_multiply_n2 {a : Nat} {v2 : Int32} (ha : hf_ok a) (y2 : ∀ post : Int32 → Prop, post 1 → wpY_bad post v2) {v : SY} {post : Int32 → Prop} (hp : post (-1)) : wpY_multiply post v (nI a) v2 := by
  obtain ⟨fd, fx⟩ := v
  unfold wpY_multiply
  dsimp only
  exact hy_ok ha (br_t rfl (y2 _ (br_f (by decide) hp)))
theorem hy_divide_n1 {v1 v2 : Int32} (y1 : ∀ post : Int32 → Prop, post 1 → wpY_bad post v1) {v : SY} {post : Int32 → Prop} (hp : post (-1)) : wpY_divide post v v1 v2 := by
  obtain ⟨fd, fx⟩ := v
  unfold wpY_divide
  dsimp only
  exact y1 _ (br_f (by decide) hp)
theorem hy_divide_n2 {a : Nat} {v2 : Int32} (ha : hf_ok a) (y2 : ∀ post : Int32 → Prop, post 1 → wpY_bad post v2) {v : SY} {post : Int32 → Prop} (hp : post (-1)) : wpY_divide post v (nI a) v2 := by
  obtain ⟨fd, fx⟩ := v
  unfold wpY_divide
  dsimp only
  exact hy_ok ha (br_t rfl (y2 _ (br_f (by decide) hp)))
theorem hy_compare_n1 {v1 v2 : Int32} (y1 : ∀ post : Int32 → Prop, post 1 → wpY_bad post v1) {v : SY} {post : Int32 → Prop} (hp : post (-1)) : wpY_compare post v v1 v2 := by
  obtain ⟨fd, fx⟩ := v
  unfold wpY_compare
  dsimp only
  exact y1 _ (br_f (by decide) hp)
theorem hy_compare_n2 {a : Nat} {v2 : Int32} (ha : hf_ok a) (y2 : ∀ post : Int32 → Prop, post 1 → wpY_bad post v2) {v : SY} {post : Int32 → Prop} (hp : post (-1)) : wpY_compare post v (nI a) v2 := by
  obtain ⟨fd, fx⟩ := v
  unfold wpY_compare
  dsimp only
  exact hy_ok ha (br_t rfl (y2 _ (br_f (by decide) hp)))
theorem hy_root_n1 {v1 : Int32} (y1 : ∀ post : Int32 → Prop, post 1 → wpY_bad post v1) {v : SY} {post : Int32 → Prop} (hp : post (-1)) : wpY_root post v v1 := by
  obtain ⟨fd, fx⟩ := v
  unfold wpY_root
  dsimp only
  exact y1 _ (br_f (by decide) hp)
theorem hy_floor_n1 {v1 : Int32} (y1 : ∀ post : Int32 → Prop, post 1 → wpY_bad post v1) {v : SY} {post : Int32 → Prop} (hp : post 100000) : wpY_floor post v v1 := by
  obtain ⟨fd, fx⟩ := v
  unfold wpY_floor
  dsimp only
  exact y1 _ (br_f (by decide) hp)
theorem hy_digits_n1 {v1 : Int32} (y1 : ∀ post : Int32 → Prop, post 1 → wpY_bad post v1) {v : SY} {post : Int32 → SY → Prop} (hp : post (-1) v) : wpY_digits post v v1 := by
  obtain ⟨fd, fx⟩ := v
  unfold wpY_digits
  dsimp only
  exact y1 _ (br_f (by decide) hp)
theorem hy_exponent_n1 {v1 : Int32} (y1 : ∀ post : Int32 → Prop, post 1 → wpY_bad post v1) {v : SY} {post : Int32 → SY → Prop} (hp : post 100 v) : wpY_exponent post v v1 := by
  obtain ⟨fd, fx⟩ := v
  unfold wpY_exponent
  dsimp only
  exact y1 _ (br_f (by decide) hp)
theorem hy_add {a b : Nat} (ha : hf_ok a) (hb : hf_ok b) {v : SY} {post : Int32 → Prop} (hp : post (hf_sum (hf_Z a + hf_Z b))) : wpY_add post v (nI a) (nI b) := by
  obtain ⟨fd, fx⟩ := v
  have b1 := hf_Z_bd ha
  have b2 := hf_Z_bd hb
  unfold wpY_add
  dsimp only
  exact hy_ok ha (br_t rfl (hy_ok hb (br_t rfl (hy_sgn ha (hy_sgn hb (nm_r (hz_la _ _) (hy_sum (by omega) hp)))))))
theorem hy_compare {a b : Nat} (ha : hf_ok a) (hb : hf_ok b) {v : SY} {post : Int32 → Prop} (hp : (hz_l (hf_Z b) ≤ hz_l (hf_Z a) → ((hz_l (hf_Z a) = hz_l (hf_Z b) → post 2) ∧ (¬ hz_l (hf_Z a) = hz_l (hf_Z b) → post 3))) ∧ (¬ hz_l (hf_Z b) ≤ hz_l (hf_Z a) → post 1)) : wpY_compare post v (nI a) (nI b) := by
  obtain ⟨fd, fx⟩ := v
  unfold wpY_compare
  dsimp only
  exact hy_ok ha (br_t rfl (hy_ok hb (br_t rfl (hy_sgn ha (hy_sgn hb hp)))))
theorem hy_floor {a : Nat} (ha : hf_ok a) {v : SY} {post : Int32 → Prop} (hp : post ((hz_l (hf_Z a) >>> ((24 : Int32).toInt64 &&& 63)).toInt32)) : wpY_floor post v (nI a) := by
  obtain ⟨fd, fx⟩ := v
  unfold wpY_floor
  dsimp only
  exact hy_ok ha (br_t rfl (hy_sgn ha hp))
def i_Rel (_ : Nat) (_ : SX) (_ : SY) : Prop := True
theorem i_up {k : Nat} {u : SX} {v : SY} (h : i_Rel k u v) : i_Rel (k + 3) u v := h
theorem i_vc0 : wpX_init (fun u => wpY_init (fun v => i_Rel 0 u v)) := True.intro
theorem i_vc_add {k : Nat} {u : SX} {v : SY} (I : i_Rel k u v) (hk : k + 3 ≤ 1536) (v1 : Int32) (v2 : Int32) : wpX_add (fun r => wpY_add (fun r' => r' = r ∧ i_Rel (k + 3) u v) v v1 v2) u v1 v2 := by
  rcases hx_cls v1 with ⟨a, rfl, ha⟩ | ⟨x1, y1⟩
  · rcases hx_cls v2 with ⟨b, rfl, hb⟩ | ⟨x2, y2⟩
    · exact hx_add ha hb (hy_add ha hb ⟨rfl, True.intro⟩)
    · exact hx_ok ha (br_f (by decide) (x2 _ (br_t rfl (hy_add_n2 ha y2 ⟨rfl, True.intro⟩))))
  · exact x1 _ (br_t rfl (hy_add_n1 y1 ⟨rfl, True.intro⟩))
theorem i_vc_compare {k : Nat} {u : SX} {v : SY} (I : i_Rel k u v) (hk : k + 3 ≤ 1536) (v1 : Int32) (v2 : Int32) : wpX_compare (fun r => wpY_compare (fun r' => r' = r ∧ i_Rel (k + 3) u v) v v1 v2) u v1 v2 := by
  rcases hx_cls v1 with ⟨a, rfl, ha⟩ | ⟨x1, y1⟩
  · rcases hx_cls v2 with ⟨b, rfl, hb⟩ | ⟨x2, y2⟩
    · refine hx_ok ha (br_f (by decide) (hx_ok hb (br_f (by decide) (hx_uni ha (hx_uni hb ?_)))))
      refine br_c (fun h => br_c (fun g => ?_) (fun g => ?_)) (fun h => ?_)
      · exact hy_compare ha hb (br_t h (br_t g ⟨rfl, True.intro⟩))
      · exact hy_compare ha hb (br_t h (br_f g ⟨rfl, True.intro⟩))
      · exact hy_compare ha hb (br_f h ⟨rfl, True.intro⟩)
    · exact hx_ok ha (br_f (by decide) (x2 _ (br_t rfl (hy_compare_n2 ha y2 ⟨rfl, True.intro⟩))))
  · exact x1 _ (br_t rfl (hy_compare_n1 y1 ⟨rfl, True.intro⟩))
theorem i_vc_floor {k : Nat} {u : SX} {v : SY} (I : i_Rel k u v) (hk : k + 3 ≤ 1536) (v1 : Int32) : wpX_floor (fun r => wpY_floor (fun r' => r' = r ∧ i_Rel (k + 3) u v) v v1) u v1 := by
  rcases hx_cls v1 with ⟨a, rfl, ha⟩ | ⟨x1, y1⟩
  · exact hx_ok ha (br_f (by decide) (hx_uni ha (hy_floor ha ⟨rfl, True.intro⟩)))
  · exact x1 _ (br_t rfl (hy_floor_n1 y1 ⟨rfl, True.intro⟩))
/-! products -/
theorem hy_lt {j : Nat} (hj : j < 65536) : nI j < 32768 ↔ j < 32768 := nI_ltI (b := 32768) (by omega) (by decide)
theorem hy_65 {j k r : Nat} (hj : j < 65536) (hk : k < 65536) (hr : r ≤ 31744) {fd fx : Int32} {post : Int32 → Prop} (hp : post (hf_sg j k r)) : wY_multiply_65 post (nI j) (nI k) (nI r) fd fx := by
  unfold hf_sg at hp
  by_cases z1 : j < 32768 <;> by_cases z2 : k < 32768
  · rw [if_pos (by simp [z1, z2])] at hp
    exact br_t ((hy_lt hj).mpr z1) (br_t ((hy_lt hk).mpr z2) (br_t rfl (hy_ws hr (by rw [if_pos rfl]; exact hp))))
  · rw [if_neg (by simp [z1, z2])] at hp
    exact br_t ((hy_lt hj).mpr z1) (br_f (fun y => z2 ((hy_lt hk).mp y)) (br_f (by decide) (hy_ws hr (by rw [if_neg (by decide)]; exact hp))))
  · rw [if_neg (by simp [z1, z2])] at hp
    exact br_f (fun y => z1 ((hy_lt hj).mp y)) (br_t ((hy_lt hk).mpr z2) (br_f (by decide) (hy_ws hr (by rw [if_neg (by decide)]; exact hp))))
  · rw [if_pos (by simp [z1, z2])] at hp
    exact br_f (fun y => z1 ((hy_lt hj).mp y)) (br_f (fun y => z2 ((hy_lt hk).mp y)) (br_t rfl (hy_ws hr (by rw [if_pos rfl]; exact hp))))
theorem hz_24 : hz_i 24 = 24 := by decide +kernel
theorem hz_1s {n : Nat} (h : n < 64) : (1 : Int64) <<< ((nI n).toInt64 &&& 63) = lN (2 ^ n) := by
  have := wb_shl 1 (k := n) h
  rw [Nat.one_mul] at this
  exact this
theorem hy_mul0 {a b n : Nat} (ha : hf_ok a) (hb : hf_ok b) (hn : (hf_sh a : Int) + hf_sh b - 24 = -(n : Int)) (h0 : 0 < n) {v : SY} {post : Int32 → Prop} (hp : post (hf_sg a b (hf_R (hf_dg a * hf_dg b) (2 ^ n)))) : wpY_multiply post v (nI a) (nI b) := by
  obtain ⟨fd, fx⟩ := v
  have s1 := hf_sh_lt a
  have s2 := hf_sh_lt b
  have d0 : hf_dg a * hf_dg b ≤ 2048 * 2048 := Nat.mul_le_mul (Nat.le_of_lt (hf_dg_lt a)) (Nat.le_of_lt (hf_dg_lt b))
  have e5 : nI (hf_sh a) + nI (hf_sh b) - 24 = hz_i (-(n : Int)) := by rw [← hz_in, ← hz_in, hz_ia, ← hz_24, hz_is, hn]
  have p1 : 2 ^ n ≤ 2 ^ 24 := Nat.pow_le_pow_right (by decide) (by omega)
  unfold wpY_multiply
  dsimp only
  refine hy_ok ha (br_t rfl (hy_ok hb (br_t rfl (hy_dig ha.1 (hy_dig hb.1 (nm_r (lN_mul _ _) (hy_shi ha.1 (hy_shi hb.1 (nm_r e5 (br_t ?_ ?_))))))))))
  · rw [← hz_i0, hz_iLT (by omega) (by omega)]
    omega
  · rw [hz_ig, Int.neg_neg, hz_in, hz_1s (by omega)]
    exact hy_near (by omega) (Nat.two_pow_pos n) (by omega) (hy_65 ha.1 hb.1 (hf_R_le _ _) hp)
theorem hy_mul1 {a b n : Nat} (ha : hf_ok a) (hb : hf_ok b) (hn : (hf_sh a : Int) + hf_sh b - 24 = (n : Int)) {v : SY} {post : Int32 → Prop} (hp : post (hf_sg a b (hf_R (hf_dg a * hf_dg b * 2 ^ n) 1))) : wpY_multiply post v (nI a) (nI b) := by
  obtain ⟨fd, fx⟩ := v
  have s1 := hf_sh_lt a
  have s2 := hf_sh_lt b
  have d0 : hf_dg a * hf_dg b ≤ 2048 * 2048 := Nat.mul_le_mul (Nat.le_of_lt (hf_dg_lt a)) (Nat.le_of_lt (hf_dg_lt b))
  have e5 : nI (hf_sh a) + nI (hf_sh b) - 24 = hz_i (n : Int) := by rw [← hz_in, ← hz_in, hz_ia, ← hz_24, hz_is, hn]
  have p1 : hf_dg a * hf_dg b * 2 ^ n ≤ 2048 * 2048 * 2 ^ 36 := Nat.mul_le_mul d0 (Nat.pow_le_pow_right (by decide) (by omega))
  unfold wpY_multiply
  dsimp only
  refine hy_ok ha (br_t rfl (hy_ok hb (br_t rfl (hy_dig ha.1 (hy_dig hb.1 (nm_r (lN_mul _ _) (hy_shi ha.1 (hy_shi hb.1 (nm_r e5 (br_f ?_ ?_))))))))))
  · rw [← hz_i0, hz_iLT (by omega) (by omega)]
    omega
  · rw [hz_in, wb_shl _ (by omega)]
    exact hy_near (l := 1) (Nat.lt_of_le_of_lt p1 (by decide)) (by decide) (by decide) (hy_65 ha.1 hb.1 (hf_R_le _ _) hp)
theorem i_vc_multiply {k : Nat} {u : SX} {v : SY} (I : i_Rel k u v) (hk : k + 3 ≤ 1536) (v1 : Int32) (v2 : Int32) : wpX_multiply (fun r => wpY_multiply (fun r' => r' = r ∧ i_Rel (k + 3) u v) v v1 v2) u v1 v2 := by
  rcases hx_cls v1 with ⟨a, rfl, ha⟩ | ⟨x1, y1⟩
  · rcases hx_cls v2 with ⟨b, rfl, hb⟩ | ⟨x2, y2⟩
    · by_cases c : (hf_sh a : Int) + hf_sh b - 24 < 0
      · obtain ⟨n, hn⟩ : ∃ n : Nat, (hf_sh a : Int) + hf_sh b - 24 = -(n : Int) := ⟨(-((hf_sh a : Int) + hf_sh b - 24)).toNat, by omega⟩
        exact hx_mul ha hb (v := hf_dg a * hf_dg b) (l := 2 ^ n) (a := 0) (b := n) (by omega) (Nat.two_pow_pos n) (by rw [Nat.pow_zero, Nat.mul_one]) (hy_mul0 ha hb hn (by omega) ⟨rfl, True.intro⟩)
      · obtain ⟨n, hn⟩ : ∃ n : Nat, (hf_sh a : Int) + hf_sh b - 24 = (n : Int) := ⟨((hf_sh a : Int) + hf_sh b - 24).toNat, by omega⟩
        exact hx_mul ha hb (v := hf_dg a * hf_dg b * 2 ^ n) (l := 1) (a := n) (b := 0) (by omega) (by decide) (by rw [Nat.pow_zero, Nat.mul_one, Nat.one_mul]) (hy_mul1 ha hb hn ⟨rfl, True.intro⟩)
    · exact hx_ok ha (br_f (by decide) (x2 _ (br_t rfl (hy_multiply_n2 ha y2 ⟨rfl, True.intro⟩))))
  · exact x1 _ (br_t rfl (hy_multiply_n1 y1 ⟨rfl, True.intro⟩))
