/-! sums, products, quotients -/
def hf_sum (σ : Int) : Int32 := if 0 ≤ σ then nI (hf_R σ.toNat 1) else nI (hf_sn (hf_R (-σ).toNat 1))
theorem hx_sum {σ : Int} (hb : -2199023255552 < σ ∧ σ < 2199023255552) {post : Int32 → Prop} (hp : post (hf_sum σ)) :
    (0 ≤ hz_l σ → wX_add_37 post (hz_l σ) 0) ∧ (¬ 0 ≤ hz_l σ → wX_add_37 post (hz_l σ) 1) := by
  have e : 0 ≤ hz_l σ ↔ 0 ≤ σ := by rw [← hz_l0]; exact hz_lLE (by omega) (by omega)
  unfold hf_sum at hp
  by_cases z : 0 ≤ σ
  · rw [if_pos z] at hp
    obtain ⟨n, rfl⟩ : ∃ n : Nat, σ = (n : Int) := ⟨σ.toNat, by omega⟩
    rw [Int.toNat_natCast] at hp
    have h := hx_rex (A := n) (u := n) (l := 1) (a := 0) (b := 0) (s := -24) (neg := 0) (post := post) (by omega) (by omega) (by omega) (by decide) (by omega) hp
    rw [hz_m24] at h
    refine br_t (e.mpr z) (br_t rfl ?_)
    rw [hz_ln]
    exact h
  · rw [if_neg z] at hp
    obtain ⟨n, hn⟩ : ∃ n : Nat, -σ = (n : Int) := ⟨(-σ).toNat, by omega⟩
    rw [hn, Int.toNat_natCast] at hp
    have h := hx_rex (A := n) (u := n) (l := 1) (a := 0) (b := 0) (s := -24) (neg := 1) (post := post) (by omega) (by omega) (by omega) (by decide) (by omega) hp
    rw [hz_m24] at h
    refine br_f (fun y => z (e.mp y)) (br_f (by decide) ?_)
    rw [hz_lg, hn, hz_ln]
    exact h
theorem hx_add {j k : Nat} (hj : hf_ok j) (hk : hf_ok k) {u : SX} {post : Int32 → Prop} (hp : post (hf_sum (hf_Z j + hf_Z k))) : wpX_add post u (nI j) (nI k) := by
  have b1 := hf_Z_bd hj
  have b2 := hf_Z_bd hk
  exact hx_ok hj (br_f (by decide) (hx_ok hk (br_f (by decide) (hx_uni hj (hx_uni hk (nm_r (hz_la _ _) (hx_sum (by omega) hp)))))))
/-- the sign of a product or quotient, and the answer -/
def hf_sg (j k r : Nat) : Int32 := if (j < 32768 ↔ k < 32768) then nI r else nI (hf_sn r)
theorem hx_mul {j k : Nat} (hj : hf_ok j) (hk : hf_ok k) {u : SX} {post : Int32 → Prop} {v l a b : Nat} (hab : (hf_sh j : Int) + hf_sh k - 24 = (a : Int) - b) (hl : 0 < l) (h : v * 2 ^ b = hf_dg j * hf_dg k * (l * 2 ^ a))
    (hp : post (hf_sg j k (hf_R v l))) : wpX_multiply post u (nI j) (nI k) := by
  have d1 := hf_dg_lt j
  have d2 := hf_dg_lt k
  have s1 := hf_sh_lt j
  have s2 := hf_sh_lt k
  have hA : hf_dg j * hf_dg k < 2 ^ 62 := Nat.lt_of_le_of_lt (Nat.mul_le_mul (Nat.le_of_lt d1) (Nat.le_of_lt d2)) (by decide)
  refine hx_ok hj (br_f (by decide) (hx_ok hk (br_f (by decide) (hx_sig hj.1 (hx_sig hk.1 (nm_r (lN_mul _ _) (hx_sca hj.1 (hx_sca hk.1 (nm_r (hz_ia _ _) (hx_neg hj.1 (hx_neg hk.1 ?_)))))))))))
  unfold hf_sg at hp
  by_cases z1 : j < 32768 <;> by_cases z2 : k < 32768
  · rw [if_pos (by simp [z1, z2])] at hp
    rw [if_pos z1, if_pos z2]
    exact br_t rfl (hx_rex hA (by omega) (by omega) hl h hp)
  · rw [if_neg (by simp [z1, z2])] at hp
    rw [if_pos z1, if_neg z2]
    exact br_f (by decide) (hx_rex hA (by omega) (by omega) hl h hp)
  · rw [if_neg (by simp [z1, z2])] at hp
    rw [if_neg z1, if_pos z2]
    exact br_f (by decide) (hx_rex hA (by omega) (by omega) hl h hp)
  · rw [if_pos (by simp [z1, z2])] at hp
    rw [if_neg z1, if_neg z2]
    exact br_t rfl (hx_rex hA (by omega) (by omega) hl h hp)
theorem hx_59 {j k A v l a b : Nat} {m : Int32} (hj : hf_ok j) (hk : hf_ok k) {post : Int32 → Prop} (hA : A < 2 ^ 62) (hab : (hf_sh j : Int) - hf_sh k - 6 = (a : Int) - b) (hl : 0 < l)
    (h1 : A * (l * 2 ^ a) ≤ v * 2 ^ b) (h2 : v * 2 ^ b < (A + 1) * (l * 2 ^ a)) (hm : ¬ m = 0 ↔ v * 2 ^ b ≠ A * (l * 2 ^ a)) (hM : ¬ m = 0 → 0 < A ∧ (2048 ≤ A ∨ a < b))
    (hp : post (hf_sg j k (hf_R v l))) : wX_divide_59 post (nI j) (nI k) (lN A) m := by
  have s1 := hf_sh_lt j
  have s2 := hf_sh_lt k
  have e : hz_i ((hf_sh j : Int) - 24) - hz_i ((hf_sh k : Int) - 24) - 30 = hz_i ((hf_sh j : Int) - 24 - ((hf_sh k : Int) - 24) - 30) := by rw [hz_is, ← hz_30, hz_is]
  refine hx_sca hj.1 (hx_sca hk.1 (nm_r e (hx_neg hj.1 (hx_neg hk.1 ?_))))
  unfold hf_sg at hp
  by_cases z1 : j < 32768 <;> by_cases z2 : k < 32768
  · rw [if_pos (by simp [z1, z2])] at hp
    rw [if_pos z1, if_pos z2]
    exact br_t rfl (hx_rounded hA (by omega) (by omega) hl h1 h2 hm hM hp)
  · rw [if_neg (by simp [z1, z2])] at hp
    rw [if_pos z1, if_neg z2]
    exact br_f (by decide) (hx_rounded hA (by omega) (by omega) hl h1 h2 hm hM hp)
  · rw [if_neg (by simp [z1, z2])] at hp
    rw [if_neg z1, if_pos z2]
    exact br_f (by decide) (hx_rounded hA (by omega) (by omega) hl h1 h2 hm hM hp)
  · rw [if_pos (by simp [z1, z2])] at hp
    rw [if_neg z1, if_neg z2]
    exact br_t rfl (hx_rounded hA (by omega) (by omega) hl h1 h2 hm hM hp)
theorem hx_div0 {j k : Nat} (hj : hf_ok j) (hk : hf_ok k) {u : SX} {post : Int32 → Prop} (z : hf_dg k = 0) (hp : post (-1)) : wpX_divide post u (nI j) (nI k) := by
  refine hx_ok hj (br_f (by decide) (hx_ok hk (br_f (by decide) (hx_sig hk.1 (br_t ?_ hp)))))
  rw [z]
  rfl
theorem hx_div {j k : Nat} (hj : hf_ok j) (hk : hf_ok k) {u : SX} {post : Int32 → Prop} {A v l a b : Nat} (z : hf_dg k ≠ 0) (hAe : hf_dg j * 2 ^ 30 / hf_dg k = A) (hab : (hf_sh j : Int) - hf_sh k - 6 = (a : Int) - b) (hl : 0 < l)
    (h1 : A * (l * 2 ^ a) ≤ v * 2 ^ b) (h2 : v * 2 ^ b < (A + 1) * (l * 2 ^ a)) (hm : A * hf_dg k ≠ hf_dg j * 2 ^ 30 ↔ v * 2 ^ b ≠ A * (l * 2 ^ a))
    (hp : post (hf_sg j k (hf_R v l))) : wpX_divide post u (nI j) (nI k) := by
  have d1 := hf_dg_lt j
  have d2 := hf_dg_lt k
  have hA : A < 2 ^ 62 := by
    have := Nat.div_le_self (hf_dg j * 2 ^ 30) (hf_dg k)
    omega
  have ne : ¬ lN (hf_dg k) = 0 := fun y => z ((pk_lEQ (b := 0) (by omega) (by decide)).mp y)
  have e1 : lN (hf_dg j) <<< ((30 : Int32).toInt64 &&& 63) = lN (hf_dg j * 2 ^ 30) := wb_shl _ (k := 30) (by decide)
  have e2 : lN (hf_dg j * 2 ^ 30) / lN (hf_dg k) = lN A := by rw [pk_lDiv (by omega) (by omega) (by omega), hAe]
  have b1 : A * hf_dg k ≤ hf_dg j * 2 ^ 30 := by rw [← hAe]; exact Nat.div_mul_le_self _ _
  refine hx_ok hj (br_f (by decide) (hx_ok hk (br_f (by decide) (hx_sig hk.1 (br_f ne (hx_sig hj.1 (nm_r e1 ⟨ne, nm_r e2 ?_⟩)))))))
  rw [lN_mul]
  have eq : lN (A * hf_dg k) = lN (hf_dg j * 2 ^ 30) ↔ A * hf_dg k = hf_dg j * 2 ^ 30 := pk_lEQ (by omega) (by omega)
  by_cases y : A * hf_dg k = hf_dg j * 2 ^ 30
  · exact br_t (eq.mpr y) (hx_59 hj hk hA hab hl h1 h2 ⟨fun w => absurd rfl w, fun w => absurd y (hm.mpr w)⟩ (fun w => absurd rfl w) hp)
  · refine br_f (fun w => y (eq.mp w)) (hx_59 hj hk hA hab hl h1 h2 ⟨fun _ => hm.mp y, fun _ => by decide⟩ (fun _ => ?_) hp)
    have hj0 : hf_dg j ≠ 0 := by
      intro w
      rw [w] at hAe y b1
      omega
    have h3 : 2048 ≤ A := by
      rw [← hAe]
      apply (Nat.le_div_iff_mul_le (by omega)).mpr
      omega
    exact ⟨by omega, Or.inl h3⟩
/-! roots -/
theorem hz_m1 : hz_i (-1) = -1 := by decide +kernel
theorem hz_pm {i : Nat} : nI i + (-1) = hz_i ((i : Int) - 1) := by rw [Int.sub_eq_add_neg, ← hz_ia, hz_in, hz_m1]
theorem hx_wr {F r : Nat} (hF : F < 2 ^ 42) (hr1 : r * r ≤ F) (hr2 : F < (r + 1) * (r + 1)) {post : Int64 → Prop} (hp : post (lN r)) : wpX_wholeRoot post (lN F) := by
  have key : ∀ i w, i ≤ 21 → w + 2 ^ i ≤ 2 ^ 21 → w * w ≤ F → F < (w + 2 ^ i) * (w + 2 ^ i) → wX_wholeRoot_6 post (lN F) (i + 1) (lN w) (hz_i ((i : Int) - 1)) := by
    intro i
    induction i with
    | zero =>
      intro w _ _ h1 h2
      have e : w = r := hf_rt_un h1 h2 hr1 hr2
      subst e
      refine br_t ?_ hp
      rw [← hz_i0, hz_iLT (by omega) (by omega)]
      omega
    | succ i ih =>
      intro w hi hw h1 h2
      refine br_f (fun y => ?_) ?_
      · rw [← hz_i0, hz_iLT (by omega) (by omega)] at y
        omega
      · have e0 : hz_i (((i + 1 : Nat) : Int) - 1) = nI i := by rw [show (((i + 1 : Nat) : Int) - 1) = (i : Int) by omega, hz_in]
        rw [e0]
        have e1 : lN w + ((1 : Int64) <<< ((nI i).toInt64 &&& 63)) = lN (w + 2 ^ i) := by
          have := wb_shl 1 (k := i) (by omega)
          rw [Nat.one_mul] at this
          exact (congrArg (fun z => lN w + z) this).trans (lN_add _ _)
        refine nm_r e1 ?_
        have p1 : 2 ^ (i + 1) = 2 ^ i + 2 ^ i := by rw [Nat.pow_succ]; omega
        have p2 := Nat.two_pow_pos i
        have b1 : (w + 2 ^ i) * (w + 2 ^ i) ≤ 2 ^ 21 * 2 ^ 21 := Nat.mul_le_mul (by omega) (by omega)
        rw [lN_mul]
        by_cases z : F < (w + 2 ^ i) * (w + 2 ^ i)
        · exact br_t ((pk_lLT (by omega) (by omega)).mpr z) (nm_r hz_pm (ih w (by omega) (by omega) h1 z))
        · exact br_f (fun y => z ((pk_lLT (by omega) (by omega)).mp y)) (nm_r hz_pm (ih (w + 2 ^ i) (by omega) (by omega) (by omega) (hf_rt_step h2)))
  have k0 := key 21 0 (by omega) (by omega) (by omega) (by omega)
  have e20 : hz_i (((21 : Nat) : Int) - 1) = 20 := by decide +kernel
  rw [e20] at k0
  exact ⟨22, k0⟩
theorem hf_rt_ex (v : Nat) : ∃ r, r * r ≤ v ∧ v < (r + 1) * (r + 1) := by
  induction v with
  | zero => exact ⟨0, by decide, by decide⟩
  | succ v ih =>
    obtain ⟨r, h1, h2⟩ := ih
    rcases Nat.lt_or_ge (v + 1) ((r + 1) * (r + 1)) with z | z
    · exact ⟨r, by omega, z⟩
    · have h3 : (r + 1) * (r + 1) < (r + 1 + 1) * (r + 1 + 1) := Nat.mul_self_lt_mul_self (by omega)
      exact ⟨r + 1, z, by omega⟩
theorem hx_rp : ∀ e : Nat, e < 31 → (e % 2 = 0 → ((hz_i ((e : Int) - 24) &&& 1) = 0 ∧ hz_i ((e : Int) - 24) / 2 - 14 = hz_i (((e / 2 : Nat) : Int) - 26))) ∧ (e % 2 = 1 → (¬ (hz_i ((e : Int) - 24) &&& 1) = 0 ∧ (hz_i ((e : Int) - 24) - 1) / 2 - 14 = hz_i (((e / 2 : Nat) : Int) - 26))) := by decide +kernel
/-- the digits under the root -/
def hf_D (k : Nat) : Nat := if hf_sh k % 2 = 0 then hf_dg k else hf_dg k * 2
theorem hf_D_lt (k : Nat) : hf_D k < 4096 := by
  have := hf_dg_lt k
  unfold hf_D
  split <;> omega
theorem hx_48 {D r v l a b c : Nat} {x4 : Int32} (hD : D < 4096) (hx4 : x4 / 2 - 14 = hz_i ((c : Int) - 26)) (hc : c < 16) {post : Int32 → Prop} (hr1 : r * r ≤ D * 2 ^ 28) (hr2 : D * 2 ^ 28 < (r + 1) * (r + 1)) (hab : (c : Int) - 2 = (a : Int) - b) (hl : 0 < l)
    (h1 : r * (l * 2 ^ a) ≤ v * 2 ^ b) (h2 : v * 2 ^ b < (r + 1) * (l * 2 ^ a)) (hm : r * r ≠ D * 2 ^ 28 ↔ v * 2 ^ b ≠ r * (l * 2 ^ a)) (hp : post (nI (hf_R v l))) : wX_root_48 post (lN D) x4 := by
  have e1 : lN D <<< ((28 : Int32).toInt64 &&& 63) = lN (D * 2 ^ 28) := wb_shl _ (k := 28) (by decide)
  have hr3 : r < 2 ^ 21 := by
    rcases Nat.lt_or_ge r (2 ^ 21) with z | z
    · exact z
    · have := Nat.mul_le_mul z z
      omega
  refine nm_r e1 (hx_wr (by omega) hr1 hr2 ?_)
  rw [lN_mul]
  have eq : lN (r * r) = lN (D * 2 ^ 28) ↔ r * r = D * 2 ^ 28 := pk_lEQ (by omega) (by omega)
  by_cases y : r * r = D * 2 ^ 28
  · refine br_t (eq.mpr y) ⟨by decide, ?_⟩
    rw [hx4]
    exact hx_rounded (by omega) (by omega) (by omega) hl h1 h2 ⟨fun w => absurd rfl w, fun w => absurd y (hm.mpr w)⟩ (fun w => absurd rfl w) (by rw [if_pos rfl]; exact hp)
  · refine br_f (fun w => y (eq.mp w)) ⟨by decide, ?_⟩
    rw [hx4]
    have hD0 : D ≠ 0 := by
      intro w
      subst w
      omega
    have h3 : 2048 ≤ r := by
      rcases Nat.lt_or_ge r 2048 with z | z
      · have := Nat.mul_le_mul (show r + 1 ≤ 2048 from z) (show r + 1 ≤ 2048 from z)
        omega
      · exact z
    exact hx_rounded (by omega) (by omega) (by omega) hl h1 h2 ⟨fun _ => hm.mp y, fun _ => by decide⟩ (fun _ => ⟨by omega, Or.inl h3⟩) (by rw [if_pos rfl]; exact hp)
theorem hx_root {k r v l a b : Nat} (hk : hf_ok k) (h32 : k ≤ 32768) {u : SX} {post : Int32 → Prop} (hr1 : r * r ≤ hf_D k * 2 ^ 28) (hr2 : hf_D k * 2 ^ 28 < (r + 1) * (r + 1)) (hab : ((hf_sh k / 2 : Nat) : Int) - 2 = (a : Int) - b) (hl : 0 < l)
    (h1 : r * (l * 2 ^ a) ≤ v * 2 ^ b) (h2 : v * 2 ^ b < (r + 1) * (l * 2 ^ a)) (hm : r * r ≠ hf_D k * 2 ^ 28 ↔ v * 2 ^ b ≠ r * (l * 2 ^ a)) (hp : post (nI (hf_R v l))) : wpX_root post u (nI k) := by
  have b1 := hf_Z_bd hk
  have hs := hf_sh_lt k
  have hz : 0 ≤ hf_Z k := by
    unfold hf_Z
    split
    · omega
    · have e : k % 32768 = 0 := by omega
      rw [e, hf_A_lo (by decide)]
      decide
  have e0 : 0 ≤ hz_l (hf_Z k) := by
    rw [← hz_l0]
    exact (hz_lLE (by omega) (by omega)).mpr hz
  have hDl := hf_D_lt k
  obtain ⟨p0, p1⟩ := hx_rp (hf_sh k) hs
  refine hx_ok hk (br_f (by decide) (hx_uni hk (br_t e0 (hx_sig hk.1 (hx_sca hk.1 ?_)))))
  by_cases z : hf_sh k % 2 = 0
  · obtain ⟨q1, q2⟩ := p0 z
    have eD : hf_D k = hf_dg k := by rw [hf_D, if_pos z]
    rw [eD] at hr1 hr2 hm hDl
    exact br_t q1 (hx_48 hDl q2 (by omega) hr1 hr2 hab hl h1 h2 hm hp)
  · obtain ⟨q1, q2⟩ := p1 (by omega)
    have eD : hf_D k = hf_dg k * 2 := by rw [hf_D, if_neg z]
    rw [eD] at hr1 hr2 hm hDl
    exact br_f q1 (nm_r (lN_mul (hf_dg k) 2) (nm_e (hx_48 hDl q2 (by omega) hr1 hr2 hab hl h1 h2 hm hp)))
theorem hx_root0 {k : Nat} (hk : hf_ok k) (h32 : 32768 < k) {u : SX} {post : Int32 → Prop} (hp : post (-1)) : wpX_root post u (nI k) := by
  have b1 := hf_Z_bd hk
  have hk2 := hk.1
  have hz : hf_Z k < 0 := by
    unfold hf_Z
    rw [if_neg (by omega)]
    have h1 := hf_A_mono (p := 1) (r := k % 32768) (by omega)
    rw [hf_A_lo (by decide)] at h1
    omega
  have e0 : ¬ 0 ≤ hz_l (hf_Z k) := by
    rw [← hz_l0, hz_lLE (by omega) (by omega)]
    omega
  exact hx_ok hk (br_f (by decide) (hx_uni hk (br_f e0 hp)))
