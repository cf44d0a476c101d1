/-! sums, products, quotients -/
def hf_sum (σ : Int) : Int32 := if 0 ≤ σ then nI (hf_R σ.toNat 1) else nI (hf_sn (hf_R (-σ).toNat 1))
theorem hx_sum {σ : Int} (hb : -2199023255552 < σ ∧ σ < 2199023255552) {post : Int32 → Prop} (hp : post (hf_sum σ)) :
    (0 ≤ hz_l σ → wX_add_37 post (hz_l σ) 0) ∧ (¬ 0 ≤ hz_l σ → wX_add_37 post (hz_l σ) 1) := by
  have e : 0 ≤ hz_l σ ↔ 0 ≤ σ := by rw [← hz_l0]; exact hz_lLE (by omega) (by omega)
  unfold hf_sum at hp
  by_cases z : 0 ≤ σ
  · rw [if_pos z] at hp
    obtain ⟨n, rfl⟩ : ∃ n : Nat, σ = (n : Int) := ⟨σ.toNat, by omega⟩
    rw [Int.toNat_natCast] at hp
    have h := hx_rex (A := n) (u := n) (l := 1) (a := 0) (b := 0) (s := -24) (neg := 0) (post := post) (by omega) (by omega) (by omega) (by decide) (by omega) hp
    rw [hz_m24] at h
    refine br_t (e.mpr z) (br_t rfl ?_)
    rw [hz_ln]
    exact h
  · rw [if_neg z] at hp
    obtain ⟨n, hn⟩ : ∃ n : Nat, -σ = (n : Int) := ⟨(-σ).toNat, by omega⟩
    rw [hn, Int.toNat_natCast] at hp
    have h := hx_rex (A := n) (u := n) (l := 1) (a := 0) (b := 0) (s := -24) (neg := 1) (post := post) (by omega) (by omega) (by omega) (by decide) (by omega) hp
    rw [hz_m24] at h
    refine br_f (fun y => z (e.mp y)) (br_f (by decide) ?_)
    rw [hz_lg, hn, hz_ln]
    exact h
theorem hx_add {j k : Nat} (hj : hf_ok j) (hk : hf_ok k) {u : SX} {post : Int32 → Prop} (hp : post (hf_sum (hf_Z j + hf_Z k))) : wpX_add post u (nI j) (nI k) := by
  have b1 := hf_Z_bd hj
  have b2 := hf_Z_bd hk
  exact hx_ok hj (br_f (by decide) (hx_ok hk (br_f (by decide) (hx_uni hj (hx_uni hk (nm_r (hz_la _ _) (hx_sum (by omega) hp)))))))
/-- the sign of a product or quotient, and the answer -/
def hf_sg (j k r : Nat) : Int32 := if (j < 32768 ↔ k < 32768) then nI r else nI (hf_sn r)
theorem hx_mul {j k : Nat} (hj : hf_ok j) (hk : hf_ok k) {u : SX} {post : Int32 → Prop} {v l a b : Nat} (hab : (hf_sh j : Int) + hf_sh k - 24 = (a : Int) - b) (hl : 0 < l) (h : v * 2 ^ b = hf_dg j * hf_dg k * (l * 2 ^ a))
    (hp : post (hf_sg j k (hf_R v l))) : wpX_multiply post u (nI j) (nI k) := by
  have d1 := hf_dg_lt j
  have d2 := hf_dg_lt k
  have s1 := hf_sh_lt j
  have s2 := hf_sh_lt k
  have hA : hf_dg j * hf_dg k < 2 ^ 62 := Nat.lt_of_le_of_lt (Nat.mul_le_mul (Nat.le_of_lt d1) (Nat.le_of_lt d2)) (by decide)
  refine hx_ok hj (br_f (by decide) (hx_ok hk (br_f (by decide) (hx_sig hj.1 (hx_sig hk.1 (nm_r (lN_mul _ _) (hx_sca hj.1 (hx_sca hk.1 (nm_r (hz_ia _ _) (hx_neg hj.1 (hx_neg hk.1 ?_)))))))))))
  unfold hf_sg at hp
  by_cases z1 : j < 32768 <;> by_cases z2 : k < 32768
  · rw [if_pos (by simp [z1, z2])] at hp
    rw [if_pos z1, if_pos z2]
    exact br_t rfl (hx_rex hA (by omega) (by omega) hl h hp)
  · rw [if_neg (by simp [z1, z2])] at hp
    rw [if_pos z1, if_neg z2]
    exact br_f (by decide) (hx_rex hA (by omega) (by omega) hl h hp)
  · rw [if_neg (by simp [z1, z2])] at hp
    rw [if_neg z1, if_pos z2]
    exact br_f (by decide) (hx_rex hA (by omega) (by omega) hl h hp)
  · rw [if_pos (by simp [z1, z2])] at hp
    rw [if_neg z1, if_neg z2]
    exact br_t rfl (hx_rex hA (by omega) (by omega) hl h hp)
