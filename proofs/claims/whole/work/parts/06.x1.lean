/-! the component's small methods -/
theorem hz_m24 : hz_i (-24) = -24 := by decide +kernel
theorem hz_m40 : hz_i (-40) = -40 := by decide +kernel
theorem hz_25 : hz_i 25 = 25 := by decide +kernel
theorem hz_11 : hz_i 11 = 11 := by decide +kernel
theorem hz_i0 : hz_i 0 = 0 := by decide +kernel
theorem hz_30 : hz_i 30 = 30 := by decide +kernel
theorem hz_l0 : hz_l 0 = 0 := by decide +kernel
theorem hx_expB {k : Nat} (hk : k < 65536) {post : Int32 → Prop} (h : post (nI (hf_e k))) : wpX_exponentBits post (nI k) := by
  unfold wpX_exponentBits
  rw [hx_eb hk]
  exact h
theorem hx_e0 (k : Nat) : nI (hf_e k) = 0 ↔ hf_e k = 0 := nI_eq (b := 0) (by have := hf_e_lt k; omega) (by decide)
theorem hx_e31 (k : Nat) : nI (hf_e k) = 31 ↔ hf_e k = 31 := nI_eq (b := 31) (by have := hf_e_lt k; omega) (by decide)
theorem hx_ok {k : Nat} (h : hf_ok k) {post : Int32 → Prop} (hp : post 1) : wpX_isNumber post (nI k) := by
  have hk := h.1
  exact br_f (nI_pos (by omega)) (br_f (nI_nlt (a := 65535) (b := k) (by omega) (by decide)) (hx_expB hk (br_f (fun z => h.2 ((hx_e31 k).mp z)) hp)))
theorem hy_ok {k : Nat} (h : hf_ok k) {post : Int32 → Prop} (hp : post 0) : wpY_bad post (nI k) := by
  have hk := h.1
  refine br_f (nI_pos (by omega)) (br_f (nI_nlt (a := 65535) (b := k) (by omega) (by decide)) ⟨by decide, by decide, br_f ?_ hp⟩)
  rw [hy_eb hk]
  exact fun z => h.2 ((hx_e31 k).mp z)
theorem hx_cls (v : Int32) : (∃ k, v = nI k ∧ hf_ok k) ∨ ((∀ post : Int32 → Prop, post 0 → wpX_isNumber post v) ∧ (∀ post : Int32 → Prop, post 1 → wpY_bad post v)) := by
  by_cases h0 : v < 0
  · exact Or.inr ⟨fun post hp => br_t h0 hp, fun post hp => br_t h0 hp⟩
  · obtain ⟨k, hk, rfl⟩ := nI_of h0
    rcases Nat.lt_or_ge 65535 k with h1 | h1
    · have h2 : (65535 : Int32) < nI k := nI_lt (a := 65535) h1 hk
      exact Or.inr ⟨fun post hp => br_f h0 (br_t h2 hp), fun post hp => br_f h0 (br_t h2 hp)⟩
    · have h2 : ¬ (65535 : Int32) < nI k := nI_nlt (a := 65535) h1 (by decide)
      have hk2 : k < 65536 := by omega
      by_cases h3 : hf_e k = 31
      · refine Or.inr ⟨fun post hp => br_f h0 (br_f h2 (hx_expB hk2 (br_t ((hx_e31 k).mpr h3) hp))), fun post hp => br_f h0 (br_f h2 ⟨by decide, by decide, br_t ?_ hp⟩)⟩
        rw [hy_eb hk2]
        exact (hx_e31 k).mpr h3
      · exact Or.inl ⟨k, rfl, hk2, h3⟩
theorem hx_sig {k : Nat} (hk : k < 65536) {post : Int64 → Prop} (hp : post (lN (hf_dg k))) : wpX_significandOf post (nI k) := by
  refine nm_r (hx_fr hk) (hx_expB hk ?_)
  unfold hf_dg at hp
  by_cases z : hf_e k = 0
  · rw [if_pos z] at hp
    refine br_t ((hx_e0 k).mpr z) ?_
    rw [nI_l (by omega)]
    exact hp
  · rw [if_neg z] at hp
    refine br_f (fun y => z ((hx_e0 k).mp y)) ?_
    rw [show (1024 : Int32) + nI (k % 1024) = nI (1024 + k % 1024) from nI_add 1024 _, nI_l (by omega)]
    exact hp
theorem hx_sca {k : Nat} (hk : k < 65536) {post : Int32 → Prop} (hp : post (hz_i ((hf_sh k : Int) - 24))) : wpX_scaleOf post (nI k) := by
  refine hx_expB hk ?_
  by_cases z : hf_e k = 0
  · have e : (hf_sh k : Int) - 24 = -24 := by rw [hf_sh, if_pos z]; rfl
    rw [e, hz_m24] at hp
    exact br_t ((hx_e0 k).mpr z) hp
  · have e : (hf_sh k : Int) - 24 = (hf_e k : Int) - 25 := by rw [hf_sh, if_neg z]; omega
    rw [e, ← hz_is, hz_in, hz_25] at hp
    exact br_f (fun y => z ((hx_e0 k).mp y)) hp
theorem hx_neg {k : Nat} (hk : k < 65536) {post : Int32 → Prop} (hp : post (if k < 32768 then 0 else 1)) : wpX_isMarkedNegative post (nI k) := by
  by_cases z : k < 32768
  · rw [if_pos z] at hp
    exact br_t ((hx_sg hk).mpr z) hp
  · rw [if_neg z] at hp
    exact br_f (fun y => z ((hx_sg hk).mp y)) hp
theorem hx_uni {k : Nat} (h : hf_ok k) {post : Int64 → Prop} (hp : post (hz_l (hf_Z k))) : wpX_unitsOf post (nI k) := by
  have hk := h.1
  refine hx_sig hk (hx_sca hk (nm_r (e' := lN (hf_A (k % 32768))) ?_ (hx_neg hk ?_)))
  · have e : hz_i ((hf_sh k : Int) - 24) - (-24) = nI (hf_sh k) := by
      rw [← hz_m24, hz_is, show (hf_sh k : Int) - 24 - (-24) = (hf_sh k : Int) by omega, hz_in]
    rw [e, wb_shl _ (by have := hf_sh_lt k; omega), ← hf_A_ds]
  · unfold hf_Z at hp
    by_cases z : k < 32768
    · rw [if_pos z] at hp
      rw [if_pos z]
      exact br_t rfl (by rw [← hz_ln]; exact hp)
    · rw [if_neg z] at hp
      rw [if_neg z]
      exact br_f (by decide) (by rw [← hz_ln, hz_lg]; exact hp)
/-! the bits of an amount -/
theorem hx_bl {A : Nat} (h0 : A ≠ 0) (hA : A < 2 ^ 62) {post : Int32 → Prop} (hp : post (nI (A.log2 + 1))) : wpX_bitLength post (lN A) := by
  have hL : A.log2 + 1 ≤ 62 := hf_L3 h0 hA
  have key : ∀ d i, i + d = 63 → wX_bitLength_4 post (lN A) (d + 1) (nI (min i (A.log2 + 1))) (nI i) := by
    intro d
    induction d with
    | zero =>
      intro i hi
      refine br_t (nI_le (a := 63) (b := i) (by omega) (by omega)) ?_
      rw [show min i (A.log2 + 1) = A.log2 + 1 by omega]
      exact hp
    | succ d ih =>
      intro i hi
      refine br_f (nI_ge (a := i) (b := 63) (by omega) (by decide)) ?_
      have e : lN A >>> ((nI i).toInt64 &&& 63) = lN (A / 2 ^ i) := hz_shr hA (by omega)
      have hq : A / 2 ^ i < 2 ^ 62 := Nat.lt_of_le_of_lt (Nat.div_le_self _ _) hA
      have ih2 := ih (i + 1) (by omega)
      rcases Nat.lt_or_ge i (A.log2 + 1) with z | z
      · refine br_f (fun y => ?_) (nm_r (nI_1 i) (nm_r (nI_1 i) ?_))
        · rw [e] at y
          have y2 := (pk_lEQ (b := 0) (by omega) (by decide)).mp y
          have y3 := (hf_shz h0).mp y2
          omega
        · rw [show min (i + 1) (A.log2 + 1) = i + 1 by omega] at ih2
          exact ih2
      · refine br_t ?_ (nm_r (nI_1 i) ?_)
        · rw [e, (hf_shz h0).mpr z]
          rfl
        · rw [show min (i + 1) (A.log2 + 1) = min i (A.log2 + 1) by omega] at ih2
          exact ih2
  have k0 := key 63 0 (by omega)
  rw [Nat.zero_min] at k0
  exact ⟨64, k0⟩
/-! the shift that rounds -/
theorem hx_rs0 {A t : Nat} (ht : t < 64) {m : Int32} {post : Int64 → Prop} (hp : post (lN (A * 2 ^ t))) : wpX_roundedShift post (lN A) (hz_i (-(t : Int))) m := by
  refine br_f (fun y => ?_) ?_
  · rw [← hz_i0, hz_iLT (by omega) (by omega)] at y
    omega
  · rw [hz_ig, Int.neg_neg, hz_in, wb_shl _ ht]
    exact hp
theorem hx_54t {q : Nat} {x6 x8 : Int64} {post : Int64 → Prop} (hp : post (lN (q + 1))) : wX_roundedShift_54 post (lN q) x6 x8 1 := by
  rw [← lN_1] at hp
  exact br_c (fun _ => br_c (fun _ => br_f (by decide) hp) (fun _ => br_f (by decide) hp)) (fun _ => br_f (by decide) hp)
theorem hx_54f {q rest half : Nat} (hq : q < 2 ^ 63) (hr : rest < 2 ^ 63) (hh : half < 2 ^ 63) {post : Int64 → Prop} (h1 : rest = half → q % 2 = 1 → post (lN (q + 1))) (h0 : ¬ (rest = half ∧ q % 2 = 1) → post (lN q)) :
    wX_roundedShift_54 post (lN q) (lN rest) (lN half) 0 := by
  by_cases z : rest = half
  · refine br_t (by rw [z]) ?_
    by_cases y : q % 2 = 1
    · refine br_f (fun w => ?_) ?_
      · rw [wb_a1 (by omega)] at w
        have := (pk_lEQ (b := 0) (by omega) (by decide)).mp w
        omega
      · have h2 := h1 z y
        rw [← lN_1] at h2
        exact br_t rfl (br_f (by decide) h2)
    · refine br_t ?_ (br_t rfl (br_t rfl (h0 (fun w => y w.2))))
      rw [wb_a1 (by omega), show q % 2 = 0 by omega]
      rfl
  · exact br_f (fun w => z ((pk_lEQ hr hh).mp w)) (br_t rfl (br_t rfl (h0 (fun w => z w.1))))
theorem hx_rs1 {A sh : Nat} (hA : A < 2 ^ 62) (h0 : 0 < sh) (h6 : sh < 63) {m : Int32} {post : Int64 → Prop}
    (hp1 : (2 ^ (sh - 1) < A % 2 ^ sh ∨ (A % 2 ^ sh = 2 ^ (sh - 1) ∧ (¬ m = 0 ∨ A / 2 ^ sh % 2 = 1))) → post (lN (A / 2 ^ sh + 1)))
    (hp0 : ¬ (2 ^ (sh - 1) < A % 2 ^ sh ∨ (A % 2 ^ sh = 2 ^ (sh - 1) ∧ (¬ m = 0 ∨ A / 2 ^ sh % 2 = 1))) → post (lN (A / 2 ^ sh))) :
    wpX_roundedShift post (lN A) (nI sh) m := by
  have e6 : lN A - (lN (A / 2 ^ sh) <<< ((nI sh).toInt64 &&& 63)) = lN (A % 2 ^ sh) := by
    rw [wb_shl _ (by omega), lN_sub (Nat.div_mul_le_self _ _), ← Nat.mod_eq_sub_div_mul]
  have e8 : (1 : Int64) <<< ((nI sh - 1).toInt64 &&& 63) = lN (2 ^ (sh - 1)) := by
    obtain ⟨t, rfl⟩ : ∃ t, sh = t + 1 := ⟨sh - 1, by omega⟩
    rw [nI_pred, Nat.add_sub_cancel]
    have := wb_shl 1 (k := t) (by omega)
    rw [Nat.one_mul] at this
    exact this
  have b1 : A / 2 ^ sh < 2 ^ 62 := Nat.lt_of_le_of_lt (Nat.div_le_self _ _) hA
  have b2 : A % 2 ^ sh < 2 ^ 62 := Nat.lt_of_le_of_lt (Nat.mod_le _ _) hA
  have b3 : 2 ^ (sh - 1) < 2 ^ 62 := wb_lt2 (by omega)
  refine br_t (nI_lt (a := 0) (b := sh) h0 (by omega)) (nm_r (hz_shr hA (by omega)) (nm_r e6 (nm_r e8 ?_)))
  revert hp1 hp0 b1 b2 b3
  generalize A / 2 ^ sh = q
  generalize A % 2 ^ sh = rest
  generalize 2 ^ (sh - 1) = half
  intro hp1 hp0 b1 b2 b3
  by_cases z : half < rest
  · exact br_t ((pk_lLT (by omega) (by omega)).mpr z) (hx_54t (hp1 (Or.inl z)))
  · refine br_f (fun y => z ((pk_lLT (by omega) (by omega)).mp y)) ?_
    by_cases y : rest = half
    · refine br_t (by rw [y]) ?_
      by_cases w : m = 0
      · refine br_t w (hx_54f (by omega) (by omega) (by omega) (fun _ k => hp1 (Or.inr ⟨y, Or.inr k⟩)) (fun k => hp0 (fun v => ?_)))
        rcases v with v | ⟨v1, v2 | v2⟩
        · exact z v
        · exact v2 w
        · exact k ⟨v1, v2⟩
      · exact br_f w (hx_54t (hp1 (Or.inr ⟨y, Or.inl w⟩)))
    · refine br_f (fun w => y ((pk_lEQ (by omega) (by omega)).mp w)) (hx_54f (by omega) (by omega) (by omega) (fun k _ => absurd k y) (fun _ => hp0 (fun v => ?_)))
      rcases v with v | ⟨v1, _⟩
      · exact z v
      · exact y v1
