/-! the reference's small methods -/
theorem hy_dig {k : Nat} (hk : k < 65536) {post : Int64 → Prop} (hp : post (lN (hf_dg k))) : wpY_digitsOf post (nI k) := by
  unfold wpY_digitsOf
  rw [hy_eb hk, hy_fr hk]
  refine ⟨by decide, by decide, ?_⟩
  unfold hf_dg at hp
  by_cases z : hf_e k = 0
  · rw [if_pos z] at hp
    exact br_t ((hx_e0 k).mpr z) ⟨by decide, by rw [nI_l (by omega)]; exact hp⟩
  · rw [if_neg z] at hp
    refine br_f (fun y => z ((hx_e0 k).mp y)) ⟨by decide, ?_⟩
    rw [show (1024 : Int32) + nI (k % 1024) = nI (1024 + k % 1024) from nI_add 1024 _, nI_l (by omega)]
    exact hp
theorem hy_shi {k : Nat} (hk : k < 65536) {post : Int32 → Prop} (hp : post (nI (hf_sh k))) : wpY_shiftOf post (nI k) := by
  refine ⟨by decide, by decide, nm_r (hy_eb hk) ?_⟩
  unfold hf_sh at hp
  by_cases z : hf_e k = 0
  · rw [if_pos z] at hp
    exact br_t ((hx_e0 k).mpr z) hp
  · rw [if_neg z] at hp
    refine br_f (fun y => z ((hx_e0 k).mp y)) ?_
    rw [show nI (hf_e k) - 1 = nI (hf_e k - 1) from pk_sub (b := 1) (by omega)]
    exact hp
theorem hy_amt {k : Nat} (hk : k < 65536) (h : k % 32768 ≤ 31744) {post : Int64 → Prop} (hp : post (lN (hf_A (k % 32768)))) : wpY_amount post (nI k) := by
  refine nm_r (hx_lo hk) ?_
  by_cases z : k % 32768 = 31744
  · rw [z, hf_A_top] at hp
    exact br_t (by rw [z]; rfl) hp
  · refine br_f (fun w => z ((nI_eq (b := 31744) (by omega) (by decide)).mp w)) (hy_dig (by omega) (hy_shi (by omega) ?_))
    rw [wb_shl _ (by have := hf_sh_lt (k % 32768); omega), ← hf_A_ds, Nat.mod_mod]
    exact hp
theorem hy_am {p : Nat} (h : p ≤ 31744) {post : Int64 → Prop} (hp : post (lN (hf_A p))) : wpY_amount post (nI p) :=
  hy_amt (by omega) (by omega) (by rw [Nat.mod_eq_of_lt (by omega)]; exact hp)
theorem hy_sgn {k : Nat} (h : hf_ok k) {post : Int64 → Prop} (hp : post (hz_l (hf_Z k))) : wpY_signed post (nI k) := by
  have hk := h.1
  have he := h.2
  have h2 : k % 32768 ≤ 31744 := by unfold hf_e at he; omega
  unfold hf_Z at hp
  by_cases z : k < 32768
  · rw [if_pos z, hz_ln] at hp
    exact br_t (nI_lt (b := 32768) z (by decide)) (hy_amt hk h2 hp)
  · rw [if_neg z, ← hz_lg, hz_ln] at hp
    exact br_f (nI_nlt (b := 32768) (by omega) (by omega)) (hy_amt hk h2 hp)
/-! the reference's rounding -/
theorem hy_end {u l w r lo : Nat} {n : Nat} (hu : u < 2 ^ 62) (hl2 : l < 2 ^ 62) (hw : w * l + r = u) (hr : r < l) (hlo : lo ≤ 31743) (h1 : hf_A lo ≤ w) (h2 : w < hf_A (lo + 1)) {post : Int32 → Prop} (hp : post (nI (hf_R u l))) :
    wY_nearest_54 post (lN l) (lN w) (lN r) (n + 1) (nI lo) (nI lo) := by
  refine br_t (Int32.le_refl _) ?_
  rw [nI_1]
  have e : (2 : Int64) * (lN w - lN (hf_A lo)) * lN l + 2 * lN r = lN (2 * (w - hf_A lo) * l + 2 * r) := by
    have t : (2 : Int64) = lN 2 := rfl
    rw [lN_sub h1, t, lN_mul, lN_mul, lN_mul, lN_add]
  have e2 : nI lo - nI lo / 2 * 2 = nI (lo % 2) := pk_rem (d := 2) (by omega) (by decide) (by decide)
  obtain ⟨N1, N2, N3, N4, N5⟩ := hf_N hw hr (show lo < 31744 by omega) rfl rfl h1 h2
  refine hy_am (p := lo + 1) (by omega) (hy_am (p := lo) (by omega) (nm_r (lN_sub (Nat.le_of_lt (hf_A_lt lo))) (hy_am (p := lo) (by omega) (nm_r e ?_))))
  rw [lN_mul, e2]
  revert N1 N2 N3 N4 N5
  generalize 2 * (w - hf_A lo) * l + 2 * r = T
  generalize (hf_A (lo + 1) - hf_A lo) * l = G
  intro N1 N2 N3 N4 N5
  have bT : T < 2 ^ 63 := by omega
  have bG : G < 2 ^ 63 := by omega
  rcases Nat.lt_trichotomy T G with c | c | c
  · rw [N3 c] at hp
    exact br_f (fun y => by have := (pk_lEQ bT bG).mp y; omega) (br_t ((pk_lLE bT bG).mpr (by omega)) hp)
  · refine br_t (by rw [c]) ⟨by decide, ?_⟩
    rw [N1 c] at hp
    by_cases z : lo % 2 = 0
    · rw [z] at hp ⊢
      exact br_t rfl hp
    · have z1 : lo % 2 = 1 := by omega
      rw [z1] at hp ⊢
      exact br_f (by decide) hp
  · rw [N2 c] at hp
    exact br_f (fun y => by have := (pk_lEQ bT bG).mp y; omega) (br_f (fun y => by have := (pk_lLE bT bG).mp y; omega) hp)
theorem hy_near {u l : Nat} (hu : u < 2 ^ 62) (hl : 0 < l) (hl2 : l < 2 ^ 62) {post : Int32 → Prop} (hp : post (nI (hf_R u l))) : wpY_nearest post (lN u) (lN l) := by
  have n0 : ¬ lN l ≤ 0 := fun y => by have := (pk_lLE (b := 0) (by omega) (by decide)).mp y; omega
  have n1 : ¬ lN l = 0 := fun y => by have := (pk_lEQ (b := 0) (by omega) (by decide)).mp y; omega
  refine br_f n0 ⟨n1, br_f n0 ⟨n1, ?_⟩⟩
  rw [pk_lRem (by omega) hl (by omega), pk_lDiv (by omega) hl (by omega)]
  have hw := Nat.div_add_mod' u l
  have hr := Nat.mod_lt u hl
  have hle := Nat.div_le_self u l
  refine hy_am (p := 31744) (by omega) ?_
  rw [hf_A_top]
  by_cases c : u / l < 1099511627776
  · refine br_t ((pk_lLT (by omega) (by omega)).mpr c) ⟨31744, ?_⟩
    refine hb_search (fun n lo hi => wY_nearest_54 post (lN l) (lN (u / l)) (lN (u % l)) n (nI lo) (nI hi)) hf_A (u / l) 31743 ?_ ?_ 31743 0 31743 (by omega) (by omega) (by omega) ?_ ?_
    · intro n lo hlo h1 h2
      exact hy_end hu hl2 hw hr hlo h1 h2 hp
    · intro n lo hi hlt hB f g
      have b1 := hf_A_bd (p := (lo + hi + 1) / 2) (by omega)
      have e : (nI lo + nI hi + 1) / 2 = nI ((lo + hi + 1) / 2) := by
        rw [nI_add, nI_1]
        exact pk_div (d := 2) (by omega) (by decide) (by decide)
      refine br_f (fun y => by have := (nI_leI (by omega) (by omega)).mp y; omega) ⟨by decide, nm_r e (hy_am (by omega) ?_)⟩
      by_cases c2 : u / l < hf_A ((lo + hi + 1) / 2)
      · exact br_t ((pk_lLT (by omega) (by omega)).mpr c2) (nm_r (pk_sub (b := 1) (by omega)) (g c2))
      · exact br_f (fun y => c2 ((pk_lLT (by omega) (by omega)).mp y)) (f (by omega))
    · rw [hf_A_lo (by decide)]
      exact Nat.zero_le _
    · rw [hf_A_top]
      exact c
  · rw [hf_R_big (by omega)] at hp
    exact br_f (fun y => c ((pk_lLT (by omega) (by omega)).mp y)) hp
theorem hy_ws {r : Nat} (hr : r ≤ 31744) {neg : Int32} {post : Int32 → Prop} (hp : post (if neg = 0 then nI r else nI (hf_sn r))) : wpY_withSign post (nI r) neg := by
  by_cases z : neg = 0
  · rw [if_pos z] at hp
    exact br_t z hp
  · rw [if_neg z] at hp
    refine br_f z ?_
    by_cases y : r = 0
    · subst y
      exact br_t (by decide) hp
    · rw [hf_sn, if_neg y, ← nI_add] at hp
      exact br_f (nI_nle (by omega) (by omega)) hp
