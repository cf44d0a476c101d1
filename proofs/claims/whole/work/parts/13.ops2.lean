/-! quotients -/
theorem hy_sgd {a b r : Nat} {fd fx : Int32} {x3 : Int32} {post : Int32 → Prop} (ha : a < 65536) (hb : b < 65536) (hr : r ≤ 31744) (hp : post (hf_sg a b r))
    (K : ∀ z0 : Int32, wpY_withSign (fun y => post y) (nI r) z0 → wY_divide_68 post (nI a) (nI b) x3 z0 fd fx) :
    (nI a < 32768 → wY_divide_49 post (nI a) (nI b) x3 0 fd fx) ∧ (¬ nI a < 32768 → wY_divide_49 post (nI a) (nI b) x3 1 fd fx) := by
  unfold hf_sg at hp
  by_cases z1 : a < 32768 <;> by_cases z2 : b < 32768
  · rw [if_pos (by simp [z1, z2])] at hp
    exact br_t ((hy_lt ha).mpr z1) (br_t ((hy_lt hb).mpr z2) (br_t rfl (K 0 (hy_ws hr (by rw [if_pos rfl]; exact hp)))))
  · rw [if_neg (by simp [z1, z2])] at hp
    exact br_t ((hy_lt ha).mpr z1) (br_f (fun y => z2 ((hy_lt hb).mp y)) (br_f (by decide) (K 1 (hy_ws hr (by rw [if_neg (by decide)]; exact hp)))))
  · rw [if_neg (by simp [z1, z2])] at hp
    exact br_f (fun y => z1 ((hy_lt ha).mp y)) (br_t ((hy_lt hb).mpr z2) (br_f (by decide) (K 1 (hy_ws hr (by rw [if_neg (by decide)]; exact hp)))))
  · rw [if_pos (by simp [z1, z2])] at hp
    exact br_f (fun y => z1 ((hy_lt ha).mp y)) (br_f (fun y => z2 ((hy_lt hb).mp y)) (br_t rfl (K 0 (hy_ws hr (by rw [if_pos rfl]; exact hp)))))
theorem hy_div0 {a b : Nat} (ha : hf_ok a) (hb : hf_ok b) (z : hf_dg b = 0) {v : SY} {post : Int32 → Prop} (hp : post (-1)) : wpY_divide post v (nI a) (nI b) := by
  obtain ⟨fd, fx⟩ := v
  unfold wpY_divide
  dsimp only
  refine hy_ok ha (br_t rfl (hy_ok hb (br_t rfl (hy_dig hb.1 (br_t ?_ hp)))))
  rw [z]
  rfl
theorem hy_div {a b r : Nat} (ha : hf_ok a) (hb : hf_ok b) (z : hf_dg b ≠ 0) (hr : r ≤ 31744) {v : SY} {post : Int32 → Prop} (hp : post (hf_sg a b r))
    (K : ∀ (z0 fd fx : Int32), wpY_withSign (fun y => post y) (nI r) z0 → wY_divide_68 post (nI a) (nI b) (hz_i ((hf_sh a : Int) - hf_sh b + 24)) z0 fd fx) : wpY_divide post v (nI a) (nI b) := by
  obtain ⟨fd, fx⟩ := v
  have d2 := hf_dg_lt b
  have ne : ¬ lN (hf_dg b) = 0 := fun y => z ((pk_lEQ (b := 0) (by omega) (by decide)).mp y)
  have e5 : nI (hf_sh a) - nI (hf_sh b) + 24 = hz_i ((hf_sh a : Int) - hf_sh b + 24) := by rw [← hz_in, ← hz_in, hz_is, ← hz_24, hz_ia]
  unfold wpY_divide
  dsimp only
  exact hy_ok ha (br_t rfl (hy_ok hb (br_t rfl (hy_dig hb.1 (br_f ne (hy_shi ha.1 (hy_shi hb.1 (nm_r e5 (hy_sgd ha.1 hb.1 hr hp (fun z0 => K z0 fd fx))))))))))
theorem hy_tr {x y : Nat} (e : x = y) {post : Int32 → Prop} {z : Int32} (h : wpY_withSign post (nI x) z) : wpY_withSign post (nI y) z := e ▸ h
theorem hf_p2 {n m : Nat} (h : n ≤ m) : 2 ^ n ≤ 2 ^ m := Nat.pow_le_pow_right (by decide) h
theorem hz_45 : hz_i 45 = 45 := by decide +kernel
theorem i_vc_divide {k : Nat} {u : SX} {v : SY} (I : i_Rel k u v) (hk : k + 3 ≤ 1536) (v1 : Int32) (v2 : Int32) : wpX_divide (fun r => wpY_divide (fun r' => r' = r ∧ i_Rel (k + 3) u v) v v1 v2) u v1 v2 := by
  rcases hx_cls v1 with ⟨a, rfl, ha⟩ | ⟨x1, y1⟩
  · rcases hx_cls v2 with ⟨b, rfl, hb⟩ | ⟨x2, y2⟩
    · by_cases z : hf_dg b = 0
      · exact hx_div0 ha hb z (hy_div0 ha hb z ⟨rfl, True.intro⟩)
      · have d1 := hf_dg_lt a
        have d2 := hf_dg_lt b
        have s1 := hf_sh_lt a
        have s2 := hf_sh_lt b
        by_cases c : (hf_sh a : Int) - hf_sh b + 24 < 0
        · obtain ⟨n, hn⟩ : ∃ n : Nat, (hf_sh a : Int) - hf_sh b + 24 = -(n : Int) := ⟨(-((hf_sh a : Int) - hf_sh b + 24)).toNat, by omega⟩
          obtain ⟨q1, q2, q3⟩ := hf_q1 (x := hf_dg a) (y := hf_dg b) (a := n) (b := 30) (by omega)
          have e : hf_dg a * 2 ^ n * 2 ^ 30 = hf_dg a * 2 ^ (n + 30) := by rw [Nat.mul_assoc, ← Nat.pow_add]
          rw [e] at q1 q2 q3
          have p1 := hf_p2 (show n ≤ 6 by omega)
          have p2 : hf_dg b * 2 ^ n ≤ 2048 * 2 ^ 6 := Nat.mul_le_mul (by omega) p1
          have p3 : 0 < hf_dg b * 2 ^ n := Nat.mul_pos (by omega) (Nat.two_pow_pos n)
          refine hx_div ha hb (A := hf_dg a * 2 ^ 30 / hf_dg b) (v := hf_dg a) (l := hf_dg b * 2 ^ n) (a := 0) (b := n + 30) z rfl (by omega) p3 (by rw [Nat.pow_zero, Nat.mul_one]; exact q1) (by rw [Nat.pow_zero, Nat.mul_one]; exact q2) (by rw [Nat.pow_zero, Nat.mul_one]; exact q3) ?_
          refine hy_div ha hb z (hf_R_le _ _) ⟨rfl, True.intro⟩ (fun z0 fd fx hw => hy_dig ha.1 (hy_dig hb.1 ?_))
          by_cases za : hf_dg a = 0
          · exact br_t (by rw [za]; rfl) (hy_tr (y := 0) (by rw [za]; exact hf_R_zero p3) hw)
          · refine br_f (fun y => za ((pk_lEQ (b := 0) (by omega) (by decide)).mp y)) (br_f (fun y => ?_) (br_t ?_ ?_))
            · rw [← hz_45, hz_iLT (by omega) (by omega)] at y
              omega
            · rw [← hz_i0, hz_iLT (by omega) (by omega)]
              exact c
            · rw [hn, hz_ig, Int.neg_neg, hz_in, wb_shl _ (by omega)]
              exact hy_near (by omega) p3 (by omega) hw
        · obtain ⟨n, hn⟩ : ∃ n : Nat, (hf_sh a : Int) - hf_sh b + 24 = (n : Int) := ⟨((hf_sh a : Int) - hf_sh b + 24).toNat, by omega⟩
          obtain ⟨q1, q2, q3⟩ := hf_q1 (x := hf_dg a) (y := hf_dg b) (a := n) (b := 30) (by omega)
          refine hx_div ha hb (A := hf_dg a * 2 ^ 30 / hf_dg b) (v := hf_dg a * 2 ^ n) (l := hf_dg b) (a := n) (b := 30) z rfl (by omega) (by omega) q1 q2 q3 ?_
          refine hy_div ha hb z (hf_R_le _ _) ⟨rfl, True.intro⟩ (fun z0 fd fx hw => hy_dig ha.1 (hy_dig hb.1 ?_))
          by_cases za : hf_dg a = 0
          · exact br_t (by rw [za]; rfl) (hy_tr (y := 0) (by rw [za, Nat.zero_mul]; exact hf_R_zero (by omega)) hw)
          · refine br_f (fun y => za ((pk_lEQ (b := 0) (by omega) (by decide)).mp y)) ?_
            by_cases c45 : (45 : Int) < (hf_sh a : Int) - hf_sh b + 24
            · have hd : 1024 ≤ hf_dg a := by
                have h22 : hf_sh a ≠ 0 := by omega
                unfold hf_sh at h22
                unfold hf_dg
                split
                · rename_i h0
                  rw [if_pos h0] at h22
                  omega
                · omega
              have p1 := hf_p2 (show 46 ≤ n by omega)
              have p2 : 1024 * 2 ^ 46 ≤ hf_dg a * 2 ^ n := Nat.mul_le_mul hd p1
              have big : 1099511627776 ≤ hf_dg a * 2 ^ n / hf_dg b := by
                apply (Nat.le_div_iff_mul_le (by omega)).mpr
                omega
              refine br_t ?_ (hy_tr (y := 31744) (hf_R_big big) hw)
              rw [← hz_45, hz_iLT (by omega) (by omega)]
              exact c45
            · have p1 : hf_dg a * 2 ^ n ≤ 2048 * 2 ^ 45 := Nat.mul_le_mul (by omega) (hf_p2 (by omega))
              refine br_f (fun y => ?_) (br_f ?_ ?_)
              · rw [← hz_45, hz_iLT (by omega) (by omega)] at y
                exact c45 y
              · rw [← hz_i0, hz_iLT (by omega) (by omega)]
                exact c
              · rw [hn, hz_in, wb_shl _ (by omega)]
                exact hy_near (Nat.lt_of_le_of_lt p1 (by decide)) (by omega) (by omega) hw
    · exact hx_ok ha (br_f (by decide) (x2 _ (br_t rfl (hy_divide_n2 ha y2 ⟨rfl, True.intro⟩))))
  · exact x1 _ (br_t rfl (hy_divide_n1 y1 ⟨rfl, True.intro⟩))
/-! roots -/
theorem hy_rt {F r : Nat} (hF : F < 2 ^ 62) (hr1 : r * r ≤ F) (hr2 : F < (r + 1) * (r + 1)) {post : Int64 → Prop} (hp : post (lN r)) : wpY_rootOf post (lN F) := by
  obtain ⟨N, hN⟩ : ∃ N, 2147483648 ≤ N := ⟨2147483648, Nat.le_refl _⟩
  refine ⟨N + 1, hb_search (fun n lo hi => wY_rootOf_7 post (lN F) n (lN lo) (lN hi)) (fun x => x * x) F 2147483648 ?_ ?_ N 0 2147483648 (by omega) (by omega) (by omega) (Nat.zero_le _) ?_⟩
  · intro n lo hB h1 h2
    have e : lo = r := hf_rt_un h1 h2 hr1 hr2
    subst e
    exact br_t (Int64.le_refl _) hp
  · intro n lo hi hlt hB f g
    have e : (lN lo + lN hi + 1) / 2 = lN ((lo + hi + 1) / 2) := by
      rw [lN_add, lN_1]
      exact pk_lDiv (b := 2) (by omega) (by decide) (by decide)
    have b1 : (lo + hi + 1) / 2 * ((lo + hi + 1) / 2) ≤ 2147483648 * 2147483648 := Nat.mul_le_mul (by omega) (by omega)
    have hm : 1 ≤ (lo + hi + 1) / 2 := by omega
    refine br_f (fun y => by have := (pk_lLE (by omega) (by omega)).mp y; omega) ⟨by decide, nm_r e ?_⟩
    rw [lN_mul]
    revert f g b1 hm
    generalize (lo + hi + 1) / 2 = m
    intro f g b1 hm
    by_cases c : F < m * m
    · exact br_t ((pk_lLT (by omega) (by omega)).mpr c) (nm_r (lN_sub (b := 1) hm) (g c))
    · exact br_f (fun y => c ((pk_lLT (by omega) (by omega)).mp y)) (f (Nat.le_of_not_lt c))
  · show F < (2147483648 + 1) * (2147483648 + 1)
    omega
/-- the root of the digits, rounded: r and what is left -/
def hf_rv (c h : Nat) : Nat := if 3 ≤ c then hf_R (h * 2 ^ (c - 3)) 1 else hf_R h (2 ^ (3 - c))
theorem hy_80 {c r δ : Nat} {x2 z0 : Int32} (hc : c < 16) (hx2 : x2 / 2 - 15 = hz_i ((c : Int) - 3)) (hz : z0.toInt64 = lN δ) (hδ : δ ≤ 1) (hr : r < 2 ^ 21) {fd fx : Int32} {post : Int32 → Prop} (hp : post (nI (hf_rv c (2 * r + δ)))) :
    wY_root_80 post x2 z0 (2 * lN r) fd fx := by
  have e : (2 : Int64) * lN r + z0.toInt64 = lN (2 * r + δ) := by
    rw [hz]
    have t : (2 : Int64) = lN 2 := rfl
    rw [t, lN_mul, lN_add]
  refine nm_r e ⟨by decide, nm_r hx2 ?_⟩
  unfold hf_rv at hp
  by_cases c3 : 3 ≤ c
  · rw [if_pos c3] at hp
    have p1 : (2 * r + δ) * 2 ^ (c - 3) ≤ 2 ^ 23 * 2 ^ 13 := Nat.mul_le_mul (by omega) (hf_p2 (by omega))
    refine br_f ?_ ?_
    · rw [← hz_i0, hz_iLT (by omega) (by omega)]
      omega
    · rw [show (c : Int) - 3 = ((c - 3 : Nat) : Int) by omega, hz_in, wb_shl _ (by omega)]
      exact hy_near (l := 1) (Nat.lt_of_le_of_lt p1 (by decide)) (by decide) (by decide) hp
  · rw [if_neg c3] at hp
    have p1 := hf_p2 (show 3 - c ≤ 3 by omega)
    refine br_t ?_ ?_
    · rw [← hz_i0, hz_iLT (by omega) (by omega)]
      omega
    · rw [show (c : Int) - 3 = -((3 - c : Nat) : Int) by omega, hz_ig, Int.neg_neg, hz_in, hz_1s (by omega)]
      exact hy_near (by omega) (Nat.two_pow_pos _) (by omega) hp
theorem hy_44 {c r D δ : Nat} {x2 : Int32} (hc : c < 16) (hx2 : x2 / 2 - 15 = hz_i ((c : Int) - 3)) (hD : D < 4096) (hr1 : r * r ≤ D * 2 ^ 28) (hr2 : D * 2 ^ 28 < (r + 1) * (r + 1)) (hδ : δ = if r * r = D * 2 ^ 28 then 0 else 1) {fd fx : Int32} {post : Int32 → Prop}
    (hp : post (nI (hf_rv c (2 * r + δ)))) : wY_root_44 post x2 (lN D) fd fx := by
  have e1 : lN D <<< ((28 : Int32).toInt64 &&& 63) = lN (D * 2 ^ 28) := wb_shl _ (k := 28) (by decide)
  have hr3 : r < 2 ^ 21 := by
    rcases Nat.lt_or_ge r (2 ^ 21) with z | z
    · exact z
    · have := Nat.mul_le_mul z z
      omega
  refine nm_r e1 (hy_rt (by omega) hr1 hr2 ?_)
  rw [lN_mul]
  have eq : lN (r * r) = lN (D * 2 ^ 28) ↔ r * r = D * 2 ^ 28 := pk_lEQ (by omega) (by omega)
  by_cases y : r * r = D * 2 ^ 28
  · rw [if_pos y] at hδ
    subst hδ
    exact br_t (eq.mpr y) (hy_80 hc hx2 (by decide) (by omega) hr3 hp)
  · rw [if_neg y] at hδ
    subst hδ
    exact br_f (fun w => y (eq.mp w)) (hy_80 hc hx2 (by decide) (by omega) hr3 hp)
theorem hy_root {k r δ : Nat} (hk : hf_ok k) (h32 : k ≤ 32768) (hr1 : r * r ≤ hf_D k * 2 ^ 28) (hr2 : hf_D k * 2 ^ 28 < (r + 1) * (r + 1)) (hδ : δ = if r * r = hf_D k * 2 ^ 28 then 0 else 1) {v : SY} {post : Int32 → Prop}
    (hp : post (nI (hf_rv (hf_sh k / 2) (2 * r + δ)))) : wpY_root post v (nI k) := by
  obtain ⟨fd, fx⟩ := v
  have hs := hf_sh_lt k
  have hDl := hf_D_lt k
  have e2 : nI (hf_sh k) + 24 = nI (hf_sh k + 24) := nI_add _ 24
  have e3 : nI (hf_sh k + 24) - nI (hf_sh k + 24) / 2 * 2 = nI ((hf_sh k + 24) % 2) := pk_rem (d := 2) (by omega) (by decide) (by decide)
  have e4 : nI (hf_sh k + 24) / 2 - 15 = hz_i (((hf_sh k / 2 : Nat) : Int) - 3) := by
    have t : nI (hf_sh k + 24) / 2 = nI ((hf_sh k + 24) / 2) := pk_div (d := 2) (by omega) (by decide) (by decide)
    have t2 : hz_i 15 = 15 := by decide +kernel
    rw [t, ← hz_in, ← t2, hz_is]
    congr 1
    omega
  unfold wpY_root
  dsimp only
  refine hy_ok hk (br_t rfl (br_t (nI_le (b := 32768) h32 (by decide)) (hy_shi hk.1 (nm_r e2 ⟨by decide, ?_⟩))))
  rw [e3]
  by_cases z : hf_sh k % 2 = 0
  · have eD : hf_D k = hf_dg k := by rw [hf_D, if_pos z]
    rw [eD] at hr1 hr2 hδ hDl
    exact br_t (by rw [show (hf_sh k + 24) % 2 = 0 by omega]; rfl) (hy_dig hk.1 (hy_44 (by omega) e4 hDl hr1 hr2 hδ hp))
  · have eD : hf_D k = hf_dg k * 2 := by rw [hf_D, if_neg z]
    rw [eD] at hr1 hr2 hδ hDl
    refine br_f (by rw [show (hf_sh k + 24) % 2 = 1 by omega]; decide) (hy_dig hk.1 ?_)
    have t : (2 : Int64) * lN (hf_dg k) = lN (hf_dg k * 2) := by
      rw [Nat.mul_comm]
      exact lN_mul 2 _
    rw [t]
    exact hy_44 (by omega) e4 hDl hr1 hr2 hδ hp
theorem hy_root0 {k : Nat} (hk : hf_ok k) (h32 : 32768 < k) {v : SY} {post : Int32 → Prop} (hp : post (-1)) : wpY_root post v (nI k) := by
  obtain ⟨fd, fx⟩ := v
  have := hk.1
  unfold wpY_root
  dsimp only
  exact hy_ok hk (br_t rfl (br_f (nI_ge (a := 32768) h32 (by omega)) hp))
theorem i_vc_root {k : Nat} {u : SX} {v : SY} (I : i_Rel k u v) (hk : k + 3 ≤ 1536) (v1 : Int32) : wpX_root (fun r => wpY_root (fun r' => r' = r ∧ i_Rel (k + 3) u v) v v1) u v1 := by
  rcases hx_cls v1 with ⟨a, rfl, ha⟩ | ⟨x1, y1⟩
  · rcases Nat.lt_or_ge 32768 a with h | h
    · exact hx_root0 ha h (hy_root0 ha h ⟨rfl, True.intro⟩)
    · obtain ⟨r, hr1, hr2⟩ := hf_rt_ex (hf_D a * 2 ^ 28)
      obtain ⟨δ, hδ⟩ : ∃ δ, δ = if r * r = hf_D a * 2 ^ 28 then 0 else 1 := ⟨_, rfl⟩
      have hδ1 : δ ≤ 1 := by rw [hδ]; split <;> omega
      have hne : r * r ≠ hf_D a * 2 ^ 28 ↔ δ ≠ 0 := by
        rw [hδ]
        split
        · rename_i y
          exact ⟨fun w => absurd y w, fun w => absurd rfl w⟩
        · rename_i y
          exact ⟨fun _ => by decide, fun _ => y⟩
      have hY : wpY_root (fun r' => r' = nI (hf_rv (hf_sh a / 2) (2 * r + δ)) ∧ i_Rel (k + 3) u v) v (nI a) := hy_root ha h hr1 hr2 hδ ⟨rfl, True.intro⟩
      revert hY
      have hs := hf_sh_lt a
      generalize hcc : hf_sh a / 2 = c
      unfold hf_rv
      by_cases c3 : 3 ≤ c
      · rw [if_pos c3]
        intro hY
        obtain ⟨q1, q2, q3⟩ := hf_rtP (r := r) (P := 2 ^ (c - 3)) (Nat.two_pow_pos _) hδ1
        have e : 1 * 2 ^ (c - 2) = 2 ^ (c - 3) * 2 := by rw [Nat.one_mul, ← Nat.pow_succ]; congr 1; omega
        refine hx_root ha h (v := (2 * r + δ) * 2 ^ (c - 3)) (l := 1) (a := c - 2) (b := 0) hr1 hr2 (by omega) (by decide) ?_ ?_ ?_ hY
        · rw [e, Nat.pow_zero, Nat.mul_one]; exact q1
        · rw [e, Nat.pow_zero, Nat.mul_one]; exact q2
        · rw [e, Nat.pow_zero, Nat.mul_one]; exact hne.trans q3
      · rw [if_neg c3]
        intro hY
        obtain ⟨q1, q2, q3⟩ := hf_rtP (r := r) (P := 2 ^ (3 - c)) (Nat.two_pow_pos _) hδ1
        refine hx_root ha h (v := 2 * r + δ) (l := 2 ^ (3 - c)) (a := 1) (b := 3 - c) hr1 hr2 (by omega) (Nat.two_pow_pos _) ?_ ?_ ?_ hY
        · rw [Nat.pow_one]; exact q1
        · rw [Nat.pow_one]; exact q2
        · rw [Nat.pow_one]; exact hne.trans q3
  · exact x1 _ (br_t rfl (hy_root_n1 y1 ⟨rfl, True.intro⟩))
