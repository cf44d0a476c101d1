/-! the reference's writing: lengths, distances -/
theorem hy_len {d : Nat} (hd : d < 10000000) {post : Int32 → Prop} (hp : post (nI (hf_ln d))) : wpY_length post (lN d) := by
  have key : ∀ t i, i + t = 8 → 1 ≤ i → (i = 1 ∨ 10 ^ (i - 1) ≤ d) → wY_length_2 post (lN d) (t + 1) (nI i) := by
    intro t
    induction t with
    | zero =>
      intro i hi h1 h
      have e : i = 8 := by omega
      subst e
      have h2 : 10000000 ≤ d := h.resolve_left (by decide)
      omega
    | succ t ih =>
      intro i hi h1 h
      have p7 : 10 ^ i ≤ 10 ^ 7 := Nat.pow_le_pow_right (by decide) (by omega)
      refine br_f (nI_ge (a := i) (b := 18) (by omega) (by decide)) (hy_pow (by omega) ?_)
      rcases Nat.lt_or_ge d (10 ^ i) with c | c
      · rw [hf_ln_is h c h1 (by omega) hd] at hp
        exact br_t ((pk_lLT (by omega) (by omega)).mpr c) hp
      · exact br_f (fun y => by have := (pk_lLT (by omega) (by omega)).mp y; omega) (nm_r (nI_1 i) (ih (i + 1) (by omega) (by omega) (Or.inr (by rw [Nat.add_sub_cancel]; exact c))))
  exact ⟨8, key 7 1 (by omega) (by omega) (Or.inl rfl)⟩
theorem hy_far {d V n m : Nat} {p1 : Int32} (h1 : p1 + nI m = nI n) (hn : n ≤ 30) (hm : m ≤ 30) (ha : d * 10 ^ n * 16777216 < 2 ^ 62) (hb : V * 10 ^ m < 2 ^ 63) {post : Int64 → Prop} (hp : post (lN (hf_ds (d * 10 ^ n * 16777216) (V * 10 ^ m)))) : wpY_far post (lN d) p1 (nI m) (lN V) := by
  have e : lN (d * 10 ^ n) <<< ((24 : Int32).toInt64 &&& 63) = lN (d * 10 ^ n * 16777216) := wb_shl _ (k := 24) (by decide)
  unfold wpY_far
  rw [h1]
  refine hy_pow hn (hy_pow hm ?_)
  rw [lN_mul, lN_mul, e]
  revert ha hb hp
  generalize d * 10 ^ n * 16777216 = a
  generalize V * 10 ^ m = b
  intro ha hb hp
  refine nm_r (e' := hz_l ((a : Int) - (b : Int))) (by rw [← hz_ln, ← hz_ln, hz_ls]) ?_
  rcases Nat.lt_or_ge a b with c | c
  · have e2 : hf_ds a b = b - a := by unfold hf_ds; omega
    rw [e2] at hp
    refine br_f (fun y => ?_) ?_
    · rw [← hz_l0, hz_lLE (by omega) (by omega)] at y
      omega
    · rw [hz_lg, show -((a : Int) - (b : Int)) = ((b - a : Nat) : Int) by omega, hz_ln]
      exact hp
  · have e2 : hf_ds a b = a - b := by unfold hf_ds; omega
    rw [e2] at hp
    refine br_t ?_ ?_
    · rw [← hz_l0, hz_lLE (by omega) (by omega)]
      omega
    · rw [show (a : Int) - (b : Int) = ((a - b : Nat) : Int) by omega, hz_ln]
      exact hp
theorem hf_ds_lt {a b : Nat} (ha : a < 2 ^ 62) (hb : b < 2 ^ 63) : hf_ds a b < 2 ^ 63 := by unfold hf_ds; omega
theorem hy_26c {x y d bd n1 n2 : Nat} (hn1 : n1 ≤ 30) (hn2 : n2 ≤ 30) (b1 : x < 2 ^ 63) (b2 : y < 2 ^ 63) (k1 : d * 10 ^ n1 < 2 ^ 62) (k2 : bd * 10 ^ n2 < 2 ^ 62) {post : Int32 → Prop}
    (hp : post (bif (bif Nat.beq x y then Nat.blt (d * 10 ^ n1) (bd * 10 ^ n2) else Nat.blt x y) then 1 else 0)) :
    ((lN x = lN y → wpY_power (fun r_6 => wpY_power (fun r_7 => ((lN bd * r_7 ≤ lN d * r_6 → post 0) ∧ (¬ lN bd * r_7 ≤ lN d * r_6 → post 1))) (nI n2)) (nI n1)) ∧ (¬ lN x = lN y → ((lN y ≤ lN x → post 0) ∧ (¬ lN y ≤ lN x → post 1)))) := by
  by_cases z : x = y
  · rw [hf_ct (hf_qt z)] at hp
    refine br_t (by rw [z]) (hy_pow hn1 (hy_pow hn2 ?_))
    rw [lN_mul, lN_mul]
    rcases Nat.lt_or_ge (d * 10 ^ n1) (bd * 10 ^ n2) with c | c
    · rw [hf_bt c] at hp
      exact br_f (fun w => by have := (pk_lLE (by omega) (by omega)).mp w; omega) hp
    · rw [hf_bf c] at hp
      exact br_t ((pk_lLE (by omega) (by omega)).mpr c) hp
  · rw [hf_cf (hf_qf z)] at hp
    refine br_f (fun w => z ((pk_lEQ b1 b2).mp w)) ?_
    rcases Nat.lt_or_ge x y with c | c
    · rw [hf_bt c] at hp
      exact br_f (fun w => by have := (pk_lLE b2 b1).mp w; omega) hp
    · rw [hf_bf c] at hp
      exact br_t ((pk_lLE b2 b1).mpr c) hp
theorem hy_26 {d bd V n1 n2 m : Nat} {p1 p3 : Int32} (h1 : p1 + nI m = nI n1) (h3 : p3 + nI m = nI n2) (hn1 : n1 ≤ 30) (hn2 : n2 ≤ 30) (hm : m ≤ 30) (ha : d * 10 ^ n1 * 16777216 < 2 ^ 62) (hc : bd * 10 ^ n2 * 16777216 < 2 ^ 62) (hb : V * 10 ^ m < 2 ^ 63)
    {post : Int32 → Prop} (hp : post (bif hf_nr2 (V * 10 ^ m) (d * 10 ^ n1) (bd * 10 ^ n2) then 1 else 0)) : wY_nearer_26 post (lN d) p1 (lN bd) p3 (lN V) (nI m) := by
  refine hy_far h1 hn1 hm ha hb (hy_far h3 hn2 hm hc hb ?_)
  have k1 : d * 10 ^ n1 < 2 ^ 62 := by omega
  have k2 : bd * 10 ^ n2 < 2 ^ 62 := by omega
  rw [h1, h3]
  unfold hf_nr2 at hp
  exact hy_26c hn1 hn2 (hf_ds_lt ha hb) (hf_ds_lt hc hb) k1 k2 hp
theorem hy_nearer {V j e s : Nat} (hj : j ≤ 16) (hbj : s % 32 ≤ j) (hj1 : j ≤ s % 32 + 1) (he : e ≤ 999999) (hs : s / 32 ≤ 999999) (hV : V * 10 ^ (j - 4) < 2 ^ 63) {post : Int32 → Prop} (hp : post (bif hf_nr V j e s then 1 else 0)) :
    wpY_nearer post (lN e) (hz_i (4 - (j : Int))) (lN (s / 32)) (hz_i (4 - ((s % 32 : Nat) : Int))) (lN V) := by
  have q1 : 10 ^ (4 - j) ≤ 10 ^ 4 := Nat.pow_le_pow_right (by decide) (by omega)
  have q2 : 10 ^ (4 - j + j - s % 32) ≤ 10 ^ 4 := Nat.pow_le_pow_right (by decide) (by omega)
  have r1 : e * 10 ^ (4 - j) ≤ 999999 * 10 ^ 4 := Nat.mul_le_mul he q1
  have r2 : s / 32 * 10 ^ (4 - j + j - s % 32) ≤ 999999 * 10 ^ 4 := Nat.mul_le_mul hs q2
  have a1 : hz_i (4 - (j : Int)) + nI (j - 4) = nI (4 - j) := by
    rw [← hz_in, hz_ia, ← hz_in]
    congr 1
    omega
  have a3 : hz_i (4 - ((s % 32 : Nat) : Int)) + nI (j - 4) = nI (4 - j + j - s % 32) := by
    rw [← hz_in, hz_ia, ← hz_in]
    congr 1
    omega
  have main := hy_26 (d := e) (bd := s / 32) (V := V) (post := post) a1 a3 (by omega) (by omega) (by omega) (by omega) (by omega) hV hp
  have m12 : wY_nearer_12 post (lN e) (hz_i (4 - (j : Int))) (lN (s / 32)) (hz_i (4 - ((s % 32 : Nat) : Int))) (lN V) (hz_i (4 - (j : Int))) := by
    by_cases c : 4 < j
    · refine br_f (fun y => ?_) ?_
      · rw [← hz_i0, hz_iLE (by omega) (by omega)] at y
        omega
      · rw [hz_ig, show -(4 - (j : Int)) = ((j - 4 : Nat) : Int) by omega, hz_in]
        exact main
    · refine br_t ?_ ?_
      · rw [← hz_i0, hz_iLE (by omega) (by omega)]
        omega
      · rw [show j - 4 = 0 by omega] at main
        exact main
  by_cases c : s % 32 = j
  · rw [c] at m12 ⊢
    exact br_t (Int32.le_refl _) m12
  · refine br_f (fun y => ?_) m12
    rw [hz_iLE (by omega) (by omega)] at y
    omega
/-! the best so far -/
def hf_rep (s : Nat) (fd fx : Int32) : Prop := fd = nI (s / 32) ∧ (s ≠ 0 → fx = hz_i (4 - ((s % 32 : Nat) : Int)))
theorem hy_take {V p j e s : Nat} {fd fx : Int32} (hI : hf_inv j s) (hj : j ≤ 16) (he1 : e % 10 ≠ 0) (he : e ≤ 999999) (hr : hf_rd e j = p) (hV : V * 10 ^ (j - 4) < 2 ^ 63) (hlt : hf_tk V p j e s < 100000000000000000000) (hf : hf_rep s fd fx)
    {post : SY → Prop} (hp : ∀ fd' fx' : Int32, hf_rep (hf_tk V p j e s) fd' fx' → post (fd', fx')) : wpY_take post (fd, fx) (lN e) (hz_i (4 - (j : Int))) (lN V) := by
  have hs := hf_tk_lt hlt
  have tk : hf_tk V p j e s = e * 32 + j → post ((lN e).toInt32, hz_i (4 - (j : Int))) := by
    intro t
    apply hp
    rw [t]
    refine ⟨?_, fun _ => ?_⟩
    · rw [lN_i, show (e * 32 + j) / 32 = e by omega]
    · rw [show (e * 32 + j) % 32 = j by omega]
  have sm : hf_tk V p j e s = s → post (fd, fx) := by
    intro t
    apply hp
    rw [t]
    exact hf
  unfold wpY_take
  dsimp only
  refine hy_len (by omega) ?_
  by_cases z : s = 0
  · subst z
    have l1 : hf_ln e ≤ 7 := by
      unfold hf_ln
      repeat (first | omega | (cases Nat.blt e _ <;> simp only [cond_true, cond_false]))
    exact br_t hf.1 (br_t (nI_lt (b := 100) (by omega) (by decide)) (tk (hf_tk_0 he1 hr)))
  · have hI2 : 32 ≤ s ∧ s < 32000000 ∧ s % 32 ≤ j := hI.resolve_left z
    have q := hf_tk_s (V := V) hs z he1 hr
    have hfd := hf.1
    have hfx := hf.2 z
    have ne : ¬ fd = 0 := by
      rw [hfd]
      intro y
      have := (nI_eq (b := 0) (by omega) (by decide)).mp y
      omega
    have e64 : fd.toInt64 = lN (s / 32) := by rw [hfd, nI_l (by omega)]
    have B : ∀ d : Nat, hf_ln d < 100 := by
      intro d
      unfold hf_ln
      repeat (first | omega | (cases Nat.blt d _ <;> simp only [cond_true, cond_false]))
    have B1 := B e
    have B2 := B (s / 32)
    refine br_f ne ?_
    rw [e64]
    refine hy_len (by omega) ?_
    rcases Nat.lt_trichotomy (hf_ln e) (hf_ln (s / 32)) with c | c | c
    · rw [hf_cf (hf_bf (by omega)), hf_ct (hf_bt c)] at q
      exact br_t (nI_lt c (by omega)) (tk q)
    · rw [hf_cf (hf_bf (by omega)), hf_cf (hf_bf (by omega))] at q
      have hj1 : j ≤ s % 32 + 1 := by
        rcases Nat.lt_or_ge (s % 32 + 1) j with w | w
        · rw [hf_cf (hf_ef w)] at q
          omega
        · exact w
      rw [hf_ct (hf_et hj1)] at q
      refine br_f (by rw [c]; exact Int32.lt_irrefl) (br_t (by rw [c]) ?_)
      rw [e64, hfx]
      refine hy_nearer hj hI2.2.2 hj1 he (by omega) hV ?_
      rw [← hfx]
      cases b : hf_nr V j e s
      · rw [b] at q
        exact br_t rfl (sm q)
      · rw [b] at q
        exact br_f (by decide) (tk q)
    · rw [hf_ct (hf_bt c)] at q
      exact br_f (nI_nlt (by omega) (by omega)) (br_f (fun w => by have := (nI_eq (by omega) (by omega)).mp w; omega) (sm q))
