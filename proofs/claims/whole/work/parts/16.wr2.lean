/-! the reference's writing: the loops -/
theorem hz_pshr {a d : Nat} {D : Int64} (hD : (D.toBitVec.smod 64).toNat = d) (h : a < 2 ^ 63) : lN a >>> D = lN (a / 2 ^ d) := by
  have hd : a / 2 ^ d ≤ a := Nat.div_le_self _ _
  apply Int64.toInt_inj.mp
  have e : (lN a >>> D).toInt = (lN a).toInt >>> d := by
    rw [← hD]
    exact BitVec.toInt_sshiftRight ..
  rw [e, Int.shiftRight_eq_div_pow, pf_lI (by omega), pf_lI (by omega)]
  rfl
theorem hy_s24 {a : Nat} (h : a < 2 ^ 63) : lN a >>> ((24 : Int32).toInt64 &&& 63) = lN (a / 16777216) := hz_pshr (d := 24) (by decide) h
theorem hy_w1 {V p j e s d k n : Nat} {fd fx : Int32} {post : SY → Prop} {J : Int32 → Int32 → Int32 → Prop} (hk : k < 65536) (hkp : k % 32768 = p) (hp31 : p < 31744) (hI : hf_inv j s) (hj : j ≤ 16) (hd : d < 999999) (he : e ≤ d + 1) (hV : V * 10 ^ (j - 4) < 2 ^ 63)
    (hlt : hf_tk V p j e s < 100000000000000000000) (hf : hf_rep s fd fx)
    (hc : ∀ fd' fx' : Int32, hf_rep (hf_tk V p j e s) fd' fx' → wY_write_100 post J (nI k) (lN V) (hz_i (4 - (j : Int))) (lN d) n (lN (e + 1)) fd' fx') :
    wY_write_100 post J (nI k) (lN V) (hz_i (4 - (j : Int))) (lN d) (n + 1) (lN e) fd fx := by
  have hs := hf_tk_lt hlt
  have no : (e % 10 = 0 ∨ hf_rd e j ≠ p) → wY_write_100 post J (nI k) (lN V) (hz_i (4 - (j : Int))) (lN d) n (lN (e + 1)) fd fx := by
    intro h
    apply hc
    rw [hf_tk_no hs h]
    exact hf
  have e1 : lN d + 1 = lN (d + 1) := lN_1 d
  have r10 : lN e - lN e / 10 * 10 = lN (e % 10) := pk_lRem (b := 10) (by omega) (by decide) (by decide)
  refine br_f ?_ (br_f ?_ ?_)
  · rw [e1, pk_lLT (by omega) (by omega)]
    omega
  · exact fun y => by have := (pk_lLE (a := 999999) (by decide) (by omega)).mp y; omega
  · by_cases e0 : e = 0
    · refine br_t ((pk_lLT (b := 1) (by omega) (by decide)).mpr (by omega)) (nm_r (lN_1 e) (no (Or.inl (by omega))))
    · refine br_f (fun y => by have := (pk_lLT (b := 1) (by omega) (by decide)).mp y; omega) ⟨by decide, ?_⟩
      rw [r10]
      by_cases t : e % 10 = 0
      · exact br_t (by rw [t]; rfl) (nm_r (lN_1 e) (no (Or.inl t)))
      · refine br_f (fun y => t ((pk_lEQ (b := 0) (by omega) (by decide)).mp y)) (hy_pd (by omega) (by omega) ?_)
        rw [hf_dc_j, hx_lo hk, hkp]
        have rl := hf_rd_le e j
        by_cases hr : hf_rd e j = p
        · refine br_t (by rw [hr]) (hy_take hI hj t (by omega) hr hV hlt hf (fun fd' fx' h => nm_r (lN_1 e) (hc fd' fx' h)))
        · exact br_f (fun y => hr ((nI_eq (by omega) (by omega)).mp y)) (nm_r (lN_1 e) (no (Or.inr hr)))
theorem hy_step {j : Nat} : hz_i (4 - (j : Int)) + (-1) = hz_i (4 - ((j + 1 : Nat) : Int)) := by
  rw [← hz_m1, hz_ia]
  congr 1
  omega
theorem hy_w2 {V p j s d k : Nat} {fd fx : Int32} {post : SY → Prop} {J : Int32 → Int32 → Int32 → Prop} (hk : k < 65536) (hkp : k % 32768 = p) (hp31 : p < 31744) (hI : hf_inv j s) (hj : j ≤ 16) (hd62 : d < 2 ^ 62) (hV : d < 999999 → V * 10 ^ (j - 4) < 2 ^ 63)
    (hlt : hf_ys1 V p j d s < 100000000000000000000) (hf : hf_rep s fd fx) (hJ : ∀ fd' fx' : Int32, hf_rep (hf_ys1 V p j d s) fd' fx' → J (hz_i (4 - ((j + 1 : Nat) : Int))) fd' fx') :
    ∃ n, wY_write_100 post J (nI k) (lN V) (hz_i (4 - (j : Int))) (lN d) n (lN d) fd fx := by
  have e1 : lN d + 1 = lN (d + 1) := lN_1 d
  rcases Nat.lt_or_ge d 999999 with c | c
  · have ey : hf_ys1 V p j d s = hf_tk V p j (d + 1) (hf_tk V p j d s) := by
      unfold hf_ys1
      exact hf_ct (hf_bt c)
    rw [ey] at hlt hJ
    have h1 := hf_tk_lt hlt
    have I1 := hf_inv_tk (V := V) (p := p) hj (show d ≤ 999999 by omega) hI h1
    refine ⟨3, hy_w1 hk hkp hp31 hI hj c (by omega) (hV c) h1 hf (fun fd1 fx1 g1 => hy_w1 hk hkp hp31 I1 hj c (by omega) (hV c) hlt g1 (fun fd2 fx2 g2 => br_t ?_ (nm_r hy_step (hJ fd2 fx2 g2))))⟩
    rw [e1, pk_lLT (by omega) (by omega)]
    omega
  · have ey : hf_ys1 V p j d s = s := by
      unfold hf_ys1
      exact hf_cf (hf_bf c)
    rw [ey] at hJ
    refine ⟨1, br_f ?_ (br_t ((pk_lLE (a := 999999) (by decide) (by omega)).mpr c) (nm_r hy_step (hJ fd fx hf)))⟩
    rw [e1, pk_lLT (by omega) (by omega)]
    omega
theorem hy_33 {V p j s k : Nat} {fd fx x0 : Int32} {post : SY → Prop} {J : Int32 → Int32 → Int32 → Prop} (hk : k < 65536) (hkp : k % 32768 = p) (hp31 : p < 31744) (hI : hf_inv j s) (hj : j ≤ 16) (hV40 : V < 1099511627776)
    (hlt : hf_ys1 V p j (hf_yd V j) s < 100000000000000000000) (hf : hf_rep s fd fx) (hJ : ∀ fd' fx' : Int32, hf_rep (hf_ys1 V p j (hf_yd V j) s) fd' fx' → J (hz_i (4 - ((j + 1 : Nat) : Int))) fd' fx')
    (hx1 : 4 < j → x0 = nI (j - 4)) (hx2 : j ≤ 4 → x0 = nI (4 - j)) :
    wY_write_33 post J (nI k) (lN V) (hz_i (4 - (j : Int))) x0 fd fx := by
  by_cases c : 4 < j
  · rw [hx1 c]
    have p1 := hf_p10 (n := j - 4) (by omega)
    have p0 := hf_p10p (j - 4)
    have neg : ¬ 0 ≤ hz_i (4 - (j : Int)) := by
      rw [← hz_i0, hz_iLE (by omega) (by omega)]
      omega
    have lt0 : hz_i (4 - (j : Int)) < 0 := by
      rw [← hz_i0, hz_iLT (by omega) (by omega)]
      omega
    have ne : ¬ lN (10 ^ (j - 4)) = 0 := fun y => by have := (pk_lEQ (b := 0) (by omega) (by decide)).mp y; omega
    have ed : (9000000000000000000 : Int64) / lN (10 ^ (j - 4)) = lN (9000000000000000000 / 10 ^ (j - 4)) := pk_lDiv (a := 9000000000000000000) (by decide) p0 (by omega)
    have bq : 9000000000000000000 / 10 ^ (j - 4) ≤ 9000000000000000000 := Nat.div_le_self _ _
    refine hy_pow (by omega) (br_f neg ⟨ne, ?_⟩)
    rw [ed]
    have yd : hf_yd V j = bif Nat.blt V (9000000000000000000 / 10 ^ (j - 4)) then V * 10 ^ (j - 4) / 16777216 else 1000000 := by
      unfold hf_yd
      exact hf_cf (hf_ef c)
    rcases Nat.lt_or_ge V (9000000000000000000 / 10 ^ (j - 4)) with w | w
    · rw [hf_ct (hf_bt w)] at yd
      have bV : V * 10 ^ (j - 4) ≤ 9000000000000000000 := Nat.le_trans (Nat.mul_le_mul_right _ (Nat.le_of_lt w)) (Nat.div_mul_le_self _ _)
      have bV3 : V * 10 ^ (j - 4) < 2 ^ 63 := Nat.lt_of_le_of_lt bV (by decide)
      refine br_f (fun y => by have := (pk_lLE (by omega) (by omega)).mp y; omega) (br_f (by decide) (br_t lt0 ?_))
      rw [lN_mul]
      refine nm_r (hy_s24 bV3) ?_
      rw [yd] at hlt hJ
      exact hy_w2 hk hkp hp31 hI hj (by omega) (fun _ => bV3) hlt hf hJ
    · rw [hf_cf (hf_bf w)] at yd
      rw [yd] at hlt hJ
      exact br_t ((pk_lLE (by omega) (by omega)).mpr w) (br_t rfl (hy_w2 (d := 1000000) hk hkp hp31 hI hj (by decide) (fun y => absurd y (by decide)) hlt hf hJ))
  · rw [hx2 (by omega)]
    have p1 := hf_p10 (n := 4 - j) (by omega)
    have p0 := hf_p10p (4 - j)
    have pos : 0 ≤ hz_i (4 - (j : Int)) := by
      rw [← hz_i0, hz_iLE (by omega) (by omega)]
      omega
    have nlt : ¬ hz_i (4 - (j : Int)) < 0 := by
      rw [← hz_i0, hz_iLT (by omega) (by omega)]
      omega
    have ne : ¬ lN (10 ^ (4 - j)) = 0 := fun y => by have := (pk_lEQ (b := 0) (by omega) (by decide)).mp y; omega
    have yd : hf_yd V j = V / 16777216 / 10 ^ (4 - j) := by
      unfold hf_yd
      exact hf_ct (hf_et (by omega))
    have bd : V / 16777216 / 10 ^ (4 - j) ≤ V / 16777216 := Nat.div_le_self _ _
    refine hy_pow (by omega) (br_t pos (br_f (by decide) (br_f nlt ⟨ne, ?_⟩)))
    rw [hy_s24 (by omega), pk_lDiv (by omega) p0 (by omega)]
    rw [yd] at hlt hJ
    refine nm_e (hy_w2 hk hkp hp31 hI hj (by omega) (fun _ => ?_) hlt hf hJ)
    rw [show j - 4 = 0 by omega, Nat.pow_zero, Nat.mul_one]
    omega
theorem hf_inv_ys1 {V p j d s : Nat} (hj : j ≤ 16) (hI : hf_inv j s) (h : hf_ys1 V p j d s < 100000000000000000000) : hf_inv j (hf_ys1 V p j d s) := by
  rcases Nat.lt_or_ge d 999999 with c | c
  · have ey : hf_ys1 V p j d s = hf_tk V p j (d + 1) (hf_tk V p j d s) := by
      unfold hf_ys1
      exact hf_ct (hf_bt c)
    rw [ey] at h ⊢
    exact hf_inv_tk hj (by omega) (hf_inv_tk hj (by omega) hI (hf_tk_lt h)) h
  · have ey : hf_ys1 V p j d s = s := by
      unfold hf_ys1
      exact hf_cf (hf_bf c)
    rw [ey]
    exact hI
theorem hf_inv_ys {V p : Nat} (n : Nat) : ∀ j s, j + n = 17 → hf_inv j s → hf_ys V p n j s < 100000000000000000000 → hf_inv 17 (hf_ys V p n j s) := by
  induction n with
  | zero =>
    intro j s hj hI _
    have e : j = 17 := by omega
    subst e
    exact hI
  | succ n ih =>
    intro j s hj hI h
    rw [hf_ys] at h ⊢
    exact ih (j + 1) _ (by omega) (hf_inv_up (hf_inv_ys1 (by omega) hI (hf_ys_lt h))) h
theorem hy_13 {V p k : Nat} {post : SY → Prop} (hk : k < 65536) (hkp : k % 32768 = p) (hp31 : p < 31744) (hV40 : V < 1099511627776) (n : Nat) : ∀ (j s : Nat) (fd fx : Int32), j + n = 17 → hf_inv j s → hf_rep s fd fx → hf_ys V p n j s < 100000000000000000000 →
    (∀ fd' fx' : Int32, hf_rep (hf_ys V p n j s) fd' fx' → post (fd', fx')) → wY_write_13 post (nI k) (lN V) (n + 1) (hz_i (4 - (j : Int))) fd fx := by
  induction n with
  | zero =>
    intro j s fd fx hj hI hf _ hp
    refine br_t ?_ (hp fd fx hf)
    rw [← hz_m12, hz_iLT (by omega) (by omega)]
    omega
  | succ n ih =>
    intro j s fd fx hj hI hf hlt hp
    rw [hf_ys] at hlt hp
    have h1 := hf_ys_lt hlt
    have I1 := hf_inv_up (hf_inv_ys1 (by omega) hI h1)
    have HJ : ∀ fd' fx' : Int32, hf_rep (hf_ys1 V p j (hf_yd V j) s) fd' fx' → wY_write_13 post (nI k) (lN V) (n + 1) (hz_i (4 - ((j + 1 : Nat) : Int))) fd' fx' :=
      fun fd' fx' g => ih (j + 1) _ fd' fx' (by omega) I1 g hlt hp
    refine br_f (fun y => ?_) ?_
    · rw [← hz_m12, hz_iLT (by omega) (by omega)] at y
      omega
    · by_cases c : 4 < j
      · refine br_f (fun y => ?_) ?_
        · rw [← hz_i0, hz_iLE (by omega) (by omega)] at y
          omega
        · have e : -hz_i (4 - (j : Int)) = nI (j - 4) := by rw [hz_ig, show -(4 - (j : Int)) = ((j - 4 : Nat) : Int) by omega, hz_in]
          rw [e]
          exact hy_33 hk hkp hp31 hI (by omega) hV40 h1 hf HJ (fun _ => rfl) (fun y => by omega)
      · refine br_t ?_ ?_
        · rw [← hz_i0, hz_iLE (by omega) (by omega)]
          omega
        · have e : hz_i (4 - (j : Int)) = nI (4 - j) := by rw [show (4 : Int) - (j : Int) = ((4 - j : Nat) : Int) by omega, hz_in]
          exact hy_33 hk hkp hp31 hI (by omega) hV40 h1 hf HJ (fun y => by omega) (fun _ => e)
theorem hy_write {k S : Nat} {v : SY} {post : SY → Prop} (hk : hf_ok k) (hS : hf_ys (hf_A (k % 32768)) (k % 32768) 17 0 0 = S) (hlt : S < 100000000000000000000) (hp : ∀ fd' fx' : Int32, hf_rep S fd' fx' → post (fd', fx')) : wpY_write post v (nI k) := by
  obtain ⟨fd, fx⟩ := v
  have he := hk.2
  have h2 : k % 32768 < 31744 := by unfold hf_e at he; omega
  have hA := hf_A_lt40 hk.2
  unfold wpY_write
  dsimp only
  refine hy_amt hk.1 (by omega) ⟨18, ?_⟩
  subst hS
  exact hy_13 hk.1 rfl h2 hA 17 0 0 0 fx (by omega) (Or.inl rfl) ⟨rfl, fun y => absurd rfl y⟩ hlt hp
