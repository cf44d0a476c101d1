/-! does a decimal number round to p: by its neighbours' midpoints alone -/
theorem hf_low (w : Nat) : ∀ n, w < hf_A n → ∃ low, low < n ∧ hf_A low ≤ w ∧ w < hf_A (low + 1) := by
  intro n
  induction n with
  | zero => intro h; rw [hf_A_lo (by decide)] at h; omega
  | succ n ih =>
    intro h
    rcases Nat.lt_or_ge w (hf_A n) with z | z
    · obtain ⟨low, h1, h2, h3⟩ := ih z
      exact ⟨low, by omega, h2, h3⟩
    · exact ⟨n, by omega, z, h⟩
theorem hf_fit {p u l : Nat} (hp : 0 < p) (hp2 : p < 31744) (hl : 0 < l) :
    (Nat.ble ((hf_A (p - 1) + hf_A p) * l + p % 2) (2 * u) && Nat.ble (2 * u + p % 2) ((hf_A p + hf_A (p + 1)) * l)) = Nat.beq (hf_R u l) p := by
  have hu := Nat.div_add_mod' u l
  have hr := Nat.mod_lt u hl
  have pm := hf_A_lt (p - 1)
  rw [Nat.sub_add_cancel hp] at pm
  have pp := hf_A_lt p
  have top := hf_A_bd (p := p + 1) (by omega)
  have eL : (hf_A (p - 1) + hf_A p) * l = hf_A (p - 1) * l + hf_A p * l := Nat.add_mul _ _ _
  have eH : (hf_A p + hf_A (p + 1)) * l = hf_A p * l + hf_A (p + 1) * l := Nat.add_mul _ _ _
  have m1 : (hf_A (p - 1) + 1) * l ≤ hf_A p * l := Nat.mul_le_mul_right l pm
  have m2 : (hf_A p + 1) * l ≤ hf_A (p + 1) * l := Nat.mul_le_mul_right l pp
  rw [Nat.add_mul, Nat.one_mul] at m1 m2
  have o1 : p % 2 ≤ 1 := by omega
  rw [eL, eH]
  rcases Nat.lt_or_ge (u / l) 1099511627776 with c | c
  · rw [← hf_A_top] at c
    obtain ⟨low, l1, l2, l3⟩ := hf_low (u / l) 31744 c
    obtain ⟨N1, N2, N3, _, _⟩ := hf_N hu hr l1 rfl rfl l2 l3
    have g1 := hf_A_lt low
    have k2 : hf_A low * l ≤ u / l * l := Nat.mul_le_mul_right l l2
    have k3 : (u / l + 1) * l ≤ hf_A (low + 1) * l := Nat.mul_le_mul_right l l3
    rw [Nat.add_mul, Nat.one_mul] at k3
    have eT : 2 * (u / l - hf_A low) * l = 2 * (u / l * l) - 2 * (hf_A low * l) := by
      rw [Nat.mul_assoc, Nat.sub_mul, Nat.mul_sub]
    have eG : (hf_A (low + 1) - hf_A low) * l = hf_A (low + 1) * l - hf_A low * l := Nat.sub_mul _ _ _
    rw [eT, eG] at N1 N2 N3
    rcases Nat.lt_trichotomy (low + 1) p with z | z | z
    · have mm : hf_A (low + 1) * l ≤ hf_A (p - 1) * l := Nat.mul_le_mul_right l (hf_A_mono (by omega))
      have hR : hf_R u l ≠ p := by
        rcases Nat.lt_trichotomy (2 * (u / l * l) - 2 * (hf_A low * l) + 2 * (u % l)) (hf_A (low + 1) * l - hf_A low * l) with y | y | y
        · rw [N3 y]; omega
        · rw [N1 y]; omega
        · rw [N2 y]; omega
      rw [hf_qf hR, hf_ef (by omega), Bool.false_and]
    · have e1 : p - 1 = low := by omega
      rw [z] at N1 N2 N3 k3
      rw [e1] at m1 ⊢
      rw [hf_et (show 2 * u + p % 2 ≤ hf_A p * l + hf_A (p + 1) * l by omega), Bool.and_true]
      rcases Nat.lt_trichotomy (2 * (u / l * l) - 2 * (hf_A low * l) + 2 * (u % l)) (hf_A p * l - hf_A low * l) with y | y | y
      · rw [hf_qf (by rw [N3 y]; omega), hf_ef (by omega)]
      · by_cases od : p % 2 = 0
        · rw [hf_qt (by rw [N1 y]; omega), hf_et (by omega)]
        · rw [hf_qf (by rw [N1 y]; omega), hf_ef (by omega)]
      · rw [hf_qt (N2 y), hf_et (by omega)]
    · rcases Nat.lt_or_ge p low with q | q
      · have mm : hf_A (p + 1) * l ≤ hf_A low * l := Nat.mul_le_mul_right l (hf_A_mono (by omega))
        have hR : hf_R u l ≠ p := by
          rcases Nat.lt_trichotomy (2 * (u / l * l) - 2 * (hf_A low * l) + 2 * (u % l)) (hf_A (low + 1) * l - hf_A low * l) with y | y | y
          · rw [N3 y]; omega
          · rw [N1 y]; omega
          · rw [N2 y]; omega
        rw [hf_qf hR, hf_ef (show hf_A p * l + hf_A (p + 1) * l < 2 * u + p % 2 by omega), Bool.and_false]
      · have ez : low = p := by omega
        rw [ez] at N1 N2 N3 k2 k3
        rw [hf_et (show hf_A (p - 1) * l + hf_A p * l + p % 2 ≤ 2 * u by omega), Bool.true_and]
        rcases Nat.lt_trichotomy (2 * (u / l * l) - 2 * (hf_A p * l) + 2 * (u % l)) (hf_A (p + 1) * l - hf_A p * l) with y | y | y
        · rw [hf_qt (N3 y), hf_et (by omega)]
        · by_cases od : p % 2 = 0
          · rw [hf_qt (by rw [N1 y]; omega), hf_et (by omega)]
          · rw [hf_qf (by rw [N1 y]; omega), hf_ef (by omega)]
        · rw [hf_qf (by rw [N2 y]; omega), hf_ef (by omega)]
  · have k1 : 1099511627776 * l ≤ u / l * l := Nat.mul_le_mul_right l c
    have k2 : hf_A (p + 1) * l ≤ 1099511627776 * l := Nat.mul_le_mul_right l top
    rw [hf_qf (by rw [hf_R_big c]; omega), hf_ef (show hf_A p * l + hf_A (p + 1) * l < 2 * u + p % 2 by omega), Bool.and_false]
/-! the two writings over any test of fitting -/
def hg_f (lo hi o e j : Nat) : Bool :=
  bif Nat.ble j 4 then Nat.ble (Nat.add lo o) (Nat.mul (Nat.mul e (Nat.pow 10 (Nat.sub 4 j))) 33554432) && Nat.ble (Nat.add (Nat.mul (Nat.mul e (Nat.pow 10 (Nat.sub 4 j))) 33554432) o) hi
  else Nat.ble (Nat.add (Nat.mul lo (Nat.pow 10 (Nat.sub j 4))) o) (Nat.mul e 33554432) && Nat.ble (Nat.add (Nat.mul e 33554432) o) (Nat.mul hi (Nat.pow 10 (Nat.sub j 4)))
theorem hg_f_eq {p : Nat} (hp : 0 < p) (hp2 : p < 31744) (e j : Nat) : hg_f (hf_A (p - 1) + hf_A p) (hf_A p + hf_A (p + 1)) (p % 2) e j = Nat.beq (hf_rd e j) p := by
  unfold hg_f
  rcases Nat.lt_or_ge 4 j with h | h
  · rw [hf_cf (hf_ef h), hf_rd_hi h, ← hf_fit hp hp2 (hf_p10p _)]
    have e1 : Nat.mul e 33554432 = 2 * (e * 16777216) := by show e * 33554432 = _; omega
    rw [e1]
    rfl
  · rw [hf_ct (hf_et h), hf_rd_lo h, ← hf_fit hp hp2 (by decide), Nat.mul_one, Nat.mul_one]
    have e1 : Nat.mul (Nat.mul e (Nat.pow 10 (Nat.sub 4 j))) 33554432 = 2 * (e * 10 ^ (4 - j) * 16777216) := by show e * 10 ^ (4 - j) * 33554432 = _; omega
    rw [e1]
    rfl
def hg_nd2 (f : Nat → Nat → Bool) (j o u lo : Nat) : Nat :=
  bif Nat.blt o 4611686018427387904 && Nat.blt lo 999999 then
    bif f lo j && (Nat.ble (2 * (o % u)) u || !(f (lo + 1) j)) then lo
    else bif f (lo + 1) j then lo + 1 else 0
  else 100000000000000000000
def hg_nd1 (f : Nat → Nat → Bool) (j o u : Nat) : Nat := hg_nd2 f j o u (o / u)
def hg_nd (f : Nat → Nat → Bool) (V j : Nat) : Nat := hg_nd1 f j (hf_ov V j) (hf_un j)
def hg_xl (f : Nat → Nat → Bool) (V : Nat) : Nat → Nat → Nat
  | 0, _ => 0
  | n + 1, j => bif Nat.beq (hg_nd f V j) 0 then hg_xl f V n (j + 1) else hf_xr (hg_nd f V j) j
def hg_tk (f : Nat → Nat → Bool) (V j e s : Nat) : Nat :=
  bif Nat.ble 100000000000000000000 s then s
  else bif Nat.beq (e % 10) 0 then s
  else bif Nat.beq s 0 then (bif f e j then e * 32 + j else s)
  else bif Nat.blt (hf_ln (s / 32)) (hf_ln e) then s
  else bif f e j then
    (bif Nat.blt (hf_ln e) (hf_ln (s / 32)) then e * 32 + j
     else bif Nat.ble j (s % 32 + 1) then (bif hf_nr V j e s then e * 32 + j else s) else 100000000000000000000)
  else s
def hg_ys1 (f : Nat → Nat → Bool) (V j d s : Nat) : Nat := bif Nat.blt d 999999 then hg_tk f V j (d + 1) (hg_tk f V j d s) else s
def hg_ys (f : Nat → Nat → Bool) (V : Nat) : Nat → Nat → Nat → Nat
  | 0, _, s => s
  | n + 1, j, s => hg_ys f V n (j + 1) (hg_ys1 f V j (hf_yd V j) s)
def hg_ck2 (f : Nat → Nat → Bool) (V : Nat) : Bool := hf_ck2 (hg_xl f V 5 (hf_pl V 12 0)) (hg_ys f V 17 0 0)
def hg_ck1 (p A0 V A2 : Nat) : Bool := hg_ck2 (hg_f (A0 + V) (V + A2) (p % 2)) V
def hg_ck (p : Nat) : Bool := Nat.beq p 0 || hg_ck1 p (hf_A (p - 1)) (hf_A p) (hf_A (p + 1))
theorem hg_xl_eq (V p : Nat) : ∀ n j, hg_xl (fun e j => Nat.beq (hf_rd e j) p) V n j = hf_xl V p n j := by
  intro n
  induction n with
  | zero => intro j; rfl
  | succ n ih =>
    intro j
    rw [hg_xl, hf_xl, ih]
    rfl
theorem hg_ys_eq (V p : Nat) : ∀ n j s, hg_ys (fun e j => Nat.beq (hf_rd e j) p) V n j s = hf_ys V p n j s := by
  intro n
  induction n with
  | zero => intro j s; rfl
  | succ n ih =>
    intro j s
    rw [hg_ys, hf_ys, ih]
    rfl
theorem hg_ck_eq {p : Nat} (hp2 : p < 31744) (h : hg_ck p = true) : hf_ck p = true := by
  rcases Nat.eq_zero_or_pos p with z | z
  · subst z
    rfl
  · have e : hg_f (hf_A (p - 1) + hf_A p) (hf_A p + hf_A (p + 1)) (p % 2) = fun e j => Nat.beq (hf_rd e j) p := by
      funext e j
      exact hg_f_eq z hp2 e j
    simp only [hg_ck, hg_ck1, hg_ck2, e, hg_xl_eq, hg_ys_eq] at h
    exact h
def hg_al : Nat → Nat → Bool
  | 0, _ => true
  | n + 1, b => hg_ck b && hg_al n (b + 1)
theorem hg_al_get : ∀ (n b p : Nat), hg_al n b = true → b ≤ p → p < b + n → p < 31744 → hf_ck p = true := by
  intro n
  induction n with
  | zero => intro b p _ h1 h2; omega
  | succ n ih =>
    intro b p h h1 h2 h3
    rw [hg_al, Bool.and_eq_true] at h
    rcases Nat.eq_or_lt_of_le h1 with z | z
    · rw [← z]; exact hg_ck_eq (by omega) h.1
    · exact ih (b + 1) p h.2 z (by omega) h3
