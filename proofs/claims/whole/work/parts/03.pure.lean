/-! the writing, as both sides reckon it; x = 4 - j -/
def hf_rd (d j : Nat) : Nat := bif Nat.ble j 4 then hf_R (d * 10 ^ (4 - j) * 16777216) 1 else hf_R (d * 16777216) (10 ^ (j - 4))
def hf_ov (V j : Nat) : Nat := V * 10 ^ (j - 4)
def hf_un (j : Nat) : Nat := 16777216 * 10 ^ (4 - j)
def hf_nd2 (p j o u lo : Nat) : Nat :=
  bif Nat.blt o 4611686018427387904 && Nat.blt lo 999999 then
    bif Nat.beq (hf_rd lo j) p && (Nat.ble (2 * (o % u)) u || !(Nat.beq (hf_rd (lo + 1) j) p)) then lo
    else bif Nat.beq (hf_rd (lo + 1) j) p then lo + 1 else 0
  else 100000000000000000000
def hf_nd1 (p j o u : Nat) : Nat := hf_nd2 p j o u (o / u)
def hf_nd (V p j : Nat) : Nat := hf_nd1 p j (hf_ov V j) (hf_un j)
/-- the greatest place: the first k from 0 on (place 4 - k) that is reached, 12 at last -/
def hf_pl (V : Nat) : Nat → Nat → Nat
  | 0, k => k
  | n + 1, k => bif Nat.ble (hf_un k) (hf_ov V k) then k else hf_pl V n (k + 1)
def hf_xr (d j : Nat) : Nat := bif Nat.beq d 10 then 53 - j else d * 32 + 20 - j
def hf_xl (V p : Nat) : Nat → Nat → Nat
  | 0, _ => 0
  | n + 1, j => bif Nat.beq (hf_nd V p j) 0 then hf_xl V p n (j + 1) else hf_xr (hf_nd V p j) j
def hf_ln (d : Nat) : Nat := bif Nat.blt d 10 then 1 else bif Nat.blt d 100 then 2 else bif Nat.blt d 1000 then 3 else bif Nat.blt d 10000 then 4 else bif Nat.blt d 100000 then 5 else bif Nat.blt d 1000000 then 6 else 7
def hf_yd (V j : Nat) : Nat :=
  bif Nat.ble j 4 then V / 16777216 / 10 ^ (4 - j)
  else bif Nat.blt V (9000000000000000000 / 10 ^ (j - 4)) then V * 10 ^ (j - 4) / 16777216 else 1000000
def hf_ds (a b : Nat) : Nat := (a - b) + (b - a)
def hf_nr2 (VV me ot : Nat) : Bool :=
  bif Nat.beq (hf_ds (me * 16777216) VV) (hf_ds (ot * 16777216) VV) then Nat.blt me ot else Nat.blt (hf_ds (me * 16777216) VV) (hf_ds (ot * 16777216) VV)
def hf_nr (V j e s : Nat) : Bool := hf_nr2 (V * 10 ^ (j - 4)) (e * 10 ^ (4 - j)) (s / 32 * 10 ^ (4 - j + j - s % 32))
def hf_tk (V p j e s : Nat) : Nat :=
  bif Nat.ble 100000000000000000000 s then s
  else bif Nat.beq (e % 10) 0 then s
  else bif Nat.beq s 0 then (bif Nat.beq (hf_rd e j) p then e * 32 + j else s)
  else bif Nat.blt (hf_ln (s / 32)) (hf_ln e) then s
  else bif Nat.beq (hf_rd e j) p then
    (bif Nat.blt (hf_ln e) (hf_ln (s / 32)) then e * 32 + j
     else bif Nat.ble j (s % 32 + 1) then (bif hf_nr V j e s then e * 32 + j else s) else 100000000000000000000)
  else s
def hf_ys1 (V p j d s : Nat) : Nat := bif Nat.blt d 999999 then hf_tk V p j (d + 1) (hf_tk V p j d s) else s
def hf_ys (V p : Nat) : Nat → Nat → Nat → Nat
  | 0, _, s => s
  | n + 1, j, s => hf_ys V p n (j + 1) (hf_ys1 V p j (hf_yd V j) s)
def hf_ck2 (x s : Nat) : Bool := Nat.blt 31 s && Nat.blt s 100000000000000000000 && Nat.beq x (s / 32 * 32 + 20 - s % 32)
def hf_ck1 (V p : Nat) : Bool := hf_ck2 (hf_xl V p 5 (hf_pl V 12 0)) (hf_ys V p 17 0 0)
def hf_ck (p : Nat) : Bool := Nat.beq p 0 || hf_ck1 (hf_A p) p
def hf_al : Nat → Nat → Bool
  | 0, _ => true
  | n + 1, b => hf_ck b && hf_al n (b + 1)
theorem hf_al_get : ∀ (n b p : Nat), hf_al n b = true → b ≤ p → p < b + n → hf_ck p = true := by
  intro n
  induction n with
  | zero => intro b p _ h1 h2; omega
  | succ n ih =>
    intro b p h h1 h2
    rw [hf_al, Bool.and_eq_true] at h
    rcases Nat.eq_or_lt_of_le h1 with z | z
    · rw [← z]; exact h.1
    · exact ih (b + 1) p h.2 z (by omega)
theorem hf_tk_poi {V p j e s : Nat} (h : 100000000000000000000 ≤ s) : hf_tk V p j e s = s := by simp only [hf_tk, hf_et h, cond_true]
theorem hf_ys1_poi {V p j d s : Nat} (h : 100000000000000000000 ≤ s) : hf_ys1 V p j d s = s := by
  unfold hf_ys1
  rw [hf_tk_poi (V := V) (p := p) (j := j) (e := d) h, hf_tk_poi h]
  cases Nat.blt d 999999 <;> rfl
theorem hf_ys_poi (V p : Nat) : ∀ (n j s : Nat), 100000000000000000000 ≤ s → hf_ys V p n j s = s := by
  intro n
  induction n with
  | zero => intro j s h; rfl
  | succ n ih =>
    intro j s h
    rw [hf_ys, hf_ys1_poi h]
    exact ih (j + 1) s h
theorem hf_tk_lt {V p j e s : Nat} (h : hf_tk V p j e s < 100000000000000000000) : s < 100000000000000000000 := by
  rcases Nat.lt_or_ge s 100000000000000000000 with z | z
  · exact z
  · rw [hf_tk_poi z] at h; exact h
theorem hf_ys_lt {V p n j s : Nat} (h : hf_ys V p n j s < 100000000000000000000) : s < 100000000000000000000 := by
  rcases Nat.lt_or_ge s 100000000000000000000 with z | z
  · exact z
  · rw [hf_ys_poi V p n j s z] at h; exact h
theorem hf_tk_no {V p j e s : Nat} (hs : s < 100000000000000000000) (h : e % 10 = 0 ∨ hf_rd e j ≠ p) : hf_tk V p j e s = s := by
  rcases h with h | h
  · simp only [hf_tk, hf_ef hs, hf_qt h, cond_true, cond_false]
  · simp only [hf_tk, hf_ef hs, hf_qf h, cond_false]
    cases Nat.beq (e % 10) 0 <;> cases Nat.beq s 0 <;> cases Nat.blt (hf_ln (s / 32)) (hf_ln e) <;> rfl
theorem hf_tk_0 {V p j e : Nat} (he : e % 10 ≠ 0) (hr : hf_rd e j = p) : hf_tk V p j e 0 = e * 32 + j := by
  simp only [hf_tk, hf_ef (show 0 < 100000000000000000000 by decide), hf_qf he, hf_qt hr, hf_qt (rfl : (0 : Nat) = 0), cond_true, cond_false]
theorem hf_tk_s {V p j e s : Nat} (hs : s < 100000000000000000000) (h0 : s ≠ 0) (he : e % 10 ≠ 0) (hr : hf_rd e j = p) :
    hf_tk V p j e s = bif Nat.blt (hf_ln (s / 32)) (hf_ln e) then s else bif Nat.blt (hf_ln e) (hf_ln (s / 32)) then e * 32 + j
      else bif Nat.ble j (s % 32 + 1) then (bif hf_nr V j e s then e * 32 + j else s) else 100000000000000000000 := by
  simp only [hf_tk, hf_ef hs, hf_qf he, hf_qt hr, hf_qf h0, cond_true, cond_false]
theorem hf_nd_g {V p j : Nat} (h : hf_nd V p j < 100000000000000000000) : hf_ov V j < 4611686018427387904 ∧ hf_ov V j / hf_un j < 999999 := by
  rcases Nat.lt_or_ge (hf_ov V j) 4611686018427387904 with z | z
  · rcases Nat.lt_or_ge (hf_ov V j / hf_un j) 999999 with y | y
    · exact ⟨z, y⟩
    · have e : hf_nd V p j = 100000000000000000000 := by simp only [hf_nd, hf_nd1, hf_nd2, hf_bf y, Bool.and_false, cond_false]
      omega
  · have e : hf_nd V p j = 100000000000000000000 := by simp only [hf_nd, hf_nd1, hf_nd2, hf_bf z, Bool.false_and, cond_false]
    omega
theorem hf_nd_v {V p j o u lo : Nat} (ho : hf_ov V j = o) (hu : hf_un j = u) (hl : o / u = lo) (h1 : o < 4611686018427387904) (h2 : lo < 999999) :
    hf_nd V p j = bif Nat.beq (hf_rd lo j) p && (Nat.ble (2 * (o % u)) u || !(Nat.beq (hf_rd (lo + 1) j) p)) then lo
    else bif Nat.beq (hf_rd (lo + 1) j) p then lo + 1 else 0 := by
  simp only [hf_nd, hf_nd1, hf_nd2, ho, hu, hl, hf_bt h1, hf_bt h2, Bool.and_true, cond_true]
theorem hf_xr_lt {d j : Nat} (hj : j ≤ 16) (h : hf_xr d j < 1000000000000000000000) : d < 100000000000000000000 := by
  rcases Nat.lt_or_ge d 100000000000000000000 with z | z
  · exact z
  · have e : hf_xr d j = d * 32 + 20 - j := by simp only [hf_xr, hf_qf (show d ≠ 10 by omega), cond_false]
    omega
theorem hf_ck_get {p : Nat} (h0 : p ≠ 0) (h : hf_ck p = true) :
    ∃ s, hf_ys (hf_A p) p 17 0 0 = s ∧ 32 ≤ s ∧ s < 100000000000000000000 ∧ hf_xl (hf_A p) p 5 (hf_pl (hf_A p) 12 0) = s / 32 * 32 + 20 - s % 32 := by
  simp only [hf_ck, hf_qf h0, Bool.false_or, hf_ck1, hf_ck2, Bool.and_eq_true, Nat.blt_eq, Nat.beq_eq] at h
  exact ⟨_, rfl, h.1.1, h.1.2, h.2⟩
/-! the digits' count -/
theorem hf_ln_is {d n : Nat} (h1 : n = 1 ∨ 10 ^ (n - 1) ≤ d) (h2 : d < 10 ^ n) (hn : 1 ≤ n) (h7 : n ≤ 7) (hd : d < 10000000) : hf_ln d = n := by
  rcases (show n = 1 ∨ n = 2 ∨ n = 3 ∨ n = 4 ∨ n = 5 ∨ n = 6 ∨ n = 7 by omega) with rfl | rfl | rfl | rfl | rfl | rfl | rfl
  · have c2 : d < 10 := h2
    simp only [hf_ln, hf_bt c2, cond_true]
  · have c1 : 10 ≤ d := h1.resolve_left (by decide)
    have c2 : d < 100 := h2
    simp only [hf_ln, hf_bf (show 10 ≤ d by omega), hf_bt c2, cond_true, cond_false]
  · have c1 : 100 ≤ d := h1.resolve_left (by decide)
    have c2 : d < 1000 := h2
    simp only [hf_ln, hf_bf (show 10 ≤ d by omega), hf_bf (show 100 ≤ d by omega), hf_bt c2, cond_true, cond_false]
  · have c1 : 1000 ≤ d := h1.resolve_left (by decide)
    have c2 : d < 10000 := h2
    simp only [hf_ln, hf_bf (show 10 ≤ d by omega), hf_bf (show 100 ≤ d by omega), hf_bf (show 1000 ≤ d by omega), hf_bt c2, cond_true, cond_false]
  · have c1 : 10000 ≤ d := h1.resolve_left (by decide)
    have c2 : d < 100000 := h2
    simp only [hf_ln, hf_bf (show 10 ≤ d by omega), hf_bf (show 100 ≤ d by omega), hf_bf (show 1000 ≤ d by omega), hf_bf (show 10000 ≤ d by omega), hf_bt c2, cond_true, cond_false]
  · have c1 : 100000 ≤ d := h1.resolve_left (by decide)
    have c2 : d < 1000000 := h2
    simp only [hf_ln, hf_bf (show 10 ≤ d by omega), hf_bf (show 100 ≤ d by omega), hf_bf (show 1000 ≤ d by omega), hf_bf (show 10000 ≤ d by omega), hf_bf (show 100000 ≤ d by omega), hf_bt c2, cond_true, cond_false]
  · have c1 : 1000000 ≤ d := h1.resolve_left (by decide)
    simp only [hf_ln, hf_bf (show 10 ≤ d by omega), hf_bf (show 100 ≤ d by omega), hf_bf (show 1000 ≤ d by omega), hf_bf (show 10000 ≤ d by omega), hf_bf (show 100000 ≤ d by omega), hf_bf (show 1000000 ≤ d by omega), cond_false]
theorem hf_tk_or {V p j e s : Nat} (h : hf_tk V p j e s < 100000000000000000000) : hf_tk V p j e s = s ∨ (hf_tk V p j e s = e * 32 + j ∧ e % 10 ≠ 0) := by
  have hs := hf_tk_lt h
  by_cases he : e % 10 = 0
  · exact Or.inl (hf_tk_no hs (Or.inl he))
  · by_cases hr : hf_rd e j = p
    · by_cases h0 : s = 0
      · subst h0
        exact Or.inr ⟨hf_tk_0 he hr, he⟩
      · have q := hf_tk_s (V := V) hs h0 he hr
        rw [q] at h ⊢
        revert h
        cases Nat.blt (hf_ln (s / 32)) (hf_ln e) <;> cases Nat.blt (hf_ln e) (hf_ln (s / 32)) <;> cases Nat.ble j (s % 32 + 1) <;> cases hf_nr V j e s <;> intro h <;>
          first | exact Or.inl rfl | exact Or.inr ⟨rfl, he⟩ | exact absurd h (Nat.lt_irrefl _)
    · exact Or.inl (hf_tk_no hs (Or.inr hr))
def hf_inv (j s : Nat) : Prop := s = 0 ∨ (32 ≤ s ∧ s < 32000000 ∧ s % 32 ≤ j)
theorem hf_inv_up {j s : Nat} (h : hf_inv j s) : hf_inv (j + 1) s := by
  rcases h with h | ⟨h1, h2, h3⟩
  · exact Or.inl h
  · exact Or.inr ⟨h1, h2, by omega⟩
theorem hf_inv_tk {V p j e s : Nat} (hj : j ≤ 16) (he : e ≤ 999999) (hI : hf_inv j s) (h : hf_tk V p j e s < 100000000000000000000) : hf_inv j (hf_tk V p j e s) := by
  rcases hf_tk_or h with q | ⟨q, z⟩
  · rw [q]; exact hI
  · rw [q]; exact Or.inr ⟨by omega, by omega, by omega⟩
theorem hf_ov_s {V j : Nat} (h : 4 ≤ j) : hf_ov V (j + 1) = hf_ov V j * 10 := by
  unfold hf_ov
  rw [show j + 1 - 4 = j - 4 + 1 by omega, Nat.pow_succ, Nat.mul_assoc]
theorem hf_un_hi {j : Nat} (h : 4 ≤ j) : hf_un j = 16777216 := by
  have e : 4 - j = 0 := by omega
  simp [hf_un, e]
theorem hf_ov_lo {V j : Nat} (h : j ≤ 4) : hf_ov V j = V := by
  unfold hf_ov
  rw [show j - 4 = 0 by omega, Nat.pow_zero, Nat.mul_one]
theorem hf_pl_le (V : Nat) : ∀ n k, hf_pl V n k ≤ k + n := by
  intro n
  induction n with
  | zero => intro k; exact Nat.le_refl _
  | succ n ih =>
    intro k
    rw [hf_pl]
    have := ih (k + 1)
    cases Nat.ble (hf_un k) (hf_ov V k)
    · simp only [cond_false]; omega
    · simp only [cond_true]; omega
theorem hf_ct {α : Type} {c : Bool} {a b : α} (h : c = true) : cond c a b = a := by subst h; rfl
theorem hf_cf {α : Type} {c : Bool} {a b : α} (h : c = false) : cond c a b = b := by subst h; rfl
theorem hf_rd_lo {d j : Nat} (h : j ≤ 4) : hf_rd d j = hf_R (d * 10 ^ (4 - j) * 16777216) 1 := by
  unfold hf_rd
  exact hf_ct (hf_et h)
theorem hf_rd_hi {d j : Nat} (h : 4 < j) : hf_rd d j = hf_R (d * 16777216) (10 ^ (j - 4)) := by
  unfold hf_rd
  exact hf_cf (hf_ef h)
/-- d * 10^x, rounded -/
def hf_dc (d : Nat) (x : Int) : Nat := if 0 ≤ x then hf_R (d * 10 ^ x.toNat * 16777216) 1 else hf_R (d * 16777216) (10 ^ (-x).toNat)
theorem hf_dc_n (d n : Nat) : hf_dc d (n : Int) = hf_R (d * 10 ^ n * 16777216) 1 := by
  rw [hf_dc, if_pos (by omega), Int.toNat_natCast]
theorem hf_dc_m {d n : Nat} (h : 0 < n) : hf_dc d (-(n : Int)) = hf_R (d * 16777216) (10 ^ n) := by
  rw [hf_dc, if_neg (by omega), Int.neg_neg, Int.toNat_natCast]
theorem hf_dc_j (d j : Nat) : hf_dc d (4 - (j : Int)) = hf_rd d j := by
  rcases Nat.lt_or_ge 4 j with h | h
  · rw [hf_rd_hi h, show (4 : Int) - (j : Int) = -((j - 4 : Nat) : Int) by omega, hf_dc_m (by omega)]
  · rw [hf_rd_lo h, show (4 : Int) - (j : Int) = ((4 - j : Nat) : Int) by omega, hf_dc_n]
theorem hf_p10 {n : Nat} (h : n ≤ 12) : 10 ^ n ≤ 1000000000000 := Nat.pow_le_pow_right (n := 10) (j := 12) (by decide) h
theorem hf_p10p (n : Nat) : 0 < 10 ^ n := Nat.pow_pos_iff.mpr (Or.inl (by decide))
