theorem hf_rd_le (d j : Nat) : hf_rd d j ≤ 31744 := by
  rcases Nat.lt_or_ge 4 j with h | h
  · rw [hf_rd_hi h]; exact hf_R_le _ _
  · rw [hf_rd_lo h]; exact hf_R_le _ _
/-! the nearest digits at a place -/
theorem hx_129 {hi : Nat} {b : Bool} {post : Int32 → Prop} (hp : post (bif b then nI hi else 0)) : wX_nearestDigits_129 post (lN hi) (bif b then 1 else 0) := by
  cases b
  · exact br_t rfl hp
  · exact br_f (by decide) (by rw [lN_i]; exact hp)
theorem hx_108 {lo hi : Nat} {f g n : Bool} {post : Int32 → Prop} (hp : post (nI (bif f && (n || !g) then lo else bif g then hi else 0))) :
    wX_nearestDigits_108 post (lN lo) (lN hi) (bif f then 1 else 0) (bif g then 1 else 0) (bif n then 1 else 0) := by
  cases f
  · cases g
    · exact br_t rfl (br_t rfl hp)
    · exact br_t rfl (br_f (by decide) (by rw [lN_i]; cases n <;> exact hp))
  · cases n
    · cases g
      · exact br_f (by decide) (br_t rfl (br_t rfl (by rw [lN_i]; exact hp)))
      · exact br_f (by decide) (br_t rfl (br_f (by decide) (br_f (by decide) (by rw [lN_i]; exact hp))))
    · exact br_f (by decide) (br_f (by decide) (by rw [lN_i]; cases g <;> exact hp))
theorem hx_34 {V p j o u lo : Nat} {x : Int} (ho : hf_ov V j = o) (hu : hf_un j = u) (hl : o / u = lo) (h1 : o < 4611686018427387904) (h2 : lo < 999999) (hu0 : 0 < u) (hu2 : u < 4611686018427387904)
    (hx : x = 4 - (j : Int)) (hj : j ≤ 16) (hp31 : p < 31744) {post : Int32 → Prop} (hp : post (nI (hf_nd V p j))) : wX_nearestDigits_34 post (nI p) (hz_i x) (lN o) (lN u) := by
  rw [hf_nd_v ho hu hl h1 h2] at hp
  have hm := Nat.div_add_mod' o u
  have hmod := Nat.mod_lt o hu0
  have e1 : lN o - lN lo * lN u = lN (o % u) := by
    rw [lN_mul, ← hl, lN_sub (Nat.div_mul_le_self _ _), ← Nat.mod_eq_sub_div_mul]
  have q1 : hf_dc lo x = hf_rd lo j := by rw [hx]; exact hf_dc_j lo j
  have q2 : hf_dc (lo + 1) x = hf_rd (lo + 1) j := by rw [hx]; exact hf_dc_j (lo + 1) j
  have r1 := hf_rd_le lo j
  have r2 := hf_rd_le (lo + 1) j
  refine hx_wq (by omega) (by omega) hu0 ?_
  rw [hl]
  refine nm_r (lN_1 lo) (nm_r e1 (hx_rd (by omega) (by omega) ?_))
  rw [q1]
  generalize hf_rd lo j = A at *
  have s2 : ∀ f : Bool, Nat.beq A p = f → wX_nearestDigits_72 post (nI p) (hz_i x) (lN u) (lN lo) (lN (lo + 1)) (lN (o % u)) (bif f then 1 else 0) := by
    intro f hf
    rw [hf] at hp
    refine hx_rd (by omega) (by omega) ?_
    rw [q2]
    generalize hf_rd (lo + 1) j = B at *
    have s3 : ∀ g : Bool, Nat.beq B p = g → wX_nearestDigits_89 post (lN u) (lN lo) (lN (lo + 1)) (lN (o % u)) (bif f then 1 else 0) (bif g then 1 else 0) := by
      intro g hg
      rw [hg] at hp
      have e2 : (2 : Int64) * lN (o % u) = lN (2 * (o % u)) := lN_mul 2 _
      have eq : lN u < lN (2 * (o % u)) ↔ u < 2 * (o % u) := pk_lLT (by omega) (by omega)
      unfold wX_nearestDigits_89
      rw [e2]
      rcases Nat.lt_or_ge u (2 * (o % u)) with z | z
      · rw [hf_ef z] at hp
        exact br_t (eq.mpr z) (hx_108 (n := false) hp)
      · rw [hf_et z] at hp
        exact br_f (fun y => by have := eq.mp y; omega) (hx_108 (n := true) hp)
    by_cases y : B = p
    · exact br_t (by rw [y]) (s3 true (hf_qt y))
    · exact br_f (fun w => y ((nI_eq (by omega) (by omega)).mp w)) (s3 false (hf_qf y))
  by_cases y : A = p
  · exact br_t (by rw [y]) (s2 true (hf_qt y))
  · exact br_f (fun w => y ((nI_eq (by omega) (by omega)).mp w)) (s2 false (hf_qf y))
theorem hx_nd {V p j : Nat} (hV : hf_A p = V) (hp31 : p < 31744) (hj : j ≤ 16) (hg : hf_nd V p j < 100000000000000000000) {post : Int32 → Prop} (hp : post (nI (hf_nd V p j))) : wpX_nearestDigits post (nI p) (hz_i (4 - (j : Int))) := by
  obtain ⟨g1, g2⟩ := hf_nd_g hg
  have hu0 : 0 < hf_un j := Nat.mul_pos (by decide) (hf_p10p _)
  have p2 : 10 ^ (4 - j) ≤ 10 ^ 4 := Nat.pow_le_pow_right (by decide) (by omega)
  have hu2 : hf_un j < 4611686018427387904 := by
    show 16777216 * 10 ^ (4 - j) < 4611686018427387904
    omega
  have main := hx_34 (V := V) (p := p) (j := j) rfl rfl rfl g1 g2 hu0 hu2 rfl hj hp31 hp
  refine hx_u hp31 ?_
  rw [hV]
  by_cases c : 4 < j
  · refine br_f ?_ ?_
    · rw [← hz_i0, hz_iLE (by omega) (by omega)]
      omega
    · have e : -hz_i (4 - (j : Int)) = nI (j - 4) := by rw [hz_ig, show -(4 - (j : Int)) = ((j - 4 : Nat) : Int) by omega, hz_in]
      rw [e]
      refine hx_ten (by omega) (nm_r (lN_mul V (10 ^ (j - 4))) ?_)
      rw [hf_un_hi (by omega)] at main
      exact main
  · refine br_t ?_ ?_
    · rw [← hz_i0, hz_iLE (by omega) (by omega)]
      omega
    · rw [hf_ov_lo (by omega)] at main
      have e : hz_i (4 - (j : Int)) = nI (4 - j) := by rw [show (4 : Int) - (j : Int) = ((4 - j : Nat) : Int) by omega, hz_in]
      rw [e] at main ⊢
      exact hx_ten (by omega) (nm_r (lN_mul 16777216 (10 ^ (4 - j))) main)
/-! the writing, count by count -/
theorem hz_16 : hz_i 16 = 16 := by decide +kernel
theorem hz_1 : hz_i 1 = 1 := by decide +kernel
theorem hx_wrt {V p k : Nat} (hV : hf_A p = V) (hp31 : p < 31744) (hk : k ≤ 12) {post : Int32 → Prop} (n : Nat) : ∀ c, c + n = 5 → hf_xl V p n (k + c) < 1000000000000000000000 → post (nI (hf_xl V p n (k + c))) →
    wX_writingOf_7 post (nI p) (hz_i (4 - (k : Int))) (n + 1) (nI (c + 1)) := by
  induction n with
  | zero =>
    intro c hc _ hp
    exact br_t (nI_lt (a := 5) (b := c + 1) (by omega) (by omega)) hp
  | succ n ih =>
    intro c hc hb hp
    refine br_f (nI_nlt (a := 5) (b := c + 1) (by omega) (by decide)) ?_
    have e3 : hz_i (4 - (k : Int)) - nI (c + 1) + 1 = hz_i (4 - ((k + c : Nat) : Int)) := by
      rw [← hz_in, ← hz_1, hz_is, hz_ia]
      congr 1
      omega
    refine nm_r e3 ?_
    rw [hf_xl] at hb hp
    have hg : hf_nd V p (k + c) < 100000000000000000000 := by
      by_cases z : hf_nd V p (k + c) = 0
      · omega
      · rw [hf_cf (hf_qf z)] at hb
        exact hf_xr_lt (by omega) hb
    refine hx_nd hV hp31 (by omega) hg ?_
    obtain ⟨g1, g2⟩ := hf_nd_g hg
    have hd : hf_nd V p (k + c) ≤ 999999 := by
      rw [hf_nd_v rfl rfl rfl g1 g2]
      generalize (Nat.beq (hf_rd (hf_ov V (k + c) / hf_un (k + c)) (k + c)) p && (Nat.ble (2 * (hf_ov V (k + c) % hf_un (k + c))) (hf_un (k + c)) || !(Nat.beq (hf_rd (hf_ov V (k + c) / hf_un (k + c) + 1) (k + c)) p))) = b1
      generalize Nat.beq (hf_rd (hf_ov V (k + c) / hf_un (k + c) + 1) (k + c)) p = b2
      cases b1 <;> cases b2 <;> simp only [cond_true, cond_false] <;> omega
    generalize hf_nd V p (k + c) = d at *
    have sh5 : ∀ d : Nat, d ≤ 999999 → nI d <<< ((5 : Int32) &&& 31) = nI (d * 32) := fun d h => pk_shlN _ 5 (by decide) (by omega)
    by_cases z : d = 0
    · subst z
      rw [hf_ct (hf_qt rfl)] at hb hp
      refine br_f (by decide) (br_t rfl (nm_r (nI_1 (c + 1)) ?_))
      have := ih (c + 1) (by omega)
      rw [← Nat.add_assoc] at this
      exact this hb hp
    · rw [hf_cf (hf_qf z)] at hb hp
      by_cases t : d = 10
      · subst t
        rw [hf_xr, hf_ct (hf_qt rfl)] at hp
        have e4 : hz_i (4 - ((k + c : Nat) : Int)) + 1 = hz_i (5 - ((k + c : Nat) : Int)) := by
          rw [← hz_1, hz_ia]
          congr 1
          omega
        refine br_t rfl (nm_r e4 (br_f (by decide) ?_))
        have e5 : (1 : Int32) <<< ((5 : Int32) &&& 31) + hz_i (5 - ((k + c : Nat) : Int)) + 16 = nI (53 - (k + c)) := by
          have e6 : (1 : Int32) <<< ((5 : Int32) &&& 31) = hz_i 32 := by decide +kernel
          rw [e6, ← hz_16, hz_ia, hz_ia, ← hz_in]
          congr 1
          omega
        rw [e5]
        exact hp
      · rw [hf_xr, hf_cf (hf_qf t)] at hp
        refine br_f (fun w => t ((nI_eq (b := 10) (by omega) (by decide)).mp w)) (br_f (fun w => z ((nI_eq (b := 0) (by omega) (by decide)).mp w)) ?_)
        have e5 : nI d <<< ((5 : Int32) &&& 31) + hz_i (4 - ((k + c : Nat) : Int)) + 16 = nI (d * 32 + 20 - (k + c)) := by
          rw [sh5 d hd, ← hz_16, ← hz_in, hz_ia, hz_ia, ← hz_in]
          congr 1
          omega
        rw [e5]
        exact hp
theorem hx_writing {p : Nat} (hp31 : p < 31744) {post : Int32 → Prop} (hb : hf_xl (hf_A p) p 5 (hf_pl (hf_A p) 12 0) < 1000000000000000000000) (hp : post (nI (hf_xl (hf_A p) p 5 (hf_pl (hf_A p) 12 0)))) : wpX_writingOf post (nI p) := by
  have hA : hf_A p < 1099511627776 := by
    have h3 := hf_A_lt p
    have h4 := hf_A_bd (p := p + 1) (by omega)
    omega
  have hpl := hf_pl_le (hf_A p) 12 0
  refine hx_u hp31 ⟨13, hx_fdp hA 12 0 (by omega) (fun h => by omega) ?_⟩
  have g := hx_wrt (k := hf_pl (hf_A p) 12 0) rfl hp31 (by omega) (post := post) 5 0 (by omega)
  rw [Nat.add_zero] at g
  exact ⟨6, g hb hp⟩
