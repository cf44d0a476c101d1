theorem hf_ck_all {p : Nat} (h : p < 31744) : hf_ck p = true := sorry
