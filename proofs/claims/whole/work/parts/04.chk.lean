/-! the two writings are one, pattern by pattern, reckoned by the kernel -/
theorem hf_c0_0 : hf_al 256 0 = true := by decide +kernel
theorem hf_c0_1 : hf_al 256 256 = true := by decide +kernel
theorem hf_c0_2 : hf_al 256 512 = true := by decide +kernel
theorem hf_c0_3 : hf_al 256 768 = true := by decide +kernel
theorem hf_c1_0 : hf_al 256 1024 = true := by decide +kernel
theorem hf_c1_1 : hf_al 256 1280 = true := by decide +kernel
theorem hf_c1_2 : hf_al 256 1536 = true := by decide +kernel
theorem hf_c1_3 : hf_al 256 1792 = true := by decide +kernel
theorem hf_c2_0 : hf_al 256 2048 = true := by decide +kernel
theorem hf_c2_1 : hf_al 256 2304 = true := by decide +kernel
theorem hf_c2_2 : hf_al 256 2560 = true := by decide +kernel
theorem hf_c2_3 : hf_al 256 2816 = true := by decide +kernel
theorem hf_c3_0 : hf_al 256 3072 = true := by decide +kernel
theorem hf_c3_1 : hf_al 256 3328 = true := by decide +kernel
theorem hf_c3_2 : hf_al 256 3584 = true := by decide +kernel
theorem hf_c3_3 : hf_al 256 3840 = true := by decide +kernel
theorem hf_c4_0 : hf_al 256 4096 = true := by decide +kernel
theorem hf_c4_1 : hf_al 256 4352 = true := by decide +kernel
theorem hf_c4_2 : hf_al 256 4608 = true := by decide +kernel
theorem hf_c4_3 : hf_al 256 4864 = true := by decide +kernel
theorem hf_c5_0 : hf_al 256 5120 = true := by decide +kernel
theorem hf_c5_1 : hf_al 256 5376 = true := by decide +kernel
theorem hf_c5_2 : hf_al 256 5632 = true := by decide +kernel
theorem hf_c5_3 : hf_al 256 5888 = true := by decide +kernel
theorem hf_c6_0 : hf_al 256 6144 = true := by decide +kernel
theorem hf_c6_1 : hf_al 256 6400 = true := by decide +kernel
theorem hf_c6_2 : hf_al 256 6656 = true := by decide +kernel
theorem hf_c6_3 : hf_al 256 6912 = true := by decide +kernel
theorem hf_c7_0 : hf_al 256 7168 = true := by decide +kernel
theorem hf_c7_1 : hf_al 256 7424 = true := by decide +kernel
theorem hf_c7_2 : hf_al 256 7680 = true := by decide +kernel
theorem hf_c7_3 : hf_al 256 7936 = true := by decide +kernel
theorem hf_c8_0 : hf_al 256 8192 = true := by decide +kernel
theorem hf_c8_1 : hf_al 256 8448 = true := by decide +kernel
theorem hf_c8_2 : hf_al 256 8704 = true := by decide +kernel
theorem hf_c8_3 : hf_al 256 8960 = true := by decide +kernel
theorem hf_c9_0 : hf_al 256 9216 = true := by decide +kernel
theorem hf_c9_1 : hf_al 256 9472 = true := by decide +kernel
theorem hf_c9_2 : hf_al 256 9728 = true := by decide +kernel
theorem hf_c9_3 : hf_al 256 9984 = true := by decide +kernel
theorem hf_c10_0 : hf_al 256 10240 = true := by decide +kernel
theorem hf_c10_1 : hf_al 256 10496 = true := by decide +kernel
theorem hf_c10_2 : hf_al 256 10752 = true := by decide +kernel
theorem hf_c10_3 : hf_al 256 11008 = true := by decide +kernel
theorem hf_c11_0 : hf_al 256 11264 = true := by decide +kernel
theorem hf_c11_1 : hf_al 256 11520 = true := by decide +kernel
theorem hf_c11_2 : hf_al 256 11776 = true := by decide +kernel
theorem hf_c11_3 : hf_al 256 12032 = true := by decide +kernel
theorem hf_c12_0 : hf_al 256 12288 = true := by decide +kernel
theorem hf_c12_1 : hf_al 256 12544 = true := by decide +kernel
theorem hf_c12_2 : hf_al 256 12800 = true := by decide +kernel
theorem hf_c12_3 : hf_al 256 13056 = true := by decide +kernel
theorem hf_c13_0 : hf_al 256 13312 = true := by decide +kernel
theorem hf_c13_1 : hf_al 256 13568 = true := by decide +kernel
theorem hf_c13_2 : hf_al 256 13824 = true := by decide +kernel
theorem hf_c13_3 : hf_al 256 14080 = true := by decide +kernel
theorem hf_c14_0 : hf_al 256 14336 = true := by decide +kernel
theorem hf_c14_1 : hf_al 256 14592 = true := by decide +kernel
theorem hf_c14_2 : hf_al 256 14848 = true := by decide +kernel
theorem hf_c14_3 : hf_al 256 15104 = true := by decide +kernel
theorem hf_c15_0 : hf_al 256 15360 = true := by decide +kernel
theorem hf_c15_1 : hf_al 256 15616 = true := by decide +kernel
theorem hf_c15_2 : hf_al 256 15872 = true := by decide +kernel
theorem hf_c15_3 : hf_al 256 16128 = true := by decide +kernel
theorem hf_c16_0 : hf_al 256 16384 = true := by decide +kernel
theorem hf_c16_1 : hf_al 256 16640 = true := by decide +kernel
theorem hf_c16_2 : hf_al 256 16896 = true := by decide +kernel
theorem hf_c16_3 : hf_al 256 17152 = true := by decide +kernel
theorem hf_c17_0 : hf_al 256 17408 = true := by decide +kernel
theorem hf_c17_1 : hf_al 256 17664 = true := by decide +kernel
theorem hf_c17_2 : hf_al 256 17920 = true := by decide +kernel
theorem hf_c17_3 : hf_al 256 18176 = true := by decide +kernel
theorem hf_c18_0 : hf_al 256 18432 = true := by decide +kernel
theorem hf_c18_1 : hf_al 256 18688 = true := by decide +kernel
theorem hf_c18_2 : hf_al 256 18944 = true := by decide +kernel
theorem hf_c18_3 : hf_al 256 19200 = true := by decide +kernel
theorem hf_c19_0 : hf_al 256 19456 = true := by decide +kernel
theorem hf_c19_1 : hf_al 256 19712 = true := by decide +kernel
theorem hf_c19_2 : hf_al 256 19968 = true := by decide +kernel
theorem hf_c19_3 : hf_al 256 20224 = true := by decide +kernel
theorem hf_c20_0 : hf_al 256 20480 = true := by decide +kernel
theorem hf_c20_1 : hf_al 256 20736 = true := by decide +kernel
theorem hf_c20_2 : hf_al 256 20992 = true := by decide +kernel
theorem hf_c20_3 : hf_al 256 21248 = true := by decide +kernel
theorem hf_c21_0 : hf_al 256 21504 = true := by decide +kernel
theorem hf_c21_1 : hf_al 256 21760 = true := by decide +kernel
theorem hf_c21_2 : hf_al 256 22016 = true := by decide +kernel
theorem hf_c21_3 : hf_al 256 22272 = true := by decide +kernel
theorem hf_c22_0 : hf_al 256 22528 = true := by decide +kernel
theorem hf_c22_1 : hf_al 256 22784 = true := by decide +kernel
theorem hf_c22_2 : hf_al 256 23040 = true := by decide +kernel
theorem hf_c22_3 : hf_al 256 23296 = true := by decide +kernel
theorem hf_c23_0 : hf_al 256 23552 = true := by decide +kernel
theorem hf_c23_1 : hf_al 256 23808 = true := by decide +kernel
theorem hf_c23_2 : hf_al 256 24064 = true := by decide +kernel
theorem hf_c23_3 : hf_al 256 24320 = true := by decide +kernel
theorem hf_c24_0 : hf_al 256 24576 = true := by decide +kernel
theorem hf_c24_1 : hf_al 256 24832 = true := by decide +kernel
theorem hf_c24_2 : hf_al 256 25088 = true := by decide +kernel
theorem hf_c24_3 : hf_al 256 25344 = true := by decide +kernel
theorem hf_c25_0 : hf_al 256 25600 = true := by decide +kernel
theorem hf_c25_1 : hf_al 256 25856 = true := by decide +kernel
theorem hf_c25_2 : hf_al 256 26112 = true := by decide +kernel
theorem hf_c25_3 : hf_al 256 26368 = true := by decide +kernel
theorem hf_c26_0 : hf_al 256 26624 = true := by decide +kernel
theorem hf_c26_1 : hf_al 256 26880 = true := by decide +kernel
theorem hf_c26_2 : hf_al 256 27136 = true := by decide +kernel
theorem hf_c26_3 : hf_al 256 27392 = true := by decide +kernel
theorem hf_c27_0 : hf_al 256 27648 = true := by decide +kernel
theorem hf_c27_1 : hf_al 256 27904 = true := by decide +kernel
theorem hf_c27_2 : hf_al 256 28160 = true := by decide +kernel
theorem hf_c27_3 : hf_al 256 28416 = true := by decide +kernel
theorem hf_c28_0 : hf_al 256 28672 = true := by decide +kernel
theorem hf_c28_1 : hf_al 256 28928 = true := by decide +kernel
theorem hf_c28_2 : hf_al 256 29184 = true := by decide +kernel
theorem hf_c28_3 : hf_al 256 29440 = true := by decide +kernel
theorem hf_c29_0 : hf_al 256 29696 = true := by decide +kernel
theorem hf_c29_1 : hf_al 256 29952 = true := by decide +kernel
theorem hf_c29_2 : hf_al 256 30208 = true := by decide +kernel
theorem hf_c29_3 : hf_al 256 30464 = true := by decide +kernel
theorem hf_c30_0 : hf_al 256 30720 = true := by decide +kernel
theorem hf_c30_1 : hf_al 256 30976 = true := by decide +kernel
theorem hf_c30_2 : hf_al 256 31232 = true := by decide +kernel
theorem hf_c30_3 : hf_al 256 31488 = true := by decide +kernel
theorem hf_c0 {p : Nat} (h : 0 ≤ p) (h2 : p < 1024) : hf_ck p = true := by
  rcases (show p < 256 ∨ (256 ≤ p ∧ p < 512) ∨ (512 ≤ p ∧ p < 768) ∨ 768 ≤ p by omega) with z | z | z | z
  · exact hf_al_get 256 0 p hf_c0_0 (by omega) (by omega)
  · exact hf_al_get 256 256 p hf_c0_1 (by omega) (by omega)
  · exact hf_al_get 256 512 p hf_c0_2 (by omega) (by omega)
  · exact hf_al_get 256 768 p hf_c0_3 (by omega) (by omega)
theorem hf_c1 {p : Nat} (h : 1024 ≤ p) (h2 : p < 2048) : hf_ck p = true := by
  rcases (show p < 1280 ∨ (1280 ≤ p ∧ p < 1536) ∨ (1536 ≤ p ∧ p < 1792) ∨ 1792 ≤ p by omega) with z | z | z | z
  · exact hf_al_get 256 1024 p hf_c1_0 (by omega) (by omega)
  · exact hf_al_get 256 1280 p hf_c1_1 (by omega) (by omega)
  · exact hf_al_get 256 1536 p hf_c1_2 (by omega) (by omega)
  · exact hf_al_get 256 1792 p hf_c1_3 (by omega) (by omega)
theorem hf_c2 {p : Nat} (h : 2048 ≤ p) (h2 : p < 3072) : hf_ck p = true := by
  rcases (show p < 2304 ∨ (2304 ≤ p ∧ p < 2560) ∨ (2560 ≤ p ∧ p < 2816) ∨ 2816 ≤ p by omega) with z | z | z | z
  · exact hf_al_get 256 2048 p hf_c2_0 (by omega) (by omega)
  · exact hf_al_get 256 2304 p hf_c2_1 (by omega) (by omega)
  · exact hf_al_get 256 2560 p hf_c2_2 (by omega) (by omega)
  · exact hf_al_get 256 2816 p hf_c2_3 (by omega) (by omega)
theorem hf_c3 {p : Nat} (h : 3072 ≤ p) (h2 : p < 4096) : hf_ck p = true := by
  rcases (show p < 3328 ∨ (3328 ≤ p ∧ p < 3584) ∨ (3584 ≤ p ∧ p < 3840) ∨ 3840 ≤ p by omega) with z | z | z | z
  · exact hf_al_get 256 3072 p hf_c3_0 (by omega) (by omega)
  · exact hf_al_get 256 3328 p hf_c3_1 (by omega) (by omega)
  · exact hf_al_get 256 3584 p hf_c3_2 (by omega) (by omega)
  · exact hf_al_get 256 3840 p hf_c3_3 (by omega) (by omega)
theorem hf_c4 {p : Nat} (h : 4096 ≤ p) (h2 : p < 5120) : hf_ck p = true := by
  rcases (show p < 4352 ∨ (4352 ≤ p ∧ p < 4608) ∨ (4608 ≤ p ∧ p < 4864) ∨ 4864 ≤ p by omega) with z | z | z | z
  · exact hf_al_get 256 4096 p hf_c4_0 (by omega) (by omega)
  · exact hf_al_get 256 4352 p hf_c4_1 (by omega) (by omega)
  · exact hf_al_get 256 4608 p hf_c4_2 (by omega) (by omega)
  · exact hf_al_get 256 4864 p hf_c4_3 (by omega) (by omega)
theorem hf_c5 {p : Nat} (h : 5120 ≤ p) (h2 : p < 6144) : hf_ck p = true := by
  rcases (show p < 5376 ∨ (5376 ≤ p ∧ p < 5632) ∨ (5632 ≤ p ∧ p < 5888) ∨ 5888 ≤ p by omega) with z | z | z | z
  · exact hf_al_get 256 5120 p hf_c5_0 (by omega) (by omega)
  · exact hf_al_get 256 5376 p hf_c5_1 (by omega) (by omega)
  · exact hf_al_get 256 5632 p hf_c5_2 (by omega) (by omega)
  · exact hf_al_get 256 5888 p hf_c5_3 (by omega) (by omega)
theorem hf_c6 {p : Nat} (h : 6144 ≤ p) (h2 : p < 7168) : hf_ck p = true := by
  rcases (show p < 6400 ∨ (6400 ≤ p ∧ p < 6656) ∨ (6656 ≤ p ∧ p < 6912) ∨ 6912 ≤ p by omega) with z | z | z | z
  · exact hf_al_get 256 6144 p hf_c6_0 (by omega) (by omega)
  · exact hf_al_get 256 6400 p hf_c6_1 (by omega) (by omega)
  · exact hf_al_get 256 6656 p hf_c6_2 (by omega) (by omega)
  · exact hf_al_get 256 6912 p hf_c6_3 (by omega) (by omega)
theorem hf_c7 {p : Nat} (h : 7168 ≤ p) (h2 : p < 8192) : hf_ck p = true := by
  rcases (show p < 7424 ∨ (7424 ≤ p ∧ p < 7680) ∨ (7680 ≤ p ∧ p < 7936) ∨ 7936 ≤ p by omega) with z | z | z | z
  · exact hf_al_get 256 7168 p hf_c7_0 (by omega) (by omega)
  · exact hf_al_get 256 7424 p hf_c7_1 (by omega) (by omega)
  · exact hf_al_get 256 7680 p hf_c7_2 (by omega) (by omega)
  · exact hf_al_get 256 7936 p hf_c7_3 (by omega) (by omega)
theorem hf_c8 {p : Nat} (h : 8192 ≤ p) (h2 : p < 9216) : hf_ck p = true := by
  rcases (show p < 8448 ∨ (8448 ≤ p ∧ p < 8704) ∨ (8704 ≤ p ∧ p < 8960) ∨ 8960 ≤ p by omega) with z | z | z | z
  · exact hf_al_get 256 8192 p hf_c8_0 (by omega) (by omega)
  · exact hf_al_get 256 8448 p hf_c8_1 (by omega) (by omega)
  · exact hf_al_get 256 8704 p hf_c8_2 (by omega) (by omega)
  · exact hf_al_get 256 8960 p hf_c8_3 (by omega) (by omega)
theorem hf_c9 {p : Nat} (h : 9216 ≤ p) (h2 : p < 10240) : hf_ck p = true := by
  rcases (show p < 9472 ∨ (9472 ≤ p ∧ p < 9728) ∨ (9728 ≤ p ∧ p < 9984) ∨ 9984 ≤ p by omega) with z | z | z | z
  · exact hf_al_get 256 9216 p hf_c9_0 (by omega) (by omega)
  · exact hf_al_get 256 9472 p hf_c9_1 (by omega) (by omega)
  · exact hf_al_get 256 9728 p hf_c9_2 (by omega) (by omega)
  · exact hf_al_get 256 9984 p hf_c9_3 (by omega) (by omega)
theorem hf_c10 {p : Nat} (h : 10240 ≤ p) (h2 : p < 11264) : hf_ck p = true := by
  rcases (show p < 10496 ∨ (10496 ≤ p ∧ p < 10752) ∨ (10752 ≤ p ∧ p < 11008) ∨ 11008 ≤ p by omega) with z | z | z | z
  · exact hf_al_get 256 10240 p hf_c10_0 (by omega) (by omega)
  · exact hf_al_get 256 10496 p hf_c10_1 (by omega) (by omega)
  · exact hf_al_get 256 10752 p hf_c10_2 (by omega) (by omega)
  · exact hf_al_get 256 11008 p hf_c10_3 (by omega) (by omega)
theorem hf_c11 {p : Nat} (h : 11264 ≤ p) (h2 : p < 12288) : hf_ck p = true := by
  rcases (show p < 11520 ∨ (11520 ≤ p ∧ p < 11776) ∨ (11776 ≤ p ∧ p < 12032) ∨ 12032 ≤ p by omega) with z | z | z | z
  · exact hf_al_get 256 11264 p hf_c11_0 (by omega) (by omega)
  · exact hf_al_get 256 11520 p hf_c11_1 (by omega) (by omega)
  · exact hf_al_get 256 11776 p hf_c11_2 (by omega) (by omega)
  · exact hf_al_get 256 12032 p hf_c11_3 (by omega) (by omega)
theorem hf_c12 {p : Nat} (h : 12288 ≤ p) (h2 : p < 13312) : hf_ck p = true := by
  rcases (show p < 12544 ∨ (12544 ≤ p ∧ p < 12800) ∨ (12800 ≤ p ∧ p < 13056) ∨ 13056 ≤ p by omega) with z | z | z | z
  · exact hf_al_get 256 12288 p hf_c12_0 (by omega) (by omega)
  · exact hf_al_get 256 12544 p hf_c12_1 (by omega) (by omega)
  · exact hf_al_get 256 12800 p hf_c12_2 (by omega) (by omega)
  · exact hf_al_get 256 13056 p hf_c12_3 (by omega) (by omega)
theorem hf_c13 {p : Nat} (h : 13312 ≤ p) (h2 : p < 14336) : hf_ck p = true := by
  rcases (show p < 13568 ∨ (13568 ≤ p ∧ p < 13824) ∨ (13824 ≤ p ∧ p < 14080) ∨ 14080 ≤ p by omega) with z | z | z | z
  · exact hf_al_get 256 13312 p hf_c13_0 (by omega) (by omega)
  · exact hf_al_get 256 13568 p hf_c13_1 (by omega) (by omega)
  · exact hf_al_get 256 13824 p hf_c13_2 (by omega) (by omega)
  · exact hf_al_get 256 14080 p hf_c13_3 (by omega) (by omega)
theorem hf_c14 {p : Nat} (h : 14336 ≤ p) (h2 : p < 15360) : hf_ck p = true := by
  rcases (show p < 14592 ∨ (14592 ≤ p ∧ p < 14848) ∨ (14848 ≤ p ∧ p < 15104) ∨ 15104 ≤ p by omega) with z | z | z | z
  · exact hf_al_get 256 14336 p hf_c14_0 (by omega) (by omega)
  · exact hf_al_get 256 14592 p hf_c14_1 (by omega) (by omega)
  · exact hf_al_get 256 14848 p hf_c14_2 (by omega) (by omega)
  · exact hf_al_get 256 15104 p hf_c14_3 (by omega) (by omega)
theorem hf_c15 {p : Nat} (h : 15360 ≤ p) (h2 : p < 16384) : hf_ck p = true := by
  rcases (show p < 15616 ∨ (15616 ≤ p ∧ p < 15872) ∨ (15872 ≤ p ∧ p < 16128) ∨ 16128 ≤ p by omega) with z | z | z | z
  · exact hf_al_get 256 15360 p hf_c15_0 (by omega) (by omega)
  · exact hf_al_get 256 15616 p hf_c15_1 (by omega) (by omega)
  · exact hf_al_get 256 15872 p hf_c15_2 (by omega) (by omega)
  · exact hf_al_get 256 16128 p hf_c15_3 (by omega) (by omega)
theorem hf_c16 {p : Nat} (h : 16384 ≤ p) (h2 : p < 17408) : hf_ck p = true := by
  rcases (show p < 16640 ∨ (16640 ≤ p ∧ p < 16896) ∨ (16896 ≤ p ∧ p < 17152) ∨ 17152 ≤ p by omega) with z | z | z | z
  · exact hf_al_get 256 16384 p hf_c16_0 (by omega) (by omega)
  · exact hf_al_get 256 16640 p hf_c16_1 (by omega) (by omega)
  · exact hf_al_get 256 16896 p hf_c16_2 (by omega) (by omega)
  · exact hf_al_get 256 17152 p hf_c16_3 (by omega) (by omega)
theorem hf_c17 {p : Nat} (h : 17408 ≤ p) (h2 : p < 18432) : hf_ck p = true := by
  rcases (show p < 17664 ∨ (17664 ≤ p ∧ p < 17920) ∨ (17920 ≤ p ∧ p < 18176) ∨ 18176 ≤ p by omega) with z | z | z | z
  · exact hf_al_get 256 17408 p hf_c17_0 (by omega) (by omega)
  · exact hf_al_get 256 17664 p hf_c17_1 (by omega) (by omega)
  · exact hf_al_get 256 17920 p hf_c17_2 (by omega) (by omega)
  · exact hf_al_get 256 18176 p hf_c17_3 (by omega) (by omega)
theorem hf_c18 {p : Nat} (h : 18432 ≤ p) (h2 : p < 19456) : hf_ck p = true := by
  rcases (show p < 18688 ∨ (18688 ≤ p ∧ p < 18944) ∨ (18944 ≤ p ∧ p < 19200) ∨ 19200 ≤ p by omega) with z | z | z | z
  · exact hf_al_get 256 18432 p hf_c18_0 (by omega) (by omega)
  · exact hf_al_get 256 18688 p hf_c18_1 (by omega) (by omega)
  · exact hf_al_get 256 18944 p hf_c18_2 (by omega) (by omega)
  · exact hf_al_get 256 19200 p hf_c18_3 (by omega) (by omega)
theorem hf_c19 {p : Nat} (h : 19456 ≤ p) (h2 : p < 20480) : hf_ck p = true := by
  rcases (show p < 19712 ∨ (19712 ≤ p ∧ p < 19968) ∨ (19968 ≤ p ∧ p < 20224) ∨ 20224 ≤ p by omega) with z | z | z | z
  · exact hf_al_get 256 19456 p hf_c19_0 (by omega) (by omega)
  · exact hf_al_get 256 19712 p hf_c19_1 (by omega) (by omega)
  · exact hf_al_get 256 19968 p hf_c19_2 (by omega) (by omega)
  · exact hf_al_get 256 20224 p hf_c19_3 (by omega) (by omega)
theorem hf_c20 {p : Nat} (h : 20480 ≤ p) (h2 : p < 21504) : hf_ck p = true := by
  rcases (show p < 20736 ∨ (20736 ≤ p ∧ p < 20992) ∨ (20992 ≤ p ∧ p < 21248) ∨ 21248 ≤ p by omega) with z | z | z | z
  · exact hf_al_get 256 20480 p hf_c20_0 (by omega) (by omega)
  · exact hf_al_get 256 20736 p hf_c20_1 (by omega) (by omega)
  · exact hf_al_get 256 20992 p hf_c20_2 (by omega) (by omega)
  · exact hf_al_get 256 21248 p hf_c20_3 (by omega) (by omega)
theorem hf_c21 {p : Nat} (h : 21504 ≤ p) (h2 : p < 22528) : hf_ck p = true := by
  rcases (show p < 21760 ∨ (21760 ≤ p ∧ p < 22016) ∨ (22016 ≤ p ∧ p < 22272) ∨ 22272 ≤ p by omega) with z | z | z | z
  · exact hf_al_get 256 21504 p hf_c21_0 (by omega) (by omega)
  · exact hf_al_get 256 21760 p hf_c21_1 (by omega) (by omega)
  · exact hf_al_get 256 22016 p hf_c21_2 (by omega) (by omega)
  · exact hf_al_get 256 22272 p hf_c21_3 (by omega) (by omega)
theorem hf_c22 {p : Nat} (h : 22528 ≤ p) (h2 : p < 23552) : hf_ck p = true := by
  rcases (show p < 22784 ∨ (22784 ≤ p ∧ p < 23040) ∨ (23040 ≤ p ∧ p < 23296) ∨ 23296 ≤ p by omega) with z | z | z | z
  · exact hf_al_get 256 22528 p hf_c22_0 (by omega) (by omega)
  · exact hf_al_get 256 22784 p hf_c22_1 (by omega) (by omega)
  · exact hf_al_get 256 23040 p hf_c22_2 (by omega) (by omega)
  · exact hf_al_get 256 23296 p hf_c22_3 (by omega) (by omega)
theorem hf_c23 {p : Nat} (h : 23552 ≤ p) (h2 : p < 24576) : hf_ck p = true := by
  rcases (show p < 23808 ∨ (23808 ≤ p ∧ p < 24064) ∨ (24064 ≤ p ∧ p < 24320) ∨ 24320 ≤ p by omega) with z | z | z | z
  · exact hf_al_get 256 23552 p hf_c23_0 (by omega) (by omega)
  · exact hf_al_get 256 23808 p hf_c23_1 (by omega) (by omega)
  · exact hf_al_get 256 24064 p hf_c23_2 (by omega) (by omega)
  · exact hf_al_get 256 24320 p hf_c23_3 (by omega) (by omega)
theorem hf_c24 {p : Nat} (h : 24576 ≤ p) (h2 : p < 25600) : hf_ck p = true := by
  rcases (show p < 24832 ∨ (24832 ≤ p ∧ p < 25088) ∨ (25088 ≤ p ∧ p < 25344) ∨ 25344 ≤ p by omega) with z | z | z | z
  · exact hf_al_get 256 24576 p hf_c24_0 (by omega) (by omega)
  · exact hf_al_get 256 24832 p hf_c24_1 (by omega) (by omega)
  · exact hf_al_get 256 25088 p hf_c24_2 (by omega) (by omega)
  · exact hf_al_get 256 25344 p hf_c24_3 (by omega) (by omega)
theorem hf_c25 {p : Nat} (h : 25600 ≤ p) (h2 : p < 26624) : hf_ck p = true := by
  rcases (show p < 25856 ∨ (25856 ≤ p ∧ p < 26112) ∨ (26112 ≤ p ∧ p < 26368) ∨ 26368 ≤ p by omega) with z | z | z | z
  · exact hf_al_get 256 25600 p hf_c25_0 (by omega) (by omega)
  · exact hf_al_get 256 25856 p hf_c25_1 (by omega) (by omega)
  · exact hf_al_get 256 26112 p hf_c25_2 (by omega) (by omega)
  · exact hf_al_get 256 26368 p hf_c25_3 (by omega) (by omega)
theorem hf_c26 {p : Nat} (h : 26624 ≤ p) (h2 : p < 27648) : hf_ck p = true := by
  rcases (show p < 26880 ∨ (26880 ≤ p ∧ p < 27136) ∨ (27136 ≤ p ∧ p < 27392) ∨ 27392 ≤ p by omega) with z | z | z | z
  · exact hf_al_get 256 26624 p hf_c26_0 (by omega) (by omega)
  · exact hf_al_get 256 26880 p hf_c26_1 (by omega) (by omega)
  · exact hf_al_get 256 27136 p hf_c26_2 (by omega) (by omega)
  · exact hf_al_get 256 27392 p hf_c26_3 (by omega) (by omega)
theorem hf_c27 {p : Nat} (h : 27648 ≤ p) (h2 : p < 28672) : hf_ck p = true := by
  rcases (show p < 27904 ∨ (27904 ≤ p ∧ p < 28160) ∨ (28160 ≤ p ∧ p < 28416) ∨ 28416 ≤ p by omega) with z | z | z | z
  · exact hf_al_get 256 27648 p hf_c27_0 (by omega) (by omega)
  · exact hf_al_get 256 27904 p hf_c27_1 (by omega) (by omega)
  · exact hf_al_get 256 28160 p hf_c27_2 (by omega) (by omega)
  · exact hf_al_get 256 28416 p hf_c27_3 (by omega) (by omega)
theorem hf_c28 {p : Nat} (h : 28672 ≤ p) (h2 : p < 29696) : hf_ck p = true := by
  rcases (show p < 28928 ∨ (28928 ≤ p ∧ p < 29184) ∨ (29184 ≤ p ∧ p < 29440) ∨ 29440 ≤ p by omega) with z | z | z | z
  · exact hf_al_get 256 28672 p hf_c28_0 (by omega) (by omega)
  · exact hf_al_get 256 28928 p hf_c28_1 (by omega) (by omega)
  · exact hf_al_get 256 29184 p hf_c28_2 (by omega) (by omega)
  · exact hf_al_get 256 29440 p hf_c28_3 (by omega) (by omega)
theorem hf_c29 {p : Nat} (h : 29696 ≤ p) (h2 : p < 30720) : hf_ck p = true := by
  rcases (show p < 29952 ∨ (29952 ≤ p ∧ p < 30208) ∨ (30208 ≤ p ∧ p < 30464) ∨ 30464 ≤ p by omega) with z | z | z | z
  · exact hf_al_get 256 29696 p hf_c29_0 (by omega) (by omega)
  · exact hf_al_get 256 29952 p hf_c29_1 (by omega) (by omega)
  · exact hf_al_get 256 30208 p hf_c29_2 (by omega) (by omega)
  · exact hf_al_get 256 30464 p hf_c29_3 (by omega) (by omega)
theorem hf_c30 {p : Nat} (h : 30720 ≤ p) (h2 : p < 31744) : hf_ck p = true := by
  rcases (show p < 30976 ∨ (30976 ≤ p ∧ p < 31232) ∨ (31232 ≤ p ∧ p < 31488) ∨ 31488 ≤ p by omega) with z | z | z | z
  · exact hf_al_get 256 30720 p hf_c30_0 (by omega) (by omega)
  · exact hf_al_get 256 30976 p hf_c30_1 (by omega) (by omega)
  · exact hf_al_get 256 31232 p hf_c30_2 (by omega) (by omega)
  · exact hf_al_get 256 31488 p hf_c30_3 (by omega) (by omega)
theorem hf_ck_all {p : Nat} (h : p < 31744) : hf_ck p = true := by
  rcases Nat.lt_or_ge p 1024 with z0 | z0
  · exact hf_c0 (by omega) z0
  rcases Nat.lt_or_ge p 2048 with z1 | z1
  · exact hf_c1 (by omega) z1
  rcases Nat.lt_or_ge p 3072 with z2 | z2
  · exact hf_c2 (by omega) z2
  rcases Nat.lt_or_ge p 4096 with z3 | z3
  · exact hf_c3 (by omega) z3
  rcases Nat.lt_or_ge p 5120 with z4 | z4
  · exact hf_c4 (by omega) z4
  rcases Nat.lt_or_ge p 6144 with z5 | z5
  · exact hf_c5 (by omega) z5
  rcases Nat.lt_or_ge p 7168 with z6 | z6
  · exact hf_c6 (by omega) z6
  rcases Nat.lt_or_ge p 8192 with z7 | z7
  · exact hf_c7 (by omega) z7
  rcases Nat.lt_or_ge p 9216 with z8 | z8
  · exact hf_c8 (by omega) z8
  rcases Nat.lt_or_ge p 10240 with z9 | z9
  · exact hf_c9 (by omega) z9
  rcases Nat.lt_or_ge p 11264 with z10 | z10
  · exact hf_c10 (by omega) z10
  rcases Nat.lt_or_ge p 12288 with z11 | z11
  · exact hf_c11 (by omega) z11
  rcases Nat.lt_or_ge p 13312 with z12 | z12
  · exact hf_c12 (by omega) z12
  rcases Nat.lt_or_ge p 14336 with z13 | z13
  · exact hf_c13 (by omega) z13
  rcases Nat.lt_or_ge p 15360 with z14 | z14
  · exact hf_c14 (by omega) z14
  rcases Nat.lt_or_ge p 16384 with z15 | z15
  · exact hf_c15 (by omega) z15
  rcases Nat.lt_or_ge p 17408 with z16 | z16
  · exact hf_c16 (by omega) z16
  rcases Nat.lt_or_ge p 18432 with z17 | z17
  · exact hf_c17 (by omega) z17
  rcases Nat.lt_or_ge p 19456 with z18 | z18
  · exact hf_c18 (by omega) z18
  rcases Nat.lt_or_ge p 20480 with z19 | z19
  · exact hf_c19 (by omega) z19
  rcases Nat.lt_or_ge p 21504 with z20 | z20
  · exact hf_c20 (by omega) z20
  rcases Nat.lt_or_ge p 22528 with z21 | z21
  · exact hf_c21 (by omega) z21
  rcases Nat.lt_or_ge p 23552 with z22 | z22
  · exact hf_c22 (by omega) z22
  rcases Nat.lt_or_ge p 24576 with z23 | z23
  · exact hf_c23 (by omega) z23
  rcases Nat.lt_or_ge p 25600 with z24 | z24
  · exact hf_c24 (by omega) z24
  rcases Nat.lt_or_ge p 26624 with z25 | z25
  · exact hf_c25 (by omega) z25
  rcases Nat.lt_or_ge p 27648 with z26 | z26
  · exact hf_c26 (by omega) z26
  rcases Nat.lt_or_ge p 28672 with z27 | z27
  · exact hf_c27 (by omega) z27
  rcases Nat.lt_or_ge p 29696 with z28 | z28
  · exact hf_c28 (by omega) z28
  rcases Nat.lt_or_ge p 30720 with z29 | z29
  · exact hf_c29 (by omega) z29
  exact hf_c30 z29 (by omega)
