/-! the two writings are one, pattern by pattern, reckoned by the kernel -/
theorem hf_c0_0 : hf_al 64 0 = true := by decide +kernel
theorem hf_c0_1 : hf_al 64 64 = true := by decide +kernel
theorem hf_c0_2 : hf_al 64 128 = true := by decide +kernel
theorem hf_c0_3 : hf_al 64 192 = true := by decide +kernel
theorem hf_c0_4 : hf_al 64 256 = true := by decide +kernel
theorem hf_c0_5 : hf_al 64 320 = true := by decide +kernel
theorem hf_c0_6 : hf_al 64 384 = true := by decide +kernel
theorem hf_c0_7 : hf_al 64 448 = true := by decide +kernel
theorem hf_c0_8 : hf_al 64 512 = true := by decide +kernel
theorem hf_c0_9 : hf_al 64 576 = true := by decide +kernel
theorem hf_c0_10 : hf_al 64 640 = true := by decide +kernel
theorem hf_c0_11 : hf_al 64 704 = true := by decide +kernel
theorem hf_c0_12 : hf_al 64 768 = true := by decide +kernel
theorem hf_c0_13 : hf_al 64 832 = true := by decide +kernel
theorem hf_c0_14 : hf_al 64 896 = true := by decide +kernel
theorem hf_c0_15 : hf_al 64 960 = true := by decide +kernel
theorem hf_c0 {p : Nat} (h : 0 ≤ p) (h2 : p < 1024) : hf_ck p = true := by
  rcases Nat.lt_or_ge p 64 with z0 | z0
  · exact hf_al_get 64 0 p hf_c0_0 h z0
  rcases Nat.lt_or_ge p 128 with z1 | z1
  · exact hf_al_get 64 64 p hf_c0_1 z0 z1
  rcases Nat.lt_or_ge p 192 with z2 | z2
  · exact hf_al_get 64 128 p hf_c0_2 z1 z2
  rcases Nat.lt_or_ge p 256 with z3 | z3
  · exact hf_al_get 64 192 p hf_c0_3 z2 z3
  rcases Nat.lt_or_ge p 320 with z4 | z4
  · exact hf_al_get 64 256 p hf_c0_4 z3 z4
  rcases Nat.lt_or_ge p 384 with z5 | z5
  · exact hf_al_get 64 320 p hf_c0_5 z4 z5
  rcases Nat.lt_or_ge p 448 with z6 | z6
  · exact hf_al_get 64 384 p hf_c0_6 z5 z6
  rcases Nat.lt_or_ge p 512 with z7 | z7
  · exact hf_al_get 64 448 p hf_c0_7 z6 z7
  rcases Nat.lt_or_ge p 576 with z8 | z8
  · exact hf_al_get 64 512 p hf_c0_8 z7 z8
  rcases Nat.lt_or_ge p 640 with z9 | z9
  · exact hf_al_get 64 576 p hf_c0_9 z8 z9
  rcases Nat.lt_or_ge p 704 with z10 | z10
  · exact hf_al_get 64 640 p hf_c0_10 z9 z10
  rcases Nat.lt_or_ge p 768 with z11 | z11
  · exact hf_al_get 64 704 p hf_c0_11 z10 z11
  rcases Nat.lt_or_ge p 832 with z12 | z12
  · exact hf_al_get 64 768 p hf_c0_12 z11 z12
  rcases Nat.lt_or_ge p 896 with z13 | z13
  · exact hf_al_get 64 832 p hf_c0_13 z12 z13
  rcases Nat.lt_or_ge p 960 with z14 | z14
  · exact hf_al_get 64 896 p hf_c0_14 z13 z14
  exact hf_al_get 64 960 p hf_c0_15 z14 h2
theorem hf_c1_0 : hf_al 64 1024 = true := by decide +kernel
theorem hf_c1_1 : hf_al 64 1088 = true := by decide +kernel
theorem hf_c1_2 : hf_al 64 1152 = true := by decide +kernel
theorem hf_c1_3 : hf_al 64 1216 = true := by decide +kernel
theorem hf_c1_4 : hf_al 64 1280 = true := by decide +kernel
theorem hf_c1_5 : hf_al 64 1344 = true := by decide +kernel
theorem hf_c1_6 : hf_al 64 1408 = true := by decide +kernel
theorem hf_c1_7 : hf_al 64 1472 = true := by decide +kernel
theorem hf_c1_8 : hf_al 64 1536 = true := by decide +kernel
theorem hf_c1_9 : hf_al 64 1600 = true := by decide +kernel
theorem hf_c1_10 : hf_al 64 1664 = true := by decide +kernel
theorem hf_c1_11 : hf_al 64 1728 = true := by decide +kernel
theorem hf_c1_12 : hf_al 64 1792 = true := by decide +kernel
theorem hf_c1_13 : hf_al 64 1856 = true := by decide +kernel
theorem hf_c1_14 : hf_al 64 1920 = true := by decide +kernel
theorem hf_c1_15 : hf_al 64 1984 = true := by decide +kernel
theorem hf_c1 {p : Nat} (h : 1024 ≤ p) (h2 : p < 2048) : hf_ck p = true := by
  rcases Nat.lt_or_ge p 1088 with z0 | z0
  · exact hf_al_get 64 1024 p hf_c1_0 h z0
  rcases Nat.lt_or_ge p 1152 with z1 | z1
  · exact hf_al_get 64 1088 p hf_c1_1 z0 z1
  rcases Nat.lt_or_ge p 1216 with z2 | z2
  · exact hf_al_get 64 1152 p hf_c1_2 z1 z2
  rcases Nat.lt_or_ge p 1280 with z3 | z3
  · exact hf_al_get 64 1216 p hf_c1_3 z2 z3
  rcases Nat.lt_or_ge p 1344 with z4 | z4
  · exact hf_al_get 64 1280 p hf_c1_4 z3 z4
  rcases Nat.lt_or_ge p 1408 with z5 | z5
  · exact hf_al_get 64 1344 p hf_c1_5 z4 z5
  rcases Nat.lt_or_ge p 1472 with z6 | z6
  · exact hf_al_get 64 1408 p hf_c1_6 z5 z6
  rcases Nat.lt_or_ge p 1536 with z7 | z7
  · exact hf_al_get 64 1472 p hf_c1_7 z6 z7
  rcases Nat.lt_or_ge p 1600 with z8 | z8
  · exact hf_al_get 64 1536 p hf_c1_8 z7 z8
  rcases Nat.lt_or_ge p 1664 with z9 | z9
  · exact hf_al_get 64 1600 p hf_c1_9 z8 z9
  rcases Nat.lt_or_ge p 1728 with z10 | z10
  · exact hf_al_get 64 1664 p hf_c1_10 z9 z10
  rcases Nat.lt_or_ge p 1792 with z11 | z11
  · exact hf_al_get 64 1728 p hf_c1_11 z10 z11
  rcases Nat.lt_or_ge p 1856 with z12 | z12
  · exact hf_al_get 64 1792 p hf_c1_12 z11 z12
  rcases Nat.lt_or_ge p 1920 with z13 | z13
  · exact hf_al_get 64 1856 p hf_c1_13 z12 z13
  rcases Nat.lt_or_ge p 1984 with z14 | z14
  · exact hf_al_get 64 1920 p hf_c1_14 z13 z14
  exact hf_al_get 64 1984 p hf_c1_15 z14 h2
theorem hf_c2_0 : hf_al 64 2048 = true := by decide +kernel
theorem hf_c2_1 : hf_al 64 2112 = true := by decide +kernel
theorem hf_c2_2 : hf_al 64 2176 = true := by decide +kernel
theorem hf_c2_3 : hf_al 64 2240 = true := by decide +kernel
theorem hf_c2_4 : hf_al 64 2304 = true := by decide +kernel
theorem hf_c2_5 : hf_al 64 2368 = true := by decide +kernel
theorem hf_c2_6 : hf_al 64 2432 = true := by decide +kernel
theorem hf_c2_7 : hf_al 64 2496 = true := by decide +kernel
theorem hf_c2_8 : hf_al 64 2560 = true := by decide +kernel
theorem hf_c2_9 : hf_al 64 2624 = true := by decide +kernel
theorem hf_c2_10 : hf_al 64 2688 = true := by decide +kernel
theorem hf_c2_11 : hf_al 64 2752 = true := by decide +kernel
theorem hf_c2_12 : hf_al 64 2816 = true := by decide +kernel
theorem hf_c2_13 : hf_al 64 2880 = true := by decide +kernel
theorem hf_c2_14 : hf_al 64 2944 = true := by decide +kernel
theorem hf_c2_15 : hf_al 64 3008 = true := by decide +kernel
theorem hf_c2 {p : Nat} (h : 2048 ≤ p) (h2 : p < 3072) : hf_ck p = true := by
  rcases Nat.lt_or_ge p 2112 with z0 | z0
  · exact hf_al_get 64 2048 p hf_c2_0 h z0
  rcases Nat.lt_or_ge p 2176 with z1 | z1
  · exact hf_al_get 64 2112 p hf_c2_1 z0 z1
  rcases Nat.lt_or_ge p 2240 with z2 | z2
  · exact hf_al_get 64 2176 p hf_c2_2 z1 z2
  rcases Nat.lt_or_ge p 2304 with z3 | z3
  · exact hf_al_get 64 2240 p hf_c2_3 z2 z3
  rcases Nat.lt_or_ge p 2368 with z4 | z4
  · exact hf_al_get 64 2304 p hf_c2_4 z3 z4
  rcases Nat.lt_or_ge p 2432 with z5 | z5
  · exact hf_al_get 64 2368 p hf_c2_5 z4 z5
  rcases Nat.lt_or_ge p 2496 with z6 | z6
  · exact hf_al_get 64 2432 p hf_c2_6 z5 z6
  rcases Nat.lt_or_ge p 2560 with z7 | z7
  · exact hf_al_get 64 2496 p hf_c2_7 z6 z7
  rcases Nat.lt_or_ge p 2624 with z8 | z8
  · exact hf_al_get 64 2560 p hf_c2_8 z7 z8
  rcases Nat.lt_or_ge p 2688 with z9 | z9
  · exact hf_al_get 64 2624 p hf_c2_9 z8 z9
  rcases Nat.lt_or_ge p 2752 with z10 | z10
  · exact hf_al_get 64 2688 p hf_c2_10 z9 z10
  rcases Nat.lt_or_ge p 2816 with z11 | z11
  · exact hf_al_get 64 2752 p hf_c2_11 z10 z11
  rcases Nat.lt_or_ge p 2880 with z12 | z12
  · exact hf_al_get 64 2816 p hf_c2_12 z11 z12
  rcases Nat.lt_or_ge p 2944 with z13 | z13
  · exact hf_al_get 64 2880 p hf_c2_13 z12 z13
  rcases Nat.lt_or_ge p 3008 with z14 | z14
  · exact hf_al_get 64 2944 p hf_c2_14 z13 z14
  exact hf_al_get 64 3008 p hf_c2_15 z14 h2
theorem hf_c3_0 : hf_al 64 3072 = true := by decide +kernel
theorem hf_c3_1 : hf_al 64 3136 = true := by decide +kernel
theorem hf_c3_2 : hf_al 64 3200 = true := by decide +kernel
theorem hf_c3_3 : hf_al 64 3264 = true := by decide +kernel
theorem hf_c3_4 : hf_al 64 3328 = true := by decide +kernel
theorem hf_c3_5 : hf_al 64 3392 = true := by decide +kernel
theorem hf_c3_6 : hf_al 64 3456 = true := by decide +kernel
theorem hf_c3_7 : hf_al 64 3520 = true := by decide +kernel
theorem hf_c3_8 : hf_al 64 3584 = true := by decide +kernel
theorem hf_c3_9 : hf_al 64 3648 = true := by decide +kernel
theorem hf_c3_10 : hf_al 64 3712 = true := by decide +kernel
theorem hf_c3_11 : hf_al 64 3776 = true := by decide +kernel
theorem hf_c3_12 : hf_al 64 3840 = true := by decide +kernel
theorem hf_c3_13 : hf_al 64 3904 = true := by decide +kernel
theorem hf_c3_14 : hf_al 64 3968 = true := by decide +kernel
theorem hf_c3_15 : hf_al 64 4032 = true := by decide +kernel
theorem hf_c3 {p : Nat} (h : 3072 ≤ p) (h2 : p < 4096) : hf_ck p = true := by
  rcases Nat.lt_or_ge p 3136 with z0 | z0
  · exact hf_al_get 64 3072 p hf_c3_0 h z0
  rcases Nat.lt_or_ge p 3200 with z1 | z1
  · exact hf_al_get 64 3136 p hf_c3_1 z0 z1
  rcases Nat.lt_or_ge p 3264 with z2 | z2
  · exact hf_al_get 64 3200 p hf_c3_2 z1 z2
  rcases Nat.lt_or_ge p 3328 with z3 | z3
  · exact hf_al_get 64 3264 p hf_c3_3 z2 z3
  rcases Nat.lt_or_ge p 3392 with z4 | z4
  · exact hf_al_get 64 3328 p hf_c3_4 z3 z4
  rcases Nat.lt_or_ge p 3456 with z5 | z5
  · exact hf_al_get 64 3392 p hf_c3_5 z4 z5
  rcases Nat.lt_or_ge p 3520 with z6 | z6
  · exact hf_al_get 64 3456 p hf_c3_6 z5 z6
  rcases Nat.lt_or_ge p 3584 with z7 | z7
  · exact hf_al_get 64 3520 p hf_c3_7 z6 z7
  rcases Nat.lt_or_ge p 3648 with z8 | z8
  · exact hf_al_get 64 3584 p hf_c3_8 z7 z8
  rcases Nat.lt_or_ge p 3712 with z9 | z9
  · exact hf_al_get 64 3648 p hf_c3_9 z8 z9
  rcases Nat.lt_or_ge p 3776 with z10 | z10
  · exact hf_al_get 64 3712 p hf_c3_10 z9 z10
  rcases Nat.lt_or_ge p 3840 with z11 | z11
  · exact hf_al_get 64 3776 p hf_c3_11 z10 z11
  rcases Nat.lt_or_ge p 3904 with z12 | z12
  · exact hf_al_get 64 3840 p hf_c3_12 z11 z12
  rcases Nat.lt_or_ge p 3968 with z13 | z13
  · exact hf_al_get 64 3904 p hf_c3_13 z12 z13
  rcases Nat.lt_or_ge p 4032 with z14 | z14
  · exact hf_al_get 64 3968 p hf_c3_14 z13 z14
  exact hf_al_get 64 4032 p hf_c3_15 z14 h2
theorem hf_c4_0 : hf_al 64 4096 = true := by decide +kernel
theorem hf_c4_1 : hf_al 64 4160 = true := by decide +kernel
theorem hf_c4_2 : hf_al 64 4224 = true := by decide +kernel
theorem hf_c4_3 : hf_al 64 4288 = true := by decide +kernel
theorem hf_c4_4 : hf_al 64 4352 = true := by decide +kernel
theorem hf_c4_5 : hf_al 64 4416 = true := by decide +kernel
theorem hf_c4_6 : hf_al 64 4480 = true := by decide +kernel
theorem hf_c4_7 : hf_al 64 4544 = true := by decide +kernel
theorem hf_c4_8 : hf_al 64 4608 = true := by decide +kernel
theorem hf_c4_9 : hf_al 64 4672 = true := by decide +kernel
theorem hf_c4_10 : hf_al 64 4736 = true := by decide +kernel
theorem hf_c4_11 : hf_al 64 4800 = true := by decide +kernel
theorem hf_c4_12 : hf_al 64 4864 = true := by decide +kernel
theorem hf_c4_13 : hf_al 64 4928 = true := by decide +kernel
theorem hf_c4_14 : hf_al 64 4992 = true := by decide +kernel
theorem hf_c4_15 : hf_al 64 5056 = true := by decide +kernel
theorem hf_c4 {p : Nat} (h : 4096 ≤ p) (h2 : p < 5120) : hf_ck p = true := by
  rcases Nat.lt_or_ge p 4160 with z0 | z0
  · exact hf_al_get 64 4096 p hf_c4_0 h z0
  rcases Nat.lt_or_ge p 4224 with z1 | z1
  · exact hf_al_get 64 4160 p hf_c4_1 z0 z1
  rcases Nat.lt_or_ge p 4288 with z2 | z2
  · exact hf_al_get 64 4224 p hf_c4_2 z1 z2
  rcases Nat.lt_or_ge p 4352 with z3 | z3
  · exact hf_al_get 64 4288 p hf_c4_3 z2 z3
  rcases Nat.lt_or_ge p 4416 with z4 | z4
  · exact hf_al_get 64 4352 p hf_c4_4 z3 z4
  rcases Nat.lt_or_ge p 4480 with z5 | z5
  · exact hf_al_get 64 4416 p hf_c4_5 z4 z5
  rcases Nat.lt_or_ge p 4544 with z6 | z6
  · exact hf_al_get 64 4480 p hf_c4_6 z5 z6
  rcases Nat.lt_or_ge p 4608 with z7 | z7
  · exact hf_al_get 64 4544 p hf_c4_7 z6 z7
  rcases Nat.lt_or_ge p 4672 with z8 | z8
  · exact hf_al_get 64 4608 p hf_c4_8 z7 z8
  rcases Nat.lt_or_ge p 4736 with z9 | z9
  · exact hf_al_get 64 4672 p hf_c4_9 z8 z9
  rcases Nat.lt_or_ge p 4800 with z10 | z10
  · exact hf_al_get 64 4736 p hf_c4_10 z9 z10
  rcases Nat.lt_or_ge p 4864 with z11 | z11
  · exact hf_al_get 64 4800 p hf_c4_11 z10 z11
  rcases Nat.lt_or_ge p 4928 with z12 | z12
  · exact hf_al_get 64 4864 p hf_c4_12 z11 z12
  rcases Nat.lt_or_ge p 4992 with z13 | z13
  · exact hf_al_get 64 4928 p hf_c4_13 z12 z13
  rcases Nat.lt_or_ge p 5056 with z14 | z14
  · exact hf_al_get 64 4992 p hf_c4_14 z13 z14
  exact hf_al_get 64 5056 p hf_c4_15 z14 h2
theorem hf_c5_0 : hf_al 64 5120 = true := by decide +kernel
theorem hf_c5_1 : hf_al 64 5184 = true := by decide +kernel
theorem hf_c5_2 : hf_al 64 5248 = true := by decide +kernel
theorem hf_c5_3 : hf_al 64 5312 = true := by decide +kernel
theorem hf_c5_4 : hf_al 64 5376 = true := by decide +kernel
theorem hf_c5_5 : hf_al 64 5440 = true := by decide +kernel
theorem hf_c5_6 : hf_al 64 5504 = true := by decide +kernel
theorem hf_c5_7 : hf_al 64 5568 = true := by decide +kernel
theorem hf_c5_8 : hf_al 64 5632 = true := by decide +kernel
theorem hf_c5_9 : hf_al 64 5696 = true := by decide +kernel
theorem hf_c5_10 : hf_al 64 5760 = true := by decide +kernel
theorem hf_c5_11 : hf_al 64 5824 = true := by decide +kernel
theorem hf_c5_12 : hf_al 64 5888 = true := by decide +kernel
theorem hf_c5_13 : hf_al 64 5952 = true := by decide +kernel
theorem hf_c5_14 : hf_al 64 6016 = true := by decide +kernel
theorem hf_c5_15 : hf_al 64 6080 = true := by decide +kernel
theorem hf_c5 {p : Nat} (h : 5120 ≤ p) (h2 : p < 6144) : hf_ck p = true := by
  rcases Nat.lt_or_ge p 5184 with z0 | z0
  · exact hf_al_get 64 5120 p hf_c5_0 h z0
  rcases Nat.lt_or_ge p 5248 with z1 | z1
  · exact hf_al_get 64 5184 p hf_c5_1 z0 z1
  rcases Nat.lt_or_ge p 5312 with z2 | z2
  · exact hf_al_get 64 5248 p hf_c5_2 z1 z2
  rcases Nat.lt_or_ge p 5376 with z3 | z3
  · exact hf_al_get 64 5312 p hf_c5_3 z2 z3
  rcases Nat.lt_or_ge p 5440 with z4 | z4
  · exact hf_al_get 64 5376 p hf_c5_4 z3 z4
  rcases Nat.lt_or_ge p 5504 with z5 | z5
  · exact hf_al_get 64 5440 p hf_c5_5 z4 z5
  rcases Nat.lt_or_ge p 5568 with z6 | z6
  · exact hf_al_get 64 5504 p hf_c5_6 z5 z6
  rcases Nat.lt_or_ge p 5632 with z7 | z7
  · exact hf_al_get 64 5568 p hf_c5_7 z6 z7
  rcases Nat.lt_or_ge p 5696 with z8 | z8
  · exact hf_al_get 64 5632 p hf_c5_8 z7 z8
  rcases Nat.lt_or_ge p 5760 with z9 | z9
  · exact hf_al_get 64 5696 p hf_c5_9 z8 z9
  rcases Nat.lt_or_ge p 5824 with z10 | z10
  · exact hf_al_get 64 5760 p hf_c5_10 z9 z10
  rcases Nat.lt_or_ge p 5888 with z11 | z11
  · exact hf_al_get 64 5824 p hf_c5_11 z10 z11
  rcases Nat.lt_or_ge p 5952 with z12 | z12
  · exact hf_al_get 64 5888 p hf_c5_12 z11 z12
  rcases Nat.lt_or_ge p 6016 with z13 | z13
  · exact hf_al_get 64 5952 p hf_c5_13 z12 z13
  rcases Nat.lt_or_ge p 6080 with z14 | z14
  · exact hf_al_get 64 6016 p hf_c5_14 z13 z14
  exact hf_al_get 64 6080 p hf_c5_15 z14 h2
theorem hf_c6_0 : hf_al 64 6144 = true := by decide +kernel
theorem hf_c6_1 : hf_al 64 6208 = true := by decide +kernel
theorem hf_c6_2 : hf_al 64 6272 = true := by decide +kernel
theorem hf_c6_3 : hf_al 64 6336 = true := by decide +kernel
theorem hf_c6_4 : hf_al 64 6400 = true := by decide +kernel
theorem hf_c6_5 : hf_al 64 6464 = true := by decide +kernel
theorem hf_c6_6 : hf_al 64 6528 = true := by decide +kernel
theorem hf_c6_7 : hf_al 64 6592 = true := by decide +kernel
theorem hf_c6_8 : hf_al 64 6656 = true := by decide +kernel
theorem hf_c6_9 : hf_al 64 6720 = true := by decide +kernel
theorem hf_c6_10 : hf_al 64 6784 = true := by decide +kernel
theorem hf_c6_11 : hf_al 64 6848 = true := by decide +kernel
theorem hf_c6_12 : hf_al 64 6912 = true := by decide +kernel
theorem hf_c6_13 : hf_al 64 6976 = true := by decide +kernel
theorem hf_c6_14 : hf_al 64 7040 = true := by decide +kernel
theorem hf_c6_15 : hf_al 64 7104 = true := by decide +kernel
theorem hf_c6 {p : Nat} (h : 6144 ≤ p) (h2 : p < 7168) : hf_ck p = true := by
  rcases Nat.lt_or_ge p 6208 with z0 | z0
  · exact hf_al_get 64 6144 p hf_c6_0 h z0
  rcases Nat.lt_or_ge p 6272 with z1 | z1
  · exact hf_al_get 64 6208 p hf_c6_1 z0 z1
  rcases Nat.lt_or_ge p 6336 with z2 | z2
  · exact hf_al_get 64 6272 p hf_c6_2 z1 z2
  rcases Nat.lt_or_ge p 6400 with z3 | z3
  · exact hf_al_get 64 6336 p hf_c6_3 z2 z3
  rcases Nat.lt_or_ge p 6464 with z4 | z4
  · exact hf_al_get 64 6400 p hf_c6_4 z3 z4
  rcases Nat.lt_or_ge p 6528 with z5 | z5
  · exact hf_al_get 64 6464 p hf_c6_5 z4 z5
  rcases Nat.lt_or_ge p 6592 with z6 | z6
  · exact hf_al_get 64 6528 p hf_c6_6 z5 z6
  rcases Nat.lt_or_ge p 6656 with z7 | z7
  · exact hf_al_get 64 6592 p hf_c6_7 z6 z7
  rcases Nat.lt_or_ge p 6720 with z8 | z8
  · exact hf_al_get 64 6656 p hf_c6_8 z7 z8
  rcases Nat.lt_or_ge p 6784 with z9 | z9
  · exact hf_al_get 64 6720 p hf_c6_9 z8 z9
  rcases Nat.lt_or_ge p 6848 with z10 | z10
  · exact hf_al_get 64 6784 p hf_c6_10 z9 z10
  rcases Nat.lt_or_ge p 6912 with z11 | z11
  · exact hf_al_get 64 6848 p hf_c6_11 z10 z11
  rcases Nat.lt_or_ge p 6976 with z12 | z12
  · exact hf_al_get 64 6912 p hf_c6_12 z11 z12
  rcases Nat.lt_or_ge p 7040 with z13 | z13
  · exact hf_al_get 64 6976 p hf_c6_13 z12 z13
  rcases Nat.lt_or_ge p 7104 with z14 | z14
  · exact hf_al_get 64 7040 p hf_c6_14 z13 z14
  exact hf_al_get 64 7104 p hf_c6_15 z14 h2
theorem hf_c7_0 : hf_al 64 7168 = true := by decide +kernel
theorem hf_c7_1 : hf_al 64 7232 = true := by decide +kernel
theorem hf_c7_2 : hf_al 64 7296 = true := by decide +kernel
theorem hf_c7_3 : hf_al 64 7360 = true := by decide +kernel
theorem hf_c7_4 : hf_al 64 7424 = true := by decide +kernel
theorem hf_c7_5 : hf_al 64 7488 = true := by decide +kernel
theorem hf_c7_6 : hf_al 64 7552 = true := by decide +kernel
theorem hf_c7_7 : hf_al 64 7616 = true := by decide +kernel
theorem hf_c7_8 : hf_al 64 7680 = true := by decide +kernel
theorem hf_c7_9 : hf_al 64 7744 = true := by decide +kernel
theorem hf_c7_10 : hf_al 64 7808 = true := by decide +kernel
theorem hf_c7_11 : hf_al 64 7872 = true := by decide +kernel
theorem hf_c7_12 : hf_al 64 7936 = true := by decide +kernel
theorem hf_c7_13 : hf_al 64 8000 = true := by decide +kernel
theorem hf_c7_14 : hf_al 64 8064 = true := by decide +kernel
theorem hf_c7_15 : hf_al 64 8128 = true := by decide +kernel
theorem hf_c7 {p : Nat} (h : 7168 ≤ p) (h2 : p < 8192) : hf_ck p = true := by
  rcases Nat.lt_or_ge p 7232 with z0 | z0
  · exact hf_al_get 64 7168 p hf_c7_0 h z0
  rcases Nat.lt_or_ge p 7296 with z1 | z1
  · exact hf_al_get 64 7232 p hf_c7_1 z0 z1
  rcases Nat.lt_or_ge p 7360 with z2 | z2
  · exact hf_al_get 64 7296 p hf_c7_2 z1 z2
  rcases Nat.lt_or_ge p 7424 with z3 | z3
  · exact hf_al_get 64 7360 p hf_c7_3 z2 z3
  rcases Nat.lt_or_ge p 7488 with z4 | z4
  · exact hf_al_get 64 7424 p hf_c7_4 z3 z4
  rcases Nat.lt_or_ge p 7552 with z5 | z5
  · exact hf_al_get 64 7488 p hf_c7_5 z4 z5
  rcases Nat.lt_or_ge p 7616 with z6 | z6
  · exact hf_al_get 64 7552 p hf_c7_6 z5 z6
  rcases Nat.lt_or_ge p 7680 with z7 | z7
  · exact hf_al_get 64 7616 p hf_c7_7 z6 z7
  rcases Nat.lt_or_ge p 7744 with z8 | z8
  · exact hf_al_get 64 7680 p hf_c7_8 z7 z8
  rcases Nat.lt_or_ge p 7808 with z9 | z9
  · exact hf_al_get 64 7744 p hf_c7_9 z8 z9
  rcases Nat.lt_or_ge p 7872 with z10 | z10
  · exact hf_al_get 64 7808 p hf_c7_10 z9 z10
  rcases Nat.lt_or_ge p 7936 with z11 | z11
  · exact hf_al_get 64 7872 p hf_c7_11 z10 z11
  rcases Nat.lt_or_ge p 8000 with z12 | z12
  · exact hf_al_get 64 7936 p hf_c7_12 z11 z12
  rcases Nat.lt_or_ge p 8064 with z13 | z13
  · exact hf_al_get 64 8000 p hf_c7_13 z12 z13
  rcases Nat.lt_or_ge p 8128 with z14 | z14
  · exact hf_al_get 64 8064 p hf_c7_14 z13 z14
  exact hf_al_get 64 8128 p hf_c7_15 z14 h2
theorem hf_c8_0 : hf_al 64 8192 = true := by decide +kernel
theorem hf_c8_1 : hf_al 64 8256 = true := by decide +kernel
theorem hf_c8_2 : hf_al 64 8320 = true := by decide +kernel
theorem hf_c8_3 : hf_al 64 8384 = true := by decide +kernel
theorem hf_c8_4 : hf_al 64 8448 = true := by decide +kernel
theorem hf_c8_5 : hf_al 64 8512 = true := by decide +kernel
theorem hf_c8_6 : hf_al 64 8576 = true := by decide +kernel
theorem hf_c8_7 : hf_al 64 8640 = true := by decide +kernel
theorem hf_c8_8 : hf_al 64 8704 = true := by decide +kernel
theorem hf_c8_9 : hf_al 64 8768 = true := by decide +kernel
theorem hf_c8_10 : hf_al 64 8832 = true := by decide +kernel
theorem hf_c8_11 : hf_al 64 8896 = true := by decide +kernel
theorem hf_c8_12 : hf_al 64 8960 = true := by decide +kernel
theorem hf_c8_13 : hf_al 64 9024 = true := by decide +kernel
theorem hf_c8_14 : hf_al 64 9088 = true := by decide +kernel
theorem hf_c8_15 : hf_al 64 9152 = true := by decide +kernel
theorem hf_c8 {p : Nat} (h : 8192 ≤ p) (h2 : p < 9216) : hf_ck p = true := by
  rcases Nat.lt_or_ge p 8256 with z0 | z0
  · exact hf_al_get 64 8192 p hf_c8_0 h z0
  rcases Nat.lt_or_ge p 8320 with z1 | z1
  · exact hf_al_get 64 8256 p hf_c8_1 z0 z1
  rcases Nat.lt_or_ge p 8384 with z2 | z2
  · exact hf_al_get 64 8320 p hf_c8_2 z1 z2
  rcases Nat.lt_or_ge p 8448 with z3 | z3
  · exact hf_al_get 64 8384 p hf_c8_3 z2 z3
  rcases Nat.lt_or_ge p 8512 with z4 | z4
  · exact hf_al_get 64 8448 p hf_c8_4 z3 z4
  rcases Nat.lt_or_ge p 8576 with z5 | z5
  · exact hf_al_get 64 8512 p hf_c8_5 z4 z5
  rcases Nat.lt_or_ge p 8640 with z6 | z6
  · exact hf_al_get 64 8576 p hf_c8_6 z5 z6
  rcases Nat.lt_or_ge p 8704 with z7 | z7
  · exact hf_al_get 64 8640 p hf_c8_7 z6 z7
  rcases Nat.lt_or_ge p 8768 with z8 | z8
  · exact hf_al_get 64 8704 p hf_c8_8 z7 z8
  rcases Nat.lt_or_ge p 8832 with z9 | z9
  · exact hf_al_get 64 8768 p hf_c8_9 z8 z9
  rcases Nat.lt_or_ge p 8896 with z10 | z10
  · exact hf_al_get 64 8832 p hf_c8_10 z9 z10
  rcases Nat.lt_or_ge p 8960 with z11 | z11
  · exact hf_al_get 64 8896 p hf_c8_11 z10 z11
  rcases Nat.lt_or_ge p 9024 with z12 | z12
  · exact hf_al_get 64 8960 p hf_c8_12 z11 z12
  rcases Nat.lt_or_ge p 9088 with z13 | z13
  · exact hf_al_get 64 9024 p hf_c8_13 z12 z13
  rcases Nat.lt_or_ge p 9152 with z14 | z14
  · exact hf_al_get 64 9088 p hf_c8_14 z13 z14
  exact hf_al_get 64 9152 p hf_c8_15 z14 h2
theorem hf_c9_0 : hf_al 64 9216 = true := by decide +kernel
theorem hf_c9_1 : hf_al 64 9280 = true := by decide +kernel
theorem hf_c9_2 : hf_al 64 9344 = true := by decide +kernel
theorem hf_c9_3 : hf_al 64 9408 = true := by decide +kernel
theorem hf_c9_4 : hf_al 64 9472 = true := by decide +kernel
theorem hf_c9_5 : hf_al 64 9536 = true := by decide +kernel
theorem hf_c9_6 : hf_al 64 9600 = true := by decide +kernel
theorem hf_c9_7 : hf_al 64 9664 = true := by decide +kernel
theorem hf_c9_8 : hf_al 64 9728 = true := by decide +kernel
theorem hf_c9_9 : hf_al 64 9792 = true := by decide +kernel
theorem hf_c9_10 : hf_al 64 9856 = true := by decide +kernel
theorem hf_c9_11 : hf_al 64 9920 = true := by decide +kernel
theorem hf_c9_12 : hf_al 64 9984 = true := by decide +kernel
theorem hf_c9_13 : hf_al 64 10048 = true := by decide +kernel
theorem hf_c9_14 : hf_al 64 10112 = true := by decide +kernel
theorem hf_c9_15 : hf_al 64 10176 = true := by decide +kernel
theorem hf_c9 {p : Nat} (h : 9216 ≤ p) (h2 : p < 10240) : hf_ck p = true := by
  rcases Nat.lt_or_ge p 9280 with z0 | z0
  · exact hf_al_get 64 9216 p hf_c9_0 h z0
  rcases Nat.lt_or_ge p 9344 with z1 | z1
  · exact hf_al_get 64 9280 p hf_c9_1 z0 z1
  rcases Nat.lt_or_ge p 9408 with z2 | z2
  · exact hf_al_get 64 9344 p hf_c9_2 z1 z2
  rcases Nat.lt_or_ge p 9472 with z3 | z3
  · exact hf_al_get 64 9408 p hf_c9_3 z2 z3
  rcases Nat.lt_or_ge p 9536 with z4 | z4
  · exact hf_al_get 64 9472 p hf_c9_4 z3 z4
  rcases Nat.lt_or_ge p 9600 with z5 | z5
  · exact hf_al_get 64 9536 p hf_c9_5 z4 z5
  rcases Nat.lt_or_ge p 9664 with z6 | z6
  · exact hf_al_get 64 9600 p hf_c9_6 z5 z6
  rcases Nat.lt_or_ge p 9728 with z7 | z7
  · exact hf_al_get 64 9664 p hf_c9_7 z6 z7
  rcases Nat.lt_or_ge p 9792 with z8 | z8
  · exact hf_al_get 64 9728 p hf_c9_8 z7 z8
  rcases Nat.lt_or_ge p 9856 with z9 | z9
  · exact hf_al_get 64 9792 p hf_c9_9 z8 z9
  rcases Nat.lt_or_ge p 9920 with z10 | z10
  · exact hf_al_get 64 9856 p hf_c9_10 z9 z10
  rcases Nat.lt_or_ge p 9984 with z11 | z11
  · exact hf_al_get 64 9920 p hf_c9_11 z10 z11
  rcases Nat.lt_or_ge p 10048 with z12 | z12
  · exact hf_al_get 64 9984 p hf_c9_12 z11 z12
  rcases Nat.lt_or_ge p 10112 with z13 | z13
  · exact hf_al_get 64 10048 p hf_c9_13 z12 z13
  rcases Nat.lt_or_ge p 10176 with z14 | z14
  · exact hf_al_get 64 10112 p hf_c9_14 z13 z14
  exact hf_al_get 64 10176 p hf_c9_15 z14 h2
theorem hf_c10_0 : hf_al 64 10240 = true := by decide +kernel
theorem hf_c10_1 : hf_al 64 10304 = true := by decide +kernel
theorem hf_c10_2 : hf_al 64 10368 = true := by decide +kernel
theorem hf_c10_3 : hf_al 64 10432 = true := by decide +kernel
theorem hf_c10_4 : hf_al 64 10496 = true := by decide +kernel
theorem hf_c10_5 : hf_al 64 10560 = true := by decide +kernel
theorem hf_c10_6 : hf_al 64 10624 = true := by decide +kernel
theorem hf_c10_7 : hf_al 64 10688 = true := by decide +kernel
theorem hf_c10_8 : hf_al 64 10752 = true := by decide +kernel
theorem hf_c10_9 : hf_al 64 10816 = true := by decide +kernel
theorem hf_c10_10 : hf_al 64 10880 = true := by decide +kernel
theorem hf_c10_11 : hf_al 64 10944 = true := by decide +kernel
theorem hf_c10_12 : hf_al 64 11008 = true := by decide +kernel
theorem hf_c10_13 : hf_al 64 11072 = true := by decide +kernel
theorem hf_c10_14 : hf_al 64 11136 = true := by decide +kernel
theorem hf_c10_15 : hf_al 64 11200 = true := by decide +kernel
theorem hf_c10 {p : Nat} (h : 10240 ≤ p) (h2 : p < 11264) : hf_ck p = true := by
  rcases Nat.lt_or_ge p 10304 with z0 | z0
  · exact hf_al_get 64 10240 p hf_c10_0 h z0
  rcases Nat.lt_or_ge p 10368 with z1 | z1
  · exact hf_al_get 64 10304 p hf_c10_1 z0 z1
  rcases Nat.lt_or_ge p 10432 with z2 | z2
  · exact hf_al_get 64 10368 p hf_c10_2 z1 z2
  rcases Nat.lt_or_ge p 10496 with z3 | z3
  · exact hf_al_get 64 10432 p hf_c10_3 z2 z3
  rcases Nat.lt_or_ge p 10560 with z4 | z4
  · exact hf_al_get 64 10496 p hf_c10_4 z3 z4
  rcases Nat.lt_or_ge p 10624 with z5 | z5
  · exact hf_al_get 64 10560 p hf_c10_5 z4 z5
  rcases Nat.lt_or_ge p 10688 with z6 | z6
  · exact hf_al_get 64 10624 p hf_c10_6 z5 z6
  rcases Nat.lt_or_ge p 10752 with z7 | z7
  · exact hf_al_get 64 10688 p hf_c10_7 z6 z7
  rcases Nat.lt_or_ge p 10816 with z8 | z8
  · exact hf_al_get 64 10752 p hf_c10_8 z7 z8
  rcases Nat.lt_or_ge p 10880 with z9 | z9
  · exact hf_al_get 64 10816 p hf_c10_9 z8 z9
  rcases Nat.lt_or_ge p 10944 with z10 | z10
  · exact hf_al_get 64 10880 p hf_c10_10 z9 z10
  rcases Nat.lt_or_ge p 11008 with z11 | z11
  · exact hf_al_get 64 10944 p hf_c10_11 z10 z11
  rcases Nat.lt_or_ge p 11072 with z12 | z12
  · exact hf_al_get 64 11008 p hf_c10_12 z11 z12
  rcases Nat.lt_or_ge p 11136 with z13 | z13
  · exact hf_al_get 64 11072 p hf_c10_13 z12 z13
  rcases Nat.lt_or_ge p 11200 with z14 | z14
  · exact hf_al_get 64 11136 p hf_c10_14 z13 z14
  exact hf_al_get 64 11200 p hf_c10_15 z14 h2
theorem hf_c11_0 : hf_al 64 11264 = true := by decide +kernel
theorem hf_c11_1 : hf_al 64 11328 = true := by decide +kernel
theorem hf_c11_2 : hf_al 64 11392 = true := by decide +kernel
theorem hf_c11_3 : hf_al 64 11456 = true := by decide +kernel
theorem hf_c11_4 : hf_al 64 11520 = true := by decide +kernel
theorem hf_c11_5 : hf_al 64 11584 = true := by decide +kernel
theorem hf_c11_6 : hf_al 64 11648 = true := by decide +kernel
theorem hf_c11_7 : hf_al 64 11712 = true := by decide +kernel
theorem hf_c11_8 : hf_al 64 11776 = true := by decide +kernel
theorem hf_c11_9 : hf_al 64 11840 = true := by decide +kernel
theorem hf_c11_10 : hf_al 64 11904 = true := by decide +kernel
theorem hf_c11_11 : hf_al 64 11968 = true := by decide +kernel
theorem hf_c11_12 : hf_al 64 12032 = true := by decide +kernel
theorem hf_c11_13 : hf_al 64 12096 = true := by decide +kernel
theorem hf_c11_14 : hf_al 64 12160 = true := by decide +kernel
theorem hf_c11_15 : hf_al 64 12224 = true := by decide +kernel
theorem hf_c11 {p : Nat} (h : 11264 ≤ p) (h2 : p < 12288) : hf_ck p = true := by
  rcases Nat.lt_or_ge p 11328 with z0 | z0
  · exact hf_al_get 64 11264 p hf_c11_0 h z0
  rcases Nat.lt_or_ge p 11392 with z1 | z1
  · exact hf_al_get 64 11328 p hf_c11_1 z0 z1
  rcases Nat.lt_or_ge p 11456 with z2 | z2
  · exact hf_al_get 64 11392 p hf_c11_2 z1 z2
  rcases Nat.lt_or_ge p 11520 with z3 | z3
  · exact hf_al_get 64 11456 p hf_c11_3 z2 z3
  rcases Nat.lt_or_ge p 11584 with z4 | z4
  · exact hf_al_get 64 11520 p hf_c11_4 z3 z4
  rcases Nat.lt_or_ge p 11648 with z5 | z5
  · exact hf_al_get 64 11584 p hf_c11_5 z4 z5
  rcases Nat.lt_or_ge p 11712 with z6 | z6
  · exact hf_al_get 64 11648 p hf_c11_6 z5 z6
  rcases Nat.lt_or_ge p 11776 with z7 | z7
  · exact hf_al_get 64 11712 p hf_c11_7 z6 z7
  rcases Nat.lt_or_ge p 11840 with z8 | z8
  · exact hf_al_get 64 11776 p hf_c11_8 z7 z8
  rcases Nat.lt_or_ge p 11904 with z9 | z9
  · exact hf_al_get 64 11840 p hf_c11_9 z8 z9
  rcases Nat.lt_or_ge p 11968 with z10 | z10
  · exact hf_al_get 64 11904 p hf_c11_10 z9 z10
  rcases Nat.lt_or_ge p 12032 with z11 | z11
  · exact hf_al_get 64 11968 p hf_c11_11 z10 z11
  rcases Nat.lt_or_ge p 12096 with z12 | z12
  · exact hf_al_get 64 12032 p hf_c11_12 z11 z12
  rcases Nat.lt_or_ge p 12160 with z13 | z13
  · exact hf_al_get 64 12096 p hf_c11_13 z12 z13
  rcases Nat.lt_or_ge p 12224 with z14 | z14
  · exact hf_al_get 64 12160 p hf_c11_14 z13 z14
  exact hf_al_get 64 12224 p hf_c11_15 z14 h2
theorem hf_c12_0 : hf_al 64 12288 = true := by decide +kernel
theorem hf_c12_1 : hf_al 64 12352 = true := by decide +kernel
theorem hf_c12_2 : hf_al 64 12416 = true := by decide +kernel
theorem hf_c12_3 : hf_al 64 12480 = true := by decide +kernel
theorem hf_c12_4 : hf_al 64 12544 = true := by decide +kernel
theorem hf_c12_5 : hf_al 64 12608 = true := by decide +kernel
theorem hf_c12_6 : hf_al 64 12672 = true := by decide +kernel
theorem hf_c12_7 : hf_al 64 12736 = true := by decide +kernel
theorem hf_c12_8 : hf_al 64 12800 = true := by decide +kernel
theorem hf_c12_9 : hf_al 64 12864 = true := by decide +kernel
theorem hf_c12_10 : hf_al 64 12928 = true := by decide +kernel
theorem hf_c12_11 : hf_al 64 12992 = true := by decide +kernel
theorem hf_c12_12 : hf_al 64 13056 = true := by decide +kernel
theorem hf_c12_13 : hf_al 64 13120 = true := by decide +kernel
theorem hf_c12_14 : hf_al 64 13184 = true := by decide +kernel
theorem hf_c12_15 : hf_al 64 13248 = true := by decide +kernel
theorem hf_c12 {p : Nat} (h : 12288 ≤ p) (h2 : p < 13312) : hf_ck p = true := by
  rcases Nat.lt_or_ge p 12352 with z0 | z0
  · exact hf_al_get 64 12288 p hf_c12_0 h z0
  rcases Nat.lt_or_ge p 12416 with z1 | z1
  · exact hf_al_get 64 12352 p hf_c12_1 z0 z1
  rcases Nat.lt_or_ge p 12480 with z2 | z2
  · exact hf_al_get 64 12416 p hf_c12_2 z1 z2
  rcases Nat.lt_or_ge p 12544 with z3 | z3
  · exact hf_al_get 64 12480 p hf_c12_3 z2 z3
  rcases Nat.lt_or_ge p 12608 with z4 | z4
  · exact hf_al_get 64 12544 p hf_c12_4 z3 z4
  rcases Nat.lt_or_ge p 12672 with z5 | z5
  · exact hf_al_get 64 12608 p hf_c12_5 z4 z5
  rcases Nat.lt_or_ge p 12736 with z6 | z6
  · exact hf_al_get 64 12672 p hf_c12_6 z5 z6
  rcases Nat.lt_or_ge p 12800 with z7 | z7
  · exact hf_al_get 64 12736 p hf_c12_7 z6 z7
  rcases Nat.lt_or_ge p 12864 with z8 | z8
  · exact hf_al_get 64 12800 p hf_c12_8 z7 z8
  rcases Nat.lt_or_ge p 12928 with z9 | z9
  · exact hf_al_get 64 12864 p hf_c12_9 z8 z9
  rcases Nat.lt_or_ge p 12992 with z10 | z10
  · exact hf_al_get 64 12928 p hf_c12_10 z9 z10
  rcases Nat.lt_or_ge p 13056 with z11 | z11
  · exact hf_al_get 64 12992 p hf_c12_11 z10 z11
  rcases Nat.lt_or_ge p 13120 with z12 | z12
  · exact hf_al_get 64 13056 p hf_c12_12 z11 z12
  rcases Nat.lt_or_ge p 13184 with z13 | z13
  · exact hf_al_get 64 13120 p hf_c12_13 z12 z13
  rcases Nat.lt_or_ge p 13248 with z14 | z14
  · exact hf_al_get 64 13184 p hf_c12_14 z13 z14
  exact hf_al_get 64 13248 p hf_c12_15 z14 h2
theorem hf_c13_0 : hf_al 64 13312 = true := by decide +kernel
theorem hf_c13_1 : hf_al 64 13376 = true := by decide +kernel
theorem hf_c13_2 : hf_al 64 13440 = true := by decide +kernel
theorem hf_c13_3 : hf_al 64 13504 = true := by decide +kernel
theorem hf_c13_4 : hf_al 64 13568 = true := by decide +kernel
theorem hf_c13_5 : hf_al 64 13632 = true := by decide +kernel
theorem hf_c13_6 : hf_al 64 13696 = true := by decide +kernel
theorem hf_c13_7 : hf_al 64 13760 = true := by decide +kernel
theorem hf_c13_8 : hf_al 64 13824 = true := by decide +kernel
theorem hf_c13_9 : hf_al 64 13888 = true := by decide +kernel
theorem hf_c13_10 : hf_al 64 13952 = true := by decide +kernel
theorem hf_c13_11 : hf_al 64 14016 = true := by decide +kernel
theorem hf_c13_12 : hf_al 64 14080 = true := by decide +kernel
theorem hf_c13_13 : hf_al 64 14144 = true := by decide +kernel
theorem hf_c13_14 : hf_al 64 14208 = true := by decide +kernel
theorem hf_c13_15 : hf_al 64 14272 = true := by decide +kernel
theorem hf_c13 {p : Nat} (h : 13312 ≤ p) (h2 : p < 14336) : hf_ck p = true := by
  rcases Nat.lt_or_ge p 13376 with z0 | z0
  · exact hf_al_get 64 13312 p hf_c13_0 h z0
  rcases Nat.lt_or_ge p 13440 with z1 | z1
  · exact hf_al_get 64 13376 p hf_c13_1 z0 z1
  rcases Nat.lt_or_ge p 13504 with z2 | z2
  · exact hf_al_get 64 13440 p hf_c13_2 z1 z2
  rcases Nat.lt_or_ge p 13568 with z3 | z3
  · exact hf_al_get 64 13504 p hf_c13_3 z2 z3
  rcases Nat.lt_or_ge p 13632 with z4 | z4
  · exact hf_al_get 64 13568 p hf_c13_4 z3 z4
  rcases Nat.lt_or_ge p 13696 with z5 | z5
  · exact hf_al_get 64 13632 p hf_c13_5 z4 z5
  rcases Nat.lt_or_ge p 13760 with z6 | z6
  · exact hf_al_get 64 13696 p hf_c13_6 z5 z6
  rcases Nat.lt_or_ge p 13824 with z7 | z7
  · exact hf_al_get 64 13760 p hf_c13_7 z6 z7
  rcases Nat.lt_or_ge p 13888 with z8 | z8
  · exact hf_al_get 64 13824 p hf_c13_8 z7 z8
  rcases Nat.lt_or_ge p 13952 with z9 | z9
  · exact hf_al_get 64 13888 p hf_c13_9 z8 z9
  rcases Nat.lt_or_ge p 14016 with z10 | z10
  · exact hf_al_get 64 13952 p hf_c13_10 z9 z10
  rcases Nat.lt_or_ge p 14080 with z11 | z11
  · exact hf_al_get 64 14016 p hf_c13_11 z10 z11
  rcases Nat.lt_or_ge p 14144 with z12 | z12
  · exact hf_al_get 64 14080 p hf_c13_12 z11 z12
  rcases Nat.lt_or_ge p 14208 with z13 | z13
  · exact hf_al_get 64 14144 p hf_c13_13 z12 z13
  rcases Nat.lt_or_ge p 14272 with z14 | z14
  · exact hf_al_get 64 14208 p hf_c13_14 z13 z14
  exact hf_al_get 64 14272 p hf_c13_15 z14 h2
theorem hf_c14_0 : hf_al 64 14336 = true := by decide +kernel
theorem hf_c14_1 : hf_al 64 14400 = true := by decide +kernel
theorem hf_c14_2 : hf_al 64 14464 = true := by decide +kernel
theorem hf_c14_3 : hf_al 64 14528 = true := by decide +kernel
theorem hf_c14_4 : hf_al 64 14592 = true := by decide +kernel
theorem hf_c14_5 : hf_al 64 14656 = true := by decide +kernel
theorem hf_c14_6 : hf_al 64 14720 = true := by decide +kernel
theorem hf_c14_7 : hf_al 64 14784 = true := by decide +kernel
theorem hf_c14_8 : hf_al 64 14848 = true := by decide +kernel
theorem hf_c14_9 : hf_al 64 14912 = true := by decide +kernel
theorem hf_c14_10 : hf_al 64 14976 = true := by decide +kernel
theorem hf_c14_11 : hf_al 64 15040 = true := by decide +kernel
theorem hf_c14_12 : hf_al 64 15104 = true := by decide +kernel
theorem hf_c14_13 : hf_al 64 15168 = true := by decide +kernel
theorem hf_c14_14 : hf_al 64 15232 = true := by decide +kernel
theorem hf_c14_15 : hf_al 64 15296 = true := by decide +kernel
theorem hf_c14 {p : Nat} (h : 14336 ≤ p) (h2 : p < 15360) : hf_ck p = true := by
  rcases Nat.lt_or_ge p 14400 with z0 | z0
  · exact hf_al_get 64 14336 p hf_c14_0 h z0
  rcases Nat.lt_or_ge p 14464 with z1 | z1
  · exact hf_al_get 64 14400 p hf_c14_1 z0 z1
  rcases Nat.lt_or_ge p 14528 with z2 | z2
  · exact hf_al_get 64 14464 p hf_c14_2 z1 z2
  rcases Nat.lt_or_ge p 14592 with z3 | z3
  · exact hf_al_get 64 14528 p hf_c14_3 z2 z3
  rcases Nat.lt_or_ge p 14656 with z4 | z4
  · exact hf_al_get 64 14592 p hf_c14_4 z3 z4
  rcases Nat.lt_or_ge p 14720 with z5 | z5
  · exact hf_al_get 64 14656 p hf_c14_5 z4 z5
  rcases Nat.lt_or_ge p 14784 with z6 | z6
  · exact hf_al_get 64 14720 p hf_c14_6 z5 z6
  rcases Nat.lt_or_ge p 14848 with z7 | z7
  · exact hf_al_get 64 14784 p hf_c14_7 z6 z7
  rcases Nat.lt_or_ge p 14912 with z8 | z8
  · exact hf_al_get 64 14848 p hf_c14_8 z7 z8
  rcases Nat.lt_or_ge p 14976 with z9 | z9
  · exact hf_al_get 64 14912 p hf_c14_9 z8 z9
  rcases Nat.lt_or_ge p 15040 with z10 | z10
  · exact hf_al_get 64 14976 p hf_c14_10 z9 z10
  rcases Nat.lt_or_ge p 15104 with z11 | z11
  · exact hf_al_get 64 15040 p hf_c14_11 z10 z11
  rcases Nat.lt_or_ge p 15168 with z12 | z12
  · exact hf_al_get 64 15104 p hf_c14_12 z11 z12
  rcases Nat.lt_or_ge p 15232 with z13 | z13
  · exact hf_al_get 64 15168 p hf_c14_13 z12 z13
  rcases Nat.lt_or_ge p 15296 with z14 | z14
  · exact hf_al_get 64 15232 p hf_c14_14 z13 z14
  exact hf_al_get 64 15296 p hf_c14_15 z14 h2
theorem hf_c15_0 : hf_al 64 15360 = true := by decide +kernel
theorem hf_c15_1 : hf_al 64 15424 = true := by decide +kernel
theorem hf_c15_2 : hf_al 64 15488 = true := by decide +kernel
theorem hf_c15_3 : hf_al 64 15552 = true := by decide +kernel
theorem hf_c15_4 : hf_al 64 15616 = true := by decide +kernel
theorem hf_c15_5 : hf_al 64 15680 = true := by decide +kernel
theorem hf_c15_6 : hf_al 64 15744 = true := by decide +kernel
theorem hf_c15_7 : hf_al 64 15808 = true := by decide +kernel
theorem hf_c15_8 : hf_al 64 15872 = true := by decide +kernel
theorem hf_c15_9 : hf_al 64 15936 = true := by decide +kernel
theorem hf_c15_10 : hf_al 64 16000 = true := by decide +kernel
theorem hf_c15_11 : hf_al 64 16064 = true := by decide +kernel
theorem hf_c15_12 : hf_al 64 16128 = true := by decide +kernel
theorem hf_c15_13 : hf_al 64 16192 = true := by decide +kernel
theorem hf_c15_14 : hf_al 64 16256 = true := by decide +kernel
theorem hf_c15_15 : hf_al 64 16320 = true := by decide +kernel
theorem hf_c15 {p : Nat} (h : 15360 ≤ p) (h2 : p < 16384) : hf_ck p = true := by
  rcases Nat.lt_or_ge p 15424 with z0 | z0
  · exact hf_al_get 64 15360 p hf_c15_0 h z0
  rcases Nat.lt_or_ge p 15488 with z1 | z1
  · exact hf_al_get 64 15424 p hf_c15_1 z0 z1
  rcases Nat.lt_or_ge p 15552 with z2 | z2
  · exact hf_al_get 64 15488 p hf_c15_2 z1 z2
  rcases Nat.lt_or_ge p 15616 with z3 | z3
  · exact hf_al_get 64 15552 p hf_c15_3 z2 z3
  rcases Nat.lt_or_ge p 15680 with z4 | z4
  · exact hf_al_get 64 15616 p hf_c15_4 z3 z4
  rcases Nat.lt_or_ge p 15744 with z5 | z5
  · exact hf_al_get 64 15680 p hf_c15_5 z4 z5
  rcases Nat.lt_or_ge p 15808 with z6 | z6
  · exact hf_al_get 64 15744 p hf_c15_6 z5 z6
  rcases Nat.lt_or_ge p 15872 with z7 | z7
  · exact hf_al_get 64 15808 p hf_c15_7 z6 z7
  rcases Nat.lt_or_ge p 15936 with z8 | z8
  · exact hf_al_get 64 15872 p hf_c15_8 z7 z8
  rcases Nat.lt_or_ge p 16000 with z9 | z9
  · exact hf_al_get 64 15936 p hf_c15_9 z8 z9
  rcases Nat.lt_or_ge p 16064 with z10 | z10
  · exact hf_al_get 64 16000 p hf_c15_10 z9 z10
  rcases Nat.lt_or_ge p 16128 with z11 | z11
  · exact hf_al_get 64 16064 p hf_c15_11 z10 z11
  rcases Nat.lt_or_ge p 16192 with z12 | z12
  · exact hf_al_get 64 16128 p hf_c15_12 z11 z12
  rcases Nat.lt_or_ge p 16256 with z13 | z13
  · exact hf_al_get 64 16192 p hf_c15_13 z12 z13
  rcases Nat.lt_or_ge p 16320 with z14 | z14
  · exact hf_al_get 64 16256 p hf_c15_14 z13 z14
  exact hf_al_get 64 16320 p hf_c15_15 z14 h2
theorem hf_c16_0 : hf_al 64 16384 = true := by decide +kernel
theorem hf_c16_1 : hf_al 64 16448 = true := by decide +kernel
theorem hf_c16_2 : hf_al 64 16512 = true := by decide +kernel
theorem hf_c16_3 : hf_al 64 16576 = true := by decide +kernel
theorem hf_c16_4 : hf_al 64 16640 = true := by decide +kernel
theorem hf_c16_5 : hf_al 64 16704 = true := by decide +kernel
theorem hf_c16_6 : hf_al 64 16768 = true := by decide +kernel
theorem hf_c16_7 : hf_al 64 16832 = true := by decide +kernel
theorem hf_c16_8 : hf_al 64 16896 = true := by decide +kernel
theorem hf_c16_9 : hf_al 64 16960 = true := by decide +kernel
theorem hf_c16_10 : hf_al 64 17024 = true := by decide +kernel
theorem hf_c16_11 : hf_al 64 17088 = true := by decide +kernel
theorem hf_c16_12 : hf_al 64 17152 = true := by decide +kernel
theorem hf_c16_13 : hf_al 64 17216 = true := by decide +kernel
theorem hf_c16_14 : hf_al 64 17280 = true := by decide +kernel
theorem hf_c16_15 : hf_al 64 17344 = true := by decide +kernel
theorem hf_c16 {p : Nat} (h : 16384 ≤ p) (h2 : p < 17408) : hf_ck p = true := by
  rcases Nat.lt_or_ge p 16448 with z0 | z0
  · exact hf_al_get 64 16384 p hf_c16_0 h z0
  rcases Nat.lt_or_ge p 16512 with z1 | z1
  · exact hf_al_get 64 16448 p hf_c16_1 z0 z1
  rcases Nat.lt_or_ge p 16576 with z2 | z2
  · exact hf_al_get 64 16512 p hf_c16_2 z1 z2
  rcases Nat.lt_or_ge p 16640 with z3 | z3
  · exact hf_al_get 64 16576 p hf_c16_3 z2 z3
  rcases Nat.lt_or_ge p 16704 with z4 | z4
  · exact hf_al_get 64 16640 p hf_c16_4 z3 z4
  rcases Nat.lt_or_ge p 16768 with z5 | z5
  · exact hf_al_get 64 16704 p hf_c16_5 z4 z5
  rcases Nat.lt_or_ge p 16832 with z6 | z6
  · exact hf_al_get 64 16768 p hf_c16_6 z5 z6
  rcases Nat.lt_or_ge p 16896 with z7 | z7
  · exact hf_al_get 64 16832 p hf_c16_7 z6 z7
  rcases Nat.lt_or_ge p 16960 with z8 | z8
  · exact hf_al_get 64 16896 p hf_c16_8 z7 z8
  rcases Nat.lt_or_ge p 17024 with z9 | z9
  · exact hf_al_get 64 16960 p hf_c16_9 z8 z9
  rcases Nat.lt_or_ge p 17088 with z10 | z10
  · exact hf_al_get 64 17024 p hf_c16_10 z9 z10
  rcases Nat.lt_or_ge p 17152 with z11 | z11
  · exact hf_al_get 64 17088 p hf_c16_11 z10 z11
  rcases Nat.lt_or_ge p 17216 with z12 | z12
  · exact hf_al_get 64 17152 p hf_c16_12 z11 z12
  rcases Nat.lt_or_ge p 17280 with z13 | z13
  · exact hf_al_get 64 17216 p hf_c16_13 z12 z13
  rcases Nat.lt_or_ge p 17344 with z14 | z14
  · exact hf_al_get 64 17280 p hf_c16_14 z13 z14
  exact hf_al_get 64 17344 p hf_c16_15 z14 h2
theorem hf_c17_0 : hf_al 64 17408 = true := by decide +kernel
theorem hf_c17_1 : hf_al 64 17472 = true := by decide +kernel
theorem hf_c17_2 : hf_al 64 17536 = true := by decide +kernel
theorem hf_c17_3 : hf_al 64 17600 = true := by decide +kernel
theorem hf_c17_4 : hf_al 64 17664 = true := by decide +kernel
theorem hf_c17_5 : hf_al 64 17728 = true := by decide +kernel
theorem hf_c17_6 : hf_al 64 17792 = true := by decide +kernel
theorem hf_c17_7 : hf_al 64 17856 = true := by decide +kernel
theorem hf_c17_8 : hf_al 64 17920 = true := by decide +kernel
theorem hf_c17_9 : hf_al 64 17984 = true := by decide +kernel
theorem hf_c17_10 : hf_al 64 18048 = true := by decide +kernel
theorem hf_c17_11 : hf_al 64 18112 = true := by decide +kernel
theorem hf_c17_12 : hf_al 64 18176 = true := by decide +kernel
theorem hf_c17_13 : hf_al 64 18240 = true := by decide +kernel
theorem hf_c17_14 : hf_al 64 18304 = true := by decide +kernel
theorem hf_c17_15 : hf_al 64 18368 = true := by decide +kernel
theorem hf_c17 {p : Nat} (h : 17408 ≤ p) (h2 : p < 18432) : hf_ck p = true := by
  rcases Nat.lt_or_ge p 17472 with z0 | z0
  · exact hf_al_get 64 17408 p hf_c17_0 h z0
  rcases Nat.lt_or_ge p 17536 with z1 | z1
  · exact hf_al_get 64 17472 p hf_c17_1 z0 z1
  rcases Nat.lt_or_ge p 17600 with z2 | z2
  · exact hf_al_get 64 17536 p hf_c17_2 z1 z2
  rcases Nat.lt_or_ge p 17664 with z3 | z3
  · exact hf_al_get 64 17600 p hf_c17_3 z2 z3
  rcases Nat.lt_or_ge p 17728 with z4 | z4
  · exact hf_al_get 64 17664 p hf_c17_4 z3 z4
  rcases Nat.lt_or_ge p 17792 with z5 | z5
  · exact hf_al_get 64 17728 p hf_c17_5 z4 z5
  rcases Nat.lt_or_ge p 17856 with z6 | z6
  · exact hf_al_get 64 17792 p hf_c17_6 z5 z6
  rcases Nat.lt_or_ge p 17920 with z7 | z7
  · exact hf_al_get 64 17856 p hf_c17_7 z6 z7
  rcases Nat.lt_or_ge p 17984 with z8 | z8
  · exact hf_al_get 64 17920 p hf_c17_8 z7 z8
  rcases Nat.lt_or_ge p 18048 with z9 | z9
  · exact hf_al_get 64 17984 p hf_c17_9 z8 z9
  rcases Nat.lt_or_ge p 18112 with z10 | z10
  · exact hf_al_get 64 18048 p hf_c17_10 z9 z10
  rcases Nat.lt_or_ge p 18176 with z11 | z11
  · exact hf_al_get 64 18112 p hf_c17_11 z10 z11
  rcases Nat.lt_or_ge p 18240 with z12 | z12
  · exact hf_al_get 64 18176 p hf_c17_12 z11 z12
  rcases Nat.lt_or_ge p 18304 with z13 | z13
  · exact hf_al_get 64 18240 p hf_c17_13 z12 z13
  rcases Nat.lt_or_ge p 18368 with z14 | z14
  · exact hf_al_get 64 18304 p hf_c17_14 z13 z14
  exact hf_al_get 64 18368 p hf_c17_15 z14 h2
theorem hf_c18_0 : hf_al 64 18432 = true := by decide +kernel
theorem hf_c18_1 : hf_al 64 18496 = true := by decide +kernel
theorem hf_c18_2 : hf_al 64 18560 = true := by decide +kernel
theorem hf_c18_3 : hf_al 64 18624 = true := by decide +kernel
theorem hf_c18_4 : hf_al 64 18688 = true := by decide +kernel
theorem hf_c18_5 : hf_al 64 18752 = true := by decide +kernel
theorem hf_c18_6 : hf_al 64 18816 = true := by decide +kernel
theorem hf_c18_7 : hf_al 64 18880 = true := by decide +kernel
theorem hf_c18_8 : hf_al 64 18944 = true := by decide +kernel
theorem hf_c18_9 : hf_al 64 19008 = true := by decide +kernel
theorem hf_c18_10 : hf_al 64 19072 = true := by decide +kernel
theorem hf_c18_11 : hf_al 64 19136 = true := by decide +kernel
theorem hf_c18_12 : hf_al 64 19200 = true := by decide +kernel
theorem hf_c18_13 : hf_al 64 19264 = true := by decide +kernel
theorem hf_c18_14 : hf_al 64 19328 = true := by decide +kernel
theorem hf_c18_15 : hf_al 64 19392 = true := by decide +kernel
theorem hf_c18 {p : Nat} (h : 18432 ≤ p) (h2 : p < 19456) : hf_ck p = true := by
  rcases Nat.lt_or_ge p 18496 with z0 | z0
  · exact hf_al_get 64 18432 p hf_c18_0 h z0
  rcases Nat.lt_or_ge p 18560 with z1 | z1
  · exact hf_al_get 64 18496 p hf_c18_1 z0 z1
  rcases Nat.lt_or_ge p 18624 with z2 | z2
  · exact hf_al_get 64 18560 p hf_c18_2 z1 z2
  rcases Nat.lt_or_ge p 18688 with z3 | z3
  · exact hf_al_get 64 18624 p hf_c18_3 z2 z3
  rcases Nat.lt_or_ge p 18752 with z4 | z4
  · exact hf_al_get 64 18688 p hf_c18_4 z3 z4
  rcases Nat.lt_or_ge p 18816 with z5 | z5
  · exact hf_al_get 64 18752 p hf_c18_5 z4 z5
  rcases Nat.lt_or_ge p 18880 with z6 | z6
  · exact hf_al_get 64 18816 p hf_c18_6 z5 z6
  rcases Nat.lt_or_ge p 18944 with z7 | z7
  · exact hf_al_get 64 18880 p hf_c18_7 z6 z7
  rcases Nat.lt_or_ge p 19008 with z8 | z8
  · exact hf_al_get 64 18944 p hf_c18_8 z7 z8
  rcases Nat.lt_or_ge p 19072 with z9 | z9
  · exact hf_al_get 64 19008 p hf_c18_9 z8 z9
  rcases Nat.lt_or_ge p 19136 with z10 | z10
  · exact hf_al_get 64 19072 p hf_c18_10 z9 z10
  rcases Nat.lt_or_ge p 19200 with z11 | z11
  · exact hf_al_get 64 19136 p hf_c18_11 z10 z11
  rcases Nat.lt_or_ge p 19264 with z12 | z12
  · exact hf_al_get 64 19200 p hf_c18_12 z11 z12
  rcases Nat.lt_or_ge p 19328 with z13 | z13
  · exact hf_al_get 64 19264 p hf_c18_13 z12 z13
  rcases Nat.lt_or_ge p 19392 with z14 | z14
  · exact hf_al_get 64 19328 p hf_c18_14 z13 z14
  exact hf_al_get 64 19392 p hf_c18_15 z14 h2
theorem hf_c19_0 : hf_al 64 19456 = true := by decide +kernel
theorem hf_c19_1 : hf_al 64 19520 = true := by decide +kernel
theorem hf_c19_2 : hf_al 64 19584 = true := by decide +kernel
theorem hf_c19_3 : hf_al 64 19648 = true := by decide +kernel
theorem hf_c19_4 : hf_al 64 19712 = true := by decide +kernel
theorem hf_c19_5 : hf_al 64 19776 = true := by decide +kernel
theorem hf_c19_6 : hf_al 64 19840 = true := by decide +kernel
theorem hf_c19_7 : hf_al 64 19904 = true := by decide +kernel
theorem hf_c19_8 : hf_al 64 19968 = true := by decide +kernel
theorem hf_c19_9 : hf_al 64 20032 = true := by decide +kernel
theorem hf_c19_10 : hf_al 64 20096 = true := by decide +kernel
theorem hf_c19_11 : hf_al 64 20160 = true := by decide +kernel
theorem hf_c19_12 : hf_al 64 20224 = true := by decide +kernel
theorem hf_c19_13 : hf_al 64 20288 = true := by decide +kernel
theorem hf_c19_14 : hf_al 64 20352 = true := by decide +kernel
theorem hf_c19_15 : hf_al 64 20416 = true := by decide +kernel
theorem hf_c19 {p : Nat} (h : 19456 ≤ p) (h2 : p < 20480) : hf_ck p = true := by
  rcases Nat.lt_or_ge p 19520 with z0 | z0
  · exact hf_al_get 64 19456 p hf_c19_0 h z0
  rcases Nat.lt_or_ge p 19584 with z1 | z1
  · exact hf_al_get 64 19520 p hf_c19_1 z0 z1
  rcases Nat.lt_or_ge p 19648 with z2 | z2
  · exact hf_al_get 64 19584 p hf_c19_2 z1 z2
  rcases Nat.lt_or_ge p 19712 with z3 | z3
  · exact hf_al_get 64 19648 p hf_c19_3 z2 z3
  rcases Nat.lt_or_ge p 19776 with z4 | z4
  · exact hf_al_get 64 19712 p hf_c19_4 z3 z4
  rcases Nat.lt_or_ge p 19840 with z5 | z5
  · exact hf_al_get 64 19776 p hf_c19_5 z4 z5
  rcases Nat.lt_or_ge p 19904 with z6 | z6
  · exact hf_al_get 64 19840 p hf_c19_6 z5 z6
  rcases Nat.lt_or_ge p 19968 with z7 | z7
  · exact hf_al_get 64 19904 p hf_c19_7 z6 z7
  rcases Nat.lt_or_ge p 20032 with z8 | z8
  · exact hf_al_get 64 19968 p hf_c19_8 z7 z8
  rcases Nat.lt_or_ge p 20096 with z9 | z9
  · exact hf_al_get 64 20032 p hf_c19_9 z8 z9
  rcases Nat.lt_or_ge p 20160 with z10 | z10
  · exact hf_al_get 64 20096 p hf_c19_10 z9 z10
  rcases Nat.lt_or_ge p 20224 with z11 | z11
  · exact hf_al_get 64 20160 p hf_c19_11 z10 z11
  rcases Nat.lt_or_ge p 20288 with z12 | z12
  · exact hf_al_get 64 20224 p hf_c19_12 z11 z12
  rcases Nat.lt_or_ge p 20352 with z13 | z13
  · exact hf_al_get 64 20288 p hf_c19_13 z12 z13
  rcases Nat.lt_or_ge p 20416 with z14 | z14
  · exact hf_al_get 64 20352 p hf_c19_14 z13 z14
  exact hf_al_get 64 20416 p hf_c19_15 z14 h2
theorem hf_c20_0 : hf_al 64 20480 = true := by decide +kernel
theorem hf_c20_1 : hf_al 64 20544 = true := by decide +kernel
theorem hf_c20_2 : hf_al 64 20608 = true := by decide +kernel
theorem hf_c20_3 : hf_al 64 20672 = true := by decide +kernel
theorem hf_c20_4 : hf_al 64 20736 = true := by decide +kernel
theorem hf_c20_5 : hf_al 64 20800 = true := by decide +kernel
theorem hf_c20_6 : hf_al 64 20864 = true := by decide +kernel
theorem hf_c20_7 : hf_al 64 20928 = true := by decide +kernel
theorem hf_c20_8 : hf_al 64 20992 = true := by decide +kernel
theorem hf_c20_9 : hf_al 64 21056 = true := by decide +kernel
theorem hf_c20_10 : hf_al 64 21120 = true := by decide +kernel
theorem hf_c20_11 : hf_al 64 21184 = true := by decide +kernel
theorem hf_c20_12 : hf_al 64 21248 = true := by decide +kernel
theorem hf_c20_13 : hf_al 64 21312 = true := by decide +kernel
theorem hf_c20_14 : hf_al 64 21376 = true := by decide +kernel
theorem hf_c20_15 : hf_al 64 21440 = true := by decide +kernel
theorem hf_c20 {p : Nat} (h : 20480 ≤ p) (h2 : p < 21504) : hf_ck p = true := by
  rcases Nat.lt_or_ge p 20544 with z0 | z0
  · exact hf_al_get 64 20480 p hf_c20_0 h z0
  rcases Nat.lt_or_ge p 20608 with z1 | z1
  · exact hf_al_get 64 20544 p hf_c20_1 z0 z1
  rcases Nat.lt_or_ge p 20672 with z2 | z2
  · exact hf_al_get 64 20608 p hf_c20_2 z1 z2
  rcases Nat.lt_or_ge p 20736 with z3 | z3
  · exact hf_al_get 64 20672 p hf_c20_3 z2 z3
  rcases Nat.lt_or_ge p 20800 with z4 | z4
  · exact hf_al_get 64 20736 p hf_c20_4 z3 z4
  rcases Nat.lt_or_ge p 20864 with z5 | z5
  · exact hf_al_get 64 20800 p hf_c20_5 z4 z5
  rcases Nat.lt_or_ge p 20928 with z6 | z6
  · exact hf_al_get 64 20864 p hf_c20_6 z5 z6
  rcases Nat.lt_or_ge p 20992 with z7 | z7
  · exact hf_al_get 64 20928 p hf_c20_7 z6 z7
  rcases Nat.lt_or_ge p 21056 with z8 | z8
  · exact hf_al_get 64 20992 p hf_c20_8 z7 z8
  rcases Nat.lt_or_ge p 21120 with z9 | z9
  · exact hf_al_get 64 21056 p hf_c20_9 z8 z9
  rcases Nat.lt_or_ge p 21184 with z10 | z10
  · exact hf_al_get 64 21120 p hf_c20_10 z9 z10
  rcases Nat.lt_or_ge p 21248 with z11 | z11
  · exact hf_al_get 64 21184 p hf_c20_11 z10 z11
  rcases Nat.lt_or_ge p 21312 with z12 | z12
  · exact hf_al_get 64 21248 p hf_c20_12 z11 z12
  rcases Nat.lt_or_ge p 21376 with z13 | z13
  · exact hf_al_get 64 21312 p hf_c20_13 z12 z13
  rcases Nat.lt_or_ge p 21440 with z14 | z14
  · exact hf_al_get 64 21376 p hf_c20_14 z13 z14
  exact hf_al_get 64 21440 p hf_c20_15 z14 h2
theorem hf_c21_0 : hf_al 64 21504 = true := by decide +kernel
theorem hf_c21_1 : hf_al 64 21568 = true := by decide +kernel
theorem hf_c21_2 : hf_al 64 21632 = true := by decide +kernel
theorem hf_c21_3 : hf_al 64 21696 = true := by decide +kernel
theorem hf_c21_4 : hf_al 64 21760 = true := by decide +kernel
theorem hf_c21_5 : hf_al 64 21824 = true := by decide +kernel
theorem hf_c21_6 : hf_al 64 21888 = true := by decide +kernel
theorem hf_c21_7 : hf_al 64 21952 = true := by decide +kernel
theorem hf_c21_8 : hf_al 64 22016 = true := by decide +kernel
theorem hf_c21_9 : hf_al 64 22080 = true := by decide +kernel
theorem hf_c21_10 : hf_al 64 22144 = true := by decide +kernel
theorem hf_c21_11 : hf_al 64 22208 = true := by decide +kernel
theorem hf_c21_12 : hf_al 64 22272 = true := by decide +kernel
theorem hf_c21_13 : hf_al 64 22336 = true := by decide +kernel
theorem hf_c21_14 : hf_al 64 22400 = true := by decide +kernel
theorem hf_c21_15 : hf_al 64 22464 = true := by decide +kernel
theorem hf_c21 {p : Nat} (h : 21504 ≤ p) (h2 : p < 22528) : hf_ck p = true := by
  rcases Nat.lt_or_ge p 21568 with z0 | z0
  · exact hf_al_get 64 21504 p hf_c21_0 h z0
  rcases Nat.lt_or_ge p 21632 with z1 | z1
  · exact hf_al_get 64 21568 p hf_c21_1 z0 z1
  rcases Nat.lt_or_ge p 21696 with z2 | z2
  · exact hf_al_get 64 21632 p hf_c21_2 z1 z2
  rcases Nat.lt_or_ge p 21760 with z3 | z3
  · exact hf_al_get 64 21696 p hf_c21_3 z2 z3
  rcases Nat.lt_or_ge p 21824 with z4 | z4
  · exact hf_al_get 64 21760 p hf_c21_4 z3 z4
  rcases Nat.lt_or_ge p 21888 with z5 | z5
  · exact hf_al_get 64 21824 p hf_c21_5 z4 z5
  rcases Nat.lt_or_ge p 21952 with z6 | z6
  · exact hf_al_get 64 21888 p hf_c21_6 z5 z6
  rcases Nat.lt_or_ge p 22016 with z7 | z7
  · exact hf_al_get 64 21952 p hf_c21_7 z6 z7
  rcases Nat.lt_or_ge p 22080 with z8 | z8
  · exact hf_al_get 64 22016 p hf_c21_8 z7 z8
  rcases Nat.lt_or_ge p 22144 with z9 | z9
  · exact hf_al_get 64 22080 p hf_c21_9 z8 z9
  rcases Nat.lt_or_ge p 22208 with z10 | z10
  · exact hf_al_get 64 22144 p hf_c21_10 z9 z10
  rcases Nat.lt_or_ge p 22272 with z11 | z11
  · exact hf_al_get 64 22208 p hf_c21_11 z10 z11
  rcases Nat.lt_or_ge p 22336 with z12 | z12
  · exact hf_al_get 64 22272 p hf_c21_12 z11 z12
  rcases Nat.lt_or_ge p 22400 with z13 | z13
  · exact hf_al_get 64 22336 p hf_c21_13 z12 z13
  rcases Nat.lt_or_ge p 22464 with z14 | z14
  · exact hf_al_get 64 22400 p hf_c21_14 z13 z14
  exact hf_al_get 64 22464 p hf_c21_15 z14 h2
theorem hf_c22_0 : hf_al 64 22528 = true := by decide +kernel
theorem hf_c22_1 : hf_al 64 22592 = true := by decide +kernel
theorem hf_c22_2 : hf_al 64 22656 = true := by decide +kernel
theorem hf_c22_3 : hf_al 64 22720 = true := by decide +kernel
theorem hf_c22_4 : hf_al 64 22784 = true := by decide +kernel
theorem hf_c22_5 : hf_al 64 22848 = true := by decide +kernel
theorem hf_c22_6 : hf_al 64 22912 = true := by decide +kernel
theorem hf_c22_7 : hf_al 64 22976 = true := by decide +kernel
theorem hf_c22_8 : hf_al 64 23040 = true := by decide +kernel
theorem hf_c22_9 : hf_al 64 23104 = true := by decide +kernel
theorem hf_c22_10 : hf_al 64 23168 = true := by decide +kernel
theorem hf_c22_11 : hf_al 64 23232 = true := by decide +kernel
theorem hf_c22_12 : hf_al 64 23296 = true := by decide +kernel
theorem hf_c22_13 : hf_al 64 23360 = true := by decide +kernel
theorem hf_c22_14 : hf_al 64 23424 = true := by decide +kernel
theorem hf_c22_15 : hf_al 64 23488 = true := by decide +kernel
theorem hf_c22 {p : Nat} (h : 22528 ≤ p) (h2 : p < 23552) : hf_ck p = true := by
  rcases Nat.lt_or_ge p 22592 with z0 | z0
  · exact hf_al_get 64 22528 p hf_c22_0 h z0
  rcases Nat.lt_or_ge p 22656 with z1 | z1
  · exact hf_al_get 64 22592 p hf_c22_1 z0 z1
  rcases Nat.lt_or_ge p 22720 with z2 | z2
  · exact hf_al_get 64 22656 p hf_c22_2 z1 z2
  rcases Nat.lt_or_ge p 22784 with z3 | z3
  · exact hf_al_get 64 22720 p hf_c22_3 z2 z3
  rcases Nat.lt_or_ge p 22848 with z4 | z4
  · exact hf_al_get 64 22784 p hf_c22_4 z3 z4
  rcases Nat.lt_or_ge p 22912 with z5 | z5
  · exact hf_al_get 64 22848 p hf_c22_5 z4 z5
  rcases Nat.lt_or_ge p 22976 with z6 | z6
  · exact hf_al_get 64 22912 p hf_c22_6 z5 z6
  rcases Nat.lt_or_ge p 23040 with z7 | z7
  · exact hf_al_get 64 22976 p hf_c22_7 z6 z7
  rcases Nat.lt_or_ge p 23104 with z8 | z8
  · exact hf_al_get 64 23040 p hf_c22_8 z7 z8
  rcases Nat.lt_or_ge p 23168 with z9 | z9
  · exact hf_al_get 64 23104 p hf_c22_9 z8 z9
  rcases Nat.lt_or_ge p 23232 with z10 | z10
  · exact hf_al_get 64 23168 p hf_c22_10 z9 z10
  rcases Nat.lt_or_ge p 23296 with z11 | z11
  · exact hf_al_get 64 23232 p hf_c22_11 z10 z11
  rcases Nat.lt_or_ge p 23360 with z12 | z12
  · exact hf_al_get 64 23296 p hf_c22_12 z11 z12
  rcases Nat.lt_or_ge p 23424 with z13 | z13
  · exact hf_al_get 64 23360 p hf_c22_13 z12 z13
  rcases Nat.lt_or_ge p 23488 with z14 | z14
  · exact hf_al_get 64 23424 p hf_c22_14 z13 z14
  exact hf_al_get 64 23488 p hf_c22_15 z14 h2
theorem hf_c23_0 : hf_al 64 23552 = true := by decide +kernel
theorem hf_c23_1 : hf_al 64 23616 = true := by decide +kernel
theorem hf_c23_2 : hf_al 64 23680 = true := by decide +kernel
theorem hf_c23_3 : hf_al 64 23744 = true := by decide +kernel
theorem hf_c23_4 : hf_al 64 23808 = true := by decide +kernel
theorem hf_c23_5 : hf_al 64 23872 = true := by decide +kernel
theorem hf_c23_6 : hf_al 64 23936 = true := by decide +kernel
theorem hf_c23_7 : hf_al 64 24000 = true := by decide +kernel
theorem hf_c23_8 : hf_al 64 24064 = true := by decide +kernel
theorem hf_c23_9 : hf_al 64 24128 = true := by decide +kernel
theorem hf_c23_10 : hf_al 64 24192 = true := by decide +kernel
theorem hf_c23_11 : hf_al 64 24256 = true := by decide +kernel
theorem hf_c23_12 : hf_al 64 24320 = true := by decide +kernel
theorem hf_c23_13 : hf_al 64 24384 = true := by decide +kernel
theorem hf_c23_14 : hf_al 64 24448 = true := by decide +kernel
theorem hf_c23_15 : hf_al 64 24512 = true := by decide +kernel
theorem hf_c23 {p : Nat} (h : 23552 ≤ p) (h2 : p < 24576) : hf_ck p = true := by
  rcases Nat.lt_or_ge p 23616 with z0 | z0
  · exact hf_al_get 64 23552 p hf_c23_0 h z0
  rcases Nat.lt_or_ge p 23680 with z1 | z1
  · exact hf_al_get 64 23616 p hf_c23_1 z0 z1
  rcases Nat.lt_or_ge p 23744 with z2 | z2
  · exact hf_al_get 64 23680 p hf_c23_2 z1 z2
  rcases Nat.lt_or_ge p 23808 with z3 | z3
  · exact hf_al_get 64 23744 p hf_c23_3 z2 z3
  rcases Nat.lt_or_ge p 23872 with z4 | z4
  · exact hf_al_get 64 23808 p hf_c23_4 z3 z4
  rcases Nat.lt_or_ge p 23936 with z5 | z5
  · exact hf_al_get 64 23872 p hf_c23_5 z4 z5
  rcases Nat.lt_or_ge p 24000 with z6 | z6
  · exact hf_al_get 64 23936 p hf_c23_6 z5 z6
  rcases Nat.lt_or_ge p 24064 with z7 | z7
  · exact hf_al_get 64 24000 p hf_c23_7 z6 z7
  rcases Nat.lt_or_ge p 24128 with z8 | z8
  · exact hf_al_get 64 24064 p hf_c23_8 z7 z8
  rcases Nat.lt_or_ge p 24192 with z9 | z9
  · exact hf_al_get 64 24128 p hf_c23_9 z8 z9
  rcases Nat.lt_or_ge p 24256 with z10 | z10
  · exact hf_al_get 64 24192 p hf_c23_10 z9 z10
  rcases Nat.lt_or_ge p 24320 with z11 | z11
  · exact hf_al_get 64 24256 p hf_c23_11 z10 z11
  rcases Nat.lt_or_ge p 24384 with z12 | z12
  · exact hf_al_get 64 24320 p hf_c23_12 z11 z12
  rcases Nat.lt_or_ge p 24448 with z13 | z13
  · exact hf_al_get 64 24384 p hf_c23_13 z12 z13
  rcases Nat.lt_or_ge p 24512 with z14 | z14
  · exact hf_al_get 64 24448 p hf_c23_14 z13 z14
  exact hf_al_get 64 24512 p hf_c23_15 z14 h2
theorem hf_c24_0 : hf_al 64 24576 = true := by decide +kernel
theorem hf_c24_1 : hf_al 64 24640 = true := by decide +kernel
theorem hf_c24_2 : hf_al 64 24704 = true := by decide +kernel
theorem hf_c24_3 : hf_al 64 24768 = true := by decide +kernel
theorem hf_c24_4 : hf_al 64 24832 = true := by decide +kernel
theorem hf_c24_5 : hf_al 64 24896 = true := by decide +kernel
theorem hf_c24_6 : hf_al 64 24960 = true := by decide +kernel
theorem hf_c24_7 : hf_al 64 25024 = true := by decide +kernel
theorem hf_c24_8 : hf_al 64 25088 = true := by decide +kernel
theorem hf_c24_9 : hf_al 64 25152 = true := by decide +kernel
theorem hf_c24_10 : hf_al 64 25216 = true := by decide +kernel
theorem hf_c24_11 : hf_al 64 25280 = true := by decide +kernel
theorem hf_c24_12 : hf_al 64 25344 = true := by decide +kernel
theorem hf_c24_13 : hf_al 64 25408 = true := by decide +kernel
theorem hf_c24_14 : hf_al 64 25472 = true := by decide +kernel
theorem hf_c24_15 : hf_al 64 25536 = true := by decide +kernel
theorem hf_c24 {p : Nat} (h : 24576 ≤ p) (h2 : p < 25600) : hf_ck p = true := by
  rcases Nat.lt_or_ge p 24640 with z0 | z0
  · exact hf_al_get 64 24576 p hf_c24_0 h z0
  rcases Nat.lt_or_ge p 24704 with z1 | z1
  · exact hf_al_get 64 24640 p hf_c24_1 z0 z1
  rcases Nat.lt_or_ge p 24768 with z2 | z2
  · exact hf_al_get 64 24704 p hf_c24_2 z1 z2
  rcases Nat.lt_or_ge p 24832 with z3 | z3
  · exact hf_al_get 64 24768 p hf_c24_3 z2 z3
  rcases Nat.lt_or_ge p 24896 with z4 | z4
  · exact hf_al_get 64 24832 p hf_c24_4 z3 z4
  rcases Nat.lt_or_ge p 24960 with z5 | z5
  · exact hf_al_get 64 24896 p hf_c24_5 z4 z5
  rcases Nat.lt_or_ge p 25024 with z6 | z6
  · exact hf_al_get 64 24960 p hf_c24_6 z5 z6
  rcases Nat.lt_or_ge p 25088 with z7 | z7
  · exact hf_al_get 64 25024 p hf_c24_7 z6 z7
  rcases Nat.lt_or_ge p 25152 with z8 | z8
  · exact hf_al_get 64 25088 p hf_c24_8 z7 z8
  rcases Nat.lt_or_ge p 25216 with z9 | z9
  · exact hf_al_get 64 25152 p hf_c24_9 z8 z9
  rcases Nat.lt_or_ge p 25280 with z10 | z10
  · exact hf_al_get 64 25216 p hf_c24_10 z9 z10
  rcases Nat.lt_or_ge p 25344 with z11 | z11
  · exact hf_al_get 64 25280 p hf_c24_11 z10 z11
  rcases Nat.lt_or_ge p 25408 with z12 | z12
  · exact hf_al_get 64 25344 p hf_c24_12 z11 z12
  rcases Nat.lt_or_ge p 25472 with z13 | z13
  · exact hf_al_get 64 25408 p hf_c24_13 z12 z13
  rcases Nat.lt_or_ge p 25536 with z14 | z14
  · exact hf_al_get 64 25472 p hf_c24_14 z13 z14
  exact hf_al_get 64 25536 p hf_c24_15 z14 h2
theorem hf_c25_0 : hf_al 64 25600 = true := by decide +kernel
theorem hf_c25_1 : hf_al 64 25664 = true := by decide +kernel
theorem hf_c25_2 : hf_al 64 25728 = true := by decide +kernel
theorem hf_c25_3 : hf_al 64 25792 = true := by decide +kernel
theorem hf_c25_4 : hf_al 64 25856 = true := by decide +kernel
theorem hf_c25_5 : hf_al 64 25920 = true := by decide +kernel
theorem hf_c25_6 : hf_al 64 25984 = true := by decide +kernel
theorem hf_c25_7 : hf_al 64 26048 = true := by decide +kernel
theorem hf_c25_8 : hf_al 64 26112 = true := by decide +kernel
theorem hf_c25_9 : hf_al 64 26176 = true := by decide +kernel
theorem hf_c25_10 : hf_al 64 26240 = true := by decide +kernel
theorem hf_c25_11 : hf_al 64 26304 = true := by decide +kernel
theorem hf_c25_12 : hf_al 64 26368 = true := by decide +kernel
theorem hf_c25_13 : hf_al 64 26432 = true := by decide +kernel
theorem hf_c25_14 : hf_al 64 26496 = true := by decide +kernel
theorem hf_c25_15 : hf_al 64 26560 = true := by decide +kernel
theorem hf_c25 {p : Nat} (h : 25600 ≤ p) (h2 : p < 26624) : hf_ck p = true := by
  rcases Nat.lt_or_ge p 25664 with z0 | z0
  · exact hf_al_get 64 25600 p hf_c25_0 h z0
  rcases Nat.lt_or_ge p 25728 with z1 | z1
  · exact hf_al_get 64 25664 p hf_c25_1 z0 z1
  rcases Nat.lt_or_ge p 25792 with z2 | z2
  · exact hf_al_get 64 25728 p hf_c25_2 z1 z2
  rcases Nat.lt_or_ge p 25856 with z3 | z3
  · exact hf_al_get 64 25792 p hf_c25_3 z2 z3
  rcases Nat.lt_or_ge p 25920 with z4 | z4
  · exact hf_al_get 64 25856 p hf_c25_4 z3 z4
  rcases Nat.lt_or_ge p 25984 with z5 | z5
  · exact hf_al_get 64 25920 p hf_c25_5 z4 z5
  rcases Nat.lt_or_ge p 26048 with z6 | z6
  · exact hf_al_get 64 25984 p hf_c25_6 z5 z6
  rcases Nat.lt_or_ge p 26112 with z7 | z7
  · exact hf_al_get 64 26048 p hf_c25_7 z6 z7
  rcases Nat.lt_or_ge p 26176 with z8 | z8
  · exact hf_al_get 64 26112 p hf_c25_8 z7 z8
  rcases Nat.lt_or_ge p 26240 with z9 | z9
  · exact hf_al_get 64 26176 p hf_c25_9 z8 z9
  rcases Nat.lt_or_ge p 26304 with z10 | z10
  · exact hf_al_get 64 26240 p hf_c25_10 z9 z10
  rcases Nat.lt_or_ge p 26368 with z11 | z11
  · exact hf_al_get 64 26304 p hf_c25_11 z10 z11
  rcases Nat.lt_or_ge p 26432 with z12 | z12
  · exact hf_al_get 64 26368 p hf_c25_12 z11 z12
  rcases Nat.lt_or_ge p 26496 with z13 | z13
  · exact hf_al_get 64 26432 p hf_c25_13 z12 z13
  rcases Nat.lt_or_ge p 26560 with z14 | z14
  · exact hf_al_get 64 26496 p hf_c25_14 z13 z14
  exact hf_al_get 64 26560 p hf_c25_15 z14 h2
theorem hf_c26_0 : hf_al 64 26624 = true := by decide +kernel
theorem hf_c26_1 : hf_al 64 26688 = true := by decide +kernel
theorem hf_c26_2 : hf_al 64 26752 = true := by decide +kernel
theorem hf_c26_3 : hf_al 64 26816 = true := by decide +kernel
theorem hf_c26_4 : hf_al 64 26880 = true := by decide +kernel
theorem hf_c26_5 : hf_al 64 26944 = true := by decide +kernel
theorem hf_c26_6 : hf_al 64 27008 = true := by decide +kernel
theorem hf_c26_7 : hf_al 64 27072 = true := by decide +kernel
theorem hf_c26_8 : hf_al 64 27136 = true := by decide +kernel
theorem hf_c26_9 : hf_al 64 27200 = true := by decide +kernel
theorem hf_c26_10 : hf_al 64 27264 = true := by decide +kernel
theorem hf_c26_11 : hf_al 64 27328 = true := by decide +kernel
theorem hf_c26_12 : hf_al 64 27392 = true := by decide +kernel
theorem hf_c26_13 : hf_al 64 27456 = true := by decide +kernel
theorem hf_c26_14 : hf_al 64 27520 = true := by decide +kernel
theorem hf_c26_15 : hf_al 64 27584 = true := by decide +kernel
theorem hf_c26 {p : Nat} (h : 26624 ≤ p) (h2 : p < 27648) : hf_ck p = true := by
  rcases Nat.lt_or_ge p 26688 with z0 | z0
  · exact hf_al_get 64 26624 p hf_c26_0 h z0
  rcases Nat.lt_or_ge p 26752 with z1 | z1
  · exact hf_al_get 64 26688 p hf_c26_1 z0 z1
  rcases Nat.lt_or_ge p 26816 with z2 | z2
  · exact hf_al_get 64 26752 p hf_c26_2 z1 z2
  rcases Nat.lt_or_ge p 26880 with z3 | z3
  · exact hf_al_get 64 26816 p hf_c26_3 z2 z3
  rcases Nat.lt_or_ge p 26944 with z4 | z4
  · exact hf_al_get 64 26880 p hf_c26_4 z3 z4
  rcases Nat.lt_or_ge p 27008 with z5 | z5
  · exact hf_al_get 64 26944 p hf_c26_5 z4 z5
  rcases Nat.lt_or_ge p 27072 with z6 | z6
  · exact hf_al_get 64 27008 p hf_c26_6 z5 z6
  rcases Nat.lt_or_ge p 27136 with z7 | z7
  · exact hf_al_get 64 27072 p hf_c26_7 z6 z7
  rcases Nat.lt_or_ge p 27200 with z8 | z8
  · exact hf_al_get 64 27136 p hf_c26_8 z7 z8
  rcases Nat.lt_or_ge p 27264 with z9 | z9
  · exact hf_al_get 64 27200 p hf_c26_9 z8 z9
  rcases Nat.lt_or_ge p 27328 with z10 | z10
  · exact hf_al_get 64 27264 p hf_c26_10 z9 z10
  rcases Nat.lt_or_ge p 27392 with z11 | z11
  · exact hf_al_get 64 27328 p hf_c26_11 z10 z11
  rcases Nat.lt_or_ge p 27456 with z12 | z12
  · exact hf_al_get 64 27392 p hf_c26_12 z11 z12
  rcases Nat.lt_or_ge p 27520 with z13 | z13
  · exact hf_al_get 64 27456 p hf_c26_13 z12 z13
  rcases Nat.lt_or_ge p 27584 with z14 | z14
  · exact hf_al_get 64 27520 p hf_c26_14 z13 z14
  exact hf_al_get 64 27584 p hf_c26_15 z14 h2
theorem hf_c27_0 : hf_al 64 27648 = true := by decide +kernel
theorem hf_c27_1 : hf_al 64 27712 = true := by decide +kernel
theorem hf_c27_2 : hf_al 64 27776 = true := by decide +kernel
theorem hf_c27_3 : hf_al 64 27840 = true := by decide +kernel
theorem hf_c27_4 : hf_al 64 27904 = true := by decide +kernel
theorem hf_c27_5 : hf_al 64 27968 = true := by decide +kernel
theorem hf_c27_6 : hf_al 64 28032 = true := by decide +kernel
theorem hf_c27_7 : hf_al 64 28096 = true := by decide +kernel
theorem hf_c27_8 : hf_al 64 28160 = true := by decide +kernel
theorem hf_c27_9 : hf_al 64 28224 = true := by decide +kernel
theorem hf_c27_10 : hf_al 64 28288 = true := by decide +kernel
theorem hf_c27_11 : hf_al 64 28352 = true := by decide +kernel
theorem hf_c27_12 : hf_al 64 28416 = true := by decide +kernel
theorem hf_c27_13 : hf_al 64 28480 = true := by decide +kernel
theorem hf_c27_14 : hf_al 64 28544 = true := by decide +kernel
theorem hf_c27_15 : hf_al 64 28608 = true := by decide +kernel
theorem hf_c27 {p : Nat} (h : 27648 ≤ p) (h2 : p < 28672) : hf_ck p = true := by
  rcases Nat.lt_or_ge p 27712 with z0 | z0
  · exact hf_al_get 64 27648 p hf_c27_0 h z0
  rcases Nat.lt_or_ge p 27776 with z1 | z1
  · exact hf_al_get 64 27712 p hf_c27_1 z0 z1
  rcases Nat.lt_or_ge p 27840 with z2 | z2
  · exact hf_al_get 64 27776 p hf_c27_2 z1 z2
  rcases Nat.lt_or_ge p 27904 with z3 | z3
  · exact hf_al_get 64 27840 p hf_c27_3 z2 z3
  rcases Nat.lt_or_ge p 27968 with z4 | z4
  · exact hf_al_get 64 27904 p hf_c27_4 z3 z4
  rcases Nat.lt_or_ge p 28032 with z5 | z5
  · exact hf_al_get 64 27968 p hf_c27_5 z4 z5
  rcases Nat.lt_or_ge p 28096 with z6 | z6
  · exact hf_al_get 64 28032 p hf_c27_6 z5 z6
  rcases Nat.lt_or_ge p 28160 with z7 | z7
  · exact hf_al_get 64 28096 p hf_c27_7 z6 z7
  rcases Nat.lt_or_ge p 28224 with z8 | z8
  · exact hf_al_get 64 28160 p hf_c27_8 z7 z8
  rcases Nat.lt_or_ge p 28288 with z9 | z9
  · exact hf_al_get 64 28224 p hf_c27_9 z8 z9
  rcases Nat.lt_or_ge p 28352 with z10 | z10
  · exact hf_al_get 64 28288 p hf_c27_10 z9 z10
  rcases Nat.lt_or_ge p 28416 with z11 | z11
  · exact hf_al_get 64 28352 p hf_c27_11 z10 z11
  rcases Nat.lt_or_ge p 28480 with z12 | z12
  · exact hf_al_get 64 28416 p hf_c27_12 z11 z12
  rcases Nat.lt_or_ge p 28544 with z13 | z13
  · exact hf_al_get 64 28480 p hf_c27_13 z12 z13
  rcases Nat.lt_or_ge p 28608 with z14 | z14
  · exact hf_al_get 64 28544 p hf_c27_14 z13 z14
  exact hf_al_get 64 28608 p hf_c27_15 z14 h2
theorem hf_c28_0 : hf_al 64 28672 = true := by decide +kernel
theorem hf_c28_1 : hf_al 64 28736 = true := by decide +kernel
theorem hf_c28_2 : hf_al 64 28800 = true := by decide +kernel
theorem hf_c28_3 : hf_al 64 28864 = true := by decide +kernel
theorem hf_c28_4 : hf_al 64 28928 = true := by decide +kernel
theorem hf_c28_5 : hf_al 64 28992 = true := by decide +kernel
theorem hf_c28_6 : hf_al 64 29056 = true := by decide +kernel
theorem hf_c28_7 : hf_al 64 29120 = true := by decide +kernel
theorem hf_c28_8 : hf_al 64 29184 = true := by decide +kernel
theorem hf_c28_9 : hf_al 64 29248 = true := by decide +kernel
theorem hf_c28_10 : hf_al 64 29312 = true := by decide +kernel
theorem hf_c28_11 : hf_al 64 29376 = true := by decide +kernel
theorem hf_c28_12 : hf_al 64 29440 = true := by decide +kernel
theorem hf_c28_13 : hf_al 64 29504 = true := by decide +kernel
theorem hf_c28_14 : hf_al 64 29568 = true := by decide +kernel
theorem hf_c28_15 : hf_al 64 29632 = true := by decide +kernel
theorem hf_c28 {p : Nat} (h : 28672 ≤ p) (h2 : p < 29696) : hf_ck p = true := by
  rcases Nat.lt_or_ge p 28736 with z0 | z0
  · exact hf_al_get 64 28672 p hf_c28_0 h z0
  rcases Nat.lt_or_ge p 28800 with z1 | z1
  · exact hf_al_get 64 28736 p hf_c28_1 z0 z1
  rcases Nat.lt_or_ge p 28864 with z2 | z2
  · exact hf_al_get 64 28800 p hf_c28_2 z1 z2
  rcases Nat.lt_or_ge p 28928 with z3 | z3
  · exact hf_al_get 64 28864 p hf_c28_3 z2 z3
  rcases Nat.lt_or_ge p 28992 with z4 | z4
  · exact hf_al_get 64 28928 p hf_c28_4 z3 z4
  rcases Nat.lt_or_ge p 29056 with z5 | z5
  · exact hf_al_get 64 28992 p hf_c28_5 z4 z5
  rcases Nat.lt_or_ge p 29120 with z6 | z6
  · exact hf_al_get 64 29056 p hf_c28_6 z5 z6
  rcases Nat.lt_or_ge p 29184 with z7 | z7
  · exact hf_al_get 64 29120 p hf_c28_7 z6 z7
  rcases Nat.lt_or_ge p 29248 with z8 | z8
  · exact hf_al_get 64 29184 p hf_c28_8 z7 z8
  rcases Nat.lt_or_ge p 29312 with z9 | z9
  · exact hf_al_get 64 29248 p hf_c28_9 z8 z9
  rcases Nat.lt_or_ge p 29376 with z10 | z10
  · exact hf_al_get 64 29312 p hf_c28_10 z9 z10
  rcases Nat.lt_or_ge p 29440 with z11 | z11
  · exact hf_al_get 64 29376 p hf_c28_11 z10 z11
  rcases Nat.lt_or_ge p 29504 with z12 | z12
  · exact hf_al_get 64 29440 p hf_c28_12 z11 z12
  rcases Nat.lt_or_ge p 29568 with z13 | z13
  · exact hf_al_get 64 29504 p hf_c28_13 z12 z13
  rcases Nat.lt_or_ge p 29632 with z14 | z14
  · exact hf_al_get 64 29568 p hf_c28_14 z13 z14
  exact hf_al_get 64 29632 p hf_c28_15 z14 h2
theorem hf_c29_0 : hf_al 64 29696 = true := by decide +kernel
theorem hf_c29_1 : hf_al 64 29760 = true := by decide +kernel
theorem hf_c29_2 : hf_al 64 29824 = true := by decide +kernel
theorem hf_c29_3 : hf_al 64 29888 = true := by decide +kernel
theorem hf_c29_4 : hf_al 64 29952 = true := by decide +kernel
theorem hf_c29_5 : hf_al 64 30016 = true := by decide +kernel
theorem hf_c29_6 : hf_al 64 30080 = true := by decide +kernel
theorem hf_c29_7 : hf_al 64 30144 = true := by decide +kernel
theorem hf_c29_8 : hf_al 64 30208 = true := by decide +kernel
theorem hf_c29_9 : hf_al 64 30272 = true := by decide +kernel
theorem hf_c29_10 : hf_al 64 30336 = true := by decide +kernel
theorem hf_c29_11 : hf_al 64 30400 = true := by decide +kernel
theorem hf_c29_12 : hf_al 64 30464 = true := by decide +kernel
theorem hf_c29_13 : hf_al 64 30528 = true := by decide +kernel
theorem hf_c29_14 : hf_al 64 30592 = true := by decide +kernel
theorem hf_c29_15 : hf_al 64 30656 = true := by decide +kernel
theorem hf_c29 {p : Nat} (h : 29696 ≤ p) (h2 : p < 30720) : hf_ck p = true := by
  rcases Nat.lt_or_ge p 29760 with z0 | z0
  · exact hf_al_get 64 29696 p hf_c29_0 h z0
  rcases Nat.lt_or_ge p 29824 with z1 | z1
  · exact hf_al_get 64 29760 p hf_c29_1 z0 z1
  rcases Nat.lt_or_ge p 29888 with z2 | z2
  · exact hf_al_get 64 29824 p hf_c29_2 z1 z2
  rcases Nat.lt_or_ge p 29952 with z3 | z3
  · exact hf_al_get 64 29888 p hf_c29_3 z2 z3
  rcases Nat.lt_or_ge p 30016 with z4 | z4
  · exact hf_al_get 64 29952 p hf_c29_4 z3 z4
  rcases Nat.lt_or_ge p 30080 with z5 | z5
  · exact hf_al_get 64 30016 p hf_c29_5 z4 z5
  rcases Nat.lt_or_ge p 30144 with z6 | z6
  · exact hf_al_get 64 30080 p hf_c29_6 z5 z6
  rcases Nat.lt_or_ge p 30208 with z7 | z7
  · exact hf_al_get 64 30144 p hf_c29_7 z6 z7
  rcases Nat.lt_or_ge p 30272 with z8 | z8
  · exact hf_al_get 64 30208 p hf_c29_8 z7 z8
  rcases Nat.lt_or_ge p 30336 with z9 | z9
  · exact hf_al_get 64 30272 p hf_c29_9 z8 z9
  rcases Nat.lt_or_ge p 30400 with z10 | z10
  · exact hf_al_get 64 30336 p hf_c29_10 z9 z10
  rcases Nat.lt_or_ge p 30464 with z11 | z11
  · exact hf_al_get 64 30400 p hf_c29_11 z10 z11
  rcases Nat.lt_or_ge p 30528 with z12 | z12
  · exact hf_al_get 64 30464 p hf_c29_12 z11 z12
  rcases Nat.lt_or_ge p 30592 with z13 | z13
  · exact hf_al_get 64 30528 p hf_c29_13 z12 z13
  rcases Nat.lt_or_ge p 30656 with z14 | z14
  · exact hf_al_get 64 30592 p hf_c29_14 z13 z14
  exact hf_al_get 64 30656 p hf_c29_15 z14 h2
theorem hf_c30_0 : hf_al 64 30720 = true := by decide +kernel
theorem hf_c30_1 : hf_al 64 30784 = true := by decide +kernel
theorem hf_c30_2 : hf_al 64 30848 = true := by decide +kernel
theorem hf_c30_3 : hf_al 64 30912 = true := by decide +kernel
theorem hf_c30_4 : hf_al 64 30976 = true := by decide +kernel
theorem hf_c30_5 : hf_al 64 31040 = true := by decide +kernel
theorem hf_c30_6 : hf_al 64 31104 = true := by decide +kernel
theorem hf_c30_7 : hf_al 64 31168 = true := by decide +kernel
theorem hf_c30_8 : hf_al 64 31232 = true := by decide +kernel
theorem hf_c30_9 : hf_al 64 31296 = true := by decide +kernel
theorem hf_c30_10 : hf_al 64 31360 = true := by decide +kernel
theorem hf_c30_11 : hf_al 64 31424 = true := by decide +kernel
theorem hf_c30_12 : hf_al 64 31488 = true := by decide +kernel
theorem hf_c30_13 : hf_al 64 31552 = true := by decide +kernel
theorem hf_c30_14 : hf_al 64 31616 = true := by decide +kernel
theorem hf_c30_15 : hf_al 64 31680 = true := by decide +kernel
theorem hf_c30 {p : Nat} (h : 30720 ≤ p) (h2 : p < 31744) : hf_ck p = true := by
  rcases Nat.lt_or_ge p 30784 with z0 | z0
  · exact hf_al_get 64 30720 p hf_c30_0 h z0
  rcases Nat.lt_or_ge p 30848 with z1 | z1
  · exact hf_al_get 64 30784 p hf_c30_1 z0 z1
  rcases Nat.lt_or_ge p 30912 with z2 | z2
  · exact hf_al_get 64 30848 p hf_c30_2 z1 z2
  rcases Nat.lt_or_ge p 30976 with z3 | z3
  · exact hf_al_get 64 30912 p hf_c30_3 z2 z3
  rcases Nat.lt_or_ge p 31040 with z4 | z4
  · exact hf_al_get 64 30976 p hf_c30_4 z3 z4
  rcases Nat.lt_or_ge p 31104 with z5 | z5
  · exact hf_al_get 64 31040 p hf_c30_5 z4 z5
  rcases Nat.lt_or_ge p 31168 with z6 | z6
  · exact hf_al_get 64 31104 p hf_c30_6 z5 z6
  rcases Nat.lt_or_ge p 31232 with z7 | z7
  · exact hf_al_get 64 31168 p hf_c30_7 z6 z7
  rcases Nat.lt_or_ge p 31296 with z8 | z8
  · exact hf_al_get 64 31232 p hf_c30_8 z7 z8
  rcases Nat.lt_or_ge p 31360 with z9 | z9
  · exact hf_al_get 64 31296 p hf_c30_9 z8 z9
  rcases Nat.lt_or_ge p 31424 with z10 | z10
  · exact hf_al_get 64 31360 p hf_c30_10 z9 z10
  rcases Nat.lt_or_ge p 31488 with z11 | z11
  · exact hf_al_get 64 31424 p hf_c30_11 z10 z11
  rcases Nat.lt_or_ge p 31552 with z12 | z12
  · exact hf_al_get 64 31488 p hf_c30_12 z11 z12
  rcases Nat.lt_or_ge p 31616 with z13 | z13
  · exact hf_al_get 64 31552 p hf_c30_13 z12 z13
  rcases Nat.lt_or_ge p 31680 with z14 | z14
  · exact hf_al_get 64 31616 p hf_c30_14 z13 z14
  exact hf_al_get 64 31680 p hf_c30_15 z14 h2
theorem hf_ck_all {p : Nat} (h : p < 31744) : hf_ck p = true := by
  rcases Nat.lt_or_ge p 1024 with z0 | z0
  · exact hf_c0 (Nat.zero_le p) z0
  rcases Nat.lt_or_ge p 2048 with z1 | z1
  · exact hf_c1 z0 z1
  rcases Nat.lt_or_ge p 3072 with z2 | z2
  · exact hf_c2 z1 z2
  rcases Nat.lt_or_ge p 4096 with z3 | z3
  · exact hf_c3 z2 z3
  rcases Nat.lt_or_ge p 5120 with z4 | z4
  · exact hf_c4 z3 z4
  rcases Nat.lt_or_ge p 6144 with z5 | z5
  · exact hf_c5 z4 z5
  rcases Nat.lt_or_ge p 7168 with z6 | z6
  · exact hf_c6 z5 z6
  rcases Nat.lt_or_ge p 8192 with z7 | z7
  · exact hf_c7 z6 z7
  rcases Nat.lt_or_ge p 9216 with z8 | z8
  · exact hf_c8 z7 z8
  rcases Nat.lt_or_ge p 10240 with z9 | z9
  · exact hf_c9 z8 z9
  rcases Nat.lt_or_ge p 11264 with z10 | z10
  · exact hf_c10 z9 z10
  rcases Nat.lt_or_ge p 12288 with z11 | z11
  · exact hf_c11 z10 z11
  rcases Nat.lt_or_ge p 13312 with z12 | z12
  · exact hf_c12 z11 z12
  rcases Nat.lt_or_ge p 14336 with z13 | z13
  · exact hf_c13 z12 z13
  rcases Nat.lt_or_ge p 15360 with z14 | z14
  · exact hf_c14 z13 z14
  rcases Nat.lt_or_ge p 16384 with z15 | z15
  · exact hf_c15 z14 z15
  rcases Nat.lt_or_ge p 17408 with z16 | z16
  · exact hf_c16 z15 z16
  rcases Nat.lt_or_ge p 18432 with z17 | z17
  · exact hf_c17 z16 z17
  rcases Nat.lt_or_ge p 19456 with z18 | z18
  · exact hf_c18 z17 z18
  rcases Nat.lt_or_ge p 20480 with z19 | z19
  · exact hf_c19 z18 z19
  rcases Nat.lt_or_ge p 21504 with z20 | z20
  · exact hf_c20 z19 z20
  rcases Nat.lt_or_ge p 22528 with z21 | z21
  · exact hf_c21 z20 z21
  rcases Nat.lt_or_ge p 23552 with z22 | z22
  · exact hf_c22 z21 z22
  rcases Nat.lt_or_ge p 24576 with z23 | z23
  · exact hf_c23 z22 z23
  rcases Nat.lt_or_ge p 25600 with z24 | z24
  · exact hf_c24 z23 z24
  rcases Nat.lt_or_ge p 26624 with z25 | z25
  · exact hf_c25 z24 z25
  rcases Nat.lt_or_ge p 27648 with z26 | z26
  · exact hf_c26 z25 z26
  rcases Nat.lt_or_ge p 28672 with z27 | z27
  · exact hf_c27 z26 z27
  rcases Nat.lt_or_ge p 29696 with z28 | z28
  · exact hf_c28 z27 z28
  rcases Nat.lt_or_ge p 30720 with z29 | z29
  · exact hf_c29 z28 z29
  exact hf_c30 z29 h
