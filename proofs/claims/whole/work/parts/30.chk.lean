/-! the two writings are one, pattern by pattern, reckoned by the kernel -/
theorem hf_c0_0 : hg_al 32 0 = true := by decide +kernel
theorem hf_c0_1 : hg_al 32 32 = true := by decide +kernel
theorem hf_c0_2 : hg_al 32 64 = true := by decide +kernel
theorem hf_c0_3 : hg_al 32 96 = true := by decide +kernel
theorem hf_c0_4 : hg_al 32 128 = true := by decide +kernel
theorem hf_c0_5 : hg_al 32 160 = true := by decide +kernel
theorem hf_c0_6 : hg_al 32 192 = true := by decide +kernel
theorem hf_c0_7 : hg_al 32 224 = true := by decide +kernel
theorem hf_c0_8 : hg_al 32 256 = true := by decide +kernel
theorem hf_c0_9 : hg_al 32 288 = true := by decide +kernel
theorem hf_c0_10 : hg_al 32 320 = true := by decide +kernel
theorem hf_c0_11 : hg_al 32 352 = true := by decide +kernel
theorem hf_c0_12 : hg_al 32 384 = true := by decide +kernel
theorem hf_c0_13 : hg_al 32 416 = true := by decide +kernel
theorem hf_c0_14 : hg_al 32 448 = true := by decide +kernel
theorem hf_c0_15 : hg_al 32 480 = true := by decide +kernel
theorem hf_c0_16 : hg_al 32 512 = true := by decide +kernel
theorem hf_c0_17 : hg_al 32 544 = true := by decide +kernel
theorem hf_c0_18 : hg_al 32 576 = true := by decide +kernel
theorem hf_c0_19 : hg_al 32 608 = true := by decide +kernel
theorem hf_c0_20 : hg_al 32 640 = true := by decide +kernel
theorem hf_c0_21 : hg_al 32 672 = true := by decide +kernel
theorem hf_c0_22 : hg_al 32 704 = true := by decide +kernel
theorem hf_c0_23 : hg_al 32 736 = true := by decide +kernel
theorem hf_c0_24 : hg_al 32 768 = true := by decide +kernel
theorem hf_c0_25 : hg_al 32 800 = true := by decide +kernel
theorem hf_c0_26 : hg_al 32 832 = true := by decide +kernel
theorem hf_c0_27 : hg_al 32 864 = true := by decide +kernel
theorem hf_c0_28 : hg_al 32 896 = true := by decide +kernel
theorem hf_c0_29 : hg_al 32 928 = true := by decide +kernel
theorem hf_c0_30 : hg_al 32 960 = true := by decide +kernel
theorem hf_c0_31 : hg_al 32 992 = true := by decide +kernel
theorem hf_c0 {p : Nat} (h : 0 ≤ p) (h2 : p < 1024) (h3 : p < 31744) : hf_ck p = true := by
  rcases Nat.lt_or_ge p 32 with z0 | z0
  · exact hg_al_get 32 0 p hf_c0_0 h z0 h3
  rcases Nat.lt_or_ge p 64 with z1 | z1
  · exact hg_al_get 32 32 p hf_c0_1 z0 z1 h3
  rcases Nat.lt_or_ge p 96 with z2 | z2
  · exact hg_al_get 32 64 p hf_c0_2 z1 z2 h3
  rcases Nat.lt_or_ge p 128 with z3 | z3
  · exact hg_al_get 32 96 p hf_c0_3 z2 z3 h3
  rcases Nat.lt_or_ge p 160 with z4 | z4
  · exact hg_al_get 32 128 p hf_c0_4 z3 z4 h3
  rcases Nat.lt_or_ge p 192 with z5 | z5
  · exact hg_al_get 32 160 p hf_c0_5 z4 z5 h3
  rcases Nat.lt_or_ge p 224 with z6 | z6
  · exact hg_al_get 32 192 p hf_c0_6 z5 z6 h3
  rcases Nat.lt_or_ge p 256 with z7 | z7
  · exact hg_al_get 32 224 p hf_c0_7 z6 z7 h3
  rcases Nat.lt_or_ge p 288 with z8 | z8
  · exact hg_al_get 32 256 p hf_c0_8 z7 z8 h3
  rcases Nat.lt_or_ge p 320 with z9 | z9
  · exact hg_al_get 32 288 p hf_c0_9 z8 z9 h3
  rcases Nat.lt_or_ge p 352 with z10 | z10
  · exact hg_al_get 32 320 p hf_c0_10 z9 z10 h3
  rcases Nat.lt_or_ge p 384 with z11 | z11
  · exact hg_al_get 32 352 p hf_c0_11 z10 z11 h3
  rcases Nat.lt_or_ge p 416 with z12 | z12
  · exact hg_al_get 32 384 p hf_c0_12 z11 z12 h3
  rcases Nat.lt_or_ge p 448 with z13 | z13
  · exact hg_al_get 32 416 p hf_c0_13 z12 z13 h3
  rcases Nat.lt_or_ge p 480 with z14 | z14
  · exact hg_al_get 32 448 p hf_c0_14 z13 z14 h3
  rcases Nat.lt_or_ge p 512 with z15 | z15
  · exact hg_al_get 32 480 p hf_c0_15 z14 z15 h3
  rcases Nat.lt_or_ge p 544 with z16 | z16
  · exact hg_al_get 32 512 p hf_c0_16 z15 z16 h3
  rcases Nat.lt_or_ge p 576 with z17 | z17
  · exact hg_al_get 32 544 p hf_c0_17 z16 z17 h3
  rcases Nat.lt_or_ge p 608 with z18 | z18
  · exact hg_al_get 32 576 p hf_c0_18 z17 z18 h3
  rcases Nat.lt_or_ge p 640 with z19 | z19
  · exact hg_al_get 32 608 p hf_c0_19 z18 z19 h3
  rcases Nat.lt_or_ge p 672 with z20 | z20
  · exact hg_al_get 32 640 p hf_c0_20 z19 z20 h3
  rcases Nat.lt_or_ge p 704 with z21 | z21
  · exact hg_al_get 32 672 p hf_c0_21 z20 z21 h3
  rcases Nat.lt_or_ge p 736 with z22 | z22
  · exact hg_al_get 32 704 p hf_c0_22 z21 z22 h3
  rcases Nat.lt_or_ge p 768 with z23 | z23
  · exact hg_al_get 32 736 p hf_c0_23 z22 z23 h3
  rcases Nat.lt_or_ge p 800 with z24 | z24
  · exact hg_al_get 32 768 p hf_c0_24 z23 z24 h3
  rcases Nat.lt_or_ge p 832 with z25 | z25
  · exact hg_al_get 32 800 p hf_c0_25 z24 z25 h3
  rcases Nat.lt_or_ge p 864 with z26 | z26
  · exact hg_al_get 32 832 p hf_c0_26 z25 z26 h3
  rcases Nat.lt_or_ge p 896 with z27 | z27
  · exact hg_al_get 32 864 p hf_c0_27 z26 z27 h3
  rcases Nat.lt_or_ge p 928 with z28 | z28
  · exact hg_al_get 32 896 p hf_c0_28 z27 z28 h3
  rcases Nat.lt_or_ge p 960 with z29 | z29
  · exact hg_al_get 32 928 p hf_c0_29 z28 z29 h3
  rcases Nat.lt_or_ge p 992 with z30 | z30
  · exact hg_al_get 32 960 p hf_c0_30 z29 z30 h3
  exact hg_al_get 32 992 p hf_c0_31 z30 h2 h3
theorem hf_c1_0 : hg_al 32 1024 = true := by decide +kernel
theorem hf_c1_1 : hg_al 32 1056 = true := by decide +kernel
theorem hf_c1_2 : hg_al 32 1088 = true := by decide +kernel
theorem hf_c1_3 : hg_al 32 1120 = true := by decide +kernel
theorem hf_c1_4 : hg_al 32 1152 = true := by decide +kernel
theorem hf_c1_5 : hg_al 32 1184 = true := by decide +kernel
theorem hf_c1_6 : hg_al 32 1216 = true := by decide +kernel
theorem hf_c1_7 : hg_al 32 1248 = true := by decide +kernel
theorem hf_c1_8 : hg_al 32 1280 = true := by decide +kernel
theorem hf_c1_9 : hg_al 32 1312 = true := by decide +kernel
theorem hf_c1_10 : hg_al 32 1344 = true := by decide +kernel
theorem hf_c1_11 : hg_al 32 1376 = true := by decide +kernel
theorem hf_c1_12 : hg_al 32 1408 = true := by decide +kernel
theorem hf_c1_13 : hg_al 32 1440 = true := by decide +kernel
theorem hf_c1_14 : hg_al 32 1472 = true := by decide +kernel
theorem hf_c1_15 : hg_al 32 1504 = true := by decide +kernel
theorem hf_c1_16 : hg_al 32 1536 = true := by decide +kernel
theorem hf_c1_17 : hg_al 32 1568 = true := by decide +kernel
theorem hf_c1_18 : hg_al 32 1600 = true := by decide +kernel
theorem hf_c1_19 : hg_al 32 1632 = true := by decide +kernel
theorem hf_c1_20 : hg_al 32 1664 = true := by decide +kernel
theorem hf_c1_21 : hg_al 32 1696 = true := by decide +kernel
theorem hf_c1_22 : hg_al 32 1728 = true := by decide +kernel
theorem hf_c1_23 : hg_al 32 1760 = true := by decide +kernel
theorem hf_c1_24 : hg_al 32 1792 = true := by decide +kernel
theorem hf_c1_25 : hg_al 32 1824 = true := by decide +kernel
theorem hf_c1_26 : hg_al 32 1856 = true := by decide +kernel
theorem hf_c1_27 : hg_al 32 1888 = true := by decide +kernel
theorem hf_c1_28 : hg_al 32 1920 = true := by decide +kernel
theorem hf_c1_29 : hg_al 32 1952 = true := by decide +kernel
theorem hf_c1_30 : hg_al 32 1984 = true := by decide +kernel
theorem hf_c1_31 : hg_al 32 2016 = true := by decide +kernel
theorem hf_c1 {p : Nat} (h : 1024 ≤ p) (h2 : p < 2048) (h3 : p < 31744) : hf_ck p = true := by
  rcases Nat.lt_or_ge p 1056 with z0 | z0
  · exact hg_al_get 32 1024 p hf_c1_0 h z0 h3
  rcases Nat.lt_or_ge p 1088 with z1 | z1
  · exact hg_al_get 32 1056 p hf_c1_1 z0 z1 h3
  rcases Nat.lt_or_ge p 1120 with z2 | z2
  · exact hg_al_get 32 1088 p hf_c1_2 z1 z2 h3
  rcases Nat.lt_or_ge p 1152 with z3 | z3
  · exact hg_al_get 32 1120 p hf_c1_3 z2 z3 h3
  rcases Nat.lt_or_ge p 1184 with z4 | z4
  · exact hg_al_get 32 1152 p hf_c1_4 z3 z4 h3
  rcases Nat.lt_or_ge p 1216 with z5 | z5
  · exact hg_al_get 32 1184 p hf_c1_5 z4 z5 h3
  rcases Nat.lt_or_ge p 1248 with z6 | z6
  · exact hg_al_get 32 1216 p hf_c1_6 z5 z6 h3
  rcases Nat.lt_or_ge p 1280 with z7 | z7
  · exact hg_al_get 32 1248 p hf_c1_7 z6 z7 h3
  rcases Nat.lt_or_ge p 1312 with z8 | z8
  · exact hg_al_get 32 1280 p hf_c1_8 z7 z8 h3
  rcases Nat.lt_or_ge p 1344 with z9 | z9
  · exact hg_al_get 32 1312 p hf_c1_9 z8 z9 h3
  rcases Nat.lt_or_ge p 1376 with z10 | z10
  · exact hg_al_get 32 1344 p hf_c1_10 z9 z10 h3
  rcases Nat.lt_or_ge p 1408 with z11 | z11
  · exact hg_al_get 32 1376 p hf_c1_11 z10 z11 h3
  rcases Nat.lt_or_ge p 1440 with z12 | z12
  · exact hg_al_get 32 1408 p hf_c1_12 z11 z12 h3
  rcases Nat.lt_or_ge p 1472 with z13 | z13
  · exact hg_al_get 32 1440 p hf_c1_13 z12 z13 h3
  rcases Nat.lt_or_ge p 1504 with z14 | z14
  · exact hg_al_get 32 1472 p hf_c1_14 z13 z14 h3
  rcases Nat.lt_or_ge p 1536 with z15 | z15
  · exact hg_al_get 32 1504 p hf_c1_15 z14 z15 h3
  rcases Nat.lt_or_ge p 1568 with z16 | z16
  · exact hg_al_get 32 1536 p hf_c1_16 z15 z16 h3
  rcases Nat.lt_or_ge p 1600 with z17 | z17
  · exact hg_al_get 32 1568 p hf_c1_17 z16 z17 h3
  rcases Nat.lt_or_ge p 1632 with z18 | z18
  · exact hg_al_get 32 1600 p hf_c1_18 z17 z18 h3
  rcases Nat.lt_or_ge p 1664 with z19 | z19
  · exact hg_al_get 32 1632 p hf_c1_19 z18 z19 h3
  rcases Nat.lt_or_ge p 1696 with z20 | z20
  · exact hg_al_get 32 1664 p hf_c1_20 z19 z20 h3
  rcases Nat.lt_or_ge p 1728 with z21 | z21
  · exact hg_al_get 32 1696 p hf_c1_21 z20 z21 h3
  rcases Nat.lt_or_ge p 1760 with z22 | z22
  · exact hg_al_get 32 1728 p hf_c1_22 z21 z22 h3
  rcases Nat.lt_or_ge p 1792 with z23 | z23
  · exact hg_al_get 32 1760 p hf_c1_23 z22 z23 h3
  rcases Nat.lt_or_ge p 1824 with z24 | z24
  · exact hg_al_get 32 1792 p hf_c1_24 z23 z24 h3
  rcases Nat.lt_or_ge p 1856 with z25 | z25
  · exact hg_al_get 32 1824 p hf_c1_25 z24 z25 h3
  rcases Nat.lt_or_ge p 1888 with z26 | z26
  · exact hg_al_get 32 1856 p hf_c1_26 z25 z26 h3
  rcases Nat.lt_or_ge p 1920 with z27 | z27
  · exact hg_al_get 32 1888 p hf_c1_27 z26 z27 h3
  rcases Nat.lt_or_ge p 1952 with z28 | z28
  · exact hg_al_get 32 1920 p hf_c1_28 z27 z28 h3
  rcases Nat.lt_or_ge p 1984 with z29 | z29
  · exact hg_al_get 32 1952 p hf_c1_29 z28 z29 h3
  rcases Nat.lt_or_ge p 2016 with z30 | z30
  · exact hg_al_get 32 1984 p hf_c1_30 z29 z30 h3
  exact hg_al_get 32 2016 p hf_c1_31 z30 h2 h3
theorem hf_c2_0 : hg_al 32 2048 = true := by decide +kernel
theorem hf_c2_1 : hg_al 32 2080 = true := by decide +kernel
theorem hf_c2_2 : hg_al 32 2112 = true := by decide +kernel
theorem hf_c2_3 : hg_al 32 2144 = true := by decide +kernel
theorem hf_c2_4 : hg_al 32 2176 = true := by decide +kernel
theorem hf_c2_5 : hg_al 32 2208 = true := by decide +kernel
theorem hf_c2_6 : hg_al 32 2240 = true := by decide +kernel
theorem hf_c2_7 : hg_al 32 2272 = true := by decide +kernel
theorem hf_c2_8 : hg_al 32 2304 = true := by decide +kernel
theorem hf_c2_9 : hg_al 32 2336 = true := by decide +kernel
theorem hf_c2_10 : hg_al 32 2368 = true := by decide +kernel
theorem hf_c2_11 : hg_al 32 2400 = true := by decide +kernel
theorem hf_c2_12 : hg_al 32 2432 = true := by decide +kernel
theorem hf_c2_13 : hg_al 32 2464 = true := by decide +kernel
theorem hf_c2_14 : hg_al 32 2496 = true := by decide +kernel
theorem hf_c2_15 : hg_al 32 2528 = true := by decide +kernel
theorem hf_c2_16 : hg_al 32 2560 = true := by decide +kernel
theorem hf_c2_17 : hg_al 32 2592 = true := by decide +kernel
theorem hf_c2_18 : hg_al 32 2624 = true := by decide +kernel
theorem hf_c2_19 : hg_al 32 2656 = true := by decide +kernel
theorem hf_c2_20 : hg_al 32 2688 = true := by decide +kernel
theorem hf_c2_21 : hg_al 32 2720 = true := by decide +kernel
theorem hf_c2_22 : hg_al 32 2752 = true := by decide +kernel
theorem hf_c2_23 : hg_al 32 2784 = true := by decide +kernel
theorem hf_c2_24 : hg_al 32 2816 = true := by decide +kernel
theorem hf_c2_25 : hg_al 32 2848 = true := by decide +kernel
theorem hf_c2_26 : hg_al 32 2880 = true := by decide +kernel
theorem hf_c2_27 : hg_al 32 2912 = true := by decide +kernel
theorem hf_c2_28 : hg_al 32 2944 = true := by decide +kernel
theorem hf_c2_29 : hg_al 32 2976 = true := by decide +kernel
theorem hf_c2_30 : hg_al 32 3008 = true := by decide +kernel
theorem hf_c2_31 : hg_al 32 3040 = true := by decide +kernel
theorem hf_c2 {p : Nat} (h : 2048 ≤ p) (h2 : p < 3072) (h3 : p < 31744) : hf_ck p = true := by
  rcases Nat.lt_or_ge p 2080 with z0 | z0
  · exact hg_al_get 32 2048 p hf_c2_0 h z0 h3
  rcases Nat.lt_or_ge p 2112 with z1 | z1
  · exact hg_al_get 32 2080 p hf_c2_1 z0 z1 h3
  rcases Nat.lt_or_ge p 2144 with z2 | z2
  · exact hg_al_get 32 2112 p hf_c2_2 z1 z2 h3
  rcases Nat.lt_or_ge p 2176 with z3 | z3
  · exact hg_al_get 32 2144 p hf_c2_3 z2 z3 h3
  rcases Nat.lt_or_ge p 2208 with z4 | z4
  · exact hg_al_get 32 2176 p hf_c2_4 z3 z4 h3
  rcases Nat.lt_or_ge p 2240 with z5 | z5
  · exact hg_al_get 32 2208 p hf_c2_5 z4 z5 h3
  rcases Nat.lt_or_ge p 2272 with z6 | z6
  · exact hg_al_get 32 2240 p hf_c2_6 z5 z6 h3
  rcases Nat.lt_or_ge p 2304 with z7 | z7
  · exact hg_al_get 32 2272 p hf_c2_7 z6 z7 h3
  rcases Nat.lt_or_ge p 2336 with z8 | z8
  · exact hg_al_get 32 2304 p hf_c2_8 z7 z8 h3
  rcases Nat.lt_or_ge p 2368 with z9 | z9
  · exact hg_al_get 32 2336 p hf_c2_9 z8 z9 h3
  rcases Nat.lt_or_ge p 2400 with z10 | z10
  · exact hg_al_get 32 2368 p hf_c2_10 z9 z10 h3
  rcases Nat.lt_or_ge p 2432 with z11 | z11
  · exact hg_al_get 32 2400 p hf_c2_11 z10 z11 h3
  rcases Nat.lt_or_ge p 2464 with z12 | z12
  · exact hg_al_get 32 2432 p hf_c2_12 z11 z12 h3
  rcases Nat.lt_or_ge p 2496 with z13 | z13
  · exact hg_al_get 32 2464 p hf_c2_13 z12 z13 h3
  rcases Nat.lt_or_ge p 2528 with z14 | z14
  · exact hg_al_get 32 2496 p hf_c2_14 z13 z14 h3
  rcases Nat.lt_or_ge p 2560 with z15 | z15
  · exact hg_al_get 32 2528 p hf_c2_15 z14 z15 h3
  rcases Nat.lt_or_ge p 2592 with z16 | z16
  · exact hg_al_get 32 2560 p hf_c2_16 z15 z16 h3
  rcases Nat.lt_or_ge p 2624 with z17 | z17
  · exact hg_al_get 32 2592 p hf_c2_17 z16 z17 h3
  rcases Nat.lt_or_ge p 2656 with z18 | z18
  · exact hg_al_get 32 2624 p hf_c2_18 z17 z18 h3
  rcases Nat.lt_or_ge p 2688 with z19 | z19
  · exact hg_al_get 32 2656 p hf_c2_19 z18 z19 h3
  rcases Nat.lt_or_ge p 2720 with z20 | z20
  · exact hg_al_get 32 2688 p hf_c2_20 z19 z20 h3
  rcases Nat.lt_or_ge p 2752 with z21 | z21
  · exact hg_al_get 32 2720 p hf_c2_21 z20 z21 h3
  rcases Nat.lt_or_ge p 2784 with z22 | z22
  · exact hg_al_get 32 2752 p hf_c2_22 z21 z22 h3
  rcases Nat.lt_or_ge p 2816 with z23 | z23
  · exact hg_al_get 32 2784 p hf_c2_23 z22 z23 h3
  rcases Nat.lt_or_ge p 2848 with z24 | z24
  · exact hg_al_get 32 2816 p hf_c2_24 z23 z24 h3
  rcases Nat.lt_or_ge p 2880 with z25 | z25
  · exact hg_al_get 32 2848 p hf_c2_25 z24 z25 h3
  rcases Nat.lt_or_ge p 2912 with z26 | z26
  · exact hg_al_get 32 2880 p hf_c2_26 z25 z26 h3
  rcases Nat.lt_or_ge p 2944 with z27 | z27
  · exact hg_al_get 32 2912 p hf_c2_27 z26 z27 h3
  rcases Nat.lt_or_ge p 2976 with z28 | z28
  · exact hg_al_get 32 2944 p hf_c2_28 z27 z28 h3
  rcases Nat.lt_or_ge p 3008 with z29 | z29
  · exact hg_al_get 32 2976 p hf_c2_29 z28 z29 h3
  rcases Nat.lt_or_ge p 3040 with z30 | z30
  · exact hg_al_get 32 3008 p hf_c2_30 z29 z30 h3
  exact hg_al_get 32 3040 p hf_c2_31 z30 h2 h3
theorem hf_c3_0 : hg_al 32 3072 = true := by decide +kernel
theorem hf_c3_1 : hg_al 32 3104 = true := by decide +kernel
theorem hf_c3_2 : hg_al 32 3136 = true := by decide +kernel
theorem hf_c3_3 : hg_al 32 3168 = true := by decide +kernel
theorem hf_c3_4 : hg_al 32 3200 = true := by decide +kernel
theorem hf_c3_5 : hg_al 32 3232 = true := by decide +kernel
theorem hf_c3_6 : hg_al 32 3264 = true := by decide +kernel
theorem hf_c3_7 : hg_al 32 3296 = true := by decide +kernel
theorem hf_c3_8 : hg_al 32 3328 = true := by decide +kernel
theorem hf_c3_9 : hg_al 32 3360 = true := by decide +kernel
theorem hf_c3_10 : hg_al 32 3392 = true := by decide +kernel
theorem hf_c3_11 : hg_al 32 3424 = true := by decide +kernel
theorem hf_c3_12 : hg_al 32 3456 = true := by decide +kernel
theorem hf_c3_13 : hg_al 32 3488 = true := by decide +kernel
theorem hf_c3_14 : hg_al 32 3520 = true := by decide +kernel
theorem hf_c3_15 : hg_al 32 3552 = true := by decide +kernel
theorem hf_c3_16 : hg_al 32 3584 = true := by decide +kernel
theorem hf_c3_17 : hg_al 32 3616 = true := by decide +kernel
theorem hf_c3_18 : hg_al 32 3648 = true := by decide +kernel
theorem hf_c3_19 : hg_al 32 3680 = true := by decide +kernel
theorem hf_c3_20 : hg_al 32 3712 = true := by decide +kernel
theorem hf_c3_21 : hg_al 32 3744 = true := by decide +kernel
theorem hf_c3_22 : hg_al 32 3776 = true := by decide +kernel
theorem hf_c3_23 : hg_al 32 3808 = true := by decide +kernel
theorem hf_c3_24 : hg_al 32 3840 = true := by decide +kernel
theorem hf_c3_25 : hg_al 32 3872 = true := by decide +kernel
theorem hf_c3_26 : hg_al 32 3904 = true := by decide +kernel
theorem hf_c3_27 : hg_al 32 3936 = true := by decide +kernel
theorem hf_c3_28 : hg_al 32 3968 = true := by decide +kernel
theorem hf_c3_29 : hg_al 32 4000 = true := by decide +kernel
theorem hf_c3_30 : hg_al 32 4032 = true := by decide +kernel
theorem hf_c3_31 : hg_al 32 4064 = true := by decide +kernel
theorem hf_c3 {p : Nat} (h : 3072 ≤ p) (h2 : p < 4096) (h3 : p < 31744) : hf_ck p = true := by
  rcases Nat.lt_or_ge p 3104 with z0 | z0
  · exact hg_al_get 32 3072 p hf_c3_0 h z0 h3
  rcases Nat.lt_or_ge p 3136 with z1 | z1
  · exact hg_al_get 32 3104 p hf_c3_1 z0 z1 h3
  rcases Nat.lt_or_ge p 3168 with z2 | z2
  · exact hg_al_get 32 3136 p hf_c3_2 z1 z2 h3
  rcases Nat.lt_or_ge p 3200 with z3 | z3
  · exact hg_al_get 32 3168 p hf_c3_3 z2 z3 h3
  rcases Nat.lt_or_ge p 3232 with z4 | z4
  · exact hg_al_get 32 3200 p hf_c3_4 z3 z4 h3
  rcases Nat.lt_or_ge p 3264 with z5 | z5
  · exact hg_al_get 32 3232 p hf_c3_5 z4 z5 h3
  rcases Nat.lt_or_ge p 3296 with z6 | z6
  · exact hg_al_get 32 3264 p hf_c3_6 z5 z6 h3
  rcases Nat.lt_or_ge p 3328 with z7 | z7
  · exact hg_al_get 32 3296 p hf_c3_7 z6 z7 h3
  rcases Nat.lt_or_ge p 3360 with z8 | z8
  · exact hg_al_get 32 3328 p hf_c3_8 z7 z8 h3
  rcases Nat.lt_or_ge p 3392 with z9 | z9
  · exact hg_al_get 32 3360 p hf_c3_9 z8 z9 h3
  rcases Nat.lt_or_ge p 3424 with z10 | z10
  · exact hg_al_get 32 3392 p hf_c3_10 z9 z10 h3
  rcases Nat.lt_or_ge p 3456 with z11 | z11
  · exact hg_al_get 32 3424 p hf_c3_11 z10 z11 h3
  rcases Nat.lt_or_ge p 3488 with z12 | z12
  · exact hg_al_get 32 3456 p hf_c3_12 z11 z12 h3
  rcases Nat.lt_or_ge p 3520 with z13 | z13
  · exact hg_al_get 32 3488 p hf_c3_13 z12 z13 h3
  rcases Nat.lt_or_ge p 3552 with z14 | z14
  · exact hg_al_get 32 3520 p hf_c3_14 z13 z14 h3
  rcases Nat.lt_or_ge p 3584 with z15 | z15
  · exact hg_al_get 32 3552 p hf_c3_15 z14 z15 h3
  rcases Nat.lt_or_ge p 3616 with z16 | z16
  · exact hg_al_get 32 3584 p hf_c3_16 z15 z16 h3
  rcases Nat.lt_or_ge p 3648 with z17 | z17
  · exact hg_al_get 32 3616 p hf_c3_17 z16 z17 h3
  rcases Nat.lt_or_ge p 3680 with z18 | z18
  · exact hg_al_get 32 3648 p hf_c3_18 z17 z18 h3
  rcases Nat.lt_or_ge p 3712 with z19 | z19
  · exact hg_al_get 32 3680 p hf_c3_19 z18 z19 h3
  rcases Nat.lt_or_ge p 3744 with z20 | z20
  · exact hg_al_get 32 3712 p hf_c3_20 z19 z20 h3
  rcases Nat.lt_or_ge p 3776 with z21 | z21
  · exact hg_al_get 32 3744 p hf_c3_21 z20 z21 h3
  rcases Nat.lt_or_ge p 3808 with z22 | z22
  · exact hg_al_get 32 3776 p hf_c3_22 z21 z22 h3
  rcases Nat.lt_or_ge p 3840 with z23 | z23
  · exact hg_al_get 32 3808 p hf_c3_23 z22 z23 h3
  rcases Nat.lt_or_ge p 3872 with z24 | z24
  · exact hg_al_get 32 3840 p hf_c3_24 z23 z24 h3
  rcases Nat.lt_or_ge p 3904 with z25 | z25
  · exact hg_al_get 32 3872 p hf_c3_25 z24 z25 h3
  rcases Nat.lt_or_ge p 3936 with z26 | z26
  · exact hg_al_get 32 3904 p hf_c3_26 z25 z26 h3
  rcases Nat.lt_or_ge p 3968 with z27 | z27
  · exact hg_al_get 32 3936 p hf_c3_27 z26 z27 h3
  rcases Nat.lt_or_ge p 4000 with z28 | z28
  · exact hg_al_get 32 3968 p hf_c3_28 z27 z28 h3
  rcases Nat.lt_or_ge p 4032 with z29 | z29
  · exact hg_al_get 32 4000 p hf_c3_29 z28 z29 h3
  rcases Nat.lt_or_ge p 4064 with z30 | z30
  · exact hg_al_get 32 4032 p hf_c3_30 z29 z30 h3
  exact hg_al_get 32 4064 p hf_c3_31 z30 h2 h3
theorem hf_c4_0 : hg_al 32 4096 = true := by decide +kernel
theorem hf_c4_1 : hg_al 32 4128 = true := by decide +kernel
theorem hf_c4_2 : hg_al 32 4160 = true := by decide +kernel
theorem hf_c4_3 : hg_al 32 4192 = true := by decide +kernel
theorem hf_c4_4 : hg_al 32 4224 = true := by decide +kernel
theorem hf_c4_5 : hg_al 32 4256 = true := by decide +kernel
theorem hf_c4_6 : hg_al 32 4288 = true := by decide +kernel
theorem hf_c4_7 : hg_al 32 4320 = true := by decide +kernel
theorem hf_c4_8 : hg_al 32 4352 = true := by decide +kernel
theorem hf_c4_9 : hg_al 32 4384 = true := by decide +kernel
theorem hf_c4_10 : hg_al 32 4416 = true := by decide +kernel
theorem hf_c4_11 : hg_al 32 4448 = true := by decide +kernel
theorem hf_c4_12 : hg_al 32 4480 = true := by decide +kernel
theorem hf_c4_13 : hg_al 32 4512 = true := by decide +kernel
theorem hf_c4_14 : hg_al 32 4544 = true := by decide +kernel
theorem hf_c4_15 : hg_al 32 4576 = true := by decide +kernel
theorem hf_c4_16 : hg_al 32 4608 = true := by decide +kernel
theorem hf_c4_17 : hg_al 32 4640 = true := by decide +kernel
theorem hf_c4_18 : hg_al 32 4672 = true := by decide +kernel
theorem hf_c4_19 : hg_al 32 4704 = true := by decide +kernel
theorem hf_c4_20 : hg_al 32 4736 = true := by decide +kernel
theorem hf_c4_21 : hg_al 32 4768 = true := by decide +kernel
theorem hf_c4_22 : hg_al 32 4800 = true := by decide +kernel
theorem hf_c4_23 : hg_al 32 4832 = true := by decide +kernel
theorem hf_c4_24 : hg_al 32 4864 = true := by decide +kernel
theorem hf_c4_25 : hg_al 32 4896 = true := by decide +kernel
theorem hf_c4_26 : hg_al 32 4928 = true := by decide +kernel
theorem hf_c4_27 : hg_al 32 4960 = true := by decide +kernel
theorem hf_c4_28 : hg_al 32 4992 = true := by decide +kernel
theorem hf_c4_29 : hg_al 32 5024 = true := by decide +kernel
theorem hf_c4_30 : hg_al 32 5056 = true := by decide +kernel
theorem hf_c4_31 : hg_al 32 5088 = true := by decide +kernel
theorem hf_c4 {p : Nat} (h : 4096 ≤ p) (h2 : p < 5120) (h3 : p < 31744) : hf_ck p = true := by
  rcases Nat.lt_or_ge p 4128 with z0 | z0
  · exact hg_al_get 32 4096 p hf_c4_0 h z0 h3
  rcases Nat.lt_or_ge p 4160 with z1 | z1
  · exact hg_al_get 32 4128 p hf_c4_1 z0 z1 h3
  rcases Nat.lt_or_ge p 4192 with z2 | z2
  · exact hg_al_get 32 4160 p hf_c4_2 z1 z2 h3
  rcases Nat.lt_or_ge p 4224 with z3 | z3
  · exact hg_al_get 32 4192 p hf_c4_3 z2 z3 h3
  rcases Nat.lt_or_ge p 4256 with z4 | z4
  · exact hg_al_get 32 4224 p hf_c4_4 z3 z4 h3
  rcases Nat.lt_or_ge p 4288 with z5 | z5
  · exact hg_al_get 32 4256 p hf_c4_5 z4 z5 h3
  rcases Nat.lt_or_ge p 4320 with z6 | z6
  · exact hg_al_get 32 4288 p hf_c4_6 z5 z6 h3
  rcases Nat.lt_or_ge p 4352 with z7 | z7
  · exact hg_al_get 32 4320 p hf_c4_7 z6 z7 h3
  rcases Nat.lt_or_ge p 4384 with z8 | z8
  · exact hg_al_get 32 4352 p hf_c4_8 z7 z8 h3
  rcases Nat.lt_or_ge p 4416 with z9 | z9
  · exact hg_al_get 32 4384 p hf_c4_9 z8 z9 h3
  rcases Nat.lt_or_ge p 4448 with z10 | z10
  · exact hg_al_get 32 4416 p hf_c4_10 z9 z10 h3
  rcases Nat.lt_or_ge p 4480 with z11 | z11
  · exact hg_al_get 32 4448 p hf_c4_11 z10 z11 h3
  rcases Nat.lt_or_ge p 4512 with z12 | z12
  · exact hg_al_get 32 4480 p hf_c4_12 z11 z12 h3
  rcases Nat.lt_or_ge p 4544 with z13 | z13
  · exact hg_al_get 32 4512 p hf_c4_13 z12 z13 h3
  rcases Nat.lt_or_ge p 4576 with z14 | z14
  · exact hg_al_get 32 4544 p hf_c4_14 z13 z14 h3
  rcases Nat.lt_or_ge p 4608 with z15 | z15
  · exact hg_al_get 32 4576 p hf_c4_15 z14 z15 h3
  rcases Nat.lt_or_ge p 4640 with z16 | z16
  · exact hg_al_get 32 4608 p hf_c4_16 z15 z16 h3
  rcases Nat.lt_or_ge p 4672 with z17 | z17
  · exact hg_al_get 32 4640 p hf_c4_17 z16 z17 h3
  rcases Nat.lt_or_ge p 4704 with z18 | z18
  · exact hg_al_get 32 4672 p hf_c4_18 z17 z18 h3
  rcases Nat.lt_or_ge p 4736 with z19 | z19
  · exact hg_al_get 32 4704 p hf_c4_19 z18 z19 h3
  rcases Nat.lt_or_ge p 4768 with z20 | z20
  · exact hg_al_get 32 4736 p hf_c4_20 z19 z20 h3
  rcases Nat.lt_or_ge p 4800 with z21 | z21
  · exact hg_al_get 32 4768 p hf_c4_21 z20 z21 h3
  rcases Nat.lt_or_ge p 4832 with z22 | z22
  · exact hg_al_get 32 4800 p hf_c4_22 z21 z22 h3
  rcases Nat.lt_or_ge p 4864 with z23 | z23
  · exact hg_al_get 32 4832 p hf_c4_23 z22 z23 h3
  rcases Nat.lt_or_ge p 4896 with z24 | z24
  · exact hg_al_get 32 4864 p hf_c4_24 z23 z24 h3
  rcases Nat.lt_or_ge p 4928 with z25 | z25
  · exact hg_al_get 32 4896 p hf_c4_25 z24 z25 h3
  rcases Nat.lt_or_ge p 4960 with z26 | z26
  · exact hg_al_get 32 4928 p hf_c4_26 z25 z26 h3
  rcases Nat.lt_or_ge p 4992 with z27 | z27
  · exact hg_al_get 32 4960 p hf_c4_27 z26 z27 h3
  rcases Nat.lt_or_ge p 5024 with z28 | z28
  · exact hg_al_get 32 4992 p hf_c4_28 z27 z28 h3
  rcases Nat.lt_or_ge p 5056 with z29 | z29
  · exact hg_al_get 32 5024 p hf_c4_29 z28 z29 h3
  rcases Nat.lt_or_ge p 5088 with z30 | z30
  · exact hg_al_get 32 5056 p hf_c4_30 z29 z30 h3
  exact hg_al_get 32 5088 p hf_c4_31 z30 h2 h3
theorem hf_c5_0 : hg_al 32 5120 = true := by decide +kernel
theorem hf_c5_1 : hg_al 32 5152 = true := by decide +kernel
theorem hf_c5_2 : hg_al 32 5184 = true := by decide +kernel
theorem hf_c5_3 : hg_al 32 5216 = true := by decide +kernel
theorem hf_c5_4 : hg_al 32 5248 = true := by decide +kernel
theorem hf_c5_5 : hg_al 32 5280 = true := by decide +kernel
theorem hf_c5_6 : hg_al 32 5312 = true := by decide +kernel
theorem hf_c5_7 : hg_al 32 5344 = true := by decide +kernel
theorem hf_c5_8 : hg_al 32 5376 = true := by decide +kernel
theorem hf_c5_9 : hg_al 32 5408 = true := by decide +kernel
theorem hf_c5_10 : hg_al 32 5440 = true := by decide +kernel
theorem hf_c5_11 : hg_al 32 5472 = true := by decide +kernel
theorem hf_c5_12 : hg_al 32 5504 = true := by decide +kernel
theorem hf_c5_13 : hg_al 32 5536 = true := by decide +kernel
theorem hf_c5_14 : hg_al 32 5568 = true := by decide +kernel
theorem hf_c5_15 : hg_al 32 5600 = true := by decide +kernel
theorem hf_c5_16 : hg_al 32 5632 = true := by decide +kernel
theorem hf_c5_17 : hg_al 32 5664 = true := by decide +kernel
theorem hf_c5_18 : hg_al 32 5696 = true := by decide +kernel
theorem hf_c5_19 : hg_al 32 5728 = true := by decide +kernel
theorem hf_c5_20 : hg_al 32 5760 = true := by decide +kernel
theorem hf_c5_21 : hg_al 32 5792 = true := by decide +kernel
theorem hf_c5_22 : hg_al 32 5824 = true := by decide +kernel
theorem hf_c5_23 : hg_al 32 5856 = true := by decide +kernel
theorem hf_c5_24 : hg_al 32 5888 = true := by decide +kernel
theorem hf_c5_25 : hg_al 32 5920 = true := by decide +kernel
theorem hf_c5_26 : hg_al 32 5952 = true := by decide +kernel
theorem hf_c5_27 : hg_al 32 5984 = true := by decide +kernel
theorem hf_c5_28 : hg_al 32 6016 = true := by decide +kernel
theorem hf_c5_29 : hg_al 32 6048 = true := by decide +kernel
theorem hf_c5_30 : hg_al 32 6080 = true := by decide +kernel
theorem hf_c5_31 : hg_al 32 6112 = true := by decide +kernel
theorem hf_c5 {p : Nat} (h : 5120 ≤ p) (h2 : p < 6144) (h3 : p < 31744) : hf_ck p = true := by
  rcases Nat.lt_or_ge p 5152 with z0 | z0
  · exact hg_al_get 32 5120 p hf_c5_0 h z0 h3
  rcases Nat.lt_or_ge p 5184 with z1 | z1
  · exact hg_al_get 32 5152 p hf_c5_1 z0 z1 h3
  rcases Nat.lt_or_ge p 5216 with z2 | z2
  · exact hg_al_get 32 5184 p hf_c5_2 z1 z2 h3
  rcases Nat.lt_or_ge p 5248 with z3 | z3
  · exact hg_al_get 32 5216 p hf_c5_3 z2 z3 h3
  rcases Nat.lt_or_ge p 5280 with z4 | z4
  · exact hg_al_get 32 5248 p hf_c5_4 z3 z4 h3
  rcases Nat.lt_or_ge p 5312 with z5 | z5
  · exact hg_al_get 32 5280 p hf_c5_5 z4 z5 h3
  rcases Nat.lt_or_ge p 5344 with z6 | z6
  · exact hg_al_get 32 5312 p hf_c5_6 z5 z6 h3
  rcases Nat.lt_or_ge p 5376 with z7 | z7
  · exact hg_al_get 32 5344 p hf_c5_7 z6 z7 h3
  rcases Nat.lt_or_ge p 5408 with z8 | z8
  · exact hg_al_get 32 5376 p hf_c5_8 z7 z8 h3
  rcases Nat.lt_or_ge p 5440 with z9 | z9
  · exact hg_al_get 32 5408 p hf_c5_9 z8 z9 h3
  rcases Nat.lt_or_ge p 5472 with z10 | z10
  · exact hg_al_get 32 5440 p hf_c5_10 z9 z10 h3
  rcases Nat.lt_or_ge p 5504 with z11 | z11
  · exact hg_al_get 32 5472 p hf_c5_11 z10 z11 h3
  rcases Nat.lt_or_ge p 5536 with z12 | z12
  · exact hg_al_get 32 5504 p hf_c5_12 z11 z12 h3
  rcases Nat.lt_or_ge p 5568 with z13 | z13
  · exact hg_al_get 32 5536 p hf_c5_13 z12 z13 h3
  rcases Nat.lt_or_ge p 5600 with z14 | z14
  · exact hg_al_get 32 5568 p hf_c5_14 z13 z14 h3
  rcases Nat.lt_or_ge p 5632 with z15 | z15
  · exact hg_al_get 32 5600 p hf_c5_15 z14 z15 h3
  rcases Nat.lt_or_ge p 5664 with z16 | z16
  · exact hg_al_get 32 5632 p hf_c5_16 z15 z16 h3
  rcases Nat.lt_or_ge p 5696 with z17 | z17
  · exact hg_al_get 32 5664 p hf_c5_17 z16 z17 h3
  rcases Nat.lt_or_ge p 5728 with z18 | z18
  · exact hg_al_get 32 5696 p hf_c5_18 z17 z18 h3
  rcases Nat.lt_or_ge p 5760 with z19 | z19
  · exact hg_al_get 32 5728 p hf_c5_19 z18 z19 h3
  rcases Nat.lt_or_ge p 5792 with z20 | z20
  · exact hg_al_get 32 5760 p hf_c5_20 z19 z20 h3
  rcases Nat.lt_or_ge p 5824 with z21 | z21
  · exact hg_al_get 32 5792 p hf_c5_21 z20 z21 h3
  rcases Nat.lt_or_ge p 5856 with z22 | z22
  · exact hg_al_get 32 5824 p hf_c5_22 z21 z22 h3
  rcases Nat.lt_or_ge p 5888 with z23 | z23
  · exact hg_al_get 32 5856 p hf_c5_23 z22 z23 h3
  rcases Nat.lt_or_ge p 5920 with z24 | z24
  · exact hg_al_get 32 5888 p hf_c5_24 z23 z24 h3
  rcases Nat.lt_or_ge p 5952 with z25 | z25
  · exact hg_al_get 32 5920 p hf_c5_25 z24 z25 h3
  rcases Nat.lt_or_ge p 5984 with z26 | z26
  · exact hg_al_get 32 5952 p hf_c5_26 z25 z26 h3
  rcases Nat.lt_or_ge p 6016 with z27 | z27
  · exact hg_al_get 32 5984 p hf_c5_27 z26 z27 h3
  rcases Nat.lt_or_ge p 6048 with z28 | z28
  · exact hg_al_get 32 6016 p hf_c5_28 z27 z28 h3
  rcases Nat.lt_or_ge p 6080 with z29 | z29
  · exact hg_al_get 32 6048 p hf_c5_29 z28 z29 h3
  rcases Nat.lt_or_ge p 6112 with z30 | z30
  · exact hg_al_get 32 6080 p hf_c5_30 z29 z30 h3
  exact hg_al_get 32 6112 p hf_c5_31 z30 h2 h3
theorem hf_c6_0 : hg_al 32 6144 = true := by decide +kernel
theorem hf_c6_1 : hg_al 32 6176 = true := by decide +kernel
theorem hf_c6_2 : hg_al 32 6208 = true := by decide +kernel
theorem hf_c6_3 : hg_al 32 6240 = true := by decide +kernel
theorem hf_c6_4 : hg_al 32 6272 = true := by decide +kernel
theorem hf_c6_5 : hg_al 32 6304 = true := by decide +kernel
theorem hf_c6_6 : hg_al 32 6336 = true := by decide +kernel
theorem hf_c6_7 : hg_al 32 6368 = true := by decide +kernel
theorem hf_c6_8 : hg_al 32 6400 = true := by decide +kernel
theorem hf_c6_9 : hg_al 32 6432 = true := by decide +kernel
theorem hf_c6_10 : hg_al 32 6464 = true := by decide +kernel
theorem hf_c6_11 : hg_al 32 6496 = true := by decide +kernel
theorem hf_c6_12 : hg_al 32 6528 = true := by decide +kernel
theorem hf_c6_13 : hg_al 32 6560 = true := by decide +kernel
theorem hf_c6_14 : hg_al 32 6592 = true := by decide +kernel
theorem hf_c6_15 : hg_al 32 6624 = true := by decide +kernel
theorem hf_c6_16 : hg_al 32 6656 = true := by decide +kernel
theorem hf_c6_17 : hg_al 32 6688 = true := by decide +kernel
theorem hf_c6_18 : hg_al 32 6720 = true := by decide +kernel
theorem hf_c6_19 : hg_al 32 6752 = true := by decide +kernel
theorem hf_c6_20 : hg_al 32 6784 = true := by decide +kernel
theorem hf_c6_21 : hg_al 32 6816 = true := by decide +kernel
theorem hf_c6_22 : hg_al 32 6848 = true := by decide +kernel
theorem hf_c6_23 : hg_al 32 6880 = true := by decide +kernel
theorem hf_c6_24 : hg_al 32 6912 = true := by decide +kernel
theorem hf_c6_25 : hg_al 32 6944 = true := by decide +kernel
theorem hf_c6_26 : hg_al 32 6976 = true := by decide +kernel
theorem hf_c6_27 : hg_al 32 7008 = true := by decide +kernel
theorem hf_c6_28 : hg_al 32 7040 = true := by decide +kernel
theorem hf_c6_29 : hg_al 32 7072 = true := by decide +kernel
theorem hf_c6_30 : hg_al 32 7104 = true := by decide +kernel
theorem hf_c6_31 : hg_al 32 7136 = true := by decide +kernel
theorem hf_c6 {p : Nat} (h : 6144 ≤ p) (h2 : p < 7168) (h3 : p < 31744) : hf_ck p = true := by
  rcases Nat.lt_or_ge p 6176 with z0 | z0
  · exact hg_al_get 32 6144 p hf_c6_0 h z0 h3
  rcases Nat.lt_or_ge p 6208 with z1 | z1
  · exact hg_al_get 32 6176 p hf_c6_1 z0 z1 h3
  rcases Nat.lt_or_ge p 6240 with z2 | z2
  · exact hg_al_get 32 6208 p hf_c6_2 z1 z2 h3
  rcases Nat.lt_or_ge p 6272 with z3 | z3
  · exact hg_al_get 32 6240 p hf_c6_3 z2 z3 h3
  rcases Nat.lt_or_ge p 6304 with z4 | z4
  · exact hg_al_get 32 6272 p hf_c6_4 z3 z4 h3
  rcases Nat.lt_or_ge p 6336 with z5 | z5
  · exact hg_al_get 32 6304 p hf_c6_5 z4 z5 h3
  rcases Nat.lt_or_ge p 6368 with z6 | z6
  · exact hg_al_get 32 6336 p hf_c6_6 z5 z6 h3
  rcases Nat.lt_or_ge p 6400 with z7 | z7
  · exact hg_al_get 32 6368 p hf_c6_7 z6 z7 h3
  rcases Nat.lt_or_ge p 6432 with z8 | z8
  · exact hg_al_get 32 6400 p hf_c6_8 z7 z8 h3
  rcases Nat.lt_or_ge p 6464 with z9 | z9
  · exact hg_al_get 32 6432 p hf_c6_9 z8 z9 h3
  rcases Nat.lt_or_ge p 6496 with z10 | z10
  · exact hg_al_get 32 6464 p hf_c6_10 z9 z10 h3
  rcases Nat.lt_or_ge p 6528 with z11 | z11
  · exact hg_al_get 32 6496 p hf_c6_11 z10 z11 h3
  rcases Nat.lt_or_ge p 6560 with z12 | z12
  · exact hg_al_get 32 6528 p hf_c6_12 z11 z12 h3
  rcases Nat.lt_or_ge p 6592 with z13 | z13
  · exact hg_al_get 32 6560 p hf_c6_13 z12 z13 h3
  rcases Nat.lt_or_ge p 6624 with z14 | z14
  · exact hg_al_get 32 6592 p hf_c6_14 z13 z14 h3
  rcases Nat.lt_or_ge p 6656 with z15 | z15
  · exact hg_al_get 32 6624 p hf_c6_15 z14 z15 h3
  rcases Nat.lt_or_ge p 6688 with z16 | z16
  · exact hg_al_get 32 6656 p hf_c6_16 z15 z16 h3
  rcases Nat.lt_or_ge p 6720 with z17 | z17
  · exact hg_al_get 32 6688 p hf_c6_17 z16 z17 h3
  rcases Nat.lt_or_ge p 6752 with z18 | z18
  · exact hg_al_get 32 6720 p hf_c6_18 z17 z18 h3
  rcases Nat.lt_or_ge p 6784 with z19 | z19
  · exact hg_al_get 32 6752 p hf_c6_19 z18 z19 h3
  rcases Nat.lt_or_ge p 6816 with z20 | z20
  · exact hg_al_get 32 6784 p hf_c6_20 z19 z20 h3
  rcases Nat.lt_or_ge p 6848 with z21 | z21
  · exact hg_al_get 32 6816 p hf_c6_21 z20 z21 h3
  rcases Nat.lt_or_ge p 6880 with z22 | z22
  · exact hg_al_get 32 6848 p hf_c6_22 z21 z22 h3
  rcases Nat.lt_or_ge p 6912 with z23 | z23
  · exact hg_al_get 32 6880 p hf_c6_23 z22 z23 h3
  rcases Nat.lt_or_ge p 6944 with z24 | z24
  · exact hg_al_get 32 6912 p hf_c6_24 z23 z24 h3
  rcases Nat.lt_or_ge p 6976 with z25 | z25
  · exact hg_al_get 32 6944 p hf_c6_25 z24 z25 h3
  rcases Nat.lt_or_ge p 7008 with z26 | z26
  · exact hg_al_get 32 6976 p hf_c6_26 z25 z26 h3
  rcases Nat.lt_or_ge p 7040 with z27 | z27
  · exact hg_al_get 32 7008 p hf_c6_27 z26 z27 h3
  rcases Nat.lt_or_ge p 7072 with z28 | z28
  · exact hg_al_get 32 7040 p hf_c6_28 z27 z28 h3
  rcases Nat.lt_or_ge p 7104 with z29 | z29
  · exact hg_al_get 32 7072 p hf_c6_29 z28 z29 h3
  rcases Nat.lt_or_ge p 7136 with z30 | z30
  · exact hg_al_get 32 7104 p hf_c6_30 z29 z30 h3
  exact hg_al_get 32 7136 p hf_c6_31 z30 h2 h3
theorem hf_c7_0 : hg_al 32 7168 = true := by decide +kernel
theorem hf_c7_1 : hg_al 32 7200 = true := by decide +kernel
theorem hf_c7_2 : hg_al 32 7232 = true := by decide +kernel
theorem hf_c7_3 : hg_al 32 7264 = true := by decide +kernel
theorem hf_c7_4 : hg_al 32 7296 = true := by decide +kernel
theorem hf_c7_5 : hg_al 32 7328 = true := by decide +kernel
theorem hf_c7_6 : hg_al 32 7360 = true := by decide +kernel
theorem hf_c7_7 : hg_al 32 7392 = true := by decide +kernel
theorem hf_c7_8 : hg_al 32 7424 = true := by decide +kernel
theorem hf_c7_9 : hg_al 32 7456 = true := by decide +kernel
theorem hf_c7_10 : hg_al 32 7488 = true := by decide +kernel
theorem hf_c7_11 : hg_al 32 7520 = true := by decide +kernel
theorem hf_c7_12 : hg_al 32 7552 = true := by decide +kernel
theorem hf_c7_13 : hg_al 32 7584 = true := by decide +kernel
theorem hf_c7_14 : hg_al 32 7616 = true := by decide +kernel
theorem hf_c7_15 : hg_al 32 7648 = true := by decide +kernel
theorem hf_c7_16 : hg_al 32 7680 = true := by decide +kernel
theorem hf_c7_17 : hg_al 32 7712 = true := by decide +kernel
theorem hf_c7_18 : hg_al 32 7744 = true := by decide +kernel
theorem hf_c7_19 : hg_al 32 7776 = true := by decide +kernel
theorem hf_c7_20 : hg_al 32 7808 = true := by decide +kernel
theorem hf_c7_21 : hg_al 32 7840 = true := by decide +kernel
theorem hf_c7_22 : hg_al 32 7872 = true := by decide +kernel
theorem hf_c7_23 : hg_al 32 7904 = true := by decide +kernel
theorem hf_c7_24 : hg_al 32 7936 = true := by decide +kernel
theorem hf_c7_25 : hg_al 32 7968 = true := by decide +kernel
theorem hf_c7_26 : hg_al 32 8000 = true := by decide +kernel
theorem hf_c7_27 : hg_al 32 8032 = true := by decide +kernel
theorem hf_c7_28 : hg_al 32 8064 = true := by decide +kernel
theorem hf_c7_29 : hg_al 32 8096 = true := by decide +kernel
theorem hf_c7_30 : hg_al 32 8128 = true := by decide +kernel
theorem hf_c7_31 : hg_al 32 8160 = true := by decide +kernel
theorem hf_c7 {p : Nat} (h : 7168 ≤ p) (h2 : p < 8192) (h3 : p < 31744) : hf_ck p = true := by
  rcases Nat.lt_or_ge p 7200 with z0 | z0
  · exact hg_al_get 32 7168 p hf_c7_0 h z0 h3
  rcases Nat.lt_or_ge p 7232 with z1 | z1
  · exact hg_al_get 32 7200 p hf_c7_1 z0 z1 h3
  rcases Nat.lt_or_ge p 7264 with z2 | z2
  · exact hg_al_get 32 7232 p hf_c7_2 z1 z2 h3
  rcases Nat.lt_or_ge p 7296 with z3 | z3
  · exact hg_al_get 32 7264 p hf_c7_3 z2 z3 h3
  rcases Nat.lt_or_ge p 7328 with z4 | z4
  · exact hg_al_get 32 7296 p hf_c7_4 z3 z4 h3
  rcases Nat.lt_or_ge p 7360 with z5 | z5
  · exact hg_al_get 32 7328 p hf_c7_5 z4 z5 h3
  rcases Nat.lt_or_ge p 7392 with z6 | z6
  · exact hg_al_get 32 7360 p hf_c7_6 z5 z6 h3
  rcases Nat.lt_or_ge p 7424 with z7 | z7
  · exact hg_al_get 32 7392 p hf_c7_7 z6 z7 h3
  rcases Nat.lt_or_ge p 7456 with z8 | z8
  · exact hg_al_get 32 7424 p hf_c7_8 z7 z8 h3
  rcases Nat.lt_or_ge p 7488 with z9 | z9
  · exact hg_al_get 32 7456 p hf_c7_9 z8 z9 h3
  rcases Nat.lt_or_ge p 7520 with z10 | z10
  · exact hg_al_get 32 7488 p hf_c7_10 z9 z10 h3
  rcases Nat.lt_or_ge p 7552 with z11 | z11
  · exact hg_al_get 32 7520 p hf_c7_11 z10 z11 h3
  rcases Nat.lt_or_ge p 7584 with z12 | z12
  · exact hg_al_get 32 7552 p hf_c7_12 z11 z12 h3
  rcases Nat.lt_or_ge p 7616 with z13 | z13
  · exact hg_al_get 32 7584 p hf_c7_13 z12 z13 h3
  rcases Nat.lt_or_ge p 7648 with z14 | z14
  · exact hg_al_get 32 7616 p hf_c7_14 z13 z14 h3
  rcases Nat.lt_or_ge p 7680 with z15 | z15
  · exact hg_al_get 32 7648 p hf_c7_15 z14 z15 h3
  rcases Nat.lt_or_ge p 7712 with z16 | z16
  · exact hg_al_get 32 7680 p hf_c7_16 z15 z16 h3
  rcases Nat.lt_or_ge p 7744 with z17 | z17
  · exact hg_al_get 32 7712 p hf_c7_17 z16 z17 h3
  rcases Nat.lt_or_ge p 7776 with z18 | z18
  · exact hg_al_get 32 7744 p hf_c7_18 z17 z18 h3
  rcases Nat.lt_or_ge p 7808 with z19 | z19
  · exact hg_al_get 32 7776 p hf_c7_19 z18 z19 h3
  rcases Nat.lt_or_ge p 7840 with z20 | z20
  · exact hg_al_get 32 7808 p hf_c7_20 z19 z20 h3
  rcases Nat.lt_or_ge p 7872 with z21 | z21
  · exact hg_al_get 32 7840 p hf_c7_21 z20 z21 h3
  rcases Nat.lt_or_ge p 7904 with z22 | z22
  · exact hg_al_get 32 7872 p hf_c7_22 z21 z22 h3
  rcases Nat.lt_or_ge p 7936 with z23 | z23
  · exact hg_al_get 32 7904 p hf_c7_23 z22 z23 h3
  rcases Nat.lt_or_ge p 7968 with z24 | z24
  · exact hg_al_get 32 7936 p hf_c7_24 z23 z24 h3
  rcases Nat.lt_or_ge p 8000 with z25 | z25
  · exact hg_al_get 32 7968 p hf_c7_25 z24 z25 h3
  rcases Nat.lt_or_ge p 8032 with z26 | z26
  · exact hg_al_get 32 8000 p hf_c7_26 z25 z26 h3
  rcases Nat.lt_or_ge p 8064 with z27 | z27
  · exact hg_al_get 32 8032 p hf_c7_27 z26 z27 h3
  rcases Nat.lt_or_ge p 8096 with z28 | z28
  · exact hg_al_get 32 8064 p hf_c7_28 z27 z28 h3
  rcases Nat.lt_or_ge p 8128 with z29 | z29
  · exact hg_al_get 32 8096 p hf_c7_29 z28 z29 h3
  rcases Nat.lt_or_ge p 8160 with z30 | z30
  · exact hg_al_get 32 8128 p hf_c7_30 z29 z30 h3
  exact hg_al_get 32 8160 p hf_c7_31 z30 h2 h3
theorem hf_c8_0 : hg_al 32 8192 = true := by decide +kernel
theorem hf_c8_1 : hg_al 32 8224 = true := by decide +kernel
theorem hf_c8_2 : hg_al 32 8256 = true := by decide +kernel
theorem hf_c8_3 : hg_al 32 8288 = true := by decide +kernel
theorem hf_c8_4 : hg_al 32 8320 = true := by decide +kernel
theorem hf_c8_5 : hg_al 32 8352 = true := by decide +kernel
theorem hf_c8_6 : hg_al 32 8384 = true := by decide +kernel
theorem hf_c8_7 : hg_al 32 8416 = true := by decide +kernel
theorem hf_c8_8 : hg_al 32 8448 = true := by decide +kernel
theorem hf_c8_9 : hg_al 32 8480 = true := by decide +kernel
theorem hf_c8_10 : hg_al 32 8512 = true := by decide +kernel
theorem hf_c8_11 : hg_al 32 8544 = true := by decide +kernel
theorem hf_c8_12 : hg_al 32 8576 = true := by decide +kernel
theorem hf_c8_13 : hg_al 32 8608 = true := by decide +kernel
theorem hf_c8_14 : hg_al 32 8640 = true := by decide +kernel
theorem hf_c8_15 : hg_al 32 8672 = true := by decide +kernel
theorem hf_c8_16 : hg_al 32 8704 = true := by decide +kernel
theorem hf_c8_17 : hg_al 32 8736 = true := by decide +kernel
theorem hf_c8_18 : hg_al 32 8768 = true := by decide +kernel
theorem hf_c8_19 : hg_al 32 8800 = true := by decide +kernel
theorem hf_c8_20 : hg_al 32 8832 = true := by decide +kernel
theorem hf_c8_21 : hg_al 32 8864 = true := by decide +kernel
theorem hf_c8_22 : hg_al 32 8896 = true := by decide +kernel
theorem hf_c8_23 : hg_al 32 8928 = true := by decide +kernel
theorem hf_c8_24 : hg_al 32 8960 = true := by decide +kernel
theorem hf_c8_25 : hg_al 32 8992 = true := by decide +kernel
theorem hf_c8_26 : hg_al 32 9024 = true := by decide +kernel
theorem hf_c8_27 : hg_al 32 9056 = true := by decide +kernel
theorem hf_c8_28 : hg_al 32 9088 = true := by decide +kernel
theorem hf_c8_29 : hg_al 32 9120 = true := by decide +kernel
theorem hf_c8_30 : hg_al 32 9152 = true := by decide +kernel
theorem hf_c8_31 : hg_al 32 9184 = true := by decide +kernel
theorem hf_c8 {p : Nat} (h : 8192 ≤ p) (h2 : p < 9216) (h3 : p < 31744) : hf_ck p = true := by
  rcases Nat.lt_or_ge p 8224 with z0 | z0
  · exact hg_al_get 32 8192 p hf_c8_0 h z0 h3
  rcases Nat.lt_or_ge p 8256 with z1 | z1
  · exact hg_al_get 32 8224 p hf_c8_1 z0 z1 h3
  rcases Nat.lt_or_ge p 8288 with z2 | z2
  · exact hg_al_get 32 8256 p hf_c8_2 z1 z2 h3
  rcases Nat.lt_or_ge p 8320 with z3 | z3
  · exact hg_al_get 32 8288 p hf_c8_3 z2 z3 h3
  rcases Nat.lt_or_ge p 8352 with z4 | z4
  · exact hg_al_get 32 8320 p hf_c8_4 z3 z4 h3
  rcases Nat.lt_or_ge p 8384 with z5 | z5
  · exact hg_al_get 32 8352 p hf_c8_5 z4 z5 h3
  rcases Nat.lt_or_ge p 8416 with z6 | z6
  · exact hg_al_get 32 8384 p hf_c8_6 z5 z6 h3
  rcases Nat.lt_or_ge p 8448 with z7 | z7
  · exact hg_al_get 32 8416 p hf_c8_7 z6 z7 h3
  rcases Nat.lt_or_ge p 8480 with z8 | z8
  · exact hg_al_get 32 8448 p hf_c8_8 z7 z8 h3
  rcases Nat.lt_or_ge p 8512 with z9 | z9
  · exact hg_al_get 32 8480 p hf_c8_9 z8 z9 h3
  rcases Nat.lt_or_ge p 8544 with z10 | z10
  · exact hg_al_get 32 8512 p hf_c8_10 z9 z10 h3
  rcases Nat.lt_or_ge p 8576 with z11 | z11
  · exact hg_al_get 32 8544 p hf_c8_11 z10 z11 h3
  rcases Nat.lt_or_ge p 8608 with z12 | z12
  · exact hg_al_get 32 8576 p hf_c8_12 z11 z12 h3
  rcases Nat.lt_or_ge p 8640 with z13 | z13
  · exact hg_al_get 32 8608 p hf_c8_13 z12 z13 h3
  rcases Nat.lt_or_ge p 8672 with z14 | z14
  · exact hg_al_get 32 8640 p hf_c8_14 z13 z14 h3
  rcases Nat.lt_or_ge p 8704 with z15 | z15
  · exact hg_al_get 32 8672 p hf_c8_15 z14 z15 h3
  rcases Nat.lt_or_ge p 8736 with z16 | z16
  · exact hg_al_get 32 8704 p hf_c8_16 z15 z16 h3
  rcases Nat.lt_or_ge p 8768 with z17 | z17
  · exact hg_al_get 32 8736 p hf_c8_17 z16 z17 h3
  rcases Nat.lt_or_ge p 8800 with z18 | z18
  · exact hg_al_get 32 8768 p hf_c8_18 z17 z18 h3
  rcases Nat.lt_or_ge p 8832 with z19 | z19
  · exact hg_al_get 32 8800 p hf_c8_19 z18 z19 h3
  rcases Nat.lt_or_ge p 8864 with z20 | z20
  · exact hg_al_get 32 8832 p hf_c8_20 z19 z20 h3
  rcases Nat.lt_or_ge p 8896 with z21 | z21
  · exact hg_al_get 32 8864 p hf_c8_21 z20 z21 h3
  rcases Nat.lt_or_ge p 8928 with z22 | z22
  · exact hg_al_get 32 8896 p hf_c8_22 z21 z22 h3
  rcases Nat.lt_or_ge p 8960 with z23 | z23
  · exact hg_al_get 32 8928 p hf_c8_23 z22 z23 h3
  rcases Nat.lt_or_ge p 8992 with z24 | z24
  · exact hg_al_get 32 8960 p hf_c8_24 z23 z24 h3
  rcases Nat.lt_or_ge p 9024 with z25 | z25
  · exact hg_al_get 32 8992 p hf_c8_25 z24 z25 h3
  rcases Nat.lt_or_ge p 9056 with z26 | z26
  · exact hg_al_get 32 9024 p hf_c8_26 z25 z26 h3
  rcases Nat.lt_or_ge p 9088 with z27 | z27
  · exact hg_al_get 32 9056 p hf_c8_27 z26 z27 h3
  rcases Nat.lt_or_ge p 9120 with z28 | z28
  · exact hg_al_get 32 9088 p hf_c8_28 z27 z28 h3
  rcases Nat.lt_or_ge p 9152 with z29 | z29
  · exact hg_al_get 32 9120 p hf_c8_29 z28 z29 h3
  rcases Nat.lt_or_ge p 9184 with z30 | z30
  · exact hg_al_get 32 9152 p hf_c8_30 z29 z30 h3
  exact hg_al_get 32 9184 p hf_c8_31 z30 h2 h3
theorem hf_c9_0 : hg_al 32 9216 = true := by decide +kernel
theorem hf_c9_1 : hg_al 32 9248 = true := by decide +kernel
theorem hf_c9_2 : hg_al 32 9280 = true := by decide +kernel
theorem hf_c9_3 : hg_al 32 9312 = true := by decide +kernel
theorem hf_c9_4 : hg_al 32 9344 = true := by decide +kernel
theorem hf_c9_5 : hg_al 32 9376 = true := by decide +kernel
theorem hf_c9_6 : hg_al 32 9408 = true := by decide +kernel
theorem hf_c9_7 : hg_al 32 9440 = true := by decide +kernel
theorem hf_c9_8 : hg_al 32 9472 = true := by decide +kernel
theorem hf_c9_9 : hg_al 32 9504 = true := by decide +kernel
theorem hf_c9_10 : hg_al 32 9536 = true := by decide +kernel
theorem hf_c9_11 : hg_al 32 9568 = true := by decide +kernel
theorem hf_c9_12 : hg_al 32 9600 = true := by decide +kernel
theorem hf_c9_13 : hg_al 32 9632 = true := by decide +kernel
theorem hf_c9_14 : hg_al 32 9664 = true := by decide +kernel
theorem hf_c9_15 : hg_al 32 9696 = true := by decide +kernel
theorem hf_c9_16 : hg_al 32 9728 = true := by decide +kernel
theorem hf_c9_17 : hg_al 32 9760 = true := by decide +kernel
theorem hf_c9_18 : hg_al 32 9792 = true := by decide +kernel
theorem hf_c9_19 : hg_al 32 9824 = true := by decide +kernel
theorem hf_c9_20 : hg_al 32 9856 = true := by decide +kernel
theorem hf_c9_21 : hg_al 32 9888 = true := by decide +kernel
theorem hf_c9_22 : hg_al 32 9920 = true := by decide +kernel
theorem hf_c9_23 : hg_al 32 9952 = true := by decide +kernel
theorem hf_c9_24 : hg_al 32 9984 = true := by decide +kernel
theorem hf_c9_25 : hg_al 32 10016 = true := by decide +kernel
theorem hf_c9_26 : hg_al 32 10048 = true := by decide +kernel
theorem hf_c9_27 : hg_al 32 10080 = true := by decide +kernel
theorem hf_c9_28 : hg_al 32 10112 = true := by decide +kernel
theorem hf_c9_29 : hg_al 32 10144 = true := by decide +kernel
theorem hf_c9_30 : hg_al 32 10176 = true := by decide +kernel
theorem hf_c9_31 : hg_al 32 10208 = true := by decide +kernel
theorem hf_c9 {p : Nat} (h : 9216 ≤ p) (h2 : p < 10240) (h3 : p < 31744) : hf_ck p = true := by
  rcases Nat.lt_or_ge p 9248 with z0 | z0
  · exact hg_al_get 32 9216 p hf_c9_0 h z0 h3
  rcases Nat.lt_or_ge p 9280 with z1 | z1
  · exact hg_al_get 32 9248 p hf_c9_1 z0 z1 h3
  rcases Nat.lt_or_ge p 9312 with z2 | z2
  · exact hg_al_get 32 9280 p hf_c9_2 z1 z2 h3
  rcases Nat.lt_or_ge p 9344 with z3 | z3
  · exact hg_al_get 32 9312 p hf_c9_3 z2 z3 h3
  rcases Nat.lt_or_ge p 9376 with z4 | z4
  · exact hg_al_get 32 9344 p hf_c9_4 z3 z4 h3
  rcases Nat.lt_or_ge p 9408 with z5 | z5
  · exact hg_al_get 32 9376 p hf_c9_5 z4 z5 h3
  rcases Nat.lt_or_ge p 9440 with z6 | z6
  · exact hg_al_get 32 9408 p hf_c9_6 z5 z6 h3
  rcases Nat.lt_or_ge p 9472 with z7 | z7
  · exact hg_al_get 32 9440 p hf_c9_7 z6 z7 h3
  rcases Nat.lt_or_ge p 9504 with z8 | z8
  · exact hg_al_get 32 9472 p hf_c9_8 z7 z8 h3
  rcases Nat.lt_or_ge p 9536 with z9 | z9
  · exact hg_al_get 32 9504 p hf_c9_9 z8 z9 h3
  rcases Nat.lt_or_ge p 9568 with z10 | z10
  · exact hg_al_get 32 9536 p hf_c9_10 z9 z10 h3
  rcases Nat.lt_or_ge p 9600 with z11 | z11
  · exact hg_al_get 32 9568 p hf_c9_11 z10 z11 h3
  rcases Nat.lt_or_ge p 9632 with z12 | z12
  · exact hg_al_get 32 9600 p hf_c9_12 z11 z12 h3
  rcases Nat.lt_or_ge p 9664 with z13 | z13
  · exact hg_al_get 32 9632 p hf_c9_13 z12 z13 h3
  rcases Nat.lt_or_ge p 9696 with z14 | z14
  · exact hg_al_get 32 9664 p hf_c9_14 z13 z14 h3
  rcases Nat.lt_or_ge p 9728 with z15 | z15
  · exact hg_al_get 32 9696 p hf_c9_15 z14 z15 h3
  rcases Nat.lt_or_ge p 9760 with z16 | z16
  · exact hg_al_get 32 9728 p hf_c9_16 z15 z16 h3
  rcases Nat.lt_or_ge p 9792 with z17 | z17
  · exact hg_al_get 32 9760 p hf_c9_17 z16 z17 h3
  rcases Nat.lt_or_ge p 9824 with z18 | z18
  · exact hg_al_get 32 9792 p hf_c9_18 z17 z18 h3
  rcases Nat.lt_or_ge p 9856 with z19 | z19
  · exact hg_al_get 32 9824 p hf_c9_19 z18 z19 h3
  rcases Nat.lt_or_ge p 9888 with z20 | z20
  · exact hg_al_get 32 9856 p hf_c9_20 z19 z20 h3
  rcases Nat.lt_or_ge p 9920 with z21 | z21
  · exact hg_al_get 32 9888 p hf_c9_21 z20 z21 h3
  rcases Nat.lt_or_ge p 9952 with z22 | z22
  · exact hg_al_get 32 9920 p hf_c9_22 z21 z22 h3
  rcases Nat.lt_or_ge p 9984 with z23 | z23
  · exact hg_al_get 32 9952 p hf_c9_23 z22 z23 h3
  rcases Nat.lt_or_ge p 10016 with z24 | z24
  · exact hg_al_get 32 9984 p hf_c9_24 z23 z24 h3
  rcases Nat.lt_or_ge p 10048 with z25 | z25
  · exact hg_al_get 32 10016 p hf_c9_25 z24 z25 h3
  rcases Nat.lt_or_ge p 10080 with z26 | z26
  · exact hg_al_get 32 10048 p hf_c9_26 z25 z26 h3
  rcases Nat.lt_or_ge p 10112 with z27 | z27
  · exact hg_al_get 32 10080 p hf_c9_27 z26 z27 h3
  rcases Nat.lt_or_ge p 10144 with z28 | z28
  · exact hg_al_get 32 10112 p hf_c9_28 z27 z28 h3
  rcases Nat.lt_or_ge p 10176 with z29 | z29
  · exact hg_al_get 32 10144 p hf_c9_29 z28 z29 h3
  rcases Nat.lt_or_ge p 10208 with z30 | z30
  · exact hg_al_get 32 10176 p hf_c9_30 z29 z30 h3
  exact hg_al_get 32 10208 p hf_c9_31 z30 h2 h3
theorem hf_c10_0 : hg_al 32 10240 = true := by decide +kernel
theorem hf_c10_1 : hg_al 32 10272 = true := by decide +kernel
theorem hf_c10_2 : hg_al 32 10304 = true := by decide +kernel
theorem hf_c10_3 : hg_al 32 10336 = true := by decide +kernel
theorem hf_c10_4 : hg_al 32 10368 = true := by decide +kernel
theorem hf_c10_5 : hg_al 32 10400 = true := by decide +kernel
theorem hf_c10_6 : hg_al 32 10432 = true := by decide +kernel
theorem hf_c10_7 : hg_al 32 10464 = true := by decide +kernel
theorem hf_c10_8 : hg_al 32 10496 = true := by decide +kernel
theorem hf_c10_9 : hg_al 32 10528 = true := by decide +kernel
theorem hf_c10_10 : hg_al 32 10560 = true := by decide +kernel
theorem hf_c10_11 : hg_al 32 10592 = true := by decide +kernel
theorem hf_c10_12 : hg_al 32 10624 = true := by decide +kernel
theorem hf_c10_13 : hg_al 32 10656 = true := by decide +kernel
theorem hf_c10_14 : hg_al 32 10688 = true := by decide +kernel
theorem hf_c10_15 : hg_al 32 10720 = true := by decide +kernel
theorem hf_c10_16 : hg_al 32 10752 = true := by decide +kernel
theorem hf_c10_17 : hg_al 32 10784 = true := by decide +kernel
theorem hf_c10_18 : hg_al 32 10816 = true := by decide +kernel
theorem hf_c10_19 : hg_al 32 10848 = true := by decide +kernel
theorem hf_c10_20 : hg_al 32 10880 = true := by decide +kernel
theorem hf_c10_21 : hg_al 32 10912 = true := by decide +kernel
theorem hf_c10_22 : hg_al 32 10944 = true := by decide +kernel
theorem hf_c10_23 : hg_al 32 10976 = true := by decide +kernel
theorem hf_c10_24 : hg_al 32 11008 = true := by decide +kernel
theorem hf_c10_25 : hg_al 32 11040 = true := by decide +kernel
theorem hf_c10_26 : hg_al 32 11072 = true := by decide +kernel
theorem hf_c10_27 : hg_al 32 11104 = true := by decide +kernel
theorem hf_c10_28 : hg_al 32 11136 = true := by decide +kernel
theorem hf_c10_29 : hg_al 32 11168 = true := by decide +kernel
theorem hf_c10_30 : hg_al 32 11200 = true := by decide +kernel
theorem hf_c10_31 : hg_al 32 11232 = true := by decide +kernel
theorem hf_c10 {p : Nat} (h : 10240 ≤ p) (h2 : p < 11264) (h3 : p < 31744) : hf_ck p = true := by
  rcases Nat.lt_or_ge p 10272 with z0 | z0
  · exact hg_al_get 32 10240 p hf_c10_0 h z0 h3
  rcases Nat.lt_or_ge p 10304 with z1 | z1
  · exact hg_al_get 32 10272 p hf_c10_1 z0 z1 h3
  rcases Nat.lt_or_ge p 10336 with z2 | z2
  · exact hg_al_get 32 10304 p hf_c10_2 z1 z2 h3
  rcases Nat.lt_or_ge p 10368 with z3 | z3
  · exact hg_al_get 32 10336 p hf_c10_3 z2 z3 h3
  rcases Nat.lt_or_ge p 10400 with z4 | z4
  · exact hg_al_get 32 10368 p hf_c10_4 z3 z4 h3
  rcases Nat.lt_or_ge p 10432 with z5 | z5
  · exact hg_al_get 32 10400 p hf_c10_5 z4 z5 h3
  rcases Nat.lt_or_ge p 10464 with z6 | z6
  · exact hg_al_get 32 10432 p hf_c10_6 z5 z6 h3
  rcases Nat.lt_or_ge p 10496 with z7 | z7
  · exact hg_al_get 32 10464 p hf_c10_7 z6 z7 h3
  rcases Nat.lt_or_ge p 10528 with z8 | z8
  · exact hg_al_get 32 10496 p hf_c10_8 z7 z8 h3
  rcases Nat.lt_or_ge p 10560 with z9 | z9
  · exact hg_al_get 32 10528 p hf_c10_9 z8 z9 h3
  rcases Nat.lt_or_ge p 10592 with z10 | z10
  · exact hg_al_get 32 10560 p hf_c10_10 z9 z10 h3
  rcases Nat.lt_or_ge p 10624 with z11 | z11
  · exact hg_al_get 32 10592 p hf_c10_11 z10 z11 h3
  rcases Nat.lt_or_ge p 10656 with z12 | z12
  · exact hg_al_get 32 10624 p hf_c10_12 z11 z12 h3
  rcases Nat.lt_or_ge p 10688 with z13 | z13
  · exact hg_al_get 32 10656 p hf_c10_13 z12 z13 h3
  rcases Nat.lt_or_ge p 10720 with z14 | z14
  · exact hg_al_get 32 10688 p hf_c10_14 z13 z14 h3
  rcases Nat.lt_or_ge p 10752 with z15 | z15
  · exact hg_al_get 32 10720 p hf_c10_15 z14 z15 h3
  rcases Nat.lt_or_ge p 10784 with z16 | z16
  · exact hg_al_get 32 10752 p hf_c10_16 z15 z16 h3
  rcases Nat.lt_or_ge p 10816 with z17 | z17
  · exact hg_al_get 32 10784 p hf_c10_17 z16 z17 h3
  rcases Nat.lt_or_ge p 10848 with z18 | z18
  · exact hg_al_get 32 10816 p hf_c10_18 z17 z18 h3
  rcases Nat.lt_or_ge p 10880 with z19 | z19
  · exact hg_al_get 32 10848 p hf_c10_19 z18 z19 h3
  rcases Nat.lt_or_ge p 10912 with z20 | z20
  · exact hg_al_get 32 10880 p hf_c10_20 z19 z20 h3
  rcases Nat.lt_or_ge p 10944 with z21 | z21
  · exact hg_al_get 32 10912 p hf_c10_21 z20 z21 h3
  rcases Nat.lt_or_ge p 10976 with z22 | z22
  · exact hg_al_get 32 10944 p hf_c10_22 z21 z22 h3
  rcases Nat.lt_or_ge p 11008 with z23 | z23
  · exact hg_al_get 32 10976 p hf_c10_23 z22 z23 h3
  rcases Nat.lt_or_ge p 11040 with z24 | z24
  · exact hg_al_get 32 11008 p hf_c10_24 z23 z24 h3
  rcases Nat.lt_or_ge p 11072 with z25 | z25
  · exact hg_al_get 32 11040 p hf_c10_25 z24 z25 h3
  rcases Nat.lt_or_ge p 11104 with z26 | z26
  · exact hg_al_get 32 11072 p hf_c10_26 z25 z26 h3
  rcases Nat.lt_or_ge p 11136 with z27 | z27
  · exact hg_al_get 32 11104 p hf_c10_27 z26 z27 h3
  rcases Nat.lt_or_ge p 11168 with z28 | z28
  · exact hg_al_get 32 11136 p hf_c10_28 z27 z28 h3
  rcases Nat.lt_or_ge p 11200 with z29 | z29
  · exact hg_al_get 32 11168 p hf_c10_29 z28 z29 h3
  rcases Nat.lt_or_ge p 11232 with z30 | z30
  · exact hg_al_get 32 11200 p hf_c10_30 z29 z30 h3
  exact hg_al_get 32 11232 p hf_c10_31 z30 h2 h3
theorem hf_c11_0 : hg_al 32 11264 = true := by decide +kernel
theorem hf_c11_1 : hg_al 32 11296 = true := by decide +kernel
theorem hf_c11_2 : hg_al 32 11328 = true := by decide +kernel
theorem hf_c11_3 : hg_al 32 11360 = true := by decide +kernel
theorem hf_c11_4 : hg_al 32 11392 = true := by decide +kernel
theorem hf_c11_5 : hg_al 32 11424 = true := by decide +kernel
theorem hf_c11_6 : hg_al 32 11456 = true := by decide +kernel
theorem hf_c11_7 : hg_al 32 11488 = true := by decide +kernel
theorem hf_c11_8 : hg_al 32 11520 = true := by decide +kernel
theorem hf_c11_9 : hg_al 32 11552 = true := by decide +kernel
theorem hf_c11_10 : hg_al 32 11584 = true := by decide +kernel
theorem hf_c11_11 : hg_al 32 11616 = true := by decide +kernel
theorem hf_c11_12 : hg_al 32 11648 = true := by decide +kernel
theorem hf_c11_13 : hg_al 32 11680 = true := by decide +kernel
theorem hf_c11_14 : hg_al 32 11712 = true := by decide +kernel
theorem hf_c11_15 : hg_al 32 11744 = true := by decide +kernel
theorem hf_c11_16 : hg_al 32 11776 = true := by decide +kernel
theorem hf_c11_17 : hg_al 32 11808 = true := by decide +kernel
theorem hf_c11_18 : hg_al 32 11840 = true := by decide +kernel
theorem hf_c11_19 : hg_al 32 11872 = true := by decide +kernel
theorem hf_c11_20 : hg_al 32 11904 = true := by decide +kernel
theorem hf_c11_21 : hg_al 32 11936 = true := by decide +kernel
theorem hf_c11_22 : hg_al 32 11968 = true := by decide +kernel
theorem hf_c11_23 : hg_al 32 12000 = true := by decide +kernel
theorem hf_c11_24 : hg_al 32 12032 = true := by decide +kernel
theorem hf_c11_25 : hg_al 32 12064 = true := by decide +kernel
theorem hf_c11_26 : hg_al 32 12096 = true := by decide +kernel
theorem hf_c11_27 : hg_al 32 12128 = true := by decide +kernel
theorem hf_c11_28 : hg_al 32 12160 = true := by decide +kernel
theorem hf_c11_29 : hg_al 32 12192 = true := by decide +kernel
theorem hf_c11_30 : hg_al 32 12224 = true := by decide +kernel
theorem hf_c11_31 : hg_al 32 12256 = true := by decide +kernel
theorem hf_c11 {p : Nat} (h : 11264 ≤ p) (h2 : p < 12288) (h3 : p < 31744) : hf_ck p = true := by
  rcases Nat.lt_or_ge p 11296 with z0 | z0
  · exact hg_al_get 32 11264 p hf_c11_0 h z0 h3
  rcases Nat.lt_or_ge p 11328 with z1 | z1
  · exact hg_al_get 32 11296 p hf_c11_1 z0 z1 h3
  rcases Nat.lt_or_ge p 11360 with z2 | z2
  · exact hg_al_get 32 11328 p hf_c11_2 z1 z2 h3
  rcases Nat.lt_or_ge p 11392 with z3 | z3
  · exact hg_al_get 32 11360 p hf_c11_3 z2 z3 h3
  rcases Nat.lt_or_ge p 11424 with z4 | z4
  · exact hg_al_get 32 11392 p hf_c11_4 z3 z4 h3
  rcases Nat.lt_or_ge p 11456 with z5 | z5
  · exact hg_al_get 32 11424 p hf_c11_5 z4 z5 h3
  rcases Nat.lt_or_ge p 11488 with z6 | z6
  · exact hg_al_get 32 11456 p hf_c11_6 z5 z6 h3
  rcases Nat.lt_or_ge p 11520 with z7 | z7
  · exact hg_al_get 32 11488 p hf_c11_7 z6 z7 h3
  rcases Nat.lt_or_ge p 11552 with z8 | z8
  · exact hg_al_get 32 11520 p hf_c11_8 z7 z8 h3
  rcases Nat.lt_or_ge p 11584 with z9 | z9
  · exact hg_al_get 32 11552 p hf_c11_9 z8 z9 h3
  rcases Nat.lt_or_ge p 11616 with z10 | z10
  · exact hg_al_get 32 11584 p hf_c11_10 z9 z10 h3
  rcases Nat.lt_or_ge p 11648 with z11 | z11
  · exact hg_al_get 32 11616 p hf_c11_11 z10 z11 h3
  rcases Nat.lt_or_ge p 11680 with z12 | z12
  · exact hg_al_get 32 11648 p hf_c11_12 z11 z12 h3
  rcases Nat.lt_or_ge p 11712 with z13 | z13
  · exact hg_al_get 32 11680 p hf_c11_13 z12 z13 h3
  rcases Nat.lt_or_ge p 11744 with z14 | z14
  · exact hg_al_get 32 11712 p hf_c11_14 z13 z14 h3
  rcases Nat.lt_or_ge p 11776 with z15 | z15
  · exact hg_al_get 32 11744 p hf_c11_15 z14 z15 h3
  rcases Nat.lt_or_ge p 11808 with z16 | z16
  · exact hg_al_get 32 11776 p hf_c11_16 z15 z16 h3
  rcases Nat.lt_or_ge p 11840 with z17 | z17
  · exact hg_al_get 32 11808 p hf_c11_17 z16 z17 h3
  rcases Nat.lt_or_ge p 11872 with z18 | z18
  · exact hg_al_get 32 11840 p hf_c11_18 z17 z18 h3
  rcases Nat.lt_or_ge p 11904 with z19 | z19
  · exact hg_al_get 32 11872 p hf_c11_19 z18 z19 h3
  rcases Nat.lt_or_ge p 11936 with z20 | z20
  · exact hg_al_get 32 11904 p hf_c11_20 z19 z20 h3
  rcases Nat.lt_or_ge p 11968 with z21 | z21
  · exact hg_al_get 32 11936 p hf_c11_21 z20 z21 h3
  rcases Nat.lt_or_ge p 12000 with z22 | z22
  · exact hg_al_get 32 11968 p hf_c11_22 z21 z22 h3
  rcases Nat.lt_or_ge p 12032 with z23 | z23
  · exact hg_al_get 32 12000 p hf_c11_23 z22 z23 h3
  rcases Nat.lt_or_ge p 12064 with z24 | z24
  · exact hg_al_get 32 12032 p hf_c11_24 z23 z24 h3
  rcases Nat.lt_or_ge p 12096 with z25 | z25
  · exact hg_al_get 32 12064 p hf_c11_25 z24 z25 h3
  rcases Nat.lt_or_ge p 12128 with z26 | z26
  · exact hg_al_get 32 12096 p hf_c11_26 z25 z26 h3
  rcases Nat.lt_or_ge p 12160 with z27 | z27
  · exact hg_al_get 32 12128 p hf_c11_27 z26 z27 h3
  rcases Nat.lt_or_ge p 12192 with z28 | z28
  · exact hg_al_get 32 12160 p hf_c11_28 z27 z28 h3
  rcases Nat.lt_or_ge p 12224 with z29 | z29
  · exact hg_al_get 32 12192 p hf_c11_29 z28 z29 h3
  rcases Nat.lt_or_ge p 12256 with z30 | z30
  · exact hg_al_get 32 12224 p hf_c11_30 z29 z30 h3
  exact hg_al_get 32 12256 p hf_c11_31 z30 h2 h3
theorem hf_c12_0 : hg_al 32 12288 = true := by decide +kernel
theorem hf_c12_1 : hg_al 32 12320 = true := by decide +kernel
theorem hf_c12_2 : hg_al 32 12352 = true := by decide +kernel
theorem hf_c12_3 : hg_al 32 12384 = true := by decide +kernel
theorem hf_c12_4 : hg_al 32 12416 = true := by decide +kernel
theorem hf_c12_5 : hg_al 32 12448 = true := by decide +kernel
theorem hf_c12_6 : hg_al 32 12480 = true := by decide +kernel
theorem hf_c12_7 : hg_al 32 12512 = true := by decide +kernel
theorem hf_c12_8 : hg_al 32 12544 = true := by decide +kernel
theorem hf_c12_9 : hg_al 32 12576 = true := by decide +kernel
theorem hf_c12_10 : hg_al 32 12608 = true := by decide +kernel
theorem hf_c12_11 : hg_al 32 12640 = true := by decide +kernel
theorem hf_c12_12 : hg_al 32 12672 = true := by decide +kernel
theorem hf_c12_13 : hg_al 32 12704 = true := by decide +kernel
theorem hf_c12_14 : hg_al 32 12736 = true := by decide +kernel
theorem hf_c12_15 : hg_al 32 12768 = true := by decide +kernel
theorem hf_c12_16 : hg_al 32 12800 = true := by decide +kernel
theorem hf_c12_17 : hg_al 32 12832 = true := by decide +kernel
theorem hf_c12_18 : hg_al 32 12864 = true := by decide +kernel
theorem hf_c12_19 : hg_al 32 12896 = true := by decide +kernel
theorem hf_c12_20 : hg_al 32 12928 = true := by decide +kernel
theorem hf_c12_21 : hg_al 32 12960 = true := by decide +kernel
theorem hf_c12_22 : hg_al 32 12992 = true := by decide +kernel
theorem hf_c12_23 : hg_al 32 13024 = true := by decide +kernel
theorem hf_c12_24 : hg_al 32 13056 = true := by decide +kernel
theorem hf_c12_25 : hg_al 32 13088 = true := by decide +kernel
theorem hf_c12_26 : hg_al 32 13120 = true := by decide +kernel
theorem hf_c12_27 : hg_al 32 13152 = true := by decide +kernel
theorem hf_c12_28 : hg_al 32 13184 = true := by decide +kernel
theorem hf_c12_29 : hg_al 32 13216 = true := by decide +kernel
theorem hf_c12_30 : hg_al 32 13248 = true := by decide +kernel
theorem hf_c12_31 : hg_al 32 13280 = true := by decide +kernel
theorem hf_c12 {p : Nat} (h : 12288 ≤ p) (h2 : p < 13312) (h3 : p < 31744) : hf_ck p = true := by
  rcases Nat.lt_or_ge p 12320 with z0 | z0
  · exact hg_al_get 32 12288 p hf_c12_0 h z0 h3
  rcases Nat.lt_or_ge p 12352 with z1 | z1
  · exact hg_al_get 32 12320 p hf_c12_1 z0 z1 h3
  rcases Nat.lt_or_ge p 12384 with z2 | z2
  · exact hg_al_get 32 12352 p hf_c12_2 z1 z2 h3
  rcases Nat.lt_or_ge p 12416 with z3 | z3
  · exact hg_al_get 32 12384 p hf_c12_3 z2 z3 h3
  rcases Nat.lt_or_ge p 12448 with z4 | z4
  · exact hg_al_get 32 12416 p hf_c12_4 z3 z4 h3
  rcases Nat.lt_or_ge p 12480 with z5 | z5
  · exact hg_al_get 32 12448 p hf_c12_5 z4 z5 h3
  rcases Nat.lt_or_ge p 12512 with z6 | z6
  · exact hg_al_get 32 12480 p hf_c12_6 z5 z6 h3
  rcases Nat.lt_or_ge p 12544 with z7 | z7
  · exact hg_al_get 32 12512 p hf_c12_7 z6 z7 h3
  rcases Nat.lt_or_ge p 12576 with z8 | z8
  · exact hg_al_get 32 12544 p hf_c12_8 z7 z8 h3
  rcases Nat.lt_or_ge p 12608 with z9 | z9
  · exact hg_al_get 32 12576 p hf_c12_9 z8 z9 h3
  rcases Nat.lt_or_ge p 12640 with z10 | z10
  · exact hg_al_get 32 12608 p hf_c12_10 z9 z10 h3
  rcases Nat.lt_or_ge p 12672 with z11 | z11
  · exact hg_al_get 32 12640 p hf_c12_11 z10 z11 h3
  rcases Nat.lt_or_ge p 12704 with z12 | z12
  · exact hg_al_get 32 12672 p hf_c12_12 z11 z12 h3
  rcases Nat.lt_or_ge p 12736 with z13 | z13
  · exact hg_al_get 32 12704 p hf_c12_13 z12 z13 h3
  rcases Nat.lt_or_ge p 12768 with z14 | z14
  · exact hg_al_get 32 12736 p hf_c12_14 z13 z14 h3
  rcases Nat.lt_or_ge p 12800 with z15 | z15
  · exact hg_al_get 32 12768 p hf_c12_15 z14 z15 h3
  rcases Nat.lt_or_ge p 12832 with z16 | z16
  · exact hg_al_get 32 12800 p hf_c12_16 z15 z16 h3
  rcases Nat.lt_or_ge p 12864 with z17 | z17
  · exact hg_al_get 32 12832 p hf_c12_17 z16 z17 h3
  rcases Nat.lt_or_ge p 12896 with z18 | z18
  · exact hg_al_get 32 12864 p hf_c12_18 z17 z18 h3
  rcases Nat.lt_or_ge p 12928 with z19 | z19
  · exact hg_al_get 32 12896 p hf_c12_19 z18 z19 h3
  rcases Nat.lt_or_ge p 12960 with z20 | z20
  · exact hg_al_get 32 12928 p hf_c12_20 z19 z20 h3
  rcases Nat.lt_or_ge p 12992 with z21 | z21
  · exact hg_al_get 32 12960 p hf_c12_21 z20 z21 h3
  rcases Nat.lt_or_ge p 13024 with z22 | z22
  · exact hg_al_get 32 12992 p hf_c12_22 z21 z22 h3
  rcases Nat.lt_or_ge p 13056 with z23 | z23
  · exact hg_al_get 32 13024 p hf_c12_23 z22 z23 h3
  rcases Nat.lt_or_ge p 13088 with z24 | z24
  · exact hg_al_get 32 13056 p hf_c12_24 z23 z24 h3
  rcases Nat.lt_or_ge p 13120 with z25 | z25
  · exact hg_al_get 32 13088 p hf_c12_25 z24 z25 h3
  rcases Nat.lt_or_ge p 13152 with z26 | z26
  · exact hg_al_get 32 13120 p hf_c12_26 z25 z26 h3
  rcases Nat.lt_or_ge p 13184 with z27 | z27
  · exact hg_al_get 32 13152 p hf_c12_27 z26 z27 h3
  rcases Nat.lt_or_ge p 13216 with z28 | z28
  · exact hg_al_get 32 13184 p hf_c12_28 z27 z28 h3
  rcases Nat.lt_or_ge p 13248 with z29 | z29
  · exact hg_al_get 32 13216 p hf_c12_29 z28 z29 h3
  rcases Nat.lt_or_ge p 13280 with z30 | z30
  · exact hg_al_get 32 13248 p hf_c12_30 z29 z30 h3
  exact hg_al_get 32 13280 p hf_c12_31 z30 h2 h3
theorem hf_c13_0 : hg_al 32 13312 = true := by decide +kernel
theorem hf_c13_1 : hg_al 32 13344 = true := by decide +kernel
theorem hf_c13_2 : hg_al 32 13376 = true := by decide +kernel
theorem hf_c13_3 : hg_al 32 13408 = true := by decide +kernel
theorem hf_c13_4 : hg_al 32 13440 = true := by decide +kernel
theorem hf_c13_5 : hg_al 32 13472 = true := by decide +kernel
theorem hf_c13_6 : hg_al 32 13504 = true := by decide +kernel
theorem hf_c13_7 : hg_al 32 13536 = true := by decide +kernel
theorem hf_c13_8 : hg_al 32 13568 = true := by decide +kernel
theorem hf_c13_9 : hg_al 32 13600 = true := by decide +kernel
theorem hf_c13_10 : hg_al 32 13632 = true := by decide +kernel
theorem hf_c13_11 : hg_al 32 13664 = true := by decide +kernel
theorem hf_c13_12 : hg_al 32 13696 = true := by decide +kernel
theorem hf_c13_13 : hg_al 32 13728 = true := by decide +kernel
theorem hf_c13_14 : hg_al 32 13760 = true := by decide +kernel
theorem hf_c13_15 : hg_al 32 13792 = true := by decide +kernel
theorem hf_c13_16 : hg_al 32 13824 = true := by decide +kernel
theorem hf_c13_17 : hg_al 32 13856 = true := by decide +kernel
theorem hf_c13_18 : hg_al 32 13888 = true := by decide +kernel
theorem hf_c13_19 : hg_al 32 13920 = true := by decide +kernel
theorem hf_c13_20 : hg_al 32 13952 = true := by decide +kernel
theorem hf_c13_21 : hg_al 32 13984 = true := by decide +kernel
theorem hf_c13_22 : hg_al 32 14016 = true := by decide +kernel
theorem hf_c13_23 : hg_al 32 14048 = true := by decide +kernel
theorem hf_c13_24 : hg_al 32 14080 = true := by decide +kernel
theorem hf_c13_25 : hg_al 32 14112 = true := by decide +kernel
theorem hf_c13_26 : hg_al 32 14144 = true := by decide +kernel
theorem hf_c13_27 : hg_al 32 14176 = true := by decide +kernel
theorem hf_c13_28 : hg_al 32 14208 = true := by decide +kernel
theorem hf_c13_29 : hg_al 32 14240 = true := by decide +kernel
theorem hf_c13_30 : hg_al 32 14272 = true := by decide +kernel
theorem hf_c13_31 : hg_al 32 14304 = true := by decide +kernel
theorem hf_c13 {p : Nat} (h : 13312 ≤ p) (h2 : p < 14336) (h3 : p < 31744) : hf_ck p = true := by
  rcases Nat.lt_or_ge p 13344 with z0 | z0
  · exact hg_al_get 32 13312 p hf_c13_0 h z0 h3
  rcases Nat.lt_or_ge p 13376 with z1 | z1
  · exact hg_al_get 32 13344 p hf_c13_1 z0 z1 h3
  rcases Nat.lt_or_ge p 13408 with z2 | z2
  · exact hg_al_get 32 13376 p hf_c13_2 z1 z2 h3
  rcases Nat.lt_or_ge p 13440 with z3 | z3
  · exact hg_al_get 32 13408 p hf_c13_3 z2 z3 h3
  rcases Nat.lt_or_ge p 13472 with z4 | z4
  · exact hg_al_get 32 13440 p hf_c13_4 z3 z4 h3
  rcases Nat.lt_or_ge p 13504 with z5 | z5
  · exact hg_al_get 32 13472 p hf_c13_5 z4 z5 h3
  rcases Nat.lt_or_ge p 13536 with z6 | z6
  · exact hg_al_get 32 13504 p hf_c13_6 z5 z6 h3
  rcases Nat.lt_or_ge p 13568 with z7 | z7
  · exact hg_al_get 32 13536 p hf_c13_7 z6 z7 h3
  rcases Nat.lt_or_ge p 13600 with z8 | z8
  · exact hg_al_get 32 13568 p hf_c13_8 z7 z8 h3
  rcases Nat.lt_or_ge p 13632 with z9 | z9
  · exact hg_al_get 32 13600 p hf_c13_9 z8 z9 h3
  rcases Nat.lt_or_ge p 13664 with z10 | z10
  · exact hg_al_get 32 13632 p hf_c13_10 z9 z10 h3
  rcases Nat.lt_or_ge p 13696 with z11 | z11
  · exact hg_al_get 32 13664 p hf_c13_11 z10 z11 h3
  rcases Nat.lt_or_ge p 13728 with z12 | z12
  · exact hg_al_get 32 13696 p hf_c13_12 z11 z12 h3
  rcases Nat.lt_or_ge p 13760 with z13 | z13
  · exact hg_al_get 32 13728 p hf_c13_13 z12 z13 h3
  rcases Nat.lt_or_ge p 13792 with z14 | z14
  · exact hg_al_get 32 13760 p hf_c13_14 z13 z14 h3
  rcases Nat.lt_or_ge p 13824 with z15 | z15
  · exact hg_al_get 32 13792 p hf_c13_15 z14 z15 h3
  rcases Nat.lt_or_ge p 13856 with z16 | z16
  · exact hg_al_get 32 13824 p hf_c13_16 z15 z16 h3
  rcases Nat.lt_or_ge p 13888 with z17 | z17
  · exact hg_al_get 32 13856 p hf_c13_17 z16 z17 h3
  rcases Nat.lt_or_ge p 13920 with z18 | z18
  · exact hg_al_get 32 13888 p hf_c13_18 z17 z18 h3
  rcases Nat.lt_or_ge p 13952 with z19 | z19
  · exact hg_al_get 32 13920 p hf_c13_19 z18 z19 h3
  rcases Nat.lt_or_ge p 13984 with z20 | z20
  · exact hg_al_get 32 13952 p hf_c13_20 z19 z20 h3
  rcases Nat.lt_or_ge p 14016 with z21 | z21
  · exact hg_al_get 32 13984 p hf_c13_21 z20 z21 h3
  rcases Nat.lt_or_ge p 14048 with z22 | z22
  · exact hg_al_get 32 14016 p hf_c13_22 z21 z22 h3
  rcases Nat.lt_or_ge p 14080 with z23 | z23
  · exact hg_al_get 32 14048 p hf_c13_23 z22 z23 h3
  rcases Nat.lt_or_ge p 14112 with z24 | z24
  · exact hg_al_get 32 14080 p hf_c13_24 z23 z24 h3
  rcases Nat.lt_or_ge p 14144 with z25 | z25
  · exact hg_al_get 32 14112 p hf_c13_25 z24 z25 h3
  rcases Nat.lt_or_ge p 14176 with z26 | z26
  · exact hg_al_get 32 14144 p hf_c13_26 z25 z26 h3
  rcases Nat.lt_or_ge p 14208 with z27 | z27
  · exact hg_al_get 32 14176 p hf_c13_27 z26 z27 h3
  rcases Nat.lt_or_ge p 14240 with z28 | z28
  · exact hg_al_get 32 14208 p hf_c13_28 z27 z28 h3
  rcases Nat.lt_or_ge p 14272 with z29 | z29
  · exact hg_al_get 32 14240 p hf_c13_29 z28 z29 h3
  rcases Nat.lt_or_ge p 14304 with z30 | z30
  · exact hg_al_get 32 14272 p hf_c13_30 z29 z30 h3
  exact hg_al_get 32 14304 p hf_c13_31 z30 h2 h3
theorem hf_c14_0 : hg_al 32 14336 = true := by decide +kernel
theorem hf_c14_1 : hg_al 32 14368 = true := by decide +kernel
theorem hf_c14_2 : hg_al 32 14400 = true := by decide +kernel
theorem hf_c14_3 : hg_al 32 14432 = true := by decide +kernel
theorem hf_c14_4 : hg_al 32 14464 = true := by decide +kernel
theorem hf_c14_5 : hg_al 32 14496 = true := by decide +kernel
theorem hf_c14_6 : hg_al 32 14528 = true := by decide +kernel
theorem hf_c14_7 : hg_al 32 14560 = true := by decide +kernel
theorem hf_c14_8 : hg_al 32 14592 = true := by decide +kernel
theorem hf_c14_9 : hg_al 32 14624 = true := by decide +kernel
theorem hf_c14_10 : hg_al 32 14656 = true := by decide +kernel
theorem hf_c14_11 : hg_al 32 14688 = true := by decide +kernel
theorem hf_c14_12 : hg_al 32 14720 = true := by decide +kernel
theorem hf_c14_13 : hg_al 32 14752 = true := by decide +kernel
theorem hf_c14_14 : hg_al 32 14784 = true := by decide +kernel
theorem hf_c14_15 : hg_al 32 14816 = true := by decide +kernel
theorem hf_c14_16 : hg_al 32 14848 = true := by decide +kernel
theorem hf_c14_17 : hg_al 32 14880 = true := by decide +kernel
theorem hf_c14_18 : hg_al 32 14912 = true := by decide +kernel
theorem hf_c14_19 : hg_al 32 14944 = true := by decide +kernel
theorem hf_c14_20 : hg_al 32 14976 = true := by decide +kernel
theorem hf_c14_21 : hg_al 32 15008 = true := by decide +kernel
theorem hf_c14_22 : hg_al 32 15040 = true := by decide +kernel
theorem hf_c14_23 : hg_al 32 15072 = true := by decide +kernel
theorem hf_c14_24 : hg_al 32 15104 = true := by decide +kernel
theorem hf_c14_25 : hg_al 32 15136 = true := by decide +kernel
theorem hf_c14_26 : hg_al 32 15168 = true := by decide +kernel
theorem hf_c14_27 : hg_al 32 15200 = true := by decide +kernel
theorem hf_c14_28 : hg_al 32 15232 = true := by decide +kernel
theorem hf_c14_29 : hg_al 32 15264 = true := by decide +kernel
theorem hf_c14_30 : hg_al 32 15296 = true := by decide +kernel
theorem hf_c14_31 : hg_al 32 15328 = true := by decide +kernel
theorem hf_c14 {p : Nat} (h : 14336 ≤ p) (h2 : p < 15360) (h3 : p < 31744) : hf_ck p = true := by
  rcases Nat.lt_or_ge p 14368 with z0 | z0
  · exact hg_al_get 32 14336 p hf_c14_0 h z0 h3
  rcases Nat.lt_or_ge p 14400 with z1 | z1
  · exact hg_al_get 32 14368 p hf_c14_1 z0 z1 h3
  rcases Nat.lt_or_ge p 14432 with z2 | z2
  · exact hg_al_get 32 14400 p hf_c14_2 z1 z2 h3
  rcases Nat.lt_or_ge p 14464 with z3 | z3
  · exact hg_al_get 32 14432 p hf_c14_3 z2 z3 h3
  rcases Nat.lt_or_ge p 14496 with z4 | z4
  · exact hg_al_get 32 14464 p hf_c14_4 z3 z4 h3
  rcases Nat.lt_or_ge p 14528 with z5 | z5
  · exact hg_al_get 32 14496 p hf_c14_5 z4 z5 h3
  rcases Nat.lt_or_ge p 14560 with z6 | z6
  · exact hg_al_get 32 14528 p hf_c14_6 z5 z6 h3
  rcases Nat.lt_or_ge p 14592 with z7 | z7
  · exact hg_al_get 32 14560 p hf_c14_7 z6 z7 h3
  rcases Nat.lt_or_ge p 14624 with z8 | z8
  · exact hg_al_get 32 14592 p hf_c14_8 z7 z8 h3
  rcases Nat.lt_or_ge p 14656 with z9 | z9
  · exact hg_al_get 32 14624 p hf_c14_9 z8 z9 h3
  rcases Nat.lt_or_ge p 14688 with z10 | z10
  · exact hg_al_get 32 14656 p hf_c14_10 z9 z10 h3
  rcases Nat.lt_or_ge p 14720 with z11 | z11
  · exact hg_al_get 32 14688 p hf_c14_11 z10 z11 h3
  rcases Nat.lt_or_ge p 14752 with z12 | z12
  · exact hg_al_get 32 14720 p hf_c14_12 z11 z12 h3
  rcases Nat.lt_or_ge p 14784 with z13 | z13
  · exact hg_al_get 32 14752 p hf_c14_13 z12 z13 h3
  rcases Nat.lt_or_ge p 14816 with z14 | z14
  · exact hg_al_get 32 14784 p hf_c14_14 z13 z14 h3
  rcases Nat.lt_or_ge p 14848 with z15 | z15
  · exact hg_al_get 32 14816 p hf_c14_15 z14 z15 h3
  rcases Nat.lt_or_ge p 14880 with z16 | z16
  · exact hg_al_get 32 14848 p hf_c14_16 z15 z16 h3
  rcases Nat.lt_or_ge p 14912 with z17 | z17
  · exact hg_al_get 32 14880 p hf_c14_17 z16 z17 h3
  rcases Nat.lt_or_ge p 14944 with z18 | z18
  · exact hg_al_get 32 14912 p hf_c14_18 z17 z18 h3
  rcases Nat.lt_or_ge p 14976 with z19 | z19
  · exact hg_al_get 32 14944 p hf_c14_19 z18 z19 h3
  rcases Nat.lt_or_ge p 15008 with z20 | z20
  · exact hg_al_get 32 14976 p hf_c14_20 z19 z20 h3
  rcases Nat.lt_or_ge p 15040 with z21 | z21
  · exact hg_al_get 32 15008 p hf_c14_21 z20 z21 h3
  rcases Nat.lt_or_ge p 15072 with z22 | z22
  · exact hg_al_get 32 15040 p hf_c14_22 z21 z22 h3
  rcases Nat.lt_or_ge p 15104 with z23 | z23
  · exact hg_al_get 32 15072 p hf_c14_23 z22 z23 h3
  rcases Nat.lt_or_ge p 15136 with z24 | z24
  · exact hg_al_get 32 15104 p hf_c14_24 z23 z24 h3
  rcases Nat.lt_or_ge p 15168 with z25 | z25
  · exact hg_al_get 32 15136 p hf_c14_25 z24 z25 h3
  rcases Nat.lt_or_ge p 15200 with z26 | z26
  · exact hg_al_get 32 15168 p hf_c14_26 z25 z26 h3
  rcases Nat.lt_or_ge p 15232 with z27 | z27
  · exact hg_al_get 32 15200 p hf_c14_27 z26 z27 h3
  rcases Nat.lt_or_ge p 15264 with z28 | z28
  · exact hg_al_get 32 15232 p hf_c14_28 z27 z28 h3
  rcases Nat.lt_or_ge p 15296 with z29 | z29
  · exact hg_al_get 32 15264 p hf_c14_29 z28 z29 h3
  rcases Nat.lt_or_ge p 15328 with z30 | z30
  · exact hg_al_get 32 15296 p hf_c14_30 z29 z30 h3
  exact hg_al_get 32 15328 p hf_c14_31 z30 h2 h3
theorem hf_c15_0 : hg_al 32 15360 = true := by decide +kernel
theorem hf_c15_1 : hg_al 32 15392 = true := by decide +kernel
theorem hf_c15_2 : hg_al 32 15424 = true := by decide +kernel
theorem hf_c15_3 : hg_al 32 15456 = true := by decide +kernel
theorem hf_c15_4 : hg_al 32 15488 = true := by decide +kernel
theorem hf_c15_5 : hg_al 32 15520 = true := by decide +kernel
theorem hf_c15_6 : hg_al 32 15552 = true := by decide +kernel
theorem hf_c15_7 : hg_al 32 15584 = true := by decide +kernel
theorem hf_c15_8 : hg_al 32 15616 = true := by decide +kernel
theorem hf_c15_9 : hg_al 32 15648 = true := by decide +kernel
theorem hf_c15_10 : hg_al 32 15680 = true := by decide +kernel
theorem hf_c15_11 : hg_al 32 15712 = true := by decide +kernel
theorem hf_c15_12 : hg_al 32 15744 = true := by decide +kernel
theorem hf_c15_13 : hg_al 32 15776 = true := by decide +kernel
theorem hf_c15_14 : hg_al 32 15808 = true := by decide +kernel
theorem hf_c15_15 : hg_al 32 15840 = true := by decide +kernel
theorem hf_c15_16 : hg_al 32 15872 = true := by decide +kernel
theorem hf_c15_17 : hg_al 32 15904 = true := by decide +kernel
theorem hf_c15_18 : hg_al 32 15936 = true := by decide +kernel
theorem hf_c15_19 : hg_al 32 15968 = true := by decide +kernel
theorem hf_c15_20 : hg_al 32 16000 = true := by decide +kernel
theorem hf_c15_21 : hg_al 32 16032 = true := by decide +kernel
theorem hf_c15_22 : hg_al 32 16064 = true := by decide +kernel
theorem hf_c15_23 : hg_al 32 16096 = true := by decide +kernel
theorem hf_c15_24 : hg_al 32 16128 = true := by decide +kernel
theorem hf_c15_25 : hg_al 32 16160 = true := by decide +kernel
theorem hf_c15_26 : hg_al 32 16192 = true := by decide +kernel
theorem hf_c15_27 : hg_al 32 16224 = true := by decide +kernel
theorem hf_c15_28 : hg_al 32 16256 = true := by decide +kernel
theorem hf_c15_29 : hg_al 32 16288 = true := by decide +kernel
theorem hf_c15_30 : hg_al 32 16320 = true := by decide +kernel
theorem hf_c15_31 : hg_al 32 16352 = true := by decide +kernel
theorem hf_c15 {p : Nat} (h : 15360 ≤ p) (h2 : p < 16384) (h3 : p < 31744) : hf_ck p = true := by
  rcases Nat.lt_or_ge p 15392 with z0 | z0
  · exact hg_al_get 32 15360 p hf_c15_0 h z0 h3
  rcases Nat.lt_or_ge p 15424 with z1 | z1
  · exact hg_al_get 32 15392 p hf_c15_1 z0 z1 h3
  rcases Nat.lt_or_ge p 15456 with z2 | z2
  · exact hg_al_get 32 15424 p hf_c15_2 z1 z2 h3
  rcases Nat.lt_or_ge p 15488 with z3 | z3
  · exact hg_al_get 32 15456 p hf_c15_3 z2 z3 h3
  rcases Nat.lt_or_ge p 15520 with z4 | z4
  · exact hg_al_get 32 15488 p hf_c15_4 z3 z4 h3
  rcases Nat.lt_or_ge p 15552 with z5 | z5
  · exact hg_al_get 32 15520 p hf_c15_5 z4 z5 h3
  rcases Nat.lt_or_ge p 15584 with z6 | z6
  · exact hg_al_get 32 15552 p hf_c15_6 z5 z6 h3
  rcases Nat.lt_or_ge p 15616 with z7 | z7
  · exact hg_al_get 32 15584 p hf_c15_7 z6 z7 h3
  rcases Nat.lt_or_ge p 15648 with z8 | z8
  · exact hg_al_get 32 15616 p hf_c15_8 z7 z8 h3
  rcases Nat.lt_or_ge p 15680 with z9 | z9
  · exact hg_al_get 32 15648 p hf_c15_9 z8 z9 h3
  rcases Nat.lt_or_ge p 15712 with z10 | z10
  · exact hg_al_get 32 15680 p hf_c15_10 z9 z10 h3
  rcases Nat.lt_or_ge p 15744 with z11 | z11
  · exact hg_al_get 32 15712 p hf_c15_11 z10 z11 h3
  rcases Nat.lt_or_ge p 15776 with z12 | z12
  · exact hg_al_get 32 15744 p hf_c15_12 z11 z12 h3
  rcases Nat.lt_or_ge p 15808 with z13 | z13
  · exact hg_al_get 32 15776 p hf_c15_13 z12 z13 h3
  rcases Nat.lt_or_ge p 15840 with z14 | z14
  · exact hg_al_get 32 15808 p hf_c15_14 z13 z14 h3
  rcases Nat.lt_or_ge p 15872 with z15 | z15
  · exact hg_al_get 32 15840 p hf_c15_15 z14 z15 h3
  rcases Nat.lt_or_ge p 15904 with z16 | z16
  · exact hg_al_get 32 15872 p hf_c15_16 z15 z16 h3
  rcases Nat.lt_or_ge p 15936 with z17 | z17
  · exact hg_al_get 32 15904 p hf_c15_17 z16 z17 h3
  rcases Nat.lt_or_ge p 15968 with z18 | z18
  · exact hg_al_get 32 15936 p hf_c15_18 z17 z18 h3
  rcases Nat.lt_or_ge p 16000 with z19 | z19
  · exact hg_al_get 32 15968 p hf_c15_19 z18 z19 h3
  rcases Nat.lt_or_ge p 16032 with z20 | z20
  · exact hg_al_get 32 16000 p hf_c15_20 z19 z20 h3
  rcases Nat.lt_or_ge p 16064 with z21 | z21
  · exact hg_al_get 32 16032 p hf_c15_21 z20 z21 h3
  rcases Nat.lt_or_ge p 16096 with z22 | z22
  · exact hg_al_get 32 16064 p hf_c15_22 z21 z22 h3
  rcases Nat.lt_or_ge p 16128 with z23 | z23
  · exact hg_al_get 32 16096 p hf_c15_23 z22 z23 h3
  rcases Nat.lt_or_ge p 16160 with z24 | z24
  · exact hg_al_get 32 16128 p hf_c15_24 z23 z24 h3
  rcases Nat.lt_or_ge p 16192 with z25 | z25
  · exact hg_al_get 32 16160 p hf_c15_25 z24 z25 h3
  rcases Nat.lt_or_ge p 16224 with z26 | z26
  · exact hg_al_get 32 16192 p hf_c15_26 z25 z26 h3
  rcases Nat.lt_or_ge p 16256 with z27 | z27
  · exact hg_al_get 32 16224 p hf_c15_27 z26 z27 h3
  rcases Nat.lt_or_ge p 16288 with z28 | z28
  · exact hg_al_get 32 16256 p hf_c15_28 z27 z28 h3
  rcases Nat.lt_or_ge p 16320 with z29 | z29
  · exact hg_al_get 32 16288 p hf_c15_29 z28 z29 h3
  rcases Nat.lt_or_ge p 16352 with z30 | z30
  · exact hg_al_get 32 16320 p hf_c15_30 z29 z30 h3
  exact hg_al_get 32 16352 p hf_c15_31 z30 h2 h3
theorem hf_c16_0 : hg_al 32 16384 = true := by decide +kernel
theorem hf_c16_1 : hg_al 32 16416 = true := by decide +kernel
theorem hf_c16_2 : hg_al 32 16448 = true := by decide +kernel
theorem hf_c16_3 : hg_al 32 16480 = true := by decide +kernel
theorem hf_c16_4 : hg_al 32 16512 = true := by decide +kernel
theorem hf_c16_5 : hg_al 32 16544 = true := by decide +kernel
theorem hf_c16_6 : hg_al 32 16576 = true := by decide +kernel
theorem hf_c16_7 : hg_al 32 16608 = true := by decide +kernel
theorem hf_c16_8 : hg_al 32 16640 = true := by decide +kernel
theorem hf_c16_9 : hg_al 32 16672 = true := by decide +kernel
theorem hf_c16_10 : hg_al 32 16704 = true := by decide +kernel
theorem hf_c16_11 : hg_al 32 16736 = true := by decide +kernel
theorem hf_c16_12 : hg_al 32 16768 = true := by decide +kernel
theorem hf_c16_13 : hg_al 32 16800 = true := by decide +kernel
theorem hf_c16_14 : hg_al 32 16832 = true := by decide +kernel
theorem hf_c16_15 : hg_al 32 16864 = true := by decide +kernel
theorem hf_c16_16 : hg_al 32 16896 = true := by decide +kernel
theorem hf_c16_17 : hg_al 32 16928 = true := by decide +kernel
theorem hf_c16_18 : hg_al 32 16960 = true := by decide +kernel
theorem hf_c16_19 : hg_al 32 16992 = true := by decide +kernel
theorem hf_c16_20 : hg_al 32 17024 = true := by decide +kernel
theorem hf_c16_21 : hg_al 32 17056 = true := by decide +kernel
theorem hf_c16_22 : hg_al 32 17088 = true := by decide +kernel
theorem hf_c16_23 : hg_al 32 17120 = true := by decide +kernel
theorem hf_c16_24 : hg_al 32 17152 = true := by decide +kernel
theorem hf_c16_25 : hg_al 32 17184 = true := by decide +kernel
theorem hf_c16_26 : hg_al 32 17216 = true := by decide +kernel
theorem hf_c16_27 : hg_al 32 17248 = true := by decide +kernel
theorem hf_c16_28 : hg_al 32 17280 = true := by decide +kernel
theorem hf_c16_29 : hg_al 32 17312 = true := by decide +kernel
theorem hf_c16_30 : hg_al 32 17344 = true := by decide +kernel
theorem hf_c16_31 : hg_al 32 17376 = true := by decide +kernel
theorem hf_c16 {p : Nat} (h : 16384 ≤ p) (h2 : p < 17408) (h3 : p < 31744) : hf_ck p = true := by
  rcases Nat.lt_or_ge p 16416 with z0 | z0
  · exact hg_al_get 32 16384 p hf_c16_0 h z0 h3
  rcases Nat.lt_or_ge p 16448 with z1 | z1
  · exact hg_al_get 32 16416 p hf_c16_1 z0 z1 h3
  rcases Nat.lt_or_ge p 16480 with z2 | z2
  · exact hg_al_get 32 16448 p hf_c16_2 z1 z2 h3
  rcases Nat.lt_or_ge p 16512 with z3 | z3
  · exact hg_al_get 32 16480 p hf_c16_3 z2 z3 h3
  rcases Nat.lt_or_ge p 16544 with z4 | z4
  · exact hg_al_get 32 16512 p hf_c16_4 z3 z4 h3
  rcases Nat.lt_or_ge p 16576 with z5 | z5
  · exact hg_al_get 32 16544 p hf_c16_5 z4 z5 h3
  rcases Nat.lt_or_ge p 16608 with z6 | z6
  · exact hg_al_get 32 16576 p hf_c16_6 z5 z6 h3
  rcases Nat.lt_or_ge p 16640 with z7 | z7
  · exact hg_al_get 32 16608 p hf_c16_7 z6 z7 h3
  rcases Nat.lt_or_ge p 16672 with z8 | z8
  · exact hg_al_get 32 16640 p hf_c16_8 z7 z8 h3
  rcases Nat.lt_or_ge p 16704 with z9 | z9
  · exact hg_al_get 32 16672 p hf_c16_9 z8 z9 h3
  rcases Nat.lt_or_ge p 16736 with z10 | z10
  · exact hg_al_get 32 16704 p hf_c16_10 z9 z10 h3
  rcases Nat.lt_or_ge p 16768 with z11 | z11
  · exact hg_al_get 32 16736 p hf_c16_11 z10 z11 h3
  rcases Nat.lt_or_ge p 16800 with z12 | z12
  · exact hg_al_get 32 16768 p hf_c16_12 z11 z12 h3
  rcases Nat.lt_or_ge p 16832 with z13 | z13
  · exact hg_al_get 32 16800 p hf_c16_13 z12 z13 h3
  rcases Nat.lt_or_ge p 16864 with z14 | z14
  · exact hg_al_get 32 16832 p hf_c16_14 z13 z14 h3
  rcases Nat.lt_or_ge p 16896 with z15 | z15
  · exact hg_al_get 32 16864 p hf_c16_15 z14 z15 h3
  rcases Nat.lt_or_ge p 16928 with z16 | z16
  · exact hg_al_get 32 16896 p hf_c16_16 z15 z16 h3
  rcases Nat.lt_or_ge p 16960 with z17 | z17
  · exact hg_al_get 32 16928 p hf_c16_17 z16 z17 h3
  rcases Nat.lt_or_ge p 16992 with z18 | z18
  · exact hg_al_get 32 16960 p hf_c16_18 z17 z18 h3
  rcases Nat.lt_or_ge p 17024 with z19 | z19
  · exact hg_al_get 32 16992 p hf_c16_19 z18 z19 h3
  rcases Nat.lt_or_ge p 17056 with z20 | z20
  · exact hg_al_get 32 17024 p hf_c16_20 z19 z20 h3
  rcases Nat.lt_or_ge p 17088 with z21 | z21
  · exact hg_al_get 32 17056 p hf_c16_21 z20 z21 h3
  rcases Nat.lt_or_ge p 17120 with z22 | z22
  · exact hg_al_get 32 17088 p hf_c16_22 z21 z22 h3
  rcases Nat.lt_or_ge p 17152 with z23 | z23
  · exact hg_al_get 32 17120 p hf_c16_23 z22 z23 h3
  rcases Nat.lt_or_ge p 17184 with z24 | z24
  · exact hg_al_get 32 17152 p hf_c16_24 z23 z24 h3
  rcases Nat.lt_or_ge p 17216 with z25 | z25
  · exact hg_al_get 32 17184 p hf_c16_25 z24 z25 h3
  rcases Nat.lt_or_ge p 17248 with z26 | z26
  · exact hg_al_get 32 17216 p hf_c16_26 z25 z26 h3
  rcases Nat.lt_or_ge p 17280 with z27 | z27
  · exact hg_al_get 32 17248 p hf_c16_27 z26 z27 h3
  rcases Nat.lt_or_ge p 17312 with z28 | z28
  · exact hg_al_get 32 17280 p hf_c16_28 z27 z28 h3
  rcases Nat.lt_or_ge p 17344 with z29 | z29
  · exact hg_al_get 32 17312 p hf_c16_29 z28 z29 h3
  rcases Nat.lt_or_ge p 17376 with z30 | z30
  · exact hg_al_get 32 17344 p hf_c16_30 z29 z30 h3
  exact hg_al_get 32 17376 p hf_c16_31 z30 h2 h3
theorem hf_c17_0 : hg_al 32 17408 = true := by decide +kernel
theorem hf_c17_1 : hg_al 32 17440 = true := by decide +kernel
theorem hf_c17_2 : hg_al 32 17472 = true := by decide +kernel
theorem hf_c17_3 : hg_al 32 17504 = true := by decide +kernel
theorem hf_c17_4 : hg_al 32 17536 = true := by decide +kernel
theorem hf_c17_5 : hg_al 32 17568 = true := by decide +kernel
theorem hf_c17_6 : hg_al 32 17600 = true := by decide +kernel
theorem hf_c17_7 : hg_al 32 17632 = true := by decide +kernel
theorem hf_c17_8 : hg_al 32 17664 = true := by decide +kernel
theorem hf_c17_9 : hg_al 32 17696 = true := by decide +kernel
theorem hf_c17_10 : hg_al 32 17728 = true := by decide +kernel
theorem hf_c17_11 : hg_al 32 17760 = true := by decide +kernel
theorem hf_c17_12 : hg_al 32 17792 = true := by decide +kernel
theorem hf_c17_13 : hg_al 32 17824 = true := by decide +kernel
theorem hf_c17_14 : hg_al 32 17856 = true := by decide +kernel
theorem hf_c17_15 : hg_al 32 17888 = true := by decide +kernel
theorem hf_c17_16 : hg_al 32 17920 = true := by decide +kernel
theorem hf_c17_17 : hg_al 32 17952 = true := by decide +kernel
theorem hf_c17_18 : hg_al 32 17984 = true := by decide +kernel
theorem hf_c17_19 : hg_al 32 18016 = true := by decide +kernel
theorem hf_c17_20 : hg_al 32 18048 = true := by decide +kernel
theorem hf_c17_21 : hg_al 32 18080 = true := by decide +kernel
theorem hf_c17_22 : hg_al 32 18112 = true := by decide +kernel
theorem hf_c17_23 : hg_al 32 18144 = true := by decide +kernel
theorem hf_c17_24 : hg_al 32 18176 = true := by decide +kernel
theorem hf_c17_25 : hg_al 32 18208 = true := by decide +kernel
theorem hf_c17_26 : hg_al 32 18240 = true := by decide +kernel
theorem hf_c17_27 : hg_al 32 18272 = true := by decide +kernel
theorem hf_c17_28 : hg_al 32 18304 = true := by decide +kernel
theorem hf_c17_29 : hg_al 32 18336 = true := by decide +kernel
theorem hf_c17_30 : hg_al 32 18368 = true := by decide +kernel
theorem hf_c17_31 : hg_al 32 18400 = true := by decide +kernel
theorem hf_c17 {p : Nat} (h : 17408 ≤ p) (h2 : p < 18432) (h3 : p < 31744) : hf_ck p = true := by
  rcases Nat.lt_or_ge p 17440 with z0 | z0
  · exact hg_al_get 32 17408 p hf_c17_0 h z0 h3
  rcases Nat.lt_or_ge p 17472 with z1 | z1
  · exact hg_al_get 32 17440 p hf_c17_1 z0 z1 h3
  rcases Nat.lt_or_ge p 17504 with z2 | z2
  · exact hg_al_get 32 17472 p hf_c17_2 z1 z2 h3
  rcases Nat.lt_or_ge p 17536 with z3 | z3
  · exact hg_al_get 32 17504 p hf_c17_3 z2 z3 h3
  rcases Nat.lt_or_ge p 17568 with z4 | z4
  · exact hg_al_get 32 17536 p hf_c17_4 z3 z4 h3
  rcases Nat.lt_or_ge p 17600 with z5 | z5
  · exact hg_al_get 32 17568 p hf_c17_5 z4 z5 h3
  rcases Nat.lt_or_ge p 17632 with z6 | z6
  · exact hg_al_get 32 17600 p hf_c17_6 z5 z6 h3
  rcases Nat.lt_or_ge p 17664 with z7 | z7
  · exact hg_al_get 32 17632 p hf_c17_7 z6 z7 h3
  rcases Nat.lt_or_ge p 17696 with z8 | z8
  · exact hg_al_get 32 17664 p hf_c17_8 z7 z8 h3
  rcases Nat.lt_or_ge p 17728 with z9 | z9
  · exact hg_al_get 32 17696 p hf_c17_9 z8 z9 h3
  rcases Nat.lt_or_ge p 17760 with z10 | z10
  · exact hg_al_get 32 17728 p hf_c17_10 z9 z10 h3
  rcases Nat.lt_or_ge p 17792 with z11 | z11
  · exact hg_al_get 32 17760 p hf_c17_11 z10 z11 h3
  rcases Nat.lt_or_ge p 17824 with z12 | z12
  · exact hg_al_get 32 17792 p hf_c17_12 z11 z12 h3
  rcases Nat.lt_or_ge p 17856 with z13 | z13
  · exact hg_al_get 32 17824 p hf_c17_13 z12 z13 h3
  rcases Nat.lt_or_ge p 17888 with z14 | z14
  · exact hg_al_get 32 17856 p hf_c17_14 z13 z14 h3
  rcases Nat.lt_or_ge p 17920 with z15 | z15
  · exact hg_al_get 32 17888 p hf_c17_15 z14 z15 h3
  rcases Nat.lt_or_ge p 17952 with z16 | z16
  · exact hg_al_get 32 17920 p hf_c17_16 z15 z16 h3
  rcases Nat.lt_or_ge p 17984 with z17 | z17
  · exact hg_al_get 32 17952 p hf_c17_17 z16 z17 h3
  rcases Nat.lt_or_ge p 18016 with z18 | z18
  · exact hg_al_get 32 17984 p hf_c17_18 z17 z18 h3
  rcases Nat.lt_or_ge p 18048 with z19 | z19
  · exact hg_al_get 32 18016 p hf_c17_19 z18 z19 h3
  rcases Nat.lt_or_ge p 18080 with z20 | z20
  · exact hg_al_get 32 18048 p hf_c17_20 z19 z20 h3
  rcases Nat.lt_or_ge p 18112 with z21 | z21
  · exact hg_al_get 32 18080 p hf_c17_21 z20 z21 h3
  rcases Nat.lt_or_ge p 18144 with z22 | z22
  · exact hg_al_get 32 18112 p hf_c17_22 z21 z22 h3
  rcases Nat.lt_or_ge p 18176 with z23 | z23
  · exact hg_al_get 32 18144 p hf_c17_23 z22 z23 h3
  rcases Nat.lt_or_ge p 18208 with z24 | z24
  · exact hg_al_get 32 18176 p hf_c17_24 z23 z24 h3
  rcases Nat.lt_or_ge p 18240 with z25 | z25
  · exact hg_al_get 32 18208 p hf_c17_25 z24 z25 h3
  rcases Nat.lt_or_ge p 18272 with z26 | z26
  · exact hg_al_get 32 18240 p hf_c17_26 z25 z26 h3
  rcases Nat.lt_or_ge p 18304 with z27 | z27
  · exact hg_al_get 32 18272 p hf_c17_27 z26 z27 h3
  rcases Nat.lt_or_ge p 18336 with z28 | z28
  · exact hg_al_get 32 18304 p hf_c17_28 z27 z28 h3
  rcases Nat.lt_or_ge p 18368 with z29 | z29
  · exact hg_al_get 32 18336 p hf_c17_29 z28 z29 h3
  rcases Nat.lt_or_ge p 18400 with z30 | z30
  · exact hg_al_get 32 18368 p hf_c17_30 z29 z30 h3
  exact hg_al_get 32 18400 p hf_c17_31 z30 h2 h3
theorem hf_c18_0 : hg_al 32 18432 = true := by decide +kernel
theorem hf_c18_1 : hg_al 32 18464 = true := by decide +kernel
theorem hf_c18_2 : hg_al 32 18496 = true := by decide +kernel
theorem hf_c18_3 : hg_al 32 18528 = true := by decide +kernel
theorem hf_c18_4 : hg_al 32 18560 = true := by decide +kernel
theorem hf_c18_5 : hg_al 32 18592 = true := by decide +kernel
theorem hf_c18_6 : hg_al 32 18624 = true := by decide +kernel
theorem hf_c18_7 : hg_al 32 18656 = true := by decide +kernel
theorem hf_c18_8 : hg_al 32 18688 = true := by decide +kernel
theorem hf_c18_9 : hg_al 32 18720 = true := by decide +kernel
theorem hf_c18_10 : hg_al 32 18752 = true := by decide +kernel
theorem hf_c18_11 : hg_al 32 18784 = true := by decide +kernel
theorem hf_c18_12 : hg_al 32 18816 = true := by decide +kernel
theorem hf_c18_13 : hg_al 32 18848 = true := by decide +kernel
theorem hf_c18_14 : hg_al 32 18880 = true := by decide +kernel
theorem hf_c18_15 : hg_al 32 18912 = true := by decide +kernel
theorem hf_c18_16 : hg_al 32 18944 = true := by decide +kernel
theorem hf_c18_17 : hg_al 32 18976 = true := by decide +kernel
theorem hf_c18_18 : hg_al 32 19008 = true := by decide +kernel
theorem hf_c18_19 : hg_al 32 19040 = true := by decide +kernel
theorem hf_c18_20 : hg_al 32 19072 = true := by decide +kernel
theorem hf_c18_21 : hg_al 32 19104 = true := by decide +kernel
theorem hf_c18_22 : hg_al 32 19136 = true := by decide +kernel
theorem hf_c18_23 : hg_al 32 19168 = true := by decide +kernel
theorem hf_c18_24 : hg_al 32 19200 = true := by decide +kernel
theorem hf_c18_25 : hg_al 32 19232 = true := by decide +kernel
theorem hf_c18_26 : hg_al 32 19264 = true := by decide +kernel
theorem hf_c18_27 : hg_al 32 19296 = true := by decide +kernel
theorem hf_c18_28 : hg_al 32 19328 = true := by decide +kernel
theorem hf_c18_29 : hg_al 32 19360 = true := by decide +kernel
theorem hf_c18_30 : hg_al 32 19392 = true := by decide +kernel
theorem hf_c18_31 : hg_al 32 19424 = true := by decide +kernel
theorem hf_c18 {p : Nat} (h : 18432 ≤ p) (h2 : p < 19456) (h3 : p < 31744) : hf_ck p = true := by
  rcases Nat.lt_or_ge p 18464 with z0 | z0
  · exact hg_al_get 32 18432 p hf_c18_0 h z0 h3
  rcases Nat.lt_or_ge p 18496 with z1 | z1
  · exact hg_al_get 32 18464 p hf_c18_1 z0 z1 h3
  rcases Nat.lt_or_ge p 18528 with z2 | z2
  · exact hg_al_get 32 18496 p hf_c18_2 z1 z2 h3
  rcases Nat.lt_or_ge p 18560 with z3 | z3
  · exact hg_al_get 32 18528 p hf_c18_3 z2 z3 h3
  rcases Nat.lt_or_ge p 18592 with z4 | z4
  · exact hg_al_get 32 18560 p hf_c18_4 z3 z4 h3
  rcases Nat.lt_or_ge p 18624 with z5 | z5
  · exact hg_al_get 32 18592 p hf_c18_5 z4 z5 h3
  rcases Nat.lt_or_ge p 18656 with z6 | z6
  · exact hg_al_get 32 18624 p hf_c18_6 z5 z6 h3
  rcases Nat.lt_or_ge p 18688 with z7 | z7
  · exact hg_al_get 32 18656 p hf_c18_7 z6 z7 h3
  rcases Nat.lt_or_ge p 18720 with z8 | z8
  · exact hg_al_get 32 18688 p hf_c18_8 z7 z8 h3
  rcases Nat.lt_or_ge p 18752 with z9 | z9
  · exact hg_al_get 32 18720 p hf_c18_9 z8 z9 h3
  rcases Nat.lt_or_ge p 18784 with z10 | z10
  · exact hg_al_get 32 18752 p hf_c18_10 z9 z10 h3
  rcases Nat.lt_or_ge p 18816 with z11 | z11
  · exact hg_al_get 32 18784 p hf_c18_11 z10 z11 h3
  rcases Nat.lt_or_ge p 18848 with z12 | z12
  · exact hg_al_get 32 18816 p hf_c18_12 z11 z12 h3
  rcases Nat.lt_or_ge p 18880 with z13 | z13
  · exact hg_al_get 32 18848 p hf_c18_13 z12 z13 h3
  rcases Nat.lt_or_ge p 18912 with z14 | z14
  · exact hg_al_get 32 18880 p hf_c18_14 z13 z14 h3
  rcases Nat.lt_or_ge p 18944 with z15 | z15
  · exact hg_al_get 32 18912 p hf_c18_15 z14 z15 h3
  rcases Nat.lt_or_ge p 18976 with z16 | z16
  · exact hg_al_get 32 18944 p hf_c18_16 z15 z16 h3
  rcases Nat.lt_or_ge p 19008 with z17 | z17
  · exact hg_al_get 32 18976 p hf_c18_17 z16 z17 h3
  rcases Nat.lt_or_ge p 19040 with z18 | z18
  · exact hg_al_get 32 19008 p hf_c18_18 z17 z18 h3
  rcases Nat.lt_or_ge p 19072 with z19 | z19
  · exact hg_al_get 32 19040 p hf_c18_19 z18 z19 h3
  rcases Nat.lt_or_ge p 19104 with z20 | z20
  · exact hg_al_get 32 19072 p hf_c18_20 z19 z20 h3
  rcases Nat.lt_or_ge p 19136 with z21 | z21
  · exact hg_al_get 32 19104 p hf_c18_21 z20 z21 h3
  rcases Nat.lt_or_ge p 19168 with z22 | z22
  · exact hg_al_get 32 19136 p hf_c18_22 z21 z22 h3
  rcases Nat.lt_or_ge p 19200 with z23 | z23
  · exact hg_al_get 32 19168 p hf_c18_23 z22 z23 h3
  rcases Nat.lt_or_ge p 19232 with z24 | z24
  · exact hg_al_get 32 19200 p hf_c18_24 z23 z24 h3
  rcases Nat.lt_or_ge p 19264 with z25 | z25
  · exact hg_al_get 32 19232 p hf_c18_25 z24 z25 h3
  rcases Nat.lt_or_ge p 19296 with z26 | z26
  · exact hg_al_get 32 19264 p hf_c18_26 z25 z26 h3
  rcases Nat.lt_or_ge p 19328 with z27 | z27
  · exact hg_al_get 32 19296 p hf_c18_27 z26 z27 h3
  rcases Nat.lt_or_ge p 19360 with z28 | z28
  · exact hg_al_get 32 19328 p hf_c18_28 z27 z28 h3
  rcases Nat.lt_or_ge p 19392 with z29 | z29
  · exact hg_al_get 32 19360 p hf_c18_29 z28 z29 h3
  rcases Nat.lt_or_ge p 19424 with z30 | z30
  · exact hg_al_get 32 19392 p hf_c18_30 z29 z30 h3
  exact hg_al_get 32 19424 p hf_c18_31 z30 h2 h3
theorem hf_c19_0 : hg_al 32 19456 = true := by decide +kernel
theorem hf_c19_1 : hg_al 32 19488 = true := by decide +kernel
theorem hf_c19_2 : hg_al 32 19520 = true := by decide +kernel
theorem hf_c19_3 : hg_al 32 19552 = true := by decide +kernel
theorem hf_c19_4 : hg_al 32 19584 = true := by decide +kernel
theorem hf_c19_5 : hg_al 32 19616 = true := by decide +kernel
theorem hf_c19_6 : hg_al 32 19648 = true := by decide +kernel
theorem hf_c19_7 : hg_al 32 19680 = true := by decide +kernel
theorem hf_c19_8 : hg_al 32 19712 = true := by decide +kernel
theorem hf_c19_9 : hg_al 32 19744 = true := by decide +kernel
theorem hf_c19_10 : hg_al 32 19776 = true := by decide +kernel
theorem hf_c19_11 : hg_al 32 19808 = true := by decide +kernel
theorem hf_c19_12 : hg_al 32 19840 = true := by decide +kernel
theorem hf_c19_13 : hg_al 32 19872 = true := by decide +kernel
theorem hf_c19_14 : hg_al 32 19904 = true := by decide +kernel
theorem hf_c19_15 : hg_al 32 19936 = true := by decide +kernel
theorem hf_c19_16 : hg_al 32 19968 = true := by decide +kernel
theorem hf_c19_17 : hg_al 32 20000 = true := by decide +kernel
theorem hf_c19_18 : hg_al 32 20032 = true := by decide +kernel
theorem hf_c19_19 : hg_al 32 20064 = true := by decide +kernel
theorem hf_c19_20 : hg_al 32 20096 = true := by decide +kernel
theorem hf_c19_21 : hg_al 32 20128 = true := by decide +kernel
theorem hf_c19_22 : hg_al 32 20160 = true := by decide +kernel
theorem hf_c19_23 : hg_al 32 20192 = true := by decide +kernel
theorem hf_c19_24 : hg_al 32 20224 = true := by decide +kernel
theorem hf_c19_25 : hg_al 32 20256 = true := by decide +kernel
theorem hf_c19_26 : hg_al 32 20288 = true := by decide +kernel
theorem hf_c19_27 : hg_al 32 20320 = true := by decide +kernel
theorem hf_c19_28 : hg_al 32 20352 = true := by decide +kernel
theorem hf_c19_29 : hg_al 32 20384 = true := by decide +kernel
theorem hf_c19_30 : hg_al 32 20416 = true := by decide +kernel
theorem hf_c19_31 : hg_al 32 20448 = true := by decide +kernel
theorem hf_c19 {p : Nat} (h : 19456 ≤ p) (h2 : p < 20480) (h3 : p < 31744) : hf_ck p = true := by
  rcases Nat.lt_or_ge p 19488 with z0 | z0
  · exact hg_al_get 32 19456 p hf_c19_0 h z0 h3
  rcases Nat.lt_or_ge p 19520 with z1 | z1
  · exact hg_al_get 32 19488 p hf_c19_1 z0 z1 h3
  rcases Nat.lt_or_ge p 19552 with z2 | z2
  · exact hg_al_get 32 19520 p hf_c19_2 z1 z2 h3
  rcases Nat.lt_or_ge p 19584 with z3 | z3
  · exact hg_al_get 32 19552 p hf_c19_3 z2 z3 h3
  rcases Nat.lt_or_ge p 19616 with z4 | z4
  · exact hg_al_get 32 19584 p hf_c19_4 z3 z4 h3
  rcases Nat.lt_or_ge p 19648 with z5 | z5
  · exact hg_al_get 32 19616 p hf_c19_5 z4 z5 h3
  rcases Nat.lt_or_ge p 19680 with z6 | z6
  · exact hg_al_get 32 19648 p hf_c19_6 z5 z6 h3
  rcases Nat.lt_or_ge p 19712 with z7 | z7
  · exact hg_al_get 32 19680 p hf_c19_7 z6 z7 h3
  rcases Nat.lt_or_ge p 19744 with z8 | z8
  · exact hg_al_get 32 19712 p hf_c19_8 z7 z8 h3
  rcases Nat.lt_or_ge p 19776 with z9 | z9
  · exact hg_al_get 32 19744 p hf_c19_9 z8 z9 h3
  rcases Nat.lt_or_ge p 19808 with z10 | z10
  · exact hg_al_get 32 19776 p hf_c19_10 z9 z10 h3
  rcases Nat.lt_or_ge p 19840 with z11 | z11
  · exact hg_al_get 32 19808 p hf_c19_11 z10 z11 h3
  rcases Nat.lt_or_ge p 19872 with z12 | z12
  · exact hg_al_get 32 19840 p hf_c19_12 z11 z12 h3
  rcases Nat.lt_or_ge p 19904 with z13 | z13
  · exact hg_al_get 32 19872 p hf_c19_13 z12 z13 h3
  rcases Nat.lt_or_ge p 19936 with z14 | z14
  · exact hg_al_get 32 19904 p hf_c19_14 z13 z14 h3
  rcases Nat.lt_or_ge p 19968 with z15 | z15
  · exact hg_al_get 32 19936 p hf_c19_15 z14 z15 h3
  rcases Nat.lt_or_ge p 20000 with z16 | z16
  · exact hg_al_get 32 19968 p hf_c19_16 z15 z16 h3
  rcases Nat.lt_or_ge p 20032 with z17 | z17
  · exact hg_al_get 32 20000 p hf_c19_17 z16 z17 h3
  rcases Nat.lt_or_ge p 20064 with z18 | z18
  · exact hg_al_get 32 20032 p hf_c19_18 z17 z18 h3
  rcases Nat.lt_or_ge p 20096 with z19 | z19
  · exact hg_al_get 32 20064 p hf_c19_19 z18 z19 h3
  rcases Nat.lt_or_ge p 20128 with z20 | z20
  · exact hg_al_get 32 20096 p hf_c19_20 z19 z20 h3
  rcases Nat.lt_or_ge p 20160 with z21 | z21
  · exact hg_al_get 32 20128 p hf_c19_21 z20 z21 h3
  rcases Nat.lt_or_ge p 20192 with z22 | z22
  · exact hg_al_get 32 20160 p hf_c19_22 z21 z22 h3
  rcases Nat.lt_or_ge p 20224 with z23 | z23
  · exact hg_al_get 32 20192 p hf_c19_23 z22 z23 h3
  rcases Nat.lt_or_ge p 20256 with z24 | z24
  · exact hg_al_get 32 20224 p hf_c19_24 z23 z24 h3
  rcases Nat.lt_or_ge p 20288 with z25 | z25
  · exact hg_al_get 32 20256 p hf_c19_25 z24 z25 h3
  rcases Nat.lt_or_ge p 20320 with z26 | z26
  · exact hg_al_get 32 20288 p hf_c19_26 z25 z26 h3
  rcases Nat.lt_or_ge p 20352 with z27 | z27
  · exact hg_al_get 32 20320 p hf_c19_27 z26 z27 h3
  rcases Nat.lt_or_ge p 20384 with z28 | z28
  · exact hg_al_get 32 20352 p hf_c19_28 z27 z28 h3
  rcases Nat.lt_or_ge p 20416 with z29 | z29
  · exact hg_al_get 32 20384 p hf_c19_29 z28 z29 h3
  rcases Nat.lt_or_ge p 20448 with z30 | z30
  · exact hg_al_get 32 20416 p hf_c19_30 z29 z30 h3
  exact hg_al_get 32 20448 p hf_c19_31 z30 h2 h3
theorem hf_c20_0 : hg_al 32 20480 = true := by decide +kernel
theorem hf_c20_1 : hg_al 32 20512 = true := by decide +kernel
theorem hf_c20_2 : hg_al 32 20544 = true := by decide +kernel
theorem hf_c20_3 : hg_al 32 20576 = true := by decide +kernel
theorem hf_c20_4 : hg_al 32 20608 = true := by decide +kernel
theorem hf_c20_5 : hg_al 32 20640 = true := by decide +kernel
theorem hf_c20_6 : hg_al 32 20672 = true := by decide +kernel
theorem hf_c20_7 : hg_al 32 20704 = true := by decide +kernel
theorem hf_c20_8 : hg_al 32 20736 = true := by decide +kernel
theorem hf_c20_9 : hg_al 32 20768 = true := by decide +kernel
theorem hf_c20_10 : hg_al 32 20800 = true := by decide +kernel
theorem hf_c20_11 : hg_al 32 20832 = true := by decide +kernel
theorem hf_c20_12 : hg_al 32 20864 = true := by decide +kernel
theorem hf_c20_13 : hg_al 32 20896 = true := by decide +kernel
theorem hf_c20_14 : hg_al 32 20928 = true := by decide +kernel
theorem hf_c20_15 : hg_al 32 20960 = true := by decide +kernel
theorem hf_c20_16 : hg_al 32 20992 = true := by decide +kernel
theorem hf_c20_17 : hg_al 32 21024 = true := by decide +kernel
theorem hf_c20_18 : hg_al 32 21056 = true := by decide +kernel
theorem hf_c20_19 : hg_al 32 21088 = true := by decide +kernel
theorem hf_c20_20 : hg_al 32 21120 = true := by decide +kernel
theorem hf_c20_21 : hg_al 32 21152 = true := by decide +kernel
theorem hf_c20_22 : hg_al 32 21184 = true := by decide +kernel
theorem hf_c20_23 : hg_al 32 21216 = true := by decide +kernel
theorem hf_c20_24 : hg_al 32 21248 = true := by decide +kernel
theorem hf_c20_25 : hg_al 32 21280 = true := by decide +kernel
theorem hf_c20_26 : hg_al 32 21312 = true := by decide +kernel
theorem hf_c20_27 : hg_al 32 21344 = true := by decide +kernel
theorem hf_c20_28 : hg_al 32 21376 = true := by decide +kernel
theorem hf_c20_29 : hg_al 32 21408 = true := by decide +kernel
theorem hf_c20_30 : hg_al 32 21440 = true := by decide +kernel
theorem hf_c20_31 : hg_al 32 21472 = true := by decide +kernel
theorem hf_c20 {p : Nat} (h : 20480 ≤ p) (h2 : p < 21504) (h3 : p < 31744) : hf_ck p = true := by
  rcases Nat.lt_or_ge p 20512 with z0 | z0
  · exact hg_al_get 32 20480 p hf_c20_0 h z0 h3
  rcases Nat.lt_or_ge p 20544 with z1 | z1
  · exact hg_al_get 32 20512 p hf_c20_1 z0 z1 h3
  rcases Nat.lt_or_ge p 20576 with z2 | z2
  · exact hg_al_get 32 20544 p hf_c20_2 z1 z2 h3
  rcases Nat.lt_or_ge p 20608 with z3 | z3
  · exact hg_al_get 32 20576 p hf_c20_3 z2 z3 h3
  rcases Nat.lt_or_ge p 20640 with z4 | z4
  · exact hg_al_get 32 20608 p hf_c20_4 z3 z4 h3
  rcases Nat.lt_or_ge p 20672 with z5 | z5
  · exact hg_al_get 32 20640 p hf_c20_5 z4 z5 h3
  rcases Nat.lt_or_ge p 20704 with z6 | z6
  · exact hg_al_get 32 20672 p hf_c20_6 z5 z6 h3
  rcases Nat.lt_or_ge p 20736 with z7 | z7
  · exact hg_al_get 32 20704 p hf_c20_7 z6 z7 h3
  rcases Nat.lt_or_ge p 20768 with z8 | z8
  · exact hg_al_get 32 20736 p hf_c20_8 z7 z8 h3
  rcases Nat.lt_or_ge p 20800 with z9 | z9
  · exact hg_al_get 32 20768 p hf_c20_9 z8 z9 h3
  rcases Nat.lt_or_ge p 20832 with z10 | z10
  · exact hg_al_get 32 20800 p hf_c20_10 z9 z10 h3
  rcases Nat.lt_or_ge p 20864 with z11 | z11
  · exact hg_al_get 32 20832 p hf_c20_11 z10 z11 h3
  rcases Nat.lt_or_ge p 20896 with z12 | z12
  · exact hg_al_get 32 20864 p hf_c20_12 z11 z12 h3
  rcases Nat.lt_or_ge p 20928 with z13 | z13
  · exact hg_al_get 32 20896 p hf_c20_13 z12 z13 h3
  rcases Nat.lt_or_ge p 20960 with z14 | z14
  · exact hg_al_get 32 20928 p hf_c20_14 z13 z14 h3
  rcases Nat.lt_or_ge p 20992 with z15 | z15
  · exact hg_al_get 32 20960 p hf_c20_15 z14 z15 h3
  rcases Nat.lt_or_ge p 21024 with z16 | z16
  · exact hg_al_get 32 20992 p hf_c20_16 z15 z16 h3
  rcases Nat.lt_or_ge p 21056 with z17 | z17
  · exact hg_al_get 32 21024 p hf_c20_17 z16 z17 h3
  rcases Nat.lt_or_ge p 21088 with z18 | z18
  · exact hg_al_get 32 21056 p hf_c20_18 z17 z18 h3
  rcases Nat.lt_or_ge p 21120 with z19 | z19
  · exact hg_al_get 32 21088 p hf_c20_19 z18 z19 h3
  rcases Nat.lt_or_ge p 21152 with z20 | z20
  · exact hg_al_get 32 21120 p hf_c20_20 z19 z20 h3
  rcases Nat.lt_or_ge p 21184 with z21 | z21
  · exact hg_al_get 32 21152 p hf_c20_21 z20 z21 h3
  rcases Nat.lt_or_ge p 21216 with z22 | z22
  · exact hg_al_get 32 21184 p hf_c20_22 z21 z22 h3
  rcases Nat.lt_or_ge p 21248 with z23 | z23
  · exact hg_al_get 32 21216 p hf_c20_23 z22 z23 h3
  rcases Nat.lt_or_ge p 21280 with z24 | z24
  · exact hg_al_get 32 21248 p hf_c20_24 z23 z24 h3
  rcases Nat.lt_or_ge p 21312 with z25 | z25
  · exact hg_al_get 32 21280 p hf_c20_25 z24 z25 h3
  rcases Nat.lt_or_ge p 21344 with z26 | z26
  · exact hg_al_get 32 21312 p hf_c20_26 z25 z26 h3
  rcases Nat.lt_or_ge p 21376 with z27 | z27
  · exact hg_al_get 32 21344 p hf_c20_27 z26 z27 h3
  rcases Nat.lt_or_ge p 21408 with z28 | z28
  · exact hg_al_get 32 21376 p hf_c20_28 z27 z28 h3
  rcases Nat.lt_or_ge p 21440 with z29 | z29
  · exact hg_al_get 32 21408 p hf_c20_29 z28 z29 h3
  rcases Nat.lt_or_ge p 21472 with z30 | z30
  · exact hg_al_get 32 21440 p hf_c20_30 z29 z30 h3
  exact hg_al_get 32 21472 p hf_c20_31 z30 h2 h3
theorem hf_c21_0 : hg_al 32 21504 = true := by decide +kernel
theorem hf_c21_1 : hg_al 32 21536 = true := by decide +kernel
theorem hf_c21_2 : hg_al 32 21568 = true := by decide +kernel
theorem hf_c21_3 : hg_al 32 21600 = true := by decide +kernel
theorem hf_c21_4 : hg_al 32 21632 = true := by decide +kernel
theorem hf_c21_5 : hg_al 32 21664 = true := by decide +kernel
theorem hf_c21_6 : hg_al 32 21696 = true := by decide +kernel
theorem hf_c21_7 : hg_al 32 21728 = true := by decide +kernel
theorem hf_c21_8 : hg_al 32 21760 = true := by decide +kernel
theorem hf_c21_9 : hg_al 32 21792 = true := by decide +kernel
theorem hf_c21_10 : hg_al 32 21824 = true := by decide +kernel
theorem hf_c21_11 : hg_al 32 21856 = true := by decide +kernel
theorem hf_c21_12 : hg_al 32 21888 = true := by decide +kernel
theorem hf_c21_13 : hg_al 32 21920 = true := by decide +kernel
theorem hf_c21_14 : hg_al 32 21952 = true := by decide +kernel
theorem hf_c21_15 : hg_al 32 21984 = true := by decide +kernel
theorem hf_c21_16 : hg_al 32 22016 = true := by decide +kernel
theorem hf_c21_17 : hg_al 32 22048 = true := by decide +kernel
theorem hf_c21_18 : hg_al 32 22080 = true := by decide +kernel
theorem hf_c21_19 : hg_al 32 22112 = true := by decide +kernel
theorem hf_c21_20 : hg_al 32 22144 = true := by decide +kernel
theorem hf_c21_21 : hg_al 32 22176 = true := by decide +kernel
theorem hf_c21_22 : hg_al 32 22208 = true := by decide +kernel
theorem hf_c21_23 : hg_al 32 22240 = true := by decide +kernel
theorem hf_c21_24 : hg_al 32 22272 = true := by decide +kernel
theorem hf_c21_25 : hg_al 32 22304 = true := by decide +kernel
theorem hf_c21_26 : hg_al 32 22336 = true := by decide +kernel
theorem hf_c21_27 : hg_al 32 22368 = true := by decide +kernel
theorem hf_c21_28 : hg_al 32 22400 = true := by decide +kernel
theorem hf_c21_29 : hg_al 32 22432 = true := by decide +kernel
theorem hf_c21_30 : hg_al 32 22464 = true := by decide +kernel
theorem hf_c21_31 : hg_al 32 22496 = true := by decide +kernel
theorem hf_c21 {p : Nat} (h : 21504 ≤ p) (h2 : p < 22528) (h3 : p < 31744) : hf_ck p = true := by
  rcases Nat.lt_or_ge p 21536 with z0 | z0
  · exact hg_al_get 32 21504 p hf_c21_0 h z0 h3
  rcases Nat.lt_or_ge p 21568 with z1 | z1
  · exact hg_al_get 32 21536 p hf_c21_1 z0 z1 h3
  rcases Nat.lt_or_ge p 21600 with z2 | z2
  · exact hg_al_get 32 21568 p hf_c21_2 z1 z2 h3
  rcases Nat.lt_or_ge p 21632 with z3 | z3
  · exact hg_al_get 32 21600 p hf_c21_3 z2 z3 h3
  rcases Nat.lt_or_ge p 21664 with z4 | z4
  · exact hg_al_get 32 21632 p hf_c21_4 z3 z4 h3
  rcases Nat.lt_or_ge p 21696 with z5 | z5
  · exact hg_al_get 32 21664 p hf_c21_5 z4 z5 h3
  rcases Nat.lt_or_ge p 21728 with z6 | z6
  · exact hg_al_get 32 21696 p hf_c21_6 z5 z6 h3
  rcases Nat.lt_or_ge p 21760 with z7 | z7
  · exact hg_al_get 32 21728 p hf_c21_7 z6 z7 h3
  rcases Nat.lt_or_ge p 21792 with z8 | z8
  · exact hg_al_get 32 21760 p hf_c21_8 z7 z8 h3
  rcases Nat.lt_or_ge p 21824 with z9 | z9
  · exact hg_al_get 32 21792 p hf_c21_9 z8 z9 h3
  rcases Nat.lt_or_ge p 21856 with z10 | z10
  · exact hg_al_get 32 21824 p hf_c21_10 z9 z10 h3
  rcases Nat.lt_or_ge p 21888 with z11 | z11
  · exact hg_al_get 32 21856 p hf_c21_11 z10 z11 h3
  rcases Nat.lt_or_ge p 21920 with z12 | z12
  · exact hg_al_get 32 21888 p hf_c21_12 z11 z12 h3
  rcases Nat.lt_or_ge p 21952 with z13 | z13
  · exact hg_al_get 32 21920 p hf_c21_13 z12 z13 h3
  rcases Nat.lt_or_ge p 21984 with z14 | z14
  · exact hg_al_get 32 21952 p hf_c21_14 z13 z14 h3
  rcases Nat.lt_or_ge p 22016 with z15 | z15
  · exact hg_al_get 32 21984 p hf_c21_15 z14 z15 h3
  rcases Nat.lt_or_ge p 22048 with z16 | z16
  · exact hg_al_get 32 22016 p hf_c21_16 z15 z16 h3
  rcases Nat.lt_or_ge p 22080 with z17 | z17
  · exact hg_al_get 32 22048 p hf_c21_17 z16 z17 h3
  rcases Nat.lt_or_ge p 22112 with z18 | z18
  · exact hg_al_get 32 22080 p hf_c21_18 z17 z18 h3
  rcases Nat.lt_or_ge p 22144 with z19 | z19
  · exact hg_al_get 32 22112 p hf_c21_19 z18 z19 h3
  rcases Nat.lt_or_ge p 22176 with z20 | z20
  · exact hg_al_get 32 22144 p hf_c21_20 z19 z20 h3
  rcases Nat.lt_or_ge p 22208 with z21 | z21
  · exact hg_al_get 32 22176 p hf_c21_21 z20 z21 h3
  rcases Nat.lt_or_ge p 22240 with z22 | z22
  · exact hg_al_get 32 22208 p hf_c21_22 z21 z22 h3
  rcases Nat.lt_or_ge p 22272 with z23 | z23
  · exact hg_al_get 32 22240 p hf_c21_23 z22 z23 h3
  rcases Nat.lt_or_ge p 22304 with z24 | z24
  · exact hg_al_get 32 22272 p hf_c21_24 z23 z24 h3
  rcases Nat.lt_or_ge p 22336 with z25 | z25
  · exact hg_al_get 32 22304 p hf_c21_25 z24 z25 h3
  rcases Nat.lt_or_ge p 22368 with z26 | z26
  · exact hg_al_get 32 22336 p hf_c21_26 z25 z26 h3
  rcases Nat.lt_or_ge p 22400 with z27 | z27
  · exact hg_al_get 32 22368 p hf_c21_27 z26 z27 h3
  rcases Nat.lt_or_ge p 22432 with z28 | z28
  · exact hg_al_get 32 22400 p hf_c21_28 z27 z28 h3
  rcases Nat.lt_or_ge p 22464 with z29 | z29
  · exact hg_al_get 32 22432 p hf_c21_29 z28 z29 h3
  rcases Nat.lt_or_ge p 22496 with z30 | z30
  · exact hg_al_get 32 22464 p hf_c21_30 z29 z30 h3
  exact hg_al_get 32 22496 p hf_c21_31 z30 h2 h3
theorem hf_c22_0 : hg_al 32 22528 = true := by decide +kernel
theorem hf_c22_1 : hg_al 32 22560 = true := by decide +kernel
theorem hf_c22_2 : hg_al 32 22592 = true := by decide +kernel
theorem hf_c22_3 : hg_al 32 22624 = true := by decide +kernel
theorem hf_c22_4 : hg_al 32 22656 = true := by decide +kernel
theorem hf_c22_5 : hg_al 32 22688 = true := by decide +kernel
theorem hf_c22_6 : hg_al 32 22720 = true := by decide +kernel
theorem hf_c22_7 : hg_al 32 22752 = true := by decide +kernel
theorem hf_c22_8 : hg_al 32 22784 = true := by decide +kernel
theorem hf_c22_9 : hg_al 32 22816 = true := by decide +kernel
theorem hf_c22_10 : hg_al 32 22848 = true := by decide +kernel
theorem hf_c22_11 : hg_al 32 22880 = true := by decide +kernel
theorem hf_c22_12 : hg_al 32 22912 = true := by decide +kernel
theorem hf_c22_13 : hg_al 32 22944 = true := by decide +kernel
theorem hf_c22_14 : hg_al 32 22976 = true := by decide +kernel
theorem hf_c22_15 : hg_al 32 23008 = true := by decide +kernel
theorem hf_c22_16 : hg_al 32 23040 = true := by decide +kernel
theorem hf_c22_17 : hg_al 32 23072 = true := by decide +kernel
theorem hf_c22_18 : hg_al 32 23104 = true := by decide +kernel
theorem hf_c22_19 : hg_al 32 23136 = true := by decide +kernel
theorem hf_c22_20 : hg_al 32 23168 = true := by decide +kernel
theorem hf_c22_21 : hg_al 32 23200 = true := by decide +kernel
theorem hf_c22_22 : hg_al 32 23232 = true := by decide +kernel
theorem hf_c22_23 : hg_al 32 23264 = true := by decide +kernel
theorem hf_c22_24 : hg_al 32 23296 = true := by decide +kernel
theorem hf_c22_25 : hg_al 32 23328 = true := by decide +kernel
theorem hf_c22_26 : hg_al 32 23360 = true := by decide +kernel
theorem hf_c22_27 : hg_al 32 23392 = true := by decide +kernel
theorem hf_c22_28 : hg_al 32 23424 = true := by decide +kernel
theorem hf_c22_29 : hg_al 32 23456 = true := by decide +kernel
theorem hf_c22_30 : hg_al 32 23488 = true := by decide +kernel
theorem hf_c22_31 : hg_al 32 23520 = true := by decide +kernel
theorem hf_c22 {p : Nat} (h : 22528 ≤ p) (h2 : p < 23552) (h3 : p < 31744) : hf_ck p = true := by
  rcases Nat.lt_or_ge p 22560 with z0 | z0
  · exact hg_al_get 32 22528 p hf_c22_0 h z0 h3
  rcases Nat.lt_or_ge p 22592 with z1 | z1
  · exact hg_al_get 32 22560 p hf_c22_1 z0 z1 h3
  rcases Nat.lt_or_ge p 22624 with z2 | z2
  · exact hg_al_get 32 22592 p hf_c22_2 z1 z2 h3
  rcases Nat.lt_or_ge p 22656 with z3 | z3
  · exact hg_al_get 32 22624 p hf_c22_3 z2 z3 h3
  rcases Nat.lt_or_ge p 22688 with z4 | z4
  · exact hg_al_get 32 22656 p hf_c22_4 z3 z4 h3
  rcases Nat.lt_or_ge p 22720 with z5 | z5
  · exact hg_al_get 32 22688 p hf_c22_5 z4 z5 h3
  rcases Nat.lt_or_ge p 22752 with z6 | z6
  · exact hg_al_get 32 22720 p hf_c22_6 z5 z6 h3
  rcases Nat.lt_or_ge p 22784 with z7 | z7
  · exact hg_al_get 32 22752 p hf_c22_7 z6 z7 h3
  rcases Nat.lt_or_ge p 22816 with z8 | z8
  · exact hg_al_get 32 22784 p hf_c22_8 z7 z8 h3
  rcases Nat.lt_or_ge p 22848 with z9 | z9
  · exact hg_al_get 32 22816 p hf_c22_9 z8 z9 h3
  rcases Nat.lt_or_ge p 22880 with z10 | z10
  · exact hg_al_get 32 22848 p hf_c22_10 z9 z10 h3
  rcases Nat.lt_or_ge p 22912 with z11 | z11
  · exact hg_al_get 32 22880 p hf_c22_11 z10 z11 h3
  rcases Nat.lt_or_ge p 22944 with z12 | z12
  · exact hg_al_get 32 22912 p hf_c22_12 z11 z12 h3
  rcases Nat.lt_or_ge p 22976 with z13 | z13
  · exact hg_al_get 32 22944 p hf_c22_13 z12 z13 h3
  rcases Nat.lt_or_ge p 23008 with z14 | z14
  · exact hg_al_get 32 22976 p hf_c22_14 z13 z14 h3
  rcases Nat.lt_or_ge p 23040 with z15 | z15
  · exact hg_al_get 32 23008 p hf_c22_15 z14 z15 h3
  rcases Nat.lt_or_ge p 23072 with z16 | z16
  · exact hg_al_get 32 23040 p hf_c22_16 z15 z16 h3
  rcases Nat.lt_or_ge p 23104 with z17 | z17
  · exact hg_al_get 32 23072 p hf_c22_17 z16 z17 h3
  rcases Nat.lt_or_ge p 23136 with z18 | z18
  · exact hg_al_get 32 23104 p hf_c22_18 z17 z18 h3
  rcases Nat.lt_or_ge p 23168 with z19 | z19
  · exact hg_al_get 32 23136 p hf_c22_19 z18 z19 h3
  rcases Nat.lt_or_ge p 23200 with z20 | z20
  · exact hg_al_get 32 23168 p hf_c22_20 z19 z20 h3
  rcases Nat.lt_or_ge p 23232 with z21 | z21
  · exact hg_al_get 32 23200 p hf_c22_21 z20 z21 h3
  rcases Nat.lt_or_ge p 23264 with z22 | z22
  · exact hg_al_get 32 23232 p hf_c22_22 z21 z22 h3
  rcases Nat.lt_or_ge p 23296 with z23 | z23
  · exact hg_al_get 32 23264 p hf_c22_23 z22 z23 h3
  rcases Nat.lt_or_ge p 23328 with z24 | z24
  · exact hg_al_get 32 23296 p hf_c22_24 z23 z24 h3
  rcases Nat.lt_or_ge p 23360 with z25 | z25
  · exact hg_al_get 32 23328 p hf_c22_25 z24 z25 h3
  rcases Nat.lt_or_ge p 23392 with z26 | z26
  · exact hg_al_get 32 23360 p hf_c22_26 z25 z26 h3
  rcases Nat.lt_or_ge p 23424 with z27 | z27
  · exact hg_al_get 32 23392 p hf_c22_27 z26 z27 h3
  rcases Nat.lt_or_ge p 23456 with z28 | z28
  · exact hg_al_get 32 23424 p hf_c22_28 z27 z28 h3
  rcases Nat.lt_or_ge p 23488 with z29 | z29
  · exact hg_al_get 32 23456 p hf_c22_29 z28 z29 h3
  rcases Nat.lt_or_ge p 23520 with z30 | z30
  · exact hg_al_get 32 23488 p hf_c22_30 z29 z30 h3
  exact hg_al_get 32 23520 p hf_c22_31 z30 h2 h3
theorem hf_c23_0 : hg_al 32 23552 = true := by decide +kernel
theorem hf_c23_1 : hg_al 32 23584 = true := by decide +kernel
theorem hf_c23_2 : hg_al 32 23616 = true := by decide +kernel
theorem hf_c23_3 : hg_al 32 23648 = true := by decide +kernel
theorem hf_c23_4 : hg_al 32 23680 = true := by decide +kernel
theorem hf_c23_5 : hg_al 32 23712 = true := by decide +kernel
theorem hf_c23_6 : hg_al 32 23744 = true := by decide +kernel
theorem hf_c23_7 : hg_al 32 23776 = true := by decide +kernel
theorem hf_c23_8 : hg_al 32 23808 = true := by decide +kernel
theorem hf_c23_9 : hg_al 32 23840 = true := by decide +kernel
theorem hf_c23_10 : hg_al 32 23872 = true := by decide +kernel
theorem hf_c23_11 : hg_al 32 23904 = true := by decide +kernel
theorem hf_c23_12 : hg_al 32 23936 = true := by decide +kernel
theorem hf_c23_13 : hg_al 32 23968 = true := by decide +kernel
theorem hf_c23_14 : hg_al 32 24000 = true := by decide +kernel
theorem hf_c23_15 : hg_al 32 24032 = true := by decide +kernel
theorem hf_c23_16 : hg_al 32 24064 = true := by decide +kernel
theorem hf_c23_17 : hg_al 32 24096 = true := by decide +kernel
theorem hf_c23_18 : hg_al 32 24128 = true := by decide +kernel
theorem hf_c23_19 : hg_al 32 24160 = true := by decide +kernel
theorem hf_c23_20 : hg_al 32 24192 = true := by decide +kernel
theorem hf_c23_21 : hg_al 32 24224 = true := by decide +kernel
theorem hf_c23_22 : hg_al 32 24256 = true := by decide +kernel
theorem hf_c23_23 : hg_al 32 24288 = true := by decide +kernel
theorem hf_c23_24 : hg_al 32 24320 = true := by decide +kernel
theorem hf_c23_25 : hg_al 32 24352 = true := by decide +kernel
theorem hf_c23_26 : hg_al 32 24384 = true := by decide +kernel
theorem hf_c23_27 : hg_al 32 24416 = true := by decide +kernel
theorem hf_c23_28 : hg_al 32 24448 = true := by decide +kernel
theorem hf_c23_29 : hg_al 32 24480 = true := by decide +kernel
theorem hf_c23_30 : hg_al 32 24512 = true := by decide +kernel
theorem hf_c23_31 : hg_al 32 24544 = true := by decide +kernel
theorem hf_c23 {p : Nat} (h : 23552 ≤ p) (h2 : p < 24576) (h3 : p < 31744) : hf_ck p = true := by
  rcases Nat.lt_or_ge p 23584 with z0 | z0
  · exact hg_al_get 32 23552 p hf_c23_0 h z0 h3
  rcases Nat.lt_or_ge p 23616 with z1 | z1
  · exact hg_al_get 32 23584 p hf_c23_1 z0 z1 h3
  rcases Nat.lt_or_ge p 23648 with z2 | z2
  · exact hg_al_get 32 23616 p hf_c23_2 z1 z2 h3
  rcases Nat.lt_or_ge p 23680 with z3 | z3
  · exact hg_al_get 32 23648 p hf_c23_3 z2 z3 h3
  rcases Nat.lt_or_ge p 23712 with z4 | z4
  · exact hg_al_get 32 23680 p hf_c23_4 z3 z4 h3
  rcases Nat.lt_or_ge p 23744 with z5 | z5
  · exact hg_al_get 32 23712 p hf_c23_5 z4 z5 h3
  rcases Nat.lt_or_ge p 23776 with z6 | z6
  · exact hg_al_get 32 23744 p hf_c23_6 z5 z6 h3
  rcases Nat.lt_or_ge p 23808 with z7 | z7
  · exact hg_al_get 32 23776 p hf_c23_7 z6 z7 h3
  rcases Nat.lt_or_ge p 23840 with z8 | z8
  · exact hg_al_get 32 23808 p hf_c23_8 z7 z8 h3
  rcases Nat.lt_or_ge p 23872 with z9 | z9
  · exact hg_al_get 32 23840 p hf_c23_9 z8 z9 h3
  rcases Nat.lt_or_ge p 23904 with z10 | z10
  · exact hg_al_get 32 23872 p hf_c23_10 z9 z10 h3
  rcases Nat.lt_or_ge p 23936 with z11 | z11
  · exact hg_al_get 32 23904 p hf_c23_11 z10 z11 h3
  rcases Nat.lt_or_ge p 23968 with z12 | z12
  · exact hg_al_get 32 23936 p hf_c23_12 z11 z12 h3
  rcases Nat.lt_or_ge p 24000 with z13 | z13
  · exact hg_al_get 32 23968 p hf_c23_13 z12 z13 h3
  rcases Nat.lt_or_ge p 24032 with z14 | z14
  · exact hg_al_get 32 24000 p hf_c23_14 z13 z14 h3
  rcases Nat.lt_or_ge p 24064 with z15 | z15
  · exact hg_al_get 32 24032 p hf_c23_15 z14 z15 h3
  rcases Nat.lt_or_ge p 24096 with z16 | z16
  · exact hg_al_get 32 24064 p hf_c23_16 z15 z16 h3
  rcases Nat.lt_or_ge p 24128 with z17 | z17
  · exact hg_al_get 32 24096 p hf_c23_17 z16 z17 h3
  rcases Nat.lt_or_ge p 24160 with z18 | z18
  · exact hg_al_get 32 24128 p hf_c23_18 z17 z18 h3
  rcases Nat.lt_or_ge p 24192 with z19 | z19
  · exact hg_al_get 32 24160 p hf_c23_19 z18 z19 h3
  rcases Nat.lt_or_ge p 24224 with z20 | z20
  · exact hg_al_get 32 24192 p hf_c23_20 z19 z20 h3
  rcases Nat.lt_or_ge p 24256 with z21 | z21
  · exact hg_al_get 32 24224 p hf_c23_21 z20 z21 h3
  rcases Nat.lt_or_ge p 24288 with z22 | z22
  · exact hg_al_get 32 24256 p hf_c23_22 z21 z22 h3
  rcases Nat.lt_or_ge p 24320 with z23 | z23
  · exact hg_al_get 32 24288 p hf_c23_23 z22 z23 h3
  rcases Nat.lt_or_ge p 24352 with z24 | z24
  · exact hg_al_get 32 24320 p hf_c23_24 z23 z24 h3
  rcases Nat.lt_or_ge p 24384 with z25 | z25
  · exact hg_al_get 32 24352 p hf_c23_25 z24 z25 h3
  rcases Nat.lt_or_ge p 24416 with z26 | z26
  · exact hg_al_get 32 24384 p hf_c23_26 z25 z26 h3
  rcases Nat.lt_or_ge p 24448 with z27 | z27
  · exact hg_al_get 32 24416 p hf_c23_27 z26 z27 h3
  rcases Nat.lt_or_ge p 24480 with z28 | z28
  · exact hg_al_get 32 24448 p hf_c23_28 z27 z28 h3
  rcases Nat.lt_or_ge p 24512 with z29 | z29
  · exact hg_al_get 32 24480 p hf_c23_29 z28 z29 h3
  rcases Nat.lt_or_ge p 24544 with z30 | z30
  · exact hg_al_get 32 24512 p hf_c23_30 z29 z30 h3
  exact hg_al_get 32 24544 p hf_c23_31 z30 h2 h3
theorem hf_c24_0 : hg_al 32 24576 = true := by decide +kernel
theorem hf_c24_1 : hg_al 32 24608 = true := by decide +kernel
theorem hf_c24_2 : hg_al 32 24640 = true := by decide +kernel
theorem hf_c24_3 : hg_al 32 24672 = true := by decide +kernel
theorem hf_c24_4 : hg_al 32 24704 = true := by decide +kernel
theorem hf_c24_5 : hg_al 32 24736 = true := by decide +kernel
theorem hf_c24_6 : hg_al 32 24768 = true := by decide +kernel
theorem hf_c24_7 : hg_al 32 24800 = true := by decide +kernel
theorem hf_c24_8 : hg_al 32 24832 = true := by decide +kernel
theorem hf_c24_9 : hg_al 32 24864 = true := by decide +kernel
theorem hf_c24_10 : hg_al 32 24896 = true := by decide +kernel
theorem hf_c24_11 : hg_al 32 24928 = true := by decide +kernel
theorem hf_c24_12 : hg_al 32 24960 = true := by decide +kernel
theorem hf_c24_13 : hg_al 32 24992 = true := by decide +kernel
theorem hf_c24_14 : hg_al 32 25024 = true := by decide +kernel
theorem hf_c24_15 : hg_al 32 25056 = true := by decide +kernel
theorem hf_c24_16 : hg_al 32 25088 = true := by decide +kernel
theorem hf_c24_17 : hg_al 32 25120 = true := by decide +kernel
theorem hf_c24_18 : hg_al 32 25152 = true := by decide +kernel
theorem hf_c24_19 : hg_al 32 25184 = true := by decide +kernel
theorem hf_c24_20 : hg_al 32 25216 = true := by decide +kernel
theorem hf_c24_21 : hg_al 32 25248 = true := by decide +kernel
theorem hf_c24_22 : hg_al 32 25280 = true := by decide +kernel
theorem hf_c24_23 : hg_al 32 25312 = true := by decide +kernel
theorem hf_c24_24 : hg_al 32 25344 = true := by decide +kernel
theorem hf_c24_25 : hg_al 32 25376 = true := by decide +kernel
theorem hf_c24_26 : hg_al 32 25408 = true := by decide +kernel
theorem hf_c24_27 : hg_al 32 25440 = true := by decide +kernel
theorem hf_c24_28 : hg_al 32 25472 = true := by decide +kernel
theorem hf_c24_29 : hg_al 32 25504 = true := by decide +kernel
theorem hf_c24_30 : hg_al 32 25536 = true := by decide +kernel
theorem hf_c24_31 : hg_al 32 25568 = true := by decide +kernel
theorem hf_c24 {p : Nat} (h : 24576 ≤ p) (h2 : p < 25600) (h3 : p < 31744) : hf_ck p = true := by
  rcases Nat.lt_or_ge p 24608 with z0 | z0
  · exact hg_al_get 32 24576 p hf_c24_0 h z0 h3
  rcases Nat.lt_or_ge p 24640 with z1 | z1
  · exact hg_al_get 32 24608 p hf_c24_1 z0 z1 h3
  rcases Nat.lt_or_ge p 24672 with z2 | z2
  · exact hg_al_get 32 24640 p hf_c24_2 z1 z2 h3
  rcases Nat.lt_or_ge p 24704 with z3 | z3
  · exact hg_al_get 32 24672 p hf_c24_3 z2 z3 h3
  rcases Nat.lt_or_ge p 24736 with z4 | z4
  · exact hg_al_get 32 24704 p hf_c24_4 z3 z4 h3
  rcases Nat.lt_or_ge p 24768 with z5 | z5
  · exact hg_al_get 32 24736 p hf_c24_5 z4 z5 h3
  rcases Nat.lt_or_ge p 24800 with z6 | z6
  · exact hg_al_get 32 24768 p hf_c24_6 z5 z6 h3
  rcases Nat.lt_or_ge p 24832 with z7 | z7
  · exact hg_al_get 32 24800 p hf_c24_7 z6 z7 h3
  rcases Nat.lt_or_ge p 24864 with z8 | z8
  · exact hg_al_get 32 24832 p hf_c24_8 z7 z8 h3
  rcases Nat.lt_or_ge p 24896 with z9 | z9
  · exact hg_al_get 32 24864 p hf_c24_9 z8 z9 h3
  rcases Nat.lt_or_ge p 24928 with z10 | z10
  · exact hg_al_get 32 24896 p hf_c24_10 z9 z10 h3
  rcases Nat.lt_or_ge p 24960 with z11 | z11
  · exact hg_al_get 32 24928 p hf_c24_11 z10 z11 h3
  rcases Nat.lt_or_ge p 24992 with z12 | z12
  · exact hg_al_get 32 24960 p hf_c24_12 z11 z12 h3
  rcases Nat.lt_or_ge p 25024 with z13 | z13
  · exact hg_al_get 32 24992 p hf_c24_13 z12 z13 h3
  rcases Nat.lt_or_ge p 25056 with z14 | z14
  · exact hg_al_get 32 25024 p hf_c24_14 z13 z14 h3
  rcases Nat.lt_or_ge p 25088 with z15 | z15
  · exact hg_al_get 32 25056 p hf_c24_15 z14 z15 h3
  rcases Nat.lt_or_ge p 25120 with z16 | z16
  · exact hg_al_get 32 25088 p hf_c24_16 z15 z16 h3
  rcases Nat.lt_or_ge p 25152 with z17 | z17
  · exact hg_al_get 32 25120 p hf_c24_17 z16 z17 h3
  rcases Nat.lt_or_ge p 25184 with z18 | z18
  · exact hg_al_get 32 25152 p hf_c24_18 z17 z18 h3
  rcases Nat.lt_or_ge p 25216 with z19 | z19
  · exact hg_al_get 32 25184 p hf_c24_19 z18 z19 h3
  rcases Nat.lt_or_ge p 25248 with z20 | z20
  · exact hg_al_get 32 25216 p hf_c24_20 z19 z20 h3
  rcases Nat.lt_or_ge p 25280 with z21 | z21
  · exact hg_al_get 32 25248 p hf_c24_21 z20 z21 h3
  rcases Nat.lt_or_ge p 25312 with z22 | z22
  · exact hg_al_get 32 25280 p hf_c24_22 z21 z22 h3
  rcases Nat.lt_or_ge p 25344 with z23 | z23
  · exact hg_al_get 32 25312 p hf_c24_23 z22 z23 h3
  rcases Nat.lt_or_ge p 25376 with z24 | z24
  · exact hg_al_get 32 25344 p hf_c24_24 z23 z24 h3
  rcases Nat.lt_or_ge p 25408 with z25 | z25
  · exact hg_al_get 32 25376 p hf_c24_25 z24 z25 h3
  rcases Nat.lt_or_ge p 25440 with z26 | z26
  · exact hg_al_get 32 25408 p hf_c24_26 z25 z26 h3
  rcases Nat.lt_or_ge p 25472 with z27 | z27
  · exact hg_al_get 32 25440 p hf_c24_27 z26 z27 h3
  rcases Nat.lt_or_ge p 25504 with z28 | z28
  · exact hg_al_get 32 25472 p hf_c24_28 z27 z28 h3
  rcases Nat.lt_or_ge p 25536 with z29 | z29
  · exact hg_al_get 32 25504 p hf_c24_29 z28 z29 h3
  rcases Nat.lt_or_ge p 25568 with z30 | z30
  · exact hg_al_get 32 25536 p hf_c24_30 z29 z30 h3
  exact hg_al_get 32 25568 p hf_c24_31 z30 h2 h3
theorem hf_c25_0 : hg_al 32 25600 = true := by decide +kernel
theorem hf_c25_1 : hg_al 32 25632 = true := by decide +kernel
theorem hf_c25_2 : hg_al 32 25664 = true := by decide +kernel
theorem hf_c25_3 : hg_al 32 25696 = true := by decide +kernel
theorem hf_c25_4 : hg_al 32 25728 = true := by decide +kernel
theorem hf_c25_5 : hg_al 32 25760 = true := by decide +kernel
theorem hf_c25_6 : hg_al 32 25792 = true := by decide +kernel
theorem hf_c25_7 : hg_al 32 25824 = true := by decide +kernel
theorem hf_c25_8 : hg_al 32 25856 = true := by decide +kernel
theorem hf_c25_9 : hg_al 32 25888 = true := by decide +kernel
theorem hf_c25_10 : hg_al 32 25920 = true := by decide +kernel
theorem hf_c25_11 : hg_al 32 25952 = true := by decide +kernel
theorem hf_c25_12 : hg_al 32 25984 = true := by decide +kernel
theorem hf_c25_13 : hg_al 32 26016 = true := by decide +kernel
theorem hf_c25_14 : hg_al 32 26048 = true := by decide +kernel
theorem hf_c25_15 : hg_al 32 26080 = true := by decide +kernel
theorem hf_c25_16 : hg_al 32 26112 = true := by decide +kernel
theorem hf_c25_17 : hg_al 32 26144 = true := by decide +kernel
theorem hf_c25_18 : hg_al 32 26176 = true := by decide +kernel
theorem hf_c25_19 : hg_al 32 26208 = true := by decide +kernel
theorem hf_c25_20 : hg_al 32 26240 = true := by decide +kernel
theorem hf_c25_21 : hg_al 32 26272 = true := by decide +kernel
theorem hf_c25_22 : hg_al 32 26304 = true := by decide +kernel
theorem hf_c25_23 : hg_al 32 26336 = true := by decide +kernel
theorem hf_c25_24 : hg_al 32 26368 = true := by decide +kernel
theorem hf_c25_25 : hg_al 32 26400 = true := by decide +kernel
theorem hf_c25_26 : hg_al 32 26432 = true := by decide +kernel
theorem hf_c25_27 : hg_al 32 26464 = true := by decide +kernel
theorem hf_c25_28 : hg_al 32 26496 = true := by decide +kernel
theorem hf_c25_29 : hg_al 32 26528 = true := by decide +kernel
theorem hf_c25_30 : hg_al 32 26560 = true := by decide +kernel
theorem hf_c25_31 : hg_al 32 26592 = true := by decide +kernel
theorem hf_c25 {p : Nat} (h : 25600 ≤ p) (h2 : p < 26624) (h3 : p < 31744) : hf_ck p = true := by
  rcases Nat.lt_or_ge p 25632 with z0 | z0
  · exact hg_al_get 32 25600 p hf_c25_0 h z0 h3
  rcases Nat.lt_or_ge p 25664 with z1 | z1
  · exact hg_al_get 32 25632 p hf_c25_1 z0 z1 h3
  rcases Nat.lt_or_ge p 25696 with z2 | z2
  · exact hg_al_get 32 25664 p hf_c25_2 z1 z2 h3
  rcases Nat.lt_or_ge p 25728 with z3 | z3
  · exact hg_al_get 32 25696 p hf_c25_3 z2 z3 h3
  rcases Nat.lt_or_ge p 25760 with z4 | z4
  · exact hg_al_get 32 25728 p hf_c25_4 z3 z4 h3
  rcases Nat.lt_or_ge p 25792 with z5 | z5
  · exact hg_al_get 32 25760 p hf_c25_5 z4 z5 h3
  rcases Nat.lt_or_ge p 25824 with z6 | z6
  · exact hg_al_get 32 25792 p hf_c25_6 z5 z6 h3
  rcases Nat.lt_or_ge p 25856 with z7 | z7
  · exact hg_al_get 32 25824 p hf_c25_7 z6 z7 h3
  rcases Nat.lt_or_ge p 25888 with z8 | z8
  · exact hg_al_get 32 25856 p hf_c25_8 z7 z8 h3
  rcases Nat.lt_or_ge p 25920 with z9 | z9
  · exact hg_al_get 32 25888 p hf_c25_9 z8 z9 h3
  rcases Nat.lt_or_ge p 25952 with z10 | z10
  · exact hg_al_get 32 25920 p hf_c25_10 z9 z10 h3
  rcases Nat.lt_or_ge p 25984 with z11 | z11
  · exact hg_al_get 32 25952 p hf_c25_11 z10 z11 h3
  rcases Nat.lt_or_ge p 26016 with z12 | z12
  · exact hg_al_get 32 25984 p hf_c25_12 z11 z12 h3
  rcases Nat.lt_or_ge p 26048 with z13 | z13
  · exact hg_al_get 32 26016 p hf_c25_13 z12 z13 h3
  rcases Nat.lt_or_ge p 26080 with z14 | z14
  · exact hg_al_get 32 26048 p hf_c25_14 z13 z14 h3
  rcases Nat.lt_or_ge p 26112 with z15 | z15
  · exact hg_al_get 32 26080 p hf_c25_15 z14 z15 h3
  rcases Nat.lt_or_ge p 26144 with z16 | z16
  · exact hg_al_get 32 26112 p hf_c25_16 z15 z16 h3
  rcases Nat.lt_or_ge p 26176 with z17 | z17
  · exact hg_al_get 32 26144 p hf_c25_17 z16 z17 h3
  rcases Nat.lt_or_ge p 26208 with z18 | z18
  · exact hg_al_get 32 26176 p hf_c25_18 z17 z18 h3
  rcases Nat.lt_or_ge p 26240 with z19 | z19
  · exact hg_al_get 32 26208 p hf_c25_19 z18 z19 h3
  rcases Nat.lt_or_ge p 26272 with z20 | z20
  · exact hg_al_get 32 26240 p hf_c25_20 z19 z20 h3
  rcases Nat.lt_or_ge p 26304 with z21 | z21
  · exact hg_al_get 32 26272 p hf_c25_21 z20 z21 h3
  rcases Nat.lt_or_ge p 26336 with z22 | z22
  · exact hg_al_get 32 26304 p hf_c25_22 z21 z22 h3
  rcases Nat.lt_or_ge p 26368 with z23 | z23
  · exact hg_al_get 32 26336 p hf_c25_23 z22 z23 h3
  rcases Nat.lt_or_ge p 26400 with z24 | z24
  · exact hg_al_get 32 26368 p hf_c25_24 z23 z24 h3
  rcases Nat.lt_or_ge p 26432 with z25 | z25
  · exact hg_al_get 32 26400 p hf_c25_25 z24 z25 h3
  rcases Nat.lt_or_ge p 26464 with z26 | z26
  · exact hg_al_get 32 26432 p hf_c25_26 z25 z26 h3
  rcases Nat.lt_or_ge p 26496 with z27 | z27
  · exact hg_al_get 32 26464 p hf_c25_27 z26 z27 h3
  rcases Nat.lt_or_ge p 26528 with z28 | z28
  · exact hg_al_get 32 26496 p hf_c25_28 z27 z28 h3
  rcases Nat.lt_or_ge p 26560 with z29 | z29
  · exact hg_al_get 32 26528 p hf_c25_29 z28 z29 h3
  rcases Nat.lt_or_ge p 26592 with z30 | z30
  · exact hg_al_get 32 26560 p hf_c25_30 z29 z30 h3
  exact hg_al_get 32 26592 p hf_c25_31 z30 h2 h3
theorem hf_c26_0 : hg_al 32 26624 = true := by decide +kernel
theorem hf_c26_1 : hg_al 32 26656 = true := by decide +kernel
theorem hf_c26_2 : hg_al 32 26688 = true := by decide +kernel
theorem hf_c26_3 : hg_al 32 26720 = true := by decide +kernel
theorem hf_c26_4 : hg_al 32 26752 = true := by decide +kernel
theorem hf_c26_5 : hg_al 32 26784 = true := by decide +kernel
theorem hf_c26_6 : hg_al 32 26816 = true := by decide +kernel
theorem hf_c26_7 : hg_al 32 26848 = true := by decide +kernel
theorem hf_c26_8 : hg_al 32 26880 = true := by decide +kernel
theorem hf_c26_9 : hg_al 32 26912 = true := by decide +kernel
theorem hf_c26_10 : hg_al 32 26944 = true := by decide +kernel
theorem hf_c26_11 : hg_al 32 26976 = true := by decide +kernel
theorem hf_c26_12 : hg_al 32 27008 = true := by decide +kernel
theorem hf_c26_13 : hg_al 32 27040 = true := by decide +kernel
theorem hf_c26_14 : hg_al 32 27072 = true := by decide +kernel
theorem hf_c26_15 : hg_al 32 27104 = true := by decide +kernel
theorem hf_c26_16 : hg_al 32 27136 = true := by decide +kernel
theorem hf_c26_17 : hg_al 32 27168 = true := by decide +kernel
theorem hf_c26_18 : hg_al 32 27200 = true := by decide +kernel
theorem hf_c26_19 : hg_al 32 27232 = true := by decide +kernel
theorem hf_c26_20 : hg_al 32 27264 = true := by decide +kernel
theorem hf_c26_21 : hg_al 32 27296 = true := by decide +kernel
theorem hf_c26_22 : hg_al 32 27328 = true := by decide +kernel
theorem hf_c26_23 : hg_al 32 27360 = true := by decide +kernel
theorem hf_c26_24 : hg_al 32 27392 = true := by decide +kernel
theorem hf_c26_25 : hg_al 32 27424 = true := by decide +kernel
theorem hf_c26_26 : hg_al 32 27456 = true := by decide +kernel
theorem hf_c26_27 : hg_al 32 27488 = true := by decide +kernel
theorem hf_c26_28 : hg_al 32 27520 = true := by decide +kernel
theorem hf_c26_29 : hg_al 32 27552 = true := by decide +kernel
theorem hf_c26_30 : hg_al 32 27584 = true := by decide +kernel
theorem hf_c26_31 : hg_al 32 27616 = true := by decide +kernel
theorem hf_c26 {p : Nat} (h : 26624 ≤ p) (h2 : p < 27648) (h3 : p < 31744) : hf_ck p = true := by
  rcases Nat.lt_or_ge p 26656 with z0 | z0
  · exact hg_al_get 32 26624 p hf_c26_0 h z0 h3
  rcases Nat.lt_or_ge p 26688 with z1 | z1
  · exact hg_al_get 32 26656 p hf_c26_1 z0 z1 h3
  rcases Nat.lt_or_ge p 26720 with z2 | z2
  · exact hg_al_get 32 26688 p hf_c26_2 z1 z2 h3
  rcases Nat.lt_or_ge p 26752 with z3 | z3
  · exact hg_al_get 32 26720 p hf_c26_3 z2 z3 h3
  rcases Nat.lt_or_ge p 26784 with z4 | z4
  · exact hg_al_get 32 26752 p hf_c26_4 z3 z4 h3
  rcases Nat.lt_or_ge p 26816 with z5 | z5
  · exact hg_al_get 32 26784 p hf_c26_5 z4 z5 h3
  rcases Nat.lt_or_ge p 26848 with z6 | z6
  · exact hg_al_get 32 26816 p hf_c26_6 z5 z6 h3
  rcases Nat.lt_or_ge p 26880 with z7 | z7
  · exact hg_al_get 32 26848 p hf_c26_7 z6 z7 h3
  rcases Nat.lt_or_ge p 26912 with z8 | z8
  · exact hg_al_get 32 26880 p hf_c26_8 z7 z8 h3
  rcases Nat.lt_or_ge p 26944 with z9 | z9
  · exact hg_al_get 32 26912 p hf_c26_9 z8 z9 h3
  rcases Nat.lt_or_ge p 26976 with z10 | z10
  · exact hg_al_get 32 26944 p hf_c26_10 z9 z10 h3
  rcases Nat.lt_or_ge p 27008 with z11 | z11
  · exact hg_al_get 32 26976 p hf_c26_11 z10 z11 h3
  rcases Nat.lt_or_ge p 27040 with z12 | z12
  · exact hg_al_get 32 27008 p hf_c26_12 z11 z12 h3
  rcases Nat.lt_or_ge p 27072 with z13 | z13
  · exact hg_al_get 32 27040 p hf_c26_13 z12 z13 h3
  rcases Nat.lt_or_ge p 27104 with z14 | z14
  · exact hg_al_get 32 27072 p hf_c26_14 z13 z14 h3
  rcases Nat.lt_or_ge p 27136 with z15 | z15
  · exact hg_al_get 32 27104 p hf_c26_15 z14 z15 h3
  rcases Nat.lt_or_ge p 27168 with z16 | z16
  · exact hg_al_get 32 27136 p hf_c26_16 z15 z16 h3
  rcases Nat.lt_or_ge p 27200 with z17 | z17
  · exact hg_al_get 32 27168 p hf_c26_17 z16 z17 h3
  rcases Nat.lt_or_ge p 27232 with z18 | z18
  · exact hg_al_get 32 27200 p hf_c26_18 z17 z18 h3
  rcases Nat.lt_or_ge p 27264 with z19 | z19
  · exact hg_al_get 32 27232 p hf_c26_19 z18 z19 h3
  rcases Nat.lt_or_ge p 27296 with z20 | z20
  · exact hg_al_get 32 27264 p hf_c26_20 z19 z20 h3
  rcases Nat.lt_or_ge p 27328 with z21 | z21
  · exact hg_al_get 32 27296 p hf_c26_21 z20 z21 h3
  rcases Nat.lt_or_ge p 27360 with z22 | z22
  · exact hg_al_get 32 27328 p hf_c26_22 z21 z22 h3
  rcases Nat.lt_or_ge p 27392 with z23 | z23
  · exact hg_al_get 32 27360 p hf_c26_23 z22 z23 h3
  rcases Nat.lt_or_ge p 27424 with z24 | z24
  · exact hg_al_get 32 27392 p hf_c26_24 z23 z24 h3
  rcases Nat.lt_or_ge p 27456 with z25 | z25
  · exact hg_al_get 32 27424 p hf_c26_25 z24 z25 h3
  rcases Nat.lt_or_ge p 27488 with z26 | z26
  · exact hg_al_get 32 27456 p hf_c26_26 z25 z26 h3
  rcases Nat.lt_or_ge p 27520 with z27 | z27
  · exact hg_al_get 32 27488 p hf_c26_27 z26 z27 h3
  rcases Nat.lt_or_ge p 27552 with z28 | z28
  · exact hg_al_get 32 27520 p hf_c26_28 z27 z28 h3
  rcases Nat.lt_or_ge p 27584 with z29 | z29
  · exact hg_al_get 32 27552 p hf_c26_29 z28 z29 h3
  rcases Nat.lt_or_ge p 27616 with z30 | z30
  · exact hg_al_get 32 27584 p hf_c26_30 z29 z30 h3
  exact hg_al_get 32 27616 p hf_c26_31 z30 h2 h3
theorem hf_c27_0 : hg_al 32 27648 = true := by decide +kernel
theorem hf_c27_1 : hg_al 32 27680 = true := by decide +kernel
theorem hf_c27_2 : hg_al 32 27712 = true := by decide +kernel
theorem hf_c27_3 : hg_al 32 27744 = true := by decide +kernel
theorem hf_c27_4 : hg_al 32 27776 = true := by decide +kernel
theorem hf_c27_5 : hg_al 32 27808 = true := by decide +kernel
theorem hf_c27_6 : hg_al 32 27840 = true := by decide +kernel
theorem hf_c27_7 : hg_al 32 27872 = true := by decide +kernel
theorem hf_c27_8 : hg_al 32 27904 = true := by decide +kernel
theorem hf_c27_9 : hg_al 32 27936 = true := by decide +kernel
theorem hf_c27_10 : hg_al 32 27968 = true := by decide +kernel
theorem hf_c27_11 : hg_al 32 28000 = true := by decide +kernel
theorem hf_c27_12 : hg_al 32 28032 = true := by decide +kernel
theorem hf_c27_13 : hg_al 32 28064 = true := by decide +kernel
theorem hf_c27_14 : hg_al 32 28096 = true := by decide +kernel
theorem hf_c27_15 : hg_al 32 28128 = true := by decide +kernel
theorem hf_c27_16 : hg_al 32 28160 = true := by decide +kernel
theorem hf_c27_17 : hg_al 32 28192 = true := by decide +kernel
theorem hf_c27_18 : hg_al 32 28224 = true := by decide +kernel
theorem hf_c27_19 : hg_al 32 28256 = true := by decide +kernel
theorem hf_c27_20 : hg_al 32 28288 = true := by decide +kernel
theorem hf_c27_21 : hg_al 32 28320 = true := by decide +kernel
theorem hf_c27_22 : hg_al 32 28352 = true := by decide +kernel
theorem hf_c27_23 : hg_al 32 28384 = true := by decide +kernel
theorem hf_c27_24 : hg_al 32 28416 = true := by decide +kernel
theorem hf_c27_25 : hg_al 32 28448 = true := by decide +kernel
theorem hf_c27_26 : hg_al 32 28480 = true := by decide +kernel
theorem hf_c27_27 : hg_al 32 28512 = true := by decide +kernel
theorem hf_c27_28 : hg_al 32 28544 = true := by decide +kernel
theorem hf_c27_29 : hg_al 32 28576 = true := by decide +kernel
theorem hf_c27_30 : hg_al 32 28608 = true := by decide +kernel
theorem hf_c27_31 : hg_al 32 28640 = true := by decide +kernel
theorem hf_c27 {p : Nat} (h : 27648 ≤ p) (h2 : p < 28672) (h3 : p < 31744) : hf_ck p = true := by
  rcases Nat.lt_or_ge p 27680 with z0 | z0
  · exact hg_al_get 32 27648 p hf_c27_0 h z0 h3
  rcases Nat.lt_or_ge p 27712 with z1 | z1
  · exact hg_al_get 32 27680 p hf_c27_1 z0 z1 h3
  rcases Nat.lt_or_ge p 27744 with z2 | z2
  · exact hg_al_get 32 27712 p hf_c27_2 z1 z2 h3
  rcases Nat.lt_or_ge p 27776 with z3 | z3
  · exact hg_al_get 32 27744 p hf_c27_3 z2 z3 h3
  rcases Nat.lt_or_ge p 27808 with z4 | z4
  · exact hg_al_get 32 27776 p hf_c27_4 z3 z4 h3
  rcases Nat.lt_or_ge p 27840 with z5 | z5
  · exact hg_al_get 32 27808 p hf_c27_5 z4 z5 h3
  rcases Nat.lt_or_ge p 27872 with z6 | z6
  · exact hg_al_get 32 27840 p hf_c27_6 z5 z6 h3
  rcases Nat.lt_or_ge p 27904 with z7 | z7
  · exact hg_al_get 32 27872 p hf_c27_7 z6 z7 h3
  rcases Nat.lt_or_ge p 27936 with z8 | z8
  · exact hg_al_get 32 27904 p hf_c27_8 z7 z8 h3
  rcases Nat.lt_or_ge p 27968 with z9 | z9
  · exact hg_al_get 32 27936 p hf_c27_9 z8 z9 h3
  rcases Nat.lt_or_ge p 28000 with z10 | z10
  · exact hg_al_get 32 27968 p hf_c27_10 z9 z10 h3
  rcases Nat.lt_or_ge p 28032 with z11 | z11
  · exact hg_al_get 32 28000 p hf_c27_11 z10 z11 h3
  rcases Nat.lt_or_ge p 28064 with z12 | z12
  · exact hg_al_get 32 28032 p hf_c27_12 z11 z12 h3
  rcases Nat.lt_or_ge p 28096 with z13 | z13
  · exact hg_al_get 32 28064 p hf_c27_13 z12 z13 h3
  rcases Nat.lt_or_ge p 28128 with z14 | z14
  · exact hg_al_get 32 28096 p hf_c27_14 z13 z14 h3
  rcases Nat.lt_or_ge p 28160 with z15 | z15
  · exact hg_al_get 32 28128 p hf_c27_15 z14 z15 h3
  rcases Nat.lt_or_ge p 28192 with z16 | z16
  · exact hg_al_get 32 28160 p hf_c27_16 z15 z16 h3
  rcases Nat.lt_or_ge p 28224 with z17 | z17
  · exact hg_al_get 32 28192 p hf_c27_17 z16 z17 h3
  rcases Nat.lt_or_ge p 28256 with z18 | z18
  · exact hg_al_get 32 28224 p hf_c27_18 z17 z18 h3
  rcases Nat.lt_or_ge p 28288 with z19 | z19
  · exact hg_al_get 32 28256 p hf_c27_19 z18 z19 h3
  rcases Nat.lt_or_ge p 28320 with z20 | z20
  · exact hg_al_get 32 28288 p hf_c27_20 z19 z20 h3
  rcases Nat.lt_or_ge p 28352 with z21 | z21
  · exact hg_al_get 32 28320 p hf_c27_21 z20 z21 h3
  rcases Nat.lt_or_ge p 28384 with z22 | z22
  · exact hg_al_get 32 28352 p hf_c27_22 z21 z22 h3
  rcases Nat.lt_or_ge p 28416 with z23 | z23
  · exact hg_al_get 32 28384 p hf_c27_23 z22 z23 h3
  rcases Nat.lt_or_ge p 28448 with z24 | z24
  · exact hg_al_get 32 28416 p hf_c27_24 z23 z24 h3
  rcases Nat.lt_or_ge p 28480 with z25 | z25
  · exact hg_al_get 32 28448 p hf_c27_25 z24 z25 h3
  rcases Nat.lt_or_ge p 28512 with z26 | z26
  · exact hg_al_get 32 28480 p hf_c27_26 z25 z26 h3
  rcases Nat.lt_or_ge p 28544 with z27 | z27
  · exact hg_al_get 32 28512 p hf_c27_27 z26 z27 h3
  rcases Nat.lt_or_ge p 28576 with z28 | z28
  · exact hg_al_get 32 28544 p hf_c27_28 z27 z28 h3
  rcases Nat.lt_or_ge p 28608 with z29 | z29
  · exact hg_al_get 32 28576 p hf_c27_29 z28 z29 h3
  rcases Nat.lt_or_ge p 28640 with z30 | z30
  · exact hg_al_get 32 28608 p hf_c27_30 z29 z30 h3
  exact hg_al_get 32 28640 p hf_c27_31 z30 h2 h3
theorem hf_c28_0 : hg_al 32 28672 = true := by decide +kernel
theorem hf_c28_1 : hg_al 32 28704 = true := by decide +kernel
theorem hf_c28_2 : hg_al 32 28736 = true := by decide +kernel
theorem hf_c28_3 : hg_al 32 28768 = true := by decide +kernel
theorem hf_c28_4 : hg_al 32 28800 = true := by decide +kernel
theorem hf_c28_5 : hg_al 32 28832 = true := by decide +kernel
theorem hf_c28_6 : hg_al 32 28864 = true := by decide +kernel
theorem hf_c28_7 : hg_al 32 28896 = true := by decide +kernel
theorem hf_c28_8 : hg_al 32 28928 = true := by decide +kernel
theorem hf_c28_9 : hg_al 32 28960 = true := by decide +kernel
theorem hf_c28_10 : hg_al 32 28992 = true := by decide +kernel
theorem hf_c28_11 : hg_al 32 29024 = true := by decide +kernel
theorem hf_c28_12 : hg_al 32 29056 = true := by decide +kernel
theorem hf_c28_13 : hg_al 32 29088 = true := by decide +kernel
theorem hf_c28_14 : hg_al 32 29120 = true := by decide +kernel
theorem hf_c28_15 : hg_al 32 29152 = true := by decide +kernel
theorem hf_c28_16 : hg_al 32 29184 = true := by decide +kernel
theorem hf_c28_17 : hg_al 32 29216 = true := by decide +kernel
theorem hf_c28_18 : hg_al 32 29248 = true := by decide +kernel
theorem hf_c28_19 : hg_al 32 29280 = true := by decide +kernel
theorem hf_c28_20 : hg_al 32 29312 = true := by decide +kernel
theorem hf_c28_21 : hg_al 32 29344 = true := by decide +kernel
theorem hf_c28_22 : hg_al 32 29376 = true := by decide +kernel
theorem hf_c28_23 : hg_al 32 29408 = true := by decide +kernel
theorem hf_c28_24 : hg_al 32 29440 = true := by decide +kernel
theorem hf_c28_25 : hg_al 32 29472 = true := by decide +kernel
theorem hf_c28_26 : hg_al 32 29504 = true := by decide +kernel
theorem hf_c28_27 : hg_al 32 29536 = true := by decide +kernel
theorem hf_c28_28 : hg_al 32 29568 = true := by decide +kernel
theorem hf_c28_29 : hg_al 32 29600 = true := by decide +kernel
theorem hf_c28_30 : hg_al 32 29632 = true := by decide +kernel
theorem hf_c28_31 : hg_al 32 29664 = true := by decide +kernel
theorem hf_c28 {p : Nat} (h : 28672 ≤ p) (h2 : p < 29696) (h3 : p < 31744) : hf_ck p = true := by
  rcases Nat.lt_or_ge p 28704 with z0 | z0
  · exact hg_al_get 32 28672 p hf_c28_0 h z0 h3
  rcases Nat.lt_or_ge p 28736 with z1 | z1
  · exact hg_al_get 32 28704 p hf_c28_1 z0 z1 h3
  rcases Nat.lt_or_ge p 28768 with z2 | z2
  · exact hg_al_get 32 28736 p hf_c28_2 z1 z2 h3
  rcases Nat.lt_or_ge p 28800 with z3 | z3
  · exact hg_al_get 32 28768 p hf_c28_3 z2 z3 h3
  rcases Nat.lt_or_ge p 28832 with z4 | z4
  · exact hg_al_get 32 28800 p hf_c28_4 z3 z4 h3
  rcases Nat.lt_or_ge p 28864 with z5 | z5
  · exact hg_al_get 32 28832 p hf_c28_5 z4 z5 h3
  rcases Nat.lt_or_ge p 28896 with z6 | z6
  · exact hg_al_get 32 28864 p hf_c28_6 z5 z6 h3
  rcases Nat.lt_or_ge p 28928 with z7 | z7
  · exact hg_al_get 32 28896 p hf_c28_7 z6 z7 h3
  rcases Nat.lt_or_ge p 28960 with z8 | z8
  · exact hg_al_get 32 28928 p hf_c28_8 z7 z8 h3
  rcases Nat.lt_or_ge p 28992 with z9 | z9
  · exact hg_al_get 32 28960 p hf_c28_9 z8 z9 h3
  rcases Nat.lt_or_ge p 29024 with z10 | z10
  · exact hg_al_get 32 28992 p hf_c28_10 z9 z10 h3
  rcases Nat.lt_or_ge p 29056 with z11 | z11
  · exact hg_al_get 32 29024 p hf_c28_11 z10 z11 h3
  rcases Nat.lt_or_ge p 29088 with z12 | z12
  · exact hg_al_get 32 29056 p hf_c28_12 z11 z12 h3
  rcases Nat.lt_or_ge p 29120 with z13 | z13
  · exact hg_al_get 32 29088 p hf_c28_13 z12 z13 h3
  rcases Nat.lt_or_ge p 29152 with z14 | z14
  · exact hg_al_get 32 29120 p hf_c28_14 z13 z14 h3
  rcases Nat.lt_or_ge p 29184 with z15 | z15
  · exact hg_al_get 32 29152 p hf_c28_15 z14 z15 h3
  rcases Nat.lt_or_ge p 29216 with z16 | z16
  · exact hg_al_get 32 29184 p hf_c28_16 z15 z16 h3
  rcases Nat.lt_or_ge p 29248 with z17 | z17
  · exact hg_al_get 32 29216 p hf_c28_17 z16 z17 h3
  rcases Nat.lt_or_ge p 29280 with z18 | z18
  · exact hg_al_get 32 29248 p hf_c28_18 z17 z18 h3
  rcases Nat.lt_or_ge p 29312 with z19 | z19
  · exact hg_al_get 32 29280 p hf_c28_19 z18 z19 h3
  rcases Nat.lt_or_ge p 29344 with z20 | z20
  · exact hg_al_get 32 29312 p hf_c28_20 z19 z20 h3
  rcases Nat.lt_or_ge p 29376 with z21 | z21
  · exact hg_al_get 32 29344 p hf_c28_21 z20 z21 h3
  rcases Nat.lt_or_ge p 29408 with z22 | z22
  · exact hg_al_get 32 29376 p hf_c28_22 z21 z22 h3
  rcases Nat.lt_or_ge p 29440 with z23 | z23
  · exact hg_al_get 32 29408 p hf_c28_23 z22 z23 h3
  rcases Nat.lt_or_ge p 29472 with z24 | z24
  · exact hg_al_get 32 29440 p hf_c28_24 z23 z24 h3
  rcases Nat.lt_or_ge p 29504 with z25 | z25
  · exact hg_al_get 32 29472 p hf_c28_25 z24 z25 h3
  rcases Nat.lt_or_ge p 29536 with z26 | z26
  · exact hg_al_get 32 29504 p hf_c28_26 z25 z26 h3
  rcases Nat.lt_or_ge p 29568 with z27 | z27
  · exact hg_al_get 32 29536 p hf_c28_27 z26 z27 h3
  rcases Nat.lt_or_ge p 29600 with z28 | z28
  · exact hg_al_get 32 29568 p hf_c28_28 z27 z28 h3
  rcases Nat.lt_or_ge p 29632 with z29 | z29
  · exact hg_al_get 32 29600 p hf_c28_29 z28 z29 h3
  rcases Nat.lt_or_ge p 29664 with z30 | z30
  · exact hg_al_get 32 29632 p hf_c28_30 z29 z30 h3
  exact hg_al_get 32 29664 p hf_c28_31 z30 h2 h3
theorem hf_c29_0 : hg_al 32 29696 = true := by decide +kernel
theorem hf_c29_1 : hg_al 32 29728 = true := by decide +kernel
theorem hf_c29_2 : hg_al 32 29760 = true := by decide +kernel
theorem hf_c29_3 : hg_al 32 29792 = true := by decide +kernel
theorem hf_c29_4 : hg_al 32 29824 = true := by decide +kernel
theorem hf_c29_5 : hg_al 32 29856 = true := by decide +kernel
theorem hf_c29_6 : hg_al 32 29888 = true := by decide +kernel
theorem hf_c29_7 : hg_al 32 29920 = true := by decide +kernel
theorem hf_c29_8 : hg_al 32 29952 = true := by decide +kernel
theorem hf_c29_9 : hg_al 32 29984 = true := by decide +kernel
theorem hf_c29_10 : hg_al 32 30016 = true := by decide +kernel
theorem hf_c29_11 : hg_al 32 30048 = true := by decide +kernel
theorem hf_c29_12 : hg_al 32 30080 = true := by decide +kernel
theorem hf_c29_13 : hg_al 32 30112 = true := by decide +kernel
theorem hf_c29_14 : hg_al 32 30144 = true := by decide +kernel
theorem hf_c29_15 : hg_al 32 30176 = true := by decide +kernel
theorem hf_c29_16 : hg_al 32 30208 = true := by decide +kernel
theorem hf_c29_17 : hg_al 32 30240 = true := by decide +kernel
theorem hf_c29_18 : hg_al 32 30272 = true := by decide +kernel
theorem hf_c29_19 : hg_al 32 30304 = true := by decide +kernel
theorem hf_c29_20 : hg_al 32 30336 = true := by decide +kernel
theorem hf_c29_21 : hg_al 32 30368 = true := by decide +kernel
theorem hf_c29_22 : hg_al 32 30400 = true := by decide +kernel
theorem hf_c29_23 : hg_al 32 30432 = true := by decide +kernel
theorem hf_c29_24 : hg_al 32 30464 = true := by decide +kernel
theorem hf_c29_25 : hg_al 32 30496 = true := by decide +kernel
theorem hf_c29_26 : hg_al 32 30528 = true := by decide +kernel
theorem hf_c29_27 : hg_al 32 30560 = true := by decide +kernel
theorem hf_c29_28 : hg_al 32 30592 = true := by decide +kernel
theorem hf_c29_29 : hg_al 32 30624 = true := by decide +kernel
theorem hf_c29_30 : hg_al 32 30656 = true := by decide +kernel
theorem hf_c29_31 : hg_al 32 30688 = true := by decide +kernel
theorem hf_c29 {p : Nat} (h : 29696 ≤ p) (h2 : p < 30720) (h3 : p < 31744) : hf_ck p = true := by
  rcases Nat.lt_or_ge p 29728 with z0 | z0
  · exact hg_al_get 32 29696 p hf_c29_0 h z0 h3
  rcases Nat.lt_or_ge p 29760 with z1 | z1
  · exact hg_al_get 32 29728 p hf_c29_1 z0 z1 h3
  rcases Nat.lt_or_ge p 29792 with z2 | z2
  · exact hg_al_get 32 29760 p hf_c29_2 z1 z2 h3
  rcases Nat.lt_or_ge p 29824 with z3 | z3
  · exact hg_al_get 32 29792 p hf_c29_3 z2 z3 h3
  rcases Nat.lt_or_ge p 29856 with z4 | z4
  · exact hg_al_get 32 29824 p hf_c29_4 z3 z4 h3
  rcases Nat.lt_or_ge p 29888 with z5 | z5
  · exact hg_al_get 32 29856 p hf_c29_5 z4 z5 h3
  rcases Nat.lt_or_ge p 29920 with z6 | z6
  · exact hg_al_get 32 29888 p hf_c29_6 z5 z6 h3
  rcases Nat.lt_or_ge p 29952 with z7 | z7
  · exact hg_al_get 32 29920 p hf_c29_7 z6 z7 h3
  rcases Nat.lt_or_ge p 29984 with z8 | z8
  · exact hg_al_get 32 29952 p hf_c29_8 z7 z8 h3
  rcases Nat.lt_or_ge p 30016 with z9 | z9
  · exact hg_al_get 32 29984 p hf_c29_9 z8 z9 h3
  rcases Nat.lt_or_ge p 30048 with z10 | z10
  · exact hg_al_get 32 30016 p hf_c29_10 z9 z10 h3
  rcases Nat.lt_or_ge p 30080 with z11 | z11
  · exact hg_al_get 32 30048 p hf_c29_11 z10 z11 h3
  rcases Nat.lt_or_ge p 30112 with z12 | z12
  · exact hg_al_get 32 30080 p hf_c29_12 z11 z12 h3
  rcases Nat.lt_or_ge p 30144 with z13 | z13
  · exact hg_al_get 32 30112 p hf_c29_13 z12 z13 h3
  rcases Nat.lt_or_ge p 30176 with z14 | z14
  · exact hg_al_get 32 30144 p hf_c29_14 z13 z14 h3
  rcases Nat.lt_or_ge p 30208 with z15 | z15
  · exact hg_al_get 32 30176 p hf_c29_15 z14 z15 h3
  rcases Nat.lt_or_ge p 30240 with z16 | z16
  · exact hg_al_get 32 30208 p hf_c29_16 z15 z16 h3
  rcases Nat.lt_or_ge p 30272 with z17 | z17
  · exact hg_al_get 32 30240 p hf_c29_17 z16 z17 h3
  rcases Nat.lt_or_ge p 30304 with z18 | z18
  · exact hg_al_get 32 30272 p hf_c29_18 z17 z18 h3
  rcases Nat.lt_or_ge p 30336 with z19 | z19
  · exact hg_al_get 32 30304 p hf_c29_19 z18 z19 h3
  rcases Nat.lt_or_ge p 30368 with z20 | z20
  · exact hg_al_get 32 30336 p hf_c29_20 z19 z20 h3
  rcases Nat.lt_or_ge p 30400 with z21 | z21
  · exact hg_al_get 32 30368 p hf_c29_21 z20 z21 h3
  rcases Nat.lt_or_ge p 30432 with z22 | z22
  · exact hg_al_get 32 30400 p hf_c29_22 z21 z22 h3
  rcases Nat.lt_or_ge p 30464 with z23 | z23
  · exact hg_al_get 32 30432 p hf_c29_23 z22 z23 h3
  rcases Nat.lt_or_ge p 30496 with z24 | z24
  · exact hg_al_get 32 30464 p hf_c29_24 z23 z24 h3
  rcases Nat.lt_or_ge p 30528 with z25 | z25
  · exact hg_al_get 32 30496 p hf_c29_25 z24 z25 h3
  rcases Nat.lt_or_ge p 30560 with z26 | z26
  · exact hg_al_get 32 30528 p hf_c29_26 z25 z26 h3
  rcases Nat.lt_or_ge p 30592 with z27 | z27
  · exact hg_al_get 32 30560 p hf_c29_27 z26 z27 h3
  rcases Nat.lt_or_ge p 30624 with z28 | z28
  · exact hg_al_get 32 30592 p hf_c29_28 z27 z28 h3
  rcases Nat.lt_or_ge p 30656 with z29 | z29
  · exact hg_al_get 32 30624 p hf_c29_29 z28 z29 h3
  rcases Nat.lt_or_ge p 30688 with z30 | z30
  · exact hg_al_get 32 30656 p hf_c29_30 z29 z30 h3
  exact hg_al_get 32 30688 p hf_c29_31 z30 h2 h3
theorem hf_c30_0 : hg_al 32 30720 = true := by decide +kernel
theorem hf_c30_1 : hg_al 32 30752 = true := by decide +kernel
theorem hf_c30_2 : hg_al 32 30784 = true := by decide +kernel
theorem hf_c30_3 : hg_al 32 30816 = true := by decide +kernel
theorem hf_c30_4 : hg_al 32 30848 = true := by decide +kernel
theorem hf_c30_5 : hg_al 32 30880 = true := by decide +kernel
theorem hf_c30_6 : hg_al 32 30912 = true := by decide +kernel
theorem hf_c30_7 : hg_al 32 30944 = true := by decide +kernel
theorem hf_c30_8 : hg_al 32 30976 = true := by decide +kernel
theorem hf_c30_9 : hg_al 32 31008 = true := by decide +kernel
theorem hf_c30_10 : hg_al 32 31040 = true := by decide +kernel
theorem hf_c30_11 : hg_al 32 31072 = true := by decide +kernel
theorem hf_c30_12 : hg_al 32 31104 = true := by decide +kernel
theorem hf_c30_13 : hg_al 32 31136 = true := by decide +kernel
theorem hf_c30_14 : hg_al 32 31168 = true := by decide +kernel
theorem hf_c30_15 : hg_al 32 31200 = true := by decide +kernel
theorem hf_c30_16 : hg_al 32 31232 = true := by decide +kernel
theorem hf_c30_17 : hg_al 32 31264 = true := by decide +kernel
theorem hf_c30_18 : hg_al 32 31296 = true := by decide +kernel
theorem hf_c30_19 : hg_al 32 31328 = true := by decide +kernel
theorem hf_c30_20 : hg_al 32 31360 = true := by decide +kernel
theorem hf_c30_21 : hg_al 32 31392 = true := by decide +kernel
theorem hf_c30_22 : hg_al 32 31424 = true := by decide +kernel
theorem hf_c30_23 : hg_al 32 31456 = true := by decide +kernel
theorem hf_c30_24 : hg_al 32 31488 = true := by decide +kernel
theorem hf_c30_25 : hg_al 32 31520 = true := by decide +kernel
theorem hf_c30_26 : hg_al 32 31552 = true := by decide +kernel
theorem hf_c30_27 : hg_al 32 31584 = true := by decide +kernel
theorem hf_c30_28 : hg_al 32 31616 = true := by decide +kernel
theorem hf_c30_29 : hg_al 32 31648 = true := by decide +kernel
theorem hf_c30_30 : hg_al 32 31680 = true := by decide +kernel
theorem hf_c30_31 : hg_al 32 31712 = true := by decide +kernel
theorem hf_c30 {p : Nat} (h : 30720 ≤ p) (h2 : p < 31744) (h3 : p < 31744) : hf_ck p = true := by
  rcases Nat.lt_or_ge p 30752 with z0 | z0
  · exact hg_al_get 32 30720 p hf_c30_0 h z0 h3
  rcases Nat.lt_or_ge p 30784 with z1 | z1
  · exact hg_al_get 32 30752 p hf_c30_1 z0 z1 h3
  rcases Nat.lt_or_ge p 30816 with z2 | z2
  · exact hg_al_get 32 30784 p hf_c30_2 z1 z2 h3
  rcases Nat.lt_or_ge p 30848 with z3 | z3
  · exact hg_al_get 32 30816 p hf_c30_3 z2 z3 h3
  rcases Nat.lt_or_ge p 30880 with z4 | z4
  · exact hg_al_get 32 30848 p hf_c30_4 z3 z4 h3
  rcases Nat.lt_or_ge p 30912 with z5 | z5
  · exact hg_al_get 32 30880 p hf_c30_5 z4 z5 h3
  rcases Nat.lt_or_ge p 30944 with z6 | z6
  · exact hg_al_get 32 30912 p hf_c30_6 z5 z6 h3
  rcases Nat.lt_or_ge p 30976 with z7 | z7
  · exact hg_al_get 32 30944 p hf_c30_7 z6 z7 h3
  rcases Nat.lt_or_ge p 31008 with z8 | z8
  · exact hg_al_get 32 30976 p hf_c30_8 z7 z8 h3
  rcases Nat.lt_or_ge p 31040 with z9 | z9
  · exact hg_al_get 32 31008 p hf_c30_9 z8 z9 h3
  rcases Nat.lt_or_ge p 31072 with z10 | z10
  · exact hg_al_get 32 31040 p hf_c30_10 z9 z10 h3
  rcases Nat.lt_or_ge p 31104 with z11 | z11
  · exact hg_al_get 32 31072 p hf_c30_11 z10 z11 h3
  rcases Nat.lt_or_ge p 31136 with z12 | z12
  · exact hg_al_get 32 31104 p hf_c30_12 z11 z12 h3
  rcases Nat.lt_or_ge p 31168 with z13 | z13
  · exact hg_al_get 32 31136 p hf_c30_13 z12 z13 h3
  rcases Nat.lt_or_ge p 31200 with z14 | z14
  · exact hg_al_get 32 31168 p hf_c30_14 z13 z14 h3
  rcases Nat.lt_or_ge p 31232 with z15 | z15
  · exact hg_al_get 32 31200 p hf_c30_15 z14 z15 h3
  rcases Nat.lt_or_ge p 31264 with z16 | z16
  · exact hg_al_get 32 31232 p hf_c30_16 z15 z16 h3
  rcases Nat.lt_or_ge p 31296 with z17 | z17
  · exact hg_al_get 32 31264 p hf_c30_17 z16 z17 h3
  rcases Nat.lt_or_ge p 31328 with z18 | z18
  · exact hg_al_get 32 31296 p hf_c30_18 z17 z18 h3
  rcases Nat.lt_or_ge p 31360 with z19 | z19
  · exact hg_al_get 32 31328 p hf_c30_19 z18 z19 h3
  rcases Nat.lt_or_ge p 31392 with z20 | z20
  · exact hg_al_get 32 31360 p hf_c30_20 z19 z20 h3
  rcases Nat.lt_or_ge p 31424 with z21 | z21
  · exact hg_al_get 32 31392 p hf_c30_21 z20 z21 h3
  rcases Nat.lt_or_ge p 31456 with z22 | z22
  · exact hg_al_get 32 31424 p hf_c30_22 z21 z22 h3
  rcases Nat.lt_or_ge p 31488 with z23 | z23
  · exact hg_al_get 32 31456 p hf_c30_23 z22 z23 h3
  rcases Nat.lt_or_ge p 31520 with z24 | z24
  · exact hg_al_get 32 31488 p hf_c30_24 z23 z24 h3
  rcases Nat.lt_or_ge p 31552 with z25 | z25
  · exact hg_al_get 32 31520 p hf_c30_25 z24 z25 h3
  rcases Nat.lt_or_ge p 31584 with z26 | z26
  · exact hg_al_get 32 31552 p hf_c30_26 z25 z26 h3
  rcases Nat.lt_or_ge p 31616 with z27 | z27
  · exact hg_al_get 32 31584 p hf_c30_27 z26 z27 h3
  rcases Nat.lt_or_ge p 31648 with z28 | z28
  · exact hg_al_get 32 31616 p hf_c30_28 z27 z28 h3
  rcases Nat.lt_or_ge p 31680 with z29 | z29
  · exact hg_al_get 32 31648 p hf_c30_29 z28 z29 h3
  rcases Nat.lt_or_ge p 31712 with z30 | z30
  · exact hg_al_get 32 31680 p hf_c30_30 z29 z30 h3
  exact hg_al_get 32 31712 p hf_c30_31 z30 h2 h3
theorem hf_ck_all {p : Nat} (h : p < 31744) : hf_ck p = true := by
  rcases Nat.lt_or_ge p 1024 with z0 | z0
  · exact hf_c0 (Nat.zero_le p) z0 h
  rcases Nat.lt_or_ge p 2048 with z1 | z1
  · exact hf_c1 z0 z1 h
  rcases Nat.lt_or_ge p 3072 with z2 | z2
  · exact hf_c2 z1 z2 h
  rcases Nat.lt_or_ge p 4096 with z3 | z3
  · exact hf_c3 z2 z3 h
  rcases Nat.lt_or_ge p 5120 with z4 | z4
  · exact hf_c4 z3 z4 h
  rcases Nat.lt_or_ge p 6144 with z5 | z5
  · exact hf_c5 z4 z5 h
  rcases Nat.lt_or_ge p 7168 with z6 | z6
  · exact hf_c6 z5 z6 h
  rcases Nat.lt_or_ge p 8192 with z7 | z7
  · exact hf_c7 z6 z7 h
  rcases Nat.lt_or_ge p 9216 with z8 | z8
  · exact hf_c8 z7 z8 h
  rcases Nat.lt_or_ge p 10240 with z9 | z9
  · exact hf_c9 z8 z9 h
  rcases Nat.lt_or_ge p 11264 with z10 | z10
  · exact hf_c10 z9 z10 h
  rcases Nat.lt_or_ge p 12288 with z11 | z11
  · exact hf_c11 z10 z11 h
  rcases Nat.lt_or_ge p 13312 with z12 | z12
  · exact hf_c12 z11 z12 h
  rcases Nat.lt_or_ge p 14336 with z13 | z13
  · exact hf_c13 z12 z13 h
  rcases Nat.lt_or_ge p 15360 with z14 | z14
  · exact hf_c14 z13 z14 h
  rcases Nat.lt_or_ge p 16384 with z15 | z15
  · exact hf_c15 z14 z15 h
  rcases Nat.lt_or_ge p 17408 with z16 | z16
  · exact hf_c16 z15 z16 h
  rcases Nat.lt_or_ge p 18432 with z17 | z17
  · exact hf_c17 z16 z17 h
  rcases Nat.lt_or_ge p 19456 with z18 | z18
  · exact hf_c18 z17 z18 h
  rcases Nat.lt_or_ge p 20480 with z19 | z19
  · exact hf_c19 z18 z19 h
  rcases Nat.lt_or_ge p 21504 with z20 | z20
  · exact hf_c20 z19 z20 h
  rcases Nat.lt_or_ge p 22528 with z21 | z21
  · exact hf_c21 z20 z21 h
  rcases Nat.lt_or_ge p 23552 with z22 | z22
  · exact hf_c22 z21 z22 h
  rcases Nat.lt_or_ge p 24576 with z23 | z23
  · exact hf_c23 z22 z23 h
  rcases Nat.lt_or_ge p 25600 with z24 | z24
  · exact hf_c24 z23 z24 h
  rcases Nat.lt_or_ge p 26624 with z25 | z25
  · exact hf_c25 z24 z25 h
  rcases Nat.lt_or_ge p 27648 with z26 | z26
  · exact hf_c26 z25 z26 h
  rcases Nat.lt_or_ge p 28672 with z27 | z27
  · exact hf_c27 z26 z27 h
  rcases Nat.lt_or_ge p 29696 with z28 | z28
  · exact hf_c28 z27 z28 h
  rcases Nat.lt_or_ge p 30720 with z29 | z29
  · exact hf_c29 z28 z29 h
  exact hf_c30 z29 h h
