theorem dJ0_indexOf_0f7a4_0 : decode cJ0_indexOf_0f7a4 0 = .ok (.aload_n 0, 1) := by decide +kernel
theorem dJ0_indexOf_0f7a4_1 : decode cJ0_indexOf_0f7a4 1 = .ok (.iload_n 1, 1) := by decide +kernel
theorem dJ0_indexOf_0f7a4_2 : decode cJ0_indexOf_0f7a4 2 = .ok (.iconst 0, 1) := by decide +kernel
theorem dJ0_indexOf_0f7a4_3 : decode cJ0_indexOf_0f7a4 3 = .ok (.invokevirtual 633, 3) := by decide +kernel
theorem dJ0_indexOf_0f7a4_6 : decode cJ0_indexOf_0f7a4 6 = .ok (.ireturn, 1) := by decide +kernel
theorem dJ0_indexOf_7cf53_0 : decode cJ0_indexOf_7cf53 0 = .ok (.aload_n 0, 1) := by decide +kernel
theorem dJ0_indexOf_7cf53_1 : decode cJ0_indexOf_7cf53 1 = .ok (.invokevirtual 492, 3) := by decide +kernel
theorem dJ0_indexOf_7cf53_4 : decode cJ0_indexOf_7cf53 4 = .ok (.ifCond .eq 19, 3) := by decide +kernel
theorem dJ0_indexOf_7cf53_7 : decode cJ0_indexOf_7cf53 7 = .ok (.aload_n 0, 1) := by decide +kernel
theorem dJ0_indexOf_7cf53_8 : decode cJ0_indexOf_7cf53 8 = .ok (.getfield 9, 3) := by decide +kernel
theorem dJ0_indexOf_7cf53_11 : decode cJ0_indexOf_7cf53 11 = .ok (.iload_n 1, 1) := by decide +kernel
theorem dJ0_indexOf_7cf53_12 : decode cJ0_indexOf_7cf53 12 = .ok (.iload_n 2, 1) := by decide +kernel
theorem dJ0_indexOf_7cf53_13 : decode cJ0_indexOf_7cf53 13 = .ok (.aload_n 0, 1) := by decide +kernel
theorem dJ0_indexOf_7cf53_14 : decode cJ0_indexOf_7cf53 14 = .ok (.invokevirtual 505, 3) := by decide +kernel
theorem dJ0_indexOf_7cf53_17 : decode cJ0_indexOf_7cf53 17 = .ok (.invokestatic 637, 3) := by decide +kernel
theorem dJ0_indexOf_7cf53_20 : decode cJ0_indexOf_7cf53 20 = .ok (.goto 16, 3) := by decide +kernel
theorem dJ0_indexOf_7cf53_23 : decode cJ0_indexOf_7cf53 23 = .ok (.aload_n 0, 1) := by decide +kernel
theorem dJ0_indexOf_7cf53_24 : decode cJ0_indexOf_7cf53 24 = .ok (.getfield 9, 3) := by decide +kernel
theorem dJ0_indexOf_7cf53_27 : decode cJ0_indexOf_7cf53 27 = .ok (.iload_n 1, 1) := by decide +kernel
theorem dJ0_indexOf_7cf53_28 : decode cJ0_indexOf_7cf53 28 = .ok (.iload_n 2, 1) := by decide +kernel
theorem dJ0_indexOf_7cf53_29 : decode cJ0_indexOf_7cf53 29 = .ok (.aload_n 0, 1) := by decide +kernel
theorem dJ0_indexOf_7cf53_30 : decode cJ0_indexOf_7cf53 30 = .ok (.invokevirtual 505, 3) := by decide +kernel
theorem dJ0_indexOf_7cf53_33 : decode cJ0_indexOf_7cf53 33 = .ok (.invokestatic 640, 3) := by decide +kernel
theorem dJ0_indexOf_7cf53_36 : decode cJ0_indexOf_7cf53 36 = .ok (.ireturn, 1) := by decide +kernel
theorem dJ0_coder_7d493_0 : decode cJ0_coder_7d493 0 = .ok (.getstatic 38, 3) := by decide +kernel
theorem dJ0_coder_7d493_3 : decode cJ0_coder_7d493 3 = .ok (.ifCond .eq 10, 3) := by decide +kernel
theorem dJ0_coder_7d493_6 : decode cJ0_coder_7d493 6 = .ok (.aload_n 0, 1) := by decide +kernel
theorem dJ0_coder_7d493_7 : decode cJ0_coder_7d493 7 = .ok (.getfield 15, 3) := by decide +kernel
theorem dJ0_coder_7d493_10 : decode cJ0_coder_7d493 10 = .ok (.goto 4, 3) := by decide +kernel
theorem dJ0_coder_7d493_13 : decode cJ0_coder_7d493 13 = .ok (.iconst 1, 1) := by decide +kernel
theorem dJ0_coder_7d493_14 : decode cJ0_coder_7d493 14 = .ok (.ireturn, 1) := by decide +kernel
theorem dJ0_isLatin1_aae02_0 : decode cJ0_isLatin1_aae02 0 = .ok (.getstatic 38, 3) := by decide +kernel
theorem dJ0_isLatin1_aae02_3 : decode cJ0_isLatin1_aae02 3 = .ok (.ifCond .eq 14, 3) := by decide +kernel
theorem dJ0_isLatin1_aae02_6 : decode cJ0_isLatin1_aae02 6 = .ok (.aload_n 0, 1) := by decide +kernel
theorem dJ0_isLatin1_aae02_7 : decode cJ0_isLatin1_aae02 7 = .ok (.getfield 15, 3) := by decide +kernel
theorem dJ0_isLatin1_aae02_10 : decode cJ0_isLatin1_aae02 10 = .ok (.ifCond .ne 7, 3) := by decide +kernel
theorem dJ0_isLatin1_aae02_13 : decode cJ0_isLatin1_aae02 13 = .ok (.iconst 1, 1) := by decide +kernel
theorem dJ0_isLatin1_aae02_14 : decode cJ0_isLatin1_aae02 14 = .ok (.goto 4, 3) := by decide +kernel
theorem dJ0_isLatin1_aae02_17 : decode cJ0_isLatin1_aae02 17 = .ok (.iconst 0, 1) := by decide +kernel
theorem dJ0_isLatin1_aae02_18 : decode cJ0_isLatin1_aae02 18 = .ok (.ireturn, 1) := by decide +kernel
theorem dJ0_length_8abf5_0 : decode cJ0_length_8abf5 0 = .ok (.aload_n 0, 1) := by decide +kernel
theorem dJ0_length_8abf5_1 : decode cJ0_length_8abf5 1 = .ok (.getfield 9, 3) := by decide +kernel
theorem dJ0_length_8abf5_4 : decode cJ0_length_8abf5 4 = .ok (.arraylength, 1) := by decide +kernel
theorem dJ0_length_8abf5_5 : decode cJ0_length_8abf5 5 = .ok (.aload_n 0, 1) := by decide +kernel
theorem dJ0_length_8abf5_6 : decode cJ0_length_8abf5 6 = .ok (.invokevirtual 335, 3) := by decide +kernel
theorem dJ0_length_8abf5_9 : decode cJ0_length_8abf5 9 = .ok (.ishr, 1) := by decide +kernel
theorem dJ0_length_8abf5_10 : decode cJ0_length_8abf5 10 = .ok (.ireturn, 1) := by decide +kernel
theorem dJ1_indexOf_4cfef_0 : decode cJ1_indexOf_4cfef 0 = .ok (.iload_n 1, 1) := by decide +kernel
theorem dJ1_indexOf_4cfef_1 : decode cJ1_indexOf_4cfef 1 = .ok (.invokestatic 88, 3) := by decide +kernel
theorem dJ1_indexOf_4cfef_4 : decode cJ1_indexOf_4cfef 4 = .ok (.ifCond .ne 5, 3) := by decide +kernel
theorem dJ1_indexOf_4cfef_7 : decode cJ1_indexOf_4cfef 7 = .ok (.iconst (-1), 1) := by decide +kernel
theorem dJ1_indexOf_4cfef_8 : decode cJ1_indexOf_4cfef 8 = .ok (.ireturn, 1) := by decide +kernel
theorem dJ1_indexOf_4cfef_9 : decode cJ1_indexOf_4cfef 9 = .ok (.iload_n 2, 1) := by decide +kernel
theorem dJ1_indexOf_4cfef_10 : decode cJ1_indexOf_4cfef 10 = .ok (.iconst 0, 1) := by decide +kernel
theorem dJ1_indexOf_4cfef_11 : decode cJ1_indexOf_4cfef 11 = .ok (.invokestatic 92, 3) := by decide +kernel
theorem dJ1_indexOf_4cfef_14 : decode cJ1_indexOf_4cfef 14 = .ok (.istore_n 2, 1) := by decide +kernel
theorem dJ1_indexOf_4cfef_15 : decode cJ1_indexOf_4cfef 15 = .ok (.iload_n 3, 1) := by decide +kernel
theorem dJ1_indexOf_4cfef_16 : decode cJ1_indexOf_4cfef 16 = .ok (.aload_n 0, 1) := by decide +kernel
theorem dJ1_indexOf_4cfef_17 : decode cJ1_indexOf_4cfef 17 = .ok (.arraylength, 1) := by decide +kernel
theorem dJ1_indexOf_4cfef_18 : decode cJ1_indexOf_4cfef 18 = .ok (.invokestatic 38, 3) := by decide +kernel
theorem dJ1_indexOf_4cfef_21 : decode cJ1_indexOf_4cfef 21 = .ok (.istore_n 3, 1) := by decide +kernel
theorem dJ1_indexOf_4cfef_22 : decode cJ1_indexOf_4cfef 22 = .ok (.iload_n 2, 1) := by decide +kernel
theorem dJ1_indexOf_4cfef_23 : decode cJ1_indexOf_4cfef 23 = .ok (.iload_n 3, 1) := by decide +kernel
theorem dJ1_indexOf_4cfef_24 : decode cJ1_indexOf_4cfef 24 = .ok (.if_icmp .lt 5, 3) := by decide +kernel
theorem dJ1_indexOf_4cfef_27 : decode cJ1_indexOf_4cfef 27 = .ok (.iconst (-1), 1) := by decide +kernel
theorem dJ1_indexOf_4cfef_28 : decode cJ1_indexOf_4cfef 28 = .ok (.ireturn, 1) := by decide +kernel
theorem dJ1_indexOf_4cfef_29 : decode cJ1_indexOf_4cfef 29 = .ok (.aload_n 0, 1) := by decide +kernel
theorem dJ1_indexOf_4cfef_30 : decode cJ1_indexOf_4cfef 30 = .ok (.iload_n 1, 1) := by decide +kernel
theorem dJ1_indexOf_4cfef_31 : decode cJ1_indexOf_4cfef 31 = .ok (.iload_n 2, 1) := by decide +kernel
theorem dJ1_indexOf_4cfef_32 : decode cJ1_indexOf_4cfef 32 = .ok (.iload_n 3, 1) := by decide +kernel
theorem dJ1_indexOf_4cfef_33 : decode cJ1_indexOf_4cfef 33 = .ok (.invokestatic 95, 3) := by decide +kernel
theorem dJ1_indexOf_4cfef_36 : decode cJ1_indexOf_4cfef 36 = .ok (.ireturn, 1) := by decide +kernel
theorem dJ1_canEncode_9a6ad_0 : decode cJ1_canEncode_9a6ad 0 = .ok (.iload_n 0, 1) := by decide +kernel
theorem dJ1_canEncode_9a6ad_1 : decode cJ1_canEncode_9a6ad 1 = .ok (.ifCond .lt 14, 3) := by decide +kernel
theorem dJ1_canEncode_9a6ad_4 : decode cJ1_canEncode_9a6ad 4 = .ok (.iload_n 0, 1) := by decide +kernel
theorem dJ1_canEncode_9a6ad_5 : decode cJ1_canEncode_9a6ad 5 = .ok (.sipush 255, 3) := by decide +kernel
theorem dJ1_canEncode_9a6ad_8 : decode cJ1_canEncode_9a6ad 8 = .ok (.if_icmp .gt 7, 3) := by decide +kernel
theorem dJ1_canEncode_9a6ad_11 : decode cJ1_canEncode_9a6ad 11 = .ok (.iconst 1, 1) := by decide +kernel
theorem dJ1_canEncode_9a6ad_12 : decode cJ1_canEncode_9a6ad 12 = .ok (.goto 4, 3) := by decide +kernel
theorem dJ1_canEncode_9a6ad_15 : decode cJ1_canEncode_9a6ad 15 = .ok (.iconst 0, 1) := by decide +kernel
theorem dJ1_canEncode_9a6ad_16 : decode cJ1_canEncode_9a6ad 16 = .ok (.ireturn, 1) := by decide +kernel
theorem dJ1_indexOfChar_4cfef_0 : decode cJ1_indexOfChar_4cfef 0 = .ok (.iload_n 1, 1) := by decide +kernel
theorem dJ1_indexOfChar_4cfef_1 : decode cJ1_indexOfChar_4cfef 1 = .ok (.i2b, 1) := by decide +kernel
theorem dJ1_indexOfChar_4cfef_2 : decode cJ1_indexOfChar_4cfef 2 = .ok (.istore 4, 2) := by decide +kernel
theorem dJ1_indexOfChar_4cfef_4 : decode cJ1_indexOfChar_4cfef 4 = .ok (.iload_n 2, 1) := by decide +kernel
theorem dJ1_indexOfChar_4cfef_5 : decode cJ1_indexOfChar_4cfef 5 = .ok (.istore 5, 2) := by decide +kernel
theorem dJ1_indexOfChar_4cfef_7 : decode cJ1_indexOfChar_4cfef 7 = .ok (.iload 5, 2) := by decide +kernel
theorem dJ1_indexOfChar_4cfef_9 : decode cJ1_indexOfChar_4cfef 9 = .ok (.iload_n 3, 1) := by decide +kernel
theorem dJ1_indexOfChar_4cfef_10 : decode cJ1_indexOfChar_4cfef 10 = .ok (.if_icmp .ge 21, 3) := by decide +kernel
theorem dJ1_indexOfChar_4cfef_13 : decode cJ1_indexOfChar_4cfef 13 = .ok (.aload_n 0, 1) := by decide +kernel
theorem dJ1_indexOfChar_4cfef_14 : decode cJ1_indexOfChar_4cfef 14 = .ok (.iload 5, 2) := by decide +kernel
theorem dJ1_indexOfChar_4cfef_16 : decode cJ1_indexOfChar_4cfef 16 = .ok (.baload, 1) := by decide +kernel
theorem dJ1_indexOfChar_4cfef_17 : decode cJ1_indexOfChar_4cfef 17 = .ok (.iload 4, 2) := by decide +kernel
theorem dJ1_indexOfChar_4cfef_19 : decode cJ1_indexOfChar_4cfef 19 = .ok (.if_icmp .ne 6, 3) := by decide +kernel
theorem dJ1_indexOfChar_4cfef_22 : decode cJ1_indexOfChar_4cfef 22 = .ok (.iload 5, 2) := by decide +kernel
theorem dJ1_indexOfChar_4cfef_24 : decode cJ1_indexOfChar_4cfef 24 = .ok (.ireturn, 1) := by decide +kernel
theorem dJ1_indexOfChar_4cfef_25 : decode cJ1_indexOfChar_4cfef 25 = .ok (.iinc 5 1, 3) := by decide +kernel
theorem dJ1_indexOfChar_4cfef_28 : decode cJ1_indexOfChar_4cfef 28 = .ok (.goto (-21), 3) := by decide +kernel
theorem dJ1_indexOfChar_4cfef_31 : decode cJ1_indexOfChar_4cfef 31 = .ok (.iconst (-1), 1) := by decide +kernel
theorem dJ1_indexOfChar_4cfef_32 : decode cJ1_indexOfChar_4cfef 32 = .ok (.ireturn, 1) := by decide +kernel
theorem inb_nx {p N : Nat} (h : p < N) (hN : N < 2 ^ 31) : inb (nI p) N = true := by
  unfold inb; rw [nI_toInt (by omega)]; simp; omega
section
variable {R : Room} {s : State} {args : Array Value}
theorem wIx_RX6_54 (j : Nat) (hts : ∀ w ∈ lw_g, w.before args s = true) (hR : j + 1 ≤ R.frames ∧ 8 + (2 + 11) + 40 * j ≤ R.locals) : CallW R s args RX6 RJ0 54 yJ0_indexOf_0f7a4 cJ0_indexOf_0f7a4 2 (some .int) (wsOf yJ0_indexOf_0f7a4 cJ0_indexOf_0f7a4 2 (some .int)) (rmL j) 0 0 1 :=
  ⟨callB_of 1 hts (wd_ws (wd_3 (w := .code yJ0_indexOf_0f7a4 cJ0_indexOf_0f7a4 2 (some .int)) (i := 147) (by decide +kernel) rfl)) rfl rfl rfl (hts _ (wd_1 (w := .initialized RJ0) (i := 13) (by decide +kernel) rfl)) (hts _ (wd_3 (w := .methodLink RX6 54 yJ0_indexOf_0f7a4) (i := 144) (by decide +kernel) rfl)) (by decide +kernel) hR, hts _ (wd_3 (w := .instanceMethod yJ0_indexOf_0f7a4) (i := 145) (by decide +kernel) rfl), hts _ (wd_3 (w := .selects RJ0 yJ0_indexOf_0f7a4 yJ0_indexOf_0f7a4) (i := 146) (by decide +kernel) rfl)⟩
theorem wIx_RJ0_633 (j : Nat) (hts : ∀ w ∈ lw_g, w.before args s = true) (hR : j + 1 ≤ R.frames ∧ 8 + (3 + 11) + 40 * j ≤ R.locals) : CallW R s args RJ0 RJ0 633 yJ0_indexOf_7cf53 cJ0_indexOf_7cf53 3 (some .int) (wsOf yJ0_indexOf_7cf53 cJ0_indexOf_7cf53 3 (some .int)) (rmL j) 0 0 2 :=
  ⟨callB_of 2 hts (wd_ws (wd_3 (w := .code yJ0_indexOf_7cf53 cJ0_indexOf_7cf53 3 (some .int)) (i := 151) (by decide +kernel) rfl)) rfl rfl rfl (hts _ (wd_1 (w := .initialized RJ0) (i := 13) (by decide +kernel) rfl)) (hts _ (wd_3 (w := .methodLink RJ0 633 yJ0_indexOf_7cf53) (i := 148) (by decide +kernel) rfl)) (by decide +kernel) hR, hts _ (wd_3 (w := .instanceMethod yJ0_indexOf_7cf53) (i := 149) (by decide +kernel) rfl), hts _ (wd_3 (w := .selects RJ0 yJ0_indexOf_7cf53 yJ0_indexOf_7cf53) (i := 150) (by decide +kernel) rfl)⟩
theorem wIx_RJ0_492 (j : Nat) (hts : ∀ w ∈ lw_g, w.before args s = true) (hR : j + 1 ≤ R.frames ∧ 8 + (1 + 11) + 40 * j ≤ R.locals) : CallW R s args RJ0 RJ0 492 yJ0_isLatin1_aae02 cJ0_isLatin1_aae02 1 (some .boolean) (wsOf yJ0_isLatin1_aae02 cJ0_isLatin1_aae02 1 (some .boolean)) (rmL j) 0 0 0 :=
  ⟨callB_of 0 hts (wd_ws (wd_3 (w := .code yJ0_isLatin1_aae02 cJ0_isLatin1_aae02 1 (some .boolean)) (i := 155) (by decide +kernel) rfl)) rfl rfl rfl (hts _ (wd_1 (w := .initialized RJ0) (i := 13) (by decide +kernel) rfl)) (hts _ (wd_3 (w := .methodLink RJ0 492 yJ0_isLatin1_aae02) (i := 152) (by decide +kernel) rfl)) (by decide +kernel) hR, hts _ (wd_3 (w := .instanceMethod yJ0_isLatin1_aae02) (i := 153) (by decide +kernel) rfl), hts _ (wd_3 (w := .selects RJ0 yJ0_isLatin1_aae02 yJ0_isLatin1_aae02) (i := 154) (by decide +kernel) rfl)⟩
theorem wIx_RJ0_505 (j : Nat) (hts : ∀ w ∈ lw_g, w.before args s = true) (hR : j + 1 ≤ R.frames ∧ 8 + (1 + 11) + 40 * j ≤ R.locals) : CallW R s args RJ0 RJ0 505 yJ0_length_8abf5 cJ0_length_8abf5 1 (some .int) (wsOf yJ0_length_8abf5 cJ0_length_8abf5 1 (some .int)) (rmL j) 0 0 0 :=
  ⟨callB_of 0 hts (wd_ws (wd_3 (w := .code yJ0_length_8abf5 cJ0_length_8abf5 1 (some .int)) (i := 161) (by decide +kernel) rfl)) rfl rfl rfl (hts _ (wd_1 (w := .initialized RJ0) (i := 13) (by decide +kernel) rfl)) (hts _ (wd_3 (w := .methodLink RJ0 505 yJ0_length_8abf5) (i := 158) (by decide +kernel) rfl)) (by decide +kernel) hR, hts _ (wd_3 (w := .instanceMethod yJ0_length_8abf5) (i := 159) (by decide +kernel) rfl), hts _ (wd_3 (w := .selects RJ0 yJ0_length_8abf5 yJ0_length_8abf5) (i := 160) (by decide +kernel) rfl)⟩
theorem wIx_RJ0_335 (j : Nat) (hts : ∀ w ∈ lw_g, w.before args s = true) (hR : j + 1 ≤ R.frames ∧ 8 + (1 + 11) + 40 * j ≤ R.locals) : CallW R s args RJ0 RJ0 335 yJ0_coder_7d493 cJ0_coder_7d493 1 (some .byte) (wsOf yJ0_coder_7d493 cJ0_coder_7d493 1 (some .byte)) (rmL j) 0 0 0 :=
  ⟨callB_of 0 hts (wd_ws (wd_3 (w := .code yJ0_coder_7d493 cJ0_coder_7d493 1 (some .byte)) (i := 165) (by decide +kernel) rfl)) rfl rfl rfl (hts _ (wd_1 (w := .initialized RJ0) (i := 13) (by decide +kernel) rfl)) (hts _ (wd_3 (w := .methodLink RJ0 335 yJ0_coder_7d493) (i := 162) (by decide +kernel) rfl)) (by decide +kernel) hR, hts _ (wd_3 (w := .instanceMethod yJ0_coder_7d493) (i := 163) (by decide +kernel) rfl), hts _ (wd_3 (w := .selects RJ0 yJ0_coder_7d493 yJ0_coder_7d493) (i := 164) (by decide +kernel) rfl)⟩
theorem wIx_RJ0_637 (j : Nat) (hts : ∀ w ∈ lw_g, w.before args s = true) (hR : j + 1 ≤ R.frames ∧ 8 + (4 + 11) + 40 * j ≤ R.locals) : CallB R s args RJ0 637 yJ1_indexOf_4cfef cJ1_indexOf_4cfef 4 (some .int) (wsOf yJ1_indexOf_4cfef cJ1_indexOf_4cfef 4 (some .int)) (rmL j) 0 0 4 ∧ (Cond.static yJ1_indexOf_4cfef).before args s = true :=
  ⟨callB_of 4 hts (wd_ws (wd_3 (w := .code yJ1_indexOf_4cfef cJ1_indexOf_4cfef 4 (some .int)) (i := 168) (by decide +kernel) rfl)) rfl rfl rfl (hts _ (wd_1 (w := .initialized RJ1) (i := 14) (by decide +kernel) rfl)) (hts _ (wd_3 (w := .methodLink RJ0 637 yJ1_indexOf_4cfef) (i := 166) (by decide +kernel) rfl)) (by decide +kernel) hR, hts _ (wd_3 (w := .static yJ1_indexOf_4cfef) (i := 167) (by decide +kernel) rfl)⟩
theorem wIx_RJ1_88 (j : Nat) (hts : ∀ w ∈ lw_g, w.before args s = true) (hR : j + 1 ≤ R.frames ∧ 8 + (1 + 11) + 40 * j ≤ R.locals) : CallB R s args RJ1 88 yJ1_canEncode_9a6ad cJ1_canEncode_9a6ad 1 (some .boolean) (wsOf yJ1_canEncode_9a6ad cJ1_canEncode_9a6ad 1 (some .boolean)) (rmL j) 0 0 1 ∧ (Cond.static yJ1_canEncode_9a6ad).before args s = true :=
  ⟨callB_of 1 hts (wd_ws (wd_3 (w := .code yJ1_canEncode_9a6ad cJ1_canEncode_9a6ad 1 (some .boolean)) (i := 171) (by decide +kernel) rfl)) rfl rfl rfl (hts _ (wd_1 (w := .initialized RJ1) (i := 14) (by decide +kernel) rfl)) (hts _ (wd_3 (w := .methodLink RJ1 88 yJ1_canEncode_9a6ad) (i := 169) (by decide +kernel) rfl)) (by decide +kernel) hR, hts _ (wd_3 (w := .static yJ1_canEncode_9a6ad) (i := 170) (by decide +kernel) rfl)⟩
theorem wIx_RJ1_95 (j : Nat) (hts : ∀ w ∈ lw_g, w.before args s = true) (hR : j + 1 ≤ R.frames ∧ 8 + (6 + 11) + 40 * j ≤ R.locals) : CallB R s args RJ1 95 yJ1_indexOfChar_4cfef cJ1_indexOfChar_4cfef 6 (some .int) (wsOf yJ1_indexOfChar_4cfef cJ1_indexOfChar_4cfef 6 (some .int)) (rmL j) 0 0 4 ∧ (Cond.static yJ1_indexOfChar_4cfef).before args s = true :=
  ⟨callB_of 4 hts (wd_ws (wd_3 (w := .code yJ1_indexOfChar_4cfef cJ1_indexOfChar_4cfef 6 (some .int)) (i := 180) (by decide +kernel) rfl)) rfl rfl rfl (hts _ (wd_1 (w := .initialized RJ1) (i := 14) (by decide +kernel) rfl)) (hts _ (wd_3 (w := .methodLink RJ1 95 yJ1_indexOfChar_4cfef) (i := 178) (by decide +kernel) rfl)) (by decide +kernel) hR, hts _ (wd_3 (w := .static yJ1_indexOfChar_4cfef) (i := 179) (by decide +kernel) rfl)⟩
end
/-- what String.indexOf takes of the world: the text, and the cells' places -/
def NJ (A : Nat → Prop) (ws : va_W) (kS vS : Nat) (U : State) : Prop := va_D A ws ∧ vk_S 1 [9] [[102, 104, 107, 119, 109, 108, 97, 115, 100]] (fun _ => kS) (fun _ => vS) A U U.heap ∧ va_Z "java/lang/String" "COMPACT_STRINGS" "Z" (.int 1) A U U.heap
theorem NJ_keep {s : State} {H : Heap} {locs : List Loc} {A : Nat → Prop} {ws : va_W} {kS vS : Nat} (h : vk_S 1 [9] [[102, 104, 107, 119, 109, 108, 97, 115, 100]] (fun _ => kS) (fun _ => vS) A s s.heap) (hZ : va_Z "java/lang/String" "COMPACT_STRINGS" "Z" (.int 1) A s s.heap) (hD : va_D A ws) (hS : va_S A s.heap H locs) : ∀ U : State, U.heap = H → s.WarmedH U.vm → NJ A ws kS vS U := by
  intro U hU hW
  subst hU
  exact ⟨hD, (h.kept hS.2.1).moved hW.alike, (hZ.kept hS.2.1).moved hW.alike⟩
theorem NJ_blind {A : Nat → Prop} {ws : va_W} {kS vS : Nat} : ∀ (a : Array Value) (U : State) (g : JFrame) (mk : MethodId), NJ A ws kS vS U → NJ A ws kS vS (U.calling g mk a) := by
  intro a U g mk h
  exact ⟨h.1, h.2.1.moved (U := U.calling g mk a) (Vm.Alike.refl U.vm), h.2.2.moved (U := U.calling g mk a) (Vm.Alike.refl U.vm)⟩
theorem metJ {l : Launch} {y : MethodName} {cc : ByteArray} {nL k : Nat} {ret : Option FieldType} {own : String} {D : va_G} {A : Nat → Prop} {cy : Nat → ClassId} {ws : va_W} {kS vS : Nat} {av : List Value} {Qc : Array Value → State → Outcome → State → Prop} (hy : plainName y.cls = true) (ho : y.cls = own) (hlen : (lg_sl av).length ≤ nL)
    (body : ∀ (p : Program) (e : Env) (s : State) (m : MethodId) (below : List Frame) (meth : Method) (c : Code) (ls : Array Slot), Cx p c cc nL s m av.toArray own meth ret D cy (NJ A ws kS vS) → Wd D ws A s.heap s.heap [] → lv_has ls nL (lv_args 0 av) → W p l e (rmL k) s m av.toArray below meth c s.heap [] 0 0 (MQ below Qc av.toArray s 0 0 A) (F0 m 0 ls [])) (sz : Nat) :
    Met l y (wsOf y cc nL ret) (rmL k) (va_Pc av (PreG D cy ws sz (NJ A ws kS vS))) Qc 0 0 A := by
  refine Met.ofW (cc := cc) (maxL := nL) (ret := ret) hy rfl ?_
  intro p e s m args below meth c s₁ B hml hv
  obtain ⟨rfl, hsz, hP, hK, hD0, hN⟩ := hv
  have hts0 := atoms_spec (ws := wsOf y cc nL ret) B.pre
  have hown : s.vm.findClass own = some m.cls := by rw [← ho]; exact findClass_of_methodNamed B.named
  subst hsz
  have hl := lv_entry av hlen
  rw [lg_entry_eq]
  exact body p e s m below meth c _ ⟨B.exec, B.bytes, hml, hown, fun w h => hts0 w (List.mem_cons_of_mem _ h), B.returns, B.notSynchronized, hK, hN⟩ ⟨hP, hN.1, va_S.rf⟩ hl
abbrev QcJ (D : va_G) (A : Nat → Prop) (ws : va_W) (v : Int32) : Array Value → State → Outcome → State → Prop := va_Qi (fun x (_ : Unit) => x = v) (fun _ => PosG D ws A) A
def canE (x : Int32) : Int32 := if x < 0 then 0 else if (255 : Int32) < x then 0 else 1
set_option maxHeartbeats 4000000 in
set_option maxRecDepth 100000 in
theorem mIx_can (l : Launch) (D : va_G) (A : Nat → Prop) (cy : Nat → ClassId) (sz : Nat) (ws : va_W) (kS vS : Nat) (a0 : Int32) : Met l yJ1_canEncode_9a6ad (wsOf yJ1_canEncode_9a6ad cJ1_canEncode_9a6ad 1 (some .boolean)) (rmL 0) (va_Pc ([.int a0] : List Value) (PreG D cy ws sz (NJ A ws kS vS))) (QcJ D A ws (canE a0)) 0 0 A := by
  refine metJ (own := RJ1) (by decide) rfl (Nat.le_of_ble_eq_true rfl) ?_ sz
  intro p e s m below meth c ls C0 hw hl
  obtain ⟨hx, hb, hml, hown, hts, hr, hlk, hK, hD0, hk, hZ⟩ := C0
  have hl : lv_has ls 1 [(0, .int a0)] := hl
  generalize hQ : MQ below (QcJ D A ws (canE a0)) ([.int a0] : List Value).toArray s 0 0 A = Q
  obtain ⟨H, hH⟩ : ∃ H : Heap, H = s.heap := ⟨_, rfl⟩
  obtain ⟨locs, hlc⟩ : ∃ L : List Loc, L = [] := ⟨_, rfl⟩
  have hw : Wd D ws A s.heap H locs := by rw [hH, hlc]; exact hw
  suffices h0 : W p l e (rmL 0) s m ([.int a0] : List Value).toArray below meth c H locs 0 0 Q (F0 m 0 ls []) by rw [hH, hlc] at h0; exact h0
  clear hH hlc
  unfold canE at hQ
  refine lv_iload_n hx hb dJ1_canEncode_9a6ad_0 rfl (lv_at hl 0 rfl) ?_
  refine lv_if_lt (tgt := 15) hx hb dJ1_canEncode_9a6ad_1 (by decide) (fun c_1 => ?_) (fun c_1 => ?_)
  · rw [if_pos c_1] at hQ
    refine lv_iconst (v := 0) hx hb dJ1_canEncode_9a6ad_15 (by decide) ?_
    rw [← hQ]
    exact retI hx hb hr hlk hw rfl dJ1_canEncode_9a6ad_16
  · rw [if_neg c_1] at hQ
    refine lv_iload_n hx hb dJ1_canEncode_9a6ad_4 rfl (lv_at hl 0 rfl) ?_
    refine lv_sipush (v := 255) hx hb dJ1_canEncode_9a6ad_5 (by decide) ?_
    refine lv_icmp_gt (tgt := 15) hx hb dJ1_canEncode_9a6ad_8 (by decide) (fun c_8 => ?_) (fun c_8 => ?_)
    · rw [if_pos c_8] at hQ
      refine lv_iconst (v := 0) hx hb dJ1_canEncode_9a6ad_15 (by decide) ?_
      rw [← hQ]
      exact retI hx hb hr hlk hw rfl dJ1_canEncode_9a6ad_16
    · rw [if_neg c_8] at hQ
      refine lv_iconst (v := 1) hx hb dJ1_canEncode_9a6ad_11 (by decide) ?_
      refine lv_goto (tgt := 16) hx hb dJ1_canEncode_9a6ad_12 (by decide) ?_
      rw [← hQ]
      exact retI hx hb hr hlk hw rfl dJ1_canEncode_9a6ad_16
set_option maxHeartbeats 4000000 in
set_option maxRecDepth 100000 in
theorem mIx_coder (l : Launch) (D : va_G) (A : Nat → Prop) (cy : Nat → ClassId) (sz : Nat) (ws : va_W) (kS vS : Nat) : Met l yJ0_coder_7d493 (wsOf yJ0_coder_7d493 cJ0_coder_7d493 1 (some .byte)) (rmL 0) (va_Pc ([.ref kS] : List Value) (PreG D cy ws sz (NJ A ws kS vS))) (QcJ D A ws (0)) 0 0 A := by
  refine metJ (own := RJ0) (by decide) rfl (Nat.le_of_ble_eq_true rfl) ?_ sz
  intro p e s m below meth c ls C0 hw hl
  obtain ⟨hx, hb, hml, hown, hts, hr, hlk, hK, hD0, hk, hZ⟩ := C0
  have hl : lv_has ls 1 [(0, .ref kS)] := hl
  generalize hQ : MQ below (QcJ D A ws (0)) ([.ref kS] : List Value).toArray s 0 0 A = Q
  obtain ⟨H, hH⟩ : ∃ H : Heap, H = s.heap := ⟨_, rfl⟩
  obtain ⟨locs, hlc⟩ : ∃ L : List Loc, L = [] := ⟨_, rfl⟩
  have hw : Wd D ws A s.heap H locs := by rw [hH, hlc]; exact hw
  suffices h0 : W p l e (rmL 0) s m ([.ref kS] : List Value).toArray below meth c H locs 0 0 Q (F0 m 0 ls []) by rw [hH, hlc] at h0; exact h0
  clear hH hlc
  refine va_gets hx hb hZ hw.2.2 hown (hts _ (wd_3 (w := .fieldLink RJ0 38 RJ0 "COMPACT_STRINGS" "Z") (i := 156) (by decide +kernel) rfl)) (fun _ h => h) dJ0_coder_7d493_0 ?_
  refine lv_if_eq (tgt := 13) hx hb dJ0_coder_7d493_3 (by decide) (fun c_1 => absurd c_1 (by decide)) (fun c_1 => ?_)
  refine lv_aload_n hx hb dJ0_coder_7d493_6 rfl (lv_at hl 0 rfl) ?_
  refine vk_getf hx hb (hk.1 0 (by decide)).2.1 hw.2.2 hown (hts _ (wd_8 (w := .fieldLink RJ0 15 RJ0 "coder" "B") (i := 227) (by decide +kernel) rfl)) (fun _ h => h) dJ0_coder_7d493_7 ?_
  refine lv_goto (tgt := 14) hx hb dJ0_coder_7d493_10 (by decide) ?_
  rw [← hQ]
  exact retI hx hb hr hlk hw rfl dJ0_coder_7d493_14
set_option maxHeartbeats 4000000 in
set_option maxRecDepth 100000 in
theorem mIx_lat (l : Launch) (D : va_G) (A : Nat → Prop) (cy : Nat → ClassId) (sz : Nat) (ws : va_W) (kS vS : Nat) : Met l yJ0_isLatin1_aae02 (wsOf yJ0_isLatin1_aae02 cJ0_isLatin1_aae02 1 (some .boolean)) (rmL 0) (va_Pc ([.ref kS] : List Value) (PreG D cy ws sz (NJ A ws kS vS))) (QcJ D A ws (1)) 0 0 A := by
  refine metJ (own := RJ0) (by decide) rfl (Nat.le_of_ble_eq_true rfl) ?_ sz
  intro p e s m below meth c ls C0 hw hl
  obtain ⟨hx, hb, hml, hown, hts, hr, hlk, hK, hD0, hk, hZ⟩ := C0
  have hl : lv_has ls 1 [(0, .ref kS)] := hl
  generalize hQ : MQ below (QcJ D A ws (1)) ([.ref kS] : List Value).toArray s 0 0 A = Q
  obtain ⟨H, hH⟩ : ∃ H : Heap, H = s.heap := ⟨_, rfl⟩
  obtain ⟨locs, hlc⟩ : ∃ L : List Loc, L = [] := ⟨_, rfl⟩
  have hw : Wd D ws A s.heap H locs := by rw [hH, hlc]; exact hw
  suffices h0 : W p l e (rmL 0) s m ([.ref kS] : List Value).toArray below meth c H locs 0 0 Q (F0 m 0 ls []) by rw [hH, hlc] at h0; exact h0
  clear hH hlc
  refine va_gets hx hb hZ hw.2.2 hown (hts _ (wd_3 (w := .fieldLink RJ0 38 RJ0 "COMPACT_STRINGS" "Z") (i := 156) (by decide +kernel) rfl)) (fun _ h => h) dJ0_isLatin1_aae02_0 ?_
  refine lv_if_eq (tgt := 17) hx hb dJ0_isLatin1_aae02_3 (by decide) (fun c_1 => absurd c_1 (by decide)) (fun c_1 => ?_)
  refine lv_aload_n hx hb dJ0_isLatin1_aae02_6 rfl (lv_at hl 0 rfl) ?_
  refine vk_getf hx hb (hk.1 0 (by decide)).2.1 hw.2.2 hown (hts _ (wd_8 (w := .fieldLink RJ0 15 RJ0 "coder" "B") (i := 227) (by decide +kernel) rfl)) (fun _ h => h) dJ0_isLatin1_aae02_7 ?_
  refine lv_if_ne (tgt := 17) hx hb dJ0_isLatin1_aae02_10 (by decide) (fun c_1 => absurd rfl c_1) (fun c_1 => ?_)
  refine lv_iconst (v := 1) hx hb dJ0_isLatin1_aae02_13 (by decide) ?_
  refine lv_goto (tgt := 18) hx hb dJ0_isLatin1_aae02_14 (by decide) ?_
  rw [← hQ]
  exact retI hx hb hr hlk hw rfl dJ0_isLatin1_aae02_18
set_option maxHeartbeats 4000000 in
set_option maxRecDepth 100000 in
theorem mIx_len (l : Launch) (D : va_G) (A : Nat → Prop) (cy : Nat → ClassId) (sz : Nat) (ws : va_W) (kS vS : Nat) : Met l yJ0_length_8abf5 (wsOf yJ0_length_8abf5 cJ0_length_8abf5 1 (some .int)) (rmL 1) (va_Pc ([.ref kS] : List Value) (PreG D cy ws sz (NJ A ws kS vS))) (QcJ D A ws (9)) 0 0 A := by
  refine metJ (own := RJ0) (by decide) rfl (Nat.le_of_ble_eq_true rfl) ?_ sz
  intro p e s m below meth c ls C0 hw hl
  obtain ⟨hx, hb, hml, hown, hts, hr, hlk, hK, hD0, hk, hZ⟩ := C0
  have hl : lv_has ls 1 [(0, .ref kS)] := hl
  generalize hQ : MQ below (QcJ D A ws (9)) ([.ref kS] : List Value).toArray s 0 0 A = Q
  obtain ⟨H, hH⟩ : ∃ H : Heap, H = s.heap := ⟨_, rfl⟩
  obtain ⟨locs, hlc⟩ : ∃ L : List Loc, L = [] := ⟨_, rfl⟩
  have hw : Wd D ws A s.heap H locs := by rw [hH, hlc]; exact hw
  suffices h0 : W p l e (rmL 1) s m ([.ref kS] : List Value).toArray below meth c H locs 0 0 Q (F0 m 0 ls []) by rw [hH, hlc] at h0; exact h0
  clear hH hlc
  refine lv_aload_n hx hb dJ0_length_8abf5_0 rfl (lv_at hl 0 rfl) ?_
  refine vk_getf hx hb (hk.1 0 (by decide)).2.2.1 hw.2.2 hown (hts _ (wd_8 (w := .fieldLink RJ0 9 RJ0 "value" "[B") (i := 228) (by decide +kernel) rfl)) (fun _ h => h) dJ0_length_8abf5_1 ?_
  refine va_tlen hx hb (hk.1 0 (by decide)).2.2.2 hw.2.2 (v := 9) rfl dJ0_length_8abf5_4 ?_
  refine lv_aload_n hx hb dJ0_length_8abf5_5 rfl (lv_at hl 0 rfl) ?_
  have pg := preG (av := [.ref kS]) hK hw.1 hw.2.1 (NJ_keep hk hZ hw.2.1 hw.2.2) NJ_blind
  refine endI (mc := 0) (ms := 0) (va_runV (As := []) (rest := [.int 9]) ⟨hx, hb, hml, hown, hts⟩ (mIx_coder l D A cy H.size ws kS vS) (wIx_RJ0_335 0 hts ⟨Nat.le_of_ble_eq_true rfl, Nat.le_of_ble_eq_true rfl⟩) ⟨pg.1, vk_recv hk (i := 0) (by decide) hw.2.2, pg.2⟩ rfl rfl hl.1 rfl (lv_room (Nat.le_of_ble_eq_true rfl)) dJ0_length_8abf5_6 ⟨Nat.le_refl _, Nat.le_refl _⟩) hw.2.2 (fun _ h => h) (fun H locs hw => ?_)
  refine lv_ishr hx hb dJ0_length_8abf5_9 ?_
  refine topI (y := 9) (by decide) ?_
  rw [← hQ]
  exact retI hx hb hr hlk hw rfl dJ0_length_8abf5_10
def ixL (b : Int32) : List Int32 → Nat → Int32
  | [], _ => -1
  | y :: l, k => if y = b then nI k else ixL b l (k + 1)
abbrev byS : List Int32 := [102, 104, 107, 119, 109, 108, 97, 115, 100]
set_option maxHeartbeats 4000000 in
set_option maxRecDepth 100000 in
theorem mIx_chr (l : Launch) (D : va_G) (A : Nat → Prop) (cy : Nat → ClassId) (sz : Nat) (ws : va_W) (kS vS : Nat) (a0 : Int32) : Met l yJ1_indexOfChar_4cfef (wsOf yJ1_indexOfChar_4cfef cJ1_indexOfChar_4cfef 6 (some .int)) (rmL 0) (va_Pc ([.ref vS, .int a0, .int 0, .int 9] : List Value) (PreG D cy ws sz (NJ A ws kS vS))) (QcJ D A ws (ixL (a0.toInt8.toInt32) byS 0)) 0 0 A := by
  refine metJ (own := RJ1) (by decide) rfl (Nat.le_of_ble_eq_true rfl) ?_ sz
  intro p e s m below meth c ls C0 hw hl
  obtain ⟨hx, hb, hml, hown, hts, hr, hlk, hK, hD0, hk, hZ⟩ := C0
  have hl : lv_has ls 6 [(0, .ref vS), (1, .int a0), (2, .int 0), (3, .int 9)] := hl
  generalize hQ : MQ below (QcJ D A ws (ixL (a0.toInt8.toInt32) byS 0)) ([.ref vS, .int a0, .int 0, .int 9] : List Value).toArray s 0 0 A = Q
  obtain ⟨H, hH⟩ : ∃ H : Heap, H = s.heap := ⟨_, rfl⟩
  obtain ⟨locs, hlc⟩ : ∃ L : List Loc, L = [] := ⟨_, rfl⟩
  have hw : Wd D ws A s.heap H locs := by rw [hH, hlc]; exact hw
  suffices h0 : W p l e (rmL 0) s m ([.ref vS, .int a0, .int 0, .int 9] : List Value).toArray below meth c H locs 0 0 Q (F0 m 0 ls []) by rw [hH, hlc] at h0; exact h0
  clear hH hlc
  refine lv_iload_n hx hb dJ1_indexOfChar_4cfef_0 rfl (lv_at hl 1 rfl) ?_
  refine lv_i2b hx hb dJ1_indexOfChar_4cfef_1 rfl ?_
  refine lv_istore (lv' := [(4, .int a0.toInt8.toInt32), (0, .ref vS), (1, .int a0), (2, .int 0), (3, .int 9)]) hx hb dJ1_indexOfChar_4cfef_2 hl (by decide) rfl (fun ls hl => ?_)
  refine lv_iload_n hx hb dJ1_indexOfChar_4cfef_4 rfl (lv_at hl 3 rfl) ?_
  refine lv_istore (lv' := [(5, .int (nI 0)), (4, .int a0.toInt8.toInt32), (0, .ref vS), (1, .int a0), (2, .int 0), (3, .int 9)]) hx hb dJ1_indexOfChar_4cfef_5 hl (by decide) rfl (fun ls hl => ?_)
  have key : ∀ (d k : Nat), k + d = 9 → ixL (a0.toInt8.toInt32) byS 0 = ixL (a0.toInt8.toInt32) (byS.drop k) k → ∀ ls, lv_has ls 6 [(5, .int (nI k)), (4, .int a0.toInt8.toInt32), (0, .ref vS), (1, .int a0), (2, .int 0), (3, .int 9)] → W p l e (rmL 0) s m ([.ref vS, .int a0, .int 0, .int 9] : List Value).toArray below meth c H locs 0 0 Q (F0 m 7 ls []) := by
    intro d
    induction d with
    | zero =>
      intro k hkd hval ls hl
      have hk9 : k = 9 := by omega
      subst hk9
      refine lv_iload hx hb dJ1_indexOfChar_4cfef_7 (lv_at hl 0 rfl) ?_
      refine lv_iload_n hx hb dJ1_indexOfChar_4cfef_9 rfl (lv_at hl 5 rfl) ?_
      refine lv_icmp_ge (tgt := 31) hx hb dJ1_indexOfChar_4cfef_10 (by decide) (fun c_1 => ?_) (fun c_1 => absurd (show (9 : Int32) ≤ nI 9 by decide) c_1)
      refine lv_iconst (v := -1) hx hb dJ1_indexOfChar_4cfef_31 (by decide) ?_
      rw [hval] at hQ
      rw [← hQ]
      exact retI hx hb hr hlk hw rfl dJ1_indexOfChar_4cfef_32
    | succ d ih =>
      intro k hkd hval ls hl
      have hk9 : k < 9 := by omega
      refine lv_iload hx hb dJ1_indexOfChar_4cfef_7 (lv_at hl 0 rfl) ?_
      refine lv_iload_n hx hb dJ1_indexOfChar_4cfef_9 rfl (lv_at hl 5 rfl) ?_
      refine lv_icmp_ge (tgt := 31) hx hb dJ1_indexOfChar_4cfef_10 (by decide) (fun c_1 => absurd c_1 (nI_ge (a := k) (b := 9) hk9 (by decide))) (fun c_1 => ?_)
      refine lv_aload_n hx hb dJ1_indexOfChar_4cfef_13 rfl (lv_at hl 2 rfl) ?_
      refine lv_iload hx hb dJ1_indexOfChar_4cfef_14 (lv_at hl 0 rfl) ?_
      refine va_tb hx hb (hk.1 0 (by decide)).2.2.2 hw.2.2 (inb_vp (inb_nx (show k < [9].getD 0 0 from hk9) (by decide))) (v := .int (byS.getD k 0)) (by rw [nI_clamp (show k < 2 ^ 31 by omega)]; rfl) dJ1_indexOfChar_4cfef_16 ?_
      refine lv_iload hx hb dJ1_indexOfChar_4cfef_17 (lv_at hl 1 rfl) ?_
      have hdr : byS.drop k = byS.getD k 0 :: byS.drop (k + 1) := by
        have : ∀ q : Fin 9, byS.drop q.1 = byS.getD q.1 0 :: byS.drop (q.1 + 1) := by decide
        exact this ⟨k, hk9⟩
      refine lv_icmp_ne (tgt := 25) hx hb dJ1_indexOfChar_4cfef_19 (by decide) (fun c_2 => ?_) (fun c_2 => ?_)
      · refine lv_iinc (v := nI (k + 1)) (lv' := [(5, .int (nI (k + 1))), (4, .int a0.toInt8.toInt32), (0, .ref vS), (1, .int a0), (2, .int 0), (3, .int 9)]) hx hb dJ1_indexOfChar_4cfef_25 hl (k := 0) rfl (by rw [← nI_1]; rfl) (by decide) rfl (fun ls hl => ?_)
        refine lv_goto (tgt := 7) hx hb dJ1_indexOfChar_4cfef_28 (by decide) ?_
        refine ih (k + 1) (by omega) ?_ ls hl
        rw [hval, hdr]
        exact if_neg c_2
      · refine lv_iload hx hb dJ1_indexOfChar_4cfef_22 (lv_at hl 0 rfl) ?_
        have hv : ixL (a0.toInt8.toInt32) byS 0 = nI k := by
          rw [hval, hdr]
          exact if_pos c_2
        rw [hv] at hQ
        rw [← hQ]
        exact retI hx hb hr hlk hw rfl dJ1_indexOfChar_4cfef_24
  exact key 9 0 (by decide) rfl ls hl
def ixR (x : Int32) : Int32 := if canE x = 0 then -1 else ixL (x.toInt8.toInt32) byS 0
set_option maxHeartbeats 4000000 in
set_option maxRecDepth 100000 in
theorem mIx_lix (l : Launch) (D : va_G) (A : Nat → Prop) (cy : Nat → ClassId) (sz : Nat) (ws : va_W) (kS vS : Nat) (a0 : Int32) : Met l yJ1_indexOf_4cfef (wsOf yJ1_indexOf_4cfef cJ1_indexOf_4cfef 4 (some .int)) (rmL 1) (va_Pc ([.ref vS, .int a0, .int 0, .int 9] : List Value) (PreG D cy ws sz (NJ A ws kS vS))) (QcJ D A ws (ixR a0)) 0 0 A := by
  refine metJ (own := RJ1) (by decide) rfl (Nat.le_of_ble_eq_true rfl) ?_ sz
  intro p e s m below meth c ls C0 hw hl
  obtain ⟨hx, hb, hml, hown, hts, hr, hlk, hK, hD0, hk, hZ⟩ := C0
  have hl : lv_has ls 4 [(0, .ref vS), (1, .int a0), (2, .int 0), (3, .int 9)] := hl
  generalize hQ : MQ below (QcJ D A ws (ixR a0)) ([.ref vS, .int a0, .int 0, .int 9] : List Value).toArray s 0 0 A = Q
  obtain ⟨H, hH⟩ : ∃ H : Heap, H = s.heap := ⟨_, rfl⟩
  obtain ⟨locs, hlc⟩ : ∃ L : List Loc, L = [] := ⟨_, rfl⟩
  have hw : Wd D ws A s.heap H locs := by rw [hH, hlc]; exact hw
  suffices h0 : W p l e (rmL 1) s m ([.ref vS, .int a0, .int 0, .int 9] : List Value).toArray below meth c H locs 0 0 Q (F0 m 0 ls []) by rw [hH, hlc] at h0; exact h0
  clear hH hlc
  unfold ixR at hQ
  refine lv_iload_n hx hb dJ1_indexOf_4cfef_0 rfl (lv_at hl 1 rfl) ?_
  have pg := preG (av := [.int a0]) hK hw.1 hw.2.1 (NJ_keep hk hZ hw.2.1 hw.2.2) NJ_blind
  refine endI (mc := 0) (ms := 0) (va_runS (As := [.int a0]) (rest := []) ⟨hx, hb, hml, hown, hts⟩ (mIx_can l D A cy H.size ws kS vS a0) (wIx_RJ1_88 0 hts ⟨Nat.le_of_ble_eq_true rfl, Nat.le_of_ble_eq_true rfl⟩) pg rfl rfl hl.1 rfl (lv_room (Nat.le_of_ble_eq_true rfl)) dJ1_indexOf_4cfef_1 ⟨Nat.le_refl _, Nat.le_refl _⟩) hw.2.2 (fun _ h => h) (fun H locs hw => ?_)
  refine lv_if_ne (tgt := 9) hx hb dJ1_indexOf_4cfef_4 (by decide) (fun c_1 => ?_) (fun c_1 => ?_)
  rotate_left
  · rw [if_pos c_1] at hQ
    refine lv_iconst (v := -1) hx hb dJ1_indexOf_4cfef_7 (by decide) ?_
    rw [← hQ]
    exact retI hx hb hr hlk hw rfl dJ1_indexOf_4cfef_8
  rw [if_neg c_1] at hQ
  refine lv_iload_n hx hb dJ1_indexOf_4cfef_9 rfl (lv_at hl 2 rfl) ?_
  refine lv_iconst (v := 0) hx hb dJ1_indexOf_4cfef_10 (by decide) ?_
  refine va_mmax hx hb (hml.trans hl.1.symm) hown (hts _ (wd_3 (w := .methodLink RJ1 92 Lib.Math.max.name) (i := 172) (by decide +kernel) rfl)) (hts _ (wd_3 (w := .static Lib.Math.max.name) (i := 173) (by decide +kernel) rfl)) (hts _ (wd_1 (w := .initialized "java/lang/Math") (i := 15) (by decide +kernel) rfl)) (hts _ (wd_3 (w := .code Lib.Math.max.name Lib.Math.max.code 2 (some .int)) (i := 174) (by decide +kernel) rfl)) (Nat.le_of_ble_eq_true rfl) (Nat.le_of_ble_eq_true rfl) (Nat.zero_le _) (Nat.zero_le _) dJ1_indexOf_4cfef_11 ?_
  refine topI (y := 0) (by decide) ?_
  refine lv_istore_n (lv' := [(2, .int 0), (0, .ref vS), (1, .int a0), (3, .int 9)]) hx hb dJ1_indexOf_4cfef_14 rfl hl (by decide) rfl (fun ls hl => ?_)
  refine lv_iload_n hx hb dJ1_indexOf_4cfef_15 rfl (lv_at hl 3 rfl) ?_
  refine lv_aload_n hx hb dJ1_indexOf_4cfef_16 rfl (lv_at hl 1 rfl) ?_
  refine va_tlen hx hb (hk.1 0 (by decide)).2.2.2 hw.2.2 (v := 9) rfl dJ1_indexOf_4cfef_17 ?_
  refine va_mmin hx hb (hml.trans hl.1.symm) hown (hts _ (wd_3 (w := .methodLink RJ1 38 Lib.Math.min.name) (i := 175) (by decide +kernel) rfl)) (hts _ (wd_3 (w := .static Lib.Math.min.name) (i := 176) (by decide +kernel) rfl)) (hts _ (wd_1 (w := .initialized "java/lang/Math") (i := 15) (by decide +kernel) rfl)) (hts _ (wd_3 (w := .code Lib.Math.min.name Lib.Math.min.code 2 (some .int)) (i := 177) (by decide +kernel) rfl)) (Nat.le_of_ble_eq_true rfl) (Nat.le_of_ble_eq_true rfl) (Nat.zero_le _) (Nat.zero_le _) dJ1_indexOf_4cfef_18 ?_
  refine topI (y := 9) (by decide) ?_
  refine lv_istore_n (lv' := [(3, .int 9), (2, .int 0), (0, .ref vS), (1, .int a0)]) hx hb dJ1_indexOf_4cfef_21 rfl hl (by decide) rfl (fun ls hl => ?_)
  refine lv_iload_n hx hb dJ1_indexOf_4cfef_22 rfl (lv_at hl 1 rfl) ?_
  refine lv_iload_n hx hb dJ1_indexOf_4cfef_23 rfl (lv_at hl 0 rfl) ?_
  refine lv_icmp_lt (tgt := 29) hx hb dJ1_indexOf_4cfef_24 (by decide) (fun c_2 => ?_) (fun c_2 => absurd (by decide) c_2)
  refine lv_aload_n hx hb dJ1_indexOf_4cfef_29 rfl (lv_at hl 2 rfl) ?_
  refine lv_iload_n hx hb dJ1_indexOf_4cfef_30 rfl (lv_at hl 3 rfl) ?_
  refine lv_iload_n hx hb dJ1_indexOf_4cfef_31 rfl (lv_at hl 1 rfl) ?_
  refine lv_iload_n hx hb dJ1_indexOf_4cfef_32 rfl (lv_at hl 0 rfl) ?_
  have pg := preG (av := [.ref vS, .int a0, .int 0, .int 9]) hK hw.1 hw.2.1 (NJ_keep hk hZ hw.2.1 hw.2.2) NJ_blind
  refine endI (mc := 0) (ms := 0) (va_runS (As := [.ref vS, .int a0, .int 0, .int 9]) (rest := []) ⟨hx, hb, hml, hown, hts⟩ (mIx_chr l D A cy H.size ws kS vS a0) (wIx_RJ1_95 0 hts ⟨Nat.le_of_ble_eq_true rfl, Nat.le_of_ble_eq_true rfl⟩) pg rfl rfl hl.1 rfl (lv_room (Nat.le_of_ble_eq_true rfl)) dJ1_indexOf_4cfef_33 ⟨Nat.le_refl _, Nat.le_refl _⟩) hw.2.2 (fun _ h => h) (fun H locs hw => ?_)
  rw [← hQ]
  exact retI hx hb hr hlk hw rfl dJ1_indexOf_4cfef_36
set_option maxHeartbeats 4000000 in
set_option maxRecDepth 100000 in
theorem mIx_ii (l : Launch) (D : va_G) (A : Nat → Prop) (cy : Nat → ClassId) (sz : Nat) (ws : va_W) (kS vS : Nat) (a0 : Int32) : Met l yJ0_indexOf_7cf53 (wsOf yJ0_indexOf_7cf53 cJ0_indexOf_7cf53 3 (some .int)) (rmL 2) (va_Pc ([.ref kS, .int a0, .int 0] : List Value) (PreG D cy ws sz (NJ A ws kS vS))) (QcJ D A ws (ixR a0)) 0 0 A := by
  refine metJ (own := RJ0) (by decide) rfl (Nat.le_of_ble_eq_true rfl) ?_ sz
  intro p e s m below meth c ls C0 hw hl
  obtain ⟨hx, hb, hml, hown, hts, hr, hlk, hK, hD0, hk, hZ⟩ := C0
  have hl : lv_has ls 3 [(0, .ref kS), (1, .int a0), (2, .int 0)] := hl
  generalize hQ : MQ below (QcJ D A ws (ixR a0)) ([.ref kS, .int a0, .int 0] : List Value).toArray s 0 0 A = Q
  obtain ⟨H, hH⟩ : ∃ H : Heap, H = s.heap := ⟨_, rfl⟩
  obtain ⟨locs, hlc⟩ : ∃ L : List Loc, L = [] := ⟨_, rfl⟩
  have hw : Wd D ws A s.heap H locs := by rw [hH, hlc]; exact hw
  suffices h0 : W p l e (rmL 2) s m ([.ref kS, .int a0, .int 0] : List Value).toArray below meth c H locs 0 0 Q (F0 m 0 ls []) by rw [hH, hlc] at h0; exact h0
  clear hH hlc
  refine lv_aload_n hx hb dJ0_indexOf_7cf53_0 rfl (lv_at hl 0 rfl) ?_
  have pg := preG (av := [.ref kS]) hK hw.1 hw.2.1 (NJ_keep hk hZ hw.2.1 hw.2.2) NJ_blind
  refine endI (mc := 0) (ms := 0) (va_runV (As := []) (rest := []) ⟨hx, hb, hml, hown, hts⟩ (mIx_lat l D A cy H.size ws kS vS) (wIx_RJ0_492 0 hts ⟨Nat.le_of_ble_eq_true rfl, Nat.le_of_ble_eq_true rfl⟩) ⟨pg.1, vk_recv hk (i := 0) (by decide) hw.2.2, pg.2⟩ rfl rfl hl.1 rfl (lv_room (Nat.le_of_ble_eq_true rfl)) dJ0_indexOf_7cf53_1 ⟨Nat.le_refl _, Nat.le_refl _⟩) hw.2.2 (fun _ h => h) (fun H locs hw => ?_)
  refine lv_if_eq (tgt := 23) hx hb dJ0_indexOf_7cf53_4 (by decide) (fun c_1 => absurd c_1 (by decide)) (fun c_1 => ?_)
  refine lv_aload_n hx hb dJ0_indexOf_7cf53_7 rfl (lv_at hl 0 rfl) ?_
  refine vk_getf hx hb (hk.1 0 (by decide)).2.2.1 hw.2.2 hown (hts _ (wd_8 (w := .fieldLink RJ0 9 RJ0 "value" "[B") (i := 228) (by decide +kernel) rfl)) (fun _ h => h) dJ0_indexOf_7cf53_8 ?_
  refine lv_iload_n hx hb dJ0_indexOf_7cf53_11 rfl (lv_at hl 1 rfl) ?_
  refine lv_iload_n hx hb dJ0_indexOf_7cf53_12 rfl (lv_at hl 2 rfl) ?_
  refine lv_aload_n hx hb dJ0_indexOf_7cf53_13 rfl (lv_at hl 0 rfl) ?_
  have pg := preG (av := [.ref kS]) hK hw.1 hw.2.1 (NJ_keep hk hZ hw.2.1 hw.2.2) NJ_blind
  refine endI (mc := 0) (ms := 0) (va_runV (As := []) (rest := [.int 0, .int a0, .ref vS]) ⟨hx, hb, hml, hown, hts⟩ (mIx_len l D A cy H.size ws kS vS) (wIx_RJ0_505 1 hts ⟨Nat.le_of_ble_eq_true rfl, Nat.le_of_ble_eq_true rfl⟩) ⟨pg.1, vk_recv hk (i := 0) (by decide) hw.2.2, pg.2⟩ rfl rfl hl.1 rfl (lv_room (Nat.le_of_ble_eq_true rfl)) dJ0_indexOf_7cf53_14 ⟨Nat.le_refl _, Nat.le_refl _⟩) hw.2.2 (fun _ h => h) (fun H locs hw => ?_)
  have pg := preG (av := [.ref vS, .int a0, .int 0, .int 9]) hK hw.1 hw.2.1 (NJ_keep hk hZ hw.2.1 hw.2.2) NJ_blind
  refine endI (mc := 0) (ms := 0) (va_runS (As := [.ref vS, .int a0, .int 0, .int 9]) (rest := []) ⟨hx, hb, hml, hown, hts⟩ (mIx_lix l D A cy H.size ws kS vS a0) (wIx_RJ0_637 1 hts ⟨Nat.le_of_ble_eq_true rfl, Nat.le_of_ble_eq_true rfl⟩) pg rfl rfl hl.1 rfl (lv_room (Nat.le_of_ble_eq_true rfl)) dJ0_indexOf_7cf53_17 ⟨Nat.le_refl _, Nat.le_refl _⟩) hw.2.2 (fun _ h => h) (fun H locs hw => ?_)
  refine lv_goto (tgt := 36) hx hb dJ0_indexOf_7cf53_20 (by decide) ?_
  rw [← hQ]
  exact retI hx hb hr hlk hw rfl dJ0_indexOf_7cf53_36
set_option maxHeartbeats 4000000 in
set_option maxRecDepth 100000 in
theorem mIx_i (l : Launch) (D : va_G) (A : Nat → Prop) (cy : Nat → ClassId) (sz : Nat) (ws : va_W) (kS vS : Nat) (a0 : Int32) : Met l yJ0_indexOf_0f7a4 (wsOf yJ0_indexOf_0f7a4 cJ0_indexOf_0f7a4 2 (some .int)) (rmL 3) (va_Pc ([.ref kS, .int a0] : List Value) (PreG D cy ws sz (NJ A ws kS vS))) (QcJ D A ws (ixR a0)) 0 0 A := by
  refine metJ (own := RJ0) (by decide) rfl (Nat.le_of_ble_eq_true rfl) ?_ sz
  intro p e s m below meth c ls C0 hw hl
  obtain ⟨hx, hb, hml, hown, hts, hr, hlk, hK, hD0, hk, hZ⟩ := C0
  have hl : lv_has ls 2 [(0, .ref kS), (1, .int a0)] := hl
  generalize hQ : MQ below (QcJ D A ws (ixR a0)) ([.ref kS, .int a0] : List Value).toArray s 0 0 A = Q
  obtain ⟨H, hH⟩ : ∃ H : Heap, H = s.heap := ⟨_, rfl⟩
  obtain ⟨locs, hlc⟩ : ∃ L : List Loc, L = [] := ⟨_, rfl⟩
  have hw : Wd D ws A s.heap H locs := by rw [hH, hlc]; exact hw
  suffices h0 : W p l e (rmL 3) s m ([.ref kS, .int a0] : List Value).toArray below meth c H locs 0 0 Q (F0 m 0 ls []) by rw [hH, hlc] at h0; exact h0
  clear hH hlc
  refine lv_aload_n hx hb dJ0_indexOf_0f7a4_0 rfl (lv_at hl 0 rfl) ?_
  refine lv_iload_n hx hb dJ0_indexOf_0f7a4_1 rfl (lv_at hl 1 rfl) ?_
  refine lv_iconst (v := 0) hx hb dJ0_indexOf_0f7a4_2 (by decide) ?_
  have pg := preG (av := [.ref kS, .int a0, .int 0]) hK hw.1 hw.2.1 (NJ_keep hk hZ hw.2.1 hw.2.2) NJ_blind
  refine endI (mc := 0) (ms := 0) (va_runV (As := [.int a0, .int 0]) (rest := []) ⟨hx, hb, hml, hown, hts⟩ (mIx_ii l D A cy H.size ws kS vS a0) (wIx_RJ0_633 2 hts ⟨Nat.le_of_ble_eq_true rfl, Nat.le_of_ble_eq_true rfl⟩) ⟨pg.1, vk_recv hk (i := 0) (by decide) hw.2.2, pg.2⟩ rfl rfl hl.1 rfl (lv_room (Nat.le_of_ble_eq_true rfl)) dJ0_indexOf_0f7a4_3 ⟨Nat.le_refl _, Nat.le_refl _⟩) hw.2.2 (fun _ h => h) (fun H locs hw => ?_)
  rw [← hQ]
  exact retI hx hb hr hlk hw rfl dJ0_indexOf_0f7a4_6
theorem ixR_ixOf (x : Int32) : ixR x = ixOf x := by
  unfold ixR canE
  by_cases c : x < 0
  · rw [if_pos c, if_pos rfl]
    have hne : ∀ y : Int32, 0 ≤ y → ¬ x = y := fun y hy e => by rw [e, Int32.lt_iff_toInt_lt] at c; rw [Int32.le_iff_toInt_le] at hy; omega
    unfold ixOf
    rw [if_neg (hne _ (by decide)), if_neg (hne _ (by decide)), if_neg (hne _ (by decide)), if_neg (hne _ (by decide)), if_neg (hne _ (by decide)), if_neg (hne _ (by decide)), if_neg (hne _ (by decide)), if_neg (hne _ (by decide)), if_neg (hne _ (by decide))]
  · rw [if_neg c]
    by_cases c2 : (255 : Int32) < x
    · rw [if_pos c2, if_pos rfl]
      have hne : ∀ y : Int32, y ≤ 255 → ¬ x = y := fun y hy e => by rw [e, Int32.lt_iff_toInt_lt] at c2; rw [Int32.le_iff_toInt_le] at hy; omega
      unfold ixOf
      rw [if_neg (hne _ (by decide)), if_neg (hne _ (by decide)), if_neg (hne _ (by decide)), if_neg (hne _ (by decide)), if_neg (hne _ (by decide)), if_neg (hne _ (by decide)), if_neg (hne _ (by decide)), if_neg (hne _ (by decide)), if_neg (hne _ (by decide))]
    · rw [if_neg c2, if_neg (by decide)]
      obtain ⟨n, hn, rfl⟩ := nI_of2 (M := 255) (n := 255) (by decide) c (by rw [Int32.le_iff_toInt_le]; rw [Int32.lt_iff_toInt_lt] at c2; omega)
      have : ∀ q : Fin 256, ixL ((nI q.1).toInt8.toInt32) byS 0 = ixOf (nI q.1) := by decide +kernel
      exact this ⟨n, by omega⟩
section
variable {p : Program} {l : Launch} {e : Env} {R : Room} {s : State} {m : MethodId} {args : Array Value} {below : List Frame} {meth : Method} {c : Code} {H : Heap} {locs : List Loc} {Q : State → Prop} {cc : ByteArray} {pc nL : Nat} {ls : Array Slot} {rest : List Value} {cells slots : Nat} {D : va_G} {ad : Nat → Nat} {cy : Nat → ClassId}
theorem ixCall (hx : p.tables.exec = Jvm.exec) (hb : c.code = cc) (hml : c.maxLocals = nL) (hts : ∀ w ∈ lw_g, w.before args s = true) (hown : s.vm.findClass RX6 = some m.cls) (hK : va_K D vwCl (tysA cy) s) (hN : NC ad s) {kS vS : Nat} (hkS : vk_S 1 [9] [[102, 104, 107, 119, 109, 108, 97, 115, 100]] (fun _ => kS) (fun _ => vS) (Afr ad 67 s.heap.size) s s.heap)
    {ws : va_W} (hw : Wd D ws (Afr ad 67 s.heap.size) s.heap H locs) (hsz : ls.size = nL) (hrest : (rest.map fun v => v.category).sum ≤ 8) (hR : 10 ≤ R.frames ∧ 400 ≤ R.locals) {x : Int32} (hdg : decode cc pc = .ok (.invokevirtual 54, 3))
    (kk : ∀ (H1 : Heap) (locs1 : List Loc), Wd D ws (Afr ad 67 s.heap.size) s.heap H1 locs1 → W p l e R s m args below meth c H1 locs1 cells slots Q (F0 m (pc + 3) ls (.int (ixOf x) :: rest))) (hcs : cells ≤ R.cells ∧ slots ≤ R.slots := by exact ⟨Nat.le_refl _, Nat.le_refl _⟩) : W p l e R s m args below meth c H locs cells slots Q (F0 m pc ls (.int x :: .ref kS :: rest)) := by
  have hZ := hN.2.2.2.2
  have pg := preG (av := [.ref kS, .int x]) hK hw.1 hw.2.1 (NJ_keep hkS hZ hw.2.1 hw.2.2) NJ_blind
  refine endI (mc := 0) (ms := 0) (va_runV (As := [.int x]) (rest := rest) ⟨hx, hb, hml, hown, hts⟩ (mIx_i l D (Afr ad 67 s.heap.size) cy H.size ws kS vS x) (wIx_RX6_54 3 hts ⟨by omega, by omega⟩) ⟨pg.1, vk_recv hkS (i := 0) (by decide) hw.2.2, pg.2⟩ rfl rfl hsz rfl (by show 2 * 0 + _ ≤ 8; omega) hdg hcs) hw.2.2 (fun _ h => h) (fun H locs hw => ?_)
  rw [ixR_ixOf]
  exact kk H locs hw
end
