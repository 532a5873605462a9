theorem dJ6_bitCount_0f7a4_0 : decode cJ6_bitCount_0f7a4 0 = .ok (.iload_n 0, 1) := by decide +kernel
theorem dJ6_bitCount_0f7a4_1 : decode cJ6_bitCount_0f7a4 1 = .ok (.iload_n 0, 1) := by decide +kernel
theorem dJ6_bitCount_0f7a4_2 : decode cJ6_bitCount_0f7a4 2 = .ok (.iconst 1, 1) := by decide +kernel
theorem dJ6_bitCount_0f7a4_3 : decode cJ6_bitCount_0f7a4 3 = .ok (.iushr, 1) := by decide +kernel
theorem dJ6_bitCount_0f7a4_4 : decode cJ6_bitCount_0f7a4 4 = .ok (.ldc_w 265, 3) := by decide +kernel
theorem dJ6_bitCount_0f7a4_7 : decode cJ6_bitCount_0f7a4 7 = .ok (.iand, 1) := by decide +kernel
theorem dJ6_bitCount_0f7a4_8 : decode cJ6_bitCount_0f7a4 8 = .ok (.isub, 1) := by decide +kernel
theorem dJ6_bitCount_0f7a4_9 : decode cJ6_bitCount_0f7a4 9 = .ok (.istore_n 0, 1) := by decide +kernel
theorem dJ6_bitCount_0f7a4_10 : decode cJ6_bitCount_0f7a4 10 = .ok (.iload_n 0, 1) := by decide +kernel
theorem dJ6_bitCount_0f7a4_11 : decode cJ6_bitCount_0f7a4 11 = .ok (.ldc_w 266, 3) := by decide +kernel
theorem dJ6_bitCount_0f7a4_14 : decode cJ6_bitCount_0f7a4 14 = .ok (.iand, 1) := by decide +kernel
theorem dJ6_bitCount_0f7a4_15 : decode cJ6_bitCount_0f7a4 15 = .ok (.iload_n 0, 1) := by decide +kernel
theorem dJ6_bitCount_0f7a4_16 : decode cJ6_bitCount_0f7a4 16 = .ok (.iconst 2, 1) := by decide +kernel
theorem dJ6_bitCount_0f7a4_17 : decode cJ6_bitCount_0f7a4 17 = .ok (.iushr, 1) := by decide +kernel
theorem dJ6_bitCount_0f7a4_18 : decode cJ6_bitCount_0f7a4 18 = .ok (.ldc_w 266, 3) := by decide +kernel
theorem dJ6_bitCount_0f7a4_21 : decode cJ6_bitCount_0f7a4 21 = .ok (.iand, 1) := by decide +kernel
theorem dJ6_bitCount_0f7a4_22 : decode cJ6_bitCount_0f7a4 22 = .ok (.iadd, 1) := by decide +kernel
theorem dJ6_bitCount_0f7a4_23 : decode cJ6_bitCount_0f7a4 23 = .ok (.istore_n 0, 1) := by decide +kernel
theorem dJ6_bitCount_0f7a4_24 : decode cJ6_bitCount_0f7a4 24 = .ok (.iload_n 0, 1) := by decide +kernel
theorem dJ6_bitCount_0f7a4_25 : decode cJ6_bitCount_0f7a4 25 = .ok (.iload_n 0, 1) := by decide +kernel
theorem dJ6_bitCount_0f7a4_26 : decode cJ6_bitCount_0f7a4 26 = .ok (.iconst 4, 1) := by decide +kernel
theorem dJ6_bitCount_0f7a4_27 : decode cJ6_bitCount_0f7a4 27 = .ok (.iushr, 1) := by decide +kernel
theorem dJ6_bitCount_0f7a4_28 : decode cJ6_bitCount_0f7a4 28 = .ok (.iadd, 1) := by decide +kernel
theorem dJ6_bitCount_0f7a4_29 : decode cJ6_bitCount_0f7a4 29 = .ok (.ldc_w 267, 3) := by decide +kernel
theorem dJ6_bitCount_0f7a4_32 : decode cJ6_bitCount_0f7a4 32 = .ok (.iand, 1) := by decide +kernel
theorem dJ6_bitCount_0f7a4_33 : decode cJ6_bitCount_0f7a4 33 = .ok (.istore_n 0, 1) := by decide +kernel
theorem dJ6_bitCount_0f7a4_34 : decode cJ6_bitCount_0f7a4 34 = .ok (.iload_n 0, 1) := by decide +kernel
theorem dJ6_bitCount_0f7a4_35 : decode cJ6_bitCount_0f7a4 35 = .ok (.iload_n 0, 1) := by decide +kernel
theorem dJ6_bitCount_0f7a4_36 : decode cJ6_bitCount_0f7a4 36 = .ok (.bipush 8, 2) := by decide +kernel
theorem dJ6_bitCount_0f7a4_38 : decode cJ6_bitCount_0f7a4 38 = .ok (.iushr, 1) := by decide +kernel
theorem dJ6_bitCount_0f7a4_39 : decode cJ6_bitCount_0f7a4 39 = .ok (.iadd, 1) := by decide +kernel
theorem dJ6_bitCount_0f7a4_40 : decode cJ6_bitCount_0f7a4 40 = .ok (.istore_n 0, 1) := by decide +kernel
theorem dJ6_bitCount_0f7a4_41 : decode cJ6_bitCount_0f7a4 41 = .ok (.iload_n 0, 1) := by decide +kernel
theorem dJ6_bitCount_0f7a4_42 : decode cJ6_bitCount_0f7a4 42 = .ok (.iload_n 0, 1) := by decide +kernel
theorem dJ6_bitCount_0f7a4_43 : decode cJ6_bitCount_0f7a4 43 = .ok (.bipush 16, 2) := by decide +kernel
theorem dJ6_bitCount_0f7a4_45 : decode cJ6_bitCount_0f7a4 45 = .ok (.iushr, 1) := by decide +kernel
theorem dJ6_bitCount_0f7a4_46 : decode cJ6_bitCount_0f7a4 46 = .ok (.iadd, 1) := by decide +kernel
theorem dJ6_bitCount_0f7a4_47 : decode cJ6_bitCount_0f7a4 47 = .ok (.istore_n 0, 1) := by decide +kernel
theorem dJ6_bitCount_0f7a4_48 : decode cJ6_bitCount_0f7a4 48 = .ok (.iload_n 0, 1) := by decide +kernel
theorem dJ6_bitCount_0f7a4_49 : decode cJ6_bitCount_0f7a4 49 = .ok (.bipush 63, 2) := by decide +kernel
theorem dJ6_bitCount_0f7a4_51 : decode cJ6_bitCount_0f7a4 51 = .ok (.iand, 1) := by decide +kernel
theorem dJ6_bitCount_0f7a4_52 : decode cJ6_bitCount_0f7a4 52 = .ok (.ireturn, 1) := by decide +kernel
def fJ6_bitCount_0f7a4 (a0 : Int32) : Option (Int32) := nm ((a0 - (((a0).toUInt32 >>> (((1 : Int32)).toUInt32 &&& Int32.toUInt32 31)).toInt32 &&& (1431655765 : Int32)))) fun n_9 => nm (((n_9 &&& (858993459 : Int32)) + (((n_9).toUInt32 >>> (((2 : Int32)).toUInt32 &&& Int32.toUInt32 31)).toInt32 &&& (858993459 : Int32)))) fun n_23 => nm (((n_23 + ((n_23).toUInt32 >>> (((4 : Int32)).toUInt32 &&& Int32.toUInt32 31)).toInt32) &&& (252645135 : Int32))) fun n_33 => nm ((n_33 + ((n_33).toUInt32 >>> (((8 : Int32)).toUInt32 &&& Int32.toUInt32 31)).toInt32)) fun n_40 => nm ((n_40 + ((n_40).toUInt32 >>> (((16 : Int32)).toUInt32 &&& Int32.toUInt32 31)).toInt32)) fun n_47 => some ((n_47 &&& (63 : Int32)))
set_option maxHeartbeats 4000000 in
set_option maxRecDepth 100000 in
theorem mJ6_bitCount_0f7a4 (l : Launch) (D : va_G) (ad : Nat → Nat) (cy : Nat → ClassId) (sz : Nat) (s0 s1 s2 s3 s4 s5 s6 s7 s8 s9 s10 : OS) (a0 : Int32) (r : Int32) (h : fJ6_bitCount_0f7a4 a0 = some r) : Met l yJ6_bitCount_0f7a4 (wsOf yJ6_bitCount_0f7a4 cJ6_bitCount_0f7a4 1 (some .int)) (rmL 0) (va_Pc ([.int a0] : List Value) (PreG D cy (cellsC ad cy s0 s1 s2 s3 s4 s5 s6 s7 s8 s9 s10) sz (NC ad))) (QcI D ad 67 (cellsC ad cy s0 s1 s2 s3 s4 s5 s6 s7 s8 s9 s10) (r) sz) 0 0 (Afr ad 67 sz) := by
  refine metG (own := RJ6) (by decide) rfl (Nat.le_of_ble_eq_true rfl) fstC ?_ sz
  intro p e s m below meth c ls C0 hw hl
  obtain ⟨hx, hb, hml, hown, hts, hr, hlk, hK, hN⟩ := C0
  have hl : lv_has ls 1 [(0, .int a0)] := hl
  generalize hQ : MQ below (QcI D ad 67 (cellsC ad cy s0 s1 s2 s3 s4 s5 s6 s7 s8 s9 s10) (r) s.heap.size) ([.int a0] : List Value).toArray s 0 0 (Afr ad 67 s.heap.size) = Q
  obtain ⟨H, hH⟩ : ∃ H : Heap, H = s.heap := ⟨_, rfl⟩
  obtain ⟨locs, hlc⟩ : ∃ L : List Loc, L = [] := ⟨_, rfl⟩
  have hw : Wd D (cellsC ad cy s0 s1 s2 s3 s4 s5 s6 s7 s8 s9 s10) (Afr ad 67 s.heap.size) s.heap H locs := by rw [hH, hlc]; exact hw
  suffices h0 : W p l e (rmL 0) s m ([.int a0] : List Value).toArray below meth c H locs 0 0 Q (F0 m 0 ls []) by rw [hH, hlc] at h0; exact h0
  clear hH hlc
  unfold fJ6_bitCount_0f7a4 at h
  refine lv_iload_n hx hb dJ6_bitCount_0f7a4_0 rfl (lv_at hl 0 rfl) ?_
  refine lv_iload_n hx hb dJ6_bitCount_0f7a4_1 rfl (lv_at hl 0 rfl) ?_
  refine lv_iconst (v := 1) hx hb dJ6_bitCount_0f7a4_2 (by decide) ?_
  refine lv_iushr hx hb dJ6_bitCount_0f7a4_3 rfl ?_
  refine lv_ldcw (v := 1431655765) hx hb hown (hts _ (wd_4 (w := .constant RJ6 265 1431655765) (i := 59) (by decide +kernel) rfl)) dJ6_bitCount_0f7a4_4 ?_
  refine lv_iand hx hb dJ6_bitCount_0f7a4_7 ?_
  refine lv_isub hx hb dJ6_bitCount_0f7a4_8 ?_
  obtain ⟨n_9, e_9, h⟩ := nam_e h
  refine topI e_9 ?_
  refine lv_istore_n (lv' := [(0, .int n_9)]) hx hb dJ6_bitCount_0f7a4_9 rfl hl (by decide) rfl (fun ls hl => ?_)
  refine lv_iload_n hx hb dJ6_bitCount_0f7a4_10 rfl (lv_at hl 0 rfl) ?_
  refine lv_ldcw (v := 858993459) hx hb hown (hts _ (wd_4 (w := .constant RJ6 266 858993459) (i := 60) (by decide +kernel) rfl)) dJ6_bitCount_0f7a4_11 ?_
  refine lv_iand hx hb dJ6_bitCount_0f7a4_14 ?_
  refine lv_iload_n hx hb dJ6_bitCount_0f7a4_15 rfl (lv_at hl 0 rfl) ?_
  refine lv_iconst (v := 2) hx hb dJ6_bitCount_0f7a4_16 (by decide) ?_
  refine lv_iushr hx hb dJ6_bitCount_0f7a4_17 rfl ?_
  refine lv_ldcw (v := 858993459) hx hb hown (hts _ (wd_4 (w := .constant RJ6 266 858993459) (i := 60) (by decide +kernel) rfl)) dJ6_bitCount_0f7a4_18 ?_
  refine lv_iand hx hb dJ6_bitCount_0f7a4_21 ?_
  refine lv_iadd hx hb dJ6_bitCount_0f7a4_22 ?_
  obtain ⟨n_23, e_23, h⟩ := nam_e h
  refine topI e_23 ?_
  refine lv_istore_n (lv' := [(0, .int n_23)]) hx hb dJ6_bitCount_0f7a4_23 rfl hl (by decide) rfl (fun ls hl => ?_)
  refine lv_iload_n hx hb dJ6_bitCount_0f7a4_24 rfl (lv_at hl 0 rfl) ?_
  refine lv_iload_n hx hb dJ6_bitCount_0f7a4_25 rfl (lv_at hl 0 rfl) ?_
  refine lv_iconst (v := 4) hx hb dJ6_bitCount_0f7a4_26 (by decide) ?_
  refine lv_iushr hx hb dJ6_bitCount_0f7a4_27 rfl ?_
  refine lv_iadd hx hb dJ6_bitCount_0f7a4_28 ?_
  refine lv_ldcw (v := 252645135) hx hb hown (hts _ (wd_4 (w := .constant RJ6 267 252645135) (i := 61) (by decide +kernel) rfl)) dJ6_bitCount_0f7a4_29 ?_
  refine lv_iand hx hb dJ6_bitCount_0f7a4_32 ?_
  obtain ⟨n_33, e_33, h⟩ := nam_e h
  refine topI e_33 ?_
  refine lv_istore_n (lv' := [(0, .int n_33)]) hx hb dJ6_bitCount_0f7a4_33 rfl hl (by decide) rfl (fun ls hl => ?_)
  refine lv_iload_n hx hb dJ6_bitCount_0f7a4_34 rfl (lv_at hl 0 rfl) ?_
  refine lv_iload_n hx hb dJ6_bitCount_0f7a4_35 rfl (lv_at hl 0 rfl) ?_
  refine lv_bipush (v := 8) hx hb dJ6_bitCount_0f7a4_36 (by decide) ?_
  refine lv_iushr hx hb dJ6_bitCount_0f7a4_38 rfl ?_
  refine lv_iadd hx hb dJ6_bitCount_0f7a4_39 ?_
  obtain ⟨n_40, e_40, h⟩ := nam_e h
  refine topI e_40 ?_
  refine lv_istore_n (lv' := [(0, .int n_40)]) hx hb dJ6_bitCount_0f7a4_40 rfl hl (by decide) rfl (fun ls hl => ?_)
  refine lv_iload_n hx hb dJ6_bitCount_0f7a4_41 rfl (lv_at hl 0 rfl) ?_
  refine lv_iload_n hx hb dJ6_bitCount_0f7a4_42 rfl (lv_at hl 0 rfl) ?_
  refine lv_bipush (v := 16) hx hb dJ6_bitCount_0f7a4_43 (by decide) ?_
  refine lv_iushr hx hb dJ6_bitCount_0f7a4_45 rfl ?_
  refine lv_iadd hx hb dJ6_bitCount_0f7a4_46 ?_
  obtain ⟨n_47, e_47, h⟩ := nam_e h
  refine topI e_47 ?_
  refine lv_istore_n (lv' := [(0, .int n_47)]) hx hb dJ6_bitCount_0f7a4_47 rfl hl (by decide) rfl (fun ls hl => ?_)
  refine lv_iload_n hx hb dJ6_bitCount_0f7a4_48 rfl (lv_at hl 0 rfl) ?_
  refine lv_bipush (v := 63) hx hb dJ6_bitCount_0f7a4_49 (by decide) ?_
  refine lv_iand hx hb dJ6_bitCount_0f7a4_51 ?_
  have h := Option.some.inj h
  subst h
  rw [← hQ]
  exact retI hx hb hr hlk hw rfl dJ6_bitCount_0f7a4_52
theorem dX10_isWithin_0 : decode cX10_isWithin 0 = .ok (.iload_n 0, 1) := by decide +kernel
theorem dX10_isWithin_1 : decode cX10_isWithin 1 = .ok (.iload_n 1, 1) := by decide +kernel
theorem dX10_isWithin_2 : decode cX10_isWithin 2 = .ok (.if_icmp .lt 12, 3) := by decide +kernel
theorem dX10_isWithin_5 : decode cX10_isWithin 5 = .ok (.iload_n 0, 1) := by decide +kernel
theorem dX10_isWithin_6 : decode cX10_isWithin 6 = .ok (.iload_n 2, 1) := by decide +kernel
theorem dX10_isWithin_7 : decode cX10_isWithin 7 = .ok (.if_icmp .gt 7, 3) := by decide +kernel
theorem dX10_isWithin_10 : decode cX10_isWithin 10 = .ok (.iconst 1, 1) := by decide +kernel
theorem dX10_isWithin_11 : decode cX10_isWithin 11 = .ok (.goto 4, 3) := by decide +kernel
theorem dX10_isWithin_14 : decode cX10_isWithin 14 = .ok (.iconst 0, 1) := by decide +kernel
theorem dX10_isWithin_15 : decode cX10_isWithin 15 = .ok (.ireturn, 1) := by decide +kernel
def f10_isWithin_j15 (k0_j15 : Int32) : Option (Int32) := chk (isB k0_j15) (some k0_j15)
def f10_isWithin_j14  : Option (Int32) := f10_isWithin_j15 ((0 : Int32))
def f10_isWithin (a0 : Int32) (a1 : Int32) (a2 : Int32) : Option (Int32) := if a0 < a1 then f10_isWithin_j14 else (if a2 < a0 then f10_isWithin_j14 else (f10_isWithin_j15 ((1 : Int32))))
set_option maxHeartbeats 4000000 in
set_option maxRecDepth 100000 in
theorem m10_isWithin (l : Launch) (D : va_G) (ad : Nat → Nat) (cy : Nat → ClassId) (sz : Nat) (s0 s1 s2 s3 s4 s5 s6 s7 s8 s9 s10 : OS) (a0 : Int32) (a1 : Int32) (a2 : Int32) (r : Int32) (h : f10_isWithin a0 a1 a2 = some r) : Met l yX10_isWithin (wsOf yX10_isWithin cX10_isWithin 3 (some .boolean)) (rmL 0) (va_Pc ([.int a0, .int a1, .int a2] : List Value) (PreG D cy (cellsC ad cy s0 s1 s2 s3 s4 s5 s6 s7 s8 s9 s10) sz (NC ad))) (QcI D ad 67 (cellsC ad cy s0 s1 s2 s3 s4 s5 s6 s7 s8 s9 s10) (r) sz) 0 0 (Afr ad 67 sz) := by
  refine metG (own := RX10) (by decide) rfl (Nat.le_of_ble_eq_true rfl) fstC ?_ sz
  intro p e s m below meth c ls C0 hw hl
  obtain ⟨hx, hb, hml, hown, hts, hr, hlk, hK, hN⟩ := C0
  have hl : lv_has ls 3 [(0, .int a0), (1, .int a1), (2, .int a2)] := hl
  generalize hQ : MQ below (QcI D ad 67 (cellsC ad cy s0 s1 s2 s3 s4 s5 s6 s7 s8 s9 s10) (r) s.heap.size) ([.int a0, .int a1, .int a2] : List Value).toArray s 0 0 (Afr ad 67 s.heap.size) = Q
  obtain ⟨H, hH⟩ : ∃ H : Heap, H = s.heap := ⟨_, rfl⟩
  obtain ⟨locs, hlc⟩ : ∃ L : List Loc, L = [] := ⟨_, rfl⟩
  have hw : Wd D (cellsC ad cy s0 s1 s2 s3 s4 s5 s6 s7 s8 s9 s10) (Afr ad 67 s.heap.size) s.heap H locs := by rw [hH, hlc]; exact hw
  suffices h0 : W p l e (rmL 0) s m ([.int a0, .int a1, .int a2] : List Value).toArray below meth c H locs 0 0 Q (F0 m 0 ls []) by rw [hH, hlc] at h0; exact h0
  clear hH hlc
  unfold f10_isWithin at h
  have hJ_15 : ∀ (k0_j15 : Int32) (H : Heap) (locs : List Loc) (ls : Array Slot), f10_isWithin_j15 k0_j15 = some r → Wd D (cellsC ad cy s0 s1 s2 s3 s4 s5 s6 s7 s8 s9 s10) (Afr ad 67 s.heap.size) s.heap H locs → lv_has ls 3 [] → W p l e (rmL 0) s m ([.int a0, .int a1, .int a2] : List Value).toArray below meth c H locs 0 0 Q (F0 m 15 ls [.int k0_j15]) := by
    intro k0_j15 H locs ls h hw hl
    unfold f10_isWithin_j15 at h
    obtain ⟨hz_15, h⟩ := chk_e h
    have h := Option.some.inj h
    subst h
    rw [← hQ]
    exact retI hx hb hr hlk hw (narB hz_15) dX10_isWithin_15
  have hJ_14 : ∀  (H : Heap) (locs : List Loc) (ls : Array Slot), f10_isWithin_j14 = some r → Wd D (cellsC ad cy s0 s1 s2 s3 s4 s5 s6 s7 s8 s9 s10) (Afr ad 67 s.heap.size) s.heap H locs → lv_has ls 3 [] → W p l e (rmL 0) s m ([.int a0, .int a1, .int a2] : List Value).toArray below meth c H locs 0 0 Q (F0 m 14 ls []) := by
    intro  H locs ls h hw hl
    unfold f10_isWithin_j14 at h
    refine lv_iconst (v := 0) hx hb dX10_isWithin_14 (by decide) ?_
    exact hJ_15 ((0 : Int32)) H locs ls h hw (lv_sub hl [] rfl)
  refine lv_iload_n hx hb dX10_isWithin_0 rfl (lv_at hl 0 rfl) ?_
  refine lv_iload_n hx hb dX10_isWithin_1 rfl (lv_at hl 1 rfl) ?_
  refine lv_icmp_lt (tgt := 14) hx hb dX10_isWithin_2 (by decide) (fun c_2 => ?_) (fun c_2 => ?_)
  · have h := ite_t c_2 h
    exact hJ_14  H locs ls h hw (lv_sub hl [] rfl)
  · have h := ite_f c_2 h
    refine lv_iload_n hx hb dX10_isWithin_5 rfl (lv_at hl 0 rfl) ?_
    refine lv_iload_n hx hb dX10_isWithin_6 rfl (lv_at hl 2 rfl) ?_
    refine lv_icmp_gt (tgt := 14) hx hb dX10_isWithin_7 (by decide) (fun c_7 => ?_) (fun c_7 => ?_)
    · have h := ite_t c_7 h
      exact hJ_14  H locs ls h hw (lv_sub hl [] rfl)
    · have h := ite_f c_7 h
      refine lv_iconst (v := 1) hx hb dX10_isWithin_10 (by decide) ?_
      refine lv_goto (tgt := 15) hx hb dX10_isWithin_11 (by decide) ?_
      exact hJ_15 ((1 : Int32)) H locs ls h hw (lv_sub hl [] rfl)
theorem dX10_isDay_0 : decode cX10_isDay 0 = .ok (.iload_n 0, 1) := by decide +kernel
theorem dX10_isDay_1 : decode cX10_isDay 1 = .ok (.iconst 0, 1) := by decide +kernel
theorem dX10_isDay_2 : decode cX10_isDay 2 = .ok (.ldc 193, 2) := by decide +kernel
theorem dX10_isDay_4 : decode cX10_isDay 4 = .ok (.invokestatic 86, 3) := by decide +kernel
theorem dX10_isDay_7 : decode cX10_isDay 7 = .ok (.ireturn, 1) := by decide +kernel
def f10_isDay (a0 : Int32) : Option (Int32) := Option.bind (f10_isWithin a0 ((0 : Int32)) ((99999 : Int32))) fun q_4 => chk (isB q_4) (some q_4)
set_option maxHeartbeats 4000000 in
set_option maxRecDepth 100000 in
theorem m10_isDay (l : Launch) (D : va_G) (ad : Nat → Nat) (cy : Nat → ClassId) (sz : Nat) (s0 s1 s2 s3 s4 s5 s6 s7 s8 s9 s10 : OS) (a0 : Int32) (r : Int32) (h : f10_isDay a0 = some r) : Met l yX10_isDay (wsOf yX10_isDay cX10_isDay 1 (some .boolean)) (rmL 1) (va_Pc ([.int a0] : List Value) (PreG D cy (cellsC ad cy s0 s1 s2 s3 s4 s5 s6 s7 s8 s9 s10) sz (NC ad))) (QcI D ad 67 (cellsC ad cy s0 s1 s2 s3 s4 s5 s6 s7 s8 s9 s10) (r) sz) 0 0 (Afr ad 67 sz) := by
  refine metG (own := RX10) (by decide) rfl (Nat.le_of_ble_eq_true rfl) fstC ?_ sz
  intro p e s m below meth c ls C0 hw hl
  obtain ⟨hx, hb, hml, hown, hts, hr, hlk, hK, hN⟩ := C0
  have hl : lv_has ls 1 [(0, .int a0)] := hl
  generalize hQ : MQ below (QcI D ad 67 (cellsC ad cy s0 s1 s2 s3 s4 s5 s6 s7 s8 s9 s10) (r) s.heap.size) ([.int a0] : List Value).toArray s 0 0 (Afr ad 67 s.heap.size) = Q
  obtain ⟨H, hH⟩ : ∃ H : Heap, H = s.heap := ⟨_, rfl⟩
  obtain ⟨locs, hlc⟩ : ∃ L : List Loc, L = [] := ⟨_, rfl⟩
  have hw : Wd D (cellsC ad cy s0 s1 s2 s3 s4 s5 s6 s7 s8 s9 s10) (Afr ad 67 s.heap.size) s.heap H locs := by rw [hH, hlc]; exact hw
  suffices h0 : W p l e (rmL 1) s m ([.int a0] : List Value).toArray below meth c H locs 0 0 Q (F0 m 0 ls []) by rw [hH, hlc] at h0; exact h0
  clear hH hlc
  unfold f10_isDay at h
  refine lv_iload_n hx hb dX10_isDay_0 rfl (lv_at hl 0 rfl) ?_
  refine lv_iconst (v := 0) hx hb dX10_isDay_1 (by decide) ?_
  refine lv_ldc (v := 99999) hx hb hown (hts _ (wd_2 (w := .constant RX10 193 99999) (i := 152) (by decide +kernel) rfl)) dX10_isDay_2 ?_
  obtain ⟨q_4, h_4, h⟩ := bnd_e h
  have pg_4 := preG (av := [.int a0, .int ((0 : Int32)), .int ((99999 : Int32))]) hK hw.1 hw.2.1 (NC_keep hN hw.2.2) NC_blind
  refine endI (mc := 0) (ms := 0) (va_runS (As := [.int a0, .int ((0 : Int32)), .int ((99999 : Int32))]) (rest := []) ⟨hx, hb, hml, hown, hts⟩ (m10_isWithin l D ad cy H.size s0 s1 s2 s3 s4 s5 s6 s7 s8 s9 s10 a0 ((0 : Int32)) ((99999 : Int32)) q_4 h_4) (wX10_86 0 hts ⟨Nat.le_of_ble_eq_true rfl, Nat.le_of_ble_eq_true rfl⟩) pg_4 rfl rfl hl.1 rfl (lv_room (Nat.le_of_ble_eq_true rfl)) dX10_isDay_4 ⟨Nat.le_refl _, Nat.le_refl _⟩) hw.2.2 (afr_in hw.2.2) (fun H locs hw => ?_)
  obtain ⟨hz_7, h⟩ := chk_e h
  have h := Option.some.inj h
  subst h
  rw [← hQ]
  exact retI hx hb hr hlk hw (narB hz_7) dX10_isDay_7
theorem dX10_isKind_0 : decode cX10_isKind 0 = .ok (.iload_n 0, 1) := by decide +kernel
theorem dX10_isKind_1 : decode cX10_isKind 1 = .ok (.iconst 0, 1) := by decide +kernel
theorem dX10_isKind_2 : decode cX10_isKind 2 = .ok (.bipush 7, 2) := by decide +kernel
theorem dX10_isKind_4 : decode cX10_isKind 4 = .ok (.invokestatic 86, 3) := by decide +kernel
theorem dX10_isKind_7 : decode cX10_isKind 7 = .ok (.ireturn, 1) := by decide +kernel
def f10_isKind (a0 : Int32) : Option (Int32) := Option.bind (f10_isWithin a0 ((0 : Int32)) ((7 : Int32))) fun q_4 => chk (isB q_4) (some q_4)
set_option maxHeartbeats 4000000 in
set_option maxRecDepth 100000 in
theorem m10_isKind (l : Launch) (D : va_G) (ad : Nat → Nat) (cy : Nat → ClassId) (sz : Nat) (s0 s1 s2 s3 s4 s5 s6 s7 s8 s9 s10 : OS) (a0 : Int32) (r : Int32) (h : f10_isKind a0 = some r) : Met l yX10_isKind (wsOf yX10_isKind cX10_isKind 1 (some .boolean)) (rmL 1) (va_Pc ([.int a0] : List Value) (PreG D cy (cellsC ad cy s0 s1 s2 s3 s4 s5 s6 s7 s8 s9 s10) sz (NC ad))) (QcI D ad 67 (cellsC ad cy s0 s1 s2 s3 s4 s5 s6 s7 s8 s9 s10) (r) sz) 0 0 (Afr ad 67 sz) := by
  refine metG (own := RX10) (by decide) rfl (Nat.le_of_ble_eq_true rfl) fstC ?_ sz
  intro p e s m below meth c ls C0 hw hl
  obtain ⟨hx, hb, hml, hown, hts, hr, hlk, hK, hN⟩ := C0
  have hl : lv_has ls 1 [(0, .int a0)] := hl
  generalize hQ : MQ below (QcI D ad 67 (cellsC ad cy s0 s1 s2 s3 s4 s5 s6 s7 s8 s9 s10) (r) s.heap.size) ([.int a0] : List Value).toArray s 0 0 (Afr ad 67 s.heap.size) = Q
  obtain ⟨H, hH⟩ : ∃ H : Heap, H = s.heap := ⟨_, rfl⟩
  obtain ⟨locs, hlc⟩ : ∃ L : List Loc, L = [] := ⟨_, rfl⟩
  have hw : Wd D (cellsC ad cy s0 s1 s2 s3 s4 s5 s6 s7 s8 s9 s10) (Afr ad 67 s.heap.size) s.heap H locs := by rw [hH, hlc]; exact hw
  suffices h0 : W p l e (rmL 1) s m ([.int a0] : List Value).toArray below meth c H locs 0 0 Q (F0 m 0 ls []) by rw [hH, hlc] at h0; exact h0
  clear hH hlc
  unfold f10_isKind at h
  refine lv_iload_n hx hb dX10_isKind_0 rfl (lv_at hl 0 rfl) ?_
  refine lv_iconst (v := 0) hx hb dX10_isKind_1 (by decide) ?_
  refine lv_bipush (v := 7) hx hb dX10_isKind_2 (by decide) ?_
  obtain ⟨q_4, h_4, h⟩ := bnd_e h
  have pg_4 := preG (av := [.int a0, .int ((0 : Int32)), .int ((7 : Int32))]) hK hw.1 hw.2.1 (NC_keep hN hw.2.2) NC_blind
  refine endI (mc := 0) (ms := 0) (va_runS (As := [.int a0, .int ((0 : Int32)), .int ((7 : Int32))]) (rest := []) ⟨hx, hb, hml, hown, hts⟩ (m10_isWithin l D ad cy H.size s0 s1 s2 s3 s4 s5 s6 s7 s8 s9 s10 a0 ((0 : Int32)) ((7 : Int32)) q_4 h_4) (wX10_86 0 hts ⟨Nat.le_of_ble_eq_true rfl, Nat.le_of_ble_eq_true rfl⟩) pg_4 rfl rfl hl.1 rfl (lv_room (Nat.le_of_ble_eq_true rfl)) dX10_isKind_4 ⟨Nat.le_refl _, Nat.le_refl _⟩) hw.2.2 (afr_in hw.2.2) (fun H locs hw => ?_)
  obtain ⟨hz_7, h⟩ := chk_e h
  have h := Option.some.inj h
  subst h
  rw [← hQ]
  exact retI hx hb hr hlk hw (narB hz_7) dX10_isKind_7
theorem dX10_isCabinet_0 : decode cX10_isCabinet 0 = .ok (.iload_n 0, 1) := by decide +kernel
theorem dX10_isCabinet_1 : decode cX10_isCabinet 1 = .ok (.iconst 0, 1) := by decide +kernel
theorem dX10_isCabinet_2 : decode cX10_isCabinet 2 = .ok (.bipush 9, 2) := by decide +kernel
theorem dX10_isCabinet_4 : decode cX10_isCabinet 4 = .ok (.invokestatic 86, 3) := by decide +kernel
theorem dX10_isCabinet_7 : decode cX10_isCabinet 7 = .ok (.ireturn, 1) := by decide +kernel
def f10_isCabinet (a0 : Int32) : Option (Int32) := Option.bind (f10_isWithin a0 ((0 : Int32)) ((9 : Int32))) fun q_4 => chk (isB q_4) (some q_4)
set_option maxHeartbeats 4000000 in
set_option maxRecDepth 100000 in
theorem m10_isCabinet (l : Launch) (D : va_G) (ad : Nat → Nat) (cy : Nat → ClassId) (sz : Nat) (s0 s1 s2 s3 s4 s5 s6 s7 s8 s9 s10 : OS) (a0 : Int32) (r : Int32) (h : f10_isCabinet a0 = some r) : Met l yX10_isCabinet (wsOf yX10_isCabinet cX10_isCabinet 1 (some .boolean)) (rmL 1) (va_Pc ([.int a0] : List Value) (PreG D cy (cellsC ad cy s0 s1 s2 s3 s4 s5 s6 s7 s8 s9 s10) sz (NC ad))) (QcI D ad 67 (cellsC ad cy s0 s1 s2 s3 s4 s5 s6 s7 s8 s9 s10) (r) sz) 0 0 (Afr ad 67 sz) := by
  refine metG (own := RX10) (by decide) rfl (Nat.le_of_ble_eq_true rfl) fstC ?_ sz
  intro p e s m below meth c ls C0 hw hl
  obtain ⟨hx, hb, hml, hown, hts, hr, hlk, hK, hN⟩ := C0
  have hl : lv_has ls 1 [(0, .int a0)] := hl
  generalize hQ : MQ below (QcI D ad 67 (cellsC ad cy s0 s1 s2 s3 s4 s5 s6 s7 s8 s9 s10) (r) s.heap.size) ([.int a0] : List Value).toArray s 0 0 (Afr ad 67 s.heap.size) = Q
  obtain ⟨H, hH⟩ : ∃ H : Heap, H = s.heap := ⟨_, rfl⟩
  obtain ⟨locs, hlc⟩ : ∃ L : List Loc, L = [] := ⟨_, rfl⟩
  have hw : Wd D (cellsC ad cy s0 s1 s2 s3 s4 s5 s6 s7 s8 s9 s10) (Afr ad 67 s.heap.size) s.heap H locs := by rw [hH, hlc]; exact hw
  suffices h0 : W p l e (rmL 1) s m ([.int a0] : List Value).toArray below meth c H locs 0 0 Q (F0 m 0 ls []) by rw [hH, hlc] at h0; exact h0
  clear hH hlc
  unfold f10_isCabinet at h
  refine lv_iload_n hx hb dX10_isCabinet_0 rfl (lv_at hl 0 rfl) ?_
  refine lv_iconst (v := 0) hx hb dX10_isCabinet_1 (by decide) ?_
  refine lv_bipush (v := 9) hx hb dX10_isCabinet_2 (by decide) ?_
  obtain ⟨q_4, h_4, h⟩ := bnd_e h
  have pg_4 := preG (av := [.int a0, .int ((0 : Int32)), .int ((9 : Int32))]) hK hw.1 hw.2.1 (NC_keep hN hw.2.2) NC_blind
  refine endI (mc := 0) (ms := 0) (va_runS (As := [.int a0, .int ((0 : Int32)), .int ((9 : Int32))]) (rest := []) ⟨hx, hb, hml, hown, hts⟩ (m10_isWithin l D ad cy H.size s0 s1 s2 s3 s4 s5 s6 s7 s8 s9 s10 a0 ((0 : Int32)) ((9 : Int32)) q_4 h_4) (wX10_86 0 hts ⟨Nat.le_of_ble_eq_true rfl, Nat.le_of_ble_eq_true rfl⟩) pg_4 rfl rfl hl.1 rfl (lv_room (Nat.le_of_ble_eq_true rfl)) dX10_isCabinet_4 ⟨Nat.le_refl _, Nat.le_refl _⟩) hw.2.2 (afr_in hw.2.2) (fun H locs hw => ?_)
  obtain ⟨hz_7, h⟩ := chk_e h
  have h := Option.some.inj h
  subst h
  rw [← hQ]
  exact retI hx hb hr hlk hw (narB hz_7) dX10_isCabinet_7
theorem dX10_isPlace_0 : decode cX10_isPlace 0 = .ok (.iload_n 0, 1) := by decide +kernel
theorem dX10_isPlace_1 : decode cX10_isPlace 1 = .ok (.iconst 0, 1) := by decide +kernel
theorem dX10_isPlace_2 : decode cX10_isPlace 2 = .ok (.bipush 15, 2) := by decide +kernel
theorem dX10_isPlace_4 : decode cX10_isPlace 4 = .ok (.invokestatic 86, 3) := by decide +kernel
theorem dX10_isPlace_7 : decode cX10_isPlace 7 = .ok (.ireturn, 1) := by decide +kernel
def f10_isPlace (a0 : Int32) : Option (Int32) := Option.bind (f10_isWithin a0 ((0 : Int32)) ((15 : Int32))) fun q_4 => chk (isB q_4) (some q_4)
set_option maxHeartbeats 4000000 in
set_option maxRecDepth 100000 in
theorem m10_isPlace (l : Launch) (D : va_G) (ad : Nat → Nat) (cy : Nat → ClassId) (sz : Nat) (s0 s1 s2 s3 s4 s5 s6 s7 s8 s9 s10 : OS) (a0 : Int32) (r : Int32) (h : f10_isPlace a0 = some r) : Met l yX10_isPlace (wsOf yX10_isPlace cX10_isPlace 1 (some .boolean)) (rmL 1) (va_Pc ([.int a0] : List Value) (PreG D cy (cellsC ad cy s0 s1 s2 s3 s4 s5 s6 s7 s8 s9 s10) sz (NC ad))) (QcI D ad 67 (cellsC ad cy s0 s1 s2 s3 s4 s5 s6 s7 s8 s9 s10) (r) sz) 0 0 (Afr ad 67 sz) := by
  refine metG (own := RX10) (by decide) rfl (Nat.le_of_ble_eq_true rfl) fstC ?_ sz
  intro p e s m below meth c ls C0 hw hl
  obtain ⟨hx, hb, hml, hown, hts, hr, hlk, hK, hN⟩ := C0
  have hl : lv_has ls 1 [(0, .int a0)] := hl
  generalize hQ : MQ below (QcI D ad 67 (cellsC ad cy s0 s1 s2 s3 s4 s5 s6 s7 s8 s9 s10) (r) s.heap.size) ([.int a0] : List Value).toArray s 0 0 (Afr ad 67 s.heap.size) = Q
  obtain ⟨H, hH⟩ : ∃ H : Heap, H = s.heap := ⟨_, rfl⟩
  obtain ⟨locs, hlc⟩ : ∃ L : List Loc, L = [] := ⟨_, rfl⟩
  have hw : Wd D (cellsC ad cy s0 s1 s2 s3 s4 s5 s6 s7 s8 s9 s10) (Afr ad 67 s.heap.size) s.heap H locs := by rw [hH, hlc]; exact hw
  suffices h0 : W p l e (rmL 1) s m ([.int a0] : List Value).toArray below meth c H locs 0 0 Q (F0 m 0 ls []) by rw [hH, hlc] at h0; exact h0
  clear hH hlc
  unfold f10_isPlace at h
  refine lv_iload_n hx hb dX10_isPlace_0 rfl (lv_at hl 0 rfl) ?_
  refine lv_iconst (v := 0) hx hb dX10_isPlace_1 (by decide) ?_
  refine lv_bipush (v := 15) hx hb dX10_isPlace_2 (by decide) ?_
  obtain ⟨q_4, h_4, h⟩ := bnd_e h
  have pg_4 := preG (av := [.int a0, .int ((0 : Int32)), .int ((15 : Int32))]) hK hw.1 hw.2.1 (NC_keep hN hw.2.2) NC_blind
  refine endI (mc := 0) (ms := 0) (va_runS (As := [.int a0, .int ((0 : Int32)), .int ((15 : Int32))]) (rest := []) ⟨hx, hb, hml, hown, hts⟩ (m10_isWithin l D ad cy H.size s0 s1 s2 s3 s4 s5 s6 s7 s8 s9 s10 a0 ((0 : Int32)) ((15 : Int32)) q_4 h_4) (wX10_86 0 hts ⟨Nat.le_of_ble_eq_true rfl, Nat.le_of_ble_eq_true rfl⟩) pg_4 rfl rfl hl.1 rfl (lv_room (Nat.le_of_ble_eq_true rfl)) dX10_isPlace_4 ⟨Nat.le_refl _, Nat.le_refl _⟩) hw.2.2 (afr_in hw.2.2) (fun H locs hw => ?_)
  obtain ⟨hz_7, h⟩ := chk_e h
  have h := Option.some.inj h
  subst h
  rw [← hQ]
  exact retI hx hb hr hlk hw (narB hz_7) dX10_isPlace_7
theorem dX10_isBits_0 : decode cX10_isBits 0 = .ok (.iload_n 0, 1) := by decide +kernel
theorem dX10_isBits_1 : decode cX10_isBits 1 = .ok (.iconst 0, 1) := by decide +kernel
theorem dX10_isBits_2 : decode cX10_isBits 2 = .ok (.ldc_w 363, 3) := by decide +kernel
theorem dX10_isBits_5 : decode cX10_isBits 5 = .ok (.invokestatic 86, 3) := by decide +kernel
theorem dX10_isBits_8 : decode cX10_isBits 8 = .ok (.ireturn, 1) := by decide +kernel
def f10_isBits (a0 : Int32) : Option (Int32) := Option.bind (f10_isWithin a0 ((0 : Int32)) ((65535 : Int32))) fun q_5 => chk (isB q_5) (some q_5)
set_option maxHeartbeats 4000000 in
set_option maxRecDepth 100000 in
theorem m10_isBits (l : Launch) (D : va_G) (ad : Nat → Nat) (cy : Nat → ClassId) (sz : Nat) (s0 s1 s2 s3 s4 s5 s6 s7 s8 s9 s10 : OS) (a0 : Int32) (r : Int32) (h : f10_isBits a0 = some r) : Met l yX10_isBits (wsOf yX10_isBits cX10_isBits 1 (some .boolean)) (rmL 1) (va_Pc ([.int a0] : List Value) (PreG D cy (cellsC ad cy s0 s1 s2 s3 s4 s5 s6 s7 s8 s9 s10) sz (NC ad))) (QcI D ad 67 (cellsC ad cy s0 s1 s2 s3 s4 s5 s6 s7 s8 s9 s10) (r) sz) 0 0 (Afr ad 67 sz) := by
  refine metG (own := RX10) (by decide) rfl (Nat.le_of_ble_eq_true rfl) fstC ?_ sz
  intro p e s m below meth c ls C0 hw hl
  obtain ⟨hx, hb, hml, hown, hts, hr, hlk, hK, hN⟩ := C0
  have hl : lv_has ls 1 [(0, .int a0)] := hl
  generalize hQ : MQ below (QcI D ad 67 (cellsC ad cy s0 s1 s2 s3 s4 s5 s6 s7 s8 s9 s10) (r) s.heap.size) ([.int a0] : List Value).toArray s 0 0 (Afr ad 67 s.heap.size) = Q
  obtain ⟨H, hH⟩ : ∃ H : Heap, H = s.heap := ⟨_, rfl⟩
  obtain ⟨locs, hlc⟩ : ∃ L : List Loc, L = [] := ⟨_, rfl⟩
  have hw : Wd D (cellsC ad cy s0 s1 s2 s3 s4 s5 s6 s7 s8 s9 s10) (Afr ad 67 s.heap.size) s.heap H locs := by rw [hH, hlc]; exact hw
  suffices h0 : W p l e (rmL 1) s m ([.int a0] : List Value).toArray below meth c H locs 0 0 Q (F0 m 0 ls []) by rw [hH, hlc] at h0; exact h0
  clear hH hlc
  unfold f10_isBits at h
  refine lv_iload_n hx hb dX10_isBits_0 rfl (lv_at hl 0 rfl) ?_
  refine lv_iconst (v := 0) hx hb dX10_isBits_1 (by decide) ?_
  refine lv_ldcw (v := 65535) hx hb hown (hts _ (wd_2 (w := .constant RX10 363 65535) (i := 166) (by decide +kernel) rfl)) dX10_isBits_2 ?_
  obtain ⟨q_5, h_5, h⟩ := bnd_e h
  have pg_5 := preG (av := [.int a0, .int ((0 : Int32)), .int ((65535 : Int32))]) hK hw.1 hw.2.1 (NC_keep hN hw.2.2) NC_blind
  refine endI (mc := 0) (ms := 0) (va_runS (As := [.int a0, .int ((0 : Int32)), .int ((65535 : Int32))]) (rest := []) ⟨hx, hb, hml, hown, hts⟩ (m10_isWithin l D ad cy H.size s0 s1 s2 s3 s4 s5 s6 s7 s8 s9 s10 a0 ((0 : Int32)) ((65535 : Int32)) q_5 h_5) (wX10_86 0 hts ⟨Nat.le_of_ble_eq_true rfl, Nat.le_of_ble_eq_true rfl⟩) pg_5 rfl rfl hl.1 rfl (lv_room (Nat.le_of_ble_eq_true rfl)) dX10_isBits_5 ⟨Nat.le_refl _, Nat.le_refl _⟩) hw.2.2 (afr_in hw.2.2) (fun H locs hw => ?_)
  obtain ⟨hz_8, h⟩ := chk_e h
  have h := Option.some.inj h
  subst h
  rw [← hQ]
  exact retI hx hb hr hlk hw (narB hz_8) dX10_isBits_8
theorem dX8_byteAt_0 : decode cX8_byteAt 0 = .ok (.iload_n 1, 1) := by decide +kernel
theorem dX8_byteAt_1 : decode cX8_byteAt 1 = .ok (.ifCond .lt 20, 3) := by decide +kernel
theorem dX8_byteAt_4 : decode cX8_byteAt 4 = .ok (.iload_n 1, 1) := by decide +kernel
theorem dX8_byteAt_5 : decode cX8_byteAt 5 = .ok (.aload_n 0, 1) := by decide +kernel
theorem dX8_byteAt_6 : decode cX8_byteAt 6 = .ok (.getfield 13, 3) := by decide +kernel
theorem dX8_byteAt_9 : decode cX8_byteAt 9 = .ok (.if_icmp .ge 12, 3) := by decide +kernel
theorem dX8_byteAt_12 : decode cX8_byteAt 12 = .ok (.aload_n 0, 1) := by decide +kernel
theorem dX8_byteAt_13 : decode cX8_byteAt 13 = .ok (.getfield 9, 3) := by decide +kernel
theorem dX8_byteAt_16 : decode cX8_byteAt 16 = .ok (.iload_n 1, 1) := by decide +kernel
theorem dX8_byteAt_17 : decode cX8_byteAt 17 = .ok (.caload, 1) := by decide +kernel
theorem dX8_byteAt_18 : decode cX8_byteAt 18 = .ok (.goto 4, 3) := by decide +kernel
theorem dX8_byteAt_21 : decode cX8_byteAt 21 = .ok (.iconst 0, 1) := by decide +kernel
theorem dX8_byteAt_22 : decode cX8_byteAt 22 = .ok (.ireturn, 1) := by decide +kernel
def f8_byteAt_j22 (k0_j22 : Int32) (s8_j22 : OS) : Option (Int32) := chk (isC k0_j22) (some k0_j22)
def f8_byteAt_j21 (s8_j21 : OS) : Option (Int32) := f8_byteAt_j22 ((0 : Int32)) s8_j21
def f8_byteAt (a1 : Int32) (s8 : OS) : Option (Int32) := if a1 < 0 then (f8_byteAt_j21 s8) else (if (s8.1 0 1) ≤ a1 then (f8_byteAt_j21 s8) else (chk (inb a1 400) (nm (s8.1 1 a1.toNatClampNeg) fun y_17 => f8_byteAt_j22 y_17 s8)))
set_option maxHeartbeats 4000000 in
set_option maxRecDepth 100000 in
theorem m8_byteAt (l : Launch) (D : va_G) (ad : Nat → Nat) (cy : Nat → ClassId) (sz : Nat) (s0 s1 s2 s3 s4 s5 s6 s7 s8 s9 s10 : OS) (a1 : Int32) (r : Int32) (h : f8_byteAt a1 s8 = some r) : Met l yX8_byteAt (wsOf yX8_byteAt cX8_byteAt 2 (some .char)) (rmL 0) (va_Pc ([.ref (ad 8), .int a1] : List Value) (PreG D cy (cellsC ad cy s0 s1 s2 s3 s4 s5 s6 s7 s8 s9 s10) sz (NC ad))) (QcI D ad 67 (cellsC ad cy s0 s1 s2 s3 s4 s5 s6 s7 s8 s9 s10) (r) sz) 0 0 (Afr ad 67 sz) := by
  refine metG (own := RX8) (by decide) rfl (Nat.le_of_ble_eq_true rfl) fstC ?_ sz
  intro p e s m below meth c ls C0 hw hl
  obtain ⟨hx, hb, hml, hown, hts, hr, hlk, hK, hN⟩ := C0
  have hl : lv_has ls 2 [(0, .ref (ad 8)), (1, .int a1)] := hl
  generalize hQ : MQ below (QcI D ad 67 (cellsC ad cy s0 s1 s2 s3 s4 s5 s6 s7 s8 s9 s10) (r) s.heap.size) ([.ref (ad 8), .int a1] : List Value).toArray s 0 0 (Afr ad 67 s.heap.size) = Q
  obtain ⟨H, hH⟩ : ∃ H : Heap, H = s.heap := ⟨_, rfl⟩
  obtain ⟨locs, hlc⟩ : ∃ L : List Loc, L = [] := ⟨_, rfl⟩
  have hw : Wd D (cellsC ad cy s0 s1 s2 s3 s4 s5 s6 s7 s8 s9 s10) (Afr ad 67 s.heap.size) s.heap H locs := by rw [hH, hlc]; exact hw
  suffices h0 : W p l e (rmL 0) s m ([.ref (ad 8), .int a1] : List Value).toArray below meth c H locs 0 0 Q (F0 m 0 ls []) by rw [hH, hlc] at h0; exact h0
  clear hH hlc
  unfold f8_byteAt at h
  have hJ_22 : ∀ (k0_j22 : Int32) (H : Heap) (locs : List Loc) (ls : Array Slot), f8_byteAt_j22 k0_j22 s8 = some r → Wd D (cellsC ad cy s0 s1 s2 s3 s4 s5 s6 s7 s8 s9 s10) (Afr ad 67 s.heap.size) s.heap H locs → lv_has ls 2 [] → W p l e (rmL 0) s m ([.ref (ad 8), .int a1] : List Value).toArray below meth c H locs 0 0 Q (F0 m 22 ls [.int k0_j22]) := by
    intro k0_j22 H locs ls h hw hl
    unfold f8_byteAt_j22 at h
    obtain ⟨hz_22, h⟩ := chk_e h
    have h := Option.some.inj h
    subst h
    rw [← hQ]
    exact retI hx hb hr hlk hw (narC hz_22) dX8_byteAt_22
  have hJ_21 : ∀  (H : Heap) (locs : List Loc) (ls : Array Slot), f8_byteAt_j21 s8 = some r → Wd D (cellsC ad cy s0 s1 s2 s3 s4 s5 s6 s7 s8 s9 s10) (Afr ad 67 s.heap.size) s.heap H locs → lv_has ls 2 [] → W p l e (rmL 0) s m ([.ref (ad 8), .int a1] : List Value).toArray below meth c H locs 0 0 Q (F0 m 21 ls []) := by
    intro  H locs ls h hw hl
    unfold f8_byteAt_j21 at h
    refine lv_iconst (v := 0) hx hb dX8_byteAt_21 (by decide) ?_
    exact hJ_22 ((0 : Int32)) H locs ls h hw (lv_sub hl [] rfl)
  refine lv_iload_n hx hb dX8_byteAt_0 rfl (lv_at hl 1 rfl) ?_
  refine lv_if_lt (tgt := 21) hx hb dX8_byteAt_1 (by decide) (fun c_1 => ?_) (fun c_1 => ?_)
  · have h := ite_t c_1 h
    exact hJ_21  H locs ls h hw (lv_sub hl [] rfl)
  · have h := ite_f c_1 h
    refine lv_iload_n hx hb dX8_byteAt_4 rfl (lv_at hl 1 rfl) ?_
    refine lv_aload_n hx hb dX8_byteAt_5 rfl (lv_at hl 0 rfl) ?_
    refine gX8_13 hx hb hts hown hK hw dX8_byteAt_6 ?_
    refine lv_icmp_ge (tgt := 21) hx hb dX8_byteAt_9 (by decide) (fun c_9 => ?_) (fun c_9 => ?_)
    · have h := ite_t c_9 h
      exact hJ_21  H locs ls h hw (lv_sub hl [] rfl)
    · have h := ite_f c_9 h
      refine lv_aload_n hx hb dX8_byteAt_12 rfl (lv_at hl 0 rfl) ?_
      refine gX8_9 hx hb hts hown hK hw dX8_byteAt_13 ?_
      refine lv_iload_n hx hb dX8_byteAt_16 rfl (lv_at hl 1 rfl) ?_
      obtain ⟨hi_17, h⟩ := chk_e h
      obtain ⟨y_17, e_17, h⟩ := nam_e h
      refine lC59 hx hb hK hw hi_17 e_17 dX8_byteAt_17 ?_
      refine lv_goto (tgt := 22) hx hb dX8_byteAt_18 (by decide) ?_
      exact hJ_22 y_17 H locs ls h hw (lv_sub hl [] rfl)
theorem dX8_number_0 : decode cX8_number 0 = .ok (.iconst 0, 1) := by decide +kernel
theorem dX8_number_1 : decode cX8_number 1 = .ok (.istore_n 2, 1) := by decide +kernel
theorem dX8_number_2 : decode cX8_number 2 = .ok (.iconst 4, 1) := by decide +kernel
theorem dX8_number_3 : decode cX8_number 3 = .ok (.iload_n 1, 1) := by decide +kernel
theorem dX8_number_4 : decode cX8_number 4 = .ok (.imul, 1) := by decide +kernel
theorem dX8_number_5 : decode cX8_number 5 = .ok (.istore_n 3, 1) := by decide +kernel
theorem dX8_number_6 : decode cX8_number 6 = .ok (.iload_n 3, 1) := by decide +kernel
theorem dX8_number_7 : decode cX8_number 7 = .ok (.iconst 4, 1) := by decide +kernel
theorem dX8_number_8 : decode cX8_number 8 = .ok (.iload_n 1, 1) := by decide +kernel
theorem dX8_number_9 : decode cX8_number 9 = .ok (.imul, 1) := by decide +kernel
theorem dX8_number_10 : decode cX8_number 10 = .ok (.iconst 4, 1) := by decide +kernel
theorem dX8_number_11 : decode cX8_number 11 = .ok (.iadd, 1) := by decide +kernel
theorem dX8_number_12 : decode cX8_number 12 = .ok (.if_icmp .ge 20, 3) := by decide +kernel
theorem dX8_number_15 : decode cX8_number 15 = .ok (.iload_n 2, 1) := by decide +kernel
theorem dX8_number_16 : decode cX8_number 16 = .ok (.bipush 8, 2) := by decide +kernel
theorem dX8_number_18 : decode cX8_number 18 = .ok (.ishl, 1) := by decide +kernel
theorem dX8_number_19 : decode cX8_number 19 = .ok (.aload_n 0, 1) := by decide +kernel
theorem dX8_number_20 : decode cX8_number 20 = .ok (.iload_n 3, 1) := by decide +kernel
theorem dX8_number_21 : decode cX8_number 21 = .ok (.invokevirtual 17, 3) := by decide +kernel
theorem dX8_number_24 : decode cX8_number 24 = .ok (.ior, 1) := by decide +kernel
theorem dX8_number_25 : decode cX8_number 25 = .ok (.istore_n 2, 1) := by decide +kernel
theorem dX8_number_26 : decode cX8_number 26 = .ok (.iinc 3 1, 3) := by decide +kernel
theorem dX8_number_29 : decode cX8_number 29 = .ok (.goto (-23), 3) := by decide +kernel
theorem dX8_number_32 : decode cX8_number 32 = .ok (.iload_n 2, 1) := by decide +kernel
theorem dX8_number_33 : decode cX8_number 33 = .ok (.ireturn, 1) := by decide +kernel
noncomputable def f8_number_l6 (v1_i6 : Int32) (s8_i6 : OS) : Int32 × Int32 → Option ((Int32 × Int32) ⊕ (Int32)) := fun t_6 => if (((4 : Int32) * v1_i6) + (4 : Int32)) ≤ t_6.2 then (Option.map Sum.inr (some t_6.1)) else (Option.bind (f8_byteAt t_6.2 s8_i6) fun q_21 => nm (((t_6.1 <<< ((8 : Int32) &&& 31)) ||| q_21)) fun n_25 => nm (t_6.2 + (1 : Int32)) fun n_26 => some (Sum.inl (n_25, n_26)))
noncomputable def f8_number (a1 : Int32) (s8 : OS) : Option (Int32) := nm (((4 : Int32) * a1)) fun n_5 => loop (f8_number_l6 a1 s8) ((0 : Int32), n_5)
set_option maxHeartbeats 4000000 in
set_option maxRecDepth 100000 in
theorem m8_number (l : Launch) (D : va_G) (ad : Nat → Nat) (cy : Nat → ClassId) (sz : Nat) (s0 s1 s2 s3 s4 s5 s6 s7 s8 s9 s10 : OS) (a1 : Int32) (r : Int32) (h : f8_number a1 s8 = some r) : Met l yX8_number (wsOf yX8_number cX8_number 4 (some .int)) (rmL 1) (va_Pc ([.ref (ad 8), .int a1] : List Value) (PreG D cy (cellsC ad cy s0 s1 s2 s3 s4 s5 s6 s7 s8 s9 s10) sz (NC ad))) (QcI D ad 67 (cellsC ad cy s0 s1 s2 s3 s4 s5 s6 s7 s8 s9 s10) (r) sz) 0 0 (Afr ad 67 sz) := by
  refine metG (own := RX8) (by decide) rfl (Nat.le_of_ble_eq_true rfl) fstC ?_ sz
  intro p e s m below meth c ls C0 hw hl
  obtain ⟨hx, hb, hml, hown, hts, hr, hlk, hK, hN⟩ := C0
  have hl : lv_has ls 4 [(0, .ref (ad 8)), (1, .int a1)] := hl
  generalize hQ : MQ below (QcI D ad 67 (cellsC ad cy s0 s1 s2 s3 s4 s5 s6 s7 s8 s9 s10) (r) s.heap.size) ([.ref (ad 8), .int a1] : List Value).toArray s 0 0 (Afr ad 67 s.heap.size) = Q
  obtain ⟨H, hH⟩ : ∃ H : Heap, H = s.heap := ⟨_, rfl⟩
  obtain ⟨locs, hlc⟩ : ∃ L : List Loc, L = [] := ⟨_, rfl⟩
  have hw : Wd D (cellsC ad cy s0 s1 s2 s3 s4 s5 s6 s7 s8 s9 s10) (Afr ad 67 s.heap.size) s.heap H locs := by rw [hH, hlc]; exact hw
  suffices h0 : W p l e (rmL 1) s m ([.ref (ad 8), .int a1] : List Value).toArray below meth c H locs 0 0 Q (F0 m 0 ls []) by rw [hH, hlc] at h0; exact h0
  clear hH hlc
  unfold f8_number at h
  refine lv_iconst (v := 0) hx hb dX8_number_0 (by decide) ?_
  refine lv_istore_n (lv' := [(2, .int ((0 : Int32))), (0, .ref (ad 8)), (1, .int a1)]) hx hb dX8_number_1 rfl hl (by decide) rfl (fun ls hl => ?_)
  refine lv_iconst (v := 4) hx hb dX8_number_2 (by decide) ?_
  refine lv_iload_n hx hb dX8_number_3 rfl (lv_at hl 2 rfl) ?_
  refine lv_imul hx hb dX8_number_4 ?_
  obtain ⟨n_5, e_5, h⟩ := nam_e h
  refine topI e_5 ?_
  refine lv_istore_n (lv' := [(3, .int n_5), (2, .int ((0 : Int32))), (0, .ref (ad 8)), (1, .int a1)]) hx hb dX8_number_5 rfl hl (by decide) rfl (fun ls hl => ?_)
  obtain ⟨n_6, hn_6⟩ := loop_e h
  have hL_6 : ∀ (n : Nat) (t_6 : Int32 × Int32) (H : Heap) (locs : List Loc) (ls : Array Slot), loopN (f8_number_l6 a1 s8) n t_6 = some r → Wd D (cellsC ad cy s0 s1 s2 s3 s4 s5 s6 s7 s8 s9 s10) (Afr ad 67 s.heap.size) s.heap H locs → lv_has ls 4 [(2, .int t_6.1), (3, .int t_6.2), (1, .int a1), (0, .ref (ad 8))] → W p l e (rmL 1) s m ([.ref (ad 8), .int a1] : List Value).toArray below meth c H locs 0 0 Q (F0 m 6 ls []) := by
    intro n
    induction n with
    | zero => intro t_6 H locs ls hn; cases hn
    | succ n ih_6 =>
      intro t_6 H locs ls hn hw hl
      obtain ⟨x_6, h, hx_6⟩ := loopN_e hn
      unfold f8_number_l6 at h
      refine lv_iload_n hx hb dX8_number_6 rfl (lv_at hl 1 rfl) ?_
      refine lv_iconst (v := 4) hx hb dX8_number_7 (by decide) ?_
      refine lv_iload_n hx hb dX8_number_8 rfl (lv_at hl 2 rfl) ?_
      refine lv_imul hx hb dX8_number_9 ?_
      refine lv_iconst (v := 4) hx hb dX8_number_10 (by decide) ?_
      refine lv_iadd hx hb dX8_number_11 ?_
      refine lv_icmp_ge (tgt := 32) hx hb dX8_number_12 (by decide) (fun c_12 => ?_) (fun c_12 => ?_)
      · have h := ite_t c_12 h
        have h := nx_m hx_6 h
        refine lv_iload_n hx hb dX8_number_32 rfl (lv_at hl 0 rfl) ?_
        have h := Option.some.inj h
        subst h
        rw [← hQ]
        exact retI hx hb hr hlk hw rfl dX8_number_33
      · have h := ite_f c_12 h
        refine lv_iload_n hx hb dX8_number_15 rfl (lv_at hl 0 rfl) ?_
        refine lv_bipush (v := 8) hx hb dX8_number_16 (by decide) ?_
        refine lv_ishl hx hb dX8_number_18 ?_
        refine lv_aload_n hx hb dX8_number_19 rfl (lv_at hl 3 rfl) ?_
        refine lv_iload_n hx hb dX8_number_20 rfl (lv_at hl 1 rfl) ?_
        obtain ⟨q_21, h_21, h⟩ := bnd_e h
        have pg_21 := preG (av := [.ref (ad 8), .int t_6.2]) hK hw.1 hw.2.1 (NC_keep hN hw.2.2) NC_blind
        refine endI (mc := 0) (ms := 0) (va_runV (As := [.int t_6.2]) (rest := [.int ((t_6.1 <<< ((8 : Int32) &&& 31)))]) ⟨hx, hb, hml, hown, hts⟩ (m8_byteAt l D ad cy H.size s0 s1 s2 s3 s4 s5 s6 s7 s8 s9 s10 t_6.2 q_21 h_21) (wX8_17 0 hts ⟨Nat.le_of_ble_eq_true rfl, Nat.le_of_ble_eq_true rfl⟩) ⟨pg_21.1, va_recv hK hw.1 (ci := 8) (q0 := 8) rfl eC_8, pg_21.2⟩ rfl rfl hl.1 rfl (lv_room (Nat.le_of_ble_eq_true rfl)) dX8_number_21 ⟨Nat.le_refl _, Nat.le_refl _⟩) hw.2.2 (afr_in hw.2.2) (fun H locs hw => ?_)
        refine lv_ior hx hb dX8_number_24 ?_
        obtain ⟨n_25, e_25, h⟩ := nam_e h
        refine topI e_25 ?_
        refine lv_istore_n (lv' := [(2, .int n_25), (3, .int t_6.2), (1, .int a1), (0, .ref (ad 8))]) hx hb dX8_number_25 rfl hl (by decide) rfl (fun ls hl => ?_)
        obtain ⟨n_26, e_26, h⟩ := nam_e h
        refine lv_iinc (v := n_26) (lv' := [(3, .int n_26), (2, .int n_25), (1, .int a1), (0, .ref (ad 8))]) hx hb dX8_number_26 hl (k := 1) rfl (by rw [e_26]; rfl) (by decide) rfl (fun ls hl => ?_)
        refine lv_goto (tgt := 6) hx hb dX8_number_29 (by decide) ?_
        exact ih_6 (n_25, n_26) H locs ls (nx_l hx_6 h) hw (lv_sub hl [1, 0, 2, 3] rfl)
  exact hL_6 n_6 ((0 : Int32), n_5) H locs ls hn_6 hw (lv_sub hl [1, 0, 3, 2] rfl)
theorem dX8_hasNumbers_0 : decode cX8_hasNumbers 0 = .ok (.iconst 4, 1) := by decide +kernel
theorem dX8_hasNumbers_1 : decode cX8_hasNumbers 1 = .ok (.iload_n 1, 1) := by decide +kernel
theorem dX8_hasNumbers_2 : decode cX8_hasNumbers 2 = .ok (.imul, 1) := by decide +kernel
theorem dX8_hasNumbers_3 : decode cX8_hasNumbers 3 = .ok (.aload_n 0, 1) := by decide +kernel
theorem dX8_hasNumbers_4 : decode cX8_hasNumbers 4 = .ok (.getfield 13, 3) := by decide +kernel
theorem dX8_hasNumbers_7 : decode cX8_hasNumbers 7 = .ok (.if_icmp .gt 7, 3) := by decide +kernel
theorem dX8_hasNumbers_10 : decode cX8_hasNumbers 10 = .ok (.iconst 1, 1) := by decide +kernel
theorem dX8_hasNumbers_11 : decode cX8_hasNumbers 11 = .ok (.goto 4, 3) := by decide +kernel
theorem dX8_hasNumbers_14 : decode cX8_hasNumbers 14 = .ok (.iconst 0, 1) := by decide +kernel
theorem dX8_hasNumbers_15 : decode cX8_hasNumbers 15 = .ok (.ireturn, 1) := by decide +kernel
def f8_hasNumbers_j15 (k0_j15 : Int32) (s8_j15 : OS) : Option (Int32) := chk (isB k0_j15) (some k0_j15)
def f8_hasNumbers (a1 : Int32) (s8 : OS) : Option (Int32) := if (s8.1 0 1) < ((4 : Int32) * a1) then (f8_hasNumbers_j15 ((0 : Int32)) s8) else (f8_hasNumbers_j15 ((1 : Int32)) s8)
set_option maxHeartbeats 4000000 in
set_option maxRecDepth 100000 in
theorem m8_hasNumbers (l : Launch) (D : va_G) (ad : Nat → Nat) (cy : Nat → ClassId) (sz : Nat) (s0 s1 s2 s3 s4 s5 s6 s7 s8 s9 s10 : OS) (a1 : Int32) (r : Int32) (h : f8_hasNumbers a1 s8 = some r) : Met l yX8_hasNumbers (wsOf yX8_hasNumbers cX8_hasNumbers 2 (some .boolean)) (rmL 0) (va_Pc ([.ref (ad 8), .int a1] : List Value) (PreG D cy (cellsC ad cy s0 s1 s2 s3 s4 s5 s6 s7 s8 s9 s10) sz (NC ad))) (QcI D ad 67 (cellsC ad cy s0 s1 s2 s3 s4 s5 s6 s7 s8 s9 s10) (r) sz) 0 0 (Afr ad 67 sz) := by
  refine metG (own := RX8) (by decide) rfl (Nat.le_of_ble_eq_true rfl) fstC ?_ sz
  intro p e s m below meth c ls C0 hw hl
  obtain ⟨hx, hb, hml, hown, hts, hr, hlk, hK, hN⟩ := C0
  have hl : lv_has ls 2 [(0, .ref (ad 8)), (1, .int a1)] := hl
  generalize hQ : MQ below (QcI D ad 67 (cellsC ad cy s0 s1 s2 s3 s4 s5 s6 s7 s8 s9 s10) (r) s.heap.size) ([.ref (ad 8), .int a1] : List Value).toArray s 0 0 (Afr ad 67 s.heap.size) = Q
  obtain ⟨H, hH⟩ : ∃ H : Heap, H = s.heap := ⟨_, rfl⟩
  obtain ⟨locs, hlc⟩ : ∃ L : List Loc, L = [] := ⟨_, rfl⟩
  have hw : Wd D (cellsC ad cy s0 s1 s2 s3 s4 s5 s6 s7 s8 s9 s10) (Afr ad 67 s.heap.size) s.heap H locs := by rw [hH, hlc]; exact hw
  suffices h0 : W p l e (rmL 0) s m ([.ref (ad 8), .int a1] : List Value).toArray below meth c H locs 0 0 Q (F0 m 0 ls []) by rw [hH, hlc] at h0; exact h0
  clear hH hlc
  unfold f8_hasNumbers at h
  have hJ_15 : ∀ (k0_j15 : Int32) (H : Heap) (locs : List Loc) (ls : Array Slot), f8_hasNumbers_j15 k0_j15 s8 = some r → Wd D (cellsC ad cy s0 s1 s2 s3 s4 s5 s6 s7 s8 s9 s10) (Afr ad 67 s.heap.size) s.heap H locs → lv_has ls 2 [] → W p l e (rmL 0) s m ([.ref (ad 8), .int a1] : List Value).toArray below meth c H locs 0 0 Q (F0 m 15 ls [.int k0_j15]) := by
    intro k0_j15 H locs ls h hw hl
    unfold f8_hasNumbers_j15 at h
    obtain ⟨hz_15, h⟩ := chk_e h
    have h := Option.some.inj h
    subst h
    rw [← hQ]
    exact retI hx hb hr hlk hw (narB hz_15) dX8_hasNumbers_15
  refine lv_iconst (v := 4) hx hb dX8_hasNumbers_0 (by decide) ?_
  refine lv_iload_n hx hb dX8_hasNumbers_1 rfl (lv_at hl 1 rfl) ?_
  refine lv_imul hx hb dX8_hasNumbers_2 ?_
  refine lv_aload_n hx hb dX8_hasNumbers_3 rfl (lv_at hl 0 rfl) ?_
  refine gX8_13 hx hb hts hown hK hw dX8_hasNumbers_4 ?_
  refine lv_icmp_gt (tgt := 14) hx hb dX8_hasNumbers_7 (by decide) (fun c_7 => ?_) (fun c_7 => ?_)
  · have h := ite_t c_7 h
    refine lv_iconst (v := 0) hx hb dX8_hasNumbers_14 (by decide) ?_
    exact hJ_15 ((0 : Int32)) H locs ls h hw (lv_sub hl [] rfl)
  · have h := ite_f c_7 h
    refine lv_iconst (v := 1) hx hb dX8_hasNumbers_10 (by decide) ?_
    refine lv_goto (tgt := 15) hx hb dX8_hasNumbers_11 (by decide) ?_
    exact hJ_15 ((1 : Int32)) H locs ls h hw (lv_sub hl [] rfl)
theorem dX8_wipe_0 : decode cX8_wipe 0 = .ok (.aload_n 0, 1) := by decide +kernel
theorem dX8_wipe_1 : decode cX8_wipe 1 = .ok (.iconst 0, 1) := by decide +kernel
theorem dX8_wipe_2 : decode cX8_wipe 2 = .ok (.putfield 13, 3) := by decide +kernel
theorem dX8_wipe_5 : decode cX8_wipe 5 = .ok (.return_, 1) := by decide +kernel
def f8_wipe (s8 : OS) : Option (OS) := nm (wI s8 0 1 ((0 : Int32))) fun s8_2 => some s8_2
set_option maxHeartbeats 4000000 in
set_option maxRecDepth 100000 in
theorem m8_wipe (l : Launch) (D : va_G) (ad : Nat → Nat) (cy : Nat → ClassId) (sz : Nat) (s0 s1 s2 s3 s4 s5 s6 s7 s8 s9 s10 : OS) (r : OS) (h : f8_wipe s8 = some r) : Met l yX8_wipe (wsOf yX8_wipe cX8_wipe 1 none) (rmL 0) (va_Pc ([.ref (ad 8)] : List Value) (PreG D cy (cellsC ad cy s0 s1 s2 s3 s4 s5 s6 s7 s8 s9 s10) sz (NC ad))) (QcV D ad 67 (cellsC ad cy s0 s1 s2 s3 s4 s5 s6 s7 r s9 s10) sz) 0 0 (Afr ad 67 sz) := by
  refine metG (own := RX8) (by decide) rfl (Nat.le_of_ble_eq_true rfl) fstC ?_ sz
  intro p e s m below meth c ls C0 hw hl
  obtain ⟨hx, hb, hml, hown, hts, hr, hlk, hK, hN⟩ := C0
  have hl : lv_has ls 1 [(0, .ref (ad 8))] := hl
  generalize hQ : MQ below (QcV D ad 67 (cellsC ad cy s0 s1 s2 s3 s4 s5 s6 s7 r s9 s10) s.heap.size) ([.ref (ad 8)] : List Value).toArray s 0 0 (Afr ad 67 s.heap.size) = Q
  obtain ⟨H, hH⟩ : ∃ H : Heap, H = s.heap := ⟨_, rfl⟩
  obtain ⟨locs, hlc⟩ : ∃ L : List Loc, L = [] := ⟨_, rfl⟩
  have hw : Wd D (cellsC ad cy s0 s1 s2 s3 s4 s5 s6 s7 s8 s9 s10) (Afr ad 67 s.heap.size) s.heap H locs := by rw [hH, hlc]; exact hw
  suffices h0 : W p l e (rmL 0) s m ([.ref (ad 8)] : List Value).toArray below meth c H locs 0 0 Q (F0 m 0 ls []) by rw [hH, hlc] at h0; exact h0
  clear hH hlc
  unfold f8_wipe at h
  refine lv_aload_n hx hb dX8_wipe_0 rfl (lv_at hl 0 rfl) ?_
  refine lv_iconst (v := 0) hx hb dX8_wipe_1 (by decide) ?_
  obtain ⟨s8_2, e_2, h⟩ := nam_e h
  refine pX8_13 hx hb hts hown hK hw e_2 dX8_wipe_2 (fun H locs hw => ?_)
  have h := Option.some.inj h
  subst h
  rw [← hQ]
  exact retV hx hb hr hlk hw dX8_wipe_5
theorem dX8_length_0 : decode cX8_length 0 = .ok (.aload_n 0, 1) := by decide +kernel
theorem dX8_length_1 : decode cX8_length 1 = .ok (.getfield 13, 3) := by decide +kernel
theorem dX8_length_4 : decode cX8_length 4 = .ok (.ireturn, 1) := by decide +kernel
def f8_length (s8 : OS) : Option (Int32) := some ((s8.1 0 1))
set_option maxHeartbeats 4000000 in
set_option maxRecDepth 100000 in
theorem m8_length (l : Launch) (D : va_G) (ad : Nat → Nat) (cy : Nat → ClassId) (sz : Nat) (s0 s1 s2 s3 s4 s5 s6 s7 s8 s9 s10 : OS) (r : Int32) (h : f8_length s8 = some r) : Met l yX8_length (wsOf yX8_length cX8_length 1 (some .int)) (rmL 0) (va_Pc ([.ref (ad 8)] : List Value) (PreG D cy (cellsC ad cy s0 s1 s2 s3 s4 s5 s6 s7 s8 s9 s10) sz (NC ad))) (QcI D ad 67 (cellsC ad cy s0 s1 s2 s3 s4 s5 s6 s7 s8 s9 s10) (r) sz) 0 0 (Afr ad 67 sz) := by
  refine metG (own := RX8) (by decide) rfl (Nat.le_of_ble_eq_true rfl) fstC ?_ sz
  intro p e s m below meth c ls C0 hw hl
  obtain ⟨hx, hb, hml, hown, hts, hr, hlk, hK, hN⟩ := C0
  have hl : lv_has ls 1 [(0, .ref (ad 8))] := hl
  generalize hQ : MQ below (QcI D ad 67 (cellsC ad cy s0 s1 s2 s3 s4 s5 s6 s7 s8 s9 s10) (r) s.heap.size) ([.ref (ad 8)] : List Value).toArray s 0 0 (Afr ad 67 s.heap.size) = Q
  obtain ⟨H, hH⟩ : ∃ H : Heap, H = s.heap := ⟨_, rfl⟩
  obtain ⟨locs, hlc⟩ : ∃ L : List Loc, L = [] := ⟨_, rfl⟩
  have hw : Wd D (cellsC ad cy s0 s1 s2 s3 s4 s5 s6 s7 s8 s9 s10) (Afr ad 67 s.heap.size) s.heap H locs := by rw [hH, hlc]; exact hw
  suffices h0 : W p l e (rmL 0) s m ([.ref (ad 8)] : List Value).toArray below meth c H locs 0 0 Q (F0 m 0 ls []) by rw [hH, hlc] at h0; exact h0
  clear hH hlc
  unfold f8_length at h
  refine lv_aload_n hx hb dX8_length_0 rfl (lv_at hl 0 rfl) ?_
  refine gX8_13 hx hb hts hown hK hw dX8_length_1 ?_
  have h := Option.some.inj h
  subst h
  rw [← hQ]
  exact retI hx hb hr hlk hw rfl dX8_length_4
theorem dX8_append_0 : decode cX8_append 0 = .ok (.bipush 24, 2) := by decide +kernel
theorem dX8_append_2 : decode cX8_append 2 = .ok (.istore_n 2, 1) := by decide +kernel
theorem dX8_append_3 : decode cX8_append 3 = .ok (.iload_n 2, 1) := by decide +kernel
theorem dX8_append_4 : decode cX8_append 4 = .ok (.ifCond .lt 46, 3) := by decide +kernel
theorem dX8_append_7 : decode cX8_append 7 = .ok (.aload_n 0, 1) := by decide +kernel
theorem dX8_append_8 : decode cX8_append 8 = .ok (.getfield 13, 3) := by decide +kernel
theorem dX8_append_11 : decode cX8_append 11 = .ok (.sipush 400, 3) := by decide +kernel
theorem dX8_append_14 : decode cX8_append 14 = .ok (.if_icmp .ge 30, 3) := by decide +kernel
theorem dX8_append_17 : decode cX8_append 17 = .ok (.aload_n 0, 1) := by decide +kernel
theorem dX8_append_18 : decode cX8_append 18 = .ok (.getfield 9, 3) := by decide +kernel
theorem dX8_append_21 : decode cX8_append 21 = .ok (.aload_n 0, 1) := by decide +kernel
theorem dX8_append_22 : decode cX8_append 22 = .ok (.getfield 13, 3) := by decide +kernel
theorem dX8_append_25 : decode cX8_append 25 = .ok (.iload_n 1, 1) := by decide +kernel
theorem dX8_append_26 : decode cX8_append 26 = .ok (.iload_n 2, 1) := by decide +kernel
theorem dX8_append_27 : decode cX8_append 27 = .ok (.ishr, 1) := by decide +kernel
theorem dX8_append_28 : decode cX8_append 28 = .ok (.sipush 255, 3) := by decide +kernel
theorem dX8_append_31 : decode cX8_append 31 = .ok (.iand, 1) := by decide +kernel
theorem dX8_append_32 : decode cX8_append 32 = .ok (.i2c, 1) := by decide +kernel
theorem dX8_append_33 : decode cX8_append 33 = .ok (.castore, 1) := by decide +kernel
theorem dX8_append_34 : decode cX8_append 34 = .ok (.aload_n 0, 1) := by decide +kernel
theorem dX8_append_35 : decode cX8_append 35 = .ok (.dup, 1) := by decide +kernel
theorem dX8_append_36 : decode cX8_append 36 = .ok (.getfield 13, 3) := by decide +kernel
theorem dX8_append_39 : decode cX8_append 39 = .ok (.iconst 1, 1) := by decide +kernel
theorem dX8_append_40 : decode cX8_append 40 = .ok (.iadd, 1) := by decide +kernel
theorem dX8_append_41 : decode cX8_append 41 = .ok (.putfield 13, 3) := by decide +kernel
theorem dX8_append_44 : decode cX8_append 44 = .ok (.iinc 2 (-8), 3) := by decide +kernel
theorem dX8_append_47 : decode cX8_append 47 = .ok (.goto (-44), 3) := by decide +kernel
theorem dX8_append_50 : decode cX8_append 50 = .ok (.return_, 1) := by decide +kernel
noncomputable def f8_append_j44 (v1_j44 : Int32) (v2_j44 : Int32) (s8_j44 : OS) : Option ((Int32 × OS) ⊕ (OS)) := nm (v2_j44 + (-8 : Int32)) fun n_44 => some (Sum.inl (n_44, s8_j44))
noncomputable def f8_append_l3 (v1_i3 : Int32) : Int32 × OS → Option ((Int32 × OS) ⊕ (OS)) := fun t_3 => if t_3.1 < 0 then (Option.map Sum.inr (some t_3.2)) else (if (400 : Int32) ≤ (t_3.2.1 0 1) then (f8_append_j44 v1_i3 t_3.1 t_3.2) else (chk (inb ((t_3.2.1 0 1)) 400) (nm (wI t_3.2 1 ((t_3.2.1 0 1)).toNatClampNeg (vp_nar .char (((((v1_i3 >>> (t_3.1 &&& 31)) &&& (255 : Int32))).toUInt32 % 65536).toInt32))) fun s8_33 => nm (wI s8_33 0 1 (((s8_33.1 0 1) + (1 : Int32)))) fun s8_41 => f8_append_j44 v1_i3 t_3.1 s8_41)))
noncomputable def f8_append (a1 : Int32) (s8 : OS) : Option (OS) := loop (f8_append_l3 a1) ((24 : Int32), s8)
set_option maxHeartbeats 4000000 in
set_option maxRecDepth 100000 in
theorem m8_append (l : Launch) (D : va_G) (ad : Nat → Nat) (cy : Nat → ClassId) (sz : Nat) (s0 s1 s2 s3 s4 s5 s6 s7 s8 s9 s10 : OS) (a1 : Int32) (r : OS) (h : f8_append a1 s8 = some r) : Met l yX8_append (wsOf yX8_append cX8_append 3 none) (rmL 0) (va_Pc ([.ref (ad 8), .int a1] : List Value) (PreG D cy (cellsC ad cy s0 s1 s2 s3 s4 s5 s6 s7 s8 s9 s10) sz (NC ad))) (QcV D ad 67 (cellsC ad cy s0 s1 s2 s3 s4 s5 s6 s7 r s9 s10) sz) 0 0 (Afr ad 67 sz) := by
  refine metG (own := RX8) (by decide) rfl (Nat.le_of_ble_eq_true rfl) fstC ?_ sz
  intro p e s m below meth c ls C0 hw hl
  obtain ⟨hx, hb, hml, hown, hts, hr, hlk, hK, hN⟩ := C0
  have hl : lv_has ls 3 [(0, .ref (ad 8)), (1, .int a1)] := hl
  generalize hQ : MQ below (QcV D ad 67 (cellsC ad cy s0 s1 s2 s3 s4 s5 s6 s7 r s9 s10) s.heap.size) ([.ref (ad 8), .int a1] : List Value).toArray s 0 0 (Afr ad 67 s.heap.size) = Q
  obtain ⟨H, hH⟩ : ∃ H : Heap, H = s.heap := ⟨_, rfl⟩
  obtain ⟨locs, hlc⟩ : ∃ L : List Loc, L = [] := ⟨_, rfl⟩
  have hw : Wd D (cellsC ad cy s0 s1 s2 s3 s4 s5 s6 s7 s8 s9 s10) (Afr ad 67 s.heap.size) s.heap H locs := by rw [hH, hlc]; exact hw
  suffices h0 : W p l e (rmL 0) s m ([.ref (ad 8), .int a1] : List Value).toArray below meth c H locs 0 0 Q (F0 m 0 ls []) by rw [hH, hlc] at h0; exact h0
  clear hH hlc
  unfold f8_append at h
  refine lv_bipush (v := 24) hx hb dX8_append_0 (by decide) ?_
  refine lv_istore_n (lv' := [(2, .int ((24 : Int32))), (0, .ref (ad 8)), (1, .int a1)]) hx hb dX8_append_2 rfl hl (by decide) rfl (fun ls hl => ?_)
  obtain ⟨n_3, hn_3⟩ := loop_e h
  have hL_3 : ∀ (n : Nat) (t_3 : Int32 × OS) (H : Heap) (locs : List Loc) (ls : Array Slot), loopN (f8_append_l3 a1) n t_3 = some r → Wd D (cellsC ad cy s0 s1 s2 s3 s4 s5 s6 s7 t_3.2 s9 s10) (Afr ad 67 s.heap.size) s.heap H locs → lv_has ls 3 [(2, .int t_3.1), (1, .int a1), (0, .ref (ad 8))] → W p l e (rmL 0) s m ([.ref (ad 8), .int a1] : List Value).toArray below meth c H locs 0 0 Q (F0 m 3 ls []) := by
    intro n
    induction n with
    | zero => intro t_3 H locs ls hn; cases hn
    | succ n ih_3 =>
      intro t_3 H locs ls hn hw hl
      obtain ⟨x_3, h, hx_3⟩ := loopN_e hn
      unfold f8_append_l3 at h
      have hJ_44 : ∀ (v2_j44 : Int32) (s8_j44 : OS) (H : Heap) (locs : List Loc) (ls : Array Slot), f8_append_j44 a1 v2_j44 s8_j44 = some x_3 → Wd D (cellsC ad cy s0 s1 s2 s3 s4 s5 s6 s7 s8_j44 s9 s10) (Afr ad 67 s.heap.size) s.heap H locs → lv_has ls 3 [(0, .ref (ad 8)), (1, .int a1), (2, .int v2_j44)] → W p l e (rmL 0) s m ([.ref (ad 8), .int a1] : List Value).toArray below meth c H locs 0 0 Q (F0 m 44 ls []) := by
        intro v2_j44 s8_j44 H locs ls h hw hl
        unfold f8_append_j44 at h
        obtain ⟨n_44, e_44, h⟩ := nam_e h
        refine lv_iinc (v := n_44) (lv' := [(2, .int n_44), (0, .ref (ad 8)), (1, .int a1)]) hx hb dX8_append_44 hl (k := 2) rfl (by rw [e_44]; rfl) (by decide) rfl (fun ls hl => ?_)
        refine lv_goto (tgt := 3) hx hb dX8_append_47 (by decide) ?_
        exact ih_3 (n_44, s8_j44) H locs ls (nx_l hx_3 h) hw (lv_sub hl [0, 2, 1] rfl)
      refine lv_iload_n hx hb dX8_append_3 rfl (lv_at hl 0 rfl) ?_
      refine lv_if_lt (tgt := 50) hx hb dX8_append_4 (by decide) (fun c_4 => ?_) (fun c_4 => ?_)
      · have h := ite_t c_4 h
        have h := nx_m hx_3 h
        have h := Option.some.inj h
        subst h
        rw [← hQ]
        exact retV hx hb hr hlk hw dX8_append_50
      · have h := ite_f c_4 h
        refine lv_aload_n hx hb dX8_append_7 rfl (lv_at hl 2 rfl) ?_
        refine gX8_13 hx hb hts hown hK hw dX8_append_8 ?_
        refine lv_sipush (v := 400) hx hb dX8_append_11 (by decide) ?_
        refine lv_icmp_ge (tgt := 44) hx hb dX8_append_14 (by decide) (fun c_14 => ?_) (fun c_14 => ?_)
        · have h := ite_t c_14 h
          exact hJ_44 t_3.1 t_3.2 H locs ls h hw (lv_sub hl [2, 1, 0] rfl)
        · have h := ite_f c_14 h
          refine lv_aload_n hx hb dX8_append_17 rfl (lv_at hl 2 rfl) ?_
          refine gX8_9 hx hb hts hown hK hw dX8_append_18 ?_
          refine lv_aload_n hx hb dX8_append_21 rfl (lv_at hl 2 rfl) ?_
          refine gX8_13 hx hb hts hown hK hw dX8_append_22 ?_
          refine lv_iload_n hx hb dX8_append_25 rfl (lv_at hl 1 rfl) ?_
          refine lv_iload_n hx hb dX8_append_26 rfl (lv_at hl 0 rfl) ?_
          refine lv_ishr hx hb dX8_append_27 ?_
          refine lv_sipush (v := 255) hx hb dX8_append_28 (by decide) ?_
          refine lv_iand hx hb dX8_append_31 ?_
          refine lv_i2c hx hb dX8_append_32 rfl ?_
          obtain ⟨hi_33, h⟩ := chk_e h
          obtain ⟨s8_33, e_33, h⟩ := nam_e h
          refine aC59 hx hb hK hw hi_33 e_33 dX8_append_33 (fun H locs hw => ?_)
          refine lv_aload_n hx hb dX8_append_34 rfl (lv_at hl 2 rfl) ?_
          refine lv_dup hx hb dX8_append_35 rfl ?_
          refine gX8_13 hx hb hts hown hK hw dX8_append_36 ?_
          refine lv_iconst (v := 1) hx hb dX8_append_39 (by decide) ?_
          refine lv_iadd hx hb dX8_append_40 ?_
          obtain ⟨s8_41, e_41, h⟩ := nam_e h
          refine pX8_13 hx hb hts hown hK hw e_41 dX8_append_41 (fun H locs hw => ?_)
          exact hJ_44 t_3.1 s8_41 H locs ls h hw (lv_sub hl [2, 1, 0] rfl)
  exact hL_3 n_3 ((24 : Int32), s8) H locs ls hn_3 hw (lv_sub hl [0, 2, 1] rfl)
theorem dX8_hasRoomFor_0 : decode cX8_hasRoomFor 0 = .ok (.aload_n 0, 1) := by decide +kernel
theorem dX8_hasRoomFor_1 : decode cX8_hasRoomFor 1 = .ok (.getfield 13, 3) := by decide +kernel
theorem dX8_hasRoomFor_4 : decode cX8_hasRoomFor 4 = .ok (.iconst 4, 1) := by decide +kernel
theorem dX8_hasRoomFor_5 : decode cX8_hasRoomFor 5 = .ok (.iload_n 1, 1) := by decide +kernel
theorem dX8_hasRoomFor_6 : decode cX8_hasRoomFor 6 = .ok (.imul, 1) := by decide +kernel
theorem dX8_hasRoomFor_7 : decode cX8_hasRoomFor 7 = .ok (.iadd, 1) := by decide +kernel
theorem dX8_hasRoomFor_8 : decode cX8_hasRoomFor 8 = .ok (.sipush 400, 3) := by decide +kernel
theorem dX8_hasRoomFor_11 : decode cX8_hasRoomFor 11 = .ok (.if_icmp .gt 7, 3) := by decide +kernel
theorem dX8_hasRoomFor_14 : decode cX8_hasRoomFor 14 = .ok (.iconst 1, 1) := by decide +kernel
theorem dX8_hasRoomFor_15 : decode cX8_hasRoomFor 15 = .ok (.goto 4, 3) := by decide +kernel
theorem dX8_hasRoomFor_18 : decode cX8_hasRoomFor 18 = .ok (.iconst 0, 1) := by decide +kernel
theorem dX8_hasRoomFor_19 : decode cX8_hasRoomFor 19 = .ok (.ireturn, 1) := by decide +kernel
def f8_hasRoomFor_j19 (k0_j19 : Int32) (s8_j19 : OS) : Option (Int32) := chk (isB k0_j19) (some k0_j19)
def f8_hasRoomFor (a1 : Int32) (s8 : OS) : Option (Int32) := if (400 : Int32) < ((s8.1 0 1) + ((4 : Int32) * a1)) then (f8_hasRoomFor_j19 ((0 : Int32)) s8) else (f8_hasRoomFor_j19 ((1 : Int32)) s8)
set_option maxHeartbeats 4000000 in
set_option maxRecDepth 100000 in
theorem m8_hasRoomFor (l : Launch) (D : va_G) (ad : Nat → Nat) (cy : Nat → ClassId) (sz : Nat) (s0 s1 s2 s3 s4 s5 s6 s7 s8 s9 s10 : OS) (a1 : Int32) (r : Int32) (h : f8_hasRoomFor a1 s8 = some r) : Met l yX8_hasRoomFor (wsOf yX8_hasRoomFor cX8_hasRoomFor 2 (some .boolean)) (rmL 0) (va_Pc ([.ref (ad 8), .int a1] : List Value) (PreG D cy (cellsC ad cy s0 s1 s2 s3 s4 s5 s6 s7 s8 s9 s10) sz (NC ad))) (QcI D ad 67 (cellsC ad cy s0 s1 s2 s3 s4 s5 s6 s7 s8 s9 s10) (r) sz) 0 0 (Afr ad 67 sz) := by
  refine metG (own := RX8) (by decide) rfl (Nat.le_of_ble_eq_true rfl) fstC ?_ sz
  intro p e s m below meth c ls C0 hw hl
  obtain ⟨hx, hb, hml, hown, hts, hr, hlk, hK, hN⟩ := C0
  have hl : lv_has ls 2 [(0, .ref (ad 8)), (1, .int a1)] := hl
  generalize hQ : MQ below (QcI D ad 67 (cellsC ad cy s0 s1 s2 s3 s4 s5 s6 s7 s8 s9 s10) (r) s.heap.size) ([.ref (ad 8), .int a1] : List Value).toArray s 0 0 (Afr ad 67 s.heap.size) = Q
  obtain ⟨H, hH⟩ : ∃ H : Heap, H = s.heap := ⟨_, rfl⟩
  obtain ⟨locs, hlc⟩ : ∃ L : List Loc, L = [] := ⟨_, rfl⟩
  have hw : Wd D (cellsC ad cy s0 s1 s2 s3 s4 s5 s6 s7 s8 s9 s10) (Afr ad 67 s.heap.size) s.heap H locs := by rw [hH, hlc]; exact hw
  suffices h0 : W p l e (rmL 0) s m ([.ref (ad 8), .int a1] : List Value).toArray below meth c H locs 0 0 Q (F0 m 0 ls []) by rw [hH, hlc] at h0; exact h0
  clear hH hlc
  unfold f8_hasRoomFor at h
  have hJ_19 : ∀ (k0_j19 : Int32) (H : Heap) (locs : List Loc) (ls : Array Slot), f8_hasRoomFor_j19 k0_j19 s8 = some r → Wd D (cellsC ad cy s0 s1 s2 s3 s4 s5 s6 s7 s8 s9 s10) (Afr ad 67 s.heap.size) s.heap H locs → lv_has ls 2 [] → W p l e (rmL 0) s m ([.ref (ad 8), .int a1] : List Value).toArray below meth c H locs 0 0 Q (F0 m 19 ls [.int k0_j19]) := by
    intro k0_j19 H locs ls h hw hl
    unfold f8_hasRoomFor_j19 at h
    obtain ⟨hz_19, h⟩ := chk_e h
    have h := Option.some.inj h
    subst h
    rw [← hQ]
    exact retI hx hb hr hlk hw (narB hz_19) dX8_hasRoomFor_19
  refine lv_aload_n hx hb dX8_hasRoomFor_0 rfl (lv_at hl 0 rfl) ?_
  refine gX8_13 hx hb hts hown hK hw dX8_hasRoomFor_1 ?_
  refine lv_iconst (v := 4) hx hb dX8_hasRoomFor_4 (by decide) ?_
  refine lv_iload_n hx hb dX8_hasRoomFor_5 rfl (lv_at hl 1 rfl) ?_
  refine lv_imul hx hb dX8_hasRoomFor_6 ?_
  refine lv_iadd hx hb dX8_hasRoomFor_7 ?_
  refine lv_sipush (v := 400) hx hb dX8_hasRoomFor_8 (by decide) ?_
  refine lv_icmp_gt (tgt := 18) hx hb dX8_hasRoomFor_11 (by decide) (fun c_11 => ?_) (fun c_11 => ?_)
  · have h := ite_t c_11 h
    refine lv_iconst (v := 0) hx hb dX8_hasRoomFor_18 (by decide) ?_
    exact hJ_19 ((0 : Int32)) H locs ls h hw (lv_sub hl [] rfl)
  · have h := ite_f c_11 h
    refine lv_iconst (v := 1) hx hb dX8_hasRoomFor_14 (by decide) ?_
    refine lv_goto (tgt := 19) hx hb dX8_hasRoomFor_15 (by decide) ?_
    exact hJ_19 ((1 : Int32)) H locs ls h hw (lv_sub hl [] rfl)
theorem dX8_hasBytes_0 : decode cX8_hasBytes 0 = .ok (.iload_n 1, 1) := by decide +kernel
theorem dX8_hasBytes_1 : decode cX8_hasBytes 1 = .ok (.aload_n 0, 1) := by decide +kernel
theorem dX8_hasBytes_2 : decode cX8_hasBytes 2 = .ok (.getfield 13, 3) := by decide +kernel
theorem dX8_hasBytes_5 : decode cX8_hasBytes 5 = .ok (.if_icmp .gt 7, 3) := by decide +kernel
theorem dX8_hasBytes_8 : decode cX8_hasBytes 8 = .ok (.iconst 1, 1) := by decide +kernel
theorem dX8_hasBytes_9 : decode cX8_hasBytes 9 = .ok (.goto 4, 3) := by decide +kernel
theorem dX8_hasBytes_12 : decode cX8_hasBytes 12 = .ok (.iconst 0, 1) := by decide +kernel
theorem dX8_hasBytes_13 : decode cX8_hasBytes 13 = .ok (.ireturn, 1) := by decide +kernel
def f8_hasBytes_j13 (k0_j13 : Int32) (s8_j13 : OS) : Option (Int32) := chk (isB k0_j13) (some k0_j13)
def f8_hasBytes (a1 : Int32) (s8 : OS) : Option (Int32) := if (s8.1 0 1) < a1 then (f8_hasBytes_j13 ((0 : Int32)) s8) else (f8_hasBytes_j13 ((1 : Int32)) s8)
set_option maxHeartbeats 4000000 in
set_option maxRecDepth 100000 in
theorem m8_hasBytes (l : Launch) (D : va_G) (ad : Nat → Nat) (cy : Nat → ClassId) (sz : Nat) (s0 s1 s2 s3 s4 s5 s6 s7 s8 s9 s10 : OS) (a1 : Int32) (r : Int32) (h : f8_hasBytes a1 s8 = some r) : Met l yX8_hasBytes (wsOf yX8_hasBytes cX8_hasBytes 2 (some .boolean)) (rmL 0) (va_Pc ([.ref (ad 8), .int a1] : List Value) (PreG D cy (cellsC ad cy s0 s1 s2 s3 s4 s5 s6 s7 s8 s9 s10) sz (NC ad))) (QcI D ad 67 (cellsC ad cy s0 s1 s2 s3 s4 s5 s6 s7 s8 s9 s10) (r) sz) 0 0 (Afr ad 67 sz) := by
  refine metG (own := RX8) (by decide) rfl (Nat.le_of_ble_eq_true rfl) fstC ?_ sz
  intro p e s m below meth c ls C0 hw hl
  obtain ⟨hx, hb, hml, hown, hts, hr, hlk, hK, hN⟩ := C0
  have hl : lv_has ls 2 [(0, .ref (ad 8)), (1, .int a1)] := hl
  generalize hQ : MQ below (QcI D ad 67 (cellsC ad cy s0 s1 s2 s3 s4 s5 s6 s7 s8 s9 s10) (r) s.heap.size) ([.ref (ad 8), .int a1] : List Value).toArray s 0 0 (Afr ad 67 s.heap.size) = Q
  obtain ⟨H, hH⟩ : ∃ H : Heap, H = s.heap := ⟨_, rfl⟩
  obtain ⟨locs, hlc⟩ : ∃ L : List Loc, L = [] := ⟨_, rfl⟩
  have hw : Wd D (cellsC ad cy s0 s1 s2 s3 s4 s5 s6 s7 s8 s9 s10) (Afr ad 67 s.heap.size) s.heap H locs := by rw [hH, hlc]; exact hw
  suffices h0 : W p l e (rmL 0) s m ([.ref (ad 8), .int a1] : List Value).toArray below meth c H locs 0 0 Q (F0 m 0 ls []) by rw [hH, hlc] at h0; exact h0
  clear hH hlc
  unfold f8_hasBytes at h
  have hJ_13 : ∀ (k0_j13 : Int32) (H : Heap) (locs : List Loc) (ls : Array Slot), f8_hasBytes_j13 k0_j13 s8 = some r → Wd D (cellsC ad cy s0 s1 s2 s3 s4 s5 s6 s7 s8 s9 s10) (Afr ad 67 s.heap.size) s.heap H locs → lv_has ls 2 [] → W p l e (rmL 0) s m ([.ref (ad 8), .int a1] : List Value).toArray below meth c H locs 0 0 Q (F0 m 13 ls [.int k0_j13]) := by
    intro k0_j13 H locs ls h hw hl
    unfold f8_hasBytes_j13 at h
    obtain ⟨hz_13, h⟩ := chk_e h
    have h := Option.some.inj h
    subst h
    rw [← hQ]
    exact retI hx hb hr hlk hw (narB hz_13) dX8_hasBytes_13
  refine lv_iload_n hx hb dX8_hasBytes_0 rfl (lv_at hl 1 rfl) ?_
  refine lv_aload_n hx hb dX8_hasBytes_1 rfl (lv_at hl 0 rfl) ?_
  refine gX8_13 hx hb hts hown hK hw dX8_hasBytes_2 ?_
  refine lv_icmp_gt (tgt := 12) hx hb dX8_hasBytes_5 (by decide) (fun c_5 => ?_) (fun c_5 => ?_)
  · have h := ite_t c_5 h
    refine lv_iconst (v := 0) hx hb dX8_hasBytes_12 (by decide) ?_
    exact hJ_13 ((0 : Int32)) H locs ls h hw (lv_sub hl [] rfl)
  · have h := ite_f c_5 h
    refine lv_iconst (v := 1) hx hb dX8_hasBytes_8 (by decide) ?_
    refine lv_goto (tgt := 13) hx hb dX8_hasBytes_9 (by decide) ?_
    exact hJ_13 ((1 : Int32)) H locs ls h hw (lv_sub hl [] rfl)
theorem dX1_write_0 : decode cX1_write 0 = .ok (.aload_n 0, 1) := by decide +kernel
theorem dX1_write_1 : decode cX1_write 1 = .ok (.getfield 27, 3) := by decide +kernel
theorem dX1_write_4 : decode cX1_write 4 = .ok (.ifCond .lt 13, 3) := by decide +kernel
theorem dX1_write_7 : decode cX1_write 7 = .ok (.aload_n 0, 1) := by decide +kernel
theorem dX1_write_8 : decode cX1_write 8 = .ok (.getfield 27, 3) := by decide +kernel
theorem dX1_write_11 : decode cX1_write 11 = .ok (.sipush 662, 3) := by decide +kernel
theorem dX1_write_14 : decode cX1_write 14 = .ok (.if_icmp .lt 4, 3) := by decide +kernel
theorem dX1_write_17 : decode cX1_write 17 = .ok (.return_, 1) := by decide +kernel
theorem dX1_write_18 : decode cX1_write 18 = .ok (.aload_n 0, 1) := by decide +kernel
theorem dX1_write_19 : decode cX1_write 19 = .ok (.getfield 11, 3) := by decide +kernel
theorem dX1_write_22 : decode cX1_write 22 = .ok (.aload_n 0, 1) := by decide +kernel
theorem dX1_write_23 : decode cX1_write 23 = .ok (.getfield 27, 3) := by decide +kernel
theorem dX1_write_26 : decode cX1_write 26 = .ok (.iload_n 1, 1) := by decide +kernel
theorem dX1_write_27 : decode cX1_write 27 = .ok (.iastore, 1) := by decide +kernel
theorem dX1_write_28 : decode cX1_write 28 = .ok (.aload_n 0, 1) := by decide +kernel
theorem dX1_write_29 : decode cX1_write 29 = .ok (.getfield 15, 3) := by decide +kernel
theorem dX1_write_32 : decode cX1_write 32 = .ok (.aload_n 0, 1) := by decide +kernel
theorem dX1_write_33 : decode cX1_write 33 = .ok (.getfield 27, 3) := by decide +kernel
theorem dX1_write_36 : decode cX1_write 36 = .ok (.iload_n 2, 1) := by decide +kernel
theorem dX1_write_37 : decode cX1_write 37 = .ok (.iastore, 1) := by decide +kernel
theorem dX1_write_38 : decode cX1_write 38 = .ok (.aload_n 0, 1) := by decide +kernel
theorem dX1_write_39 : decode cX1_write 39 = .ok (.getfield 18, 3) := by decide +kernel
theorem dX1_write_42 : decode cX1_write 42 = .ok (.aload_n 0, 1) := by decide +kernel
theorem dX1_write_43 : decode cX1_write 43 = .ok (.getfield 27, 3) := by decide +kernel
theorem dX1_write_46 : decode cX1_write 46 = .ok (.iload_n 3, 1) := by decide +kernel
theorem dX1_write_47 : decode cX1_write 47 = .ok (.iastore, 1) := by decide +kernel
theorem dX1_write_48 : decode cX1_write 48 = .ok (.aload_n 0, 1) := by decide +kernel
theorem dX1_write_49 : decode cX1_write 49 = .ok (.getfield 21, 3) := by decide +kernel
theorem dX1_write_52 : decode cX1_write 52 = .ok (.aload_n 0, 1) := by decide +kernel
theorem dX1_write_53 : decode cX1_write 53 = .ok (.getfield 27, 3) := by decide +kernel
theorem dX1_write_56 : decode cX1_write 56 = .ok (.iload 4, 2) := by decide +kernel
theorem dX1_write_58 : decode cX1_write 58 = .ok (.iastore, 1) := by decide +kernel
theorem dX1_write_59 : decode cX1_write 59 = .ok (.aload_n 0, 1) := by decide +kernel
theorem dX1_write_60 : decode cX1_write 60 = .ok (.getfield 24, 3) := by decide +kernel
theorem dX1_write_63 : decode cX1_write 63 = .ok (.aload_n 0, 1) := by decide +kernel
theorem dX1_write_64 : decode cX1_write 64 = .ok (.getfield 27, 3) := by decide +kernel
theorem dX1_write_67 : decode cX1_write 67 = .ok (.iload 5, 2) := by decide +kernel
theorem dX1_write_69 : decode cX1_write 69 = .ok (.iastore, 1) := by decide +kernel
theorem dX1_write_70 : decode cX1_write 70 = .ok (.aload_n 0, 1) := by decide +kernel
theorem dX1_write_71 : decode cX1_write 71 = .ok (.dup, 1) := by decide +kernel
theorem dX1_write_72 : decode cX1_write 72 = .ok (.getfield 27, 3) := by decide +kernel
theorem dX1_write_75 : decode cX1_write 75 = .ok (.iconst 1, 1) := by decide +kernel
theorem dX1_write_76 : decode cX1_write 76 = .ok (.iadd, 1) := by decide +kernel
theorem dX1_write_77 : decode cX1_write 77 = .ok (.putfield 27, 3) := by decide +kernel
theorem dX1_write_80 : decode cX1_write 80 = .ok (.return_, 1) := by decide +kernel
def f1_write_j17 (s1_j17 : OS) : Option (OS) := some s1_j17
def f1_write (a1 : Int32) (a2 : Int32) (a3 : Int32) (a4 : Int32) (a5 : Int32) (s1 : OS) : Option (OS) := if (s1.1 0 5) < 0 then (f1_write_j17 s1) else (if (s1.1 0 5) < (662 : Int32) then (chk (inb ((s1.1 0 5)) 662) (nm (wI s1 1 ((s1.1 0 5)).toNatClampNeg a1) fun s1_27 => chk (inb ((s1_27.1 0 5)) 662) (nm (wI s1_27 2 ((s1_27.1 0 5)).toNatClampNeg a2) fun s1_37 => chk (inb ((s1_37.1 0 5)) 662) (nm (wI s1_37 3 ((s1_37.1 0 5)).toNatClampNeg a3) fun s1_47 => chk (inb ((s1_47.1 0 5)) 662) (nm (wI s1_47 4 ((s1_47.1 0 5)).toNatClampNeg a4) fun s1_58 => chk (inb ((s1_58.1 0 5)) 662) (nm (wI s1_58 5 ((s1_58.1 0 5)).toNatClampNeg a5) fun s1_69 => nm (wI s1_69 0 5 (((s1_69.1 0 5) + (1 : Int32)))) fun s1_77 => some s1_77)))))) else (f1_write_j17 s1))
set_option maxHeartbeats 4000000 in
set_option maxRecDepth 100000 in
theorem m1_write (l : Launch) (D : va_G) (ad : Nat → Nat) (cy : Nat → ClassId) (sz : Nat) (s0 s1 s2 s3 s4 s5 s6 s7 s8 s9 s10 : OS) (a1 : Int32) (a2 : Int32) (a3 : Int32) (a4 : Int32) (a5 : Int32) (r : OS) (h : f1_write a1 a2 a3 a4 a5 s1 = some r) : Met l yX1_write (wsOf yX1_write cX1_write 6 none) (rmL 0) (va_Pc ([.ref (ad 1), .int a1, .int a2, .int a3, .int a4, .int a5] : List Value) (PreG D cy (cellsC ad cy s0 s1 s2 s3 s4 s5 s6 s7 s8 s9 s10) sz (NC ad))) (QcV D ad 67 (cellsC ad cy s0 r s2 s3 s4 s5 s6 s7 s8 s9 s10) sz) 0 0 (Afr ad 67 sz) := by
  refine metG (own := RX1) (by decide) rfl (Nat.le_of_ble_eq_true rfl) fstC ?_ sz
  intro p e s m below meth c ls C0 hw hl
  obtain ⟨hx, hb, hml, hown, hts, hr, hlk, hK, hN⟩ := C0
  have hl : lv_has ls 6 [(0, .ref (ad 1)), (1, .int a1), (2, .int a2), (3, .int a3), (4, .int a4), (5, .int a5)] := hl
  generalize hQ : MQ below (QcV D ad 67 (cellsC ad cy s0 r s2 s3 s4 s5 s6 s7 s8 s9 s10) s.heap.size) ([.ref (ad 1), .int a1, .int a2, .int a3, .int a4, .int a5] : List Value).toArray s 0 0 (Afr ad 67 s.heap.size) = Q
  obtain ⟨H, hH⟩ : ∃ H : Heap, H = s.heap := ⟨_, rfl⟩
  obtain ⟨locs, hlc⟩ : ∃ L : List Loc, L = [] := ⟨_, rfl⟩
  have hw : Wd D (cellsC ad cy s0 s1 s2 s3 s4 s5 s6 s7 s8 s9 s10) (Afr ad 67 s.heap.size) s.heap H locs := by rw [hH, hlc]; exact hw
  suffices h0 : W p l e (rmL 0) s m ([.ref (ad 1), .int a1, .int a2, .int a3, .int a4, .int a5] : List Value).toArray below meth c H locs 0 0 Q (F0 m 0 ls []) by rw [hH, hlc] at h0; exact h0
  clear hH hlc
  unfold f1_write at h
  have hJ_17 : ∀ (s1_j17 : OS) (H : Heap) (locs : List Loc) (ls : Array Slot), f1_write_j17 s1_j17 = some r → Wd D (cellsC ad cy s0 s1_j17 s2 s3 s4 s5 s6 s7 s8 s9 s10) (Afr ad 67 s.heap.size) s.heap H locs → lv_has ls 6 [] → W p l e (rmL 0) s m ([.ref (ad 1), .int a1, .int a2, .int a3, .int a4, .int a5] : List Value).toArray below meth c H locs 0 0 Q (F0 m 17 ls []) := by
    intro s1_j17 H locs ls h hw hl
    unfold f1_write_j17 at h
    have h := Option.some.inj h
    subst h
    rw [← hQ]
    exact retV hx hb hr hlk hw dX1_write_17
  refine lv_aload_n hx hb dX1_write_0 rfl (lv_at hl 0 rfl) ?_
  refine gX1_27 hx hb hts hown hK hw dX1_write_1 ?_
  refine lv_if_lt (tgt := 17) hx hb dX1_write_4 (by decide) (fun c_4 => ?_) (fun c_4 => ?_)
  · have h := ite_t c_4 h
    exact hJ_17 s1 H locs ls h hw (lv_sub hl [] rfl)
  · have h := ite_f c_4 h
    refine lv_aload_n hx hb dX1_write_7 rfl (lv_at hl 0 rfl) ?_
    refine gX1_27 hx hb hts hown hK hw dX1_write_8 ?_
    refine lv_sipush (v := 662) hx hb dX1_write_11 (by decide) ?_
    refine lv_icmp_lt (tgt := 18) hx hb dX1_write_14 (by decide) (fun c_14 => ?_) (fun c_14 => ?_)
    · have h := ite_t c_14 h
      refine lv_aload_n hx hb dX1_write_18 rfl (lv_at hl 0 rfl) ?_
      refine gX1_11 hx hb hts hown hK hw dX1_write_19 ?_
      refine lv_aload_n hx hb dX1_write_22 rfl (lv_at hl 0 rfl) ?_
      refine gX1_27 hx hb hts hown hK hw dX1_write_23 ?_
      refine lv_iload_n hx hb dX1_write_26 rfl (lv_at hl 1 rfl) ?_
      obtain ⟨hi_27, h⟩ := chk_e h
      obtain ⟨s1_27, e_27, h⟩ := nam_e h
      refine aC20 hx hb hK hw hi_27 e_27 dX1_write_27 (fun H locs hw => ?_)
      refine lv_aload_n hx hb dX1_write_28 rfl (lv_at hl 0 rfl) ?_
      refine gX1_15 hx hb hts hown hK hw dX1_write_29 ?_
      refine lv_aload_n hx hb dX1_write_32 rfl (lv_at hl 0 rfl) ?_
      refine gX1_27 hx hb hts hown hK hw dX1_write_33 ?_
      refine lv_iload_n hx hb dX1_write_36 rfl (lv_at hl 2 rfl) ?_
      obtain ⟨hi_37, h⟩ := chk_e h
      obtain ⟨s1_37, e_37, h⟩ := nam_e h
      refine aC21 hx hb hK hw hi_37 e_37 dX1_write_37 (fun H locs hw => ?_)
      refine lv_aload_n hx hb dX1_write_38 rfl (lv_at hl 0 rfl) ?_
      refine gX1_18 hx hb hts hown hK hw dX1_write_39 ?_
      refine lv_aload_n hx hb dX1_write_42 rfl (lv_at hl 0 rfl) ?_
      refine gX1_27 hx hb hts hown hK hw dX1_write_43 ?_
      refine lv_iload_n hx hb dX1_write_46 rfl (lv_at hl 3 rfl) ?_
      obtain ⟨hi_47, h⟩ := chk_e h
      obtain ⟨s1_47, e_47, h⟩ := nam_e h
      refine aC22 hx hb hK hw hi_47 e_47 dX1_write_47 (fun H locs hw => ?_)
      refine lv_aload_n hx hb dX1_write_48 rfl (lv_at hl 0 rfl) ?_
      refine gX1_21 hx hb hts hown hK hw dX1_write_49 ?_
      refine lv_aload_n hx hb dX1_write_52 rfl (lv_at hl 0 rfl) ?_
      refine gX1_27 hx hb hts hown hK hw dX1_write_53 ?_
      refine lv_iload hx hb dX1_write_56 (lv_at hl 4 rfl) ?_
      obtain ⟨hi_58, h⟩ := chk_e h
      obtain ⟨s1_58, e_58, h⟩ := nam_e h
      refine aC23 hx hb hK hw hi_58 e_58 dX1_write_58 (fun H locs hw => ?_)
      refine lv_aload_n hx hb dX1_write_59 rfl (lv_at hl 0 rfl) ?_
      refine gX1_24 hx hb hts hown hK hw dX1_write_60 ?_
      refine lv_aload_n hx hb dX1_write_63 rfl (lv_at hl 0 rfl) ?_
      refine gX1_27 hx hb hts hown hK hw dX1_write_64 ?_
      refine lv_iload hx hb dX1_write_67 (lv_at hl 5 rfl) ?_
      obtain ⟨hi_69, h⟩ := chk_e h
      obtain ⟨s1_69, e_69, h⟩ := nam_e h
      refine aC24 hx hb hK hw hi_69 e_69 dX1_write_69 (fun H locs hw => ?_)
      refine lv_aload_n hx hb dX1_write_70 rfl (lv_at hl 0 rfl) ?_
      refine lv_dup hx hb dX1_write_71 rfl ?_
      refine gX1_27 hx hb hts hown hK hw dX1_write_72 ?_
      refine lv_iconst (v := 1) hx hb dX1_write_75 (by decide) ?_
      refine lv_iadd hx hb dX1_write_76 ?_
      obtain ⟨s1_77, e_77, h⟩ := nam_e h
      refine pX1_27 hx hb hts hown hK hw e_77 dX1_write_77 (fun H locs hw => ?_)
      have h := Option.some.inj h
      subst h
      rw [← hQ]
      exact retV hx hb hr hlk hw dX1_write_80
    · have h := ite_f c_14 h
      exact hJ_17 s1 H locs ls h hw (lv_sub hl [] rfl)
theorem dX1_latest_0 : decode cX1_latest 0 = .ok (.iconst (-1), 1) := by decide +kernel
theorem dX1_latest_1 : decode cX1_latest 1 = .ok (.istore_n 3, 1) := by decide +kernel
theorem dX1_latest_2 : decode cX1_latest 2 = .ok (.iconst 0, 1) := by decide +kernel
theorem dX1_latest_3 : decode cX1_latest 3 = .ok (.istore 4, 2) := by decide +kernel
theorem dX1_latest_5 : decode cX1_latest 5 = .ok (.iload 4, 2) := by decide +kernel
theorem dX1_latest_7 : decode cX1_latest 7 = .ok (.aload_n 0, 1) := by decide +kernel
theorem dX1_latest_8 : decode cX1_latest 8 = .ok (.getfield 27, 3) := by decide +kernel
theorem dX1_latest_11 : decode cX1_latest 11 = .ok (.if_icmp .ge 42, 3) := by decide +kernel
theorem dX1_latest_14 : decode cX1_latest 14 = .ok (.iload 4, 2) := by decide +kernel
theorem dX1_latest_16 : decode cX1_latest 16 = .ok (.sipush 662, 3) := by decide +kernel
theorem dX1_latest_19 : decode cX1_latest 19 = .ok (.if_icmp .ge 34, 3) := by decide +kernel
theorem dX1_latest_22 : decode cX1_latest 22 = .ok (.aload_n 0, 1) := by decide +kernel
theorem dX1_latest_23 : decode cX1_latest 23 = .ok (.getfield 11, 3) := by decide +kernel
theorem dX1_latest_26 : decode cX1_latest 26 = .ok (.iload 4, 2) := by decide +kernel
theorem dX1_latest_28 : decode cX1_latest 28 = .ok (.iaload, 1) := by decide +kernel
theorem dX1_latest_29 : decode cX1_latest 29 = .ok (.iload_n 1, 1) := by decide +kernel
theorem dX1_latest_30 : decode cX1_latest 30 = .ok (.if_icmp .ne 17, 3) := by decide +kernel
theorem dX1_latest_33 : decode cX1_latest 33 = .ok (.aload_n 0, 1) := by decide +kernel
theorem dX1_latest_34 : decode cX1_latest 34 = .ok (.getfield 15, 3) := by decide +kernel
theorem dX1_latest_37 : decode cX1_latest 37 = .ok (.iload 4, 2) := by decide +kernel
theorem dX1_latest_39 : decode cX1_latest 39 = .ok (.iaload, 1) := by decide +kernel
theorem dX1_latest_40 : decode cX1_latest 40 = .ok (.iload_n 2, 1) := by decide +kernel
theorem dX1_latest_41 : decode cX1_latest 41 = .ok (.if_icmp .gt 6, 3) := by decide +kernel
theorem dX1_latest_44 : decode cX1_latest 44 = .ok (.iload 4, 2) := by decide +kernel
theorem dX1_latest_46 : decode cX1_latest 46 = .ok (.istore_n 3, 1) := by decide +kernel
theorem dX1_latest_47 : decode cX1_latest 47 = .ok (.iinc 4 1, 3) := by decide +kernel
theorem dX1_latest_50 : decode cX1_latest 50 = .ok (.goto (-45), 3) := by decide +kernel
theorem dX1_latest_53 : decode cX1_latest 53 = .ok (.iload_n 3, 1) := by decide +kernel
theorem dX1_latest_54 : decode cX1_latest 54 = .ok (.ireturn, 1) := by decide +kernel
noncomputable def f1_latest_j53 (v3_j53 : Int32) (s1_j53 : OS) : Option (Int32) := some v3_j53
noncomputable def f1_latest_j47 (v1_j47 : Int32) (v2_j47 : Int32) (v3_j47 : Int32) (v4_j47 : Int32) (s1_j47 : OS) : Option ((Int32 × Int32) ⊕ (Int32)) := nm (v4_j47 + (1 : Int32)) fun n_47 => some (Sum.inl (v3_j47, n_47))
noncomputable def f1_latest_l5 (v1_i5 : Int32) (v2_i5 : Int32) (s1_i5 : OS) : Int32 × Int32 → Option ((Int32 × Int32) ⊕ (Int32)) := fun t_5 => if (s1_i5.1 0 5) ≤ t_5.2 then (Option.map Sum.inr (f1_latest_j53 t_5.1 s1_i5)) else (if (662 : Int32) ≤ t_5.2 then (Option.map Sum.inr (f1_latest_j53 t_5.1 s1_i5)) else (chk (inb t_5.2 662) (nm (s1_i5.1 1 t_5.2.toNatClampNeg) fun y_28 => if y_28 = v1_i5 then (chk (inb t_5.2 662) (nm (s1_i5.1 2 t_5.2.toNatClampNeg) fun y_39 => if v2_i5 < y_39 then (f1_latest_j47 v1_i5 v2_i5 t_5.1 t_5.2 s1_i5) else (f1_latest_j47 v1_i5 v2_i5 t_5.2 t_5.2 s1_i5))) else (f1_latest_j47 v1_i5 v2_i5 t_5.1 t_5.2 s1_i5))))
noncomputable def f1_latest (a1 : Int32) (a2 : Int32) (s1 : OS) : Option (Int32) := loop (f1_latest_l5 a1 a2 s1) ((-1 : Int32), (0 : Int32))
set_option maxHeartbeats 4000000 in
set_option maxRecDepth 100000 in
theorem m1_latest (l : Launch) (D : va_G) (ad : Nat → Nat) (cy : Nat → ClassId) (sz : Nat) (s0 s1 s2 s3 s4 s5 s6 s7 s8 s9 s10 : OS) (a1 : Int32) (a2 : Int32) (r : Int32) (h : f1_latest a1 a2 s1 = some r) : Met l yX1_latest (wsOf yX1_latest cX1_latest 5 (some .int)) (rmL 0) (va_Pc ([.ref (ad 1), .int a1, .int a2] : List Value) (PreG D cy (cellsC ad cy s0 s1 s2 s3 s4 s5 s6 s7 s8 s9 s10) sz (NC ad))) (QcI D ad 67 (cellsC ad cy s0 s1 s2 s3 s4 s5 s6 s7 s8 s9 s10) (r) sz) 0 0 (Afr ad 67 sz) := by
  refine metG (own := RX1) (by decide) rfl (Nat.le_of_ble_eq_true rfl) fstC ?_ sz
  intro p e s m below meth c ls C0 hw hl
  obtain ⟨hx, hb, hml, hown, hts, hr, hlk, hK, hN⟩ := C0
  have hl : lv_has ls 5 [(0, .ref (ad 1)), (1, .int a1), (2, .int a2)] := hl
  generalize hQ : MQ below (QcI D ad 67 (cellsC ad cy s0 s1 s2 s3 s4 s5 s6 s7 s8 s9 s10) (r) s.heap.size) ([.ref (ad 1), .int a1, .int a2] : List Value).toArray s 0 0 (Afr ad 67 s.heap.size) = Q
  obtain ⟨H, hH⟩ : ∃ H : Heap, H = s.heap := ⟨_, rfl⟩
  obtain ⟨locs, hlc⟩ : ∃ L : List Loc, L = [] := ⟨_, rfl⟩
  have hw : Wd D (cellsC ad cy s0 s1 s2 s3 s4 s5 s6 s7 s8 s9 s10) (Afr ad 67 s.heap.size) s.heap H locs := by rw [hH, hlc]; exact hw
  suffices h0 : W p l e (rmL 0) s m ([.ref (ad 1), .int a1, .int a2] : List Value).toArray below meth c H locs 0 0 Q (F0 m 0 ls []) by rw [hH, hlc] at h0; exact h0
  clear hH hlc
  unfold f1_latest at h
  have hJ_53 : ∀ (v3_j53 : Int32) (H : Heap) (locs : List Loc) (ls : Array Slot), f1_latest_j53 v3_j53 s1 = some r → Wd D (cellsC ad cy s0 s1 s2 s3 s4 s5 s6 s7 s8 s9 s10) (Afr ad 67 s.heap.size) s.heap H locs → lv_has ls 5 [(3, .int v3_j53)] → W p l e (rmL 0) s m ([.ref (ad 1), .int a1, .int a2] : List Value).toArray below meth c H locs 0 0 Q (F0 m 53 ls []) := by
    intro v3_j53 H locs ls h hw hl
    unfold f1_latest_j53 at h
    refine lv_iload_n hx hb dX1_latest_53 rfl (lv_at hl 0 rfl) ?_
    have h := Option.some.inj h
    subst h
    rw [← hQ]
    exact retI hx hb hr hlk hw rfl dX1_latest_54
  refine lv_iconst (v := (-1)) hx hb dX1_latest_0 (by decide) ?_
  refine lv_istore_n (lv' := [(3, .int ((-1 : Int32))), (0, .ref (ad 1)), (1, .int a1), (2, .int a2)]) hx hb dX1_latest_1 rfl hl (by decide) rfl (fun ls hl => ?_)
  refine lv_iconst (v := 0) hx hb dX1_latest_2 (by decide) ?_
  refine lv_istore (lv' := [(4, .int ((0 : Int32))), (3, .int ((-1 : Int32))), (0, .ref (ad 1)), (1, .int a1), (2, .int a2)]) hx hb dX1_latest_3 hl (by decide) rfl (fun ls hl => ?_)
  obtain ⟨n_5, hn_5⟩ := loop_e h
  have hL_5 : ∀ (n : Nat) (t_5 : Int32 × Int32) (H : Heap) (locs : List Loc) (ls : Array Slot), loopN (f1_latest_l5 a1 a2 s1) n t_5 = some r → Wd D (cellsC ad cy s0 s1 s2 s3 s4 s5 s6 s7 s8 s9 s10) (Afr ad 67 s.heap.size) s.heap H locs → lv_has ls 5 [(3, .int t_5.1), (4, .int t_5.2), (1, .int a1), (2, .int a2), (0, .ref (ad 1))] → W p l e (rmL 0) s m ([.ref (ad 1), .int a1, .int a2] : List Value).toArray below meth c H locs 0 0 Q (F0 m 5 ls []) := by
    intro n
    induction n with
    | zero => intro t_5 H locs ls hn; cases hn
    | succ n ih_5 =>
      intro t_5 H locs ls hn hw hl
      obtain ⟨x_5, h, hx_5⟩ := loopN_e hn
      unfold f1_latest_l5 at h
      have hJ_47 : ∀ (v3_j47 : Int32) (v4_j47 : Int32) (H : Heap) (locs : List Loc) (ls : Array Slot), f1_latest_j47 a1 a2 v3_j47 v4_j47 s1 = some x_5 → Wd D (cellsC ad cy s0 s1 s2 s3 s4 s5 s6 s7 s8 s9 s10) (Afr ad 67 s.heap.size) s.heap H locs → lv_has ls 5 [(0, .ref (ad 1)), (1, .int a1), (2, .int a2), (3, .int v3_j47), (4, .int v4_j47)] → W p l e (rmL 0) s m ([.ref (ad 1), .int a1, .int a2] : List Value).toArray below meth c H locs 0 0 Q (F0 m 47 ls []) := by
        intro v3_j47 v4_j47 H locs ls h hw hl
        unfold f1_latest_j47 at h
        obtain ⟨n_47, e_47, h⟩ := nam_e h
        refine lv_iinc (v := n_47) (lv' := [(4, .int n_47), (0, .ref (ad 1)), (1, .int a1), (2, .int a2), (3, .int v3_j47)]) hx hb dX1_latest_47 hl (k := 4) rfl (by rw [e_47]; rfl) (by decide) rfl (fun ls hl => ?_)
        refine lv_goto (tgt := 5) hx hb dX1_latest_50 (by decide) ?_
        exact ih_5 (v3_j47, n_47) H locs ls (nx_l hx_5 h) hw (lv_sub hl [4, 0, 2, 3, 1] rfl)
      refine lv_iload hx hb dX1_latest_5 (lv_at hl 1 rfl) ?_
      refine lv_aload_n hx hb dX1_latest_7 rfl (lv_at hl 4 rfl) ?_
      refine gX1_27 hx hb hts hown hK hw dX1_latest_8 ?_
      refine lv_icmp_ge (tgt := 53) hx hb dX1_latest_11 (by decide) (fun c_11 => ?_) (fun c_11 => ?_)
      · have h := ite_t c_11 h
        have h := nx_m hx_5 h
        exact hJ_53 t_5.1 H locs ls h hw (lv_sub hl [0] rfl)
      · have h := ite_f c_11 h
        refine lv_iload hx hb dX1_latest_14 (lv_at hl 1 rfl) ?_
        refine lv_sipush (v := 662) hx hb dX1_latest_16 (by decide) ?_
        refine lv_icmp_ge (tgt := 53) hx hb dX1_latest_19 (by decide) (fun c_19 => ?_) (fun c_19 => ?_)
        · have h := ite_t c_19 h
          have h := nx_m hx_5 h
          exact hJ_53 t_5.1 H locs ls h hw (lv_sub hl [0] rfl)
        · have h := ite_f c_19 h
          refine lv_aload_n hx hb dX1_latest_22 rfl (lv_at hl 4 rfl) ?_
          refine gX1_11 hx hb hts hown hK hw dX1_latest_23 ?_
          refine lv_iload hx hb dX1_latest_26 (lv_at hl 1 rfl) ?_
          obtain ⟨hi_28, h⟩ := chk_e h
          obtain ⟨y_28, e_28, h⟩ := nam_e h
          refine lC20 hx hb hK hw hi_28 e_28 dX1_latest_28 ?_
          refine lv_iload_n hx hb dX1_latest_29 rfl (lv_at hl 2 rfl) ?_
          refine lv_icmp_ne (tgt := 47) hx hb dX1_latest_30 (by decide) (fun c_30 => ?_) (fun c_30 => ?_)
          · have h := ite_f c_30 h
            exact hJ_47 t_5.1 t_5.2 H locs ls h hw (lv_sub hl [4, 2, 3, 0, 1] rfl)
          · have h := ite_t c_30 h
            refine lv_aload_n hx hb dX1_latest_33 rfl (lv_at hl 4 rfl) ?_
            refine gX1_15 hx hb hts hown hK hw dX1_latest_34 ?_
            refine lv_iload hx hb dX1_latest_37 (lv_at hl 1 rfl) ?_
            obtain ⟨hi_39, h⟩ := chk_e h
            obtain ⟨y_39, e_39, h⟩ := nam_e h
            refine lC21 hx hb hK hw hi_39 e_39 dX1_latest_39 ?_
            refine lv_iload_n hx hb dX1_latest_40 rfl (lv_at hl 3 rfl) ?_
            refine lv_icmp_gt (tgt := 47) hx hb dX1_latest_41 (by decide) (fun c_41 => ?_) (fun c_41 => ?_)
            · have h := ite_t c_41 h
              exact hJ_47 t_5.1 t_5.2 H locs ls h hw (lv_sub hl [4, 2, 3, 0, 1] rfl)
            · have h := ite_f c_41 h
              refine lv_iload hx hb dX1_latest_44 (lv_at hl 1 rfl) ?_
              refine lv_istore_n (lv' := [(3, .int t_5.2), (4, .int t_5.2), (1, .int a1), (2, .int a2), (0, .ref (ad 1))]) hx hb dX1_latest_46 rfl hl (by decide) rfl (fun ls hl => ?_)
              exact hJ_47 t_5.2 t_5.2 H locs ls h hw (lv_sub hl [4, 2, 3, 0, 1] rfl)
  exact hL_5 n_5 ((-1 : Int32), (0 : Int32)) H locs ls hn_5 hw (lv_sub hl [1, 0, 3, 4, 2] rfl)
theorem dX1_tell_0 : decode cX1_tell 0 = .ok (.aload_n 0, 1) := by decide +kernel
theorem dX1_tell_1 : decode cX1_tell 1 = .ok (.iload_n 1, 1) := by decide +kernel
theorem dX1_tell_2 : decode cX1_tell 2 = .ok (.iload_n 2, 1) := by decide +kernel
theorem dX1_tell_3 : decode cX1_tell 3 = .ok (.invokevirtual 31, 3) := by decide +kernel
theorem dX1_tell_6 : decode cX1_tell 6 = .ok (.istore 4, 2) := by decide +kernel
theorem dX1_tell_8 : decode cX1_tell 8 = .ok (.iload 4, 2) := by decide +kernel
theorem dX1_tell_10 : decode cX1_tell 10 = .ok (.ifCond .lt 12, 3) := by decide +kernel
theorem dX1_tell_13 : decode cX1_tell 13 = .ok (.iload 4, 2) := by decide +kernel
theorem dX1_tell_15 : decode cX1_tell 15 = .ok (.aload_n 0, 1) := by decide +kernel
theorem dX1_tell_16 : decode cX1_tell 16 = .ok (.getfield 27, 3) := by decide +kernel
theorem dX1_tell_19 : decode cX1_tell 19 = .ok (.if_icmp .lt 5, 3) := by decide +kernel
theorem dX1_tell_22 : decode cX1_tell 22 = .ok (.iconst (-1), 1) := by decide +kernel
theorem dX1_tell_23 : decode cX1_tell 23 = .ok (.ireturn, 1) := by decide +kernel
theorem dX1_tell_24 : decode cX1_tell 24 = .ok (.iload_n 3, 1) := by decide +kernel
theorem dX1_tell_25 : decode cX1_tell 25 = .ok (.tableswitch 51 2 4 #[27, 35, 43], 27) := by decide +kernel
theorem dX1_tell_52 : decode cX1_tell 52 = .ok (.aload_n 0, 1) := by decide +kernel
theorem dX1_tell_53 : decode cX1_tell 53 = .ok (.getfield 18, 3) := by decide +kernel
theorem dX1_tell_56 : decode cX1_tell 56 = .ok (.iload 4, 2) := by decide +kernel
theorem dX1_tell_58 : decode cX1_tell 58 = .ok (.iaload, 1) := by decide +kernel
theorem dX1_tell_59 : decode cX1_tell 59 = .ok (.ireturn, 1) := by decide +kernel
theorem dX1_tell_60 : decode cX1_tell 60 = .ok (.aload_n 0, 1) := by decide +kernel
theorem dX1_tell_61 : decode cX1_tell 61 = .ok (.getfield 21, 3) := by decide +kernel
theorem dX1_tell_64 : decode cX1_tell 64 = .ok (.iload 4, 2) := by decide +kernel
theorem dX1_tell_66 : decode cX1_tell 66 = .ok (.iaload, 1) := by decide +kernel
theorem dX1_tell_67 : decode cX1_tell 67 = .ok (.ireturn, 1) := by decide +kernel
theorem dX1_tell_68 : decode cX1_tell 68 = .ok (.aload_n 0, 1) := by decide +kernel
theorem dX1_tell_69 : decode cX1_tell 69 = .ok (.getfield 24, 3) := by decide +kernel
theorem dX1_tell_72 : decode cX1_tell 72 = .ok (.iload 4, 2) := by decide +kernel
theorem dX1_tell_74 : decode cX1_tell 74 = .ok (.iaload, 1) := by decide +kernel
theorem dX1_tell_75 : decode cX1_tell 75 = .ok (.ireturn, 1) := by decide +kernel
theorem dX1_tell_76 : decode cX1_tell 76 = .ok (.iconst (-1), 1) := by decide +kernel
theorem dX1_tell_77 : decode cX1_tell 77 = .ok (.ireturn, 1) := by decide +kernel
noncomputable def f1_tell_j22 (s1_j22 : OS) : Option (Int32) := some ((-1 : Int32))
noncomputable def f1_tell (a1 : Int32) (a2 : Int32) (a3 : Int32) (s1 : OS) : Option (Int32) := Option.bind (f1_latest a1 a2 s1) fun q_3 => if q_3 < 0 then (f1_tell_j22 s1) else (if q_3 < (s1.1 0 5) then (if a3 = 2 then (chk (inb q_3 662) (nm (s1.1 3 q_3.toNatClampNeg) fun y_58 => some y_58)) else if a3 = 3 then (chk (inb q_3 662) (nm (s1.1 4 q_3.toNatClampNeg) fun y_66 => some y_66)) else if a3 = 4 then (chk (inb q_3 662) (nm (s1.1 5 q_3.toNatClampNeg) fun y_74 => some y_74)) else (some ((-1 : Int32)))) else (f1_tell_j22 s1))
set_option maxHeartbeats 4000000 in
set_option maxRecDepth 100000 in
theorem m1_tell (l : Launch) (D : va_G) (ad : Nat → Nat) (cy : Nat → ClassId) (sz : Nat) (s0 s1 s2 s3 s4 s5 s6 s7 s8 s9 s10 : OS) (a1 : Int32) (a2 : Int32) (a3 : Int32) (r : Int32) (h : f1_tell a1 a2 a3 s1 = some r) : Met l yX1_tell (wsOf yX1_tell cX1_tell 5 (some .int)) (rmL 1) (va_Pc ([.ref (ad 1), .int a1, .int a2, .int a3] : List Value) (PreG D cy (cellsC ad cy s0 s1 s2 s3 s4 s5 s6 s7 s8 s9 s10) sz (NC ad))) (QcI D ad 67 (cellsC ad cy s0 s1 s2 s3 s4 s5 s6 s7 s8 s9 s10) (r) sz) 0 0 (Afr ad 67 sz) := by
  refine metG (own := RX1) (by decide) rfl (Nat.le_of_ble_eq_true rfl) fstC ?_ sz
  intro p e s m below meth c ls C0 hw hl
  obtain ⟨hx, hb, hml, hown, hts, hr, hlk, hK, hN⟩ := C0
  have hl : lv_has ls 5 [(0, .ref (ad 1)), (1, .int a1), (2, .int a2), (3, .int a3)] := hl
  generalize hQ : MQ below (QcI D ad 67 (cellsC ad cy s0 s1 s2 s3 s4 s5 s6 s7 s8 s9 s10) (r) s.heap.size) ([.ref (ad 1), .int a1, .int a2, .int a3] : List Value).toArray s 0 0 (Afr ad 67 s.heap.size) = Q
  obtain ⟨H, hH⟩ : ∃ H : Heap, H = s.heap := ⟨_, rfl⟩
  obtain ⟨locs, hlc⟩ : ∃ L : List Loc, L = [] := ⟨_, rfl⟩
  have hw : Wd D (cellsC ad cy s0 s1 s2 s3 s4 s5 s6 s7 s8 s9 s10) (Afr ad 67 s.heap.size) s.heap H locs := by rw [hH, hlc]; exact hw
  suffices h0 : W p l e (rmL 1) s m ([.ref (ad 1), .int a1, .int a2, .int a3] : List Value).toArray below meth c H locs 0 0 Q (F0 m 0 ls []) by rw [hH, hlc] at h0; exact h0
  clear hH hlc
  unfold f1_tell at h
  have hJ_22 : ∀  (H : Heap) (locs : List Loc) (ls : Array Slot), f1_tell_j22 s1 = some r → Wd D (cellsC ad cy s0 s1 s2 s3 s4 s5 s6 s7 s8 s9 s10) (Afr ad 67 s.heap.size) s.heap H locs → lv_has ls 5 [] → W p l e (rmL 1) s m ([.ref (ad 1), .int a1, .int a2, .int a3] : List Value).toArray below meth c H locs 0 0 Q (F0 m 22 ls []) := by
    intro  H locs ls h hw hl
    unfold f1_tell_j22 at h
    refine lv_iconst (v := (-1)) hx hb dX1_tell_22 (by decide) ?_
    have h := Option.some.inj h
    subst h
    rw [← hQ]
    exact retI hx hb hr hlk hw rfl dX1_tell_23
  refine lv_aload_n hx hb dX1_tell_0 rfl (lv_at hl 0 rfl) ?_
  refine lv_iload_n hx hb dX1_tell_1 rfl (lv_at hl 1 rfl) ?_
  refine lv_iload_n hx hb dX1_tell_2 rfl (lv_at hl 2 rfl) ?_
  obtain ⟨q_3, h_3, h⟩ := bnd_e h
  have pg_3 := preG (av := [.ref (ad 1), .int a1, .int a2]) hK hw.1 hw.2.1 (NC_keep hN hw.2.2) NC_blind
  refine endI (mc := 0) (ms := 0) (va_runV (As := [.int a1, .int a2]) (rest := []) ⟨hx, hb, hml, hown, hts⟩ (m1_latest l D ad cy H.size s0 s1 s2 s3 s4 s5 s6 s7 s8 s9 s10 a1 a2 q_3 h_3) (wX1_31 0 hts ⟨Nat.le_of_ble_eq_true rfl, Nat.le_of_ble_eq_true rfl⟩) ⟨pg_3.1, va_recv hK hw.1 (ci := 1) (q0 := 1) rfl eC_1, pg_3.2⟩ rfl rfl hl.1 rfl (lv_room (Nat.le_of_ble_eq_true rfl)) dX1_tell_3 ⟨Nat.le_refl _, Nat.le_refl _⟩) hw.2.2 (afr_in hw.2.2) (fun H locs hw => ?_)
  refine lv_istore (lv' := [(4, .int q_3), (0, .ref (ad 1)), (1, .int a1), (2, .int a2), (3, .int a3)]) hx hb dX1_tell_6 hl (by decide) rfl (fun ls hl => ?_)
  refine lv_iload hx hb dX1_tell_8 (lv_at hl 0 rfl) ?_
  refine lv_if_lt (tgt := 22) hx hb dX1_tell_10 (by decide) (fun c_10 => ?_) (fun c_10 => ?_)
  · have h := ite_t c_10 h
    exact hJ_22  H locs ls h hw (lv_sub hl [] rfl)
  · have h := ite_f c_10 h
    refine lv_iload hx hb dX1_tell_13 (lv_at hl 0 rfl) ?_
    refine lv_aload_n hx hb dX1_tell_15 rfl (lv_at hl 1 rfl) ?_
    refine gX1_27 hx hb hts hown hK hw dX1_tell_16 ?_
    refine lv_icmp_lt (tgt := 24) hx hb dX1_tell_19 (by decide) (fun c_19 => ?_) (fun c_19 => ?_)
    · have h := ite_t c_19 h
      refine lv_iload_n hx hb dX1_tell_24 rfl (lv_at hl 4 rfl) ?_
      have q_25 : ∀ tgt : Nat, W p l e (rmL 1) s m ([.ref (ad 1), .int a1, .int a2, .int a3] : List Value).toArray below meth c H locs 0 0 Q (F0 m tgt ls []) → W p l e (rmL 1) s m ([.ref (ad 1), .int a1, .int a2, .int a3] : List Value).toArray below meth c H locs 0 0 Q (F0 m tgt ls []) := fun _ z => z
      by_cases c_25_2 : a3 = 2
      · have h := ite_t c_25_2 h
        refine lv_tableIn (off := 27) (tgt := 52) hx hb dX1_tell_25 (by rw [c_25_2]; decide) (by rw [c_25_2]; decide) (by rw [c_25_2]; rfl) (by decide) ?_
        refine lv_aload_n hx hb dX1_tell_52 rfl (lv_at hl 1 rfl) ?_
        refine gX1_18 hx hb hts hown hK hw dX1_tell_53 ?_
        refine lv_iload hx hb dX1_tell_56 (lv_at hl 0 rfl) ?_
        obtain ⟨hi_58, h⟩ := chk_e h
        obtain ⟨y_58, e_58, h⟩ := nam_e h
        refine lC22 hx hb hK hw hi_58 e_58 dX1_tell_58 ?_
        have h := Option.some.inj h
        subst h
        rw [← hQ]
        exact retI hx hb hr hlk hw rfl dX1_tell_59
      have h := ite_f c_25_2 h
      by_cases c_25_3 : a3 = 3
      · have h := ite_t c_25_3 h
        refine lv_tableIn (off := 35) (tgt := 60) hx hb dX1_tell_25 (by rw [c_25_3]; decide) (by rw [c_25_3]; decide) (by rw [c_25_3]; rfl) (by decide) ?_
        refine lv_aload_n hx hb dX1_tell_60 rfl (lv_at hl 1 rfl) ?_
        refine gX1_21 hx hb hts hown hK hw dX1_tell_61 ?_
        refine lv_iload hx hb dX1_tell_64 (lv_at hl 0 rfl) ?_
        obtain ⟨hi_66, h⟩ := chk_e h
        obtain ⟨y_66, e_66, h⟩ := nam_e h
        refine lC23 hx hb hK hw hi_66 e_66 dX1_tell_66 ?_
        have h := Option.some.inj h
        subst h
        rw [← hQ]
        exact retI hx hb hr hlk hw rfl dX1_tell_67
      have h := ite_f c_25_3 h
      by_cases c_25_4 : a3 = 4
      · have h := ite_t c_25_4 h
        refine lv_tableIn (off := 43) (tgt := 68) hx hb dX1_tell_25 (by rw [c_25_4]; decide) (by rw [c_25_4]; decide) (by rw [c_25_4]; rfl) (by decide) ?_
        refine lv_aload_n hx hb dX1_tell_68 rfl (lv_at hl 1 rfl) ?_
        refine gX1_24 hx hb hts hown hK hw dX1_tell_69 ?_
        refine lv_iload hx hb dX1_tell_72 (lv_at hl 0 rfl) ?_
        obtain ⟨hi_74, h⟩ := chk_e h
        obtain ⟨y_74, e_74, h⟩ := nam_e h
        refine lC24 hx hb hK hw hi_74 e_74 dX1_tell_74 ?_
        have h := Option.some.inj h
        subst h
        rw [← hQ]
        exact retI hx hb hr hlk hw rfl dX1_tell_75
      have h := ite_f c_25_4 h
      refine lv_tableOut (tgt := 76) hx hb dX1_tell_25 (by have := lv_neT c_25_2 (a := 2) rfl; have := lv_neT c_25_3 (a := 3) rfl; have := lv_neT c_25_4 (a := 4) rfl; omega) (by decide) ?_
      refine lv_iconst (v := (-1)) hx hb dX1_tell_76 (by decide) ?_
      have h := Option.some.inj h
      subst h
      rw [← hQ]
      exact retI hx hb hr hlk hw rfl dX1_tell_77
    · have h := ite_f c_19 h
      exact hJ_22  H locs ls h hw (lv_sub hl [] rfl)
