theorem dX6_setLetter_0 : decode cX6_setLetter 0 = .ok (.ldc 52, 2) := by decide +kernel
theorem dX6_setLetter_2 : decode cX6_setLetter 2 = .ok (.iload_n 1, 1) := by decide +kernel
theorem dX6_setLetter_3 : decode cX6_setLetter 3 = .ok (.invokevirtual 54, 3) := by decide +kernel
theorem dX6_setLetter_6 : decode cX6_setLetter 6 = .ok (.istore 4, 2) := by decide +kernel
theorem dX6_setLetter_8 : decode cX6_setLetter 8 = .ok (.iload 4, 2) := by decide +kernel
theorem dX6_setLetter_10 : decode cX6_setLetter 10 = .ok (.ifCond .lt 21, 3) := by decide +kernel
theorem dX6_setLetter_13 : decode cX6_setLetter 13 = .ok (.iload 4, 2) := by decide +kernel
theorem dX6_setLetter_15 : decode cX6_setLetter 15 = .ok (.aload_n 0, 1) := by decide +kernel
theorem dX6_setLetter_16 : decode cX6_setLetter 16 = .ok (.getfield 19, 3) := by decide +kernel
theorem dX6_setLetter_19 : decode cX6_setLetter 19 = .ok (.arraylength, 1) := by decide +kernel
theorem dX6_setLetter_20 : decode cX6_setLetter 20 = .ok (.if_icmp .ge 11, 3) := by decide +kernel
theorem dX6_setLetter_23 : decode cX6_setLetter 23 = .ok (.aload_n 0, 1) := by decide +kernel
theorem dX6_setLetter_24 : decode cX6_setLetter 24 = .ok (.getfield 19, 3) := by decide +kernel
theorem dX6_setLetter_27 : decode cX6_setLetter 27 = .ok (.iload 4, 2) := by decide +kernel
theorem dX6_setLetter_29 : decode cX6_setLetter 29 = .ok (.lload_n 2, 1) := by decide +kernel
theorem dX6_setLetter_30 : decode cX6_setLetter 30 = .ok (.lastore, 1) := by decide +kernel
theorem dX6_setLetter_31 : decode cX6_setLetter 31 = .ok (.return_, 1) := by decide +kernel
def f6_setLetter_j31 (s6_j31 : OS) : Option (OS) := some s6_j31
def f6_setLetter (a1 : Int32) (a2 : Int64) (s6 : OS) : Option (OS) := nm ((ixOf a1)) fun n_6 => if n_6 < 0 then (f6_setLetter_j31 s6) else (if (9 : Int32) ≤ n_6 then (f6_setLetter_j31 s6) else (chk (inb n_6 9) (nm (wL s6 3 n_6.toNatClampNeg a2) fun s6_30 => f6_setLetter_j31 s6_30)))
set_option maxHeartbeats 4000000 in
set_option maxRecDepth 100000 in
theorem m6_setLetter (l : Launch) (D : va_G) (ad : Nat → Nat) (cy : Nat → ClassId) (sz : Nat) (s0 s1 s2 s3 s4 s5 s6 s7 s8 s9 s10 : OS) (a1 : Int32) (a2 : Int64) (r : OS) (h : f6_setLetter a1 a2 s6 = some r) : Met l yX6_setLetter (wsOf yX6_setLetter cX6_setLetter 5 none) (rmL 10) (va_Pc ([.ref (ad 6), .int a1, .long a2] : List Value) (PreG D cy (cellsC ad cy s0 s1 s2 s3 s4 s5 s6 s7 s8 s9 s10) sz (NC ad))) (QcV D ad 67 (cellsC ad cy s0 s1 s2 s3 s4 s5 r s7 s8 s9 s10) sz) 0 0 (Afr ad 67 sz) := by
  refine metG (own := RX6) (by decide) rfl (Nat.le_of_ble_eq_true rfl) fstC ?_ sz
  intro p e s m below meth c ls C0 hw hl
  obtain ⟨hx, hb, hml, hown, hts, hr, hlk, hK, hN⟩ := C0
  have hl : lv_has ls 5 [(0, .ref (ad 6)), (1, .int a1), (2, .long a2)] := hl
  generalize hQ : MQ below (QcV D ad 67 (cellsC ad cy s0 s1 s2 s3 s4 s5 r s7 s8 s9 s10) s.heap.size) ([.ref (ad 6), .int a1, .long a2] : List Value).toArray s 0 0 (Afr ad 67 s.heap.size) = Q
  obtain ⟨H, hH⟩ : ∃ H : Heap, H = s.heap := ⟨_, rfl⟩
  obtain ⟨locs, hlc⟩ : ∃ L : List Loc, L = [] := ⟨_, rfl⟩
  have hw : Wd D (cellsC ad cy s0 s1 s2 s3 s4 s5 s6 s7 s8 s9 s10) (Afr ad 67 s.heap.size) s.heap H locs := by rw [hH, hlc]; exact hw
  suffices h0 : W p l e (rmL 10) s m ([.ref (ad 6), .int a1, .long a2] : List Value).toArray below meth c H locs 0 0 Q (F0 m 0 ls []) by rw [hH, hlc] at h0; exact h0
  clear hH hlc
  unfold f6_setLetter at h
  have hJ_31 : ∀ (s6_j31 : OS) (H : Heap) (locs : List Loc) (ls : Array Slot), f6_setLetter_j31 s6_j31 = some r → Wd D (cellsC ad cy s0 s1 s2 s3 s4 s5 s6_j31 s7 s8 s9 s10) (Afr ad 67 s.heap.size) s.heap H locs → lv_has ls 5 [] → W p l e (rmL 10) s m ([.ref (ad 6), .int a1, .long a2] : List Value).toArray below meth c H locs 0 0 Q (F0 m 31 ls []) := by
    intro s6_j31 H locs ls h hw hl
    unfold f6_setLetter_j31 at h
    have h := Option.some.inj h
    subst h
    rw [← hQ]
    exact retV hx hb hr hlk hw dX6_setLetter_31
  obtain ⟨kS, vS, hkR, hkS⟩ := hN.2.2.2.1
  refine va_ldcS hx hb hown hkR dX6_setLetter_0 ?_
  refine lv_iload_n hx hb dX6_setLetter_2 rfl (lv_at hl 1 rfl) ?_
  refine ixCall hx hb hml hts hown hK hN hkS hw hl.1 (Nat.le_of_ble_eq_true rfl) ⟨by show 10 ≤ 10; omega, by show 400 ≤ 40 * 10; omega⟩ dX6_setLetter_3 (fun H locs hw => ?_)
  obtain ⟨n_6, e_6, h⟩ := nam_e h
  refine topI e_6 ?_
  refine lv_istore (lv' := [(4, .int n_6), (0, .ref (ad 6)), (1, .int a1), (2, .long a2)]) hx hb dX6_setLetter_6 hl (by decide) rfl (fun ls hl => ?_)
  refine lv_iload hx hb dX6_setLetter_8 (lv_at hl 0 rfl) ?_
  refine lv_if_lt (tgt := 31) hx hb dX6_setLetter_10 (by decide) (fun c_10 => ?_) (fun c_10 => ?_)
  · have h := ite_t c_10 h
    exact hJ_31 s6 H locs ls h hw (lv_sub hl [] rfl)
  · have h := ite_f c_10 h
    refine lv_iload hx hb dX6_setLetter_13 (lv_at hl 0 rfl) ?_
    refine lv_aload_n hx hb dX6_setLetter_15 rfl (lv_at hl 1 rfl) ?_
    refine gX6_19 hx hb hts hown hK hw dX6_setLetter_16 ?_
    refine va_alen (v := 9) hx hb hK hw.1 54 1 eC_54 rfl rfl dX6_setLetter_19 ?_
    refine lv_icmp_ge (tgt := 31) hx hb dX6_setLetter_20 (by decide) (fun c_20 => ?_) (fun c_20 => ?_)
    · have h := ite_t c_20 h
      exact hJ_31 s6 H locs ls h hw (lv_sub hl [] rfl)
    · have h := ite_f c_20 h
      refine lv_aload_n hx hb dX6_setLetter_23 rfl (lv_at hl 1 rfl) ?_
      refine gX6_19 hx hb hts hown hK hw dX6_setLetter_24 ?_
      refine lv_iload hx hb dX6_setLetter_27 (lv_at hl 0 rfl) ?_
      refine lv_lload_n hx hb dX6_setLetter_29 rfl (lv_at hl 3 rfl) ?_
      obtain ⟨hi_30, h⟩ := chk_e h
      obtain ⟨s6_30, e_30, h⟩ := nam_e h
      refine aC54 hx hb hK hw hi_30 e_30 dX6_setLetter_30 (fun H locs hw => ?_)
      exact hJ_31 s6_30 H locs ls h hw (lv_sub hl [] rfl)
theorem dX6_first_0 : decode cX6_first 0 = .ok (.aload_n 0, 1) := by decide +kernel
theorem dX6_first_1 : decode cX6_first 1 = .ok (.getfield 42, 3) := by decide +kernel
theorem dX6_first_4 : decode cX6_first 4 = .ok (.ireturn, 1) := by decide +kernel
def f6_first (s6 : OS) : Option (Int32) := some ((s6.1 0 9))
set_option maxHeartbeats 4000000 in
set_option maxRecDepth 100000 in
theorem m6_first (l : Launch) (D : va_G) (ad : Nat → Nat) (cy : Nat → ClassId) (sz : Nat) (s0 s1 s2 s3 s4 s5 s6 s7 s8 s9 s10 : OS) (r : Int32) (h : f6_first s6 = some r) : Met l yX6_first (wsOf yX6_first cX6_first 1 (some .int)) (rmL 0) (va_Pc ([.ref (ad 6)] : List Value) (PreG D cy (cellsC ad cy s0 s1 s2 s3 s4 s5 s6 s7 s8 s9 s10) sz (NC ad))) (QcI D ad 67 (cellsC ad cy s0 s1 s2 s3 s4 s5 s6 s7 s8 s9 s10) (r) sz) 0 0 (Afr ad 67 sz) := by
  refine metG (own := RX6) (by decide) rfl (Nat.le_of_ble_eq_true rfl) fstC ?_ sz
  intro p e s m below meth c ls C0 hw hl
  obtain ⟨hx, hb, hml, hown, hts, hr, hlk, hK, hN⟩ := C0
  have hl : lv_has ls 1 [(0, .ref (ad 6))] := hl
  generalize hQ : MQ below (QcI D ad 67 (cellsC ad cy s0 s1 s2 s3 s4 s5 s6 s7 s8 s9 s10) (r) s.heap.size) ([.ref (ad 6)] : List Value).toArray s 0 0 (Afr ad 67 s.heap.size) = Q
  obtain ⟨H, hH⟩ : ∃ H : Heap, H = s.heap := ⟨_, rfl⟩
  obtain ⟨locs, hlc⟩ : ∃ L : List Loc, L = [] := ⟨_, rfl⟩
  have hw : Wd D (cellsC ad cy s0 s1 s2 s3 s4 s5 s6 s7 s8 s9 s10) (Afr ad 67 s.heap.size) s.heap H locs := by rw [hH, hlc]; exact hw
  suffices h0 : W p l e (rmL 0) s m ([.ref (ad 6)] : List Value).toArray below meth c H locs 0 0 Q (F0 m 0 ls []) by rw [hH, hlc] at h0; exact h0
  clear hH hlc
  unfold f6_first at h
  refine lv_aload_n hx hb dX6_first_0 rfl (lv_at hl 0 rfl) ?_
  refine gX6_42 hx hb hts hown hK hw dX6_first_1 ?_
  have h := Option.some.inj h
  subst h
  rw [← hQ]
  exact retI hx hb hr hlk hw rfl dX6_first_4
theorem dX6_second_0 : decode cX6_second 0 = .ok (.aload_n 0, 1) := by decide +kernel
theorem dX6_second_1 : decode cX6_second 1 = .ok (.getfield 45, 3) := by decide +kernel
theorem dX6_second_4 : decode cX6_second 4 = .ok (.ireturn, 1) := by decide +kernel
def f6_second (s6 : OS) : Option (Int32) := some ((s6.1 0 10))
set_option maxHeartbeats 4000000 in
set_option maxRecDepth 100000 in
theorem m6_second (l : Launch) (D : va_G) (ad : Nat → Nat) (cy : Nat → ClassId) (sz : Nat) (s0 s1 s2 s3 s4 s5 s6 s7 s8 s9 s10 : OS) (r : Int32) (h : f6_second s6 = some r) : Met l yX6_second (wsOf yX6_second cX6_second 1 (some .int)) (rmL 0) (va_Pc ([.ref (ad 6)] : List Value) (PreG D cy (cellsC ad cy s0 s1 s2 s3 s4 s5 s6 s7 s8 s9 s10) sz (NC ad))) (QcI D ad 67 (cellsC ad cy s0 s1 s2 s3 s4 s5 s6 s7 s8 s9 s10) (r) sz) 0 0 (Afr ad 67 sz) := by
  refine metG (own := RX6) (by decide) rfl (Nat.le_of_ble_eq_true rfl) fstC ?_ sz
  intro p e s m below meth c ls C0 hw hl
  obtain ⟨hx, hb, hml, hown, hts, hr, hlk, hK, hN⟩ := C0
  have hl : lv_has ls 1 [(0, .ref (ad 6))] := hl
  generalize hQ : MQ below (QcI D ad 67 (cellsC ad cy s0 s1 s2 s3 s4 s5 s6 s7 s8 s9 s10) (r) s.heap.size) ([.ref (ad 6)] : List Value).toArray s 0 0 (Afr ad 67 s.heap.size) = Q
  obtain ⟨H, hH⟩ : ∃ H : Heap, H = s.heap := ⟨_, rfl⟩
  obtain ⟨locs, hlc⟩ : ∃ L : List Loc, L = [] := ⟨_, rfl⟩
  have hw : Wd D (cellsC ad cy s0 s1 s2 s3 s4 s5 s6 s7 s8 s9 s10) (Afr ad 67 s.heap.size) s.heap H locs := by rw [hH, hlc]; exact hw
  suffices h0 : W p l e (rmL 0) s m ([.ref (ad 6)] : List Value).toArray below meth c H locs 0 0 Q (F0 m 0 ls []) by rw [hH, hlc] at h0; exact h0
  clear hH hlc
  unfold f6_second at h
  refine lv_aload_n hx hb dX6_second_0 rfl (lv_at hl 0 rfl) ?_
  refine gX6_45 hx hb hts hown hK hw dX6_second_1 ?_
  have h := Option.some.inj h
  subst h
  rw [← hQ]
  exact retI hx hb hr hlk hw rfl dX6_second_4
theorem dX6_goTo_0 : decode cX6_goTo 0 = .ok (.aload_n 0, 1) := by decide +kernel
theorem dX6_goTo_1 : decode cX6_goTo 1 = .ok (.iload_n 1, 1) := by decide +kernel
theorem dX6_goTo_2 : decode cX6_goTo 2 = .ok (.putfield 27, 3) := by decide +kernel
theorem dX6_goTo_5 : decode cX6_goTo 5 = .ok (.return_, 1) := by decide +kernel
def f6_goTo (a1 : Int32) (s6 : OS) : Option (OS) := nm (wI s6 0 4 a1) fun s6_2 => some s6_2
set_option maxHeartbeats 4000000 in
set_option maxRecDepth 100000 in
theorem m6_goTo (l : Launch) (D : va_G) (ad : Nat → Nat) (cy : Nat → ClassId) (sz : Nat) (s0 s1 s2 s3 s4 s5 s6 s7 s8 s9 s10 : OS) (a1 : Int32) (r : OS) (h : f6_goTo a1 s6 = some r) : Met l yX6_goTo (wsOf yX6_goTo cX6_goTo 2 none) (rmL 0) (va_Pc ([.ref (ad 6), .int a1] : List Value) (PreG D cy (cellsC ad cy s0 s1 s2 s3 s4 s5 s6 s7 s8 s9 s10) sz (NC ad))) (QcV D ad 67 (cellsC ad cy s0 s1 s2 s3 s4 s5 r s7 s8 s9 s10) sz) 0 0 (Afr ad 67 sz) := by
  refine metG (own := RX6) (by decide) rfl (Nat.le_of_ble_eq_true rfl) fstC ?_ sz
  intro p e s m below meth c ls C0 hw hl
  obtain ⟨hx, hb, hml, hown, hts, hr, hlk, hK, hN⟩ := C0
  have hl : lv_has ls 2 [(0, .ref (ad 6)), (1, .int a1)] := hl
  generalize hQ : MQ below (QcV D ad 67 (cellsC ad cy s0 s1 s2 s3 s4 s5 r s7 s8 s9 s10) s.heap.size) ([.ref (ad 6), .int a1] : List Value).toArray s 0 0 (Afr ad 67 s.heap.size) = Q
  obtain ⟨H, hH⟩ : ∃ H : Heap, H = s.heap := ⟨_, rfl⟩
  obtain ⟨locs, hlc⟩ : ∃ L : List Loc, L = [] := ⟨_, rfl⟩
  have hw : Wd D (cellsC ad cy s0 s1 s2 s3 s4 s5 s6 s7 s8 s9 s10) (Afr ad 67 s.heap.size) s.heap H locs := by rw [hH, hlc]; exact hw
  suffices h0 : W p l e (rmL 0) s m ([.ref (ad 6), .int a1] : List Value).toArray below meth c H locs 0 0 Q (F0 m 0 ls []) by rw [hH, hlc] at h0; exact h0
  clear hH hlc
  unfold f6_goTo at h
  refine lv_aload_n hx hb dX6_goTo_0 rfl (lv_at hl 0 rfl) ?_
  refine lv_iload_n hx hb dX6_goTo_1 rfl (lv_at hl 1 rfl) ?_
  obtain ⟨s6_2, e_2, h⟩ := nam_e h
  refine pX6_27 hx hb hts hown hK hw e_2 dX6_goTo_2 (fun H locs hw => ?_)
  have h := Option.some.inj h
  subst h
  rw [← hQ]
  exact retV hx hb hr hlk hw dX6_goTo_5
theorem dX6_letter_0 : decode cX6_letter 0 = .ok (.aload_n 0, 1) := by decide +kernel
theorem dX6_letter_1 : decode cX6_letter 1 = .ok (.getfield 39, 3) := by decide +kernel
theorem dX6_letter_4 : decode cX6_letter 4 = .ok (.ireturn, 1) := by decide +kernel
def f6_letter (s6 : OS) : Option (Int32) := some ((s6.1 0 8))
set_option maxHeartbeats 4000000 in
set_option maxRecDepth 100000 in
theorem m6_letter (l : Launch) (D : va_G) (ad : Nat → Nat) (cy : Nat → ClassId) (sz : Nat) (s0 s1 s2 s3 s4 s5 s6 s7 s8 s9 s10 : OS) (r : Int32) (h : f6_letter s6 = some r) : Met l yX6_letter (wsOf yX6_letter cX6_letter 1 (some .int)) (rmL 0) (va_Pc ([.ref (ad 6)] : List Value) (PreG D cy (cellsC ad cy s0 s1 s2 s3 s4 s5 s6 s7 s8 s9 s10) sz (NC ad))) (QcI D ad 67 (cellsC ad cy s0 s1 s2 s3 s4 s5 s6 s7 s8 s9 s10) (r) sz) 0 0 (Afr ad 67 sz) := by
  refine metG (own := RX6) (by decide) rfl (Nat.le_of_ble_eq_true rfl) fstC ?_ sz
  intro p e s m below meth c ls C0 hw hl
  obtain ⟨hx, hb, hml, hown, hts, hr, hlk, hK, hN⟩ := C0
  have hl : lv_has ls 1 [(0, .ref (ad 6))] := hl
  generalize hQ : MQ below (QcI D ad 67 (cellsC ad cy s0 s1 s2 s3 s4 s5 s6 s7 s8 s9 s10) (r) s.heap.size) ([.ref (ad 6)] : List Value).toArray s 0 0 (Afr ad 67 s.heap.size) = Q
  obtain ⟨H, hH⟩ : ∃ H : Heap, H = s.heap := ⟨_, rfl⟩
  obtain ⟨locs, hlc⟩ : ∃ L : List Loc, L = [] := ⟨_, rfl⟩
  have hw : Wd D (cellsC ad cy s0 s1 s2 s3 s4 s5 s6 s7 s8 s9 s10) (Afr ad 67 s.heap.size) s.heap H locs := by rw [hH, hlc]; exact hw
  suffices h0 : W p l e (rmL 0) s m ([.ref (ad 6)] : List Value).toArray below meth c H locs 0 0 Q (F0 m 0 ls []) by rw [hH, hlc] at h0; exact h0
  clear hH hlc
  unfold f6_letter at h
  refine lv_aload_n hx hb dX6_letter_0 rfl (lv_at hl 0 rfl) ?_
  refine gX6_39 hx hb hts hown hK hw dX6_letter_1 ?_
  have h := Option.some.inj h
  subst h
  rw [← hQ]
  exact retI hx hb hr hlk hw rfl dX6_letter_4
theorem dX6_fail_0 : decode cX6_fail 0 = .ok (.aload_n 0, 1) := by decide +kernel
theorem dX6_fail_1 : decode cX6_fail 1 = .ok (.getfield 33, 3) := by decide +kernel
theorem dX6_fail_4 : decode cX6_fail 4 = .ok (.ifCond .ne 13, 3) := by decide +kernel
theorem dX6_fail_7 : decode cX6_fail 7 = .ok (.aload_n 0, 1) := by decide +kernel
theorem dX6_fail_8 : decode cX6_fail 8 = .ok (.iload_n 1, 1) := by decide +kernel
theorem dX6_fail_9 : decode cX6_fail 9 = .ok (.putfield 33, 3) := by decide +kernel
theorem dX6_fail_12 : decode cX6_fail 12 = .ok (.aload_n 0, 1) := by decide +kernel
theorem dX6_fail_13 : decode cX6_fail 13 = .ok (.iload_n 2, 1) := by decide +kernel
theorem dX6_fail_14 : decode cX6_fail 14 = .ok (.putfield 36, 3) := by decide +kernel
theorem dX6_fail_17 : decode cX6_fail 17 = .ok (.return_, 1) := by decide +kernel
def f6_fail_j17 (s6_j17 : OS) : Option (OS) := some s6_j17
def f6_fail (a1 : Int32) (a2 : Int32) (s6 : OS) : Option (OS) := if (s6.1 0 6) = 0 then (nm (wI s6 0 6 a1) fun s6_9 => nm (wI s6_9 0 7 a2) fun s6_14 => f6_fail_j17 s6_14) else (f6_fail_j17 s6)
set_option maxHeartbeats 4000000 in
set_option maxRecDepth 100000 in
theorem m6_fail (l : Launch) (D : va_G) (ad : Nat → Nat) (cy : Nat → ClassId) (sz : Nat) (s0 s1 s2 s3 s4 s5 s6 s7 s8 s9 s10 : OS) (a1 : Int32) (a2 : Int32) (r : OS) (h : f6_fail a1 a2 s6 = some r) : Met l yX6_fail (wsOf yX6_fail cX6_fail 3 none) (rmL 0) (va_Pc ([.ref (ad 6), .int a1, .int a2] : List Value) (PreG D cy (cellsC ad cy s0 s1 s2 s3 s4 s5 s6 s7 s8 s9 s10) sz (NC ad))) (QcV D ad 67 (cellsC ad cy s0 s1 s2 s3 s4 s5 r s7 s8 s9 s10) sz) 0 0 (Afr ad 67 sz) := by
  refine metG (own := RX6) (by decide) rfl (Nat.le_of_ble_eq_true rfl) fstC ?_ sz
  intro p e s m below meth c ls C0 hw hl
  obtain ⟨hx, hb, hml, hown, hts, hr, hlk, hK, hN⟩ := C0
  have hl : lv_has ls 3 [(0, .ref (ad 6)), (1, .int a1), (2, .int a2)] := hl
  generalize hQ : MQ below (QcV D ad 67 (cellsC ad cy s0 s1 s2 s3 s4 s5 r s7 s8 s9 s10) s.heap.size) ([.ref (ad 6), .int a1, .int a2] : List Value).toArray s 0 0 (Afr ad 67 s.heap.size) = Q
  obtain ⟨H, hH⟩ : ∃ H : Heap, H = s.heap := ⟨_, rfl⟩
  obtain ⟨locs, hlc⟩ : ∃ L : List Loc, L = [] := ⟨_, rfl⟩
  have hw : Wd D (cellsC ad cy s0 s1 s2 s3 s4 s5 s6 s7 s8 s9 s10) (Afr ad 67 s.heap.size) s.heap H locs := by rw [hH, hlc]; exact hw
  suffices h0 : W p l e (rmL 0) s m ([.ref (ad 6), .int a1, .int a2] : List Value).toArray below meth c H locs 0 0 Q (F0 m 0 ls []) by rw [hH, hlc] at h0; exact h0
  clear hH hlc
  unfold f6_fail at h
  have hJ_17 : ∀ (s6_j17 : OS) (H : Heap) (locs : List Loc) (ls : Array Slot), f6_fail_j17 s6_j17 = some r → Wd D (cellsC ad cy s0 s1 s2 s3 s4 s5 s6_j17 s7 s8 s9 s10) (Afr ad 67 s.heap.size) s.heap H locs → lv_has ls 3 [] → W p l e (rmL 0) s m ([.ref (ad 6), .int a1, .int a2] : List Value).toArray below meth c H locs 0 0 Q (F0 m 17 ls []) := by
    intro s6_j17 H locs ls h hw hl
    unfold f6_fail_j17 at h
    have h := Option.some.inj h
    subst h
    rw [← hQ]
    exact retV hx hb hr hlk hw dX6_fail_17
  refine lv_aload_n hx hb dX6_fail_0 rfl (lv_at hl 0 rfl) ?_
  refine gX6_33 hx hb hts hown hK hw dX6_fail_1 ?_
  refine lv_if_ne (tgt := 17) hx hb dX6_fail_4 (by decide) (fun c_4 => ?_) (fun c_4 => ?_)
  · have h := ite_f c_4 h
    exact hJ_17 s6 H locs ls h hw (lv_sub hl [] rfl)
  · have h := ite_t c_4 h
    refine lv_aload_n hx hb dX6_fail_7 rfl (lv_at hl 0 rfl) ?_
    refine lv_iload_n hx hb dX6_fail_8 rfl (lv_at hl 1 rfl) ?_
    obtain ⟨s6_9, e_9, h⟩ := nam_e h
    refine pX6_33 hx hb hts hown hK hw e_9 dX6_fail_9 (fun H locs hw => ?_)
    refine lv_aload_n hx hb dX6_fail_12 rfl (lv_at hl 0 rfl) ?_
    refine lv_iload_n hx hb dX6_fail_13 rfl (lv_at hl 2 rfl) ?_
    obtain ⟨s6_14, e_14, h⟩ := nam_e h
    refine pX6_36 hx hb hts hown hK hw e_14 dX6_fail_14 (fun H locs hw => ?_)
    exact hJ_17 s6_14 H locs ls h hw (lv_sub hl [] rfl)
theorem dX6_isClauseLetter_0 : decode cX6_isClauseLetter 0 = .ok (.iload_n 0, 1) := by decide +kernel
theorem dX6_isClauseLetter_1 : decode cX6_isClauseLetter 1 = .ok (.bipush 98, 2) := by decide +kernel
theorem dX6_isClauseLetter_3 : decode cX6_isClauseLetter 3 = .ok (.if_icmp .eq 21, 3) := by decide +kernel
theorem dX6_isClauseLetter_6 : decode cX6_isClauseLetter 6 = .ok (.iload_n 0, 1) := by decide +kernel
theorem dX6_isClauseLetter_7 : decode cX6_isClauseLetter 7 = .ok (.bipush 100, 2) := by decide +kernel
theorem dX6_isClauseLetter_9 : decode cX6_isClauseLetter 9 = .ok (.if_icmp .eq 15, 3) := by decide +kernel
theorem dX6_isClauseLetter_12 : decode cX6_isClauseLetter 12 = .ok (.iload_n 0, 1) := by decide +kernel
theorem dX6_isClauseLetter_13 : decode cX6_isClauseLetter 13 = .ok (.bipush 116, 2) := by decide +kernel
theorem dX6_isClauseLetter_15 : decode cX6_isClauseLetter 15 = .ok (.if_icmp .eq 9, 3) := by decide +kernel
theorem dX6_isClauseLetter_18 : decode cX6_isClauseLetter 18 = .ok (.iload_n 0, 1) := by decide +kernel
theorem dX6_isClauseLetter_19 : decode cX6_isClauseLetter 19 = .ok (.bipush 120, 2) := by decide +kernel
theorem dX6_isClauseLetter_21 : decode cX6_isClauseLetter 21 = .ok (.if_icmp .ne 7, 3) := by decide +kernel
theorem dX6_isClauseLetter_24 : decode cX6_isClauseLetter 24 = .ok (.iconst 1, 1) := by decide +kernel
theorem dX6_isClauseLetter_25 : decode cX6_isClauseLetter 25 = .ok (.goto 4, 3) := by decide +kernel
theorem dX6_isClauseLetter_28 : decode cX6_isClauseLetter 28 = .ok (.iconst 0, 1) := by decide +kernel
theorem dX6_isClauseLetter_29 : decode cX6_isClauseLetter 29 = .ok (.ireturn, 1) := by decide +kernel
def f6_isClauseLetter_j29 (k0_j29 : Int32) : Option (Int32) := chk (isB k0_j29) (some k0_j29)
def f6_isClauseLetter_j24  : Option (Int32) := f6_isClauseLetter_j29 ((1 : Int32))
def f6_isClauseLetter (a0 : Int32) : Option (Int32) := if a0 = (98 : Int32) then f6_isClauseLetter_j24 else (if a0 = (100 : Int32) then f6_isClauseLetter_j24 else (if a0 = (116 : Int32) then f6_isClauseLetter_j24 else (if a0 = (120 : Int32) then f6_isClauseLetter_j24 else (f6_isClauseLetter_j29 ((0 : Int32))))))
set_option maxHeartbeats 4000000 in
set_option maxRecDepth 100000 in
theorem m6_isClauseLetter (l : Launch) (D : va_G) (ad : Nat → Nat) (cy : Nat → ClassId) (sz : Nat) (s0 s1 s2 s3 s4 s5 s6 s7 s8 s9 s10 : OS) (a0 : Int32) (r : Int32) (h : f6_isClauseLetter a0 = some r) : Met l yX6_isClauseLetter (wsOf yX6_isClauseLetter cX6_isClauseLetter 1 (some .boolean)) (rmL 0) (va_Pc ([.int a0] : List Value) (PreG D cy (cellsC ad cy s0 s1 s2 s3 s4 s5 s6 s7 s8 s9 s10) sz (NC ad))) (QcI D ad 67 (cellsC ad cy s0 s1 s2 s3 s4 s5 s6 s7 s8 s9 s10) (r) sz) 0 0 (Afr ad 67 sz) := by
  refine metG (own := RX6) (by decide) rfl (Nat.le_of_ble_eq_true rfl) fstC ?_ sz
  intro p e s m below meth c ls C0 hw hl
  obtain ⟨hx, hb, hml, hown, hts, hr, hlk, hK, hN⟩ := C0
  have hl : lv_has ls 1 [(0, .int a0)] := hl
  generalize hQ : MQ below (QcI D ad 67 (cellsC ad cy s0 s1 s2 s3 s4 s5 s6 s7 s8 s9 s10) (r) s.heap.size) ([.int a0] : List Value).toArray s 0 0 (Afr ad 67 s.heap.size) = Q
  obtain ⟨H, hH⟩ : ∃ H : Heap, H = s.heap := ⟨_, rfl⟩
  obtain ⟨locs, hlc⟩ : ∃ L : List Loc, L = [] := ⟨_, rfl⟩
  have hw : Wd D (cellsC ad cy s0 s1 s2 s3 s4 s5 s6 s7 s8 s9 s10) (Afr ad 67 s.heap.size) s.heap H locs := by rw [hH, hlc]; exact hw
  suffices h0 : W p l e (rmL 0) s m ([.int a0] : List Value).toArray below meth c H locs 0 0 Q (F0 m 0 ls []) by rw [hH, hlc] at h0; exact h0
  clear hH hlc
  unfold f6_isClauseLetter at h
  have hJ_29 : ∀ (k0_j29 : Int32) (H : Heap) (locs : List Loc) (ls : Array Slot), f6_isClauseLetter_j29 k0_j29 = some r → Wd D (cellsC ad cy s0 s1 s2 s3 s4 s5 s6 s7 s8 s9 s10) (Afr ad 67 s.heap.size) s.heap H locs → lv_has ls 1 [] → W p l e (rmL 0) s m ([.int a0] : List Value).toArray below meth c H locs 0 0 Q (F0 m 29 ls [.int k0_j29]) := by
    intro k0_j29 H locs ls h hw hl
    unfold f6_isClauseLetter_j29 at h
    obtain ⟨hz_29, h⟩ := chk_e h
    have h := Option.some.inj h
    subst h
    rw [← hQ]
    exact retI hx hb hr hlk hw (narB hz_29) dX6_isClauseLetter_29
  have hJ_24 : ∀  (H : Heap) (locs : List Loc) (ls : Array Slot), f6_isClauseLetter_j24 = some r → Wd D (cellsC ad cy s0 s1 s2 s3 s4 s5 s6 s7 s8 s9 s10) (Afr ad 67 s.heap.size) s.heap H locs → lv_has ls 1 [] → W p l e (rmL 0) s m ([.int a0] : List Value).toArray below meth c H locs 0 0 Q (F0 m 24 ls []) := by
    intro  H locs ls h hw hl
    unfold f6_isClauseLetter_j24 at h
    refine lv_iconst (v := 1) hx hb dX6_isClauseLetter_24 (by decide) ?_
    refine lv_goto (tgt := 29) hx hb dX6_isClauseLetter_25 (by decide) ?_
    exact hJ_29 ((1 : Int32)) H locs ls h hw (lv_sub hl [] rfl)
  refine lv_iload_n hx hb dX6_isClauseLetter_0 rfl (lv_at hl 0 rfl) ?_
  refine lv_bipush (v := 98) hx hb dX6_isClauseLetter_1 (by decide) ?_
  refine lv_icmp_eq (tgt := 24) hx hb dX6_isClauseLetter_3 (by decide) (fun c_3 => ?_) (fun c_3 => ?_)
  · have h := ite_t c_3 h
    exact hJ_24  H locs ls h hw (lv_sub hl [] rfl)
  · have h := ite_f c_3 h
    refine lv_iload_n hx hb dX6_isClauseLetter_6 rfl (lv_at hl 0 rfl) ?_
    refine lv_bipush (v := 100) hx hb dX6_isClauseLetter_7 (by decide) ?_
    refine lv_icmp_eq (tgt := 24) hx hb dX6_isClauseLetter_9 (by decide) (fun c_9 => ?_) (fun c_9 => ?_)
    · have h := ite_t c_9 h
      exact hJ_24  H locs ls h hw (lv_sub hl [] rfl)
    · have h := ite_f c_9 h
      refine lv_iload_n hx hb dX6_isClauseLetter_12 rfl (lv_at hl 0 rfl) ?_
      refine lv_bipush (v := 116) hx hb dX6_isClauseLetter_13 (by decide) ?_
      refine lv_icmp_eq (tgt := 24) hx hb dX6_isClauseLetter_15 (by decide) (fun c_15 => ?_) (fun c_15 => ?_)
      · have h := ite_t c_15 h
        exact hJ_24  H locs ls h hw (lv_sub hl [] rfl)
      · have h := ite_f c_15 h
        refine lv_iload_n hx hb dX6_isClauseLetter_18 rfl (lv_at hl 0 rfl) ?_
        refine lv_bipush (v := 120) hx hb dX6_isClauseLetter_19 (by decide) ?_
        refine lv_icmp_ne (tgt := 28) hx hb dX6_isClauseLetter_21 (by decide) (fun c_21 => ?_) (fun c_21 => ?_)
        · have h := ite_f c_21 h
          refine lv_iconst (v := 0) hx hb dX6_isClauseLetter_28 (by decide) ?_
          exact hJ_29 ((0 : Int32)) H locs ls h hw (lv_sub hl [] rfl)
        · have h := ite_t c_21 h
          exact hJ_24  H locs ls h hw (lv_sub hl [] rfl)
theorem dX6_sign_0 : decode cX6_sign 0 = .ok (.aload_n 0, 1) := by decide +kernel
theorem dX6_sign_1 : decode cX6_sign 1 = .ok (.getfield 33, 3) := by decide +kernel
theorem dX6_sign_4 : decode cX6_sign 4 = .ok (.ifCond .ne 43, 3) := by decide +kernel
theorem dX6_sign_7 : decode cX6_sign 7 = .ok (.aload_n 0, 1) := by decide +kernel
theorem dX6_sign_8 : decode cX6_sign 8 = .ok (.getfield 27, 3) := by decide +kernel
theorem dX6_sign_11 : decode cX6_sign 11 = .ok (.ifCond .lt 36, 3) := by decide +kernel
theorem dX6_sign_14 : decode cX6_sign 14 = .ok (.aload_n 0, 1) := by decide +kernel
theorem dX6_sign_15 : decode cX6_sign 15 = .ok (.getfield 27, 3) := by decide +kernel
theorem dX6_sign_18 : decode cX6_sign 18 = .ok (.aload_n 0, 1) := by decide +kernel
theorem dX6_sign_19 : decode cX6_sign 19 = .ok (.getfield 23, 3) := by decide +kernel
theorem dX6_sign_22 : decode cX6_sign 22 = .ok (.if_icmp .ge 25, 3) := by decide +kernel
theorem dX6_sign_25 : decode cX6_sign 25 = .ok (.aload_n 0, 1) := by decide +kernel
theorem dX6_sign_26 : decode cX6_sign 26 = .ok (.getfield 27, 3) := by decide +kernel
theorem dX6_sign_29 : decode cX6_sign 29 = .ok (.sipush 160, 3) := by decide +kernel
theorem dX6_sign_32 : decode cX6_sign 32 = .ok (.if_icmp .ge 15, 3) := by decide +kernel
theorem dX6_sign_35 : decode cX6_sign 35 = .ok (.aload_n 0, 1) := by decide +kernel
theorem dX6_sign_36 : decode cX6_sign 36 = .ok (.getfield 11, 3) := by decide +kernel
theorem dX6_sign_39 : decode cX6_sign 39 = .ok (.aload_n 0, 1) := by decide +kernel
theorem dX6_sign_40 : decode cX6_sign 40 = .ok (.getfield 27, 3) := by decide +kernel
theorem dX6_sign_43 : decode cX6_sign 43 = .ok (.caload, 1) := by decide +kernel
theorem dX6_sign_44 : decode cX6_sign 44 = .ok (.goto 4, 3) := by decide +kernel
theorem dX6_sign_47 : decode cX6_sign 47 = .ok (.iconst (-1), 1) := by decide +kernel
theorem dX6_sign_48 : decode cX6_sign 48 = .ok (.ireturn, 1) := by decide +kernel
def f6_sign_j48 (k0_j48 : Int32) (s6_j48 : OS) : Option (Int32) := some k0_j48
def f6_sign_j47 (s6_j47 : OS) : Option (Int32) := f6_sign_j48 ((-1 : Int32)) s6_j47
def f6_sign (s6 : OS) : Option (Int32) := if (s6.1 0 6) = 0 then (if (s6.1 0 4) < 0 then (f6_sign_j47 s6) else (if (s6.1 0 3) ≤ (s6.1 0 4) then (f6_sign_j47 s6) else (if (160 : Int32) ≤ (s6.1 0 4) then (f6_sign_j47 s6) else (chk (inb ((s6.1 0 4)) 160) (nm (s6.1 1 ((s6.1 0 4)).toNatClampNeg) fun y_43 => f6_sign_j48 y_43 s6))))) else (f6_sign_j47 s6)
set_option maxHeartbeats 4000000 in
set_option maxRecDepth 100000 in
theorem m6_sign (l : Launch) (D : va_G) (ad : Nat → Nat) (cy : Nat → ClassId) (sz : Nat) (s0 s1 s2 s3 s4 s5 s6 s7 s8 s9 s10 : OS) (r : Int32) (h : f6_sign s6 = some r) : Met l yX6_sign (wsOf yX6_sign cX6_sign 1 (some .int)) (rmL 0) (va_Pc ([.ref (ad 6)] : List Value) (PreG D cy (cellsC ad cy s0 s1 s2 s3 s4 s5 s6 s7 s8 s9 s10) sz (NC ad))) (QcI D ad 67 (cellsC ad cy s0 s1 s2 s3 s4 s5 s6 s7 s8 s9 s10) (r) sz) 0 0 (Afr ad 67 sz) := by
  refine metG (own := RX6) (by decide) rfl (Nat.le_of_ble_eq_true rfl) fstC ?_ sz
  intro p e s m below meth c ls C0 hw hl
  obtain ⟨hx, hb, hml, hown, hts, hr, hlk, hK, hN⟩ := C0
  have hl : lv_has ls 1 [(0, .ref (ad 6))] := hl
  generalize hQ : MQ below (QcI D ad 67 (cellsC ad cy s0 s1 s2 s3 s4 s5 s6 s7 s8 s9 s10) (r) s.heap.size) ([.ref (ad 6)] : List Value).toArray s 0 0 (Afr ad 67 s.heap.size) = Q
  obtain ⟨H, hH⟩ : ∃ H : Heap, H = s.heap := ⟨_, rfl⟩
  obtain ⟨locs, hlc⟩ : ∃ L : List Loc, L = [] := ⟨_, rfl⟩
  have hw : Wd D (cellsC ad cy s0 s1 s2 s3 s4 s5 s6 s7 s8 s9 s10) (Afr ad 67 s.heap.size) s.heap H locs := by rw [hH, hlc]; exact hw
  suffices h0 : W p l e (rmL 0) s m ([.ref (ad 6)] : List Value).toArray below meth c H locs 0 0 Q (F0 m 0 ls []) by rw [hH, hlc] at h0; exact h0
  clear hH hlc
  unfold f6_sign at h
  have hJ_48 : ∀ (k0_j48 : Int32) (H : Heap) (locs : List Loc) (ls : Array Slot), f6_sign_j48 k0_j48 s6 = some r → Wd D (cellsC ad cy s0 s1 s2 s3 s4 s5 s6 s7 s8 s9 s10) (Afr ad 67 s.heap.size) s.heap H locs → lv_has ls 1 [] → W p l e (rmL 0) s m ([.ref (ad 6)] : List Value).toArray below meth c H locs 0 0 Q (F0 m 48 ls [.int k0_j48]) := by
    intro k0_j48 H locs ls h hw hl
    unfold f6_sign_j48 at h
    have h := Option.some.inj h
    subst h
    rw [← hQ]
    exact retI hx hb hr hlk hw rfl dX6_sign_48
  have hJ_47 : ∀  (H : Heap) (locs : List Loc) (ls : Array Slot), f6_sign_j47 s6 = some r → Wd D (cellsC ad cy s0 s1 s2 s3 s4 s5 s6 s7 s8 s9 s10) (Afr ad 67 s.heap.size) s.heap H locs → lv_has ls 1 [] → W p l e (rmL 0) s m ([.ref (ad 6)] : List Value).toArray below meth c H locs 0 0 Q (F0 m 47 ls []) := by
    intro  H locs ls h hw hl
    unfold f6_sign_j47 at h
    refine lv_iconst (v := (-1)) hx hb dX6_sign_47 (by decide) ?_
    exact hJ_48 ((-1 : Int32)) H locs ls h hw (lv_sub hl [] rfl)
  refine lv_aload_n hx hb dX6_sign_0 rfl (lv_at hl 0 rfl) ?_
  refine gX6_33 hx hb hts hown hK hw dX6_sign_1 ?_
  refine lv_if_ne (tgt := 47) hx hb dX6_sign_4 (by decide) (fun c_4 => ?_) (fun c_4 => ?_)
  · have h := ite_f c_4 h
    exact hJ_47  H locs ls h hw (lv_sub hl [] rfl)
  · have h := ite_t c_4 h
    refine lv_aload_n hx hb dX6_sign_7 rfl (lv_at hl 0 rfl) ?_
    refine gX6_27 hx hb hts hown hK hw dX6_sign_8 ?_
    refine lv_if_lt (tgt := 47) hx hb dX6_sign_11 (by decide) (fun c_11 => ?_) (fun c_11 => ?_)
    · have h := ite_t c_11 h
      exact hJ_47  H locs ls h hw (lv_sub hl [] rfl)
    · have h := ite_f c_11 h
      refine lv_aload_n hx hb dX6_sign_14 rfl (lv_at hl 0 rfl) ?_
      refine gX6_27 hx hb hts hown hK hw dX6_sign_15 ?_
      refine lv_aload_n hx hb dX6_sign_18 rfl (lv_at hl 0 rfl) ?_
      refine gX6_23 hx hb hts hown hK hw dX6_sign_19 ?_
      refine lv_icmp_ge (tgt := 47) hx hb dX6_sign_22 (by decide) (fun c_22 => ?_) (fun c_22 => ?_)
      · have h := ite_t c_22 h
        exact hJ_47  H locs ls h hw (lv_sub hl [] rfl)
      · have h := ite_f c_22 h
        refine lv_aload_n hx hb dX6_sign_25 rfl (lv_at hl 0 rfl) ?_
        refine gX6_27 hx hb hts hown hK hw dX6_sign_26 ?_
        refine lv_sipush (v := 160) hx hb dX6_sign_29 (by decide) ?_
        refine lv_icmp_ge (tgt := 47) hx hb dX6_sign_32 (by decide) (fun c_32 => ?_) (fun c_32 => ?_)
        · have h := ite_t c_32 h
          exact hJ_47  H locs ls h hw (lv_sub hl [] rfl)
        · have h := ite_f c_32 h
          refine lv_aload_n hx hb dX6_sign_35 rfl (lv_at hl 0 rfl) ?_
          refine gX6_11 hx hb hts hown hK hw dX6_sign_36 ?_
          refine lv_aload_n hx hb dX6_sign_39 rfl (lv_at hl 0 rfl) ?_
          refine gX6_27 hx hb hts hown hK hw dX6_sign_40 ?_
          obtain ⟨hi_43, h⟩ := chk_e h
          obtain ⟨y_43, e_43, h⟩ := nam_e h
          refine lC52 hx hb hK hw hi_43 e_43 dX6_sign_43 ?_
          refine lv_goto (tgt := 48) hx hb dX6_sign_44 (by decide) ?_
          exact hJ_48 y_43 H locs ls h hw (lv_sub hl [] rfl)
theorem dX6_take_0 : decode cX6_take 0 = .ok (.aload_n 0, 1) := by decide +kernel
theorem dX6_take_1 : decode cX6_take 1 = .ok (.invokevirtual 64, 3) := by decide +kernel
theorem dX6_take_4 : decode cX6_take 4 = .ok (.iload_n 1, 1) := by decide +kernel
theorem dX6_take_5 : decode cX6_take 5 = .ok (.if_icmp .eq 5, 3) := by decide +kernel
theorem dX6_take_8 : decode cX6_take 8 = .ok (.iconst 0, 1) := by decide +kernel
theorem dX6_take_9 : decode cX6_take 9 = .ok (.ireturn, 1) := by decide +kernel
theorem dX6_take_10 : decode cX6_take 10 = .ok (.aload_n 0, 1) := by decide +kernel
theorem dX6_take_11 : decode cX6_take 11 = .ok (.dup, 1) := by decide +kernel
theorem dX6_take_12 : decode cX6_take 12 = .ok (.getfield 27, 3) := by decide +kernel
theorem dX6_take_15 : decode cX6_take 15 = .ok (.iconst 1, 1) := by decide +kernel
theorem dX6_take_16 : decode cX6_take 16 = .ok (.iadd, 1) := by decide +kernel
theorem dX6_take_17 : decode cX6_take 17 = .ok (.putfield 27, 3) := by decide +kernel
theorem dX6_take_20 : decode cX6_take 20 = .ok (.iconst 1, 1) := by decide +kernel
theorem dX6_take_21 : decode cX6_take 21 = .ok (.ireturn, 1) := by decide +kernel
def f6_take (a1 : Int32) (s6 : OS) : Option (Int32 × OS) := Option.bind (f6_sign s6) fun q_1 => if q_1 = a1 then (nm (wI s6 0 4 (((s6.1 0 4) + (1 : Int32)))) fun s6_17 => some ((1 : Int32), s6_17)) else (some ((0 : Int32), s6))
set_option maxHeartbeats 4000000 in
set_option maxRecDepth 100000 in
theorem m6_take (l : Launch) (D : va_G) (ad : Nat → Nat) (cy : Nat → ClassId) (sz : Nat) (s0 s1 s2 s3 s4 s5 s6 s7 s8 s9 s10 : OS) (a1 : Int32) (r : Int32 × OS) (h : f6_take a1 s6 = some r) : Met l yX6_take (wsOf yX6_take cX6_take 2 (some .boolean)) (rmL 1) (va_Pc ([.ref (ad 6), .int a1] : List Value) (PreG D cy (cellsC ad cy s0 s1 s2 s3 s4 s5 s6 s7 s8 s9 s10) sz (NC ad))) (QcI D ad 67 (cellsC ad cy s0 s1 s2 s3 s4 s5 r.2 s7 s8 s9 s10) (r.1) sz) 0 0 (Afr ad 67 sz) := by
  refine metG (own := RX6) (by decide) rfl (Nat.le_of_ble_eq_true rfl) fstC ?_ sz
  intro p e s m below meth c ls C0 hw hl
  obtain ⟨hx, hb, hml, hown, hts, hr, hlk, hK, hN⟩ := C0
  have hl : lv_has ls 2 [(0, .ref (ad 6)), (1, .int a1)] := hl
  generalize hQ : MQ below (QcI D ad 67 (cellsC ad cy s0 s1 s2 s3 s4 s5 r.2 s7 s8 s9 s10) (r.1) s.heap.size) ([.ref (ad 6), .int a1] : List Value).toArray s 0 0 (Afr ad 67 s.heap.size) = Q
  obtain ⟨H, hH⟩ : ∃ H : Heap, H = s.heap := ⟨_, rfl⟩
  obtain ⟨locs, hlc⟩ : ∃ L : List Loc, L = [] := ⟨_, rfl⟩
  have hw : Wd D (cellsC ad cy s0 s1 s2 s3 s4 s5 s6 s7 s8 s9 s10) (Afr ad 67 s.heap.size) s.heap H locs := by rw [hH, hlc]; exact hw
  suffices h0 : W p l e (rmL 1) s m ([.ref (ad 6), .int a1] : List Value).toArray below meth c H locs 0 0 Q (F0 m 0 ls []) by rw [hH, hlc] at h0; exact h0
  clear hH hlc
  unfold f6_take at h
  refine lv_aload_n hx hb dX6_take_0 rfl (lv_at hl 0 rfl) ?_
  obtain ⟨q_1, h_1, h⟩ := bnd_e h
  have pg_1 := preG (av := [.ref (ad 6)]) hK hw.1 hw.2.1 (NC_keep hN hw.2.2) NC_blind
  refine endI (mc := 0) (ms := 0) (va_runV (As := []) (rest := []) ⟨hx, hb, hml, hown, hts⟩ (m6_sign l D ad cy H.size s0 s1 s2 s3 s4 s5 s6 s7 s8 s9 s10 q_1 h_1) (wX6_64 0 hts ⟨Nat.le_of_ble_eq_true rfl, Nat.le_of_ble_eq_true rfl⟩) ⟨pg_1.1, va_recv hK hw.1 (ci := 6) (q0 := 6) rfl eC_6, pg_1.2⟩ rfl rfl hl.1 rfl (lv_room (Nat.le_of_ble_eq_true rfl)) dX6_take_1 ⟨Nat.le_refl _, Nat.le_refl _⟩) hw.2.2 (afr_in hw.2.2) (fun H locs hw => ?_)
  refine lv_iload_n hx hb dX6_take_4 rfl (lv_at hl 1 rfl) ?_
  refine lv_icmp_eq (tgt := 10) hx hb dX6_take_5 (by decide) (fun c_5 => ?_) (fun c_5 => ?_)
  · have h := ite_t c_5 h
    refine lv_aload_n hx hb dX6_take_10 rfl (lv_at hl 0 rfl) ?_
    refine lv_dup hx hb dX6_take_11 rfl ?_
    refine gX6_27 hx hb hts hown hK hw dX6_take_12 ?_
    refine lv_iconst (v := 1) hx hb dX6_take_15 (by decide) ?_
    refine lv_iadd hx hb dX6_take_16 ?_
    obtain ⟨s6_17, e_17, h⟩ := nam_e h
    refine pX6_27 hx hb hts hown hK hw e_17 dX6_take_17 (fun H locs hw => ?_)
    refine lv_iconst (v := 1) hx hb dX6_take_20 (by decide) ?_
    have h := Option.some.inj h
    subst h
    rw [← hQ]
    exact retI hx hb hr hlk hw (narB (v := (1 : Int32)) (by decide)) dX6_take_21
  · have h := ite_f c_5 h
    refine lv_iconst (v := 0) hx hb dX6_take_8 (by decide) ?_
    have h := Option.some.inj h
    subst h
    rw [← hQ]
    exact retI hx hb hr hlk hw (narB (v := (0 : Int32)) (by decide)) dX6_take_9
theorem dX6_areSo_0 : decode cX6_areSo 0 = .ok (.iload_n 2, 1) := by decide +kernel
theorem dX6_areSo_1 : decode cX6_areSo 1 = .ok (.bipush 60, 2) := by decide +kernel
theorem dX6_areSo_3 : decode cX6_areSo 3 = .ok (.if_icmp .ne 15, 3) := by decide +kernel
theorem dX6_areSo_6 : decode cX6_areSo 6 = .ok (.lload_n 0, 1) := by decide +kernel
theorem dX6_areSo_7 : decode cX6_areSo 7 = .ok (.lload_n 3, 1) := by decide +kernel
theorem dX6_areSo_8 : decode cX6_areSo 8 = .ok (.lcmp, 1) := by decide +kernel
theorem dX6_areSo_9 : decode cX6_areSo 9 = .ok (.ifCond .ge 7, 3) := by decide +kernel
theorem dX6_areSo_12 : decode cX6_areSo 12 = .ok (.iconst 1, 1) := by decide +kernel
theorem dX6_areSo_13 : decode cX6_areSo 13 = .ok (.goto 4, 3) := by decide +kernel
theorem dX6_areSo_16 : decode cX6_areSo 16 = .ok (.iconst 0, 1) := by decide +kernel
theorem dX6_areSo_17 : decode cX6_areSo 17 = .ok (.ireturn, 1) := by decide +kernel
theorem dX6_areSo_18 : decode cX6_areSo 18 = .ok (.iload_n 2, 1) := by decide +kernel
theorem dX6_areSo_19 : decode cX6_areSo 19 = .ok (.bipush 62, 2) := by decide +kernel
theorem dX6_areSo_21 : decode cX6_areSo 21 = .ok (.if_icmp .ne 17, 3) := by decide +kernel
theorem dX6_areSo_24 : decode cX6_areSo 24 = .ok (.lload_n 0, 1) := by decide +kernel
theorem dX6_areSo_25 : decode cX6_areSo 25 = .ok (.lload_n 3, 1) := by decide +kernel
theorem dX6_areSo_26 : decode cX6_areSo 26 = .ok (.lcmp, 1) := by decide +kernel
theorem dX6_areSo_27 : decode cX6_areSo 27 = .ok (.ifCond .le 7, 3) := by decide +kernel
theorem dX6_areSo_30 : decode cX6_areSo 30 = .ok (.iconst 1, 1) := by decide +kernel
theorem dX6_areSo_31 : decode cX6_areSo 31 = .ok (.goto 18, 3) := by decide +kernel
theorem dX6_areSo_34 : decode cX6_areSo 34 = .ok (.iconst 0, 1) := by decide +kernel
theorem dX6_areSo_35 : decode cX6_areSo 35 = .ok (.goto 14, 3) := by decide +kernel
theorem dX6_areSo_38 : decode cX6_areSo 38 = .ok (.lload_n 0, 1) := by decide +kernel
theorem dX6_areSo_39 : decode cX6_areSo 39 = .ok (.lload_n 3, 1) := by decide +kernel
theorem dX6_areSo_40 : decode cX6_areSo 40 = .ok (.lcmp, 1) := by decide +kernel
theorem dX6_areSo_41 : decode cX6_areSo 41 = .ok (.ifCond .ne 7, 3) := by decide +kernel
theorem dX6_areSo_44 : decode cX6_areSo 44 = .ok (.iconst 1, 1) := by decide +kernel
theorem dX6_areSo_45 : decode cX6_areSo 45 = .ok (.goto 4, 3) := by decide +kernel
theorem dX6_areSo_48 : decode cX6_areSo 48 = .ok (.iconst 0, 1) := by decide +kernel
theorem dX6_areSo_49 : decode cX6_areSo 49 = .ok (.ireturn, 1) := by decide +kernel
def f6_areSo_j49 (k0_j49 : Int32) : Option (Int32) := chk (isB k0_j49) (some k0_j49)
def f6_areSo_j17 (k0_j17 : Int32) : Option (Int32) := chk (isB k0_j17) (some k0_j17)
def f6_areSo (a0 : Int64) (a2 : Int32) (a3 : Int64) : Option (Int32) := if a2 = (60 : Int32) then (if 0 ≤ (lg_cmp a0 a3) then (f6_areSo_j17 ((0 : Int32))) else (f6_areSo_j17 ((1 : Int32)))) else (if a2 = (62 : Int32) then (if (lg_cmp a0 a3) ≤ 0 then (f6_areSo_j49 ((0 : Int32))) else (f6_areSo_j49 ((1 : Int32)))) else (if (lg_cmp a0 a3) = 0 then (f6_areSo_j49 ((1 : Int32))) else (f6_areSo_j49 ((0 : Int32)))))
set_option maxHeartbeats 4000000 in
set_option maxRecDepth 100000 in
theorem m6_areSo (l : Launch) (D : va_G) (ad : Nat → Nat) (cy : Nat → ClassId) (sz : Nat) (s0 s1 s2 s3 s4 s5 s6 s7 s8 s9 s10 : OS) (a0 : Int64) (a2 : Int32) (a3 : Int64) (r : Int32) (h : f6_areSo a0 a2 a3 = some r) : Met l yX6_areSo (wsOf yX6_areSo cX6_areSo 5 (some .boolean)) (rmL 0) (va_Pc ([.long a0, .int a2, .long a3] : List Value) (PreG D cy (cellsC ad cy s0 s1 s2 s3 s4 s5 s6 s7 s8 s9 s10) sz (NC ad))) (QcI D ad 67 (cellsC ad cy s0 s1 s2 s3 s4 s5 s6 s7 s8 s9 s10) (r) sz) 0 0 (Afr ad 67 sz) := by
  refine metG (own := RX6) (by decide) rfl (Nat.le_of_ble_eq_true rfl) fstC ?_ sz
  intro p e s m below meth c ls C0 hw hl
  obtain ⟨hx, hb, hml, hown, hts, hr, hlk, hK, hN⟩ := C0
  have hl : lv_has ls 5 [(0, .long a0), (2, .int a2), (3, .long a3)] := hl
  generalize hQ : MQ below (QcI D ad 67 (cellsC ad cy s0 s1 s2 s3 s4 s5 s6 s7 s8 s9 s10) (r) s.heap.size) ([.long a0, .int a2, .long a3] : List Value).toArray s 0 0 (Afr ad 67 s.heap.size) = Q
  obtain ⟨H, hH⟩ : ∃ H : Heap, H = s.heap := ⟨_, rfl⟩
  obtain ⟨locs, hlc⟩ : ∃ L : List Loc, L = [] := ⟨_, rfl⟩
  have hw : Wd D (cellsC ad cy s0 s1 s2 s3 s4 s5 s6 s7 s8 s9 s10) (Afr ad 67 s.heap.size) s.heap H locs := by rw [hH, hlc]; exact hw
  suffices h0 : W p l e (rmL 0) s m ([.long a0, .int a2, .long a3] : List Value).toArray below meth c H locs 0 0 Q (F0 m 0 ls []) by rw [hH, hlc] at h0; exact h0
  clear hH hlc
  unfold f6_areSo at h
  have hJ_49 : ∀ (k0_j49 : Int32) (H : Heap) (locs : List Loc) (ls : Array Slot), f6_areSo_j49 k0_j49 = some r → Wd D (cellsC ad cy s0 s1 s2 s3 s4 s5 s6 s7 s8 s9 s10) (Afr ad 67 s.heap.size) s.heap H locs → lv_has ls 5 [] → W p l e (rmL 0) s m ([.long a0, .int a2, .long a3] : List Value).toArray below meth c H locs 0 0 Q (F0 m 49 ls [.int k0_j49]) := by
    intro k0_j49 H locs ls h hw hl
    unfold f6_areSo_j49 at h
    obtain ⟨hz_49, h⟩ := chk_e h
    have h := Option.some.inj h
    subst h
    rw [← hQ]
    exact retI hx hb hr hlk hw (narB hz_49) dX6_areSo_49
  have hJ_17 : ∀ (k0_j17 : Int32) (H : Heap) (locs : List Loc) (ls : Array Slot), f6_areSo_j17 k0_j17 = some r → Wd D (cellsC ad cy s0 s1 s2 s3 s4 s5 s6 s7 s8 s9 s10) (Afr ad 67 s.heap.size) s.heap H locs → lv_has ls 5 [] → W p l e (rmL 0) s m ([.long a0, .int a2, .long a3] : List Value).toArray below meth c H locs 0 0 Q (F0 m 17 ls [.int k0_j17]) := by
    intro k0_j17 H locs ls h hw hl
    unfold f6_areSo_j17 at h
    obtain ⟨hz_17, h⟩ := chk_e h
    have h := Option.some.inj h
    subst h
    rw [← hQ]
    exact retI hx hb hr hlk hw (narB hz_17) dX6_areSo_17
  refine lv_iload_n hx hb dX6_areSo_0 rfl (lv_at hl 1 rfl) ?_
  refine lv_bipush (v := 60) hx hb dX6_areSo_1 (by decide) ?_
  refine lv_icmp_ne (tgt := 18) hx hb dX6_areSo_3 (by decide) (fun c_3 => ?_) (fun c_3 => ?_)
  · have h := ite_f c_3 h
    refine lv_iload_n hx hb dX6_areSo_18 rfl (lv_at hl 1 rfl) ?_
    refine lv_bipush (v := 62) hx hb dX6_areSo_19 (by decide) ?_
    refine lv_icmp_ne (tgt := 38) hx hb dX6_areSo_21 (by decide) (fun c_21 => ?_) (fun c_21 => ?_)
    · have h := ite_f c_21 h
      refine lv_lload_n hx hb dX6_areSo_38 rfl (lv_at hl 0 rfl) ?_
      refine lv_lload_n hx hb dX6_areSo_39 rfl (lv_at hl 2 rfl) ?_
      refine W.lcmp hx hb dX6_areSo_40 ?_
      refine lv_if_ne (tgt := 48) hx hb dX6_areSo_41 (by decide) (fun c_41 => ?_) (fun c_41 => ?_)
      · have h := ite_f c_41 h
        refine lv_iconst (v := 0) hx hb dX6_areSo_48 (by decide) ?_
        exact hJ_49 ((0 : Int32)) H locs ls h hw (lv_sub hl [] rfl)
      · have h := ite_t c_41 h
        refine lv_iconst (v := 1) hx hb dX6_areSo_44 (by decide) ?_
        refine lv_goto (tgt := 49) hx hb dX6_areSo_45 (by decide) ?_
        exact hJ_49 ((1 : Int32)) H locs ls h hw (lv_sub hl [] rfl)
    · have h := ite_t c_21 h
      refine lv_lload_n hx hb dX6_areSo_24 rfl (lv_at hl 0 rfl) ?_
      refine lv_lload_n hx hb dX6_areSo_25 rfl (lv_at hl 2 rfl) ?_
      refine W.lcmp hx hb dX6_areSo_26 ?_
      refine lv_if_le (tgt := 34) hx hb dX6_areSo_27 (by decide) (fun c_27 => ?_) (fun c_27 => ?_)
      · have h := ite_t c_27 h
        refine lv_iconst (v := 0) hx hb dX6_areSo_34 (by decide) ?_
        refine lv_goto (tgt := 49) hx hb dX6_areSo_35 (by decide) ?_
        exact hJ_49 ((0 : Int32)) H locs ls h hw (lv_sub hl [] rfl)
      · have h := ite_f c_27 h
        refine lv_iconst (v := 1) hx hb dX6_areSo_30 (by decide) ?_
        refine lv_goto (tgt := 49) hx hb dX6_areSo_31 (by decide) ?_
        exact hJ_49 ((1 : Int32)) H locs ls h hw (lv_sub hl [] rfl)
  · have h := ite_t c_3 h
    refine lv_lload_n hx hb dX6_areSo_6 rfl (lv_at hl 0 rfl) ?_
    refine lv_lload_n hx hb dX6_areSo_7 rfl (lv_at hl 2 rfl) ?_
    refine W.lcmp hx hb dX6_areSo_8 ?_
    refine lv_if_ge (tgt := 16) hx hb dX6_areSo_9 (by decide) (fun c_9 => ?_) (fun c_9 => ?_)
    · have h := ite_t c_9 h
      refine lv_iconst (v := 0) hx hb dX6_areSo_16 (by decide) ?_
      exact hJ_17 ((0 : Int32)) H locs ls h hw (lv_sub hl [] rfl)
    · have h := ite_f c_9 h
      refine lv_iconst (v := 1) hx hb dX6_areSo_12 (by decide) ?_
      refine lv_goto (tgt := 17) hx hb dX6_areSo_13 (by decide) ?_
      exact hJ_17 ((1 : Int32)) H locs ls h hw (lv_sub hl [] rfl)
theorem dX6_readOrder_0 : decode cX6_readOrder 0 = .ok (.aload_n 0, 1) := by decide +kernel
theorem dX6_readOrder_1 : decode cX6_readOrder 1 = .ok (.invokevirtual 64, 3) := by decide +kernel
theorem dX6_readOrder_4 : decode cX6_readOrder 4 = .ok (.istore_n 1, 1) := by decide +kernel
theorem dX6_readOrder_5 : decode cX6_readOrder 5 = .ok (.iload_n 1, 1) := by decide +kernel
theorem dX6_readOrder_6 : decode cX6_readOrder 6 = .ok (.bipush 60, 2) := by decide +kernel
theorem dX6_readOrder_8 : decode cX6_readOrder 8 = .ok (.if_icmp .eq 15, 3) := by decide +kernel
theorem dX6_readOrder_11 : decode cX6_readOrder 11 = .ok (.iload_n 1, 1) := by decide +kernel
theorem dX6_readOrder_12 : decode cX6_readOrder 12 = .ok (.bipush 62, 2) := by decide +kernel
theorem dX6_readOrder_14 : decode cX6_readOrder 14 = .ok (.if_icmp .eq 9, 3) := by decide +kernel
theorem dX6_readOrder_17 : decode cX6_readOrder 17 = .ok (.iload_n 1, 1) := by decide +kernel
theorem dX6_readOrder_18 : decode cX6_readOrder 18 = .ok (.bipush 61, 2) := by decide +kernel
theorem dX6_readOrder_20 : decode cX6_readOrder 20 = .ok (.if_icmp .ne 16, 3) := by decide +kernel
theorem dX6_readOrder_23 : decode cX6_readOrder 23 = .ok (.aload_n 0, 1) := by decide +kernel
theorem dX6_readOrder_24 : decode cX6_readOrder 24 = .ok (.dup, 1) := by decide +kernel
theorem dX6_readOrder_25 : decode cX6_readOrder 25 = .ok (.getfield 27, 3) := by decide +kernel
theorem dX6_readOrder_28 : decode cX6_readOrder 28 = .ok (.iconst 1, 1) := by decide +kernel
theorem dX6_readOrder_29 : decode cX6_readOrder 29 = .ok (.iadd, 1) := by decide +kernel
theorem dX6_readOrder_30 : decode cX6_readOrder 30 = .ok (.putfield 27, 3) := by decide +kernel
theorem dX6_readOrder_33 : decode cX6_readOrder 33 = .ok (.goto 12, 3) := by decide +kernel
theorem dX6_readOrder_36 : decode cX6_readOrder 36 = .ok (.aload_n 0, 1) := by decide +kernel
theorem dX6_readOrder_37 : decode cX6_readOrder 37 = .ok (.iconst 1, 1) := by decide +kernel
theorem dX6_readOrder_38 : decode cX6_readOrder 38 = .ok (.aload_n 0, 1) := by decide +kernel
theorem dX6_readOrder_39 : decode cX6_readOrder 39 = .ok (.getfield 27, 3) := by decide +kernel
theorem dX6_readOrder_42 : decode cX6_readOrder 42 = .ok (.invokevirtual 72, 3) := by decide +kernel
theorem dX6_readOrder_45 : decode cX6_readOrder 45 = .ok (.iload_n 1, 1) := by decide +kernel
theorem dX6_readOrder_46 : decode cX6_readOrder 46 = .ok (.ireturn, 1) := by decide +kernel
def f6_readOrder_j45 (v1_j45 : Int32) (s6_j45 : OS) : Option (Int32 × OS) := some (v1_j45, s6_j45)
def f6_readOrder_j23 (v1_j23 : Int32) (s6_j23 : OS) : Option (Int32 × OS) := nm (wI s6_j23 0 4 (((s6_j23.1 0 4) + (1 : Int32)))) fun s6_30 => f6_readOrder_j45 v1_j23 s6_30
def f6_readOrder (s6 : OS) : Option (Int32 × OS) := Option.bind (f6_sign s6) fun q_1 => if q_1 = (60 : Int32) then (f6_readOrder_j23 q_1 s6) else (if q_1 = (62 : Int32) then (f6_readOrder_j23 q_1 s6) else (if q_1 = (61 : Int32) then (f6_readOrder_j23 q_1 s6) else (Option.bind (f6_fail ((1 : Int32)) ((s6.1 0 4)) s6) fun q_42 => f6_readOrder_j45 q_1 q_42)))
set_option maxHeartbeats 4000000 in
set_option maxRecDepth 100000 in
theorem m6_readOrder (l : Launch) (D : va_G) (ad : Nat → Nat) (cy : Nat → ClassId) (sz : Nat) (s0 s1 s2 s3 s4 s5 s6 s7 s8 s9 s10 : OS) (r : Int32 × OS) (h : f6_readOrder s6 = some r) : Met l yX6_readOrder (wsOf yX6_readOrder cX6_readOrder 2 (some .int)) (rmL 1) (va_Pc ([.ref (ad 6)] : List Value) (PreG D cy (cellsC ad cy s0 s1 s2 s3 s4 s5 s6 s7 s8 s9 s10) sz (NC ad))) (QcI D ad 67 (cellsC ad cy s0 s1 s2 s3 s4 s5 r.2 s7 s8 s9 s10) (r.1) sz) 0 0 (Afr ad 67 sz) := by
  refine metG (own := RX6) (by decide) rfl (Nat.le_of_ble_eq_true rfl) fstC ?_ sz
  intro p e s m below meth c ls C0 hw hl
  obtain ⟨hx, hb, hml, hown, hts, hr, hlk, hK, hN⟩ := C0
  have hl : lv_has ls 2 [(0, .ref (ad 6))] := hl
  generalize hQ : MQ below (QcI D ad 67 (cellsC ad cy s0 s1 s2 s3 s4 s5 r.2 s7 s8 s9 s10) (r.1) s.heap.size) ([.ref (ad 6)] : List Value).toArray s 0 0 (Afr ad 67 s.heap.size) = Q
  obtain ⟨H, hH⟩ : ∃ H : Heap, H = s.heap := ⟨_, rfl⟩
  obtain ⟨locs, hlc⟩ : ∃ L : List Loc, L = [] := ⟨_, rfl⟩
  have hw : Wd D (cellsC ad cy s0 s1 s2 s3 s4 s5 s6 s7 s8 s9 s10) (Afr ad 67 s.heap.size) s.heap H locs := by rw [hH, hlc]; exact hw
  suffices h0 : W p l e (rmL 1) s m ([.ref (ad 6)] : List Value).toArray below meth c H locs 0 0 Q (F0 m 0 ls []) by rw [hH, hlc] at h0; exact h0
  clear hH hlc
  unfold f6_readOrder at h
  have hJ_45 : ∀ (v1_j45 : Int32) (s6_j45 : OS) (H : Heap) (locs : List Loc) (ls : Array Slot), f6_readOrder_j45 v1_j45 s6_j45 = some r → Wd D (cellsC ad cy s0 s1 s2 s3 s4 s5 s6_j45 s7 s8 s9 s10) (Afr ad 67 s.heap.size) s.heap H locs → lv_has ls 2 [(1, .int v1_j45)] → W p l e (rmL 1) s m ([.ref (ad 6)] : List Value).toArray below meth c H locs 0 0 Q (F0 m 45 ls []) := by
    intro v1_j45 s6_j45 H locs ls h hw hl
    unfold f6_readOrder_j45 at h
    refine lv_iload_n hx hb dX6_readOrder_45 rfl (lv_at hl 0 rfl) ?_
    have h := Option.some.inj h
    subst h
    rw [← hQ]
    exact retI hx hb hr hlk hw rfl dX6_readOrder_46
  have hJ_23 : ∀ (v1_j23 : Int32) (s6_j23 : OS) (H : Heap) (locs : List Loc) (ls : Array Slot), f6_readOrder_j23 v1_j23 s6_j23 = some r → Wd D (cellsC ad cy s0 s1 s2 s3 s4 s5 s6_j23 s7 s8 s9 s10) (Afr ad 67 s.heap.size) s.heap H locs → lv_has ls 2 [(0, .ref (ad 6)), (1, .int v1_j23)] → W p l e (rmL 1) s m ([.ref (ad 6)] : List Value).toArray below meth c H locs 0 0 Q (F0 m 23 ls []) := by
    intro v1_j23 s6_j23 H locs ls h hw hl
    unfold f6_readOrder_j23 at h
    refine lv_aload_n hx hb dX6_readOrder_23 rfl (lv_at hl 0 rfl) ?_
    refine lv_dup hx hb dX6_readOrder_24 rfl ?_
    refine gX6_27 hx hb hts hown hK hw dX6_readOrder_25 ?_
    refine lv_iconst (v := 1) hx hb dX6_readOrder_28 (by decide) ?_
    refine lv_iadd hx hb dX6_readOrder_29 ?_
    obtain ⟨s6_30, e_30, h⟩ := nam_e h
    refine pX6_27 hx hb hts hown hK hw e_30 dX6_readOrder_30 (fun H locs hw => ?_)
    refine lv_goto (tgt := 45) hx hb dX6_readOrder_33 (by decide) ?_
    exact hJ_45 v1_j23 s6_30 H locs ls h hw (lv_sub hl [1] rfl)
  refine lv_aload_n hx hb dX6_readOrder_0 rfl (lv_at hl 0 rfl) ?_
  obtain ⟨q_1, h_1, h⟩ := bnd_e h
  have pg_1 := preG (av := [.ref (ad 6)]) hK hw.1 hw.2.1 (NC_keep hN hw.2.2) NC_blind
  refine endI (mc := 0) (ms := 0) (va_runV (As := []) (rest := []) ⟨hx, hb, hml, hown, hts⟩ (m6_sign l D ad cy H.size s0 s1 s2 s3 s4 s5 s6 s7 s8 s9 s10 q_1 h_1) (wX6_64 0 hts ⟨Nat.le_of_ble_eq_true rfl, Nat.le_of_ble_eq_true rfl⟩) ⟨pg_1.1, va_recv hK hw.1 (ci := 6) (q0 := 6) rfl eC_6, pg_1.2⟩ rfl rfl hl.1 rfl (lv_room (Nat.le_of_ble_eq_true rfl)) dX6_readOrder_1 ⟨Nat.le_refl _, Nat.le_refl _⟩) hw.2.2 (afr_in hw.2.2) (fun H locs hw => ?_)
  refine lv_istore_n (lv' := [(1, .int q_1), (0, .ref (ad 6))]) hx hb dX6_readOrder_4 rfl hl (by decide) rfl (fun ls hl => ?_)
  refine lv_iload_n hx hb dX6_readOrder_5 rfl (lv_at hl 0 rfl) ?_
  refine lv_bipush (v := 60) hx hb dX6_readOrder_6 (by decide) ?_
  refine lv_icmp_eq (tgt := 23) hx hb dX6_readOrder_8 (by decide) (fun c_8 => ?_) (fun c_8 => ?_)
  · have h := ite_t c_8 h
    exact hJ_23 q_1 s6 H locs ls h hw (lv_sub hl [1, 0] rfl)
  · have h := ite_f c_8 h
    refine lv_iload_n hx hb dX6_readOrder_11 rfl (lv_at hl 0 rfl) ?_
    refine lv_bipush (v := 62) hx hb dX6_readOrder_12 (by decide) ?_
    refine lv_icmp_eq (tgt := 23) hx hb dX6_readOrder_14 (by decide) (fun c_14 => ?_) (fun c_14 => ?_)
    · have h := ite_t c_14 h
      exact hJ_23 q_1 s6 H locs ls h hw (lv_sub hl [1, 0] rfl)
    · have h := ite_f c_14 h
      refine lv_iload_n hx hb dX6_readOrder_17 rfl (lv_at hl 0 rfl) ?_
      refine lv_bipush (v := 61) hx hb dX6_readOrder_18 (by decide) ?_
      refine lv_icmp_ne (tgt := 36) hx hb dX6_readOrder_20 (by decide) (fun c_20 => ?_) (fun c_20 => ?_)
      · have h := ite_f c_20 h
        refine lv_aload_n hx hb dX6_readOrder_36 rfl (lv_at hl 1 rfl) ?_
        refine lv_iconst (v := 1) hx hb dX6_readOrder_37 (by decide) ?_
        refine lv_aload_n hx hb dX6_readOrder_38 rfl (lv_at hl 1 rfl) ?_
        refine gX6_27 hx hb hts hown hK hw dX6_readOrder_39 ?_
        obtain ⟨q_42, h_42, h⟩ := bnd_e h
        have pg_42 := preG (av := [.ref (ad 6), .int ((1 : Int32)), .int ((s6.1 0 4))]) hK hw.1 hw.2.1 (NC_keep hN hw.2.2) NC_blind
        refine endV (mc := 0) (ms := 0) (va_runV (As := [.int ((1 : Int32)), .int ((s6.1 0 4))]) (rest := []) ⟨hx, hb, hml, hown, hts⟩ (m6_fail l D ad cy H.size s0 s1 s2 s3 s4 s5 s6 s7 s8 s9 s10 ((1 : Int32)) ((s6.1 0 4)) q_42 h_42) (wX6_72 0 hts ⟨Nat.le_of_ble_eq_true rfl, Nat.le_of_ble_eq_true rfl⟩) ⟨pg_42.1, va_recv hK hw.1 (ci := 6) (q0 := 6) rfl eC_6, pg_42.2⟩ rfl rfl hl.1 rfl (lv_room (Nat.le_of_ble_eq_true rfl)) dX6_readOrder_42 ⟨Nat.le_refl _, Nat.le_refl _⟩) hw.2.2 (afr_in hw.2.2) (fun H locs hw => ?_)
        exact hJ_45 q_1 q_42 H locs ls h hw (lv_sub hl [0] rfl)
      · have h := ite_t c_20 h
        exact hJ_23 q_1 s6 H locs ls h hw (lv_sub hl [1, 0] rfl)
theorem dX6_isDigit_0 : decode cX6_isDigit 0 = .ok (.iload_n 0, 1) := by decide +kernel
theorem dX6_isDigit_1 : decode cX6_isDigit 1 = .ok (.bipush 48, 2) := by decide +kernel
theorem dX6_isDigit_3 : decode cX6_isDigit 3 = .ok (.if_icmp .lt 13, 3) := by decide +kernel
theorem dX6_isDigit_6 : decode cX6_isDigit 6 = .ok (.iload_n 0, 1) := by decide +kernel
theorem dX6_isDigit_7 : decode cX6_isDigit 7 = .ok (.bipush 57, 2) := by decide +kernel
theorem dX6_isDigit_9 : decode cX6_isDigit 9 = .ok (.if_icmp .gt 7, 3) := by decide +kernel
theorem dX6_isDigit_12 : decode cX6_isDigit 12 = .ok (.iconst 1, 1) := by decide +kernel
theorem dX6_isDigit_13 : decode cX6_isDigit 13 = .ok (.goto 4, 3) := by decide +kernel
theorem dX6_isDigit_16 : decode cX6_isDigit 16 = .ok (.iconst 0, 1) := by decide +kernel
theorem dX6_isDigit_17 : decode cX6_isDigit 17 = .ok (.ireturn, 1) := by decide +kernel
def f6_isDigit_j17 (k0_j17 : Int32) : Option (Int32) := chk (isB k0_j17) (some k0_j17)
def f6_isDigit_j16  : Option (Int32) := f6_isDigit_j17 ((0 : Int32))
def f6_isDigit (a0 : Int32) : Option (Int32) := if a0 < (48 : Int32) then f6_isDigit_j16 else (if (57 : Int32) < a0 then f6_isDigit_j16 else (f6_isDigit_j17 ((1 : Int32))))
set_option maxHeartbeats 4000000 in
set_option maxRecDepth 100000 in
theorem m6_isDigit (l : Launch) (D : va_G) (ad : Nat → Nat) (cy : Nat → ClassId) (sz : Nat) (s0 s1 s2 s3 s4 s5 s6 s7 s8 s9 s10 : OS) (a0 : Int32) (r : Int32) (h : f6_isDigit a0 = some r) : Met l yX6_isDigit (wsOf yX6_isDigit cX6_isDigit 1 (some .boolean)) (rmL 0) (va_Pc ([.int a0] : List Value) (PreG D cy (cellsC ad cy s0 s1 s2 s3 s4 s5 s6 s7 s8 s9 s10) sz (NC ad))) (QcI D ad 67 (cellsC ad cy s0 s1 s2 s3 s4 s5 s6 s7 s8 s9 s10) (r) sz) 0 0 (Afr ad 67 sz) := by
  refine metG (own := RX6) (by decide) rfl (Nat.le_of_ble_eq_true rfl) fstC ?_ sz
  intro p e s m below meth c ls C0 hw hl
  obtain ⟨hx, hb, hml, hown, hts, hr, hlk, hK, hN⟩ := C0
  have hl : lv_has ls 1 [(0, .int a0)] := hl
  generalize hQ : MQ below (QcI D ad 67 (cellsC ad cy s0 s1 s2 s3 s4 s5 s6 s7 s8 s9 s10) (r) s.heap.size) ([.int a0] : List Value).toArray s 0 0 (Afr ad 67 s.heap.size) = Q
  obtain ⟨H, hH⟩ : ∃ H : Heap, H = s.heap := ⟨_, rfl⟩
  obtain ⟨locs, hlc⟩ : ∃ L : List Loc, L = [] := ⟨_, rfl⟩
  have hw : Wd D (cellsC ad cy s0 s1 s2 s3 s4 s5 s6 s7 s8 s9 s10) (Afr ad 67 s.heap.size) s.heap H locs := by rw [hH, hlc]; exact hw
  suffices h0 : W p l e (rmL 0) s m ([.int a0] : List Value).toArray below meth c H locs 0 0 Q (F0 m 0 ls []) by rw [hH, hlc] at h0; exact h0
  clear hH hlc
  unfold f6_isDigit at h
  have hJ_17 : ∀ (k0_j17 : Int32) (H : Heap) (locs : List Loc) (ls : Array Slot), f6_isDigit_j17 k0_j17 = some r → Wd D (cellsC ad cy s0 s1 s2 s3 s4 s5 s6 s7 s8 s9 s10) (Afr ad 67 s.heap.size) s.heap H locs → lv_has ls 1 [] → W p l e (rmL 0) s m ([.int a0] : List Value).toArray below meth c H locs 0 0 Q (F0 m 17 ls [.int k0_j17]) := by
    intro k0_j17 H locs ls h hw hl
    unfold f6_isDigit_j17 at h
    obtain ⟨hz_17, h⟩ := chk_e h
    have h := Option.some.inj h
    subst h
    rw [← hQ]
    exact retI hx hb hr hlk hw (narB hz_17) dX6_isDigit_17
  have hJ_16 : ∀  (H : Heap) (locs : List Loc) (ls : Array Slot), f6_isDigit_j16 = some r → Wd D (cellsC ad cy s0 s1 s2 s3 s4 s5 s6 s7 s8 s9 s10) (Afr ad 67 s.heap.size) s.heap H locs → lv_has ls 1 [] → W p l e (rmL 0) s m ([.int a0] : List Value).toArray below meth c H locs 0 0 Q (F0 m 16 ls []) := by
    intro  H locs ls h hw hl
    unfold f6_isDigit_j16 at h
    refine lv_iconst (v := 0) hx hb dX6_isDigit_16 (by decide) ?_
    exact hJ_17 ((0 : Int32)) H locs ls h hw (lv_sub hl [] rfl)
  refine lv_iload_n hx hb dX6_isDigit_0 rfl (lv_at hl 0 rfl) ?_
  refine lv_bipush (v := 48) hx hb dX6_isDigit_1 (by decide) ?_
  refine lv_icmp_lt (tgt := 16) hx hb dX6_isDigit_3 (by decide) (fun c_3 => ?_) (fun c_3 => ?_)
  · have h := ite_t c_3 h
    exact hJ_16  H locs ls h hw (lv_sub hl [] rfl)
  · have h := ite_f c_3 h
    refine lv_iload_n hx hb dX6_isDigit_6 rfl (lv_at hl 0 rfl) ?_
    refine lv_bipush (v := 57) hx hb dX6_isDigit_7 (by decide) ?_
    refine lv_icmp_gt (tgt := 16) hx hb dX6_isDigit_9 (by decide) (fun c_9 => ?_) (fun c_9 => ?_)
    · have h := ite_t c_9 h
      exact hJ_16  H locs ls h hw (lv_sub hl [] rfl)
    · have h := ite_f c_9 h
      refine lv_iconst (v := 1) hx hb dX6_isDigit_12 (by decide) ?_
      refine lv_goto (tgt := 17) hx hb dX6_isDigit_13 (by decide) ?_
      exact hJ_17 ((1 : Int32)) H locs ls h hw (lv_sub hl [] rfl)
theorem dX6_readDigits_0 : decode cX6_readDigits 0 = .ok (.iconst 0, 1) := by decide +kernel
theorem dX6_readDigits_1 : decode cX6_readDigits 1 = .ok (.istore_n 1, 1) := by decide +kernel
theorem dX6_readDigits_2 : decode cX6_readDigits 2 = .ok (.iconst 0, 1) := by decide +kernel
theorem dX6_readDigits_3 : decode cX6_readDigits 3 = .ok (.istore_n 2, 1) := by decide +kernel
theorem dX6_readDigits_4 : decode cX6_readDigits 4 = .ok (.iload_n 2, 1) := by decide +kernel
theorem dX6_readDigits_5 : decode cX6_readDigits 5 = .ok (.bipush 6, 2) := by decide +kernel
theorem dX6_readDigits_7 : decode cX6_readDigits 7 = .ok (.if_icmp .ge 42, 3) := by decide +kernel
theorem dX6_readDigits_10 : decode cX6_readDigits 10 = .ok (.aload_n 0, 1) := by decide +kernel
theorem dX6_readDigits_11 : decode cX6_readDigits 11 = .ok (.invokevirtual 64, 3) := by decide +kernel
theorem dX6_readDigits_14 : decode cX6_readDigits 14 = .ok (.invokestatic 115, 3) := by decide +kernel
theorem dX6_readDigits_17 : decode cX6_readDigits 17 = .ok (.ifCond .eq 32, 3) := by decide +kernel
theorem dX6_readDigits_20 : decode cX6_readDigits 20 = .ok (.bipush 10, 2) := by decide +kernel
theorem dX6_readDigits_22 : decode cX6_readDigits 22 = .ok (.iload_n 1, 1) := by decide +kernel
theorem dX6_readDigits_23 : decode cX6_readDigits 23 = .ok (.imul, 1) := by decide +kernel
theorem dX6_readDigits_24 : decode cX6_readDigits 24 = .ok (.aload_n 0, 1) := by decide +kernel
theorem dX6_readDigits_25 : decode cX6_readDigits 25 = .ok (.invokevirtual 64, 3) := by decide +kernel
theorem dX6_readDigits_28 : decode cX6_readDigits 28 = .ok (.iadd, 1) := by decide +kernel
theorem dX6_readDigits_29 : decode cX6_readDigits 29 = .ok (.bipush 48, 2) := by decide +kernel
theorem dX6_readDigits_31 : decode cX6_readDigits 31 = .ok (.isub, 1) := by decide +kernel
theorem dX6_readDigits_32 : decode cX6_readDigits 32 = .ok (.istore_n 1, 1) := by decide +kernel
theorem dX6_readDigits_33 : decode cX6_readDigits 33 = .ok (.iinc 2 1, 3) := by decide +kernel
theorem dX6_readDigits_36 : decode cX6_readDigits 36 = .ok (.aload_n 0, 1) := by decide +kernel
theorem dX6_readDigits_37 : decode cX6_readDigits 37 = .ok (.dup, 1) := by decide +kernel
theorem dX6_readDigits_38 : decode cX6_readDigits 38 = .ok (.getfield 27, 3) := by decide +kernel
theorem dX6_readDigits_41 : decode cX6_readDigits 41 = .ok (.iconst 1, 1) := by decide +kernel
theorem dX6_readDigits_42 : decode cX6_readDigits 42 = .ok (.iadd, 1) := by decide +kernel
theorem dX6_readDigits_43 : decode cX6_readDigits 43 = .ok (.putfield 27, 3) := by decide +kernel
theorem dX6_readDigits_46 : decode cX6_readDigits 46 = .ok (.goto (-42), 3) := by decide +kernel
theorem dX6_readDigits_49 : decode cX6_readDigits 49 = .ok (.iload_n 2, 1) := by decide +kernel
theorem dX6_readDigits_50 : decode cX6_readDigits 50 = .ok (.ifCond .ne 15, 3) := by decide +kernel
theorem dX6_readDigits_53 : decode cX6_readDigits 53 = .ok (.aload_n 0, 1) := by decide +kernel
theorem dX6_readDigits_54 : decode cX6_readDigits 54 = .ok (.iconst 1, 1) := by decide +kernel
theorem dX6_readDigits_55 : decode cX6_readDigits 55 = .ok (.aload_n 0, 1) := by decide +kernel
theorem dX6_readDigits_56 : decode cX6_readDigits 56 = .ok (.getfield 27, 3) := by decide +kernel
theorem dX6_readDigits_59 : decode cX6_readDigits 59 = .ok (.invokevirtual 72, 3) := by decide +kernel
theorem dX6_readDigits_62 : decode cX6_readDigits 62 = .ok (.goto 22, 3) := by decide +kernel
theorem dX6_readDigits_65 : decode cX6_readDigits 65 = .ok (.aload_n 0, 1) := by decide +kernel
theorem dX6_readDigits_66 : decode cX6_readDigits 66 = .ok (.invokevirtual 64, 3) := by decide +kernel
theorem dX6_readDigits_69 : decode cX6_readDigits 69 = .ok (.invokestatic 115, 3) := by decide +kernel
theorem dX6_readDigits_72 : decode cX6_readDigits 72 = .ok (.ifCond .eq 12, 3) := by decide +kernel
theorem dX6_readDigits_75 : decode cX6_readDigits 75 = .ok (.aload_n 0, 1) := by decide +kernel
theorem dX6_readDigits_76 : decode cX6_readDigits 76 = .ok (.iconst 2, 1) := by decide +kernel
theorem dX6_readDigits_77 : decode cX6_readDigits 77 = .ok (.aload_n 0, 1) := by decide +kernel
theorem dX6_readDigits_78 : decode cX6_readDigits 78 = .ok (.getfield 27, 3) := by decide +kernel
theorem dX6_readDigits_81 : decode cX6_readDigits 81 = .ok (.invokevirtual 72, 3) := by decide +kernel
theorem dX6_readDigits_84 : decode cX6_readDigits 84 = .ok (.iload_n 1, 1) := by decide +kernel
theorem dX6_readDigits_85 : decode cX6_readDigits 85 = .ok (.ireturn, 1) := by decide +kernel
noncomputable def f6_readDigits_j84 (v1_j84 : Int32) (s6_j84 : OS) : Option (Int32 × OS) := some (v1_j84, s6_j84)
noncomputable def f6_readDigits_j49 (v1_j49 : Int32) (v2_j49 : Int32) (s6_j49 : OS) : Option (Int32 × OS) := if v2_j49 = 0 then (Option.bind (f6_fail ((1 : Int32)) ((s6_j49.1 0 4)) s6_j49) fun q_59 => f6_readDigits_j84 v1_j49 q_59) else (Option.bind (f6_sign s6_j49) fun q_66 => Option.bind (f6_isDigit q_66) fun q_69 => if q_69 = 0 then (f6_readDigits_j84 v1_j49 s6_j49) else (Option.bind (f6_fail ((2 : Int32)) ((s6_j49.1 0 4)) s6_j49) fun q_81 => f6_readDigits_j84 v1_j49 q_81))
noncomputable def f6_readDigits_l4  : Int32 × Int32 × OS → Option ((Int32 × Int32 × OS) ⊕ (Int32 × OS)) := fun t_4 => if (6 : Int32) ≤ t_4.2.1 then (Option.map Sum.inr (f6_readDigits_j49 t_4.1 t_4.2.1 t_4.2.2)) else (Option.bind (f6_sign t_4.2.2) fun q_11 => Option.bind (f6_isDigit q_11) fun q_14 => if q_14 = 0 then (Option.map Sum.inr (f6_readDigits_j49 t_4.1 t_4.2.1 t_4.2.2)) else (Option.bind (f6_sign t_4.2.2) fun q_25 => nm (((((10 : Int32) * t_4.1) + q_25) - (48 : Int32))) fun n_32 => nm (t_4.2.1 + (1 : Int32)) fun n_33 => nm (wI t_4.2.2 0 4 (((t_4.2.2.1 0 4) + (1 : Int32)))) fun s6_43 => some (Sum.inl (n_32, n_33, s6_43))))
noncomputable def f6_readDigits (s6 : OS) : Option (Int32 × OS) := loop (f6_readDigits_l4) ((0 : Int32), (0 : Int32), s6)
set_option maxHeartbeats 4000000 in
set_option maxRecDepth 100000 in
theorem m6_readDigits (l : Launch) (D : va_G) (ad : Nat → Nat) (cy : Nat → ClassId) (sz : Nat) (s0 s1 s2 s3 s4 s5 s6 s7 s8 s9 s10 : OS) (r : Int32 × OS) (h : f6_readDigits s6 = some r) : Met l yX6_readDigits (wsOf yX6_readDigits cX6_readDigits 3 (some .int)) (rmL 1) (va_Pc ([.ref (ad 6)] : List Value) (PreG D cy (cellsC ad cy s0 s1 s2 s3 s4 s5 s6 s7 s8 s9 s10) sz (NC ad))) (QcI D ad 67 (cellsC ad cy s0 s1 s2 s3 s4 s5 r.2 s7 s8 s9 s10) (r.1) sz) 0 0 (Afr ad 67 sz) := by
  refine metG (own := RX6) (by decide) rfl (Nat.le_of_ble_eq_true rfl) fstC ?_ sz
  intro p e s m below meth c ls C0 hw hl
  obtain ⟨hx, hb, hml, hown, hts, hr, hlk, hK, hN⟩ := C0
  have hl : lv_has ls 3 [(0, .ref (ad 6))] := hl
  generalize hQ : MQ below (QcI D ad 67 (cellsC ad cy s0 s1 s2 s3 s4 s5 r.2 s7 s8 s9 s10) (r.1) s.heap.size) ([.ref (ad 6)] : List Value).toArray s 0 0 (Afr ad 67 s.heap.size) = Q
  obtain ⟨H, hH⟩ : ∃ H : Heap, H = s.heap := ⟨_, rfl⟩
  obtain ⟨locs, hlc⟩ : ∃ L : List Loc, L = [] := ⟨_, rfl⟩
  have hw : Wd D (cellsC ad cy s0 s1 s2 s3 s4 s5 s6 s7 s8 s9 s10) (Afr ad 67 s.heap.size) s.heap H locs := by rw [hH, hlc]; exact hw
  suffices h0 : W p l e (rmL 1) s m ([.ref (ad 6)] : List Value).toArray below meth c H locs 0 0 Q (F0 m 0 ls []) by rw [hH, hlc] at h0; exact h0
  clear hH hlc
  unfold f6_readDigits at h
  have hJ_84 : ∀ (v1_j84 : Int32) (s6_j84 : OS) (H : Heap) (locs : List Loc) (ls : Array Slot), f6_readDigits_j84 v1_j84 s6_j84 = some r → Wd D (cellsC ad cy s0 s1 s2 s3 s4 s5 s6_j84 s7 s8 s9 s10) (Afr ad 67 s.heap.size) s.heap H locs → lv_has ls 3 [(1, .int v1_j84)] → W p l e (rmL 1) s m ([.ref (ad 6)] : List Value).toArray below meth c H locs 0 0 Q (F0 m 84 ls []) := by
    intro v1_j84 s6_j84 H locs ls h hw hl
    unfold f6_readDigits_j84 at h
    refine lv_iload_n hx hb dX6_readDigits_84 rfl (lv_at hl 0 rfl) ?_
    have h := Option.some.inj h
    subst h
    rw [← hQ]
    exact retI hx hb hr hlk hw rfl dX6_readDigits_85
  have hJ_49 : ∀ (v1_j49 : Int32) (v2_j49 : Int32) (s6_j49 : OS) (H : Heap) (locs : List Loc) (ls : Array Slot), f6_readDigits_j49 v1_j49 v2_j49 s6_j49 = some r → Wd D (cellsC ad cy s0 s1 s2 s3 s4 s5 s6_j49 s7 s8 s9 s10) (Afr ad 67 s.heap.size) s.heap H locs → lv_has ls 3 [(0, .ref (ad 6)), (1, .int v1_j49), (2, .int v2_j49)] → W p l e (rmL 1) s m ([.ref (ad 6)] : List Value).toArray below meth c H locs 0 0 Q (F0 m 49 ls []) := by
    intro v1_j49 v2_j49 s6_j49 H locs ls h hw hl
    unfold f6_readDigits_j49 at h
    refine lv_iload_n hx hb dX6_readDigits_49 rfl (lv_at hl 2 rfl) ?_
    refine lv_if_ne (tgt := 65) hx hb dX6_readDigits_50 (by decide) (fun c_50 => ?_) (fun c_50 => ?_)
    · have h := ite_f c_50 h
      refine lv_aload_n hx hb dX6_readDigits_65 rfl (lv_at hl 0 rfl) ?_
      obtain ⟨q_66, h_66, h⟩ := bnd_e h
      have pg_66 := preG (av := [.ref (ad 6)]) hK hw.1 hw.2.1 (NC_keep hN hw.2.2) NC_blind
      refine endI (mc := 0) (ms := 0) (va_runV (As := []) (rest := []) ⟨hx, hb, hml, hown, hts⟩ (m6_sign l D ad cy H.size s0 s1 s2 s3 s4 s5 s6_j49 s7 s8 s9 s10 q_66 h_66) (wX6_64 0 hts ⟨Nat.le_of_ble_eq_true rfl, Nat.le_of_ble_eq_true rfl⟩) ⟨pg_66.1, va_recv hK hw.1 (ci := 6) (q0 := 6) rfl eC_6, pg_66.2⟩ rfl rfl hl.1 rfl (lv_room (Nat.le_of_ble_eq_true rfl)) dX6_readDigits_66 ⟨Nat.le_refl _, Nat.le_refl _⟩) hw.2.2 (afr_in hw.2.2) (fun H locs hw => ?_)
      obtain ⟨q_69, h_69, h⟩ := bnd_e h
      have pg_69 := preG (av := [.int q_66]) hK hw.1 hw.2.1 (NC_keep hN hw.2.2) NC_blind
      refine endI (mc := 0) (ms := 0) (va_runS (As := [.int q_66]) (rest := []) ⟨hx, hb, hml, hown, hts⟩ (m6_isDigit l D ad cy H.size s0 s1 s2 s3 s4 s5 s6_j49 s7 s8 s9 s10 q_66 q_69 h_69) (wX6_115 0 hts ⟨Nat.le_of_ble_eq_true rfl, Nat.le_of_ble_eq_true rfl⟩) pg_69 rfl rfl hl.1 rfl (lv_room (Nat.le_of_ble_eq_true rfl)) dX6_readDigits_69 ⟨Nat.le_refl _, Nat.le_refl _⟩) hw.2.2 (afr_in hw.2.2) (fun H locs hw => ?_)
      refine lv_if_eq (tgt := 84) hx hb dX6_readDigits_72 (by decide) (fun c_72 => ?_) (fun c_72 => ?_)
      · have h := ite_t c_72 h
        exact hJ_84 v1_j49 s6_j49 H locs ls h hw (lv_sub hl [1] rfl)
      · have h := ite_f c_72 h
        refine lv_aload_n hx hb dX6_readDigits_75 rfl (lv_at hl 0 rfl) ?_
        refine lv_iconst (v := 2) hx hb dX6_readDigits_76 (by decide) ?_
        refine lv_aload_n hx hb dX6_readDigits_77 rfl (lv_at hl 0 rfl) ?_
        refine gX6_27 hx hb hts hown hK hw dX6_readDigits_78 ?_
        obtain ⟨q_81, h_81, h⟩ := bnd_e h
        have pg_81 := preG (av := [.ref (ad 6), .int ((2 : Int32)), .int ((s6_j49.1 0 4))]) hK hw.1 hw.2.1 (NC_keep hN hw.2.2) NC_blind
        refine endV (mc := 0) (ms := 0) (va_runV (As := [.int ((2 : Int32)), .int ((s6_j49.1 0 4))]) (rest := []) ⟨hx, hb, hml, hown, hts⟩ (m6_fail l D ad cy H.size s0 s1 s2 s3 s4 s5 s6_j49 s7 s8 s9 s10 ((2 : Int32)) ((s6_j49.1 0 4)) q_81 h_81) (wX6_72 0 hts ⟨Nat.le_of_ble_eq_true rfl, Nat.le_of_ble_eq_true rfl⟩) ⟨pg_81.1, va_recv hK hw.1 (ci := 6) (q0 := 6) rfl eC_6, pg_81.2⟩ rfl rfl hl.1 rfl (lv_room (Nat.le_of_ble_eq_true rfl)) dX6_readDigits_81 ⟨Nat.le_refl _, Nat.le_refl _⟩) hw.2.2 (afr_in hw.2.2) (fun H locs hw => ?_)
        exact hJ_84 v1_j49 q_81 H locs ls h hw (lv_sub hl [1] rfl)
    · have h := ite_t c_50 h
      refine lv_aload_n hx hb dX6_readDigits_53 rfl (lv_at hl 0 rfl) ?_
      refine lv_iconst (v := 1) hx hb dX6_readDigits_54 (by decide) ?_
      refine lv_aload_n hx hb dX6_readDigits_55 rfl (lv_at hl 0 rfl) ?_
      refine gX6_27 hx hb hts hown hK hw dX6_readDigits_56 ?_
      obtain ⟨q_59, h_59, h⟩ := bnd_e h
      have pg_59 := preG (av := [.ref (ad 6), .int ((1 : Int32)), .int ((s6_j49.1 0 4))]) hK hw.1 hw.2.1 (NC_keep hN hw.2.2) NC_blind
      refine endV (mc := 0) (ms := 0) (va_runV (As := [.int ((1 : Int32)), .int ((s6_j49.1 0 4))]) (rest := []) ⟨hx, hb, hml, hown, hts⟩ (m6_fail l D ad cy H.size s0 s1 s2 s3 s4 s5 s6_j49 s7 s8 s9 s10 ((1 : Int32)) ((s6_j49.1 0 4)) q_59 h_59) (wX6_72 0 hts ⟨Nat.le_of_ble_eq_true rfl, Nat.le_of_ble_eq_true rfl⟩) ⟨pg_59.1, va_recv hK hw.1 (ci := 6) (q0 := 6) rfl eC_6, pg_59.2⟩ rfl rfl hl.1 rfl (lv_room (Nat.le_of_ble_eq_true rfl)) dX6_readDigits_59 ⟨Nat.le_refl _, Nat.le_refl _⟩) hw.2.2 (afr_in hw.2.2) (fun H locs hw => ?_)
      refine lv_goto (tgt := 84) hx hb dX6_readDigits_62 (by decide) ?_
      exact hJ_84 v1_j49 q_59 H locs ls h hw (lv_sub hl [1] rfl)
  refine lv_iconst (v := 0) hx hb dX6_readDigits_0 (by decide) ?_
  refine lv_istore_n (lv' := [(1, .int ((0 : Int32))), (0, .ref (ad 6))]) hx hb dX6_readDigits_1 rfl hl (by decide) rfl (fun ls hl => ?_)
  refine lv_iconst (v := 0) hx hb dX6_readDigits_2 (by decide) ?_
  refine lv_istore_n (lv' := [(2, .int ((0 : Int32))), (1, .int ((0 : Int32))), (0, .ref (ad 6))]) hx hb dX6_readDigits_3 rfl hl (by decide) rfl (fun ls hl => ?_)
  obtain ⟨n_4, hn_4⟩ := loop_e h
  have hL_4 : ∀ (n : Nat) (t_4 : Int32 × Int32 × OS) (H : Heap) (locs : List Loc) (ls : Array Slot), loopN (f6_readDigits_l4) n t_4 = some r → Wd D (cellsC ad cy s0 s1 s2 s3 s4 s5 t_4.2.2 s7 s8 s9 s10) (Afr ad 67 s.heap.size) s.heap H locs → lv_has ls 3 [(1, .int t_4.1), (2, .int t_4.2.1), (0, .ref (ad 6))] → W p l e (rmL 1) s m ([.ref (ad 6)] : List Value).toArray below meth c H locs 0 0 Q (F0 m 4 ls []) := by
    intro n
    induction n with
    | zero => intro t_4 H locs ls hn; cases hn
    | succ n ih_4 =>
      intro t_4 H locs ls hn hw hl
      obtain ⟨x_4, h, hx_4⟩ := loopN_e hn
      unfold f6_readDigits_l4 at h
      refine lv_iload_n hx hb dX6_readDigits_4 rfl (lv_at hl 1 rfl) ?_
      refine lv_bipush (v := 6) hx hb dX6_readDigits_5 (by decide) ?_
      refine lv_icmp_ge (tgt := 49) hx hb dX6_readDigits_7 (by decide) (fun c_7 => ?_) (fun c_7 => ?_)
      · have h := ite_t c_7 h
        have h := nx_m hx_4 h
        exact hJ_49 t_4.1 t_4.2.1 t_4.2.2 H locs ls h hw (lv_sub hl [2, 0, 1] rfl)
      · have h := ite_f c_7 h
        refine lv_aload_n hx hb dX6_readDigits_10 rfl (lv_at hl 2 rfl) ?_
        obtain ⟨q_11, h_11, h⟩ := bnd_e h
        have pg_11 := preG (av := [.ref (ad 6)]) hK hw.1 hw.2.1 (NC_keep hN hw.2.2) NC_blind
        refine endI (mc := 0) (ms := 0) (va_runV (As := []) (rest := []) ⟨hx, hb, hml, hown, hts⟩ (m6_sign l D ad cy H.size s0 s1 s2 s3 s4 s5 t_4.2.2 s7 s8 s9 s10 q_11 h_11) (wX6_64 0 hts ⟨Nat.le_of_ble_eq_true rfl, Nat.le_of_ble_eq_true rfl⟩) ⟨pg_11.1, va_recv hK hw.1 (ci := 6) (q0 := 6) rfl eC_6, pg_11.2⟩ rfl rfl hl.1 rfl (lv_room (Nat.le_of_ble_eq_true rfl)) dX6_readDigits_11 ⟨Nat.le_refl _, Nat.le_refl _⟩) hw.2.2 (afr_in hw.2.2) (fun H locs hw => ?_)
        obtain ⟨q_14, h_14, h⟩ := bnd_e h
        have pg_14 := preG (av := [.int q_11]) hK hw.1 hw.2.1 (NC_keep hN hw.2.2) NC_blind
        refine endI (mc := 0) (ms := 0) (va_runS (As := [.int q_11]) (rest := []) ⟨hx, hb, hml, hown, hts⟩ (m6_isDigit l D ad cy H.size s0 s1 s2 s3 s4 s5 t_4.2.2 s7 s8 s9 s10 q_11 q_14 h_14) (wX6_115 0 hts ⟨Nat.le_of_ble_eq_true rfl, Nat.le_of_ble_eq_true rfl⟩) pg_14 rfl rfl hl.1 rfl (lv_room (Nat.le_of_ble_eq_true rfl)) dX6_readDigits_14 ⟨Nat.le_refl _, Nat.le_refl _⟩) hw.2.2 (afr_in hw.2.2) (fun H locs hw => ?_)
        refine lv_if_eq (tgt := 49) hx hb dX6_readDigits_17 (by decide) (fun c_17 => ?_) (fun c_17 => ?_)
        · have h := ite_t c_17 h
          have h := nx_m hx_4 h
          exact hJ_49 t_4.1 t_4.2.1 t_4.2.2 H locs ls h hw (lv_sub hl [2, 0, 1] rfl)
        · have h := ite_f c_17 h
          refine lv_bipush (v := 10) hx hb dX6_readDigits_20 (by decide) ?_
          refine lv_iload_n hx hb dX6_readDigits_22 rfl (lv_at hl 0 rfl) ?_
          refine lv_imul hx hb dX6_readDigits_23 ?_
          refine lv_aload_n hx hb dX6_readDigits_24 rfl (lv_at hl 2 rfl) ?_
          obtain ⟨q_25, h_25, h⟩ := bnd_e h
          have pg_25 := preG (av := [.ref (ad 6)]) hK hw.1 hw.2.1 (NC_keep hN hw.2.2) NC_blind
          refine endI (mc := 0) (ms := 0) (va_runV (As := []) (rest := [.int (((10 : Int32) * t_4.1))]) ⟨hx, hb, hml, hown, hts⟩ (m6_sign l D ad cy H.size s0 s1 s2 s3 s4 s5 t_4.2.2 s7 s8 s9 s10 q_25 h_25) (wX6_64 0 hts ⟨Nat.le_of_ble_eq_true rfl, Nat.le_of_ble_eq_true rfl⟩) ⟨pg_25.1, va_recv hK hw.1 (ci := 6) (q0 := 6) rfl eC_6, pg_25.2⟩ rfl rfl hl.1 rfl (lv_room (Nat.le_of_ble_eq_true rfl)) dX6_readDigits_25 ⟨Nat.le_refl _, Nat.le_refl _⟩) hw.2.2 (afr_in hw.2.2) (fun H locs hw => ?_)
          refine lv_iadd hx hb dX6_readDigits_28 ?_
          refine lv_bipush (v := 48) hx hb dX6_readDigits_29 (by decide) ?_
          refine lv_isub hx hb dX6_readDigits_31 ?_
          obtain ⟨n_32, e_32, h⟩ := nam_e h
          refine topI e_32 ?_
          refine lv_istore_n (lv' := [(1, .int n_32), (2, .int t_4.2.1), (0, .ref (ad 6))]) hx hb dX6_readDigits_32 rfl hl (by decide) rfl (fun ls hl => ?_)
          obtain ⟨n_33, e_33, h⟩ := nam_e h
          refine lv_iinc (v := n_33) (lv' := [(2, .int n_33), (1, .int n_32), (0, .ref (ad 6))]) hx hb dX6_readDigits_33 hl (k := 1) rfl (by rw [e_33]; rfl) (by decide) rfl (fun ls hl => ?_)
          refine lv_aload_n hx hb dX6_readDigits_36 rfl (lv_at hl 2 rfl) ?_
          refine lv_dup hx hb dX6_readDigits_37 rfl ?_
          refine gX6_27 hx hb hts hown hK hw dX6_readDigits_38 ?_
          refine lv_iconst (v := 1) hx hb dX6_readDigits_41 (by decide) ?_
          refine lv_iadd hx hb dX6_readDigits_42 ?_
          obtain ⟨s6_43, e_43, h⟩ := nam_e h
          refine pX6_27 hx hb hts hown hK hw e_43 dX6_readDigits_43 (fun H locs hw => ?_)
          refine lv_goto (tgt := 4) hx hb dX6_readDigits_46 (by decide) ?_
          exact ih_4 (n_32, n_33, s6_43) H locs ls (nx_l hx_4 h) hw (lv_sub hl [1, 0, 2] rfl)
  exact hL_4 n_4 ((0 : Int32), (0 : Int32), s6) H locs ls hn_4 hw (lv_sub hl [1, 0, 2] rfl)
theorem dX6_require_0 : decode cX6_require 0 = .ok (.aload_n 0, 1) := by decide +kernel
theorem dX6_require_1 : decode cX6_require 1 = .ok (.invokevirtual 64, 3) := by decide +kernel
theorem dX6_require_4 : decode cX6_require 4 = .ok (.iload_n 1, 1) := by decide +kernel
theorem dX6_require_5 : decode cX6_require 5 = .ok (.if_icmp .ne 16, 3) := by decide +kernel
theorem dX6_require_8 : decode cX6_require 8 = .ok (.aload_n 0, 1) := by decide +kernel
theorem dX6_require_9 : decode cX6_require 9 = .ok (.dup, 1) := by decide +kernel
theorem dX6_require_10 : decode cX6_require 10 = .ok (.getfield 27, 3) := by decide +kernel
theorem dX6_require_13 : decode cX6_require 13 = .ok (.iconst 1, 1) := by decide +kernel
theorem dX6_require_14 : decode cX6_require 14 = .ok (.iadd, 1) := by decide +kernel
theorem dX6_require_15 : decode cX6_require 15 = .ok (.putfield 27, 3) := by decide +kernel
theorem dX6_require_18 : decode cX6_require 18 = .ok (.goto 12, 3) := by decide +kernel
theorem dX6_require_21 : decode cX6_require 21 = .ok (.aload_n 0, 1) := by decide +kernel
theorem dX6_require_22 : decode cX6_require 22 = .ok (.iconst 1, 1) := by decide +kernel
theorem dX6_require_23 : decode cX6_require 23 = .ok (.aload_n 0, 1) := by decide +kernel
theorem dX6_require_24 : decode cX6_require 24 = .ok (.getfield 27, 3) := by decide +kernel
theorem dX6_require_27 : decode cX6_require 27 = .ok (.invokevirtual 72, 3) := by decide +kernel
theorem dX6_require_30 : decode cX6_require 30 = .ok (.return_, 1) := by decide +kernel
def f6_require_j30 (s6_j30 : OS) : Option (OS) := some s6_j30
def f6_require (a1 : Int32) (s6 : OS) : Option (OS) := Option.bind (f6_sign s6) fun q_1 => if q_1 = a1 then (nm (wI s6 0 4 (((s6.1 0 4) + (1 : Int32)))) fun s6_15 => f6_require_j30 s6_15) else (Option.bind (f6_fail ((1 : Int32)) ((s6.1 0 4)) s6) fun q_27 => f6_require_j30 q_27)
set_option maxHeartbeats 4000000 in
set_option maxRecDepth 100000 in
theorem m6_require (l : Launch) (D : va_G) (ad : Nat → Nat) (cy : Nat → ClassId) (sz : Nat) (s0 s1 s2 s3 s4 s5 s6 s7 s8 s9 s10 : OS) (a1 : Int32) (r : OS) (h : f6_require a1 s6 = some r) : Met l yX6_require (wsOf yX6_require cX6_require 2 none) (rmL 1) (va_Pc ([.ref (ad 6), .int a1] : List Value) (PreG D cy (cellsC ad cy s0 s1 s2 s3 s4 s5 s6 s7 s8 s9 s10) sz (NC ad))) (QcV D ad 67 (cellsC ad cy s0 s1 s2 s3 s4 s5 r s7 s8 s9 s10) sz) 0 0 (Afr ad 67 sz) := by
  refine metG (own := RX6) (by decide) rfl (Nat.le_of_ble_eq_true rfl) fstC ?_ sz
  intro p e s m below meth c ls C0 hw hl
  obtain ⟨hx, hb, hml, hown, hts, hr, hlk, hK, hN⟩ := C0
  have hl : lv_has ls 2 [(0, .ref (ad 6)), (1, .int a1)] := hl
  generalize hQ : MQ below (QcV D ad 67 (cellsC ad cy s0 s1 s2 s3 s4 s5 r s7 s8 s9 s10) s.heap.size) ([.ref (ad 6), .int a1] : List Value).toArray s 0 0 (Afr ad 67 s.heap.size) = Q
  obtain ⟨H, hH⟩ : ∃ H : Heap, H = s.heap := ⟨_, rfl⟩
  obtain ⟨locs, hlc⟩ : ∃ L : List Loc, L = [] := ⟨_, rfl⟩
  have hw : Wd D (cellsC ad cy s0 s1 s2 s3 s4 s5 s6 s7 s8 s9 s10) (Afr ad 67 s.heap.size) s.heap H locs := by rw [hH, hlc]; exact hw
  suffices h0 : W p l e (rmL 1) s m ([.ref (ad 6), .int a1] : List Value).toArray below meth c H locs 0 0 Q (F0 m 0 ls []) by rw [hH, hlc] at h0; exact h0
  clear hH hlc
  unfold f6_require at h
  have hJ_30 : ∀ (s6_j30 : OS) (H : Heap) (locs : List Loc) (ls : Array Slot), f6_require_j30 s6_j30 = some r → Wd D (cellsC ad cy s0 s1 s2 s3 s4 s5 s6_j30 s7 s8 s9 s10) (Afr ad 67 s.heap.size) s.heap H locs → lv_has ls 2 [] → W p l e (rmL 1) s m ([.ref (ad 6), .int a1] : List Value).toArray below meth c H locs 0 0 Q (F0 m 30 ls []) := by
    intro s6_j30 H locs ls h hw hl
    unfold f6_require_j30 at h
    have h := Option.some.inj h
    subst h
    rw [← hQ]
    exact retV hx hb hr hlk hw dX6_require_30
  refine lv_aload_n hx hb dX6_require_0 rfl (lv_at hl 0 rfl) ?_
  obtain ⟨q_1, h_1, h⟩ := bnd_e h
  have pg_1 := preG (av := [.ref (ad 6)]) hK hw.1 hw.2.1 (NC_keep hN hw.2.2) NC_blind
  refine endI (mc := 0) (ms := 0) (va_runV (As := []) (rest := []) ⟨hx, hb, hml, hown, hts⟩ (m6_sign l D ad cy H.size s0 s1 s2 s3 s4 s5 s6 s7 s8 s9 s10 q_1 h_1) (wX6_64 0 hts ⟨Nat.le_of_ble_eq_true rfl, Nat.le_of_ble_eq_true rfl⟩) ⟨pg_1.1, va_recv hK hw.1 (ci := 6) (q0 := 6) rfl eC_6, pg_1.2⟩ rfl rfl hl.1 rfl (lv_room (Nat.le_of_ble_eq_true rfl)) dX6_require_1 ⟨Nat.le_refl _, Nat.le_refl _⟩) hw.2.2 (afr_in hw.2.2) (fun H locs hw => ?_)
  refine lv_iload_n hx hb dX6_require_4 rfl (lv_at hl 1 rfl) ?_
  refine lv_icmp_ne (tgt := 21) hx hb dX6_require_5 (by decide) (fun c_5 => ?_) (fun c_5 => ?_)
  · have h := ite_f c_5 h
    refine lv_aload_n hx hb dX6_require_21 rfl (lv_at hl 0 rfl) ?_
    refine lv_iconst (v := 1) hx hb dX6_require_22 (by decide) ?_
    refine lv_aload_n hx hb dX6_require_23 rfl (lv_at hl 0 rfl) ?_
    refine gX6_27 hx hb hts hown hK hw dX6_require_24 ?_
    obtain ⟨q_27, h_27, h⟩ := bnd_e h
    have pg_27 := preG (av := [.ref (ad 6), .int ((1 : Int32)), .int ((s6.1 0 4))]) hK hw.1 hw.2.1 (NC_keep hN hw.2.2) NC_blind
    refine endV (mc := 0) (ms := 0) (va_runV (As := [.int ((1 : Int32)), .int ((s6.1 0 4))]) (rest := []) ⟨hx, hb, hml, hown, hts⟩ (m6_fail l D ad cy H.size s0 s1 s2 s3 s4 s5 s6 s7 s8 s9 s10 ((1 : Int32)) ((s6.1 0 4)) q_27 h_27) (wX6_72 0 hts ⟨Nat.le_of_ble_eq_true rfl, Nat.le_of_ble_eq_true rfl⟩) ⟨pg_27.1, va_recv hK hw.1 (ci := 6) (q0 := 6) rfl eC_6, pg_27.2⟩ rfl rfl hl.1 rfl (lv_room (Nat.le_of_ble_eq_true rfl)) dX6_require_27 ⟨Nat.le_refl _, Nat.le_refl _⟩) hw.2.2 (afr_in hw.2.2) (fun H locs hw => ?_)
    exact hJ_30 q_27 H locs ls h hw (lv_sub hl [] rfl)
  · have h := ite_t c_5 h
    refine lv_aload_n hx hb dX6_require_8 rfl (lv_at hl 0 rfl) ?_
    refine lv_dup hx hb dX6_require_9 rfl ?_
    refine gX6_27 hx hb hts hown hK hw dX6_require_10 ?_
    refine lv_iconst (v := 1) hx hb dX6_require_13 (by decide) ?_
    refine lv_iadd hx hb dX6_require_14 ?_
    obtain ⟨s6_15, e_15, h⟩ := nam_e h
    refine pX6_27 hx hb hts hown hK hw e_15 dX6_require_15 (fun H locs hw => ?_)
    refine lv_goto (tgt := 30) hx hb dX6_require_18 (by decide) ?_
    exact hJ_30 s6_15 H locs ls h hw (lv_sub hl [] rfl)
theorem dX6_readFactor_0 : decode cX6_readFactor 0 = .ok (.aload_n 0, 1) := by decide +kernel
theorem dX6_readFactor_1 : decode cX6_readFactor 1 = .ok (.invokevirtual 64, 3) := by decide +kernel
theorem dX6_readFactor_4 : decode cX6_readFactor 4 = .ok (.istore_n 3, 1) := by decide +kernel
theorem dX6_readFactor_5 : decode cX6_readFactor 5 = .ok (.iload_n 3, 1) := by decide +kernel
theorem dX6_readFactor_6 : decode cX6_readFactor 6 = .ok (.invokestatic 115, 3) := by decide +kernel
theorem dX6_readFactor_9 : decode cX6_readFactor 9 = .ok (.ifCond .eq 9, 3) := by decide +kernel
theorem dX6_readFactor_12 : decode cX6_readFactor 12 = .ok (.aload_n 0, 1) := by decide +kernel
theorem dX6_readFactor_13 : decode cX6_readFactor 13 = .ok (.invokevirtual 118, 3) := by decide +kernel
theorem dX6_readFactor_16 : decode cX6_readFactor 16 = .ok (.i2l, 1) := by decide +kernel
theorem dX6_readFactor_17 : decode cX6_readFactor 17 = .ok (.lreturn, 1) := by decide +kernel
theorem dX6_readFactor_18 : decode cX6_readFactor 18 = .ok (.iload_n 3, 1) := by decide +kernel
theorem dX6_readFactor_19 : decode cX6_readFactor 19 = .ok (.bipush 91, 2) := by decide +kernel
theorem dX6_readFactor_21 : decode cX6_readFactor 21 = .ok (.if_icmp .ne 49, 3) := by decide +kernel
theorem dX6_readFactor_24 : decode cX6_readFactor 24 = .ok (.iload_n 1, 1) := by decide +kernel
theorem dX6_readFactor_25 : decode cX6_readFactor 25 = .ok (.bipush 6, 2) := by decide +kernel
theorem dX6_readFactor_27 : decode cX6_readFactor 27 = .ok (.if_icmp .lt 14, 3) := by decide +kernel
theorem dX6_readFactor_30 : decode cX6_readFactor 30 = .ok (.aload_n 0, 1) := by decide +kernel
theorem dX6_readFactor_31 : decode cX6_readFactor 31 = .ok (.iconst 5, 1) := by decide +kernel
theorem dX6_readFactor_32 : decode cX6_readFactor 32 = .ok (.aload_n 0, 1) := by decide +kernel
theorem dX6_readFactor_33 : decode cX6_readFactor 33 = .ok (.getfield 27, 3) := by decide +kernel
theorem dX6_readFactor_36 : decode cX6_readFactor 36 = .ok (.invokevirtual 72, 3) := by decide +kernel
theorem dX6_readFactor_39 : decode cX6_readFactor 39 = .ok (.lconst 0, 1) := by decide +kernel
theorem dX6_readFactor_40 : decode cX6_readFactor 40 = .ok (.lreturn, 1) := by decide +kernel
theorem dX6_readFactor_41 : decode cX6_readFactor 41 = .ok (.aload_n 0, 1) := by decide +kernel
theorem dX6_readFactor_42 : decode cX6_readFactor 42 = .ok (.dup, 1) := by decide +kernel
theorem dX6_readFactor_43 : decode cX6_readFactor 43 = .ok (.getfield 27, 3) := by decide +kernel
theorem dX6_readFactor_46 : decode cX6_readFactor 46 = .ok (.iconst 1, 1) := by decide +kernel
theorem dX6_readFactor_47 : decode cX6_readFactor 47 = .ok (.iadd, 1) := by decide +kernel
theorem dX6_readFactor_48 : decode cX6_readFactor 48 = .ok (.putfield 27, 3) := by decide +kernel
theorem dX6_readFactor_51 : decode cX6_readFactor 51 = .ok (.aload_n 0, 1) := by decide +kernel
theorem dX6_readFactor_52 : decode cX6_readFactor 52 = .ok (.iload_n 1, 1) := by decide +kernel
theorem dX6_readFactor_53 : decode cX6_readFactor 53 = .ok (.iconst 1, 1) := by decide +kernel
theorem dX6_readFactor_54 : decode cX6_readFactor 54 = .ok (.iadd, 1) := by decide +kernel
theorem dX6_readFactor_55 : decode cX6_readFactor 55 = .ok (.iload_n 2, 1) := by decide +kernel
theorem dX6_readFactor_56 : decode cX6_readFactor 56 = .ok (.invokevirtual 98, 3) := by decide +kernel
theorem dX6_readFactor_59 : decode cX6_readFactor 59 = .ok (.lstore 4, 2) := by decide +kernel
theorem dX6_readFactor_61 : decode cX6_readFactor 61 = .ok (.aload_n 0, 1) := by decide +kernel
theorem dX6_readFactor_62 : decode cX6_readFactor 62 = .ok (.bipush 93, 2) := by decide +kernel
theorem dX6_readFactor_64 : decode cX6_readFactor 64 = .ok (.invokevirtual 83, 3) := by decide +kernel
theorem dX6_readFactor_67 : decode cX6_readFactor 67 = .ok (.lload 4, 2) := by decide +kernel
theorem dX6_readFactor_69 : decode cX6_readFactor 69 = .ok (.lreturn, 1) := by decide +kernel
theorem dX6_readFactor_70 : decode cX6_readFactor 70 = .ok (.iload_n 3, 1) := by decide +kernel
theorem dX6_readFactor_71 : decode cX6_readFactor 71 = .ok (.iconst (-1), 1) := by decide +kernel
theorem dX6_readFactor_72 : decode cX6_readFactor 72 = .ok (.if_icmp .ne 7, 3) := by decide +kernel
theorem dX6_readFactor_75 : decode cX6_readFactor 75 = .ok (.iconst (-1), 1) := by decide +kernel
theorem dX6_readFactor_76 : decode cX6_readFactor 76 = .ok (.goto 10, 3) := by decide +kernel
theorem dX6_readFactor_79 : decode cX6_readFactor 79 = .ok (.ldc 52, 2) := by decide +kernel
theorem dX6_readFactor_81 : decode cX6_readFactor 81 = .ok (.iload_n 3, 1) := by decide +kernel
theorem dX6_readFactor_82 : decode cX6_readFactor 82 = .ok (.i2c, 1) := by decide +kernel
theorem dX6_readFactor_83 : decode cX6_readFactor 83 = .ok (.invokevirtual 54, 3) := by decide +kernel
theorem dX6_readFactor_86 : decode cX6_readFactor 86 = .ok (.istore 4, 2) := by decide +kernel
theorem dX6_readFactor_88 : decode cX6_readFactor 88 = .ok (.iload 4, 2) := by decide +kernel
theorem dX6_readFactor_90 : decode cX6_readFactor 90 = .ok (.ifCond .lt 13, 3) := by decide +kernel
theorem dX6_readFactor_93 : decode cX6_readFactor 93 = .ok (.iload 4, 2) := by decide +kernel
theorem dX6_readFactor_95 : decode cX6_readFactor 95 = .ok (.aload_n 0, 1) := by decide +kernel
theorem dX6_readFactor_96 : decode cX6_readFactor 96 = .ok (.getfield 19, 3) := by decide +kernel
theorem dX6_readFactor_99 : decode cX6_readFactor 99 = .ok (.arraylength, 1) := by decide +kernel
theorem dX6_readFactor_100 : decode cX6_readFactor 100 = .ok (.if_icmp .lt 14, 3) := by decide +kernel
theorem dX6_readFactor_103 : decode cX6_readFactor 103 = .ok (.aload_n 0, 1) := by decide +kernel
theorem dX6_readFactor_104 : decode cX6_readFactor 104 = .ok (.iconst 1, 1) := by decide +kernel
theorem dX6_readFactor_105 : decode cX6_readFactor 105 = .ok (.aload_n 0, 1) := by decide +kernel
theorem dX6_readFactor_106 : decode cX6_readFactor 106 = .ok (.getfield 27, 3) := by decide +kernel
theorem dX6_readFactor_109 : decode cX6_readFactor 109 = .ok (.invokevirtual 72, 3) := by decide +kernel
theorem dX6_readFactor_112 : decode cX6_readFactor 112 = .ok (.lconst 0, 1) := by decide +kernel
theorem dX6_readFactor_113 : decode cX6_readFactor 113 = .ok (.lreturn, 1) := by decide +kernel
theorem dX6_readFactor_114 : decode cX6_readFactor 114 = .ok (.aload_n 0, 1) := by decide +kernel
theorem dX6_readFactor_115 : decode cX6_readFactor 115 = .ok (.dup, 1) := by decide +kernel
theorem dX6_readFactor_116 : decode cX6_readFactor 116 = .ok (.getfield 27, 3) := by decide +kernel
theorem dX6_readFactor_119 : decode cX6_readFactor 119 = .ok (.iconst 1, 1) := by decide +kernel
theorem dX6_readFactor_120 : decode cX6_readFactor 120 = .ok (.iadd, 1) := by decide +kernel
theorem dX6_readFactor_121 : decode cX6_readFactor 121 = .ok (.putfield 27, 3) := by decide +kernel
theorem dX6_readFactor_124 : decode cX6_readFactor 124 = .ok (.aload_n 0, 1) := by decide +kernel
theorem dX6_readFactor_125 : decode cX6_readFactor 125 = .ok (.getfield 19, 3) := by decide +kernel
theorem dX6_readFactor_128 : decode cX6_readFactor 128 = .ok (.iload 4, 2) := by decide +kernel
theorem dX6_readFactor_130 : decode cX6_readFactor 130 = .ok (.laload, 1) := by decide +kernel
theorem dX6_readFactor_131 : decode cX6_readFactor 131 = .ok (.lreturn, 1) := by decide +kernel
noncomputable def f6_readFactor_j103 (rs : Int32 → Int32 → OS → Option (Int64 × OS)) (s6_j103 : OS) : Option (Int64 × OS) := Option.bind (f6_fail ((1 : Int32)) ((s6_j103.1 0 4)) s6_j103) fun q_109 => some ((0 : Int64), q_109)
noncomputable def f6_readFactor_j86 (rs : Int32 → Int32 → OS → Option (Int64 × OS)) (k0_j86 : Int32) (s6_j86 : OS) : Option (Int64 × OS) := if k0_j86 < 0 then (f6_readFactor_j103 rs s6_j86) else (if k0_j86 < (9 : Int32) then (nm (wI s6_j86 0 4 (((s6_j86.1 0 4) + (1 : Int32)))) fun s6_121 => chk (inb k0_j86 9) (nm (s6_121.2 3 k0_j86.toNatClampNeg) fun y_130 => some (y_130, s6_121))) else (f6_readFactor_j103 rs s6_j86))
noncomputable def f6_readFactor (rs : Int32 → Int32 → OS → Option (Int64 × OS)) (a1 : Int32) (a2 : Int32) (s6 : OS) : Option (Int64 × OS) := Option.bind (f6_sign s6) fun q_1 => Option.bind (f6_isDigit q_1) fun q_6 => if q_6 = 0 then (if q_1 = (91 : Int32) then (if a1 < (6 : Int32) then (nm (wI s6 0 4 (((s6.1 0 4) + (1 : Int32)))) fun s6_48 => Option.bind (rs ((a1 + (1 : Int32))) a2 s6_48) fun q_56 => Option.bind (f6_require ((93 : Int32)) q_56.2) fun q_64 => some (q_56.1, q_64)) else (Option.bind (f6_fail ((5 : Int32)) ((s6.1 0 4)) s6) fun q_36 => some ((0 : Int64), q_36))) else (if q_1 = (-1 : Int32) then (f6_readFactor_j86 rs ((-1 : Int32)) s6) else (f6_readFactor_j86 rs ((ixOf (((q_1).toUInt32 % 65536).toInt32))) s6))) else (Option.bind (f6_readDigits s6) fun q_13 => some ((q_13.1).toInt64, q_13.2))
set_option maxHeartbeats 4000000 in
set_option maxRecDepth 100000 in
theorem m6_readFactor (l : Launch) (rs : Int32 → Int32 → OS → Option (Int64 × OS)) (j : Nat) (hj : 12 ≤ j) (hrs : ∀ (D : va_G) (ad : Nat → Nat) (cy : Nat → ClassId) (sz : Nat) (s0 s1 s2 s3 s4 s5 s6 s7 s8 s9 s10 : OS) (a1 : Int32) (a2 : Int32) (r : Int64 × OS), rs a1 a2 s6 = some r → Met l yX6_readSum (wsOf yX6_readSum cX6_readSum 9 (some .long)) (rmL (j)) (va_Pc ([.ref (ad 6), .int a1, .int a2] : List Value) (PreG D cy (cellsC ad cy s0 s1 s2 s3 s4 s5 s6 s7 s8 s9 s10) sz (NC ad))) (QcL D ad 67 (cellsC ad cy s0 s1 s2 s3 s4 s5 r.2 s7 s8 s9 s10) (r.1) sz) 0 0 (Afr ad 67 sz)) (D : va_G) (ad : Nat → Nat) (cy : Nat → ClassId) (sz : Nat) (s0 s1 s2 s3 s4 s5 s6 s7 s8 s9 s10 : OS) (a1 : Int32) (a2 : Int32) (r : Int64 × OS) (h : f6_readFactor rs a1 a2 s6 = some r) : Met l yX6_readFactor (wsOf yX6_readFactor cX6_readFactor 6 (some .long)) (rmL (j + 1)) (va_Pc ([.ref (ad 6), .int a1, .int a2] : List Value) (PreG D cy (cellsC ad cy s0 s1 s2 s3 s4 s5 s6 s7 s8 s9 s10) sz (NC ad))) (QcL D ad 67 (cellsC ad cy s0 s1 s2 s3 s4 s5 r.2 s7 s8 s9 s10) (r.1) sz) 0 0 (Afr ad 67 sz) := by
  refine metG (own := RX6) (by decide) rfl (Nat.le_of_ble_eq_true rfl) fstC ?_ sz
  intro p e s m below meth c ls C0 hw hl
  obtain ⟨hx, hb, hml, hown, hts, hr, hlk, hK, hN⟩ := C0
  have hl : lv_has ls 6 [(0, .ref (ad 6)), (1, .int a1), (2, .int a2)] := hl
  generalize hQ : MQ below (QcL D ad 67 (cellsC ad cy s0 s1 s2 s3 s4 s5 r.2 s7 s8 s9 s10) (r.1) s.heap.size) ([.ref (ad 6), .int a1, .int a2] : List Value).toArray s 0 0 (Afr ad 67 s.heap.size) = Q
  obtain ⟨H, hH⟩ : ∃ H : Heap, H = s.heap := ⟨_, rfl⟩
  obtain ⟨locs, hlc⟩ : ∃ L : List Loc, L = [] := ⟨_, rfl⟩
  have hw : Wd D (cellsC ad cy s0 s1 s2 s3 s4 s5 s6 s7 s8 s9 s10) (Afr ad 67 s.heap.size) s.heap H locs := by rw [hH, hlc]; exact hw
  suffices h0 : W p l e (rmL (j + 1)) s m ([.ref (ad 6), .int a1, .int a2] : List Value).toArray below meth c H locs 0 0 Q (F0 m 0 ls []) by rw [hH, hlc] at h0; exact h0
  clear hH hlc
  unfold f6_readFactor at h
  have hJ_103 : ∀ (s6_j103 : OS) (H : Heap) (locs : List Loc) (ls : Array Slot), f6_readFactor_j103 rs s6_j103 = some r → Wd D (cellsC ad cy s0 s1 s2 s3 s4 s5 s6_j103 s7 s8 s9 s10) (Afr ad 67 s.heap.size) s.heap H locs → lv_has ls 6 [(0, .ref (ad 6))] → W p l e (rmL (j + 1)) s m ([.ref (ad 6), .int a1, .int a2] : List Value).toArray below meth c H locs 0 0 Q (F0 m 103 ls []) := by
    intro s6_j103 H locs ls h hw hl
    unfold f6_readFactor_j103 at h
    refine lv_aload_n hx hb dX6_readFactor_103 rfl (lv_at hl 0 rfl) ?_
    refine lv_iconst (v := 1) hx hb dX6_readFactor_104 (by decide) ?_
    refine lv_aload_n hx hb dX6_readFactor_105 rfl (lv_at hl 0 rfl) ?_
    refine gX6_27 hx hb hts hown hK hw dX6_readFactor_106 ?_
    obtain ⟨q_109, h_109, h⟩ := bnd_e h
    have pg_109 := preG (av := [.ref (ad 6), .int ((1 : Int32)), .int ((s6_j103.1 0 4))]) hK hw.1 hw.2.1 (NC_keep hN hw.2.2) NC_blind
    refine endV (mc := 0) (ms := 0) (va_runV (As := [.int ((1 : Int32)), .int ((s6_j103.1 0 4))]) (rest := []) ⟨hx, hb, hml, hown, hts⟩ (m6_fail l D ad cy H.size s0 s1 s2 s3 s4 s5 s6_j103 s7 s8 s9 s10 ((1 : Int32)) ((s6_j103.1 0 4)) q_109 h_109) (wX6_72 0 hts ⟨by show 0 + 1 ≤ (j + 1); omega, by show 8 + (3 + 11) + 40 * 0 ≤ 40 * (j + 1); omega⟩) ⟨pg_109.1, va_recv hK hw.1 (ci := 6) (q0 := 6) rfl eC_6, pg_109.2⟩ rfl rfl hl.1 rfl (lv_room (Nat.le_of_ble_eq_true rfl)) dX6_readFactor_109 ⟨Nat.le_refl _, Nat.le_refl _⟩) hw.2.2 (afr_in hw.2.2) (fun H locs hw => ?_)
    refine lv_lconst (v := 0) hx hb dX6_readFactor_112 (by decide) ?_
    have h := Option.some.inj h
    subst h
    rw [← hQ]
    exact retL hx hb hr hlk hw dX6_readFactor_113
  have hJ_86 : ∀ (k0_j86 : Int32) (s6_j86 : OS) (H : Heap) (locs : List Loc) (ls : Array Slot), f6_readFactor_j86 rs k0_j86 s6_j86 = some r → Wd D (cellsC ad cy s0 s1 s2 s3 s4 s5 s6_j86 s7 s8 s9 s10) (Afr ad 67 s.heap.size) s.heap H locs → lv_has ls 6 [(0, .ref (ad 6))] → W p l e (rmL (j + 1)) s m ([.ref (ad 6), .int a1, .int a2] : List Value).toArray below meth c H locs 0 0 Q (F0 m 86 ls [.int k0_j86]) := by
    intro k0_j86 s6_j86 H locs ls h hw hl
    unfold f6_readFactor_j86 at h
    refine lv_istore (lv' := [(4, .int k0_j86), (0, .ref (ad 6))]) hx hb dX6_readFactor_86 hl (by decide) rfl (fun ls hl => ?_)
    refine lv_iload hx hb dX6_readFactor_88 (lv_at hl 0 rfl) ?_
    refine lv_if_lt (tgt := 103) hx hb dX6_readFactor_90 (by decide) (fun c_90 => ?_) (fun c_90 => ?_)
    · have h := ite_t c_90 h
      exact hJ_103 s6_j86 H locs ls h hw (lv_sub hl [1] rfl)
    · have h := ite_f c_90 h
      refine lv_iload hx hb dX6_readFactor_93 (lv_at hl 0 rfl) ?_
      refine lv_aload_n hx hb dX6_readFactor_95 rfl (lv_at hl 1 rfl) ?_
      refine gX6_19 hx hb hts hown hK hw dX6_readFactor_96 ?_
      refine va_alen (v := 9) hx hb hK hw.1 54 1 eC_54 rfl rfl dX6_readFactor_99 ?_
      refine lv_icmp_lt (tgt := 114) hx hb dX6_readFactor_100 (by decide) (fun c_100 => ?_) (fun c_100 => ?_)
      · have h := ite_t c_100 h
        refine lv_aload_n hx hb dX6_readFactor_114 rfl (lv_at hl 1 rfl) ?_
        refine lv_dup hx hb dX6_readFactor_115 rfl ?_
        refine gX6_27 hx hb hts hown hK hw dX6_readFactor_116 ?_
        refine lv_iconst (v := 1) hx hb dX6_readFactor_119 (by decide) ?_
        refine lv_iadd hx hb dX6_readFactor_120 ?_
        obtain ⟨s6_121, e_121, h⟩ := nam_e h
        refine pX6_27 hx hb hts hown hK hw e_121 dX6_readFactor_121 (fun H locs hw => ?_)
        refine lv_aload_n hx hb dX6_readFactor_124 rfl (lv_at hl 1 rfl) ?_
        refine gX6_19 hx hb hts hown hK hw dX6_readFactor_125 ?_
        refine lv_iload hx hb dX6_readFactor_128 (lv_at hl 0 rfl) ?_
        obtain ⟨hi_130, h⟩ := chk_e h
        obtain ⟨y_130, e_130, h⟩ := nam_e h
        refine lC54 hx hb hK hw hi_130 e_130 dX6_readFactor_130 ?_
        have h := Option.some.inj h
        subst h
        rw [← hQ]
        exact retL hx hb hr hlk hw dX6_readFactor_131
      · have h := ite_f c_100 h
        exact hJ_103 s6_j86 H locs ls h hw (lv_sub hl [1] rfl)
  refine lv_aload_n hx hb dX6_readFactor_0 rfl (lv_at hl 0 rfl) ?_
  obtain ⟨q_1, h_1, h⟩ := bnd_e h
  have pg_1 := preG (av := [.ref (ad 6)]) hK hw.1 hw.2.1 (NC_keep hN hw.2.2) NC_blind
  refine endI (mc := 0) (ms := 0) (va_runV (As := []) (rest := []) ⟨hx, hb, hml, hown, hts⟩ (m6_sign l D ad cy H.size s0 s1 s2 s3 s4 s5 s6 s7 s8 s9 s10 q_1 h_1) (wX6_64 0 hts ⟨by show 0 + 1 ≤ (j + 1); omega, by show 8 + (1 + 11) + 40 * 0 ≤ 40 * (j + 1); omega⟩) ⟨pg_1.1, va_recv hK hw.1 (ci := 6) (q0 := 6) rfl eC_6, pg_1.2⟩ rfl rfl hl.1 rfl (lv_room (Nat.le_of_ble_eq_true rfl)) dX6_readFactor_1 ⟨Nat.le_refl _, Nat.le_refl _⟩) hw.2.2 (afr_in hw.2.2) (fun H locs hw => ?_)
  refine lv_istore_n (lv' := [(3, .int q_1), (0, .ref (ad 6)), (1, .int a1), (2, .int a2)]) hx hb dX6_readFactor_4 rfl hl (by decide) rfl (fun ls hl => ?_)
  refine lv_iload_n hx hb dX6_readFactor_5 rfl (lv_at hl 0 rfl) ?_
  obtain ⟨q_6, h_6, h⟩ := bnd_e h
  have pg_6 := preG (av := [.int q_1]) hK hw.1 hw.2.1 (NC_keep hN hw.2.2) NC_blind
  refine endI (mc := 0) (ms := 0) (va_runS (As := [.int q_1]) (rest := []) ⟨hx, hb, hml, hown, hts⟩ (m6_isDigit l D ad cy H.size s0 s1 s2 s3 s4 s5 s6 s7 s8 s9 s10 q_1 q_6 h_6) (wX6_115 0 hts ⟨by show 0 + 1 ≤ (j + 1); omega, by show 8 + (1 + 11) + 40 * 0 ≤ 40 * (j + 1); omega⟩) pg_6 rfl rfl hl.1 rfl (lv_room (Nat.le_of_ble_eq_true rfl)) dX6_readFactor_6 ⟨Nat.le_refl _, Nat.le_refl _⟩) hw.2.2 (afr_in hw.2.2) (fun H locs hw => ?_)
  refine lv_if_eq (tgt := 18) hx hb dX6_readFactor_9 (by decide) (fun c_9 => ?_) (fun c_9 => ?_)
  · have h := ite_t c_9 h
    refine lv_iload_n hx hb dX6_readFactor_18 rfl (lv_at hl 0 rfl) ?_
    refine lv_bipush (v := 91) hx hb dX6_readFactor_19 (by decide) ?_
    refine lv_icmp_ne (tgt := 70) hx hb dX6_readFactor_21 (by decide) (fun c_21 => ?_) (fun c_21 => ?_)
    · have h := ite_f c_21 h
      refine lv_iload_n hx hb dX6_readFactor_70 rfl (lv_at hl 0 rfl) ?_
      refine lv_iconst (v := (-1)) hx hb dX6_readFactor_71 (by decide) ?_
      refine lv_icmp_ne (tgt := 79) hx hb dX6_readFactor_72 (by decide) (fun c_72 => ?_) (fun c_72 => ?_)
      · have h := ite_f c_72 h
        obtain ⟨kS, vS, hkR, hkS⟩ := hN.2.2.2.1
        refine va_ldcS hx hb hown hkR dX6_readFactor_79 ?_
        refine lv_iload_n hx hb dX6_readFactor_81 rfl (lv_at hl 0 rfl) ?_
        refine lv_i2c hx hb dX6_readFactor_82 rfl ?_
        refine ixCall hx hb hml hts hown hK hN hkS hw hl.1 (Nat.le_of_ble_eq_true rfl) ⟨by show 10 ≤ (j + 1); omega, by show 400 ≤ 40 * (j + 1); omega⟩ dX6_readFactor_83 (fun H locs hw => ?_)
        exact hJ_86 ((ixOf (((q_1).toUInt32 % 65536).toInt32))) s6 H locs ls h hw (lv_sub hl [1] rfl)
      · have h := ite_t c_72 h
        refine lv_iconst (v := (-1)) hx hb dX6_readFactor_75 (by decide) ?_
        refine lv_goto (tgt := 86) hx hb dX6_readFactor_76 (by decide) ?_
        exact hJ_86 ((-1 : Int32)) s6 H locs ls h hw (lv_sub hl [1] rfl)
    · have h := ite_t c_21 h
      refine lv_iload_n hx hb dX6_readFactor_24 rfl (lv_at hl 2 rfl) ?_
      refine lv_bipush (v := 6) hx hb dX6_readFactor_25 (by decide) ?_
      refine lv_icmp_lt (tgt := 41) hx hb dX6_readFactor_27 (by decide) (fun c_27 => ?_) (fun c_27 => ?_)
      · have h := ite_t c_27 h
        refine lv_aload_n hx hb dX6_readFactor_41 rfl (lv_at hl 1 rfl) ?_
        refine lv_dup hx hb dX6_readFactor_42 rfl ?_
        refine gX6_27 hx hb hts hown hK hw dX6_readFactor_43 ?_
        refine lv_iconst (v := 1) hx hb dX6_readFactor_46 (by decide) ?_
        refine lv_iadd hx hb dX6_readFactor_47 ?_
        obtain ⟨s6_48, e_48, h⟩ := nam_e h
        refine pX6_27 hx hb hts hown hK hw e_48 dX6_readFactor_48 (fun H locs hw => ?_)
        refine lv_aload_n hx hb dX6_readFactor_51 rfl (lv_at hl 1 rfl) ?_
        refine lv_iload_n hx hb dX6_readFactor_52 rfl (lv_at hl 2 rfl) ?_
        refine lv_iconst (v := 1) hx hb dX6_readFactor_53 (by decide) ?_
        refine lv_iadd hx hb dX6_readFactor_54 ?_
        refine lv_iload_n hx hb dX6_readFactor_55 rfl (lv_at hl 3 rfl) ?_
        obtain ⟨q_56, h_56, h⟩ := bnd_e h
        have pg_56 := preG (av := [.ref (ad 6), .int ((a1 + (1 : Int32))), .int a2]) hK hw.1 hw.2.1 (NC_keep hN hw.2.2) NC_blind
        refine endL (mc := 0) (ms := 0) (va_runV (As := [.int ((a1 + (1 : Int32))), .int a2]) (rest := []) ⟨hx, hb, hml, hown, hts⟩ (hrs D ad cy H.size s0 s1 s2 s3 s4 s5 s6_48 s7 s8 s9 s10 ((a1 + (1 : Int32))) a2 q_56 h_56) (wX6_98 j hts ⟨by show j + 1 ≤ (j + 1); omega, by show 8 + (9 + 11) + 40 * j ≤ 40 * (j + 1); omega⟩) ⟨pg_56.1, va_recv hK hw.1 (ci := 6) (q0 := 6) rfl eC_6, pg_56.2⟩ rfl rfl hl.1 rfl (lv_room (Nat.le_of_ble_eq_true rfl)) dX6_readFactor_56 ⟨Nat.le_refl _, Nat.le_refl _⟩) hw.2.2 (afr_in hw.2.2) (fun H locs hw => ?_)
        refine lv_lstore (lv' := [(4, .long q_56.1), (3, .int q_1), (0, .ref (ad 6)), (1, .int a1), (2, .int a2)]) hx hb dX6_readFactor_59 hl (by decide) rfl (fun ls hl => ?_)
        refine lv_aload_n hx hb dX6_readFactor_61 rfl (lv_at hl 2 rfl) ?_
        refine lv_bipush (v := 93) hx hb dX6_readFactor_62 (by decide) ?_
        obtain ⟨q_64, h_64, h⟩ := bnd_e h
        have pg_64 := preG (av := [.ref (ad 6), .int ((93 : Int32))]) hK hw.1 hw.2.1 (NC_keep hN hw.2.2) NC_blind
        refine endV (mc := 0) (ms := 0) (va_runV (As := [.int ((93 : Int32))]) (rest := []) ⟨hx, hb, hml, hown, hts⟩ (m6_require l D ad cy H.size s0 s1 s2 s3 s4 s5 q_56.2 s7 s8 s9 s10 ((93 : Int32)) q_64 h_64) (wX6_83 1 hts ⟨by show 1 + 1 ≤ (j + 1); omega, by show 8 + (2 + 11) + 40 * 1 ≤ 40 * (j + 1); omega⟩) ⟨pg_64.1, va_recv hK hw.1 (ci := 6) (q0 := 6) rfl eC_6, pg_64.2⟩ rfl rfl hl.1 rfl (lv_room (Nat.le_of_ble_eq_true rfl)) dX6_readFactor_64 ⟨Nat.le_refl _, Nat.le_refl _⟩) hw.2.2 (afr_in hw.2.2) (fun H locs hw => ?_)
        refine lv_lload hx hb dX6_readFactor_67 (lv_at hl 0 rfl) ?_
        have h := Option.some.inj h
        subst h
        rw [← hQ]
        exact retL hx hb hr hlk hw dX6_readFactor_69
      · have h := ite_f c_27 h
        refine lv_aload_n hx hb dX6_readFactor_30 rfl (lv_at hl 1 rfl) ?_
        refine lv_iconst (v := 5) hx hb dX6_readFactor_31 (by decide) ?_
        refine lv_aload_n hx hb dX6_readFactor_32 rfl (lv_at hl 1 rfl) ?_
        refine gX6_27 hx hb hts hown hK hw dX6_readFactor_33 ?_
        obtain ⟨q_36, h_36, h⟩ := bnd_e h
        have pg_36 := preG (av := [.ref (ad 6), .int ((5 : Int32)), .int ((s6.1 0 4))]) hK hw.1 hw.2.1 (NC_keep hN hw.2.2) NC_blind
        refine endV (mc := 0) (ms := 0) (va_runV (As := [.int ((5 : Int32)), .int ((s6.1 0 4))]) (rest := []) ⟨hx, hb, hml, hown, hts⟩ (m6_fail l D ad cy H.size s0 s1 s2 s3 s4 s5 s6 s7 s8 s9 s10 ((5 : Int32)) ((s6.1 0 4)) q_36 h_36) (wX6_72 0 hts ⟨by show 0 + 1 ≤ (j + 1); omega, by show 8 + (3 + 11) + 40 * 0 ≤ 40 * (j + 1); omega⟩) ⟨pg_36.1, va_recv hK hw.1 (ci := 6) (q0 := 6) rfl eC_6, pg_36.2⟩ rfl rfl hl.1 rfl (lv_room (Nat.le_of_ble_eq_true rfl)) dX6_readFactor_36 ⟨Nat.le_refl _, Nat.le_refl _⟩) hw.2.2 (afr_in hw.2.2) (fun H locs hw => ?_)
        refine lv_lconst (v := 0) hx hb dX6_readFactor_39 (by decide) ?_
        have h := Option.some.inj h
        subst h
        rw [← hQ]
        exact retL hx hb hr hlk hw dX6_readFactor_40
  · have h := ite_f c_9 h
    refine lv_aload_n hx hb dX6_readFactor_12 rfl (lv_at hl 1 rfl) ?_
    obtain ⟨q_13, h_13, h⟩ := bnd_e h
    have pg_13 := preG (av := [.ref (ad 6)]) hK hw.1 hw.2.1 (NC_keep hN hw.2.2) NC_blind
    refine endI (mc := 0) (ms := 0) (va_runV (As := []) (rest := []) ⟨hx, hb, hml, hown, hts⟩ (m6_readDigits l D ad cy H.size s0 s1 s2 s3 s4 s5 s6 s7 s8 s9 s10 q_13 h_13) (wX6_118 1 hts ⟨by show 1 + 1 ≤ (j + 1); omega, by show 8 + (3 + 11) + 40 * 1 ≤ 40 * (j + 1); omega⟩) ⟨pg_13.1, va_recv hK hw.1 (ci := 6) (q0 := 6) rfl eC_6, pg_13.2⟩ rfl rfl hl.1 rfl (lv_room (Nat.le_of_ble_eq_true rfl)) dX6_readFactor_13 ⟨Nat.le_refl _, Nat.le_refl _⟩) hw.2.2 (afr_in hw.2.2) (fun H locs hw => ?_)
    refine lv_i2l hx hb dX6_readFactor_16 rfl ?_
    have h := Option.some.inj h
    subst h
    rw [← hQ]
    exact retL hx hb hr hlk hw dX6_readFactor_17
theorem dX6_readProduct_0 : decode cX6_readProduct 0 = .ok (.aload_n 0, 1) := by decide +kernel
theorem dX6_readProduct_1 : decode cX6_readProduct 1 = .ok (.iload_n 1, 1) := by decide +kernel
theorem dX6_readProduct_2 : decode cX6_readProduct 2 = .ok (.iload_n 2, 1) := by decide +kernel
theorem dX6_readProduct_3 : decode cX6_readProduct 3 = .ok (.invokevirtual 112, 3) := by decide +kernel
theorem dX6_readProduct_6 : decode cX6_readProduct 6 = .ok (.lstore_n 3, 1) := by decide +kernel
theorem dX6_readProduct_7 : decode cX6_readProduct 7 = .ok (.iconst 0, 1) := by decide +kernel
theorem dX6_readProduct_8 : decode cX6_readProduct 8 = .ok (.istore 5, 2) := by decide +kernel
theorem dX6_readProduct_10 : decode cX6_readProduct 10 = .ok (.iload 5, 2) := by decide +kernel
theorem dX6_readProduct_12 : decode cX6_readProduct 12 = .ok (.sipush 160, 3) := by decide +kernel
theorem dX6_readProduct_15 : decode cX6_readProduct 15 = .ok (.if_icmp .ge 124, 3) := by decide +kernel
theorem dX6_readProduct_18 : decode cX6_readProduct 18 = .ok (.aload_n 0, 1) := by decide +kernel
theorem dX6_readProduct_19 : decode cX6_readProduct 19 = .ok (.invokevirtual 64, 3) := by decide +kernel
theorem dX6_readProduct_22 : decode cX6_readProduct 22 = .ok (.bipush 42, 2) := by decide +kernel
theorem dX6_readProduct_24 : decode cX6_readProduct 24 = .ok (.if_icmp .eq 21, 3) := by decide +kernel
theorem dX6_readProduct_27 : decode cX6_readProduct 27 = .ok (.aload_n 0, 1) := by decide +kernel
theorem dX6_readProduct_28 : decode cX6_readProduct 28 = .ok (.invokevirtual 64, 3) := by decide +kernel
theorem dX6_readProduct_31 : decode cX6_readProduct 31 = .ok (.bipush 47, 2) := by decide +kernel
theorem dX6_readProduct_33 : decode cX6_readProduct 33 = .ok (.if_icmp .eq 12, 3) := by decide +kernel
theorem dX6_readProduct_36 : decode cX6_readProduct 36 = .ok (.aload_n 0, 1) := by decide +kernel
theorem dX6_readProduct_37 : decode cX6_readProduct 37 = .ok (.invokevirtual 64, 3) := by decide +kernel
theorem dX6_readProduct_40 : decode cX6_readProduct 40 = .ok (.bipush 37, 2) := by decide +kernel
theorem dX6_readProduct_42 : decode cX6_readProduct 42 = .ok (.if_icmp .ne 97, 3) := by decide +kernel
theorem dX6_readProduct_45 : decode cX6_readProduct 45 = .ok (.aload_n 0, 1) := by decide +kernel
theorem dX6_readProduct_46 : decode cX6_readProduct 46 = .ok (.invokevirtual 64, 3) := by decide +kernel
theorem dX6_readProduct_49 : decode cX6_readProduct 49 = .ok (.istore 6, 2) := by decide +kernel
theorem dX6_readProduct_51 : decode cX6_readProduct 51 = .ok (.aload_n 0, 1) := by decide +kernel
theorem dX6_readProduct_52 : decode cX6_readProduct 52 = .ok (.dup, 1) := by decide +kernel
theorem dX6_readProduct_53 : decode cX6_readProduct 53 = .ok (.getfield 27, 3) := by decide +kernel
theorem dX6_readProduct_56 : decode cX6_readProduct 56 = .ok (.iconst 1, 1) := by decide +kernel
theorem dX6_readProduct_57 : decode cX6_readProduct 57 = .ok (.iadd, 1) := by decide +kernel
theorem dX6_readProduct_58 : decode cX6_readProduct 58 = .ok (.putfield 27, 3) := by decide +kernel
theorem dX6_readProduct_61 : decode cX6_readProduct 61 = .ok (.aload_n 0, 1) := by decide +kernel
theorem dX6_readProduct_62 : decode cX6_readProduct 62 = .ok (.iload_n 1, 1) := by decide +kernel
theorem dX6_readProduct_63 : decode cX6_readProduct 63 = .ok (.iload_n 2, 1) := by decide +kernel
theorem dX6_readProduct_64 : decode cX6_readProduct 64 = .ok (.invokevirtual 112, 3) := by decide +kernel
theorem dX6_readProduct_67 : decode cX6_readProduct 67 = .ok (.lstore 7, 2) := by decide +kernel
theorem dX6_readProduct_69 : decode cX6_readProduct 69 = .ok (.iload 6, 2) := by decide +kernel
theorem dX6_readProduct_71 : decode cX6_readProduct 71 = .ok (.bipush 42, 2) := by decide +kernel
theorem dX6_readProduct_73 : decode cX6_readProduct 73 = .ok (.if_icmp .ne 11, 3) := by decide +kernel
theorem dX6_readProduct_76 : decode cX6_readProduct 76 = .ok (.lload_n 3, 1) := by decide +kernel
theorem dX6_readProduct_77 : decode cX6_readProduct 77 = .ok (.lload 7, 2) := by decide +kernel
theorem dX6_readProduct_79 : decode cX6_readProduct 79 = .ok (.lmul, 1) := by decide +kernel
theorem dX6_readProduct_80 : decode cX6_readProduct 80 = .ok (.lstore_n 3, 1) := by decide +kernel
theorem dX6_readProduct_81 : decode cX6_readProduct 81 = .ok (.goto 52, 3) := by decide +kernel
theorem dX6_readProduct_84 : decode cX6_readProduct 84 = .ok (.lload 7, 2) := by decide +kernel
theorem dX6_readProduct_86 : decode cX6_readProduct 86 = .ok (.lconst 0, 1) := by decide +kernel
theorem dX6_readProduct_87 : decode cX6_readProduct 87 = .ok (.lcmp, 1) := by decide +kernel
theorem dX6_readProduct_88 : decode cX6_readProduct 88 = .ok (.ifCond .ne 26, 3) := by decide +kernel
theorem dX6_readProduct_91 : decode cX6_readProduct 91 = .ok (.aload_n 0, 1) := by decide +kernel
theorem dX6_readProduct_92 : decode cX6_readProduct 92 = .ok (.aload_n 0, 1) := by decide +kernel
theorem dX6_readProduct_93 : decode cX6_readProduct 93 = .ok (.getfield 48, 3) := by decide +kernel
theorem dX6_readProduct_96 : decode cX6_readProduct 96 = .ok (.ifCond .ne 7, 3) := by decide +kernel
theorem dX6_readProduct_99 : decode cX6_readProduct 99 = .ok (.iload_n 2, 1) := by decide +kernel
theorem dX6_readProduct_100 : decode cX6_readProduct 100 = .ok (.ifCond .eq 7, 3) := by decide +kernel
theorem dX6_readProduct_103 : decode cX6_readProduct 103 = .ok (.iconst 1, 1) := by decide +kernel
theorem dX6_readProduct_104 : decode cX6_readProduct 104 = .ok (.goto 4, 3) := by decide +kernel
theorem dX6_readProduct_107 : decode cX6_readProduct 107 = .ok (.iconst 0, 1) := by decide +kernel
theorem dX6_readProduct_108 : decode cX6_readProduct 108 = .ok (.putfield 48, 3) := by decide +kernel
theorem dX6_readProduct_111 : decode cX6_readProduct 111 = .ok (.goto 22, 3) := by decide +kernel
theorem dX6_readProduct_114 : decode cX6_readProduct 114 = .ok (.iload 6, 2) := by decide +kernel
theorem dX6_readProduct_116 : decode cX6_readProduct 116 = .ok (.bipush 47, 2) := by decide +kernel
theorem dX6_readProduct_118 : decode cX6_readProduct 118 = .ok (.if_icmp .ne 10, 3) := by decide +kernel
theorem dX6_readProduct_121 : decode cX6_readProduct 121 = .ok (.lload_n 3, 1) := by decide +kernel
theorem dX6_readProduct_122 : decode cX6_readProduct 122 = .ok (.lload 7, 2) := by decide +kernel
theorem dX6_readProduct_124 : decode cX6_readProduct 124 = .ok (.ldiv, 1) := by decide +kernel
theorem dX6_readProduct_125 : decode cX6_readProduct 125 = .ok (.goto 7, 3) := by decide +kernel
theorem dX6_readProduct_128 : decode cX6_readProduct 128 = .ok (.lload_n 3, 1) := by decide +kernel
theorem dX6_readProduct_129 : decode cX6_readProduct 129 = .ok (.lload 7, 2) := by decide +kernel
theorem dX6_readProduct_131 : decode cX6_readProduct 131 = .ok (.lrem, 1) := by decide +kernel
theorem dX6_readProduct_132 : decode cX6_readProduct 132 = .ok (.lstore_n 3, 1) := by decide +kernel
theorem dX6_readProduct_133 : decode cX6_readProduct 133 = .ok (.iinc 5 1, 3) := by decide +kernel
theorem dX6_readProduct_136 : decode cX6_readProduct 136 = .ok (.goto (-126), 3) := by decide +kernel
theorem dX6_readProduct_139 : decode cX6_readProduct 139 = .ok (.lload_n 3, 1) := by decide +kernel
theorem dX6_readProduct_140 : decode cX6_readProduct 140 = .ok (.lreturn, 1) := by decide +kernel
noncomputable def f6_readProduct_j139 (rs : Int32 → Int32 → OS → Option (Int64 × OS)) (v3_j139 : Int64) (s6_j139 : OS) : Option (Int64 × OS) := some (v3_j139, s6_j139)
noncomputable def f6_readProduct_j133 (rs : Int32 → Int32 → OS → Option (Int64 × OS)) (v1_j133 : Int32) (v2_j133 : Int32) (v3_j133 : Int64) (v5_j133 : Int32) (s6_j133 : OS) : Option ((Int64 × Int32 × OS) ⊕ (Int64 × OS)) := nm (v5_j133 + (1 : Int32)) fun n_133 => some (Sum.inl (v3_j133, n_133, s6_j133))
noncomputable def f6_readProduct_j132 (rs : Int32 → Int32 → OS → Option (Int64 × OS)) (v1_j132 : Int32) (v2_j132 : Int32) (v5_j132 : Int32) (k0_j132 : Int64) (s6_j132 : OS) : Option ((Int64 × Int32 × OS) ⊕ (Int64 × OS)) := f6_readProduct_j133 rs v1_j132 v2_j132 k0_j132 v5_j132 s6_j132
noncomputable def f6_readProduct_j108 (rs : Int32 → Int32 → OS → Option (Int64 × OS)) (v1_j108 : Int32) (v2_j108 : Int32) (v3_j108 : Int64) (v5_j108 : Int32) (k1_j108 : Int32) (s6_j108 : OS) : Option ((Int64 × Int32 × OS) ⊕ (Int64 × OS)) := chk (isB k1_j108) (nm (wI s6_j108 0 11 k1_j108) fun s6_108 => f6_readProduct_j133 rs v1_j108 v2_j108 v3_j108 v5_j108 s6_108)
noncomputable def f6_readProduct_j103 (rs : Int32 → Int32 → OS → Option (Int64 × OS)) (v1_j103 : Int32) (v2_j103 : Int32) (v3_j103 : Int64) (v5_j103 : Int32) (s6_j103 : OS) : Option ((Int64 × Int32 × OS) ⊕ (Int64 × OS)) := f6_readProduct_j108 rs v1_j103 v2_j103 v3_j103 v5_j103 ((1 : Int32)) s6_j103
noncomputable def f6_readProduct_j45 (rs : Int32 → Int32 → OS → Option (Int64 × OS)) (v1_j45 : Int32) (v2_j45 : Int32) (v3_j45 : Int64) (v5_j45 : Int32) (s6_j45 : OS) : Option ((Int64 × Int32 × OS) ⊕ (Int64 × OS)) := Option.bind (f6_sign s6_j45) fun q_46 => nm (wI s6_j45 0 4 (((s6_j45.1 0 4) + (1 : Int32)))) fun s6_58 => Option.bind (f6_readFactor rs v1_j45 v2_j45 s6_58) fun q_64 => if q_46 = (42 : Int32) then (nm ((v3_j45 * q_64.1)) fun n_80 => f6_readProduct_j133 rs v1_j45 v2_j45 n_80 v5_j45 q_64.2) else (if (lg_cmp q_64.1 ((0 : Int64))) = 0 then (if (q_64.2.1 0 11) = 0 then (if v2_j45 = 0 then (f6_readProduct_j108 rs v1_j45 v2_j45 v3_j45 v5_j45 ((0 : Int32)) q_64.2) else (f6_readProduct_j103 rs v1_j45 v2_j45 v3_j45 v5_j45 q_64.2)) else (f6_readProduct_j103 rs v1_j45 v2_j45 v3_j45 v5_j45 q_64.2)) else (if q_46 = (47 : Int32) then (chk (decide (¬ q_64.1 = 0)) (f6_readProduct_j132 rs v1_j45 v2_j45 v5_j45 ((v3_j45 / q_64.1)) q_64.2)) else (chk (decide (¬ q_64.1 = 0)) (f6_readProduct_j132 rs v1_j45 v2_j45 v5_j45 ((v3_j45 - v3_j45 / q_64.1 * q_64.1)) q_64.2))))
noncomputable def f6_readProduct_l10 (rs : Int32 → Int32 → OS → Option (Int64 × OS)) (v1_i10 : Int32) (v2_i10 : Int32) : Int64 × Int32 × OS → Option ((Int64 × Int32 × OS) ⊕ (Int64 × OS)) := fun t_10 => if (160 : Int32) ≤ t_10.2.1 then (Option.map Sum.inr (f6_readProduct_j139 rs t_10.1 t_10.2.2)) else (Option.bind (f6_sign t_10.2.2) fun q_19 => if q_19 = (42 : Int32) then (f6_readProduct_j45 rs v1_i10 v2_i10 t_10.1 t_10.2.1 t_10.2.2) else (Option.bind (f6_sign t_10.2.2) fun q_28 => if q_28 = (47 : Int32) then (f6_readProduct_j45 rs v1_i10 v2_i10 t_10.1 t_10.2.1 t_10.2.2) else (Option.bind (f6_sign t_10.2.2) fun q_37 => if q_37 = (37 : Int32) then (f6_readProduct_j45 rs v1_i10 v2_i10 t_10.1 t_10.2.1 t_10.2.2) else (Option.map Sum.inr (f6_readProduct_j139 rs t_10.1 t_10.2.2)))))
noncomputable def f6_readProduct (rs : Int32 → Int32 → OS → Option (Int64 × OS)) (a1 : Int32) (a2 : Int32) (s6 : OS) : Option (Int64 × OS) := Option.bind (f6_readFactor rs a1 a2 s6) fun q_3 => loop (f6_readProduct_l10 rs a1 a2) (q_3.1, (0 : Int32), q_3.2)
set_option maxHeartbeats 4000000 in
set_option maxRecDepth 100000 in
theorem m6_readProduct (l : Launch) (rs : Int32 → Int32 → OS → Option (Int64 × OS)) (j : Nat) (hj : 12 ≤ j) (hrs : ∀ (D : va_G) (ad : Nat → Nat) (cy : Nat → ClassId) (sz : Nat) (s0 s1 s2 s3 s4 s5 s6 s7 s8 s9 s10 : OS) (a1 : Int32) (a2 : Int32) (r : Int64 × OS), rs a1 a2 s6 = some r → Met l yX6_readSum (wsOf yX6_readSum cX6_readSum 9 (some .long)) (rmL (j)) (va_Pc ([.ref (ad 6), .int a1, .int a2] : List Value) (PreG D cy (cellsC ad cy s0 s1 s2 s3 s4 s5 s6 s7 s8 s9 s10) sz (NC ad))) (QcL D ad 67 (cellsC ad cy s0 s1 s2 s3 s4 s5 r.2 s7 s8 s9 s10) (r.1) sz) 0 0 (Afr ad 67 sz)) (D : va_G) (ad : Nat → Nat) (cy : Nat → ClassId) (sz : Nat) (s0 s1 s2 s3 s4 s5 s6 s7 s8 s9 s10 : OS) (a1 : Int32) (a2 : Int32) (r : Int64 × OS) (h : f6_readProduct rs a1 a2 s6 = some r) : Met l yX6_readProduct (wsOf yX6_readProduct cX6_readProduct 9 (some .long)) (rmL (j + 2)) (va_Pc ([.ref (ad 6), .int a1, .int a2] : List Value) (PreG D cy (cellsC ad cy s0 s1 s2 s3 s4 s5 s6 s7 s8 s9 s10) sz (NC ad))) (QcL D ad 67 (cellsC ad cy s0 s1 s2 s3 s4 s5 r.2 s7 s8 s9 s10) (r.1) sz) 0 0 (Afr ad 67 sz) := by
  refine metG (own := RX6) (by decide) rfl (Nat.le_of_ble_eq_true rfl) fstC ?_ sz
  intro p e s m below meth c ls C0 hw hl
  obtain ⟨hx, hb, hml, hown, hts, hr, hlk, hK, hN⟩ := C0
  have hl : lv_has ls 9 [(0, .ref (ad 6)), (1, .int a1), (2, .int a2)] := hl
  generalize hQ : MQ below (QcL D ad 67 (cellsC ad cy s0 s1 s2 s3 s4 s5 r.2 s7 s8 s9 s10) (r.1) s.heap.size) ([.ref (ad 6), .int a1, .int a2] : List Value).toArray s 0 0 (Afr ad 67 s.heap.size) = Q
  obtain ⟨H, hH⟩ : ∃ H : Heap, H = s.heap := ⟨_, rfl⟩
  obtain ⟨locs, hlc⟩ : ∃ L : List Loc, L = [] := ⟨_, rfl⟩
  have hw : Wd D (cellsC ad cy s0 s1 s2 s3 s4 s5 s6 s7 s8 s9 s10) (Afr ad 67 s.heap.size) s.heap H locs := by rw [hH, hlc]; exact hw
  suffices h0 : W p l e (rmL (j + 2)) s m ([.ref (ad 6), .int a1, .int a2] : List Value).toArray below meth c H locs 0 0 Q (F0 m 0 ls []) by rw [hH, hlc] at h0; exact h0
  clear hH hlc
  unfold f6_readProduct at h
  have hJ_139 : ∀ (v3_j139 : Int64) (s6_j139 : OS) (H : Heap) (locs : List Loc) (ls : Array Slot), f6_readProduct_j139 rs v3_j139 s6_j139 = some r → Wd D (cellsC ad cy s0 s1 s2 s3 s4 s5 s6_j139 s7 s8 s9 s10) (Afr ad 67 s.heap.size) s.heap H locs → lv_has ls 9 [(3, .long v3_j139)] → W p l e (rmL (j + 2)) s m ([.ref (ad 6), .int a1, .int a2] : List Value).toArray below meth c H locs 0 0 Q (F0 m 139 ls []) := by
    intro v3_j139 s6_j139 H locs ls h hw hl
    unfold f6_readProduct_j139 at h
    refine lv_lload_n hx hb dX6_readProduct_139 rfl (lv_at hl 0 rfl) ?_
    have h := Option.some.inj h
    subst h
    rw [← hQ]
    exact retL hx hb hr hlk hw dX6_readProduct_140
  refine lv_aload_n hx hb dX6_readProduct_0 rfl (lv_at hl 0 rfl) ?_
  refine lv_iload_n hx hb dX6_readProduct_1 rfl (lv_at hl 1 rfl) ?_
  refine lv_iload_n hx hb dX6_readProduct_2 rfl (lv_at hl 2 rfl) ?_
  obtain ⟨q_3, h_3, h⟩ := bnd_e h
  have pg_3 := preG (av := [.ref (ad 6), .int a1, .int a2]) hK hw.1 hw.2.1 (NC_keep hN hw.2.2) NC_blind
  refine endL (mc := 0) (ms := 0) (va_runV (As := [.int a1, .int a2]) (rest := []) ⟨hx, hb, hml, hown, hts⟩ (m6_readFactor l rs j hj hrs D ad cy H.size s0 s1 s2 s3 s4 s5 s6 s7 s8 s9 s10 a1 a2 q_3 h_3) (wX6_112 (j + 1) hts ⟨by show (j + 1) + 1 ≤ (j + 2); omega, by show 8 + (6 + 11) + 40 * (j + 1) ≤ 40 * (j + 2); omega⟩) ⟨pg_3.1, va_recv hK hw.1 (ci := 6) (q0 := 6) rfl eC_6, pg_3.2⟩ rfl rfl hl.1 rfl (lv_room (Nat.le_of_ble_eq_true rfl)) dX6_readProduct_3 ⟨Nat.le_refl _, Nat.le_refl _⟩) hw.2.2 (afr_in hw.2.2) (fun H locs hw => ?_)
  refine lv_lstore_n (lv' := [(3, .long q_3.1), (0, .ref (ad 6)), (1, .int a1), (2, .int a2)]) hx hb dX6_readProduct_6 rfl hl (by decide) rfl (fun ls hl => ?_)
  refine lv_iconst (v := 0) hx hb dX6_readProduct_7 (by decide) ?_
  refine lv_istore (lv' := [(5, .int ((0 : Int32))), (3, .long q_3.1), (0, .ref (ad 6)), (1, .int a1), (2, .int a2)]) hx hb dX6_readProduct_8 hl (by decide) rfl (fun ls hl => ?_)
  obtain ⟨n_10, hn_10⟩ := loop_e h
  have hL_10 : ∀ (n : Nat) (t_10 : Int64 × Int32 × OS) (H : Heap) (locs : List Loc) (ls : Array Slot), loopN (f6_readProduct_l10 rs a1 a2) n t_10 = some r → Wd D (cellsC ad cy s0 s1 s2 s3 s4 s5 t_10.2.2 s7 s8 s9 s10) (Afr ad 67 s.heap.size) s.heap H locs → lv_has ls 9 [(3, .long t_10.1), (5, .int t_10.2.1), (1, .int a1), (2, .int a2), (0, .ref (ad 6))] → W p l e (rmL (j + 2)) s m ([.ref (ad 6), .int a1, .int a2] : List Value).toArray below meth c H locs 0 0 Q (F0 m 10 ls []) := by
    intro n
    induction n with
    | zero => intro t_10 H locs ls hn; cases hn
    | succ n ih_10 =>
      intro t_10 H locs ls hn hw hl
      obtain ⟨x_10, h, hx_10⟩ := loopN_e hn
      unfold f6_readProduct_l10 at h
      have hJ_133 : ∀ (v3_j133 : Int64) (v5_j133 : Int32) (s6_j133 : OS) (H : Heap) (locs : List Loc) (ls : Array Slot), f6_readProduct_j133 rs a1 a2 v3_j133 v5_j133 s6_j133 = some x_10 → Wd D (cellsC ad cy s0 s1 s2 s3 s4 s5 s6_j133 s7 s8 s9 s10) (Afr ad 67 s.heap.size) s.heap H locs → lv_has ls 9 [(0, .ref (ad 6)), (1, .int a1), (2, .int a2), (3, .long v3_j133), (5, .int v5_j133)] → W p l e (rmL (j + 2)) s m ([.ref (ad 6), .int a1, .int a2] : List Value).toArray below meth c H locs 0 0 Q (F0 m 133 ls []) := by
        intro v3_j133 v5_j133 s6_j133 H locs ls h hw hl
        unfold f6_readProduct_j133 at h
        obtain ⟨n_133, e_133, h⟩ := nam_e h
        refine lv_iinc (v := n_133) (lv' := [(5, .int n_133), (0, .ref (ad 6)), (1, .int a1), (2, .int a2), (3, .long v3_j133)]) hx hb dX6_readProduct_133 hl (k := 4) rfl (by rw [e_133]; rfl) (by decide) rfl (fun ls hl => ?_)
        refine lv_goto (tgt := 10) hx hb dX6_readProduct_136 (by decide) ?_
        exact ih_10 (v3_j133, n_133, s6_j133) H locs ls (nx_l hx_10 h) hw (lv_sub hl [4, 0, 2, 3, 1] rfl)
      have hJ_132 : ∀ (v5_j132 : Int32) (k0_j132 : Int64) (s6_j132 : OS) (H : Heap) (locs : List Loc) (ls : Array Slot), f6_readProduct_j132 rs a1 a2 v5_j132 k0_j132 s6_j132 = some x_10 → Wd D (cellsC ad cy s0 s1 s2 s3 s4 s5 s6_j132 s7 s8 s9 s10) (Afr ad 67 s.heap.size) s.heap H locs → lv_has ls 9 [(0, .ref (ad 6)), (1, .int a1), (2, .int a2), (5, .int v5_j132)] → W p l e (rmL (j + 2)) s m ([.ref (ad 6), .int a1, .int a2] : List Value).toArray below meth c H locs 0 0 Q (F0 m 132 ls [.long k0_j132]) := by
        intro v5_j132 k0_j132 s6_j132 H locs ls h hw hl
        unfold f6_readProduct_j132 at h
        refine lv_lstore_n (lv' := [(3, .long k0_j132), (0, .ref (ad 6)), (1, .int a1), (2, .int a2), (5, .int v5_j132)]) hx hb dX6_readProduct_132 rfl hl (by decide) rfl (fun ls hl => ?_)
        exact hJ_133 k0_j132 v5_j132 s6_j132 H locs ls h hw (lv_sub hl [1, 2, 3, 0, 4] rfl)
      have hJ_108 : ∀ (v3_j108 : Int64) (v5_j108 : Int32) (k1_j108 : Int32) (s6_j108 : OS) (H : Heap) (locs : List Loc) (ls : Array Slot), f6_readProduct_j108 rs a1 a2 v3_j108 v5_j108 k1_j108 s6_j108 = some x_10 → Wd D (cellsC ad cy s0 s1 s2 s3 s4 s5 s6_j108 s7 s8 s9 s10) (Afr ad 67 s.heap.size) s.heap H locs → lv_has ls 9 [(0, .ref (ad 6)), (1, .int a1), (2, .int a2), (3, .long v3_j108), (5, .int v5_j108)] → W p l e (rmL (j + 2)) s m ([.ref (ad 6), .int a1, .int a2] : List Value).toArray below meth c H locs 0 0 Q (F0 m 108 ls [.int k1_j108, .ref (ad 6)]) := by
        intro v3_j108 v5_j108 k1_j108 s6_j108 H locs ls h hw hl
        unfold f6_readProduct_j108 at h
        obtain ⟨hz_108, h⟩ := chk_e h
        obtain ⟨s6_108, e_108, h⟩ := nam_e h
        refine pX6_48 hx hb hts hown hK hw e_108 hz_108 dX6_readProduct_108 (fun H locs hw => ?_)
        refine lv_goto (tgt := 133) hx hb dX6_readProduct_111 (by decide) ?_
        exact hJ_133 v3_j108 v5_j108 s6_108 H locs ls h hw (lv_sub hl [0, 1, 2, 3, 4] rfl)
      have hJ_103 : ∀ (v3_j103 : Int64) (v5_j103 : Int32) (s6_j103 : OS) (H : Heap) (locs : List Loc) (ls : Array Slot), f6_readProduct_j103 rs a1 a2 v3_j103 v5_j103 s6_j103 = some x_10 → Wd D (cellsC ad cy s0 s1 s2 s3 s4 s5 s6_j103 s7 s8 s9 s10) (Afr ad 67 s.heap.size) s.heap H locs → lv_has ls 9 [(0, .ref (ad 6)), (1, .int a1), (2, .int a2), (3, .long v3_j103), (5, .int v5_j103)] → W p l e (rmL (j + 2)) s m ([.ref (ad 6), .int a1, .int a2] : List Value).toArray below meth c H locs 0 0 Q (F0 m 103 ls [.ref (ad 6)]) := by
        intro v3_j103 v5_j103 s6_j103 H locs ls h hw hl
        unfold f6_readProduct_j103 at h
        refine lv_iconst (v := 1) hx hb dX6_readProduct_103 (by decide) ?_
        refine lv_goto (tgt := 108) hx hb dX6_readProduct_104 (by decide) ?_
        exact hJ_108 v3_j103 v5_j103 ((1 : Int32)) s6_j103 H locs ls h hw (lv_sub hl [0, 1, 2, 3, 4] rfl)
      have hJ_45 : ∀ (v3_j45 : Int64) (v5_j45 : Int32) (s6_j45 : OS) (H : Heap) (locs : List Loc) (ls : Array Slot), f6_readProduct_j45 rs a1 a2 v3_j45 v5_j45 s6_j45 = some x_10 → Wd D (cellsC ad cy s0 s1 s2 s3 s4 s5 s6_j45 s7 s8 s9 s10) (Afr ad 67 s.heap.size) s.heap H locs → lv_has ls 9 [(0, .ref (ad 6)), (1, .int a1), (2, .int a2), (3, .long v3_j45), (5, .int v5_j45)] → W p l e (rmL (j + 2)) s m ([.ref (ad 6), .int a1, .int a2] : List Value).toArray below meth c H locs 0 0 Q (F0 m 45 ls []) := by
        intro v3_j45 v5_j45 s6_j45 H locs ls h hw hl
        unfold f6_readProduct_j45 at h
        refine lv_aload_n hx hb dX6_readProduct_45 rfl (lv_at hl 0 rfl) ?_
        obtain ⟨q_46, h_46, h⟩ := bnd_e h
        have pg_46 := preG (av := [.ref (ad 6)]) hK hw.1 hw.2.1 (NC_keep hN hw.2.2) NC_blind
        refine endI (mc := 0) (ms := 0) (va_runV (As := []) (rest := []) ⟨hx, hb, hml, hown, hts⟩ (m6_sign l D ad cy H.size s0 s1 s2 s3 s4 s5 s6_j45 s7 s8 s9 s10 q_46 h_46) (wX6_64 0 hts ⟨by show 0 + 1 ≤ (j + 2); omega, by show 8 + (1 + 11) + 40 * 0 ≤ 40 * (j + 2); omega⟩) ⟨pg_46.1, va_recv hK hw.1 (ci := 6) (q0 := 6) rfl eC_6, pg_46.2⟩ rfl rfl hl.1 rfl (lv_room (Nat.le_of_ble_eq_true rfl)) dX6_readProduct_46 ⟨Nat.le_refl _, Nat.le_refl _⟩) hw.2.2 (afr_in hw.2.2) (fun H locs hw => ?_)
        refine lv_istore (lv' := [(6, .int q_46), (0, .ref (ad 6)), (1, .int a1), (2, .int a2), (3, .long v3_j45), (5, .int v5_j45)]) hx hb dX6_readProduct_49 hl (by decide) rfl (fun ls hl => ?_)
        refine lv_aload_n hx hb dX6_readProduct_51 rfl (lv_at hl 1 rfl) ?_
        refine lv_dup hx hb dX6_readProduct_52 rfl ?_
        refine gX6_27 hx hb hts hown hK hw dX6_readProduct_53 ?_
        refine lv_iconst (v := 1) hx hb dX6_readProduct_56 (by decide) ?_
        refine lv_iadd hx hb dX6_readProduct_57 ?_
        obtain ⟨s6_58, e_58, h⟩ := nam_e h
        refine pX6_27 hx hb hts hown hK hw e_58 dX6_readProduct_58 (fun H locs hw => ?_)
        refine lv_aload_n hx hb dX6_readProduct_61 rfl (lv_at hl 1 rfl) ?_
        refine lv_iload_n hx hb dX6_readProduct_62 rfl (lv_at hl 2 rfl) ?_
        refine lv_iload_n hx hb dX6_readProduct_63 rfl (lv_at hl 3 rfl) ?_
        obtain ⟨q_64, h_64, h⟩ := bnd_e h
        have pg_64 := preG (av := [.ref (ad 6), .int a1, .int a2]) hK hw.1 hw.2.1 (NC_keep hN hw.2.2) NC_blind
        refine endL (mc := 0) (ms := 0) (va_runV (As := [.int a1, .int a2]) (rest := []) ⟨hx, hb, hml, hown, hts⟩ (m6_readFactor l rs j hj hrs D ad cy H.size s0 s1 s2 s3 s4 s5 s6_58 s7 s8 s9 s10 a1 a2 q_64 h_64) (wX6_112 (j + 1) hts ⟨by show (j + 1) + 1 ≤ (j + 2); omega, by show 8 + (6 + 11) + 40 * (j + 1) ≤ 40 * (j + 2); omega⟩) ⟨pg_64.1, va_recv hK hw.1 (ci := 6) (q0 := 6) rfl eC_6, pg_64.2⟩ rfl rfl hl.1 rfl (lv_room (Nat.le_of_ble_eq_true rfl)) dX6_readProduct_64 ⟨Nat.le_refl _, Nat.le_refl _⟩) hw.2.2 (afr_in hw.2.2) (fun H locs hw => ?_)
        refine lv_lstore (lv' := [(7, .long q_64.1), (6, .int q_46), (0, .ref (ad 6)), (1, .int a1), (2, .int a2), (3, .long v3_j45), (5, .int v5_j45)]) hx hb dX6_readProduct_67 hl (by decide) rfl (fun ls hl => ?_)
        refine lv_iload hx hb dX6_readProduct_69 (lv_at hl 1 rfl) ?_
        refine lv_bipush (v := 42) hx hb dX6_readProduct_71 (by decide) ?_
        refine lv_icmp_ne (tgt := 84) hx hb dX6_readProduct_73 (by decide) (fun c_73 => ?_) (fun c_73 => ?_)
        · have h := ite_f c_73 h
          refine lv_lload hx hb dX6_readProduct_84 (lv_at hl 0 rfl) ?_
          refine lv_lconst (v := 0) hx hb dX6_readProduct_86 (by decide) ?_
          refine W.lcmp hx hb dX6_readProduct_87 ?_
          refine lv_if_ne (tgt := 114) hx hb dX6_readProduct_88 (by decide) (fun c_88 => ?_) (fun c_88 => ?_)
          · have h := ite_f c_88 h
            refine lv_iload hx hb dX6_readProduct_114 (lv_at hl 1 rfl) ?_
            refine lv_bipush (v := 47) hx hb dX6_readProduct_116 (by decide) ?_
            refine lv_icmp_ne (tgt := 128) hx hb dX6_readProduct_118 (by decide) (fun c_118 => ?_) (fun c_118 => ?_)
            · have h := ite_f c_118 h
              refine lv_lload_n hx hb dX6_readProduct_128 rfl (lv_at hl 5 rfl) ?_
              refine lv_lload hx hb dX6_readProduct_129 (lv_at hl 0 rfl) ?_
              obtain ⟨hz_131, h⟩ := chk_e h
              refine lv_lrem hx hb dX6_readProduct_131 (of_decide_eq_true hz_131) ?_
              exact hJ_132 v5_j45 ((v3_j45 - v3_j45 / q_64.1 * q_64.1)) q_64.2 H locs ls h hw (lv_sub hl [2, 3, 4, 6] rfl)
            · have h := ite_t c_118 h
              refine lv_lload_n hx hb dX6_readProduct_121 rfl (lv_at hl 5 rfl) ?_
              refine lv_lload hx hb dX6_readProduct_122 (lv_at hl 0 rfl) ?_
              obtain ⟨hz_124, h⟩ := chk_e h
              refine lv_ldiv hx hb dX6_readProduct_124 (of_decide_eq_true hz_124) ?_
              refine lv_goto (tgt := 132) hx hb dX6_readProduct_125 (by decide) ?_
              exact hJ_132 v5_j45 ((v3_j45 / q_64.1)) q_64.2 H locs ls h hw (lv_sub hl [2, 3, 4, 6] rfl)
          · have h := ite_t c_88 h
            refine lv_aload_n hx hb dX6_readProduct_91 rfl (lv_at hl 2 rfl) ?_
            refine lv_aload_n hx hb dX6_readProduct_92 rfl (lv_at hl 2 rfl) ?_
            refine gX6_48 hx hb hts hown hK hw dX6_readProduct_93 ?_
            refine lv_if_ne (tgt := 103) hx hb dX6_readProduct_96 (by decide) (fun c_96 => ?_) (fun c_96 => ?_)
            · have h := ite_f c_96 h
              exact hJ_103 v3_j45 v5_j45 q_64.2 H locs ls h hw (lv_sub hl [2, 3, 4, 5, 6] rfl)
            · have h := ite_t c_96 h
              refine lv_iload_n hx hb dX6_readProduct_99 rfl (lv_at hl 4 rfl) ?_
              refine lv_if_eq (tgt := 107) hx hb dX6_readProduct_100 (by decide) (fun c_100 => ?_) (fun c_100 => ?_)
              · have h := ite_t c_100 h
                refine lv_iconst (v := 0) hx hb dX6_readProduct_107 (by decide) ?_
                exact hJ_108 v3_j45 v5_j45 ((0 : Int32)) q_64.2 H locs ls h hw (lv_sub hl [2, 3, 4, 5, 6] rfl)
              · have h := ite_f c_100 h
                exact hJ_103 v3_j45 v5_j45 q_64.2 H locs ls h hw (lv_sub hl [2, 3, 4, 5, 6] rfl)
        · have h := ite_t c_73 h
          refine lv_lload_n hx hb dX6_readProduct_76 rfl (lv_at hl 5 rfl) ?_
          refine lv_lload hx hb dX6_readProduct_77 (lv_at hl 0 rfl) ?_
          refine lv_lmul hx hb dX6_readProduct_79 ?_
          obtain ⟨n_80, e_80, h⟩ := nam_e h
          refine topL e_80 ?_
          refine lv_lstore_n (lv' := [(3, .long n_80), (7, .long q_64.1), (6, .int q_46), (0, .ref (ad 6)), (1, .int a1), (2, .int a2), (5, .int v5_j45)]) hx hb dX6_readProduct_80 rfl hl (by decide) rfl (fun ls hl => ?_)
          refine lv_goto (tgt := 133) hx hb dX6_readProduct_81 (by decide) ?_
          exact hJ_133 n_80 v5_j45 q_64.2 H locs ls h hw (lv_sub hl [3, 4, 5, 0, 6] rfl)
      refine lv_iload hx hb dX6_readProduct_10 (lv_at hl 1 rfl) ?_
      refine lv_sipush (v := 160) hx hb dX6_readProduct_12 (by decide) ?_
      refine lv_icmp_ge (tgt := 139) hx hb dX6_readProduct_15 (by decide) (fun c_15 => ?_) (fun c_15 => ?_)
      · have h := ite_t c_15 h
        have h := nx_m hx_10 h
        exact hJ_139 t_10.1 t_10.2.2 H locs ls h hw (lv_sub hl [0] rfl)
      · have h := ite_f c_15 h
        refine lv_aload_n hx hb dX6_readProduct_18 rfl (lv_at hl 4 rfl) ?_
        obtain ⟨q_19, h_19, h⟩ := bnd_e h
        have pg_19 := preG (av := [.ref (ad 6)]) hK hw.1 hw.2.1 (NC_keep hN hw.2.2) NC_blind
        refine endI (mc := 0) (ms := 0) (va_runV (As := []) (rest := []) ⟨hx, hb, hml, hown, hts⟩ (m6_sign l D ad cy H.size s0 s1 s2 s3 s4 s5 t_10.2.2 s7 s8 s9 s10 q_19 h_19) (wX6_64 0 hts ⟨by show 0 + 1 ≤ (j + 2); omega, by show 8 + (1 + 11) + 40 * 0 ≤ 40 * (j + 2); omega⟩) ⟨pg_19.1, va_recv hK hw.1 (ci := 6) (q0 := 6) rfl eC_6, pg_19.2⟩ rfl rfl hl.1 rfl (lv_room (Nat.le_of_ble_eq_true rfl)) dX6_readProduct_19 ⟨Nat.le_refl _, Nat.le_refl _⟩) hw.2.2 (afr_in hw.2.2) (fun H locs hw => ?_)
        refine lv_bipush (v := 42) hx hb dX6_readProduct_22 (by decide) ?_
        refine lv_icmp_eq (tgt := 45) hx hb dX6_readProduct_24 (by decide) (fun c_24 => ?_) (fun c_24 => ?_)
        · have h := ite_t c_24 h
          exact hJ_45 t_10.1 t_10.2.1 t_10.2.2 H locs ls h hw (lv_sub hl [4, 2, 3, 0, 1] rfl)
        · have h := ite_f c_24 h
          refine lv_aload_n hx hb dX6_readProduct_27 rfl (lv_at hl 4 rfl) ?_
          obtain ⟨q_28, h_28, h⟩ := bnd_e h
          have pg_28 := preG (av := [.ref (ad 6)]) hK hw.1 hw.2.1 (NC_keep hN hw.2.2) NC_blind
          refine endI (mc := 0) (ms := 0) (va_runV (As := []) (rest := []) ⟨hx, hb, hml, hown, hts⟩ (m6_sign l D ad cy H.size s0 s1 s2 s3 s4 s5 t_10.2.2 s7 s8 s9 s10 q_28 h_28) (wX6_64 0 hts ⟨by show 0 + 1 ≤ (j + 2); omega, by show 8 + (1 + 11) + 40 * 0 ≤ 40 * (j + 2); omega⟩) ⟨pg_28.1, va_recv hK hw.1 (ci := 6) (q0 := 6) rfl eC_6, pg_28.2⟩ rfl rfl hl.1 rfl (lv_room (Nat.le_of_ble_eq_true rfl)) dX6_readProduct_28 ⟨Nat.le_refl _, Nat.le_refl _⟩) hw.2.2 (afr_in hw.2.2) (fun H locs hw => ?_)
          refine lv_bipush (v := 47) hx hb dX6_readProduct_31 (by decide) ?_
          refine lv_icmp_eq (tgt := 45) hx hb dX6_readProduct_33 (by decide) (fun c_33 => ?_) (fun c_33 => ?_)
          · have h := ite_t c_33 h
            exact hJ_45 t_10.1 t_10.2.1 t_10.2.2 H locs ls h hw (lv_sub hl [4, 2, 3, 0, 1] rfl)
          · have h := ite_f c_33 h
            refine lv_aload_n hx hb dX6_readProduct_36 rfl (lv_at hl 4 rfl) ?_
            obtain ⟨q_37, h_37, h⟩ := bnd_e h
            have pg_37 := preG (av := [.ref (ad 6)]) hK hw.1 hw.2.1 (NC_keep hN hw.2.2) NC_blind
            refine endI (mc := 0) (ms := 0) (va_runV (As := []) (rest := []) ⟨hx, hb, hml, hown, hts⟩ (m6_sign l D ad cy H.size s0 s1 s2 s3 s4 s5 t_10.2.2 s7 s8 s9 s10 q_37 h_37) (wX6_64 0 hts ⟨by show 0 + 1 ≤ (j + 2); omega, by show 8 + (1 + 11) + 40 * 0 ≤ 40 * (j + 2); omega⟩) ⟨pg_37.1, va_recv hK hw.1 (ci := 6) (q0 := 6) rfl eC_6, pg_37.2⟩ rfl rfl hl.1 rfl (lv_room (Nat.le_of_ble_eq_true rfl)) dX6_readProduct_37 ⟨Nat.le_refl _, Nat.le_refl _⟩) hw.2.2 (afr_in hw.2.2) (fun H locs hw => ?_)
            refine lv_bipush (v := 37) hx hb dX6_readProduct_40 (by decide) ?_
            refine lv_icmp_ne (tgt := 139) hx hb dX6_readProduct_42 (by decide) (fun c_42 => ?_) (fun c_42 => ?_)
            · have h := ite_f c_42 h
              have h := nx_m hx_10 h
              exact hJ_139 t_10.1 t_10.2.2 H locs ls h hw (lv_sub hl [0] rfl)
            · have h := ite_t c_42 h
              exact hJ_45 t_10.1 t_10.2.1 t_10.2.2 H locs ls h hw (lv_sub hl [4, 2, 3, 0, 1] rfl)
  exact hL_10 n_10 (q_3.1, (0 : Int32), q_3.2) H locs ls hn_10 hw (lv_sub hl [1, 0, 3, 4, 2] rfl)
theorem dX6_readSum_0 : decode cX6_readSum 0 = .ok (.aload_n 0, 1) := by decide +kernel
theorem dX6_readSum_1 : decode cX6_readSum 1 = .ok (.iload_n 1, 1) := by decide +kernel
theorem dX6_readSum_2 : decode cX6_readSum 2 = .ok (.iload_n 2, 1) := by decide +kernel
theorem dX6_readSum_3 : decode cX6_readSum 3 = .ok (.invokevirtual 109, 3) := by decide +kernel
theorem dX6_readSum_6 : decode cX6_readSum 6 = .ok (.lstore_n 3, 1) := by decide +kernel
theorem dX6_readSum_7 : decode cX6_readSum 7 = .ok (.iconst 0, 1) := by decide +kernel
theorem dX6_readSum_8 : decode cX6_readSum 8 = .ok (.istore 5, 2) := by decide +kernel
theorem dX6_readSum_10 : decode cX6_readSum 10 = .ok (.iload 5, 2) := by decide +kernel
theorem dX6_readSum_12 : decode cX6_readSum 12 = .ok (.sipush 160, 3) := by decide +kernel
theorem dX6_readSum_15 : decode cX6_readSum 15 = .ok (.if_icmp .ge 78, 3) := by decide +kernel
theorem dX6_readSum_18 : decode cX6_readSum 18 = .ok (.aload_n 0, 1) := by decide +kernel
theorem dX6_readSum_19 : decode cX6_readSum 19 = .ok (.invokevirtual 64, 3) := by decide +kernel
theorem dX6_readSum_22 : decode cX6_readSum 22 = .ok (.bipush 43, 2) := by decide +kernel
theorem dX6_readSum_24 : decode cX6_readSum 24 = .ok (.if_icmp .eq 12, 3) := by decide +kernel
theorem dX6_readSum_27 : decode cX6_readSum 27 = .ok (.aload_n 0, 1) := by decide +kernel
theorem dX6_readSum_28 : decode cX6_readSum 28 = .ok (.invokevirtual 64, 3) := by decide +kernel
theorem dX6_readSum_31 : decode cX6_readSum 31 = .ok (.bipush 45, 2) := by decide +kernel
theorem dX6_readSum_33 : decode cX6_readSum 33 = .ok (.if_icmp .ne 60, 3) := by decide +kernel
theorem dX6_readSum_36 : decode cX6_readSum 36 = .ok (.aload_n 0, 1) := by decide +kernel
theorem dX6_readSum_37 : decode cX6_readSum 37 = .ok (.invokevirtual 64, 3) := by decide +kernel
theorem dX6_readSum_40 : decode cX6_readSum 40 = .ok (.bipush 43, 2) := by decide +kernel
theorem dX6_readSum_42 : decode cX6_readSum 42 = .ok (.if_icmp .ne 7, 3) := by decide +kernel
theorem dX6_readSum_45 : decode cX6_readSum 45 = .ok (.iconst 1, 1) := by decide +kernel
theorem dX6_readSum_46 : decode cX6_readSum 46 = .ok (.goto 4, 3) := by decide +kernel
theorem dX6_readSum_49 : decode cX6_readSum 49 = .ok (.iconst 0, 1) := by decide +kernel
theorem dX6_readSum_50 : decode cX6_readSum 50 = .ok (.istore 6, 2) := by decide +kernel
theorem dX6_readSum_52 : decode cX6_readSum 52 = .ok (.aload_n 0, 1) := by decide +kernel
theorem dX6_readSum_53 : decode cX6_readSum 53 = .ok (.dup, 1) := by decide +kernel
theorem dX6_readSum_54 : decode cX6_readSum 54 = .ok (.getfield 27, 3) := by decide +kernel
theorem dX6_readSum_57 : decode cX6_readSum 57 = .ok (.iconst 1, 1) := by decide +kernel
theorem dX6_readSum_58 : decode cX6_readSum 58 = .ok (.iadd, 1) := by decide +kernel
theorem dX6_readSum_59 : decode cX6_readSum 59 = .ok (.putfield 27, 3) := by decide +kernel
theorem dX6_readSum_62 : decode cX6_readSum 62 = .ok (.aload_n 0, 1) := by decide +kernel
theorem dX6_readSum_63 : decode cX6_readSum 63 = .ok (.iload_n 1, 1) := by decide +kernel
theorem dX6_readSum_64 : decode cX6_readSum 64 = .ok (.iload_n 2, 1) := by decide +kernel
theorem dX6_readSum_65 : decode cX6_readSum 65 = .ok (.invokevirtual 109, 3) := by decide +kernel
theorem dX6_readSum_68 : decode cX6_readSum 68 = .ok (.lstore 7, 2) := by decide +kernel
theorem dX6_readSum_70 : decode cX6_readSum 70 = .ok (.iload 6, 2) := by decide +kernel
theorem dX6_readSum_72 : decode cX6_readSum 72 = .ok (.ifCond .eq 10, 3) := by decide +kernel
theorem dX6_readSum_75 : decode cX6_readSum 75 = .ok (.lload_n 3, 1) := by decide +kernel
theorem dX6_readSum_76 : decode cX6_readSum 76 = .ok (.lload 7, 2) := by decide +kernel
theorem dX6_readSum_78 : decode cX6_readSum 78 = .ok (.ladd, 1) := by decide +kernel
theorem dX6_readSum_79 : decode cX6_readSum 79 = .ok (.goto 7, 3) := by decide +kernel
theorem dX6_readSum_82 : decode cX6_readSum 82 = .ok (.lload_n 3, 1) := by decide +kernel
theorem dX6_readSum_83 : decode cX6_readSum 83 = .ok (.lload 7, 2) := by decide +kernel
theorem dX6_readSum_85 : decode cX6_readSum 85 = .ok (.lsub, 1) := by decide +kernel
theorem dX6_readSum_86 : decode cX6_readSum 86 = .ok (.lstore_n 3, 1) := by decide +kernel
theorem dX6_readSum_87 : decode cX6_readSum 87 = .ok (.iinc 5 1, 3) := by decide +kernel
theorem dX6_readSum_90 : decode cX6_readSum 90 = .ok (.goto (-80), 3) := by decide +kernel
theorem dX6_readSum_93 : decode cX6_readSum 93 = .ok (.lload_n 3, 1) := by decide +kernel
theorem dX6_readSum_94 : decode cX6_readSum 94 = .ok (.lreturn, 1) := by decide +kernel
noncomputable def f6_readSum_b_j93 (rs : Int32 → Int32 → OS → Option (Int64 × OS)) (v3_j93 : Int64) (s6_j93 : OS) : Option (Int64 × OS) := some (v3_j93, s6_j93)
noncomputable def f6_readSum_b_j86 (rs : Int32 → Int32 → OS → Option (Int64 × OS)) (v1_j86 : Int32) (v2_j86 : Int32) (v5_j86 : Int32) (k0_j86 : Int64) (s6_j86 : OS) : Option ((Int64 × Int32 × OS) ⊕ (Int64 × OS)) := nm (v5_j86 + (1 : Int32)) fun n_87 => some (Sum.inl (k0_j86, n_87, s6_j86))
noncomputable def f6_readSum_b_j50 (rs : Int32 → Int32 → OS → Option (Int64 × OS)) (v1_j50 : Int32) (v2_j50 : Int32) (v3_j50 : Int64) (v5_j50 : Int32) (k0_j50 : Int32) (s6_j50 : OS) : Option ((Int64 × Int32 × OS) ⊕ (Int64 × OS)) := nm (wI s6_j50 0 4 (((s6_j50.1 0 4) + (1 : Int32)))) fun s6_59 => Option.bind (f6_readProduct rs v1_j50 v2_j50 s6_59) fun q_65 => if k0_j50 = 0 then (f6_readSum_b_j86 rs v1_j50 v2_j50 v5_j50 ((v3_j50 - q_65.1)) q_65.2) else (f6_readSum_b_j86 rs v1_j50 v2_j50 v5_j50 ((v3_j50 + q_65.1)) q_65.2)
noncomputable def f6_readSum_b_j36 (rs : Int32 → Int32 → OS → Option (Int64 × OS)) (v1_j36 : Int32) (v2_j36 : Int32) (v3_j36 : Int64) (v5_j36 : Int32) (s6_j36 : OS) : Option ((Int64 × Int32 × OS) ⊕ (Int64 × OS)) := Option.bind (f6_sign s6_j36) fun q_37 => if q_37 = (43 : Int32) then (f6_readSum_b_j50 rs v1_j36 v2_j36 v3_j36 v5_j36 ((1 : Int32)) s6_j36) else (f6_readSum_b_j50 rs v1_j36 v2_j36 v3_j36 v5_j36 ((0 : Int32)) s6_j36)
noncomputable def f6_readSum_b_l10 (rs : Int32 → Int32 → OS → Option (Int64 × OS)) (v1_i10 : Int32) (v2_i10 : Int32) : Int64 × Int32 × OS → Option ((Int64 × Int32 × OS) ⊕ (Int64 × OS)) := fun t_10 => if (160 : Int32) ≤ t_10.2.1 then (Option.map Sum.inr (f6_readSum_b_j93 rs t_10.1 t_10.2.2)) else (Option.bind (f6_sign t_10.2.2) fun q_19 => if q_19 = (43 : Int32) then (f6_readSum_b_j36 rs v1_i10 v2_i10 t_10.1 t_10.2.1 t_10.2.2) else (Option.bind (f6_sign t_10.2.2) fun q_28 => if q_28 = (45 : Int32) then (f6_readSum_b_j36 rs v1_i10 v2_i10 t_10.1 t_10.2.1 t_10.2.2) else (Option.map Sum.inr (f6_readSum_b_j93 rs t_10.1 t_10.2.2))))
noncomputable def f6_readSum_b (rs : Int32 → Int32 → OS → Option (Int64 × OS)) (a1 : Int32) (a2 : Int32) (s6 : OS) : Option (Int64 × OS) := Option.bind (f6_readProduct rs a1 a2 s6) fun q_3 => loop (f6_readSum_b_l10 rs a1 a2) (q_3.1, (0 : Int32), q_3.2)
set_option maxHeartbeats 4000000 in
set_option maxRecDepth 100000 in
theorem m6_readSum_b (l : Launch) (rs : Int32 → Int32 → OS → Option (Int64 × OS)) (j : Nat) (hj : 12 ≤ j) (hrs : ∀ (D : va_G) (ad : Nat → Nat) (cy : Nat → ClassId) (sz : Nat) (s0 s1 s2 s3 s4 s5 s6 s7 s8 s9 s10 : OS) (a1 : Int32) (a2 : Int32) (r : Int64 × OS), rs a1 a2 s6 = some r → Met l yX6_readSum (wsOf yX6_readSum cX6_readSum 9 (some .long)) (rmL (j)) (va_Pc ([.ref (ad 6), .int a1, .int a2] : List Value) (PreG D cy (cellsC ad cy s0 s1 s2 s3 s4 s5 s6 s7 s8 s9 s10) sz (NC ad))) (QcL D ad 67 (cellsC ad cy s0 s1 s2 s3 s4 s5 r.2 s7 s8 s9 s10) (r.1) sz) 0 0 (Afr ad 67 sz)) (D : va_G) (ad : Nat → Nat) (cy : Nat → ClassId) (sz : Nat) (s0 s1 s2 s3 s4 s5 s6 s7 s8 s9 s10 : OS) (a1 : Int32) (a2 : Int32) (r : Int64 × OS) (h : f6_readSum_b rs a1 a2 s6 = some r) : Met l yX6_readSum (wsOf yX6_readSum cX6_readSum 9 (some .long)) (rmL (j + 3)) (va_Pc ([.ref (ad 6), .int a1, .int a2] : List Value) (PreG D cy (cellsC ad cy s0 s1 s2 s3 s4 s5 s6 s7 s8 s9 s10) sz (NC ad))) (QcL D ad 67 (cellsC ad cy s0 s1 s2 s3 s4 s5 r.2 s7 s8 s9 s10) (r.1) sz) 0 0 (Afr ad 67 sz) := by
  refine metG (own := RX6) (by decide) rfl (Nat.le_of_ble_eq_true rfl) fstC ?_ sz
  intro p e s m below meth c ls C0 hw hl
  obtain ⟨hx, hb, hml, hown, hts, hr, hlk, hK, hN⟩ := C0
  have hl : lv_has ls 9 [(0, .ref (ad 6)), (1, .int a1), (2, .int a2)] := hl
  generalize hQ : MQ below (QcL D ad 67 (cellsC ad cy s0 s1 s2 s3 s4 s5 r.2 s7 s8 s9 s10) (r.1) s.heap.size) ([.ref (ad 6), .int a1, .int a2] : List Value).toArray s 0 0 (Afr ad 67 s.heap.size) = Q
  obtain ⟨H, hH⟩ : ∃ H : Heap, H = s.heap := ⟨_, rfl⟩
  obtain ⟨locs, hlc⟩ : ∃ L : List Loc, L = [] := ⟨_, rfl⟩
  have hw : Wd D (cellsC ad cy s0 s1 s2 s3 s4 s5 s6 s7 s8 s9 s10) (Afr ad 67 s.heap.size) s.heap H locs := by rw [hH, hlc]; exact hw
  suffices h0 : W p l e (rmL (j + 3)) s m ([.ref (ad 6), .int a1, .int a2] : List Value).toArray below meth c H locs 0 0 Q (F0 m 0 ls []) by rw [hH, hlc] at h0; exact h0
  clear hH hlc
  unfold f6_readSum_b at h
  have hJ_93 : ∀ (v3_j93 : Int64) (s6_j93 : OS) (H : Heap) (locs : List Loc) (ls : Array Slot), f6_readSum_b_j93 rs v3_j93 s6_j93 = some r → Wd D (cellsC ad cy s0 s1 s2 s3 s4 s5 s6_j93 s7 s8 s9 s10) (Afr ad 67 s.heap.size) s.heap H locs → lv_has ls 9 [(3, .long v3_j93)] → W p l e (rmL (j + 3)) s m ([.ref (ad 6), .int a1, .int a2] : List Value).toArray below meth c H locs 0 0 Q (F0 m 93 ls []) := by
    intro v3_j93 s6_j93 H locs ls h hw hl
    unfold f6_readSum_b_j93 at h
    refine lv_lload_n hx hb dX6_readSum_93 rfl (lv_at hl 0 rfl) ?_
    have h := Option.some.inj h
    subst h
    rw [← hQ]
    exact retL hx hb hr hlk hw dX6_readSum_94
  refine lv_aload_n hx hb dX6_readSum_0 rfl (lv_at hl 0 rfl) ?_
  refine lv_iload_n hx hb dX6_readSum_1 rfl (lv_at hl 1 rfl) ?_
  refine lv_iload_n hx hb dX6_readSum_2 rfl (lv_at hl 2 rfl) ?_
  obtain ⟨q_3, h_3, h⟩ := bnd_e h
  have pg_3 := preG (av := [.ref (ad 6), .int a1, .int a2]) hK hw.1 hw.2.1 (NC_keep hN hw.2.2) NC_blind
  refine endL (mc := 0) (ms := 0) (va_runV (As := [.int a1, .int a2]) (rest := []) ⟨hx, hb, hml, hown, hts⟩ (m6_readProduct l rs j hj hrs D ad cy H.size s0 s1 s2 s3 s4 s5 s6 s7 s8 s9 s10 a1 a2 q_3 h_3) (wX6_109 (j + 2) hts ⟨by show (j + 2) + 1 ≤ (j + 3); omega, by show 8 + (9 + 11) + 40 * (j + 2) ≤ 40 * (j + 3); omega⟩) ⟨pg_3.1, va_recv hK hw.1 (ci := 6) (q0 := 6) rfl eC_6, pg_3.2⟩ rfl rfl hl.1 rfl (lv_room (Nat.le_of_ble_eq_true rfl)) dX6_readSum_3 ⟨Nat.le_refl _, Nat.le_refl _⟩) hw.2.2 (afr_in hw.2.2) (fun H locs hw => ?_)
  refine lv_lstore_n (lv' := [(3, .long q_3.1), (0, .ref (ad 6)), (1, .int a1), (2, .int a2)]) hx hb dX6_readSum_6 rfl hl (by decide) rfl (fun ls hl => ?_)
  refine lv_iconst (v := 0) hx hb dX6_readSum_7 (by decide) ?_
  refine lv_istore (lv' := [(5, .int ((0 : Int32))), (3, .long q_3.1), (0, .ref (ad 6)), (1, .int a1), (2, .int a2)]) hx hb dX6_readSum_8 hl (by decide) rfl (fun ls hl => ?_)
  obtain ⟨n_10, hn_10⟩ := loop_e h
  have hL_10 : ∀ (n : Nat) (t_10 : Int64 × Int32 × OS) (H : Heap) (locs : List Loc) (ls : Array Slot), loopN (f6_readSum_b_l10 rs a1 a2) n t_10 = some r → Wd D (cellsC ad cy s0 s1 s2 s3 s4 s5 t_10.2.2 s7 s8 s9 s10) (Afr ad 67 s.heap.size) s.heap H locs → lv_has ls 9 [(3, .long t_10.1), (5, .int t_10.2.1), (1, .int a1), (2, .int a2), (0, .ref (ad 6))] → W p l e (rmL (j + 3)) s m ([.ref (ad 6), .int a1, .int a2] : List Value).toArray below meth c H locs 0 0 Q (F0 m 10 ls []) := by
    intro n
    induction n with
    | zero => intro t_10 H locs ls hn; cases hn
    | succ n ih_10 =>
      intro t_10 H locs ls hn hw hl
      obtain ⟨x_10, h, hx_10⟩ := loopN_e hn
      unfold f6_readSum_b_l10 at h
      have hJ_86 : ∀ (v5_j86 : Int32) (k0_j86 : Int64) (s6_j86 : OS) (H : Heap) (locs : List Loc) (ls : Array Slot), f6_readSum_b_j86 rs a1 a2 v5_j86 k0_j86 s6_j86 = some x_10 → Wd D (cellsC ad cy s0 s1 s2 s3 s4 s5 s6_j86 s7 s8 s9 s10) (Afr ad 67 s.heap.size) s.heap H locs → lv_has ls 9 [(0, .ref (ad 6)), (1, .int a1), (2, .int a2), (5, .int v5_j86)] → W p l e (rmL (j + 3)) s m ([.ref (ad 6), .int a1, .int a2] : List Value).toArray below meth c H locs 0 0 Q (F0 m 86 ls [.long k0_j86]) := by
        intro v5_j86 k0_j86 s6_j86 H locs ls h hw hl
        unfold f6_readSum_b_j86 at h
        refine lv_lstore_n (lv' := [(3, .long k0_j86), (0, .ref (ad 6)), (1, .int a1), (2, .int a2), (5, .int v5_j86)]) hx hb dX6_readSum_86 rfl hl (by decide) rfl (fun ls hl => ?_)
        obtain ⟨n_87, e_87, h⟩ := nam_e h
        refine lv_iinc (v := n_87) (lv' := [(5, .int n_87), (3, .long k0_j86), (0, .ref (ad 6)), (1, .int a1), (2, .int a2)]) hx hb dX6_readSum_87 hl (k := 4) rfl (by rw [e_87]; rfl) (by decide) rfl (fun ls hl => ?_)
        refine lv_goto (tgt := 10) hx hb dX6_readSum_90 (by decide) ?_
        exact ih_10 (k0_j86, n_87, s6_j86) H locs ls (nx_l hx_10 h) hw (lv_sub hl [1, 0, 3, 4, 2] rfl)
      have hJ_50 : ∀ (v3_j50 : Int64) (v5_j50 : Int32) (k0_j50 : Int32) (s6_j50 : OS) (H : Heap) (locs : List Loc) (ls : Array Slot), f6_readSum_b_j50 rs a1 a2 v3_j50 v5_j50 k0_j50 s6_j50 = some x_10 → Wd D (cellsC ad cy s0 s1 s2 s3 s4 s5 s6_j50 s7 s8 s9 s10) (Afr ad 67 s.heap.size) s.heap H locs → lv_has ls 9 [(0, .ref (ad 6)), (1, .int a1), (2, .int a2), (3, .long v3_j50), (5, .int v5_j50)] → W p l e (rmL (j + 3)) s m ([.ref (ad 6), .int a1, .int a2] : List Value).toArray below meth c H locs 0 0 Q (F0 m 50 ls [.int k0_j50]) := by
        intro v3_j50 v5_j50 k0_j50 s6_j50 H locs ls h hw hl
        unfold f6_readSum_b_j50 at h
        refine lv_istore (lv' := [(6, .int k0_j50), (0, .ref (ad 6)), (1, .int a1), (2, .int a2), (3, .long v3_j50), (5, .int v5_j50)]) hx hb dX6_readSum_50 hl (by decide) rfl (fun ls hl => ?_)
        refine lv_aload_n hx hb dX6_readSum_52 rfl (lv_at hl 1 rfl) ?_
        refine lv_dup hx hb dX6_readSum_53 rfl ?_
        refine gX6_27 hx hb hts hown hK hw dX6_readSum_54 ?_
        refine lv_iconst (v := 1) hx hb dX6_readSum_57 (by decide) ?_
        refine lv_iadd hx hb dX6_readSum_58 ?_
        obtain ⟨s6_59, e_59, h⟩ := nam_e h
        refine pX6_27 hx hb hts hown hK hw e_59 dX6_readSum_59 (fun H locs hw => ?_)
        refine lv_aload_n hx hb dX6_readSum_62 rfl (lv_at hl 1 rfl) ?_
        refine lv_iload_n hx hb dX6_readSum_63 rfl (lv_at hl 2 rfl) ?_
        refine lv_iload_n hx hb dX6_readSum_64 rfl (lv_at hl 3 rfl) ?_
        obtain ⟨q_65, h_65, h⟩ := bnd_e h
        have pg_65 := preG (av := [.ref (ad 6), .int a1, .int a2]) hK hw.1 hw.2.1 (NC_keep hN hw.2.2) NC_blind
        refine endL (mc := 0) (ms := 0) (va_runV (As := [.int a1, .int a2]) (rest := []) ⟨hx, hb, hml, hown, hts⟩ (m6_readProduct l rs j hj hrs D ad cy H.size s0 s1 s2 s3 s4 s5 s6_59 s7 s8 s9 s10 a1 a2 q_65 h_65) (wX6_109 (j + 2) hts ⟨by show (j + 2) + 1 ≤ (j + 3); omega, by show 8 + (9 + 11) + 40 * (j + 2) ≤ 40 * (j + 3); omega⟩) ⟨pg_65.1, va_recv hK hw.1 (ci := 6) (q0 := 6) rfl eC_6, pg_65.2⟩ rfl rfl hl.1 rfl (lv_room (Nat.le_of_ble_eq_true rfl)) dX6_readSum_65 ⟨Nat.le_refl _, Nat.le_refl _⟩) hw.2.2 (afr_in hw.2.2) (fun H locs hw => ?_)
        refine lv_lstore (lv' := [(7, .long q_65.1), (6, .int k0_j50), (0, .ref (ad 6)), (1, .int a1), (2, .int a2), (3, .long v3_j50), (5, .int v5_j50)]) hx hb dX6_readSum_68 hl (by decide) rfl (fun ls hl => ?_)
        refine lv_iload hx hb dX6_readSum_70 (lv_at hl 1 rfl) ?_
        refine lv_if_eq (tgt := 82) hx hb dX6_readSum_72 (by decide) (fun c_72 => ?_) (fun c_72 => ?_)
        · have h := ite_t c_72 h
          refine lv_lload_n hx hb dX6_readSum_82 rfl (lv_at hl 5 rfl) ?_
          refine lv_lload hx hb dX6_readSum_83 (lv_at hl 0 rfl) ?_
          refine lv_lsub hx hb dX6_readSum_85 ?_
          exact hJ_86 v5_j50 ((v3_j50 - q_65.1)) q_65.2 H locs ls h hw (lv_sub hl [2, 3, 4, 6] rfl)
        · have h := ite_f c_72 h
          refine lv_lload_n hx hb dX6_readSum_75 rfl (lv_at hl 5 rfl) ?_
          refine lv_lload hx hb dX6_readSum_76 (lv_at hl 0 rfl) ?_
          refine lv_ladd hx hb dX6_readSum_78 ?_
          refine lv_goto (tgt := 86) hx hb dX6_readSum_79 (by decide) ?_
          exact hJ_86 v5_j50 ((v3_j50 + q_65.1)) q_65.2 H locs ls h hw (lv_sub hl [2, 3, 4, 6] rfl)
      have hJ_36 : ∀ (v3_j36 : Int64) (v5_j36 : Int32) (s6_j36 : OS) (H : Heap) (locs : List Loc) (ls : Array Slot), f6_readSum_b_j36 rs a1 a2 v3_j36 v5_j36 s6_j36 = some x_10 → Wd D (cellsC ad cy s0 s1 s2 s3 s4 s5 s6_j36 s7 s8 s9 s10) (Afr ad 67 s.heap.size) s.heap H locs → lv_has ls 9 [(0, .ref (ad 6)), (1, .int a1), (2, .int a2), (3, .long v3_j36), (5, .int v5_j36)] → W p l e (rmL (j + 3)) s m ([.ref (ad 6), .int a1, .int a2] : List Value).toArray below meth c H locs 0 0 Q (F0 m 36 ls []) := by
        intro v3_j36 v5_j36 s6_j36 H locs ls h hw hl
        unfold f6_readSum_b_j36 at h
        refine lv_aload_n hx hb dX6_readSum_36 rfl (lv_at hl 0 rfl) ?_
        obtain ⟨q_37, h_37, h⟩ := bnd_e h
        have pg_37 := preG (av := [.ref (ad 6)]) hK hw.1 hw.2.1 (NC_keep hN hw.2.2) NC_blind
        refine endI (mc := 0) (ms := 0) (va_runV (As := []) (rest := []) ⟨hx, hb, hml, hown, hts⟩ (m6_sign l D ad cy H.size s0 s1 s2 s3 s4 s5 s6_j36 s7 s8 s9 s10 q_37 h_37) (wX6_64 0 hts ⟨by show 0 + 1 ≤ (j + 3); omega, by show 8 + (1 + 11) + 40 * 0 ≤ 40 * (j + 3); omega⟩) ⟨pg_37.1, va_recv hK hw.1 (ci := 6) (q0 := 6) rfl eC_6, pg_37.2⟩ rfl rfl hl.1 rfl (lv_room (Nat.le_of_ble_eq_true rfl)) dX6_readSum_37 ⟨Nat.le_refl _, Nat.le_refl _⟩) hw.2.2 (afr_in hw.2.2) (fun H locs hw => ?_)
        refine lv_bipush (v := 43) hx hb dX6_readSum_40 (by decide) ?_
        refine lv_icmp_ne (tgt := 49) hx hb dX6_readSum_42 (by decide) (fun c_42 => ?_) (fun c_42 => ?_)
        · have h := ite_f c_42 h
          refine lv_iconst (v := 0) hx hb dX6_readSum_49 (by decide) ?_
          exact hJ_50 v3_j36 v5_j36 ((0 : Int32)) s6_j36 H locs ls h hw (lv_sub hl [0, 1, 2, 3, 4] rfl)
        · have h := ite_t c_42 h
          refine lv_iconst (v := 1) hx hb dX6_readSum_45 (by decide) ?_
          refine lv_goto (tgt := 50) hx hb dX6_readSum_46 (by decide) ?_
          exact hJ_50 v3_j36 v5_j36 ((1 : Int32)) s6_j36 H locs ls h hw (lv_sub hl [0, 1, 2, 3, 4] rfl)
      refine lv_iload hx hb dX6_readSum_10 (lv_at hl 1 rfl) ?_
      refine lv_sipush (v := 160) hx hb dX6_readSum_12 (by decide) ?_
      refine lv_icmp_ge (tgt := 93) hx hb dX6_readSum_15 (by decide) (fun c_15 => ?_) (fun c_15 => ?_)
      · have h := ite_t c_15 h
        have h := nx_m hx_10 h
        exact hJ_93 t_10.1 t_10.2.2 H locs ls h hw (lv_sub hl [0] rfl)
      · have h := ite_f c_15 h
        refine lv_aload_n hx hb dX6_readSum_18 rfl (lv_at hl 4 rfl) ?_
        obtain ⟨q_19, h_19, h⟩ := bnd_e h
        have pg_19 := preG (av := [.ref (ad 6)]) hK hw.1 hw.2.1 (NC_keep hN hw.2.2) NC_blind
        refine endI (mc := 0) (ms := 0) (va_runV (As := []) (rest := []) ⟨hx, hb, hml, hown, hts⟩ (m6_sign l D ad cy H.size s0 s1 s2 s3 s4 s5 t_10.2.2 s7 s8 s9 s10 q_19 h_19) (wX6_64 0 hts ⟨by show 0 + 1 ≤ (j + 3); omega, by show 8 + (1 + 11) + 40 * 0 ≤ 40 * (j + 3); omega⟩) ⟨pg_19.1, va_recv hK hw.1 (ci := 6) (q0 := 6) rfl eC_6, pg_19.2⟩ rfl rfl hl.1 rfl (lv_room (Nat.le_of_ble_eq_true rfl)) dX6_readSum_19 ⟨Nat.le_refl _, Nat.le_refl _⟩) hw.2.2 (afr_in hw.2.2) (fun H locs hw => ?_)
        refine lv_bipush (v := 43) hx hb dX6_readSum_22 (by decide) ?_
        refine lv_icmp_eq (tgt := 36) hx hb dX6_readSum_24 (by decide) (fun c_24 => ?_) (fun c_24 => ?_)
        · have h := ite_t c_24 h
          exact hJ_36 t_10.1 t_10.2.1 t_10.2.2 H locs ls h hw (lv_sub hl [4, 2, 3, 0, 1] rfl)
        · have h := ite_f c_24 h
          refine lv_aload_n hx hb dX6_readSum_27 rfl (lv_at hl 4 rfl) ?_
          obtain ⟨q_28, h_28, h⟩ := bnd_e h
          have pg_28 := preG (av := [.ref (ad 6)]) hK hw.1 hw.2.1 (NC_keep hN hw.2.2) NC_blind
          refine endI (mc := 0) (ms := 0) (va_runV (As := []) (rest := []) ⟨hx, hb, hml, hown, hts⟩ (m6_sign l D ad cy H.size s0 s1 s2 s3 s4 s5 t_10.2.2 s7 s8 s9 s10 q_28 h_28) (wX6_64 0 hts ⟨by show 0 + 1 ≤ (j + 3); omega, by show 8 + (1 + 11) + 40 * 0 ≤ 40 * (j + 3); omega⟩) ⟨pg_28.1, va_recv hK hw.1 (ci := 6) (q0 := 6) rfl eC_6, pg_28.2⟩ rfl rfl hl.1 rfl (lv_room (Nat.le_of_ble_eq_true rfl)) dX6_readSum_28 ⟨Nat.le_refl _, Nat.le_refl _⟩) hw.2.2 (afr_in hw.2.2) (fun H locs hw => ?_)
          refine lv_bipush (v := 45) hx hb dX6_readSum_31 (by decide) ?_
          refine lv_icmp_ne (tgt := 93) hx hb dX6_readSum_33 (by decide) (fun c_33 => ?_) (fun c_33 => ?_)
          · have h := ite_f c_33 h
            have h := nx_m hx_10 h
            exact hJ_93 t_10.1 t_10.2.2 H locs ls h hw (lv_sub hl [0] rfl)
          · have h := ite_t c_33 h
            exact hJ_36 t_10.1 t_10.2.1 t_10.2.2 H locs ls h hw (lv_sub hl [4, 2, 3, 0, 1] rfl)
  exact hL_10 n_10 (q_3.1, (0 : Int32), q_3.2) H locs ls hn_10 hw (lv_sub hl [1, 0, 3, 4, 2] rfl)
noncomputable def f6_readSum : Nat → Int32 → Int32 → OS → Option (Int64 × OS)
  | 0 => fun _ _ _ => none
  | d + 1 => f6_readSum_b (f6_readSum d)
theorem m6_readSum (l : Launch) : ∀ (d : Nat) (D : va_G) (ad : Nat → Nat) (cy : Nat → ClassId) (sz : Nat) (s0 s1 s2 s3 s4 s5 s6 s7 s8 s9 s10 : OS) (a1 : Int32) (a2 : Int32) (r : Int64 × OS), f6_readSum d a1 a2 s6 = some r → Met l yX6_readSum (wsOf yX6_readSum cX6_readSum 9 (some .long)) (rmL (12 + 3 * d)) (va_Pc ([.ref (ad 6), .int a1, .int a2] : List Value) (PreG D cy (cellsC ad cy s0 s1 s2 s3 s4 s5 s6 s7 s8 s9 s10) sz (NC ad))) (QcL D ad 67 (cellsC ad cy s0 s1 s2 s3 s4 s5 r.2 s7 s8 s9 s10) (r.1) sz) 0 0 (Afr ad 67 sz)
  | 0, D, ad, cy, sz, s0, s1, s2, s3, s4, s5, s6, s7, s8, s9, s10, a1, a2, r, h => by cases h
  | d + 1, D, ad, cy, sz, s0, s1, s2, s3, s4, s5, s6, s7, s8, s9, s10, a1, a2, r, h => m6_readSum_b l (f6_readSum d) (12 + 3 * d) (by omega) (m6_readSum l d) D ad cy sz s0 s1 s2 s3 s4 s5 s6 s7 s8 s9 s10 a1 a2 r h
theorem dX6_readAll_0 : decode cX6_readAll 0 = .ok (.aload_n 0, 1) := by decide +kernel
theorem dX6_readAll_1 : decode cX6_readAll 1 = .ok (.iload_n 1, 1) := by decide +kernel
theorem dX6_readAll_2 : decode cX6_readAll 2 = .ok (.iload_n 2, 1) := by decide +kernel
theorem dX6_readAll_3 : decode cX6_readAll 3 = .ok (.invokevirtual 95, 3) := by decide +kernel
theorem dX6_readAll_6 : decode cX6_readAll 6 = .ok (.istore_n 3, 1) := by decide +kernel
theorem dX6_readAll_7 : decode cX6_readAll 7 = .ok (.iconst 0, 1) := by decide +kernel
theorem dX6_readAll_8 : decode cX6_readAll 8 = .ok (.istore 4, 2) := by decide +kernel
theorem dX6_readAll_10 : decode cX6_readAll 10 = .ok (.iload 4, 2) := by decide +kernel
theorem dX6_readAll_12 : decode cX6_readAll 12 = .ok (.sipush 160, 3) := by decide +kernel
theorem dX6_readAll_15 : decode cX6_readAll 15 = .ok (.if_icmp .ge 53, 3) := by decide +kernel
theorem dX6_readAll_18 : decode cX6_readAll 18 = .ok (.aload_n 0, 1) := by decide +kernel
theorem dX6_readAll_19 : decode cX6_readAll 19 = .ok (.bipush 38, 2) := by decide +kernel
theorem dX6_readAll_21 : decode cX6_readAll 21 = .ok (.invokevirtual 76, 3) := by decide +kernel
theorem dX6_readAll_24 : decode cX6_readAll 24 = .ok (.ifCond .eq 44, 3) := by decide +kernel
theorem dX6_readAll_27 : decode cX6_readAll 27 = .ok (.aload_n 0, 1) := by decide +kernel
theorem dX6_readAll_28 : decode cX6_readAll 28 = .ok (.iload_n 1, 1) := by decide +kernel
theorem dX6_readAll_29 : decode cX6_readAll 29 = .ok (.iload_n 2, 1) := by decide +kernel
theorem dX6_readAll_30 : decode cX6_readAll 30 = .ok (.ifCond .eq 11, 3) := by decide +kernel
theorem dX6_readAll_33 : decode cX6_readAll 33 = .ok (.iload_n 3, 1) := by decide +kernel
theorem dX6_readAll_34 : decode cX6_readAll 34 = .ok (.ifCond .eq 7, 3) := by decide +kernel
theorem dX6_readAll_37 : decode cX6_readAll 37 = .ok (.iconst 1, 1) := by decide +kernel
theorem dX6_readAll_38 : decode cX6_readAll 38 = .ok (.goto 4, 3) := by decide +kernel
theorem dX6_readAll_41 : decode cX6_readAll 41 = .ok (.iconst 0, 1) := by decide +kernel
theorem dX6_readAll_42 : decode cX6_readAll 42 = .ok (.invokevirtual 95, 3) := by decide +kernel
theorem dX6_readAll_45 : decode cX6_readAll 45 = .ok (.istore 5, 2) := by decide +kernel
theorem dX6_readAll_47 : decode cX6_readAll 47 = .ok (.iload_n 3, 1) := by decide +kernel
theorem dX6_readAll_48 : decode cX6_readAll 48 = .ok (.ifCond .eq 12, 3) := by decide +kernel
theorem dX6_readAll_51 : decode cX6_readAll 51 = .ok (.iload 5, 2) := by decide +kernel
theorem dX6_readAll_53 : decode cX6_readAll 53 = .ok (.ifCond .eq 7, 3) := by decide +kernel
theorem dX6_readAll_56 : decode cX6_readAll 56 = .ok (.iconst 1, 1) := by decide +kernel
theorem dX6_readAll_57 : decode cX6_readAll 57 = .ok (.goto 4, 3) := by decide +kernel
theorem dX6_readAll_60 : decode cX6_readAll 60 = .ok (.iconst 0, 1) := by decide +kernel
theorem dX6_readAll_61 : decode cX6_readAll 61 = .ok (.istore_n 3, 1) := by decide +kernel
theorem dX6_readAll_62 : decode cX6_readAll 62 = .ok (.iinc 4 1, 3) := by decide +kernel
theorem dX6_readAll_65 : decode cX6_readAll 65 = .ok (.goto (-55), 3) := by decide +kernel
theorem dX6_readAll_68 : decode cX6_readAll 68 = .ok (.iload_n 3, 1) := by decide +kernel
theorem dX6_readAll_69 : decode cX6_readAll 69 = .ok (.ireturn, 1) := by decide +kernel
noncomputable def f6_readAll_j68 (rs : Int32 → Int32 → OS → Option (Int32 × OS)) (v3_j68 : Int32) (s6_j68 : OS) : Option (Int32 × OS) := chk (isB v3_j68) (some (v3_j68, s6_j68))
noncomputable def f6_readAll_j61 (rs : Int32 → Int32 → OS → Option (Int32 × OS)) (v1_j61 : Int32) (v2_j61 : Int32) (v4_j61 : Int32) (k0_j61 : Int32) (s6_j61 : OS) : Option ((Int32 × Int32 × OS) ⊕ (Int32 × OS)) := nm (v4_j61 + (1 : Int32)) fun n_62 => some (Sum.inl (k0_j61, n_62, s6_j61))
noncomputable def f6_readAll_j60 (rs : Int32 → Int32 → OS → Option (Int32 × OS)) (v1_j60 : Int32) (v2_j60 : Int32) (v4_j60 : Int32) (s6_j60 : OS) : Option ((Int32 × Int32 × OS) ⊕ (Int32 × OS)) := f6_readAll_j61 rs v1_j60 v2_j60 v4_j60 ((0 : Int32)) s6_j60
noncomputable def f6_readAll_j42 (rs : Int32 → Int32 → OS → Option (Int32 × OS)) (v1_j42 : Int32) (v2_j42 : Int32) (v3_j42 : Int32) (v4_j42 : Int32) (k1_j42 : Int32) (k2_j42 : Int32) (s6_j42 : OS) : Option ((Int32 × Int32 × OS) ⊕ (Int32 × OS)) := Option.bind (rs k1_j42 k2_j42 s6_j42) fun q_42 => if v3_j42 = 0 then (f6_readAll_j60 rs v1_j42 v2_j42 v4_j42 q_42.2) else (if q_42.1 = 0 then (f6_readAll_j60 rs v1_j42 v2_j42 v4_j42 q_42.2) else (f6_readAll_j61 rs v1_j42 v2_j42 v4_j42 ((1 : Int32)) q_42.2))
noncomputable def f6_readAll_j41 (rs : Int32 → Int32 → OS → Option (Int32 × OS)) (v1_j41 : Int32) (v2_j41 : Int32) (v3_j41 : Int32) (v4_j41 : Int32) (k1_j41 : Int32) (s6_j41 : OS) : Option ((Int32 × Int32 × OS) ⊕ (Int32 × OS)) := f6_readAll_j42 rs v1_j41 v2_j41 v3_j41 v4_j41 k1_j41 ((0 : Int32)) s6_j41
noncomputable def f6_readAll_l10 (rs : Int32 → Int32 → OS → Option (Int32 × OS)) (v1_i10 : Int32) (v2_i10 : Int32) : Int32 × Int32 × OS → Option ((Int32 × Int32 × OS) ⊕ (Int32 × OS)) := fun t_10 => if (160 : Int32) ≤ t_10.2.1 then (Option.map Sum.inr (f6_readAll_j68 rs t_10.1 t_10.2.2)) else (Option.bind (f6_take ((38 : Int32)) t_10.2.2) fun q_21 => if q_21.1 = 0 then (Option.map Sum.inr (f6_readAll_j68 rs t_10.1 q_21.2)) else (if v2_i10 = 0 then (f6_readAll_j41 rs v1_i10 v2_i10 t_10.1 t_10.2.1 v1_i10 q_21.2) else (if t_10.1 = 0 then (f6_readAll_j41 rs v1_i10 v2_i10 t_10.1 t_10.2.1 v1_i10 q_21.2) else (f6_readAll_j42 rs v1_i10 v2_i10 t_10.1 t_10.2.1 v1_i10 ((1 : Int32)) q_21.2))))
noncomputable def f6_readAll (rs : Int32 → Int32 → OS → Option (Int32 × OS)) (a1 : Int32) (a2 : Int32) (s6 : OS) : Option (Int32 × OS) := Option.bind (rs a1 a2 s6) fun q_3 => loop (f6_readAll_l10 rs a1 a2) (q_3.1, (0 : Int32), q_3.2)
set_option maxHeartbeats 4000000 in
set_option maxRecDepth 100000 in
theorem m6_readAll (l : Launch) (rs : Int32 → Int32 → OS → Option (Int32 × OS)) (j : Nat) (hj : 40 ≤ j) (hrs : ∀ (D : va_G) (ad : Nat → Nat) (cy : Nat → ClassId) (sz : Nat) (s0 s1 s2 s3 s4 s5 s6 s7 s8 s9 s10 : OS) (a1 : Int32) (a2 : Int32) (r : Int32 × OS), rs a1 a2 s6 = some r → Met l yX6_readSingle (wsOf yX6_readSingle cX6_readSingle 7 (some .boolean)) (rmL (j)) (va_Pc ([.ref (ad 6), .int a1, .int a2] : List Value) (PreG D cy (cellsC ad cy s0 s1 s2 s3 s4 s5 s6 s7 s8 s9 s10) sz (NC ad))) (QcI D ad 67 (cellsC ad cy s0 s1 s2 s3 s4 s5 r.2 s7 s8 s9 s10) (r.1) sz) 0 0 (Afr ad 67 sz)) (D : va_G) (ad : Nat → Nat) (cy : Nat → ClassId) (sz : Nat) (s0 s1 s2 s3 s4 s5 s6 s7 s8 s9 s10 : OS) (a1 : Int32) (a2 : Int32) (r : Int32 × OS) (h : f6_readAll rs a1 a2 s6 = some r) : Met l yX6_readAll (wsOf yX6_readAll cX6_readAll 6 (some .boolean)) (rmL (j + 1)) (va_Pc ([.ref (ad 6), .int a1, .int a2] : List Value) (PreG D cy (cellsC ad cy s0 s1 s2 s3 s4 s5 s6 s7 s8 s9 s10) sz (NC ad))) (QcI D ad 67 (cellsC ad cy s0 s1 s2 s3 s4 s5 r.2 s7 s8 s9 s10) (r.1) sz) 0 0 (Afr ad 67 sz) := by
  refine metG (own := RX6) (by decide) rfl (Nat.le_of_ble_eq_true rfl) fstC ?_ sz
  intro p e s m below meth c ls C0 hw hl
  obtain ⟨hx, hb, hml, hown, hts, hr, hlk, hK, hN⟩ := C0
  have hl : lv_has ls 6 [(0, .ref (ad 6)), (1, .int a1), (2, .int a2)] := hl
  generalize hQ : MQ below (QcI D ad 67 (cellsC ad cy s0 s1 s2 s3 s4 s5 r.2 s7 s8 s9 s10) (r.1) s.heap.size) ([.ref (ad 6), .int a1, .int a2] : List Value).toArray s 0 0 (Afr ad 67 s.heap.size) = Q
  obtain ⟨H, hH⟩ : ∃ H : Heap, H = s.heap := ⟨_, rfl⟩
  obtain ⟨locs, hlc⟩ : ∃ L : List Loc, L = [] := ⟨_, rfl⟩
  have hw : Wd D (cellsC ad cy s0 s1 s2 s3 s4 s5 s6 s7 s8 s9 s10) (Afr ad 67 s.heap.size) s.heap H locs := by rw [hH, hlc]; exact hw
  suffices h0 : W p l e (rmL (j + 1)) s m ([.ref (ad 6), .int a1, .int a2] : List Value).toArray below meth c H locs 0 0 Q (F0 m 0 ls []) by rw [hH, hlc] at h0; exact h0
  clear hH hlc
  unfold f6_readAll at h
  have hJ_68 : ∀ (v3_j68 : Int32) (s6_j68 : OS) (H : Heap) (locs : List Loc) (ls : Array Slot), f6_readAll_j68 rs v3_j68 s6_j68 = some r → Wd D (cellsC ad cy s0 s1 s2 s3 s4 s5 s6_j68 s7 s8 s9 s10) (Afr ad 67 s.heap.size) s.heap H locs → lv_has ls 6 [(3, .int v3_j68)] → W p l e (rmL (j + 1)) s m ([.ref (ad 6), .int a1, .int a2] : List Value).toArray below meth c H locs 0 0 Q (F0 m 68 ls []) := by
    intro v3_j68 s6_j68 H locs ls h hw hl
    unfold f6_readAll_j68 at h
    refine lv_iload_n hx hb dX6_readAll_68 rfl (lv_at hl 0 rfl) ?_
    obtain ⟨hz_69, h⟩ := chk_e h
    have h := Option.some.inj h
    subst h
    rw [← hQ]
    exact retI hx hb hr hlk hw (narB hz_69) dX6_readAll_69
  refine lv_aload_n hx hb dX6_readAll_0 rfl (lv_at hl 0 rfl) ?_
  refine lv_iload_n hx hb dX6_readAll_1 rfl (lv_at hl 1 rfl) ?_
  refine lv_iload_n hx hb dX6_readAll_2 rfl (lv_at hl 2 rfl) ?_
  obtain ⟨q_3, h_3, h⟩ := bnd_e h
  have pg_3 := preG (av := [.ref (ad 6), .int a1, .int a2]) hK hw.1 hw.2.1 (NC_keep hN hw.2.2) NC_blind
  refine endI (mc := 0) (ms := 0) (va_runV (As := [.int a1, .int a2]) (rest := []) ⟨hx, hb, hml, hown, hts⟩ (hrs D ad cy H.size s0 s1 s2 s3 s4 s5 s6 s7 s8 s9 s10 a1 a2 q_3 h_3) (wX6_95 j hts ⟨by show j + 1 ≤ (j + 1); omega, by show 8 + (7 + 11) + 40 * j ≤ 40 * (j + 1); omega⟩) ⟨pg_3.1, va_recv hK hw.1 (ci := 6) (q0 := 6) rfl eC_6, pg_3.2⟩ rfl rfl hl.1 rfl (lv_room (Nat.le_of_ble_eq_true rfl)) dX6_readAll_3 ⟨Nat.le_refl _, Nat.le_refl _⟩) hw.2.2 (afr_in hw.2.2) (fun H locs hw => ?_)
  refine lv_istore_n (lv' := [(3, .int q_3.1), (0, .ref (ad 6)), (1, .int a1), (2, .int a2)]) hx hb dX6_readAll_6 rfl hl (by decide) rfl (fun ls hl => ?_)
  refine lv_iconst (v := 0) hx hb dX6_readAll_7 (by decide) ?_
  refine lv_istore (lv' := [(4, .int ((0 : Int32))), (3, .int q_3.1), (0, .ref (ad 6)), (1, .int a1), (2, .int a2)]) hx hb dX6_readAll_8 hl (by decide) rfl (fun ls hl => ?_)
  obtain ⟨n_10, hn_10⟩ := loop_e h
  have hL_10 : ∀ (n : Nat) (t_10 : Int32 × Int32 × OS) (H : Heap) (locs : List Loc) (ls : Array Slot), loopN (f6_readAll_l10 rs a1 a2) n t_10 = some r → Wd D (cellsC ad cy s0 s1 s2 s3 s4 s5 t_10.2.2 s7 s8 s9 s10) (Afr ad 67 s.heap.size) s.heap H locs → lv_has ls 6 [(3, .int t_10.1), (4, .int t_10.2.1), (1, .int a1), (2, .int a2), (0, .ref (ad 6))] → W p l e (rmL (j + 1)) s m ([.ref (ad 6), .int a1, .int a2] : List Value).toArray below meth c H locs 0 0 Q (F0 m 10 ls []) := by
    intro n
    induction n with
    | zero => intro t_10 H locs ls hn; cases hn
    | succ n ih_10 =>
      intro t_10 H locs ls hn hw hl
      obtain ⟨x_10, h, hx_10⟩ := loopN_e hn
      unfold f6_readAll_l10 at h
      have hJ_61 : ∀ (v4_j61 : Int32) (k0_j61 : Int32) (s6_j61 : OS) (H : Heap) (locs : List Loc) (ls : Array Slot), f6_readAll_j61 rs a1 a2 v4_j61 k0_j61 s6_j61 = some x_10 → Wd D (cellsC ad cy s0 s1 s2 s3 s4 s5 s6_j61 s7 s8 s9 s10) (Afr ad 67 s.heap.size) s.heap H locs → lv_has ls 6 [(0, .ref (ad 6)), (1, .int a1), (2, .int a2), (4, .int v4_j61)] → W p l e (rmL (j + 1)) s m ([.ref (ad 6), .int a1, .int a2] : List Value).toArray below meth c H locs 0 0 Q (F0 m 61 ls [.int k0_j61]) := by
        intro v4_j61 k0_j61 s6_j61 H locs ls h hw hl
        unfold f6_readAll_j61 at h
        refine lv_istore_n (lv' := [(3, .int k0_j61), (0, .ref (ad 6)), (1, .int a1), (2, .int a2), (4, .int v4_j61)]) hx hb dX6_readAll_61 rfl hl (by decide) rfl (fun ls hl => ?_)
        obtain ⟨n_62, e_62, h⟩ := nam_e h
        refine lv_iinc (v := n_62) (lv' := [(4, .int n_62), (3, .int k0_j61), (0, .ref (ad 6)), (1, .int a1), (2, .int a2)]) hx hb dX6_readAll_62 hl (k := 4) rfl (by rw [e_62]; rfl) (by decide) rfl (fun ls hl => ?_)
        refine lv_goto (tgt := 10) hx hb dX6_readAll_65 (by decide) ?_
        exact ih_10 (k0_j61, n_62, s6_j61) H locs ls (nx_l hx_10 h) hw (lv_sub hl [1, 0, 3, 4, 2] rfl)
      have hJ_60 : ∀ (v4_j60 : Int32) (s6_j60 : OS) (H : Heap) (locs : List Loc) (ls : Array Slot), f6_readAll_j60 rs a1 a2 v4_j60 s6_j60 = some x_10 → Wd D (cellsC ad cy s0 s1 s2 s3 s4 s5 s6_j60 s7 s8 s9 s10) (Afr ad 67 s.heap.size) s.heap H locs → lv_has ls 6 [(0, .ref (ad 6)), (1, .int a1), (2, .int a2), (4, .int v4_j60)] → W p l e (rmL (j + 1)) s m ([.ref (ad 6), .int a1, .int a2] : List Value).toArray below meth c H locs 0 0 Q (F0 m 60 ls []) := by
        intro v4_j60 s6_j60 H locs ls h hw hl
        unfold f6_readAll_j60 at h
        refine lv_iconst (v := 0) hx hb dX6_readAll_60 (by decide) ?_
        exact hJ_61 v4_j60 ((0 : Int32)) s6_j60 H locs ls h hw (lv_sub hl [0, 1, 2, 3] rfl)
      have hJ_42 : ∀ (v3_j42 : Int32) (v4_j42 : Int32) (k1_j42 : Int32) (k2_j42 : Int32) (s6_j42 : OS) (H : Heap) (locs : List Loc) (ls : Array Slot), f6_readAll_j42 rs a1 a2 v3_j42 v4_j42 k1_j42 k2_j42 s6_j42 = some x_10 → Wd D (cellsC ad cy s0 s1 s2 s3 s4 s5 s6_j42 s7 s8 s9 s10) (Afr ad 67 s.heap.size) s.heap H locs → lv_has ls 6 [(0, .ref (ad 6)), (1, .int a1), (2, .int a2), (3, .int v3_j42), (4, .int v4_j42)] → W p l e (rmL (j + 1)) s m ([.ref (ad 6), .int a1, .int a2] : List Value).toArray below meth c H locs 0 0 Q (F0 m 42 ls [.int k2_j42, .int k1_j42, .ref (ad 6)]) := by
        intro v3_j42 v4_j42 k1_j42 k2_j42 s6_j42 H locs ls h hw hl
        unfold f6_readAll_j42 at h
        obtain ⟨q_42, h_42, h⟩ := bnd_e h
        have pg_42 := preG (av := [.ref (ad 6), .int k1_j42, .int k2_j42]) hK hw.1 hw.2.1 (NC_keep hN hw.2.2) NC_blind
        refine endI (mc := 0) (ms := 0) (va_runV (As := [.int k1_j42, .int k2_j42]) (rest := []) ⟨hx, hb, hml, hown, hts⟩ (hrs D ad cy H.size s0 s1 s2 s3 s4 s5 s6_j42 s7 s8 s9 s10 k1_j42 k2_j42 q_42 h_42) (wX6_95 j hts ⟨by show j + 1 ≤ (j + 1); omega, by show 8 + (7 + 11) + 40 * j ≤ 40 * (j + 1); omega⟩) ⟨pg_42.1, va_recv hK hw.1 (ci := 6) (q0 := 6) rfl eC_6, pg_42.2⟩ rfl rfl hl.1 rfl (lv_room (Nat.le_of_ble_eq_true rfl)) dX6_readAll_42 ⟨Nat.le_refl _, Nat.le_refl _⟩) hw.2.2 (afr_in hw.2.2) (fun H locs hw => ?_)
        refine lv_istore (lv' := [(5, .int q_42.1), (0, .ref (ad 6)), (1, .int a1), (2, .int a2), (3, .int v3_j42), (4, .int v4_j42)]) hx hb dX6_readAll_45 hl (by decide) rfl (fun ls hl => ?_)
        refine lv_iload_n hx hb dX6_readAll_47 rfl (lv_at hl 4 rfl) ?_
        refine lv_if_eq (tgt := 60) hx hb dX6_readAll_48 (by decide) (fun c_48 => ?_) (fun c_48 => ?_)
        · have h := ite_t c_48 h
          exact hJ_60 v4_j42 q_42.2 H locs ls h hw (lv_sub hl [1, 2, 3, 5] rfl)
        · have h := ite_f c_48 h
          refine lv_iload hx hb dX6_readAll_51 (lv_at hl 0 rfl) ?_
          refine lv_if_eq (tgt := 60) hx hb dX6_readAll_53 (by decide) (fun c_53 => ?_) (fun c_53 => ?_)
          · have h := ite_t c_53 h
            exact hJ_60 v4_j42 q_42.2 H locs ls h hw (lv_sub hl [1, 2, 3, 5] rfl)
          · have h := ite_f c_53 h
            refine lv_iconst (v := 1) hx hb dX6_readAll_56 (by decide) ?_
            refine lv_goto (tgt := 61) hx hb dX6_readAll_57 (by decide) ?_
            exact hJ_61 v4_j42 ((1 : Int32)) q_42.2 H locs ls h hw (lv_sub hl [1, 2, 3, 5] rfl)
      have hJ_41 : ∀ (v3_j41 : Int32) (v4_j41 : Int32) (k1_j41 : Int32) (s6_j41 : OS) (H : Heap) (locs : List Loc) (ls : Array Slot), f6_readAll_j41 rs a1 a2 v3_j41 v4_j41 k1_j41 s6_j41 = some x_10 → Wd D (cellsC ad cy s0 s1 s2 s3 s4 s5 s6_j41 s7 s8 s9 s10) (Afr ad 67 s.heap.size) s.heap H locs → lv_has ls 6 [(0, .ref (ad 6)), (1, .int a1), (2, .int a2), (3, .int v3_j41), (4, .int v4_j41)] → W p l e (rmL (j + 1)) s m ([.ref (ad 6), .int a1, .int a2] : List Value).toArray below meth c H locs 0 0 Q (F0 m 41 ls [.int k1_j41, .ref (ad 6)]) := by
        intro v3_j41 v4_j41 k1_j41 s6_j41 H locs ls h hw hl
        unfold f6_readAll_j41 at h
        refine lv_iconst (v := 0) hx hb dX6_readAll_41 (by decide) ?_
        exact hJ_42 v3_j41 v4_j41 k1_j41 ((0 : Int32)) s6_j41 H locs ls h hw (lv_sub hl [0, 1, 2, 3, 4] rfl)
      refine lv_iload hx hb dX6_readAll_10 (lv_at hl 1 rfl) ?_
      refine lv_sipush (v := 160) hx hb dX6_readAll_12 (by decide) ?_
      refine lv_icmp_ge (tgt := 68) hx hb dX6_readAll_15 (by decide) (fun c_15 => ?_) (fun c_15 => ?_)
      · have h := ite_t c_15 h
        have h := nx_m hx_10 h
        exact hJ_68 t_10.1 t_10.2.2 H locs ls h hw (lv_sub hl [0] rfl)
      · have h := ite_f c_15 h
        refine lv_aload_n hx hb dX6_readAll_18 rfl (lv_at hl 4 rfl) ?_
        refine lv_bipush (v := 38) hx hb dX6_readAll_19 (by decide) ?_
        obtain ⟨q_21, h_21, h⟩ := bnd_e h
        have pg_21 := preG (av := [.ref (ad 6), .int ((38 : Int32))]) hK hw.1 hw.2.1 (NC_keep hN hw.2.2) NC_blind
        refine endI (mc := 0) (ms := 0) (va_runV (As := [.int ((38 : Int32))]) (rest := []) ⟨hx, hb, hml, hown, hts⟩ (m6_take l D ad cy H.size s0 s1 s2 s3 s4 s5 t_10.2.2 s7 s8 s9 s10 ((38 : Int32)) q_21 h_21) (wX6_76 1 hts ⟨by show 1 + 1 ≤ (j + 1); omega, by show 8 + (2 + 11) + 40 * 1 ≤ 40 * (j + 1); omega⟩) ⟨pg_21.1, va_recv hK hw.1 (ci := 6) (q0 := 6) rfl eC_6, pg_21.2⟩ rfl rfl hl.1 rfl (lv_room (Nat.le_of_ble_eq_true rfl)) dX6_readAll_21 ⟨Nat.le_refl _, Nat.le_refl _⟩) hw.2.2 (afr_in hw.2.2) (fun H locs hw => ?_)
        refine lv_if_eq (tgt := 68) hx hb dX6_readAll_24 (by decide) (fun c_24 => ?_) (fun c_24 => ?_)
        · have h := ite_t c_24 h
          have h := nx_m hx_10 h
          exact hJ_68 t_10.1 q_21.2 H locs ls h hw (lv_sub hl [0] rfl)
        · have h := ite_f c_24 h
          refine lv_aload_n hx hb dX6_readAll_27 rfl (lv_at hl 4 rfl) ?_
          refine lv_iload_n hx hb dX6_readAll_28 rfl (lv_at hl 2 rfl) ?_
          refine lv_iload_n hx hb dX6_readAll_29 rfl (lv_at hl 3 rfl) ?_
          refine lv_if_eq (tgt := 41) hx hb dX6_readAll_30 (by decide) (fun c_30 => ?_) (fun c_30 => ?_)
          · have h := ite_t c_30 h
            exact hJ_41 t_10.1 t_10.2.1 a1 q_21.2 H locs ls h hw (lv_sub hl [4, 2, 3, 0, 1] rfl)
          · have h := ite_f c_30 h
            refine lv_iload_n hx hb dX6_readAll_33 rfl (lv_at hl 0 rfl) ?_
            refine lv_if_eq (tgt := 41) hx hb dX6_readAll_34 (by decide) (fun c_34 => ?_) (fun c_34 => ?_)
            · have h := ite_t c_34 h
              exact hJ_41 t_10.1 t_10.2.1 a1 q_21.2 H locs ls h hw (lv_sub hl [4, 2, 3, 0, 1] rfl)
            · have h := ite_f c_34 h
              refine lv_iconst (v := 1) hx hb dX6_readAll_37 (by decide) ?_
              refine lv_goto (tgt := 42) hx hb dX6_readAll_38 (by decide) ?_
              exact hJ_42 t_10.1 t_10.2.1 a1 ((1 : Int32)) q_21.2 H locs ls h hw (lv_sub hl [4, 2, 3, 0, 1] rfl)
  exact hL_10 n_10 (q_3.1, (0 : Int32), q_3.2) H locs ls hn_10 hw (lv_sub hl [1, 0, 3, 4, 2] rfl)
theorem dX6_readAny_0 : decode cX6_readAny 0 = .ok (.aload_n 0, 1) := by decide +kernel
theorem dX6_readAny_1 : decode cX6_readAny 1 = .ok (.iload_n 1, 1) := by decide +kernel
theorem dX6_readAny_2 : decode cX6_readAny 2 = .ok (.iload_n 2, 1) := by decide +kernel
theorem dX6_readAny_3 : decode cX6_readAny 3 = .ok (.invokevirtual 92, 3) := by decide +kernel
theorem dX6_readAny_6 : decode cX6_readAny 6 = .ok (.istore_n 3, 1) := by decide +kernel
theorem dX6_readAny_7 : decode cX6_readAny 7 = .ok (.iconst 0, 1) := by decide +kernel
theorem dX6_readAny_8 : decode cX6_readAny 8 = .ok (.istore 4, 2) := by decide +kernel
theorem dX6_readAny_10 : decode cX6_readAny 10 = .ok (.iload 4, 2) := by decide +kernel
theorem dX6_readAny_12 : decode cX6_readAny 12 = .ok (.sipush 160, 3) := by decide +kernel
theorem dX6_readAny_15 : decode cX6_readAny 15 = .ok (.if_icmp .ge 53, 3) := by decide +kernel
theorem dX6_readAny_18 : decode cX6_readAny 18 = .ok (.aload_n 0, 1) := by decide +kernel
theorem dX6_readAny_19 : decode cX6_readAny 19 = .ok (.bipush 124, 2) := by decide +kernel
theorem dX6_readAny_21 : decode cX6_readAny 21 = .ok (.invokevirtual 76, 3) := by decide +kernel
theorem dX6_readAny_24 : decode cX6_readAny 24 = .ok (.ifCond .eq 44, 3) := by decide +kernel
theorem dX6_readAny_27 : decode cX6_readAny 27 = .ok (.aload_n 0, 1) := by decide +kernel
theorem dX6_readAny_28 : decode cX6_readAny 28 = .ok (.iload_n 1, 1) := by decide +kernel
theorem dX6_readAny_29 : decode cX6_readAny 29 = .ok (.iload_n 2, 1) := by decide +kernel
theorem dX6_readAny_30 : decode cX6_readAny 30 = .ok (.ifCond .eq 11, 3) := by decide +kernel
theorem dX6_readAny_33 : decode cX6_readAny 33 = .ok (.iload_n 3, 1) := by decide +kernel
theorem dX6_readAny_34 : decode cX6_readAny 34 = .ok (.ifCond .ne 7, 3) := by decide +kernel
theorem dX6_readAny_37 : decode cX6_readAny 37 = .ok (.iconst 1, 1) := by decide +kernel
theorem dX6_readAny_38 : decode cX6_readAny 38 = .ok (.goto 4, 3) := by decide +kernel
theorem dX6_readAny_41 : decode cX6_readAny 41 = .ok (.iconst 0, 1) := by decide +kernel
theorem dX6_readAny_42 : decode cX6_readAny 42 = .ok (.invokevirtual 92, 3) := by decide +kernel
theorem dX6_readAny_45 : decode cX6_readAny 45 = .ok (.istore 5, 2) := by decide +kernel
theorem dX6_readAny_47 : decode cX6_readAny 47 = .ok (.iload_n 3, 1) := by decide +kernel
theorem dX6_readAny_48 : decode cX6_readAny 48 = .ok (.ifCond .ne 8, 3) := by decide +kernel
theorem dX6_readAny_51 : decode cX6_readAny 51 = .ok (.iload 5, 2) := by decide +kernel
theorem dX6_readAny_53 : decode cX6_readAny 53 = .ok (.ifCond .eq 7, 3) := by decide +kernel
theorem dX6_readAny_56 : decode cX6_readAny 56 = .ok (.iconst 1, 1) := by decide +kernel
theorem dX6_readAny_57 : decode cX6_readAny 57 = .ok (.goto 4, 3) := by decide +kernel
theorem dX6_readAny_60 : decode cX6_readAny 60 = .ok (.iconst 0, 1) := by decide +kernel
theorem dX6_readAny_61 : decode cX6_readAny 61 = .ok (.istore_n 3, 1) := by decide +kernel
theorem dX6_readAny_62 : decode cX6_readAny 62 = .ok (.iinc 4 1, 3) := by decide +kernel
theorem dX6_readAny_65 : decode cX6_readAny 65 = .ok (.goto (-55), 3) := by decide +kernel
theorem dX6_readAny_68 : decode cX6_readAny 68 = .ok (.iload_n 3, 1) := by decide +kernel
theorem dX6_readAny_69 : decode cX6_readAny 69 = .ok (.ireturn, 1) := by decide +kernel
noncomputable def f6_readAny_j68 (rs : Int32 → Int32 → OS → Option (Int32 × OS)) (v3_j68 : Int32) (s6_j68 : OS) : Option (Int32 × OS) := chk (isB v3_j68) (some (v3_j68, s6_j68))
noncomputable def f6_readAny_j61 (rs : Int32 → Int32 → OS → Option (Int32 × OS)) (v1_j61 : Int32) (v2_j61 : Int32) (v4_j61 : Int32) (k0_j61 : Int32) (s6_j61 : OS) : Option ((Int32 × Int32 × OS) ⊕ (Int32 × OS)) := nm (v4_j61 + (1 : Int32)) fun n_62 => some (Sum.inl (k0_j61, n_62, s6_j61))
noncomputable def f6_readAny_j56 (rs : Int32 → Int32 → OS → Option (Int32 × OS)) (v1_j56 : Int32) (v2_j56 : Int32) (v4_j56 : Int32) (s6_j56 : OS) : Option ((Int32 × Int32 × OS) ⊕ (Int32 × OS)) := f6_readAny_j61 rs v1_j56 v2_j56 v4_j56 ((1 : Int32)) s6_j56
noncomputable def f6_readAny_j42 (rs : Int32 → Int32 → OS → Option (Int32 × OS)) (v1_j42 : Int32) (v2_j42 : Int32) (v3_j42 : Int32) (v4_j42 : Int32) (k1_j42 : Int32) (k2_j42 : Int32) (s6_j42 : OS) : Option ((Int32 × Int32 × OS) ⊕ (Int32 × OS)) := Option.bind (f6_readAll rs k1_j42 k2_j42 s6_j42) fun q_42 => if v3_j42 = 0 then (if q_42.1 = 0 then (f6_readAny_j61 rs v1_j42 v2_j42 v4_j42 ((0 : Int32)) q_42.2) else (f6_readAny_j56 rs v1_j42 v2_j42 v4_j42 q_42.2)) else (f6_readAny_j56 rs v1_j42 v2_j42 v4_j42 q_42.2)
noncomputable def f6_readAny_j41 (rs : Int32 → Int32 → OS → Option (Int32 × OS)) (v1_j41 : Int32) (v2_j41 : Int32) (v3_j41 : Int32) (v4_j41 : Int32) (k1_j41 : Int32) (s6_j41 : OS) : Option ((Int32 × Int32 × OS) ⊕ (Int32 × OS)) := f6_readAny_j42 rs v1_j41 v2_j41 v3_j41 v4_j41 k1_j41 ((0 : Int32)) s6_j41
noncomputable def f6_readAny_l10 (rs : Int32 → Int32 → OS → Option (Int32 × OS)) (v1_i10 : Int32) (v2_i10 : Int32) : Int32 × Int32 × OS → Option ((Int32 × Int32 × OS) ⊕ (Int32 × OS)) := fun t_10 => if (160 : Int32) ≤ t_10.2.1 then (Option.map Sum.inr (f6_readAny_j68 rs t_10.1 t_10.2.2)) else (Option.bind (f6_take ((124 : Int32)) t_10.2.2) fun q_21 => if q_21.1 = 0 then (Option.map Sum.inr (f6_readAny_j68 rs t_10.1 q_21.2)) else (if v2_i10 = 0 then (f6_readAny_j41 rs v1_i10 v2_i10 t_10.1 t_10.2.1 v1_i10 q_21.2) else (if t_10.1 = 0 then (f6_readAny_j42 rs v1_i10 v2_i10 t_10.1 t_10.2.1 v1_i10 ((1 : Int32)) q_21.2) else (f6_readAny_j41 rs v1_i10 v2_i10 t_10.1 t_10.2.1 v1_i10 q_21.2))))
noncomputable def f6_readAny (rs : Int32 → Int32 → OS → Option (Int32 × OS)) (a1 : Int32) (a2 : Int32) (s6 : OS) : Option (Int32 × OS) := Option.bind (f6_readAll rs a1 a2 s6) fun q_3 => loop (f6_readAny_l10 rs a1 a2) (q_3.1, (0 : Int32), q_3.2)
set_option maxHeartbeats 4000000 in
set_option maxRecDepth 100000 in
theorem m6_readAny (l : Launch) (rs : Int32 → Int32 → OS → Option (Int32 × OS)) (j : Nat) (hj : 40 ≤ j) (hrs : ∀ (D : va_G) (ad : Nat → Nat) (cy : Nat → ClassId) (sz : Nat) (s0 s1 s2 s3 s4 s5 s6 s7 s8 s9 s10 : OS) (a1 : Int32) (a2 : Int32) (r : Int32 × OS), rs a1 a2 s6 = some r → Met l yX6_readSingle (wsOf yX6_readSingle cX6_readSingle 7 (some .boolean)) (rmL (j)) (va_Pc ([.ref (ad 6), .int a1, .int a2] : List Value) (PreG D cy (cellsC ad cy s0 s1 s2 s3 s4 s5 s6 s7 s8 s9 s10) sz (NC ad))) (QcI D ad 67 (cellsC ad cy s0 s1 s2 s3 s4 s5 r.2 s7 s8 s9 s10) (r.1) sz) 0 0 (Afr ad 67 sz)) (D : va_G) (ad : Nat → Nat) (cy : Nat → ClassId) (sz : Nat) (s0 s1 s2 s3 s4 s5 s6 s7 s8 s9 s10 : OS) (a1 : Int32) (a2 : Int32) (r : Int32 × OS) (h : f6_readAny rs a1 a2 s6 = some r) : Met l yX6_readAny (wsOf yX6_readAny cX6_readAny 6 (some .boolean)) (rmL (j + 2)) (va_Pc ([.ref (ad 6), .int a1, .int a2] : List Value) (PreG D cy (cellsC ad cy s0 s1 s2 s3 s4 s5 s6 s7 s8 s9 s10) sz (NC ad))) (QcI D ad 67 (cellsC ad cy s0 s1 s2 s3 s4 s5 r.2 s7 s8 s9 s10) (r.1) sz) 0 0 (Afr ad 67 sz) := by
  refine metG (own := RX6) (by decide) rfl (Nat.le_of_ble_eq_true rfl) fstC ?_ sz
  intro p e s m below meth c ls C0 hw hl
  obtain ⟨hx, hb, hml, hown, hts, hr, hlk, hK, hN⟩ := C0
  have hl : lv_has ls 6 [(0, .ref (ad 6)), (1, .int a1), (2, .int a2)] := hl
  generalize hQ : MQ below (QcI D ad 67 (cellsC ad cy s0 s1 s2 s3 s4 s5 r.2 s7 s8 s9 s10) (r.1) s.heap.size) ([.ref (ad 6), .int a1, .int a2] : List Value).toArray s 0 0 (Afr ad 67 s.heap.size) = Q
  obtain ⟨H, hH⟩ : ∃ H : Heap, H = s.heap := ⟨_, rfl⟩
  obtain ⟨locs, hlc⟩ : ∃ L : List Loc, L = [] := ⟨_, rfl⟩
  have hw : Wd D (cellsC ad cy s0 s1 s2 s3 s4 s5 s6 s7 s8 s9 s10) (Afr ad 67 s.heap.size) s.heap H locs := by rw [hH, hlc]; exact hw
  suffices h0 : W p l e (rmL (j + 2)) s m ([.ref (ad 6), .int a1, .int a2] : List Value).toArray below meth c H locs 0 0 Q (F0 m 0 ls []) by rw [hH, hlc] at h0; exact h0
  clear hH hlc
  unfold f6_readAny at h
  have hJ_68 : ∀ (v3_j68 : Int32) (s6_j68 : OS) (H : Heap) (locs : List Loc) (ls : Array Slot), f6_readAny_j68 rs v3_j68 s6_j68 = some r → Wd D (cellsC ad cy s0 s1 s2 s3 s4 s5 s6_j68 s7 s8 s9 s10) (Afr ad 67 s.heap.size) s.heap H locs → lv_has ls 6 [(3, .int v3_j68)] → W p l e (rmL (j + 2)) s m ([.ref (ad 6), .int a1, .int a2] : List Value).toArray below meth c H locs 0 0 Q (F0 m 68 ls []) := by
    intro v3_j68 s6_j68 H locs ls h hw hl
    unfold f6_readAny_j68 at h
    refine lv_iload_n hx hb dX6_readAny_68 rfl (lv_at hl 0 rfl) ?_
    obtain ⟨hz_69, h⟩ := chk_e h
    have h := Option.some.inj h
    subst h
    rw [← hQ]
    exact retI hx hb hr hlk hw (narB hz_69) dX6_readAny_69
  refine lv_aload_n hx hb dX6_readAny_0 rfl (lv_at hl 0 rfl) ?_
  refine lv_iload_n hx hb dX6_readAny_1 rfl (lv_at hl 1 rfl) ?_
  refine lv_iload_n hx hb dX6_readAny_2 rfl (lv_at hl 2 rfl) ?_
  obtain ⟨q_3, h_3, h⟩ := bnd_e h
  have pg_3 := preG (av := [.ref (ad 6), .int a1, .int a2]) hK hw.1 hw.2.1 (NC_keep hN hw.2.2) NC_blind
  refine endI (mc := 0) (ms := 0) (va_runV (As := [.int a1, .int a2]) (rest := []) ⟨hx, hb, hml, hown, hts⟩ (m6_readAll l rs j hj hrs D ad cy H.size s0 s1 s2 s3 s4 s5 s6 s7 s8 s9 s10 a1 a2 q_3 h_3) (wX6_92 (j + 1) hts ⟨by show (j + 1) + 1 ≤ (j + 2); omega, by show 8 + (6 + 11) + 40 * (j + 1) ≤ 40 * (j + 2); omega⟩) ⟨pg_3.1, va_recv hK hw.1 (ci := 6) (q0 := 6) rfl eC_6, pg_3.2⟩ rfl rfl hl.1 rfl (lv_room (Nat.le_of_ble_eq_true rfl)) dX6_readAny_3 ⟨Nat.le_refl _, Nat.le_refl _⟩) hw.2.2 (afr_in hw.2.2) (fun H locs hw => ?_)
  refine lv_istore_n (lv' := [(3, .int q_3.1), (0, .ref (ad 6)), (1, .int a1), (2, .int a2)]) hx hb dX6_readAny_6 rfl hl (by decide) rfl (fun ls hl => ?_)
  refine lv_iconst (v := 0) hx hb dX6_readAny_7 (by decide) ?_
  refine lv_istore (lv' := [(4, .int ((0 : Int32))), (3, .int q_3.1), (0, .ref (ad 6)), (1, .int a1), (2, .int a2)]) hx hb dX6_readAny_8 hl (by decide) rfl (fun ls hl => ?_)
  obtain ⟨n_10, hn_10⟩ := loop_e h
  have hL_10 : ∀ (n : Nat) (t_10 : Int32 × Int32 × OS) (H : Heap) (locs : List Loc) (ls : Array Slot), loopN (f6_readAny_l10 rs a1 a2) n t_10 = some r → Wd D (cellsC ad cy s0 s1 s2 s3 s4 s5 t_10.2.2 s7 s8 s9 s10) (Afr ad 67 s.heap.size) s.heap H locs → lv_has ls 6 [(3, .int t_10.1), (4, .int t_10.2.1), (1, .int a1), (2, .int a2), (0, .ref (ad 6))] → W p l e (rmL (j + 2)) s m ([.ref (ad 6), .int a1, .int a2] : List Value).toArray below meth c H locs 0 0 Q (F0 m 10 ls []) := by
    intro n
    induction n with
    | zero => intro t_10 H locs ls hn; cases hn
    | succ n ih_10 =>
      intro t_10 H locs ls hn hw hl
      obtain ⟨x_10, h, hx_10⟩ := loopN_e hn
      unfold f6_readAny_l10 at h
      have hJ_61 : ∀ (v4_j61 : Int32) (k0_j61 : Int32) (s6_j61 : OS) (H : Heap) (locs : List Loc) (ls : Array Slot), f6_readAny_j61 rs a1 a2 v4_j61 k0_j61 s6_j61 = some x_10 → Wd D (cellsC ad cy s0 s1 s2 s3 s4 s5 s6_j61 s7 s8 s9 s10) (Afr ad 67 s.heap.size) s.heap H locs → lv_has ls 6 [(0, .ref (ad 6)), (1, .int a1), (2, .int a2), (4, .int v4_j61)] → W p l e (rmL (j + 2)) s m ([.ref (ad 6), .int a1, .int a2] : List Value).toArray below meth c H locs 0 0 Q (F0 m 61 ls [.int k0_j61]) := by
        intro v4_j61 k0_j61 s6_j61 H locs ls h hw hl
        unfold f6_readAny_j61 at h
        refine lv_istore_n (lv' := [(3, .int k0_j61), (0, .ref (ad 6)), (1, .int a1), (2, .int a2), (4, .int v4_j61)]) hx hb dX6_readAny_61 rfl hl (by decide) rfl (fun ls hl => ?_)
        obtain ⟨n_62, e_62, h⟩ := nam_e h
        refine lv_iinc (v := n_62) (lv' := [(4, .int n_62), (3, .int k0_j61), (0, .ref (ad 6)), (1, .int a1), (2, .int a2)]) hx hb dX6_readAny_62 hl (k := 4) rfl (by rw [e_62]; rfl) (by decide) rfl (fun ls hl => ?_)
        refine lv_goto (tgt := 10) hx hb dX6_readAny_65 (by decide) ?_
        exact ih_10 (k0_j61, n_62, s6_j61) H locs ls (nx_l hx_10 h) hw (lv_sub hl [1, 0, 3, 4, 2] rfl)
      have hJ_56 : ∀ (v4_j56 : Int32) (s6_j56 : OS) (H : Heap) (locs : List Loc) (ls : Array Slot), f6_readAny_j56 rs a1 a2 v4_j56 s6_j56 = some x_10 → Wd D (cellsC ad cy s0 s1 s2 s3 s4 s5 s6_j56 s7 s8 s9 s10) (Afr ad 67 s.heap.size) s.heap H locs → lv_has ls 6 [(0, .ref (ad 6)), (1, .int a1), (2, .int a2), (4, .int v4_j56)] → W p l e (rmL (j + 2)) s m ([.ref (ad 6), .int a1, .int a2] : List Value).toArray below meth c H locs 0 0 Q (F0 m 56 ls []) := by
        intro v4_j56 s6_j56 H locs ls h hw hl
        unfold f6_readAny_j56 at h
        refine lv_iconst (v := 1) hx hb dX6_readAny_56 (by decide) ?_
        refine lv_goto (tgt := 61) hx hb dX6_readAny_57 (by decide) ?_
        exact hJ_61 v4_j56 ((1 : Int32)) s6_j56 H locs ls h hw (lv_sub hl [0, 1, 2, 3] rfl)
      have hJ_42 : ∀ (v3_j42 : Int32) (v4_j42 : Int32) (k1_j42 : Int32) (k2_j42 : Int32) (s6_j42 : OS) (H : Heap) (locs : List Loc) (ls : Array Slot), f6_readAny_j42 rs a1 a2 v3_j42 v4_j42 k1_j42 k2_j42 s6_j42 = some x_10 → Wd D (cellsC ad cy s0 s1 s2 s3 s4 s5 s6_j42 s7 s8 s9 s10) (Afr ad 67 s.heap.size) s.heap H locs → lv_has ls 6 [(0, .ref (ad 6)), (1, .int a1), (2, .int a2), (3, .int v3_j42), (4, .int v4_j42)] → W p l e (rmL (j + 2)) s m ([.ref (ad 6), .int a1, .int a2] : List Value).toArray below meth c H locs 0 0 Q (F0 m 42 ls [.int k2_j42, .int k1_j42, .ref (ad 6)]) := by
        intro v3_j42 v4_j42 k1_j42 k2_j42 s6_j42 H locs ls h hw hl
        unfold f6_readAny_j42 at h
        obtain ⟨q_42, h_42, h⟩ := bnd_e h
        have pg_42 := preG (av := [.ref (ad 6), .int k1_j42, .int k2_j42]) hK hw.1 hw.2.1 (NC_keep hN hw.2.2) NC_blind
        refine endI (mc := 0) (ms := 0) (va_runV (As := [.int k1_j42, .int k2_j42]) (rest := []) ⟨hx, hb, hml, hown, hts⟩ (m6_readAll l rs j hj hrs D ad cy H.size s0 s1 s2 s3 s4 s5 s6_j42 s7 s8 s9 s10 k1_j42 k2_j42 q_42 h_42) (wX6_92 (j + 1) hts ⟨by show (j + 1) + 1 ≤ (j + 2); omega, by show 8 + (6 + 11) + 40 * (j + 1) ≤ 40 * (j + 2); omega⟩) ⟨pg_42.1, va_recv hK hw.1 (ci := 6) (q0 := 6) rfl eC_6, pg_42.2⟩ rfl rfl hl.1 rfl (lv_room (Nat.le_of_ble_eq_true rfl)) dX6_readAny_42 ⟨Nat.le_refl _, Nat.le_refl _⟩) hw.2.2 (afr_in hw.2.2) (fun H locs hw => ?_)
        refine lv_istore (lv' := [(5, .int q_42.1), (0, .ref (ad 6)), (1, .int a1), (2, .int a2), (3, .int v3_j42), (4, .int v4_j42)]) hx hb dX6_readAny_45 hl (by decide) rfl (fun ls hl => ?_)
        refine lv_iload_n hx hb dX6_readAny_47 rfl (lv_at hl 4 rfl) ?_
        refine lv_if_ne (tgt := 56) hx hb dX6_readAny_48 (by decide) (fun c_48 => ?_) (fun c_48 => ?_)
        · have h := ite_f c_48 h
          exact hJ_56 v4_j42 q_42.2 H locs ls h hw (lv_sub hl [1, 2, 3, 5] rfl)
        · have h := ite_t c_48 h
          refine lv_iload hx hb dX6_readAny_51 (lv_at hl 0 rfl) ?_
          refine lv_if_eq (tgt := 60) hx hb dX6_readAny_53 (by decide) (fun c_53 => ?_) (fun c_53 => ?_)
          · have h := ite_t c_53 h
            refine lv_iconst (v := 0) hx hb dX6_readAny_60 (by decide) ?_
            exact hJ_61 v4_j42 ((0 : Int32)) q_42.2 H locs ls h hw (lv_sub hl [1, 2, 3, 5] rfl)
          · have h := ite_f c_53 h
            exact hJ_56 v4_j42 q_42.2 H locs ls h hw (lv_sub hl [1, 2, 3, 5] rfl)
      have hJ_41 : ∀ (v3_j41 : Int32) (v4_j41 : Int32) (k1_j41 : Int32) (s6_j41 : OS) (H : Heap) (locs : List Loc) (ls : Array Slot), f6_readAny_j41 rs a1 a2 v3_j41 v4_j41 k1_j41 s6_j41 = some x_10 → Wd D (cellsC ad cy s0 s1 s2 s3 s4 s5 s6_j41 s7 s8 s9 s10) (Afr ad 67 s.heap.size) s.heap H locs → lv_has ls 6 [(0, .ref (ad 6)), (1, .int a1), (2, .int a2), (3, .int v3_j41), (4, .int v4_j41)] → W p l e (rmL (j + 2)) s m ([.ref (ad 6), .int a1, .int a2] : List Value).toArray below meth c H locs 0 0 Q (F0 m 41 ls [.int k1_j41, .ref (ad 6)]) := by
        intro v3_j41 v4_j41 k1_j41 s6_j41 H locs ls h hw hl
        unfold f6_readAny_j41 at h
        refine lv_iconst (v := 0) hx hb dX6_readAny_41 (by decide) ?_
        exact hJ_42 v3_j41 v4_j41 k1_j41 ((0 : Int32)) s6_j41 H locs ls h hw (lv_sub hl [0, 1, 2, 3, 4] rfl)
      refine lv_iload hx hb dX6_readAny_10 (lv_at hl 1 rfl) ?_
      refine lv_sipush (v := 160) hx hb dX6_readAny_12 (by decide) ?_
      refine lv_icmp_ge (tgt := 68) hx hb dX6_readAny_15 (by decide) (fun c_15 => ?_) (fun c_15 => ?_)
      · have h := ite_t c_15 h
        have h := nx_m hx_10 h
        exact hJ_68 t_10.1 t_10.2.2 H locs ls h hw (lv_sub hl [0] rfl)
      · have h := ite_f c_15 h
        refine lv_aload_n hx hb dX6_readAny_18 rfl (lv_at hl 4 rfl) ?_
        refine lv_bipush (v := 124) hx hb dX6_readAny_19 (by decide) ?_
        obtain ⟨q_21, h_21, h⟩ := bnd_e h
        have pg_21 := preG (av := [.ref (ad 6), .int ((124 : Int32))]) hK hw.1 hw.2.1 (NC_keep hN hw.2.2) NC_blind
        refine endI (mc := 0) (ms := 0) (va_runV (As := [.int ((124 : Int32))]) (rest := []) ⟨hx, hb, hml, hown, hts⟩ (m6_take l D ad cy H.size s0 s1 s2 s3 s4 s5 t_10.2.2 s7 s8 s9 s10 ((124 : Int32)) q_21 h_21) (wX6_76 1 hts ⟨by show 1 + 1 ≤ (j + 2); omega, by show 8 + (2 + 11) + 40 * 1 ≤ 40 * (j + 2); omega⟩) ⟨pg_21.1, va_recv hK hw.1 (ci := 6) (q0 := 6) rfl eC_6, pg_21.2⟩ rfl rfl hl.1 rfl (lv_room (Nat.le_of_ble_eq_true rfl)) dX6_readAny_21 ⟨Nat.le_refl _, Nat.le_refl _⟩) hw.2.2 (afr_in hw.2.2) (fun H locs hw => ?_)
        refine lv_if_eq (tgt := 68) hx hb dX6_readAny_24 (by decide) (fun c_24 => ?_) (fun c_24 => ?_)
        · have h := ite_t c_24 h
          have h := nx_m hx_10 h
          exact hJ_68 t_10.1 q_21.2 H locs ls h hw (lv_sub hl [0] rfl)
        · have h := ite_f c_24 h
          refine lv_aload_n hx hb dX6_readAny_27 rfl (lv_at hl 4 rfl) ?_
          refine lv_iload_n hx hb dX6_readAny_28 rfl (lv_at hl 2 rfl) ?_
          refine lv_iload_n hx hb dX6_readAny_29 rfl (lv_at hl 3 rfl) ?_
          refine lv_if_eq (tgt := 41) hx hb dX6_readAny_30 (by decide) (fun c_30 => ?_) (fun c_30 => ?_)
          · have h := ite_t c_30 h
            exact hJ_41 t_10.1 t_10.2.1 a1 q_21.2 H locs ls h hw (lv_sub hl [4, 2, 3, 0, 1] rfl)
          · have h := ite_f c_30 h
            refine lv_iload_n hx hb dX6_readAny_33 rfl (lv_at hl 0 rfl) ?_
            refine lv_if_ne (tgt := 41) hx hb dX6_readAny_34 (by decide) (fun c_34 => ?_) (fun c_34 => ?_)
            · have h := ite_f c_34 h
              exact hJ_41 t_10.1 t_10.2.1 a1 q_21.2 H locs ls h hw (lv_sub hl [4, 2, 3, 0, 1] rfl)
            · have h := ite_t c_34 h
              refine lv_iconst (v := 1) hx hb dX6_readAny_37 (by decide) ?_
              refine lv_goto (tgt := 42) hx hb dX6_readAny_38 (by decide) ?_
              exact hJ_42 t_10.1 t_10.2.1 a1 ((1 : Int32)) q_21.2 H locs ls h hw (lv_sub hl [4, 2, 3, 0, 1] rfl)
  exact hL_10 n_10 (q_3.1, (0 : Int32), q_3.2) H locs ls hn_10 hw (lv_sub hl [1, 0, 3, 4, 2] rfl)
theorem dX6_readSingle_0 : decode cX6_readSingle 0 = .ok (.aload_n 0, 1) := by decide +kernel
theorem dX6_readSingle_1 : decode cX6_readSingle 1 = .ok (.invokevirtual 64, 3) := by decide +kernel
theorem dX6_readSingle_4 : decode cX6_readSingle 4 = .ok (.istore_n 3, 1) := by decide +kernel
theorem dX6_readSingle_5 : decode cX6_readSingle 5 = .ok (.iload_n 3, 1) := by decide +kernel
theorem dX6_readSingle_6 : decode cX6_readSingle 6 = .ok (.bipush 33, 2) := by decide +kernel
theorem dX6_readSingle_8 : decode cX6_readSingle 8 = .ok (.if_icmp .eq 37, 3) := by decide +kernel
theorem dX6_readSingle_11 : decode cX6_readSingle 11 = .ok (.iload_n 3, 1) := by decide +kernel
theorem dX6_readSingle_12 : decode cX6_readSingle 12 = .ok (.bipush 40, 2) := by decide +kernel
theorem dX6_readSingle_14 : decode cX6_readSingle 14 = .ok (.if_icmp .eq 31, 3) := by decide +kernel
theorem dX6_readSingle_17 : decode cX6_readSingle 17 = .ok (.aload_n 0, 1) := by decide +kernel
theorem dX6_readSingle_18 : decode cX6_readSingle 18 = .ok (.iload_n 1, 1) := by decide +kernel
theorem dX6_readSingle_19 : decode cX6_readSingle 19 = .ok (.iload_n 2, 1) := by decide +kernel
theorem dX6_readSingle_20 : decode cX6_readSingle 20 = .ok (.invokevirtual 98, 3) := by decide +kernel
theorem dX6_readSingle_23 : decode cX6_readSingle 23 = .ok (.lstore 4, 2) := by decide +kernel
theorem dX6_readSingle_25 : decode cX6_readSingle 25 = .ok (.aload_n 0, 1) := by decide +kernel
theorem dX6_readSingle_26 : decode cX6_readSingle 26 = .ok (.invokevirtual 102, 3) := by decide +kernel
theorem dX6_readSingle_29 : decode cX6_readSingle 29 = .ok (.istore 6, 2) := by decide +kernel
theorem dX6_readSingle_31 : decode cX6_readSingle 31 = .ok (.lload 4, 2) := by decide +kernel
theorem dX6_readSingle_33 : decode cX6_readSingle 33 = .ok (.iload 6, 2) := by decide +kernel
theorem dX6_readSingle_35 : decode cX6_readSingle 35 = .ok (.aload_n 0, 1) := by decide +kernel
theorem dX6_readSingle_36 : decode cX6_readSingle 36 = .ok (.iload_n 1, 1) := by decide +kernel
theorem dX6_readSingle_37 : decode cX6_readSingle 37 = .ok (.iload_n 2, 1) := by decide +kernel
theorem dX6_readSingle_38 : decode cX6_readSingle 38 = .ok (.invokevirtual 98, 3) := by decide +kernel
theorem dX6_readSingle_41 : decode cX6_readSingle 41 = .ok (.invokestatic 105, 3) := by decide +kernel
theorem dX6_readSingle_44 : decode cX6_readSingle 44 = .ok (.ireturn, 1) := by decide +kernel
theorem dX6_readSingle_45 : decode cX6_readSingle 45 = .ok (.iload_n 1, 1) := by decide +kernel
theorem dX6_readSingle_46 : decode cX6_readSingle 46 = .ok (.bipush 6, 2) := by decide +kernel
theorem dX6_readSingle_48 : decode cX6_readSingle 48 = .ok (.if_icmp .lt 14, 3) := by decide +kernel
theorem dX6_readSingle_51 : decode cX6_readSingle 51 = .ok (.aload_n 0, 1) := by decide +kernel
theorem dX6_readSingle_52 : decode cX6_readSingle 52 = .ok (.iconst 5, 1) := by decide +kernel
theorem dX6_readSingle_53 : decode cX6_readSingle 53 = .ok (.aload_n 0, 1) := by decide +kernel
theorem dX6_readSingle_54 : decode cX6_readSingle 54 = .ok (.getfield 27, 3) := by decide +kernel
theorem dX6_readSingle_57 : decode cX6_readSingle 57 = .ok (.invokevirtual 72, 3) := by decide +kernel
theorem dX6_readSingle_60 : decode cX6_readSingle 60 = .ok (.iconst 0, 1) := by decide +kernel
theorem dX6_readSingle_61 : decode cX6_readSingle 61 = .ok (.ireturn, 1) := by decide +kernel
theorem dX6_readSingle_62 : decode cX6_readSingle 62 = .ok (.aload_n 0, 1) := by decide +kernel
theorem dX6_readSingle_63 : decode cX6_readSingle 63 = .ok (.dup, 1) := by decide +kernel
theorem dX6_readSingle_64 : decode cX6_readSingle 64 = .ok (.getfield 27, 3) := by decide +kernel
theorem dX6_readSingle_67 : decode cX6_readSingle 67 = .ok (.iconst 1, 1) := by decide +kernel
theorem dX6_readSingle_68 : decode cX6_readSingle 68 = .ok (.iadd, 1) := by decide +kernel
theorem dX6_readSingle_69 : decode cX6_readSingle 69 = .ok (.putfield 27, 3) := by decide +kernel
theorem dX6_readSingle_72 : decode cX6_readSingle 72 = .ok (.iload_n 3, 1) := by decide +kernel
theorem dX6_readSingle_73 : decode cX6_readSingle 73 = .ok (.bipush 33, 2) := by decide +kernel
theorem dX6_readSingle_75 : decode cX6_readSingle 75 = .ok (.if_icmp .ne 20, 3) := by decide +kernel
theorem dX6_readSingle_78 : decode cX6_readSingle 78 = .ok (.aload_n 0, 1) := by decide +kernel
theorem dX6_readSingle_79 : decode cX6_readSingle 79 = .ok (.iload_n 1, 1) := by decide +kernel
theorem dX6_readSingle_80 : decode cX6_readSingle 80 = .ok (.iconst 1, 1) := by decide +kernel
theorem dX6_readSingle_81 : decode cX6_readSingle 81 = .ok (.iadd, 1) := by decide +kernel
theorem dX6_readSingle_82 : decode cX6_readSingle 82 = .ok (.iload_n 2, 1) := by decide +kernel
theorem dX6_readSingle_83 : decode cX6_readSingle 83 = .ok (.invokevirtual 95, 3) := by decide +kernel
theorem dX6_readSingle_86 : decode cX6_readSingle 86 = .ok (.ifCond .ne 7, 3) := by decide +kernel
theorem dX6_readSingle_89 : decode cX6_readSingle 89 = .ok (.iconst 1, 1) := by decide +kernel
theorem dX6_readSingle_90 : decode cX6_readSingle 90 = .ok (.goto 4, 3) := by decide +kernel
theorem dX6_readSingle_93 : decode cX6_readSingle 93 = .ok (.iconst 0, 1) := by decide +kernel
theorem dX6_readSingle_94 : decode cX6_readSingle 94 = .ok (.ireturn, 1) := by decide +kernel
theorem dX6_readSingle_95 : decode cX6_readSingle 95 = .ok (.aload_n 0, 1) := by decide +kernel
theorem dX6_readSingle_96 : decode cX6_readSingle 96 = .ok (.iload_n 1, 1) := by decide +kernel
theorem dX6_readSingle_97 : decode cX6_readSingle 97 = .ok (.iconst 1, 1) := by decide +kernel
theorem dX6_readSingle_98 : decode cX6_readSingle 98 = .ok (.iadd, 1) := by decide +kernel
theorem dX6_readSingle_99 : decode cX6_readSingle 99 = .ok (.iload_n 2, 1) := by decide +kernel
theorem dX6_readSingle_100 : decode cX6_readSingle 100 = .ok (.invokevirtual 88, 3) := by decide +kernel
theorem dX6_readSingle_103 : decode cX6_readSingle 103 = .ok (.istore 4, 2) := by decide +kernel
theorem dX6_readSingle_105 : decode cX6_readSingle 105 = .ok (.aload_n 0, 1) := by decide +kernel
theorem dX6_readSingle_106 : decode cX6_readSingle 106 = .ok (.bipush 41, 2) := by decide +kernel
theorem dX6_readSingle_108 : decode cX6_readSingle 108 = .ok (.invokevirtual 83, 3) := by decide +kernel
theorem dX6_readSingle_111 : decode cX6_readSingle 111 = .ok (.iload 4, 2) := by decide +kernel
theorem dX6_readSingle_113 : decode cX6_readSingle 113 = .ok (.ireturn, 1) := by decide +kernel
noncomputable def f6_readSingle_b_j94 (rs : Int32 → Int32 → OS → Option (Int32 × OS)) (k0_j94 : Int32) (s6_j94 : OS) : Option (Int32 × OS) := chk (isB k0_j94) (some (k0_j94, s6_j94))
noncomputable def f6_readSingle_b_j45 (rs : Int32 → Int32 → OS → Option (Int32 × OS)) (v1_j45 : Int32) (v2_j45 : Int32) (v3_j45 : Int32) (s6_j45 : OS) : Option (Int32 × OS) := if v1_j45 < (6 : Int32) then (nm (wI s6_j45 0 4 (((s6_j45.1 0 4) + (1 : Int32)))) fun s6_69 => if v3_j45 = (33 : Int32) then (Option.bind (rs ((v1_j45 + (1 : Int32))) v2_j45 s6_69) fun q_83 => if q_83.1 = 0 then (f6_readSingle_b_j94 rs ((1 : Int32)) q_83.2) else (f6_readSingle_b_j94 rs ((0 : Int32)) q_83.2)) else (Option.bind (f6_readAny rs ((v1_j45 + (1 : Int32))) v2_j45 s6_69) fun q_100 => Option.bind (f6_require ((41 : Int32)) q_100.2) fun q_108 => chk (isB q_100.1) (some (q_100.1, q_108)))) else (Option.bind (f6_fail ((5 : Int32)) ((s6_j45.1 0 4)) s6_j45) fun q_57 => some ((0 : Int32), q_57))
noncomputable def f6_readSingle_b (rs : Int32 → Int32 → OS → Option (Int32 × OS)) (a1 : Int32) (a2 : Int32) (s6 : OS) : Option (Int32 × OS) := Option.bind (f6_sign s6) fun q_1 => if q_1 = (33 : Int32) then (f6_readSingle_b_j45 rs a1 a2 q_1 s6) else (if q_1 = (40 : Int32) then (f6_readSingle_b_j45 rs a1 a2 q_1 s6) else (Option.bind (f6_readSum 8 a1 a2 s6) fun q_20 => Option.bind (f6_readOrder q_20.2) fun q_26 => Option.bind (f6_readSum 8 a1 a2 q_26.2) fun q_38 => Option.bind (f6_areSo q_20.1 q_26.1 q_38.1) fun q_41 => chk (isB q_41) (some (q_41, q_38.2))))
set_option maxHeartbeats 4000000 in
set_option maxRecDepth 100000 in
theorem m6_readSingle_b (l : Launch) (rs : Int32 → Int32 → OS → Option (Int32 × OS)) (j : Nat) (hj : 40 ≤ j) (hrs : ∀ (D : va_G) (ad : Nat → Nat) (cy : Nat → ClassId) (sz : Nat) (s0 s1 s2 s3 s4 s5 s6 s7 s8 s9 s10 : OS) (a1 : Int32) (a2 : Int32) (r : Int32 × OS), rs a1 a2 s6 = some r → Met l yX6_readSingle (wsOf yX6_readSingle cX6_readSingle 7 (some .boolean)) (rmL (j)) (va_Pc ([.ref (ad 6), .int a1, .int a2] : List Value) (PreG D cy (cellsC ad cy s0 s1 s2 s3 s4 s5 s6 s7 s8 s9 s10) sz (NC ad))) (QcI D ad 67 (cellsC ad cy s0 s1 s2 s3 s4 s5 r.2 s7 s8 s9 s10) (r.1) sz) 0 0 (Afr ad 67 sz)) (D : va_G) (ad : Nat → Nat) (cy : Nat → ClassId) (sz : Nat) (s0 s1 s2 s3 s4 s5 s6 s7 s8 s9 s10 : OS) (a1 : Int32) (a2 : Int32) (r : Int32 × OS) (h : f6_readSingle_b rs a1 a2 s6 = some r) : Met l yX6_readSingle (wsOf yX6_readSingle cX6_readSingle 7 (some .boolean)) (rmL (j + 3)) (va_Pc ([.ref (ad 6), .int a1, .int a2] : List Value) (PreG D cy (cellsC ad cy s0 s1 s2 s3 s4 s5 s6 s7 s8 s9 s10) sz (NC ad))) (QcI D ad 67 (cellsC ad cy s0 s1 s2 s3 s4 s5 r.2 s7 s8 s9 s10) (r.1) sz) 0 0 (Afr ad 67 sz) := by
  refine metG (own := RX6) (by decide) rfl (Nat.le_of_ble_eq_true rfl) fstC ?_ sz
  intro p e s m below meth c ls C0 hw hl
  obtain ⟨hx, hb, hml, hown, hts, hr, hlk, hK, hN⟩ := C0
  have hl : lv_has ls 7 [(0, .ref (ad 6)), (1, .int a1), (2, .int a2)] := hl
  generalize hQ : MQ below (QcI D ad 67 (cellsC ad cy s0 s1 s2 s3 s4 s5 r.2 s7 s8 s9 s10) (r.1) s.heap.size) ([.ref (ad 6), .int a1, .int a2] : List Value).toArray s 0 0 (Afr ad 67 s.heap.size) = Q
  obtain ⟨H, hH⟩ : ∃ H : Heap, H = s.heap := ⟨_, rfl⟩
  obtain ⟨locs, hlc⟩ : ∃ L : List Loc, L = [] := ⟨_, rfl⟩
  have hw : Wd D (cellsC ad cy s0 s1 s2 s3 s4 s5 s6 s7 s8 s9 s10) (Afr ad 67 s.heap.size) s.heap H locs := by rw [hH, hlc]; exact hw
  suffices h0 : W p l e (rmL (j + 3)) s m ([.ref (ad 6), .int a1, .int a2] : List Value).toArray below meth c H locs 0 0 Q (F0 m 0 ls []) by rw [hH, hlc] at h0; exact h0
  clear hH hlc
  unfold f6_readSingle_b at h
  have hJ_94 : ∀ (k0_j94 : Int32) (s6_j94 : OS) (H : Heap) (locs : List Loc) (ls : Array Slot), f6_readSingle_b_j94 rs k0_j94 s6_j94 = some r → Wd D (cellsC ad cy s0 s1 s2 s3 s4 s5 s6_j94 s7 s8 s9 s10) (Afr ad 67 s.heap.size) s.heap H locs → lv_has ls 7 [] → W p l e (rmL (j + 3)) s m ([.ref (ad 6), .int a1, .int a2] : List Value).toArray below meth c H locs 0 0 Q (F0 m 94 ls [.int k0_j94]) := by
    intro k0_j94 s6_j94 H locs ls h hw hl
    unfold f6_readSingle_b_j94 at h
    obtain ⟨hz_94, h⟩ := chk_e h
    have h := Option.some.inj h
    subst h
    rw [← hQ]
    exact retI hx hb hr hlk hw (narB hz_94) dX6_readSingle_94
  have hJ_45 : ∀ (v1_j45 : Int32) (v2_j45 : Int32) (v3_j45 : Int32) (s6_j45 : OS) (H : Heap) (locs : List Loc) (ls : Array Slot), f6_readSingle_b_j45 rs v1_j45 v2_j45 v3_j45 s6_j45 = some r → Wd D (cellsC ad cy s0 s1 s2 s3 s4 s5 s6_j45 s7 s8 s9 s10) (Afr ad 67 s.heap.size) s.heap H locs → lv_has ls 7 [(0, .ref (ad 6)), (1, .int v1_j45), (2, .int v2_j45), (3, .int v3_j45)] → W p l e (rmL (j + 3)) s m ([.ref (ad 6), .int a1, .int a2] : List Value).toArray below meth c H locs 0 0 Q (F0 m 45 ls []) := by
    intro v1_j45 v2_j45 v3_j45 s6_j45 H locs ls h hw hl
    unfold f6_readSingle_b_j45 at h
    refine lv_iload_n hx hb dX6_readSingle_45 rfl (lv_at hl 1 rfl) ?_
    refine lv_bipush (v := 6) hx hb dX6_readSingle_46 (by decide) ?_
    refine lv_icmp_lt (tgt := 62) hx hb dX6_readSingle_48 (by decide) (fun c_48 => ?_) (fun c_48 => ?_)
    · have h := ite_t c_48 h
      refine lv_aload_n hx hb dX6_readSingle_62 rfl (lv_at hl 0 rfl) ?_
      refine lv_dup hx hb dX6_readSingle_63 rfl ?_
      refine gX6_27 hx hb hts hown hK hw dX6_readSingle_64 ?_
      refine lv_iconst (v := 1) hx hb dX6_readSingle_67 (by decide) ?_
      refine lv_iadd hx hb dX6_readSingle_68 ?_
      obtain ⟨s6_69, e_69, h⟩ := nam_e h
      refine pX6_27 hx hb hts hown hK hw e_69 dX6_readSingle_69 (fun H locs hw => ?_)
      refine lv_iload_n hx hb dX6_readSingle_72 rfl (lv_at hl 3 rfl) ?_
      refine lv_bipush (v := 33) hx hb dX6_readSingle_73 (by decide) ?_
      refine lv_icmp_ne (tgt := 95) hx hb dX6_readSingle_75 (by decide) (fun c_75 => ?_) (fun c_75 => ?_)
      · have h := ite_f c_75 h
        refine lv_aload_n hx hb dX6_readSingle_95 rfl (lv_at hl 0 rfl) ?_
        refine lv_iload_n hx hb dX6_readSingle_96 rfl (lv_at hl 1 rfl) ?_
        refine lv_iconst (v := 1) hx hb dX6_readSingle_97 (by decide) ?_
        refine lv_iadd hx hb dX6_readSingle_98 ?_
        refine lv_iload_n hx hb dX6_readSingle_99 rfl (lv_at hl 2 rfl) ?_
        obtain ⟨q_100, h_100, h⟩ := bnd_e h
        have pg_100 := preG (av := [.ref (ad 6), .int ((v1_j45 + (1 : Int32))), .int v2_j45]) hK hw.1 hw.2.1 (NC_keep hN hw.2.2) NC_blind
        refine endI (mc := 0) (ms := 0) (va_runV (As := [.int ((v1_j45 + (1 : Int32))), .int v2_j45]) (rest := []) ⟨hx, hb, hml, hown, hts⟩ (m6_readAny l rs j hj hrs D ad cy H.size s0 s1 s2 s3 s4 s5 s6_69 s7 s8 s9 s10 ((v1_j45 + (1 : Int32))) v2_j45 q_100 h_100) (wX6_88 (j + 2) hts ⟨by show (j + 2) + 1 ≤ (j + 3); omega, by show 8 + (6 + 11) + 40 * (j + 2) ≤ 40 * (j + 3); omega⟩) ⟨pg_100.1, va_recv hK hw.1 (ci := 6) (q0 := 6) rfl eC_6, pg_100.2⟩ rfl rfl hl.1 rfl (lv_room (Nat.le_of_ble_eq_true rfl)) dX6_readSingle_100 ⟨Nat.le_refl _, Nat.le_refl _⟩) hw.2.2 (afr_in hw.2.2) (fun H locs hw => ?_)
        refine lv_istore (lv' := [(4, .int q_100.1), (0, .ref (ad 6)), (1, .int v1_j45), (2, .int v2_j45), (3, .int v3_j45)]) hx hb dX6_readSingle_103 hl (by decide) rfl (fun ls hl => ?_)
        refine lv_aload_n hx hb dX6_readSingle_105 rfl (lv_at hl 1 rfl) ?_
        refine lv_bipush (v := 41) hx hb dX6_readSingle_106 (by decide) ?_
        obtain ⟨q_108, h_108, h⟩ := bnd_e h
        have pg_108 := preG (av := [.ref (ad 6), .int ((41 : Int32))]) hK hw.1 hw.2.1 (NC_keep hN hw.2.2) NC_blind
        refine endV (mc := 0) (ms := 0) (va_runV (As := [.int ((41 : Int32))]) (rest := []) ⟨hx, hb, hml, hown, hts⟩ (m6_require l D ad cy H.size s0 s1 s2 s3 s4 s5 q_100.2 s7 s8 s9 s10 ((41 : Int32)) q_108 h_108) (wX6_83 1 hts ⟨by show 1 + 1 ≤ (j + 3); omega, by show 8 + (2 + 11) + 40 * 1 ≤ 40 * (j + 3); omega⟩) ⟨pg_108.1, va_recv hK hw.1 (ci := 6) (q0 := 6) rfl eC_6, pg_108.2⟩ rfl rfl hl.1 rfl (lv_room (Nat.le_of_ble_eq_true rfl)) dX6_readSingle_108 ⟨Nat.le_refl _, Nat.le_refl _⟩) hw.2.2 (afr_in hw.2.2) (fun H locs hw => ?_)
        refine lv_iload hx hb dX6_readSingle_111 (lv_at hl 0 rfl) ?_
        obtain ⟨hz_113, h⟩ := chk_e h
        have h := Option.some.inj h
        subst h
        rw [← hQ]
        exact retI hx hb hr hlk hw (narB hz_113) dX6_readSingle_113
      · have h := ite_t c_75 h
        refine lv_aload_n hx hb dX6_readSingle_78 rfl (lv_at hl 0 rfl) ?_
        refine lv_iload_n hx hb dX6_readSingle_79 rfl (lv_at hl 1 rfl) ?_
        refine lv_iconst (v := 1) hx hb dX6_readSingle_80 (by decide) ?_
        refine lv_iadd hx hb dX6_readSingle_81 ?_
        refine lv_iload_n hx hb dX6_readSingle_82 rfl (lv_at hl 2 rfl) ?_
        obtain ⟨q_83, h_83, h⟩ := bnd_e h
        have pg_83 := preG (av := [.ref (ad 6), .int ((v1_j45 + (1 : Int32))), .int v2_j45]) hK hw.1 hw.2.1 (NC_keep hN hw.2.2) NC_blind
        refine endI (mc := 0) (ms := 0) (va_runV (As := [.int ((v1_j45 + (1 : Int32))), .int v2_j45]) (rest := []) ⟨hx, hb, hml, hown, hts⟩ (hrs D ad cy H.size s0 s1 s2 s3 s4 s5 s6_69 s7 s8 s9 s10 ((v1_j45 + (1 : Int32))) v2_j45 q_83 h_83) (wX6_95 j hts ⟨by show j + 1 ≤ (j + 3); omega, by show 8 + (7 + 11) + 40 * j ≤ 40 * (j + 3); omega⟩) ⟨pg_83.1, va_recv hK hw.1 (ci := 6) (q0 := 6) rfl eC_6, pg_83.2⟩ rfl rfl hl.1 rfl (lv_room (Nat.le_of_ble_eq_true rfl)) dX6_readSingle_83 ⟨Nat.le_refl _, Nat.le_refl _⟩) hw.2.2 (afr_in hw.2.2) (fun H locs hw => ?_)
        refine lv_if_ne (tgt := 93) hx hb dX6_readSingle_86 (by decide) (fun c_86 => ?_) (fun c_86 => ?_)
        · have h := ite_f c_86 h
          refine lv_iconst (v := 0) hx hb dX6_readSingle_93 (by decide) ?_
          exact hJ_94 ((0 : Int32)) q_83.2 H locs ls h hw (lv_sub hl [] rfl)
        · have h := ite_t c_86 h
          refine lv_iconst (v := 1) hx hb dX6_readSingle_89 (by decide) ?_
          refine lv_goto (tgt := 94) hx hb dX6_readSingle_90 (by decide) ?_
          exact hJ_94 ((1 : Int32)) q_83.2 H locs ls h hw (lv_sub hl [] rfl)
    · have h := ite_f c_48 h
      refine lv_aload_n hx hb dX6_readSingle_51 rfl (lv_at hl 0 rfl) ?_
      refine lv_iconst (v := 5) hx hb dX6_readSingle_52 (by decide) ?_
      refine lv_aload_n hx hb dX6_readSingle_53 rfl (lv_at hl 0 rfl) ?_
      refine gX6_27 hx hb hts hown hK hw dX6_readSingle_54 ?_
      obtain ⟨q_57, h_57, h⟩ := bnd_e h
      have pg_57 := preG (av := [.ref (ad 6), .int ((5 : Int32)), .int ((s6_j45.1 0 4))]) hK hw.1 hw.2.1 (NC_keep hN hw.2.2) NC_blind
      refine endV (mc := 0) (ms := 0) (va_runV (As := [.int ((5 : Int32)), .int ((s6_j45.1 0 4))]) (rest := []) ⟨hx, hb, hml, hown, hts⟩ (m6_fail l D ad cy H.size s0 s1 s2 s3 s4 s5 s6_j45 s7 s8 s9 s10 ((5 : Int32)) ((s6_j45.1 0 4)) q_57 h_57) (wX6_72 0 hts ⟨by show 0 + 1 ≤ (j + 3); omega, by show 8 + (3 + 11) + 40 * 0 ≤ 40 * (j + 3); omega⟩) ⟨pg_57.1, va_recv hK hw.1 (ci := 6) (q0 := 6) rfl eC_6, pg_57.2⟩ rfl rfl hl.1 rfl (lv_room (Nat.le_of_ble_eq_true rfl)) dX6_readSingle_57 ⟨Nat.le_refl _, Nat.le_refl _⟩) hw.2.2 (afr_in hw.2.2) (fun H locs hw => ?_)
      refine lv_iconst (v := 0) hx hb dX6_readSingle_60 (by decide) ?_
      have h := Option.some.inj h
      subst h
      rw [← hQ]
      exact retI hx hb hr hlk hw (narB (v := (0 : Int32)) (by decide)) dX6_readSingle_61
  refine lv_aload_n hx hb dX6_readSingle_0 rfl (lv_at hl 0 rfl) ?_
  obtain ⟨q_1, h_1, h⟩ := bnd_e h
  have pg_1 := preG (av := [.ref (ad 6)]) hK hw.1 hw.2.1 (NC_keep hN hw.2.2) NC_blind
  refine endI (mc := 0) (ms := 0) (va_runV (As := []) (rest := []) ⟨hx, hb, hml, hown, hts⟩ (m6_sign l D ad cy H.size s0 s1 s2 s3 s4 s5 s6 s7 s8 s9 s10 q_1 h_1) (wX6_64 0 hts ⟨by show 0 + 1 ≤ (j + 3); omega, by show 8 + (1 + 11) + 40 * 0 ≤ 40 * (j + 3); omega⟩) ⟨pg_1.1, va_recv hK hw.1 (ci := 6) (q0 := 6) rfl eC_6, pg_1.2⟩ rfl rfl hl.1 rfl (lv_room (Nat.le_of_ble_eq_true rfl)) dX6_readSingle_1 ⟨Nat.le_refl _, Nat.le_refl _⟩) hw.2.2 (afr_in hw.2.2) (fun H locs hw => ?_)
  refine lv_istore_n (lv' := [(3, .int q_1), (0, .ref (ad 6)), (1, .int a1), (2, .int a2)]) hx hb dX6_readSingle_4 rfl hl (by decide) rfl (fun ls hl => ?_)
  refine lv_iload_n hx hb dX6_readSingle_5 rfl (lv_at hl 0 rfl) ?_
  refine lv_bipush (v := 33) hx hb dX6_readSingle_6 (by decide) ?_
  refine lv_icmp_eq (tgt := 45) hx hb dX6_readSingle_8 (by decide) (fun c_8 => ?_) (fun c_8 => ?_)
  · have h := ite_t c_8 h
    exact hJ_45 a1 a2 q_1 s6 H locs ls h hw (lv_sub hl [1, 2, 3, 0] rfl)
  · have h := ite_f c_8 h
    refine lv_iload_n hx hb dX6_readSingle_11 rfl (lv_at hl 0 rfl) ?_
    refine lv_bipush (v := 40) hx hb dX6_readSingle_12 (by decide) ?_
    refine lv_icmp_eq (tgt := 45) hx hb dX6_readSingle_14 (by decide) (fun c_14 => ?_) (fun c_14 => ?_)
    · have h := ite_t c_14 h
      exact hJ_45 a1 a2 q_1 s6 H locs ls h hw (lv_sub hl [1, 2, 3, 0] rfl)
    · have h := ite_f c_14 h
      refine lv_aload_n hx hb dX6_readSingle_17 rfl (lv_at hl 1 rfl) ?_
      refine lv_iload_n hx hb dX6_readSingle_18 rfl (lv_at hl 2 rfl) ?_
      refine lv_iload_n hx hb dX6_readSingle_19 rfl (lv_at hl 3 rfl) ?_
      obtain ⟨q_20, h_20, h⟩ := bnd_e h
      have pg_20 := preG (av := [.ref (ad 6), .int a1, .int a2]) hK hw.1 hw.2.1 (NC_keep hN hw.2.2) NC_blind
      refine endL (mc := 0) (ms := 0) (va_runV (As := [.int a1, .int a2]) (rest := []) ⟨hx, hb, hml, hown, hts⟩ (m6_readSum l 8 D ad cy H.size s0 s1 s2 s3 s4 s5 s6 s7 s8 s9 s10 a1 a2 q_20 h_20) (wX6_98 36 hts ⟨by show 36 + 1 ≤ (j + 3); omega, by show 8 + (9 + 11) + 40 * 36 ≤ 40 * (j + 3); omega⟩) ⟨pg_20.1, va_recv hK hw.1 (ci := 6) (q0 := 6) rfl eC_6, pg_20.2⟩ rfl rfl hl.1 rfl (lv_room (Nat.le_of_ble_eq_true rfl)) dX6_readSingle_20 ⟨Nat.le_refl _, Nat.le_refl _⟩) hw.2.2 (afr_in hw.2.2) (fun H locs hw => ?_)
      refine lv_lstore (lv' := [(4, .long q_20.1), (3, .int q_1), (0, .ref (ad 6)), (1, .int a1), (2, .int a2)]) hx hb dX6_readSingle_23 hl (by decide) rfl (fun ls hl => ?_)
      refine lv_aload_n hx hb dX6_readSingle_25 rfl (lv_at hl 2 rfl) ?_
      obtain ⟨q_26, h_26, h⟩ := bnd_e h
      have pg_26 := preG (av := [.ref (ad 6)]) hK hw.1 hw.2.1 (NC_keep hN hw.2.2) NC_blind
      refine endI (mc := 0) (ms := 0) (va_runV (As := []) (rest := []) ⟨hx, hb, hml, hown, hts⟩ (m6_readOrder l D ad cy H.size s0 s1 s2 s3 s4 s5 q_20.2 s7 s8 s9 s10 q_26 h_26) (wX6_102 1 hts ⟨by show 1 + 1 ≤ (j + 3); omega, by show 8 + (2 + 11) + 40 * 1 ≤ 40 * (j + 3); omega⟩) ⟨pg_26.1, va_recv hK hw.1 (ci := 6) (q0 := 6) rfl eC_6, pg_26.2⟩ rfl rfl hl.1 rfl (lv_room (Nat.le_of_ble_eq_true rfl)) dX6_readSingle_26 ⟨Nat.le_refl _, Nat.le_refl _⟩) hw.2.2 (afr_in hw.2.2) (fun H locs hw => ?_)
      refine lv_istore (lv' := [(6, .int q_26.1), (4, .long q_20.1), (3, .int q_1), (0, .ref (ad 6)), (1, .int a1), (2, .int a2)]) hx hb dX6_readSingle_29 hl (by decide) rfl (fun ls hl => ?_)
      refine lv_lload hx hb dX6_readSingle_31 (lv_at hl 1 rfl) ?_
      refine lv_iload hx hb dX6_readSingle_33 (lv_at hl 0 rfl) ?_
      refine lv_aload_n hx hb dX6_readSingle_35 rfl (lv_at hl 3 rfl) ?_
      refine lv_iload_n hx hb dX6_readSingle_36 rfl (lv_at hl 4 rfl) ?_
      refine lv_iload_n hx hb dX6_readSingle_37 rfl (lv_at hl 5 rfl) ?_
      obtain ⟨q_38, h_38, h⟩ := bnd_e h
      have pg_38 := preG (av := [.ref (ad 6), .int a1, .int a2]) hK hw.1 hw.2.1 (NC_keep hN hw.2.2) NC_blind
      refine endL (mc := 0) (ms := 0) (va_runV (As := [.int a1, .int a2]) (rest := [.int q_26.1, .long q_20.1]) ⟨hx, hb, hml, hown, hts⟩ (m6_readSum l 8 D ad cy H.size s0 s1 s2 s3 s4 s5 q_26.2 s7 s8 s9 s10 a1 a2 q_38 h_38) (wX6_98 36 hts ⟨by show 36 + 1 ≤ (j + 3); omega, by show 8 + (9 + 11) + 40 * 36 ≤ 40 * (j + 3); omega⟩) ⟨pg_38.1, va_recv hK hw.1 (ci := 6) (q0 := 6) rfl eC_6, pg_38.2⟩ rfl rfl hl.1 rfl (lv_room (Nat.le_of_ble_eq_true rfl)) dX6_readSingle_38 ⟨Nat.le_refl _, Nat.le_refl _⟩) hw.2.2 (afr_in hw.2.2) (fun H locs hw => ?_)
      obtain ⟨q_41, h_41, h⟩ := bnd_e h
      have pg_41 := preG (av := [.long q_20.1, .int q_26.1, .long q_38.1]) hK hw.1 hw.2.1 (NC_keep hN hw.2.2) NC_blind
      refine endI (mc := 0) (ms := 0) (va_runS (As := [.long q_20.1, .int q_26.1, .long q_38.1]) (rest := []) ⟨hx, hb, hml, hown, hts⟩ (m6_areSo l D ad cy H.size s0 s1 s2 s3 s4 s5 q_38.2 s7 s8 s9 s10 q_20.1 q_26.1 q_38.1 q_41 h_41) (wX6_105 0 hts ⟨by show 0 + 1 ≤ (j + 3); omega, by show 8 + (5 + 11) + 40 * 0 ≤ 40 * (j + 3); omega⟩) pg_41 rfl rfl hl.1 rfl (lv_room (Nat.le_of_ble_eq_true rfl)) dX6_readSingle_41 ⟨Nat.le_refl _, Nat.le_refl _⟩) hw.2.2 (afr_in hw.2.2) (fun H locs hw => ?_)
      obtain ⟨hz_44, h⟩ := chk_e h
      have h := Option.some.inj h
      subst h
      rw [← hQ]
      exact retI hx hb hr hlk hw (narB hz_44) dX6_readSingle_44
noncomputable def f6_readSingle : Nat → Int32 → Int32 → OS → Option (Int32 × OS)
  | 0 => fun _ _ _ => none
  | d + 1 => f6_readSingle_b (f6_readSingle d)
theorem m6_readSingle (l : Launch) : ∀ (d : Nat) (D : va_G) (ad : Nat → Nat) (cy : Nat → ClassId) (sz : Nat) (s0 s1 s2 s3 s4 s5 s6 s7 s8 s9 s10 : OS) (a1 : Int32) (a2 : Int32) (r : Int32 × OS), f6_readSingle d a1 a2 s6 = some r → Met l yX6_readSingle (wsOf yX6_readSingle cX6_readSingle 7 (some .boolean)) (rmL (40 + 3 * d)) (va_Pc ([.ref (ad 6), .int a1, .int a2] : List Value) (PreG D cy (cellsC ad cy s0 s1 s2 s3 s4 s5 s6 s7 s8 s9 s10) sz (NC ad))) (QcI D ad 67 (cellsC ad cy s0 s1 s2 s3 s4 s5 r.2 s7 s8 s9 s10) (r.1) sz) 0 0 (Afr ad 67 sz)
  | 0, D, ad, cy, sz, s0, s1, s2, s3, s4, s5, s6, s7, s8, s9, s10, a1, a2, r, h => by cases h
  | d + 1, D, ad, cy, sz, s0, s1, s2, s3, s4, s5, s6, s7, s8, s9, s10, a1, a2, r, h => m6_readSingle_b l (f6_readSingle d) (40 + 3 * d) (by omega) (m6_readSingle l d) D ad cy sz s0 s1 s2 s3 s4 s5 s6 s7 s8 s9 s10 a1 a2 r h
theorem dX6_readTold_0 : decode cX6_readTold 0 = .ok (.aload_n 0, 1) := by decide +kernel
theorem dX6_readTold_1 : decode cX6_readTold 1 = .ok (.getfield 27, 3) := by decide +kernel
theorem dX6_readTold_4 : decode cX6_readTold 4 = .ok (.istore_n 2, 1) := by decide +kernel
theorem dX6_readTold_5 : decode cX6_readTold 5 = .ok (.aload_n 0, 1) := by decide +kernel
theorem dX6_readTold_6 : decode cX6_readTold 6 = .ok (.invokevirtual 118, 3) := by decide +kernel
theorem dX6_readTold_9 : decode cX6_readTold 9 = .ok (.istore_n 3, 1) := by decide +kernel
theorem dX6_readTold_10 : decode cX6_readTold 10 = .ok (.iload_n 3, 1) := by decide +kernel
theorem dX6_readTold_11 : decode cX6_readTold 11 = .ok (.iload_n 1, 1) := by decide +kernel
theorem dX6_readTold_12 : decode cX6_readTold 12 = .ok (.if_icmp .le 9, 3) := by decide +kernel
theorem dX6_readTold_15 : decode cX6_readTold 15 = .ok (.aload_n 0, 1) := by decide +kernel
theorem dX6_readTold_16 : decode cX6_readTold 16 = .ok (.iconst 3, 1) := by decide +kernel
theorem dX6_readTold_17 : decode cX6_readTold 17 = .ok (.iload_n 2, 1) := by decide +kernel
theorem dX6_readTold_18 : decode cX6_readTold 18 = .ok (.invokevirtual 72, 3) := by decide +kernel
theorem dX6_readTold_21 : decode cX6_readTold 21 = .ok (.iload_n 3, 1) := by decide +kernel
theorem dX6_readTold_22 : decode cX6_readTold 22 = .ok (.ireturn, 1) := by decide +kernel
noncomputable def f6_readTold_j21 (v3_j21 : Int32) (s6_j21 : OS) : Option (Int32 × OS) := some (v3_j21, s6_j21)
noncomputable def f6_readTold (a1 : Int32) (s6 : OS) : Option (Int32 × OS) := nm ((s6.1 0 4)) fun n_4 => Option.bind (f6_readDigits s6) fun q_6 => if q_6.1 ≤ a1 then (f6_readTold_j21 q_6.1 q_6.2) else (Option.bind (f6_fail ((3 : Int32)) n_4 q_6.2) fun q_18 => f6_readTold_j21 q_6.1 q_18)
set_option maxHeartbeats 4000000 in
set_option maxRecDepth 100000 in
theorem m6_readTold (l : Launch) (D : va_G) (ad : Nat → Nat) (cy : Nat → ClassId) (sz : Nat) (s0 s1 s2 s3 s4 s5 s6 s7 s8 s9 s10 : OS) (a1 : Int32) (r : Int32 × OS) (h : f6_readTold a1 s6 = some r) : Met l yX6_readTold (wsOf yX6_readTold cX6_readTold 4 (some .int)) (rmL 2) (va_Pc ([.ref (ad 6), .int a1] : List Value) (PreG D cy (cellsC ad cy s0 s1 s2 s3 s4 s5 s6 s7 s8 s9 s10) sz (NC ad))) (QcI D ad 67 (cellsC ad cy s0 s1 s2 s3 s4 s5 r.2 s7 s8 s9 s10) (r.1) sz) 0 0 (Afr ad 67 sz) := by
  refine metG (own := RX6) (by decide) rfl (Nat.le_of_ble_eq_true rfl) fstC ?_ sz
  intro p e s m below meth c ls C0 hw hl
  obtain ⟨hx, hb, hml, hown, hts, hr, hlk, hK, hN⟩ := C0
  have hl : lv_has ls 4 [(0, .ref (ad 6)), (1, .int a1)] := hl
  generalize hQ : MQ below (QcI D ad 67 (cellsC ad cy s0 s1 s2 s3 s4 s5 r.2 s7 s8 s9 s10) (r.1) s.heap.size) ([.ref (ad 6), .int a1] : List Value).toArray s 0 0 (Afr ad 67 s.heap.size) = Q
  obtain ⟨H, hH⟩ : ∃ H : Heap, H = s.heap := ⟨_, rfl⟩
  obtain ⟨locs, hlc⟩ : ∃ L : List Loc, L = [] := ⟨_, rfl⟩
  have hw : Wd D (cellsC ad cy s0 s1 s2 s3 s4 s5 s6 s7 s8 s9 s10) (Afr ad 67 s.heap.size) s.heap H locs := by rw [hH, hlc]; exact hw
  suffices h0 : W p l e (rmL 2) s m ([.ref (ad 6), .int a1] : List Value).toArray below meth c H locs 0 0 Q (F0 m 0 ls []) by rw [hH, hlc] at h0; exact h0
  clear hH hlc
  unfold f6_readTold at h
  have hJ_21 : ∀ (v3_j21 : Int32) (s6_j21 : OS) (H : Heap) (locs : List Loc) (ls : Array Slot), f6_readTold_j21 v3_j21 s6_j21 = some r → Wd D (cellsC ad cy s0 s1 s2 s3 s4 s5 s6_j21 s7 s8 s9 s10) (Afr ad 67 s.heap.size) s.heap H locs → lv_has ls 4 [(3, .int v3_j21)] → W p l e (rmL 2) s m ([.ref (ad 6), .int a1] : List Value).toArray below meth c H locs 0 0 Q (F0 m 21 ls []) := by
    intro v3_j21 s6_j21 H locs ls h hw hl
    unfold f6_readTold_j21 at h
    refine lv_iload_n hx hb dX6_readTold_21 rfl (lv_at hl 0 rfl) ?_
    have h := Option.some.inj h
    subst h
    rw [← hQ]
    exact retI hx hb hr hlk hw rfl dX6_readTold_22
  refine lv_aload_n hx hb dX6_readTold_0 rfl (lv_at hl 0 rfl) ?_
  refine gX6_27 hx hb hts hown hK hw dX6_readTold_1 ?_
  obtain ⟨n_4, e_4, h⟩ := nam_e h
  refine topI e_4 ?_
  refine lv_istore_n (lv' := [(2, .int n_4), (0, .ref (ad 6)), (1, .int a1)]) hx hb dX6_readTold_4 rfl hl (by decide) rfl (fun ls hl => ?_)
  refine lv_aload_n hx hb dX6_readTold_5 rfl (lv_at hl 1 rfl) ?_
  obtain ⟨q_6, h_6, h⟩ := bnd_e h
  have pg_6 := preG (av := [.ref (ad 6)]) hK hw.1 hw.2.1 (NC_keep hN hw.2.2) NC_blind
  refine endI (mc := 0) (ms := 0) (va_runV (As := []) (rest := []) ⟨hx, hb, hml, hown, hts⟩ (m6_readDigits l D ad cy H.size s0 s1 s2 s3 s4 s5 s6 s7 s8 s9 s10 q_6 h_6) (wX6_118 1 hts ⟨Nat.le_of_ble_eq_true rfl, Nat.le_of_ble_eq_true rfl⟩) ⟨pg_6.1, va_recv hK hw.1 (ci := 6) (q0 := 6) rfl eC_6, pg_6.2⟩ rfl rfl hl.1 rfl (lv_room (Nat.le_of_ble_eq_true rfl)) dX6_readTold_6 ⟨Nat.le_refl _, Nat.le_refl _⟩) hw.2.2 (afr_in hw.2.2) (fun H locs hw => ?_)
  refine lv_istore_n (lv' := [(3, .int q_6.1), (2, .int n_4), (0, .ref (ad 6)), (1, .int a1)]) hx hb dX6_readTold_9 rfl hl (by decide) rfl (fun ls hl => ?_)
  refine lv_iload_n hx hb dX6_readTold_10 rfl (lv_at hl 0 rfl) ?_
  refine lv_iload_n hx hb dX6_readTold_11 rfl (lv_at hl 3 rfl) ?_
  refine lv_icmp_le (tgt := 21) hx hb dX6_readTold_12 (by decide) (fun c_12 => ?_) (fun c_12 => ?_)
  · have h := ite_t c_12 h
    exact hJ_21 q_6.1 q_6.2 H locs ls h hw (lv_sub hl [0] rfl)
  · have h := ite_f c_12 h
    refine lv_aload_n hx hb dX6_readTold_15 rfl (lv_at hl 2 rfl) ?_
    refine lv_iconst (v := 3) hx hb dX6_readTold_16 (by decide) ?_
    refine lv_iload_n hx hb dX6_readTold_17 rfl (lv_at hl 1 rfl) ?_
    obtain ⟨q_18, h_18, h⟩ := bnd_e h
    have pg_18 := preG (av := [.ref (ad 6), .int ((3 : Int32)), .int n_4]) hK hw.1 hw.2.1 (NC_keep hN hw.2.2) NC_blind
    refine endV (mc := 0) (ms := 0) (va_runV (As := [.int ((3 : Int32)), .int n_4]) (rest := []) ⟨hx, hb, hml, hown, hts⟩ (m6_fail l D ad cy H.size s0 s1 s2 s3 s4 s5 q_6.2 s7 s8 s9 s10 ((3 : Int32)) n_4 q_18 h_18) (wX6_72 0 hts ⟨Nat.le_of_ble_eq_true rfl, Nat.le_of_ble_eq_true rfl⟩) ⟨pg_18.1, va_recv hK hw.1 (ci := 6) (q0 := 6) rfl eC_6, pg_18.2⟩ rfl rfl hl.1 rfl (lv_room (Nat.le_of_ble_eq_true rfl)) dX6_readTold_18 ⟨Nat.le_refl _, Nat.le_refl _⟩) hw.2.2 (afr_in hw.2.2) (fun H locs hw => ?_)
    exact hJ_21 q_6.1 q_18 H locs ls h hw (lv_sub hl [0] rfl)
theorem dX6_readClause_0 : decode cX6_readClause 0 = .ok (.aload_n 0, 1) := by decide +kernel
theorem dX6_readClause_1 : decode cX6_readClause 1 = .ok (.iconst 0, 1) := by decide +kernel
theorem dX6_readClause_2 : decode cX6_readClause 2 = .ok (.putfield 48, 3) := by decide +kernel
theorem dX6_readClause_5 : decode cX6_readClause 5 = .ok (.aload_n 0, 1) := by decide +kernel
theorem dX6_readClause_6 : decode cX6_readClause 6 = .ok (.aload_n 0, 1) := by decide +kernel
theorem dX6_readClause_7 : decode cX6_readClause 7 = .ok (.invokevirtual 64, 3) := by decide +kernel
theorem dX6_readClause_10 : decode cX6_readClause 10 = .ok (.putfield 39, 3) := by decide +kernel
theorem dX6_readClause_13 : decode cX6_readClause 13 = .ok (.aload_n 0, 1) := by decide +kernel
theorem dX6_readClause_14 : decode cX6_readClause 14 = .ok (.getfield 39, 3) := by decide +kernel
theorem dX6_readClause_17 : decode cX6_readClause 17 = .ok (.invokestatic 68, 3) := by decide +kernel
theorem dX6_readClause_20 : decode cX6_readClause 20 = .ok (.ifCond .ne 14, 3) := by decide +kernel
theorem dX6_readClause_23 : decode cX6_readClause 23 = .ok (.aload_n 0, 1) := by decide +kernel
theorem dX6_readClause_24 : decode cX6_readClause 24 = .ok (.iconst 1, 1) := by decide +kernel
theorem dX6_readClause_25 : decode cX6_readClause 25 = .ok (.aload_n 0, 1) := by decide +kernel
theorem dX6_readClause_26 : decode cX6_readClause 26 = .ok (.getfield 27, 3) := by decide +kernel
theorem dX6_readClause_29 : decode cX6_readClause 29 = .ok (.invokevirtual 72, 3) := by decide +kernel
theorem dX6_readClause_32 : decode cX6_readClause 32 = .ok (.iconst 0, 1) := by decide +kernel
theorem dX6_readClause_33 : decode cX6_readClause 33 = .ok (.ireturn, 1) := by decide +kernel
theorem dX6_readClause_34 : decode cX6_readClause 34 = .ok (.aload_n 0, 1) := by decide +kernel
theorem dX6_readClause_35 : decode cX6_readClause 35 = .ok (.dup, 1) := by decide +kernel
theorem dX6_readClause_36 : decode cX6_readClause 36 = .ok (.getfield 27, 3) := by decide +kernel
theorem dX6_readClause_39 : decode cX6_readClause 39 = .ok (.iconst 1, 1) := by decide +kernel
theorem dX6_readClause_40 : decode cX6_readClause 40 = .ok (.iadd, 1) := by decide +kernel
theorem dX6_readClause_41 : decode cX6_readClause 41 = .ok (.putfield 27, 3) := by decide +kernel
theorem dX6_readClause_44 : decode cX6_readClause 44 = .ok (.aload_n 0, 1) := by decide +kernel
theorem dX6_readClause_45 : decode cX6_readClause 45 = .ok (.getfield 39, 3) := by decide +kernel
theorem dX6_readClause_48 : decode cX6_readClause 48 = .ok (.bipush 120, 2) := by decide +kernel
theorem dX6_readClause_50 : decode cX6_readClause 50 = .ok (.if_icmp .ne 31, 3) := by decide +kernel
theorem dX6_readClause_53 : decode cX6_readClause 53 = .ok (.aload_n 0, 1) := by decide +kernel
theorem dX6_readClause_54 : decode cX6_readClause 54 = .ok (.aload_n 0, 1) := by decide +kernel
theorem dX6_readClause_55 : decode cX6_readClause 55 = .ok (.bipush 19, 2) := by decide +kernel
theorem dX6_readClause_57 : decode cX6_readClause 57 = .ok (.invokevirtual 80, 3) := by decide +kernel
theorem dX6_readClause_60 : decode cX6_readClause 60 = .ok (.putfield 42, 3) := by decide +kernel
theorem dX6_readClause_63 : decode cX6_readClause 63 = .ok (.aload_n 0, 1) := by decide +kernel
theorem dX6_readClause_64 : decode cX6_readClause 64 = .ok (.bipush 46, 2) := by decide +kernel
theorem dX6_readClause_66 : decode cX6_readClause 66 = .ok (.invokevirtual 83, 3) := by decide +kernel
theorem dX6_readClause_69 : decode cX6_readClause 69 = .ok (.aload_n 0, 1) := by decide +kernel
theorem dX6_readClause_70 : decode cX6_readClause 70 = .ok (.aload_n 0, 1) := by decide +kernel
theorem dX6_readClause_71 : decode cX6_readClause 71 = .ok (.bipush 11, 2) := by decide +kernel
theorem dX6_readClause_73 : decode cX6_readClause 73 = .ok (.invokevirtual 80, 3) := by decide +kernel
theorem dX6_readClause_76 : decode cX6_readClause 76 = .ok (.putfield 45, 3) := by decide +kernel
theorem dX6_readClause_79 : decode cX6_readClause 79 = .ok (.iconst 0, 1) := by decide +kernel
theorem dX6_readClause_80 : decode cX6_readClause 80 = .ok (.ireturn, 1) := by decide +kernel
theorem dX6_readClause_81 : decode cX6_readClause 81 = .ok (.aload_n 0, 1) := by decide +kernel
theorem dX6_readClause_82 : decode cX6_readClause 82 = .ok (.getfield 39, 3) := by decide +kernel
theorem dX6_readClause_85 : decode cX6_readClause 85 = .ok (.bipush 98, 2) := by decide +kernel
theorem dX6_readClause_87 : decode cX6_readClause 87 = .ok (.if_icmp .eq 28, 3) := by decide +kernel
theorem dX6_readClause_90 : decode cX6_readClause 90 = .ok (.aload_n 0, 1) := by decide +kernel
theorem dX6_readClause_91 : decode cX6_readClause 91 = .ok (.aload_n 0, 1) := by decide +kernel
theorem dX6_readClause_92 : decode cX6_readClause 92 = .ok (.aload_n 0, 1) := by decide +kernel
theorem dX6_readClause_93 : decode cX6_readClause 93 = .ok (.getfield 39, 3) := by decide +kernel
theorem dX6_readClause_96 : decode cX6_readClause 96 = .ok (.bipush 116, 2) := by decide +kernel
theorem dX6_readClause_98 : decode cX6_readClause 98 = .ok (.if_icmp .ne 9, 3) := by decide +kernel
theorem dX6_readClause_101 : decode cX6_readClause 101 = .ok (.sipush 1000, 3) := by decide +kernel
theorem dX6_readClause_104 : decode cX6_readClause 104 = .ok (.goto 5, 3) := by decide +kernel
theorem dX6_readClause_107 : decode cX6_readClause 107 = .ok (.ldc 87, 2) := by decide +kernel
theorem dX6_readClause_109 : decode cX6_readClause 109 = .ok (.invokevirtual 80, 3) := by decide +kernel
theorem dX6_readClause_112 : decode cX6_readClause 112 = .ok (.putfield 42, 3) := by decide +kernel
theorem dX6_readClause_115 : decode cX6_readClause 115 = .ok (.aload_n 0, 1) := by decide +kernel
theorem dX6_readClause_116 : decode cX6_readClause 116 = .ok (.bipush 40, 2) := by decide +kernel
theorem dX6_readClause_118 : decode cX6_readClause 118 = .ok (.invokevirtual 83, 3) := by decide +kernel
theorem dX6_readClause_121 : decode cX6_readClause 121 = .ok (.aload_n 0, 1) := by decide +kernel
theorem dX6_readClause_122 : decode cX6_readClause 122 = .ok (.iconst 1, 1) := by decide +kernel
theorem dX6_readClause_123 : decode cX6_readClause 123 = .ok (.iload_n 1, 1) := by decide +kernel
theorem dX6_readClause_124 : decode cX6_readClause 124 = .ok (.invokevirtual 88, 3) := by decide +kernel
theorem dX6_readClause_127 : decode cX6_readClause 127 = .ok (.istore_n 2, 1) := by decide +kernel
theorem dX6_readClause_128 : decode cX6_readClause 128 = .ok (.aload_n 0, 1) := by decide +kernel
theorem dX6_readClause_129 : decode cX6_readClause 129 = .ok (.bipush 41, 2) := by decide +kernel
theorem dX6_readClause_131 : decode cX6_readClause 131 = .ok (.invokevirtual 83, 3) := by decide +kernel
theorem dX6_readClause_134 : decode cX6_readClause 134 = .ok (.iload_n 2, 1) := by decide +kernel
theorem dX6_readClause_135 : decode cX6_readClause 135 = .ok (.ifCond .eq 14, 3) := by decide +kernel
theorem dX6_readClause_138 : decode cX6_readClause 138 = .ok (.aload_n 0, 1) := by decide +kernel
theorem dX6_readClause_139 : decode cX6_readClause 139 = .ok (.getfield 48, 3) := by decide +kernel
theorem dX6_readClause_142 : decode cX6_readClause 142 = .ok (.ifCond .ne 7, 3) := by decide +kernel
theorem dX6_readClause_145 : decode cX6_readClause 145 = .ok (.iconst 1, 1) := by decide +kernel
theorem dX6_readClause_146 : decode cX6_readClause 146 = .ok (.goto 4, 3) := by decide +kernel
theorem dX6_readClause_149 : decode cX6_readClause 149 = .ok (.iconst 0, 1) := by decide +kernel
theorem dX6_readClause_150 : decode cX6_readClause 150 = .ok (.ireturn, 1) := by decide +kernel
noncomputable def f6_readClause_j150 (k0_j150 : Int32) (s6_j150 : OS) : Option (Int32 × OS) := chk (isB k0_j150) (some (k0_j150, s6_j150))
noncomputable def f6_readClause_j149 (s6_j149 : OS) : Option (Int32 × OS) := f6_readClause_j150 ((0 : Int32)) s6_j149
noncomputable def f6_readClause_j115 (v1_j115 : Int32) (s6_j115 : OS) : Option (Int32 × OS) := Option.bind (f6_require ((40 : Int32)) s6_j115) fun q_118 => Option.bind (f6_readAny (f6_readSingle 8) ((1 : Int32)) v1_j115 q_118) fun q_124 => Option.bind (f6_require ((41 : Int32)) q_124.2) fun q_131 => if q_124.1 = 0 then (f6_readClause_j149 q_131) else (if (q_131.1 0 11) = 0 then (f6_readClause_j150 ((1 : Int32)) q_131) else (f6_readClause_j149 q_131))
noncomputable def f6_readClause_j109 (v1_j109 : Int32) (k2_j109 : Int32) (s6_j109 : OS) : Option (Int32 × OS) := Option.bind (f6_readTold k2_j109 s6_j109) fun q_109 => nm (wI q_109.2 0 9 q_109.1) fun s6_112 => f6_readClause_j115 v1_j109 s6_112
noncomputable def f6_readClause (a1 : Int32) (s6 : OS) : Option (Int32 × OS) := nm (wI s6 0 11 ((0 : Int32))) fun s6_2 => Option.bind (f6_sign s6_2) fun q_7 => nm (wI s6_2 0 8 q_7) fun s6_10 => Option.bind (f6_isClauseLetter ((s6_10.1 0 8))) fun q_17 => if q_17 = 0 then (Option.bind (f6_fail ((1 : Int32)) ((s6_10.1 0 4)) s6_10) fun q_29 => some ((0 : Int32), q_29)) else (nm (wI s6_10 0 4 (((s6_10.1 0 4) + (1 : Int32)))) fun s6_41 => if (s6_41.1 0 8) = (120 : Int32) then (Option.bind (f6_readTold ((19 : Int32)) s6_41) fun q_57 => nm (wI q_57.2 0 9 q_57.1) fun s6_60 => Option.bind (f6_require ((46 : Int32)) s6_60) fun q_66 => Option.bind (f6_readTold ((11 : Int32)) q_66) fun q_73 => nm (wI q_73.2 0 10 q_73.1) fun s6_76 => some ((0 : Int32), s6_76)) else (if (s6_41.1 0 8) = (98 : Int32) then (f6_readClause_j115 a1 s6_41) else (if (s6_41.1 0 8) = (116 : Int32) then (f6_readClause_j109 a1 ((1000 : Int32)) s6_41) else (f6_readClause_j109 a1 ((999999 : Int32)) s6_41))))
set_option maxHeartbeats 4000000 in
set_option maxRecDepth 100000 in
theorem m6_readClause (l : Launch) (D : va_G) (ad : Nat → Nat) (cy : Nat → ClassId) (sz : Nat) (s0 s1 s2 s3 s4 s5 s6 s7 s8 s9 s10 : OS) (a1 : Int32) (r : Int32 × OS) (h : f6_readClause a1 s6 = some r) : Met l yX6_readClause (wsOf yX6_readClause cX6_readClause 3 (some .boolean)) (rmL 67) (va_Pc ([.ref (ad 6), .int a1] : List Value) (PreG D cy (cellsC ad cy s0 s1 s2 s3 s4 s5 s6 s7 s8 s9 s10) sz (NC ad))) (QcI D ad 67 (cellsC ad cy s0 s1 s2 s3 s4 s5 r.2 s7 s8 s9 s10) (r.1) sz) 0 0 (Afr ad 67 sz) := by
  refine metG (own := RX6) (by decide) rfl (Nat.le_of_ble_eq_true rfl) fstC ?_ sz
  intro p e s m below meth c ls C0 hw hl
  obtain ⟨hx, hb, hml, hown, hts, hr, hlk, hK, hN⟩ := C0
  have hl : lv_has ls 3 [(0, .ref (ad 6)), (1, .int a1)] := hl
  generalize hQ : MQ below (QcI D ad 67 (cellsC ad cy s0 s1 s2 s3 s4 s5 r.2 s7 s8 s9 s10) (r.1) s.heap.size) ([.ref (ad 6), .int a1] : List Value).toArray s 0 0 (Afr ad 67 s.heap.size) = Q
  obtain ⟨H, hH⟩ : ∃ H : Heap, H = s.heap := ⟨_, rfl⟩
  obtain ⟨locs, hlc⟩ : ∃ L : List Loc, L = [] := ⟨_, rfl⟩
  have hw : Wd D (cellsC ad cy s0 s1 s2 s3 s4 s5 s6 s7 s8 s9 s10) (Afr ad 67 s.heap.size) s.heap H locs := by rw [hH, hlc]; exact hw
  suffices h0 : W p l e (rmL 67) s m ([.ref (ad 6), .int a1] : List Value).toArray below meth c H locs 0 0 Q (F0 m 0 ls []) by rw [hH, hlc] at h0; exact h0
  clear hH hlc
  unfold f6_readClause at h
  have hJ_150 : ∀ (k0_j150 : Int32) (s6_j150 : OS) (H : Heap) (locs : List Loc) (ls : Array Slot), f6_readClause_j150 k0_j150 s6_j150 = some r → Wd D (cellsC ad cy s0 s1 s2 s3 s4 s5 s6_j150 s7 s8 s9 s10) (Afr ad 67 s.heap.size) s.heap H locs → lv_has ls 3 [] → W p l e (rmL 67) s m ([.ref (ad 6), .int a1] : List Value).toArray below meth c H locs 0 0 Q (F0 m 150 ls [.int k0_j150]) := by
    intro k0_j150 s6_j150 H locs ls h hw hl
    unfold f6_readClause_j150 at h
    obtain ⟨hz_150, h⟩ := chk_e h
    have h := Option.some.inj h
    subst h
    rw [← hQ]
    exact retI hx hb hr hlk hw (narB hz_150) dX6_readClause_150
  have hJ_149 : ∀ (s6_j149 : OS) (H : Heap) (locs : List Loc) (ls : Array Slot), f6_readClause_j149 s6_j149 = some r → Wd D (cellsC ad cy s0 s1 s2 s3 s4 s5 s6_j149 s7 s8 s9 s10) (Afr ad 67 s.heap.size) s.heap H locs → lv_has ls 3 [] → W p l e (rmL 67) s m ([.ref (ad 6), .int a1] : List Value).toArray below meth c H locs 0 0 Q (F0 m 149 ls []) := by
    intro s6_j149 H locs ls h hw hl
    unfold f6_readClause_j149 at h
    refine lv_iconst (v := 0) hx hb dX6_readClause_149 (by decide) ?_
    exact hJ_150 ((0 : Int32)) s6_j149 H locs ls h hw (lv_sub hl [] rfl)
  have hJ_115 : ∀ (v1_j115 : Int32) (s6_j115 : OS) (H : Heap) (locs : List Loc) (ls : Array Slot), f6_readClause_j115 v1_j115 s6_j115 = some r → Wd D (cellsC ad cy s0 s1 s2 s3 s4 s5 s6_j115 s7 s8 s9 s10) (Afr ad 67 s.heap.size) s.heap H locs → lv_has ls 3 [(0, .ref (ad 6)), (1, .int v1_j115)] → W p l e (rmL 67) s m ([.ref (ad 6), .int a1] : List Value).toArray below meth c H locs 0 0 Q (F0 m 115 ls []) := by
    intro v1_j115 s6_j115 H locs ls h hw hl
    unfold f6_readClause_j115 at h
    refine lv_aload_n hx hb dX6_readClause_115 rfl (lv_at hl 0 rfl) ?_
    refine lv_bipush (v := 40) hx hb dX6_readClause_116 (by decide) ?_
    obtain ⟨q_118, h_118, h⟩ := bnd_e h
    have pg_118 := preG (av := [.ref (ad 6), .int ((40 : Int32))]) hK hw.1 hw.2.1 (NC_keep hN hw.2.2) NC_blind
    refine endV (mc := 0) (ms := 0) (va_runV (As := [.int ((40 : Int32))]) (rest := []) ⟨hx, hb, hml, hown, hts⟩ (m6_require l D ad cy H.size s0 s1 s2 s3 s4 s5 s6_j115 s7 s8 s9 s10 ((40 : Int32)) q_118 h_118) (wX6_83 1 hts ⟨Nat.le_of_ble_eq_true rfl, Nat.le_of_ble_eq_true rfl⟩) ⟨pg_118.1, va_recv hK hw.1 (ci := 6) (q0 := 6) rfl eC_6, pg_118.2⟩ rfl rfl hl.1 rfl (lv_room (Nat.le_of_ble_eq_true rfl)) dX6_readClause_118 ⟨Nat.le_refl _, Nat.le_refl _⟩) hw.2.2 (afr_in hw.2.2) (fun H locs hw => ?_)
    refine lv_aload_n hx hb dX6_readClause_121 rfl (lv_at hl 0 rfl) ?_
    refine lv_iconst (v := 1) hx hb dX6_readClause_122 (by decide) ?_
    refine lv_iload_n hx hb dX6_readClause_123 rfl (lv_at hl 1 rfl) ?_
    obtain ⟨q_124, h_124, h⟩ := bnd_e h
    have pg_124 := preG (av := [.ref (ad 6), .int ((1 : Int32)), .int v1_j115]) hK hw.1 hw.2.1 (NC_keep hN hw.2.2) NC_blind
    refine endI (mc := 0) (ms := 0) (va_runV (As := [.int ((1 : Int32)), .int v1_j115]) (rest := []) ⟨hx, hb, hml, hown, hts⟩ (m6_readAny l (f6_readSingle 8) 64 (by decide) (m6_readSingle l 8) D ad cy H.size s0 s1 s2 s3 s4 s5 q_118 s7 s8 s9 s10 ((1 : Int32)) v1_j115 q_124 h_124) (wX6_88 66 hts ⟨Nat.le_of_ble_eq_true rfl, Nat.le_of_ble_eq_true rfl⟩) ⟨pg_124.1, va_recv hK hw.1 (ci := 6) (q0 := 6) rfl eC_6, pg_124.2⟩ rfl rfl hl.1 rfl (lv_room (Nat.le_of_ble_eq_true rfl)) dX6_readClause_124 ⟨Nat.le_refl _, Nat.le_refl _⟩) hw.2.2 (afr_in hw.2.2) (fun H locs hw => ?_)
    refine lv_istore_n (lv' := [(2, .int q_124.1), (0, .ref (ad 6)), (1, .int v1_j115)]) hx hb dX6_readClause_127 rfl hl (by decide) rfl (fun ls hl => ?_)
    refine lv_aload_n hx hb dX6_readClause_128 rfl (lv_at hl 1 rfl) ?_
    refine lv_bipush (v := 41) hx hb dX6_readClause_129 (by decide) ?_
    obtain ⟨q_131, h_131, h⟩ := bnd_e h
    have pg_131 := preG (av := [.ref (ad 6), .int ((41 : Int32))]) hK hw.1 hw.2.1 (NC_keep hN hw.2.2) NC_blind
    refine endV (mc := 0) (ms := 0) (va_runV (As := [.int ((41 : Int32))]) (rest := []) ⟨hx, hb, hml, hown, hts⟩ (m6_require l D ad cy H.size s0 s1 s2 s3 s4 s5 q_124.2 s7 s8 s9 s10 ((41 : Int32)) q_131 h_131) (wX6_83 1 hts ⟨Nat.le_of_ble_eq_true rfl, Nat.le_of_ble_eq_true rfl⟩) ⟨pg_131.1, va_recv hK hw.1 (ci := 6) (q0 := 6) rfl eC_6, pg_131.2⟩ rfl rfl hl.1 rfl (lv_room (Nat.le_of_ble_eq_true rfl)) dX6_readClause_131 ⟨Nat.le_refl _, Nat.le_refl _⟩) hw.2.2 (afr_in hw.2.2) (fun H locs hw => ?_)
    refine lv_iload_n hx hb dX6_readClause_134 rfl (lv_at hl 0 rfl) ?_
    refine lv_if_eq (tgt := 149) hx hb dX6_readClause_135 (by decide) (fun c_135 => ?_) (fun c_135 => ?_)
    · have h := ite_t c_135 h
      exact hJ_149 q_131 H locs ls h hw (lv_sub hl [] rfl)
    · have h := ite_f c_135 h
      refine lv_aload_n hx hb dX6_readClause_138 rfl (lv_at hl 1 rfl) ?_
      refine gX6_48 hx hb hts hown hK hw dX6_readClause_139 ?_
      refine lv_if_ne (tgt := 149) hx hb dX6_readClause_142 (by decide) (fun c_142 => ?_) (fun c_142 => ?_)
      · have h := ite_f c_142 h
        exact hJ_149 q_131 H locs ls h hw (lv_sub hl [] rfl)
      · have h := ite_t c_142 h
        refine lv_iconst (v := 1) hx hb dX6_readClause_145 (by decide) ?_
        refine lv_goto (tgt := 150) hx hb dX6_readClause_146 (by decide) ?_
        exact hJ_150 ((1 : Int32)) q_131 H locs ls h hw (lv_sub hl [] rfl)
  have hJ_109 : ∀ (v1_j109 : Int32) (k2_j109 : Int32) (s6_j109 : OS) (H : Heap) (locs : List Loc) (ls : Array Slot), f6_readClause_j109 v1_j109 k2_j109 s6_j109 = some r → Wd D (cellsC ad cy s0 s1 s2 s3 s4 s5 s6_j109 s7 s8 s9 s10) (Afr ad 67 s.heap.size) s.heap H locs → lv_has ls 3 [(0, .ref (ad 6)), (1, .int v1_j109)] → W p l e (rmL 67) s m ([.ref (ad 6), .int a1] : List Value).toArray below meth c H locs 0 0 Q (F0 m 109 ls [.int k2_j109, .ref (ad 6), .ref (ad 6)]) := by
    intro v1_j109 k2_j109 s6_j109 H locs ls h hw hl
    unfold f6_readClause_j109 at h
    obtain ⟨q_109, h_109, h⟩ := bnd_e h
    have pg_109 := preG (av := [.ref (ad 6), .int k2_j109]) hK hw.1 hw.2.1 (NC_keep hN hw.2.2) NC_blind
    refine endI (mc := 0) (ms := 0) (va_runV (As := [.int k2_j109]) (rest := [.ref (ad 6)]) ⟨hx, hb, hml, hown, hts⟩ (m6_readTold l D ad cy H.size s0 s1 s2 s3 s4 s5 s6_j109 s7 s8 s9 s10 k2_j109 q_109 h_109) (wX6_80 2 hts ⟨Nat.le_of_ble_eq_true rfl, Nat.le_of_ble_eq_true rfl⟩) ⟨pg_109.1, va_recv hK hw.1 (ci := 6) (q0 := 6) rfl eC_6, pg_109.2⟩ rfl rfl hl.1 rfl (lv_room (Nat.le_of_ble_eq_true rfl)) dX6_readClause_109 ⟨Nat.le_refl _, Nat.le_refl _⟩) hw.2.2 (afr_in hw.2.2) (fun H locs hw => ?_)
    obtain ⟨s6_112, e_112, h⟩ := nam_e h
    refine pX6_42 hx hb hts hown hK hw e_112 dX6_readClause_112 (fun H locs hw => ?_)
    exact hJ_115 v1_j109 s6_112 H locs ls h hw (lv_sub hl [0, 1] rfl)
  refine lv_aload_n hx hb dX6_readClause_0 rfl (lv_at hl 0 rfl) ?_
  refine lv_iconst (v := 0) hx hb dX6_readClause_1 (by decide) ?_
  obtain ⟨s6_2, e_2, h⟩ := nam_e h
  refine pX6_48 hx hb hts hown hK hw e_2 rfl dX6_readClause_2 (fun H locs hw => ?_)
  refine lv_aload_n hx hb dX6_readClause_5 rfl (lv_at hl 0 rfl) ?_
  refine lv_aload_n hx hb dX6_readClause_6 rfl (lv_at hl 0 rfl) ?_
  obtain ⟨q_7, h_7, h⟩ := bnd_e h
  have pg_7 := preG (av := [.ref (ad 6)]) hK hw.1 hw.2.1 (NC_keep hN hw.2.2) NC_blind
  refine endI (mc := 0) (ms := 0) (va_runV (As := []) (rest := [.ref (ad 6)]) ⟨hx, hb, hml, hown, hts⟩ (m6_sign l D ad cy H.size s0 s1 s2 s3 s4 s5 s6_2 s7 s8 s9 s10 q_7 h_7) (wX6_64 0 hts ⟨Nat.le_of_ble_eq_true rfl, Nat.le_of_ble_eq_true rfl⟩) ⟨pg_7.1, va_recv hK hw.1 (ci := 6) (q0 := 6) rfl eC_6, pg_7.2⟩ rfl rfl hl.1 rfl (lv_room (Nat.le_of_ble_eq_true rfl)) dX6_readClause_7 ⟨Nat.le_refl _, Nat.le_refl _⟩) hw.2.2 (afr_in hw.2.2) (fun H locs hw => ?_)
  obtain ⟨s6_10, e_10, h⟩ := nam_e h
  refine pX6_39 hx hb hts hown hK hw e_10 dX6_readClause_10 (fun H locs hw => ?_)
  refine lv_aload_n hx hb dX6_readClause_13 rfl (lv_at hl 0 rfl) ?_
  refine gX6_39 hx hb hts hown hK hw dX6_readClause_14 ?_
  obtain ⟨q_17, h_17, h⟩ := bnd_e h
  have pg_17 := preG (av := [.int ((s6_10.1 0 8))]) hK hw.1 hw.2.1 (NC_keep hN hw.2.2) NC_blind
  refine endI (mc := 0) (ms := 0) (va_runS (As := [.int ((s6_10.1 0 8))]) (rest := []) ⟨hx, hb, hml, hown, hts⟩ (m6_isClauseLetter l D ad cy H.size s0 s1 s2 s3 s4 s5 s6_10 s7 s8 s9 s10 ((s6_10.1 0 8)) q_17 h_17) (wX6_68 0 hts ⟨Nat.le_of_ble_eq_true rfl, Nat.le_of_ble_eq_true rfl⟩) pg_17 rfl rfl hl.1 rfl (lv_room (Nat.le_of_ble_eq_true rfl)) dX6_readClause_17 ⟨Nat.le_refl _, Nat.le_refl _⟩) hw.2.2 (afr_in hw.2.2) (fun H locs hw => ?_)
  refine lv_if_ne (tgt := 34) hx hb dX6_readClause_20 (by decide) (fun c_20 => ?_) (fun c_20 => ?_)
  · have h := ite_f c_20 h
    refine lv_aload_n hx hb dX6_readClause_34 rfl (lv_at hl 0 rfl) ?_
    refine lv_dup hx hb dX6_readClause_35 rfl ?_
    refine gX6_27 hx hb hts hown hK hw dX6_readClause_36 ?_
    refine lv_iconst (v := 1) hx hb dX6_readClause_39 (by decide) ?_
    refine lv_iadd hx hb dX6_readClause_40 ?_
    obtain ⟨s6_41, e_41, h⟩ := nam_e h
    refine pX6_27 hx hb hts hown hK hw e_41 dX6_readClause_41 (fun H locs hw => ?_)
    refine lv_aload_n hx hb dX6_readClause_44 rfl (lv_at hl 0 rfl) ?_
    refine gX6_39 hx hb hts hown hK hw dX6_readClause_45 ?_
    refine lv_bipush (v := 120) hx hb dX6_readClause_48 (by decide) ?_
    refine lv_icmp_ne (tgt := 81) hx hb dX6_readClause_50 (by decide) (fun c_50 => ?_) (fun c_50 => ?_)
    · have h := ite_f c_50 h
      refine lv_aload_n hx hb dX6_readClause_81 rfl (lv_at hl 0 rfl) ?_
      refine gX6_39 hx hb hts hown hK hw dX6_readClause_82 ?_
      refine lv_bipush (v := 98) hx hb dX6_readClause_85 (by decide) ?_
      refine lv_icmp_eq (tgt := 115) hx hb dX6_readClause_87 (by decide) (fun c_87 => ?_) (fun c_87 => ?_)
      · have h := ite_t c_87 h
        exact hJ_115 a1 s6_41 H locs ls h hw (lv_sub hl [0, 1] rfl)
      · have h := ite_f c_87 h
        refine lv_aload_n hx hb dX6_readClause_90 rfl (lv_at hl 0 rfl) ?_
        refine lv_aload_n hx hb dX6_readClause_91 rfl (lv_at hl 0 rfl) ?_
        refine lv_aload_n hx hb dX6_readClause_92 rfl (lv_at hl 0 rfl) ?_
        refine gX6_39 hx hb hts hown hK hw dX6_readClause_93 ?_
        refine lv_bipush (v := 116) hx hb dX6_readClause_96 (by decide) ?_
        refine lv_icmp_ne (tgt := 107) hx hb dX6_readClause_98 (by decide) (fun c_98 => ?_) (fun c_98 => ?_)
        · have h := ite_f c_98 h
          refine lv_ldc (v := 999999) hx hb hown (hts _ (wd_3 (w := .constant RX6 87 999999) (i := 118) (by decide +kernel) rfl)) dX6_readClause_107 ?_
          exact hJ_109 a1 ((999999 : Int32)) s6_41 H locs ls h hw (lv_sub hl [0, 1] rfl)
        · have h := ite_t c_98 h
          refine lv_sipush (v := 1000) hx hb dX6_readClause_101 (by decide) ?_
          refine lv_goto (tgt := 109) hx hb dX6_readClause_104 (by decide) ?_
          exact hJ_109 a1 ((1000 : Int32)) s6_41 H locs ls h hw (lv_sub hl [0, 1] rfl)
    · have h := ite_t c_50 h
      refine lv_aload_n hx hb dX6_readClause_53 rfl (lv_at hl 0 rfl) ?_
      refine lv_aload_n hx hb dX6_readClause_54 rfl (lv_at hl 0 rfl) ?_
      refine lv_bipush (v := 19) hx hb dX6_readClause_55 (by decide) ?_
      obtain ⟨q_57, h_57, h⟩ := bnd_e h
      have pg_57 := preG (av := [.ref (ad 6), .int ((19 : Int32))]) hK hw.1 hw.2.1 (NC_keep hN hw.2.2) NC_blind
      refine endI (mc := 0) (ms := 0) (va_runV (As := [.int ((19 : Int32))]) (rest := [.ref (ad 6)]) ⟨hx, hb, hml, hown, hts⟩ (m6_readTold l D ad cy H.size s0 s1 s2 s3 s4 s5 s6_41 s7 s8 s9 s10 ((19 : Int32)) q_57 h_57) (wX6_80 2 hts ⟨Nat.le_of_ble_eq_true rfl, Nat.le_of_ble_eq_true rfl⟩) ⟨pg_57.1, va_recv hK hw.1 (ci := 6) (q0 := 6) rfl eC_6, pg_57.2⟩ rfl rfl hl.1 rfl (lv_room (Nat.le_of_ble_eq_true rfl)) dX6_readClause_57 ⟨Nat.le_refl _, Nat.le_refl _⟩) hw.2.2 (afr_in hw.2.2) (fun H locs hw => ?_)
      obtain ⟨s6_60, e_60, h⟩ := nam_e h
      refine pX6_42 hx hb hts hown hK hw e_60 dX6_readClause_60 (fun H locs hw => ?_)
      refine lv_aload_n hx hb dX6_readClause_63 rfl (lv_at hl 0 rfl) ?_
      refine lv_bipush (v := 46) hx hb dX6_readClause_64 (by decide) ?_
      obtain ⟨q_66, h_66, h⟩ := bnd_e h
      have pg_66 := preG (av := [.ref (ad 6), .int ((46 : Int32))]) hK hw.1 hw.2.1 (NC_keep hN hw.2.2) NC_blind
      refine endV (mc := 0) (ms := 0) (va_runV (As := [.int ((46 : Int32))]) (rest := []) ⟨hx, hb, hml, hown, hts⟩ (m6_require l D ad cy H.size s0 s1 s2 s3 s4 s5 s6_60 s7 s8 s9 s10 ((46 : Int32)) q_66 h_66) (wX6_83 1 hts ⟨Nat.le_of_ble_eq_true rfl, Nat.le_of_ble_eq_true rfl⟩) ⟨pg_66.1, va_recv hK hw.1 (ci := 6) (q0 := 6) rfl eC_6, pg_66.2⟩ rfl rfl hl.1 rfl (lv_room (Nat.le_of_ble_eq_true rfl)) dX6_readClause_66 ⟨Nat.le_refl _, Nat.le_refl _⟩) hw.2.2 (afr_in hw.2.2) (fun H locs hw => ?_)
      refine lv_aload_n hx hb dX6_readClause_69 rfl (lv_at hl 0 rfl) ?_
      refine lv_aload_n hx hb dX6_readClause_70 rfl (lv_at hl 0 rfl) ?_
      refine lv_bipush (v := 11) hx hb dX6_readClause_71 (by decide) ?_
      obtain ⟨q_73, h_73, h⟩ := bnd_e h
      have pg_73 := preG (av := [.ref (ad 6), .int ((11 : Int32))]) hK hw.1 hw.2.1 (NC_keep hN hw.2.2) NC_blind
      refine endI (mc := 0) (ms := 0) (va_runV (As := [.int ((11 : Int32))]) (rest := [.ref (ad 6)]) ⟨hx, hb, hml, hown, hts⟩ (m6_readTold l D ad cy H.size s0 s1 s2 s3 s4 s5 q_66 s7 s8 s9 s10 ((11 : Int32)) q_73 h_73) (wX6_80 2 hts ⟨Nat.le_of_ble_eq_true rfl, Nat.le_of_ble_eq_true rfl⟩) ⟨pg_73.1, va_recv hK hw.1 (ci := 6) (q0 := 6) rfl eC_6, pg_73.2⟩ rfl rfl hl.1 rfl (lv_room (Nat.le_of_ble_eq_true rfl)) dX6_readClause_73 ⟨Nat.le_refl _, Nat.le_refl _⟩) hw.2.2 (afr_in hw.2.2) (fun H locs hw => ?_)
      obtain ⟨s6_76, e_76, h⟩ := nam_e h
      refine pX6_45 hx hb hts hown hK hw e_76 dX6_readClause_76 (fun H locs hw => ?_)
      refine lv_iconst (v := 0) hx hb dX6_readClause_79 (by decide) ?_
      have h := Option.some.inj h
      subst h
      rw [← hQ]
      exact retI hx hb hr hlk hw (narB (v := (0 : Int32)) (by decide)) dX6_readClause_80
  · have h := ite_t c_20 h
    refine lv_aload_n hx hb dX6_readClause_23 rfl (lv_at hl 0 rfl) ?_
    refine lv_iconst (v := 1) hx hb dX6_readClause_24 (by decide) ?_
    refine lv_aload_n hx hb dX6_readClause_25 rfl (lv_at hl 0 rfl) ?_
    refine gX6_27 hx hb hts hown hK hw dX6_readClause_26 ?_
    obtain ⟨q_29, h_29, h⟩ := bnd_e h
    have pg_29 := preG (av := [.ref (ad 6), .int ((1 : Int32)), .int ((s6_10.1 0 4))]) hK hw.1 hw.2.1 (NC_keep hN hw.2.2) NC_blind
    refine endV (mc := 0) (ms := 0) (va_runV (As := [.int ((1 : Int32)), .int ((s6_10.1 0 4))]) (rest := []) ⟨hx, hb, hml, hown, hts⟩ (m6_fail l D ad cy H.size s0 s1 s2 s3 s4 s5 s6_10 s7 s8 s9 s10 ((1 : Int32)) ((s6_10.1 0 4)) q_29 h_29) (wX6_72 0 hts ⟨Nat.le_of_ble_eq_true rfl, Nat.le_of_ble_eq_true rfl⟩) ⟨pg_29.1, va_recv hK hw.1 (ci := 6) (q0 := 6) rfl eC_6, pg_29.2⟩ rfl rfl hl.1 rfl (lv_room (Nat.le_of_ble_eq_true rfl)) dX6_readClause_29 ⟨Nat.le_refl _, Nat.le_refl _⟩) hw.2.2 (afr_in hw.2.2) (fun H locs hw => ?_)
    refine lv_iconst (v := 0) hx hb dX6_readClause_32 (by decide) ?_
    have h := Option.some.inj h
    subst h
    rw [← hQ]
    exact retI hx hb hr hlk hw (narB (v := (0 : Int32)) (by decide)) dX6_readClause_33
theorem dX6_turnTo_0 : decode cX6_turnTo 0 = .ok (.aload_n 0, 1) := by decide +kernel
theorem dX6_turnTo_1 : decode cX6_turnTo 1 = .ok (.iconst 0, 1) := by decide +kernel
theorem dX6_turnTo_2 : decode cX6_turnTo 2 = .ok (.putfield 23, 3) := by decide +kernel
theorem dX6_turnTo_5 : decode cX6_turnTo 5 = .ok (.iconst 0, 1) := by decide +kernel
theorem dX6_turnTo_6 : decode cX6_turnTo 6 = .ok (.istore 4, 2) := by decide +kernel
theorem dX6_turnTo_8 : decode cX6_turnTo 8 = .ok (.iload 4, 2) := by decide +kernel
theorem dX6_turnTo_10 : decode cX6_turnTo 10 = .ok (.iload_n 3, 1) := by decide +kernel
theorem dX6_turnTo_11 : decode cX6_turnTo 11 = .ok (.if_icmp .ge 58, 3) := by decide +kernel
theorem dX6_turnTo_14 : decode cX6_turnTo 14 = .ok (.iload 4, 2) := by decide +kernel
theorem dX6_turnTo_16 : decode cX6_turnTo 16 = .ok (.sipush 160, 3) := by decide +kernel
theorem dX6_turnTo_19 : decode cX6_turnTo 19 = .ok (.if_icmp .ge 50, 3) := by decide +kernel
theorem dX6_turnTo_22 : decode cX6_turnTo 22 = .ok (.iload_n 2, 1) := by decide +kernel
theorem dX6_turnTo_23 : decode cX6_turnTo 23 = .ok (.iload 4, 2) := by decide +kernel
theorem dX6_turnTo_25 : decode cX6_turnTo 25 = .ok (.iadd, 1) := by decide +kernel
theorem dX6_turnTo_26 : decode cX6_turnTo 26 = .ok (.istore 5, 2) := by decide +kernel
theorem dX6_turnTo_28 : decode cX6_turnTo 28 = .ok (.aload_n 1, 1) := by decide +kernel
theorem dX6_turnTo_29 : decode cX6_turnTo 29 = .ok (.ifnull 34, 3) := by decide +kernel
theorem dX6_turnTo_32 : decode cX6_turnTo 32 = .ok (.iload 5, 2) := by decide +kernel
theorem dX6_turnTo_34 : decode cX6_turnTo 34 = .ok (.ifCond .lt 29, 3) := by decide +kernel
theorem dX6_turnTo_37 : decode cX6_turnTo 37 = .ok (.iload 5, 2) := by decide +kernel
theorem dX6_turnTo_39 : decode cX6_turnTo 39 = .ok (.aload_n 1, 1) := by decide +kernel
theorem dX6_turnTo_40 : decode cX6_turnTo 40 = .ok (.arraylength, 1) := by decide +kernel
theorem dX6_turnTo_41 : decode cX6_turnTo 41 = .ok (.if_icmp .ge 22, 3) := by decide +kernel
theorem dX6_turnTo_44 : decode cX6_turnTo 44 = .ok (.aload_n 0, 1) := by decide +kernel
theorem dX6_turnTo_45 : decode cX6_turnTo 45 = .ok (.getfield 11, 3) := by decide +kernel
theorem dX6_turnTo_48 : decode cX6_turnTo 48 = .ok (.iload 4, 2) := by decide +kernel
theorem dX6_turnTo_50 : decode cX6_turnTo 50 = .ok (.aload_n 1, 1) := by decide +kernel
theorem dX6_turnTo_51 : decode cX6_turnTo 51 = .ok (.iload 5, 2) := by decide +kernel
theorem dX6_turnTo_53 : decode cX6_turnTo 53 = .ok (.caload, 1) := by decide +kernel
theorem dX6_turnTo_54 : decode cX6_turnTo 54 = .ok (.castore, 1) := by decide +kernel
theorem dX6_turnTo_55 : decode cX6_turnTo 55 = .ok (.aload_n 0, 1) := by decide +kernel
theorem dX6_turnTo_56 : decode cX6_turnTo 56 = .ok (.iload 4, 2) := by decide +kernel
theorem dX6_turnTo_58 : decode cX6_turnTo 58 = .ok (.iconst 1, 1) := by decide +kernel
theorem dX6_turnTo_59 : decode cX6_turnTo 59 = .ok (.iadd, 1) := by decide +kernel
theorem dX6_turnTo_60 : decode cX6_turnTo 60 = .ok (.putfield 23, 3) := by decide +kernel
theorem dX6_turnTo_63 : decode cX6_turnTo 63 = .ok (.iinc 4 1, 3) := by decide +kernel
theorem dX6_turnTo_66 : decode cX6_turnTo 66 = .ok (.goto (-58), 3) := by decide +kernel
theorem dX6_turnTo_69 : decode cX6_turnTo 69 = .ok (.aload_n 0, 1) := by decide +kernel
theorem dX6_turnTo_70 : decode cX6_turnTo 70 = .ok (.iconst 0, 1) := by decide +kernel
theorem dX6_turnTo_71 : decode cX6_turnTo 71 = .ok (.putfield 27, 3) := by decide +kernel
theorem dX6_turnTo_74 : decode cX6_turnTo 74 = .ok (.aload_n 0, 1) := by decide +kernel
theorem dX6_turnTo_75 : decode cX6_turnTo 75 = .ok (.iconst 0, 1) := by decide +kernel
theorem dX6_turnTo_76 : decode cX6_turnTo 76 = .ok (.putfield 33, 3) := by decide +kernel
theorem dX6_turnTo_79 : decode cX6_turnTo 79 = .ok (.return_, 1) := by decide +kernel
noncomputable def f6_turnTo_j69 (s6_j69 : OS) (s5_j69 : OS) : Option (OS) := nm (wI s6_j69 0 4 ((0 : Int32))) fun s6_71 => nm (wI s6_71 0 6 ((0 : Int32))) fun s6_76 => some s6_76
noncomputable def f6_turnTo_j63 (v2_j63 : Int32) (v3_j63 : Int32) (v4_j63 : Int32) (s6_j63 : OS) (s5_j63 : OS) : Option ((Int32 × OS) ⊕ (OS)) := nm (v4_j63 + (1 : Int32)) fun n_63 => some (Sum.inl (n_63, s6_j63))
noncomputable def f6_turnTo_l8 (v2_i8 : Int32) (v3_i8 : Int32) (s5_i8 : OS) : Int32 × OS → Option ((Int32 × OS) ⊕ (OS)) := fun t_8 => if v3_i8 ≤ t_8.1 then (Option.map Sum.inr (f6_turnTo_j69 t_8.2 s5_i8)) else (if (160 : Int32) ≤ t_8.1 then (Option.map Sum.inr (f6_turnTo_j69 t_8.2 s5_i8)) else (nm ((v2_i8 + t_8.1)) fun n_26 => if n_26 < 0 then (f6_turnTo_j63 v2_i8 v3_i8 t_8.1 t_8.2 s5_i8) else (if (3200 : Int32) ≤ n_26 then (f6_turnTo_j63 v2_i8 v3_i8 t_8.1 t_8.2 s5_i8) else (chk (inb n_26 3200) (nm (s5_i8.1 1 n_26.toNatClampNeg) fun y_53 => chk (inb t_8.1 160) (nm (wI t_8.2 1 t_8.1.toNatClampNeg (vp_nar .char y_53)) fun s6_54 => nm (wI s6_54 0 3 ((t_8.1 + (1 : Int32)))) fun s6_60 => f6_turnTo_j63 v2_i8 v3_i8 t_8.1 s6_60 s5_i8))))))
noncomputable def f6_turnTo (a2 : Int32) (a3 : Int32) (s5 : OS) (s6 : OS) : Option (OS) := nm (wI s6 0 3 ((0 : Int32))) fun s6_2 => loop (f6_turnTo_l8 a2 a3 s5) ((0 : Int32), s6_2)
set_option maxHeartbeats 4000000 in
set_option maxRecDepth 100000 in
theorem m6_turnTo (l : Launch) (D : va_G) (ad : Nat → Nat) (cy : Nat → ClassId) (sz : Nat) (s0 s1 s2 s3 s4 s5 s6 s7 s8 s9 s10 : OS) (a2 : Int32) (a3 : Int32) (r : OS) (h : f6_turnTo a2 a3 s5 s6 = some r) : Met l yX6_turnTo (wsOf yX6_turnTo cX6_turnTo 6 none) (rmL 0) (va_Pc ([.ref (ad 6), .ref (ad 45), .int a2, .int a3] : List Value) (PreG D cy (cellsC ad cy s0 s1 s2 s3 s4 s5 s6 s7 s8 s9 s10) sz (NC ad))) (QcV D ad 67 (cellsC ad cy s0 s1 s2 s3 s4 s5 r s7 s8 s9 s10) sz) 0 0 (Afr ad 67 sz) := by
  refine metG (own := RX6) (by decide) rfl (Nat.le_of_ble_eq_true rfl) fstC ?_ sz
  intro p e s m below meth c ls C0 hw hl
  obtain ⟨hx, hb, hml, hown, hts, hr, hlk, hK, hN⟩ := C0
  have hl : lv_has ls 6 [(0, .ref (ad 6)), (1, .ref (ad 45)), (2, .int a2), (3, .int a3)] := hl
  generalize hQ : MQ below (QcV D ad 67 (cellsC ad cy s0 s1 s2 s3 s4 s5 r s7 s8 s9 s10) s.heap.size) ([.ref (ad 6), .ref (ad 45), .int a2, .int a3] : List Value).toArray s 0 0 (Afr ad 67 s.heap.size) = Q
  obtain ⟨H, hH⟩ : ∃ H : Heap, H = s.heap := ⟨_, rfl⟩
  obtain ⟨locs, hlc⟩ : ∃ L : List Loc, L = [] := ⟨_, rfl⟩
  have hw : Wd D (cellsC ad cy s0 s1 s2 s3 s4 s5 s6 s7 s8 s9 s10) (Afr ad 67 s.heap.size) s.heap H locs := by rw [hH, hlc]; exact hw
  suffices h0 : W p l e (rmL 0) s m ([.ref (ad 6), .ref (ad 45), .int a2, .int a3] : List Value).toArray below meth c H locs 0 0 Q (F0 m 0 ls []) by rw [hH, hlc] at h0; exact h0
  clear hH hlc
  unfold f6_turnTo at h
  have hJ_69 : ∀ (s6_j69 : OS) (H : Heap) (locs : List Loc) (ls : Array Slot), f6_turnTo_j69 s6_j69 s5 = some r → Wd D (cellsC ad cy s0 s1 s2 s3 s4 s5 s6_j69 s7 s8 s9 s10) (Afr ad 67 s.heap.size) s.heap H locs → lv_has ls 6 [(0, .ref (ad 6))] → W p l e (rmL 0) s m ([.ref (ad 6), .ref (ad 45), .int a2, .int a3] : List Value).toArray below meth c H locs 0 0 Q (F0 m 69 ls []) := by
    intro s6_j69 H locs ls h hw hl
    unfold f6_turnTo_j69 at h
    refine lv_aload_n hx hb dX6_turnTo_69 rfl (lv_at hl 0 rfl) ?_
    refine lv_iconst (v := 0) hx hb dX6_turnTo_70 (by decide) ?_
    obtain ⟨s6_71, e_71, h⟩ := nam_e h
    refine pX6_27 hx hb hts hown hK hw e_71 dX6_turnTo_71 (fun H locs hw => ?_)
    refine lv_aload_n hx hb dX6_turnTo_74 rfl (lv_at hl 0 rfl) ?_
    refine lv_iconst (v := 0) hx hb dX6_turnTo_75 (by decide) ?_
    obtain ⟨s6_76, e_76, h⟩ := nam_e h
    refine pX6_33 hx hb hts hown hK hw e_76 dX6_turnTo_76 (fun H locs hw => ?_)
    have h := Option.some.inj h
    subst h
    rw [← hQ]
    exact retV hx hb hr hlk hw dX6_turnTo_79
  refine lv_aload_n hx hb dX6_turnTo_0 rfl (lv_at hl 0 rfl) ?_
  refine lv_iconst (v := 0) hx hb dX6_turnTo_1 (by decide) ?_
  obtain ⟨s6_2, e_2, h⟩ := nam_e h
  refine pX6_23 hx hb hts hown hK hw e_2 dX6_turnTo_2 (fun H locs hw => ?_)
  refine lv_iconst (v := 0) hx hb dX6_turnTo_5 (by decide) ?_
  refine lv_istore (lv' := [(4, .int ((0 : Int32))), (0, .ref (ad 6)), (1, .ref (ad 45)), (2, .int a2), (3, .int a3)]) hx hb dX6_turnTo_6 hl (by decide) rfl (fun ls hl => ?_)
  obtain ⟨n_8, hn_8⟩ := loop_e h
  have hL_8 : ∀ (n : Nat) (t_8 : Int32 × OS) (H : Heap) (locs : List Loc) (ls : Array Slot), loopN (f6_turnTo_l8 a2 a3 s5) n t_8 = some r → Wd D (cellsC ad cy s0 s1 s2 s3 s4 s5 t_8.2 s7 s8 s9 s10) (Afr ad 67 s.heap.size) s.heap H locs → lv_has ls 6 [(4, .int t_8.1), (2, .int a2), (3, .int a3), (0, .ref (ad 6)), (1, .ref (ad 45))] → W p l e (rmL 0) s m ([.ref (ad 6), .ref (ad 45), .int a2, .int a3] : List Value).toArray below meth c H locs 0 0 Q (F0 m 8 ls []) := by
    intro n
    induction n with
    | zero => intro t_8 H locs ls hn; cases hn
    | succ n ih_8 =>
      intro t_8 H locs ls hn hw hl
      obtain ⟨x_8, h, hx_8⟩ := loopN_e hn
      unfold f6_turnTo_l8 at h
      have hJ_63 : ∀ (v4_j63 : Int32) (s6_j63 : OS) (H : Heap) (locs : List Loc) (ls : Array Slot), f6_turnTo_j63 a2 a3 v4_j63 s6_j63 s5 = some x_8 → Wd D (cellsC ad cy s0 s1 s2 s3 s4 s5 s6_j63 s7 s8 s9 s10) (Afr ad 67 s.heap.size) s.heap H locs → lv_has ls 6 [(0, .ref (ad 6)), (1, .ref (ad 45)), (2, .int a2), (3, .int a3), (4, .int v4_j63)] → W p l e (rmL 0) s m ([.ref (ad 6), .ref (ad 45), .int a2, .int a3] : List Value).toArray below meth c H locs 0 0 Q (F0 m 63 ls []) := by
        intro v4_j63 s6_j63 H locs ls h hw hl
        unfold f6_turnTo_j63 at h
        obtain ⟨n_63, e_63, h⟩ := nam_e h
        refine lv_iinc (v := n_63) (lv' := [(4, .int n_63), (0, .ref (ad 6)), (1, .ref (ad 45)), (2, .int a2), (3, .int a3)]) hx hb dX6_turnTo_63 hl (k := 4) rfl (by rw [e_63]; rfl) (by decide) rfl (fun ls hl => ?_)
        refine lv_goto (tgt := 8) hx hb dX6_turnTo_66 (by decide) ?_
        exact ih_8 (n_63, s6_j63) H locs ls (nx_l hx_8 h) hw (lv_sub hl [0, 3, 4, 1, 2] rfl)
      refine lv_iload hx hb dX6_turnTo_8 (lv_at hl 0 rfl) ?_
      refine lv_iload_n hx hb dX6_turnTo_10 rfl (lv_at hl 2 rfl) ?_
      refine lv_icmp_ge (tgt := 69) hx hb dX6_turnTo_11 (by decide) (fun c_11 => ?_) (fun c_11 => ?_)
      · have h := ite_t c_11 h
        have h := nx_m hx_8 h
        exact hJ_69 t_8.2 H locs ls h hw (lv_sub hl [3] rfl)
      · have h := ite_f c_11 h
        refine lv_iload hx hb dX6_turnTo_14 (lv_at hl 0 rfl) ?_
        refine lv_sipush (v := 160) hx hb dX6_turnTo_16 (by decide) ?_
        refine lv_icmp_ge (tgt := 69) hx hb dX6_turnTo_19 (by decide) (fun c_19 => ?_) (fun c_19 => ?_)
        · have h := ite_t c_19 h
          have h := nx_m hx_8 h
          exact hJ_69 t_8.2 H locs ls h hw (lv_sub hl [3] rfl)
        · have h := ite_f c_19 h
          refine lv_iload_n hx hb dX6_turnTo_22 rfl (lv_at hl 1 rfl) ?_
          refine lv_iload hx hb dX6_turnTo_23 (lv_at hl 0 rfl) ?_
          refine lv_iadd hx hb dX6_turnTo_25 ?_
          obtain ⟨n_26, e_26, h⟩ := nam_e h
          refine topI e_26 ?_
          refine lv_istore (lv' := [(5, .int n_26), (4, .int t_8.1), (2, .int a2), (3, .int a3), (0, .ref (ad 6)), (1, .ref (ad 45))]) hx hb dX6_turnTo_26 hl (by decide) rfl (fun ls hl => ?_)
          refine lv_aload_n hx hb dX6_turnTo_28 rfl (lv_at hl 5 rfl) ?_
          refine lv_ifnull hx hb dX6_turnTo_29 ?_
          refine lv_iload hx hb dX6_turnTo_32 (lv_at hl 0 rfl) ?_
          refine lv_if_lt (tgt := 63) hx hb dX6_turnTo_34 (by decide) (fun c_34 => ?_) (fun c_34 => ?_)
          · have h := ite_t c_34 h
            exact hJ_63 t_8.1 t_8.2 H locs ls h hw (lv_sub hl [4, 5, 2, 3, 1] rfl)
          · have h := ite_f c_34 h
            refine lv_iload hx hb dX6_turnTo_37 (lv_at hl 0 rfl) ?_
            refine lv_aload_n hx hb dX6_turnTo_39 rfl (lv_at hl 5 rfl) ?_
            refine va_alen (v := 3200) hx hb hK hw.1 45 3 eC_45 rfl rfl dX6_turnTo_40 ?_
            refine lv_icmp_ge (tgt := 63) hx hb dX6_turnTo_41 (by decide) (fun c_41 => ?_) (fun c_41 => ?_)
            · have h := ite_t c_41 h
              exact hJ_63 t_8.1 t_8.2 H locs ls h hw (lv_sub hl [4, 5, 2, 3, 1] rfl)
            · have h := ite_f c_41 h
              refine lv_aload_n hx hb dX6_turnTo_44 rfl (lv_at hl 4 rfl) ?_
              refine gX6_11 hx hb hts hown hK hw dX6_turnTo_45 ?_
              refine lv_iload hx hb dX6_turnTo_48 (lv_at hl 1 rfl) ?_
              refine lv_aload_n hx hb dX6_turnTo_50 rfl (lv_at hl 5 rfl) ?_
              refine lv_iload hx hb dX6_turnTo_51 (lv_at hl 0 rfl) ?_
              obtain ⟨hi_53, h⟩ := chk_e h
              obtain ⟨y_53, e_53, h⟩ := nam_e h
              refine lC45 hx hb hK hw hi_53 e_53 dX6_turnTo_53 ?_
              obtain ⟨hi_54, h⟩ := chk_e h
              obtain ⟨s6_54, e_54, h⟩ := nam_e h
              refine aC52 hx hb hK hw hi_54 e_54 dX6_turnTo_54 (fun H locs hw => ?_)
              refine lv_aload_n hx hb dX6_turnTo_55 rfl (lv_at hl 4 rfl) ?_
              refine lv_iload hx hb dX6_turnTo_56 (lv_at hl 1 rfl) ?_
              refine lv_iconst (v := 1) hx hb dX6_turnTo_58 (by decide) ?_
              refine lv_iadd hx hb dX6_turnTo_59 ?_
              obtain ⟨s6_60, e_60, h⟩ := nam_e h
              refine pX6_23 hx hb hts hown hK hw e_60 dX6_turnTo_60 (fun H locs hw => ?_)
              exact hJ_63 t_8.1 s6_60 H locs ls h hw (lv_sub hl [4, 5, 2, 3, 1] rfl)
  exact hL_8 n_8 ((0 : Int32), s6_2) H locs ls hn_8 hw (lv_sub hl [0, 3, 4, 1, 2] rfl)
theorem dX6_clauseCount_0 : decode cX6_clauseCount 0 = .ok (.aload_n 0, 1) := by decide +kernel
theorem dX6_clauseCount_1 : decode cX6_clauseCount 1 = .ok (.getfield 30, 3) := by decide +kernel
theorem dX6_clauseCount_4 : decode cX6_clauseCount 4 = .ok (.ireturn, 1) := by decide +kernel
def f6_clauseCount (s6 : OS) : Option (Int32) := some ((s6.1 0 5))
set_option maxHeartbeats 4000000 in
set_option maxRecDepth 100000 in
theorem m6_clauseCount (l : Launch) (D : va_G) (ad : Nat → Nat) (cy : Nat → ClassId) (sz : Nat) (s0 s1 s2 s3 s4 s5 s6 s7 s8 s9 s10 : OS) (r : Int32) (h : f6_clauseCount s6 = some r) : Met l yX6_clauseCount (wsOf yX6_clauseCount cX6_clauseCount 1 (some .int)) (rmL 0) (va_Pc ([.ref (ad 6)] : List Value) (PreG D cy (cellsC ad cy s0 s1 s2 s3 s4 s5 s6 s7 s8 s9 s10) sz (NC ad))) (QcI D ad 67 (cellsC ad cy s0 s1 s2 s3 s4 s5 s6 s7 s8 s9 s10) (r) sz) 0 0 (Afr ad 67 sz) := by
  refine metG (own := RX6) (by decide) rfl (Nat.le_of_ble_eq_true rfl) fstC ?_ sz
  intro p e s m below meth c ls C0 hw hl
  obtain ⟨hx, hb, hml, hown, hts, hr, hlk, hK, hN⟩ := C0
  have hl : lv_has ls 1 [(0, .ref (ad 6))] := hl
  generalize hQ : MQ below (QcI D ad 67 (cellsC ad cy s0 s1 s2 s3 s4 s5 s6 s7 s8 s9 s10) (r) s.heap.size) ([.ref (ad 6)] : List Value).toArray s 0 0 (Afr ad 67 s.heap.size) = Q
  obtain ⟨H, hH⟩ : ∃ H : Heap, H = s.heap := ⟨_, rfl⟩
  obtain ⟨locs, hlc⟩ : ∃ L : List Loc, L = [] := ⟨_, rfl⟩
  have hw : Wd D (cellsC ad cy s0 s1 s2 s3 s4 s5 s6 s7 s8 s9 s10) (Afr ad 67 s.heap.size) s.heap H locs := by rw [hH, hlc]; exact hw
  suffices h0 : W p l e (rmL 0) s m ([.ref (ad 6)] : List Value).toArray below meth c H locs 0 0 Q (F0 m 0 ls []) by rw [hH, hlc] at h0; exact h0
  clear hH hlc
  unfold f6_clauseCount at h
  refine lv_aload_n hx hb dX6_clauseCount_0 rfl (lv_at hl 0 rfl) ?_
  refine gX6_30 hx hb hts hown hK hw dX6_clauseCount_1 ?_
  have h := Option.some.inj h
  subst h
  rw [← hQ]
  exact retI hx hb hr hlk hw rfl dX6_clauseCount_4
theorem dX6_faultAnswer_0 : decode cX6_faultAnswer 0 = .ok (.sipush (-1000), 3) := by decide +kernel
theorem dX6_faultAnswer_3 : decode cX6_faultAnswer 3 = .ok (.aload_n 0, 1) := by decide +kernel
theorem dX6_faultAnswer_4 : decode cX6_faultAnswer 4 = .ok (.getfield 33, 3) := by decide +kernel
theorem dX6_faultAnswer_7 : decode cX6_faultAnswer 7 = .ok (.imul, 1) := by decide +kernel
theorem dX6_faultAnswer_8 : decode cX6_faultAnswer 8 = .ok (.aload_n 0, 1) := by decide +kernel
theorem dX6_faultAnswer_9 : decode cX6_faultAnswer 9 = .ok (.getfield 36, 3) := by decide +kernel
theorem dX6_faultAnswer_12 : decode cX6_faultAnswer 12 = .ok (.isub, 1) := by decide +kernel
theorem dX6_faultAnswer_13 : decode cX6_faultAnswer 13 = .ok (.ireturn, 1) := by decide +kernel
def f6_faultAnswer (s6 : OS) : Option (Int32) := some ((((-1000 : Int32) * (s6.1 0 6)) - (s6.1 0 7)))
set_option maxHeartbeats 4000000 in
set_option maxRecDepth 100000 in
theorem m6_faultAnswer (l : Launch) (D : va_G) (ad : Nat → Nat) (cy : Nat → ClassId) (sz : Nat) (s0 s1 s2 s3 s4 s5 s6 s7 s8 s9 s10 : OS) (r : Int32) (h : f6_faultAnswer s6 = some r) : Met l yX6_faultAnswer (wsOf yX6_faultAnswer cX6_faultAnswer 1 (some .int)) (rmL 0) (va_Pc ([.ref (ad 6)] : List Value) (PreG D cy (cellsC ad cy s0 s1 s2 s3 s4 s5 s6 s7 s8 s9 s10) sz (NC ad))) (QcI D ad 67 (cellsC ad cy s0 s1 s2 s3 s4 s5 s6 s7 s8 s9 s10) (r) sz) 0 0 (Afr ad 67 sz) := by
  refine metG (own := RX6) (by decide) rfl (Nat.le_of_ble_eq_true rfl) fstC ?_ sz
  intro p e s m below meth c ls C0 hw hl
  obtain ⟨hx, hb, hml, hown, hts, hr, hlk, hK, hN⟩ := C0
  have hl : lv_has ls 1 [(0, .ref (ad 6))] := hl
  generalize hQ : MQ below (QcI D ad 67 (cellsC ad cy s0 s1 s2 s3 s4 s5 s6 s7 s8 s9 s10) (r) s.heap.size) ([.ref (ad 6)] : List Value).toArray s 0 0 (Afr ad 67 s.heap.size) = Q
  obtain ⟨H, hH⟩ : ∃ H : Heap, H = s.heap := ⟨_, rfl⟩
  obtain ⟨locs, hlc⟩ : ∃ L : List Loc, L = [] := ⟨_, rfl⟩
  have hw : Wd D (cellsC ad cy s0 s1 s2 s3 s4 s5 s6 s7 s8 s9 s10) (Afr ad 67 s.heap.size) s.heap H locs := by rw [hH, hlc]; exact hw
  suffices h0 : W p l e (rmL 0) s m ([.ref (ad 6)] : List Value).toArray below meth c H locs 0 0 Q (F0 m 0 ls []) by rw [hH, hlc] at h0; exact h0
  clear hH hlc
  unfold f6_faultAnswer at h
  refine lv_sipush (v := (-1000)) hx hb dX6_faultAnswer_0 (by decide) ?_
  refine lv_aload_n hx hb dX6_faultAnswer_3 rfl (lv_at hl 0 rfl) ?_
  refine gX6_33 hx hb hts hown hK hw dX6_faultAnswer_4 ?_
  refine lv_imul hx hb dX6_faultAnswer_7 ?_
  refine lv_aload_n hx hb dX6_faultAnswer_8 rfl (lv_at hl 0 rfl) ?_
  refine gX6_36 hx hb hts hown hK hw dX6_faultAnswer_9 ?_
  refine lv_isub hx hb dX6_faultAnswer_12 ?_
  have h := Option.some.inj h
  subst h
  rw [← hQ]
  exact retI hx hb hr hlk hw rfl dX6_faultAnswer_13
theorem dX6_hasFault_0 : decode cX6_hasFault 0 = .ok (.aload_n 0, 1) := by decide +kernel
theorem dX6_hasFault_1 : decode cX6_hasFault 1 = .ok (.getfield 33, 3) := by decide +kernel
theorem dX6_hasFault_4 : decode cX6_hasFault 4 = .ok (.ifCond .eq 7, 3) := by decide +kernel
theorem dX6_hasFault_7 : decode cX6_hasFault 7 = .ok (.iconst 1, 1) := by decide +kernel
theorem dX6_hasFault_8 : decode cX6_hasFault 8 = .ok (.goto 4, 3) := by decide +kernel
theorem dX6_hasFault_11 : decode cX6_hasFault 11 = .ok (.iconst 0, 1) := by decide +kernel
theorem dX6_hasFault_12 : decode cX6_hasFault 12 = .ok (.ireturn, 1) := by decide +kernel
def f6_hasFault_j12 (k0_j12 : Int32) (s6_j12 : OS) : Option (Int32) := chk (isB k0_j12) (some k0_j12)
def f6_hasFault (s6 : OS) : Option (Int32) := if (s6.1 0 6) = 0 then (f6_hasFault_j12 ((0 : Int32)) s6) else (f6_hasFault_j12 ((1 : Int32)) s6)
set_option maxHeartbeats 4000000 in
set_option maxRecDepth 100000 in
theorem m6_hasFault (l : Launch) (D : va_G) (ad : Nat → Nat) (cy : Nat → ClassId) (sz : Nat) (s0 s1 s2 s3 s4 s5 s6 s7 s8 s9 s10 : OS) (r : Int32) (h : f6_hasFault s6 = some r) : Met l yX6_hasFault (wsOf yX6_hasFault cX6_hasFault 1 (some .boolean)) (rmL 0) (va_Pc ([.ref (ad 6)] : List Value) (PreG D cy (cellsC ad cy s0 s1 s2 s3 s4 s5 s6 s7 s8 s9 s10) sz (NC ad))) (QcI D ad 67 (cellsC ad cy s0 s1 s2 s3 s4 s5 s6 s7 s8 s9 s10) (r) sz) 0 0 (Afr ad 67 sz) := by
  refine metG (own := RX6) (by decide) rfl (Nat.le_of_ble_eq_true rfl) fstC ?_ sz
  intro p e s m below meth c ls C0 hw hl
  obtain ⟨hx, hb, hml, hown, hts, hr, hlk, hK, hN⟩ := C0
  have hl : lv_has ls 1 [(0, .ref (ad 6))] := hl
  generalize hQ : MQ below (QcI D ad 67 (cellsC ad cy s0 s1 s2 s3 s4 s5 s6 s7 s8 s9 s10) (r) s.heap.size) ([.ref (ad 6)] : List Value).toArray s 0 0 (Afr ad 67 s.heap.size) = Q
  obtain ⟨H, hH⟩ : ∃ H : Heap, H = s.heap := ⟨_, rfl⟩
  obtain ⟨locs, hlc⟩ : ∃ L : List Loc, L = [] := ⟨_, rfl⟩
  have hw : Wd D (cellsC ad cy s0 s1 s2 s3 s4 s5 s6 s7 s8 s9 s10) (Afr ad 67 s.heap.size) s.heap H locs := by rw [hH, hlc]; exact hw
  suffices h0 : W p l e (rmL 0) s m ([.ref (ad 6)] : List Value).toArray below meth c H locs 0 0 Q (F0 m 0 ls []) by rw [hH, hlc] at h0; exact h0
  clear hH hlc
  unfold f6_hasFault at h
  have hJ_12 : ∀ (k0_j12 : Int32) (H : Heap) (locs : List Loc) (ls : Array Slot), f6_hasFault_j12 k0_j12 s6 = some r → Wd D (cellsC ad cy s0 s1 s2 s3 s4 s5 s6 s7 s8 s9 s10) (Afr ad 67 s.heap.size) s.heap H locs → lv_has ls 1 [] → W p l e (rmL 0) s m ([.ref (ad 6)] : List Value).toArray below meth c H locs 0 0 Q (F0 m 12 ls [.int k0_j12]) := by
    intro k0_j12 H locs ls h hw hl
    unfold f6_hasFault_j12 at h
    obtain ⟨hz_12, h⟩ := chk_e h
    have h := Option.some.inj h
    subst h
    rw [← hQ]
    exact retI hx hb hr hlk hw (narB hz_12) dX6_hasFault_12
  refine lv_aload_n hx hb dX6_hasFault_0 rfl (lv_at hl 0 rfl) ?_
  refine gX6_33 hx hb hts hown hK hw dX6_hasFault_1 ?_
  refine lv_if_eq (tgt := 11) hx hb dX6_hasFault_4 (by decide) (fun c_4 => ?_) (fun c_4 => ?_)
  · have h := ite_t c_4 h
    refine lv_iconst (v := 0) hx hb dX6_hasFault_11 (by decide) ?_
    exact hJ_12 ((0 : Int32)) H locs ls h hw (lv_sub hl [] rfl)
  · have h := ite_f c_4 h
    refine lv_iconst (v := 1) hx hb dX6_hasFault_7 (by decide) ?_
    refine lv_goto (tgt := 12) hx hb dX6_hasFault_8 (by decide) ?_
    exact hJ_12 ((1 : Int32)) H locs ls h hw (lv_sub hl [] rfl)
theorem dX6_startOf_0 : decode cX6_startOf 0 = .ok (.iload_n 1, 1) := by decide +kernel
theorem dX6_startOf_1 : decode cX6_startOf 1 = .ok (.ifCond .lt 18, 3) := by decide +kernel
theorem dX6_startOf_4 : decode cX6_startOf 4 = .ok (.iload_n 1, 1) := by decide +kernel
theorem dX6_startOf_5 : decode cX6_startOf 5 = .ok (.bipush 12, 2) := by decide +kernel
theorem dX6_startOf_7 : decode cX6_startOf 7 = .ok (.if_icmp .ge 12, 3) := by decide +kernel
theorem dX6_startOf_10 : decode cX6_startOf 10 = .ok (.aload_n 0, 1) := by decide +kernel
theorem dX6_startOf_11 : decode cX6_startOf 11 = .ok (.getfield 15, 3) := by decide +kernel
theorem dX6_startOf_14 : decode cX6_startOf 14 = .ok (.iload_n 1, 1) := by decide +kernel
theorem dX6_startOf_15 : decode cX6_startOf 15 = .ok (.iaload, 1) := by decide +kernel
theorem dX6_startOf_16 : decode cX6_startOf 16 = .ok (.goto 4, 3) := by decide +kernel
theorem dX6_startOf_19 : decode cX6_startOf 19 = .ok (.iconst 0, 1) := by decide +kernel
theorem dX6_startOf_20 : decode cX6_startOf 20 = .ok (.ireturn, 1) := by decide +kernel
def f6_startOf_j20 (k0_j20 : Int32) (s6_j20 : OS) : Option (Int32) := some k0_j20
def f6_startOf_j19 (s6_j19 : OS) : Option (Int32) := f6_startOf_j20 ((0 : Int32)) s6_j19
def f6_startOf (a1 : Int32) (s6 : OS) : Option (Int32) := if a1 < 0 then (f6_startOf_j19 s6) else (if (12 : Int32) ≤ a1 then (f6_startOf_j19 s6) else (chk (inb a1 12) (nm (s6.1 2 a1.toNatClampNeg) fun y_15 => f6_startOf_j20 y_15 s6)))
set_option maxHeartbeats 4000000 in
set_option maxRecDepth 100000 in
theorem m6_startOf (l : Launch) (D : va_G) (ad : Nat → Nat) (cy : Nat → ClassId) (sz : Nat) (s0 s1 s2 s3 s4 s5 s6 s7 s8 s9 s10 : OS) (a1 : Int32) (r : Int32) (h : f6_startOf a1 s6 = some r) : Met l yX6_startOf (wsOf yX6_startOf cX6_startOf 2 (some .int)) (rmL 0) (va_Pc ([.ref (ad 6), .int a1] : List Value) (PreG D cy (cellsC ad cy s0 s1 s2 s3 s4 s5 s6 s7 s8 s9 s10) sz (NC ad))) (QcI D ad 67 (cellsC ad cy s0 s1 s2 s3 s4 s5 s6 s7 s8 s9 s10) (r) sz) 0 0 (Afr ad 67 sz) := by
  refine metG (own := RX6) (by decide) rfl (Nat.le_of_ble_eq_true rfl) fstC ?_ sz
  intro p e s m below meth c ls C0 hw hl
  obtain ⟨hx, hb, hml, hown, hts, hr, hlk, hK, hN⟩ := C0
  have hl : lv_has ls 2 [(0, .ref (ad 6)), (1, .int a1)] := hl
  generalize hQ : MQ below (QcI D ad 67 (cellsC ad cy s0 s1 s2 s3 s4 s5 s6 s7 s8 s9 s10) (r) s.heap.size) ([.ref (ad 6), .int a1] : List Value).toArray s 0 0 (Afr ad 67 s.heap.size) = Q
  obtain ⟨H, hH⟩ : ∃ H : Heap, H = s.heap := ⟨_, rfl⟩
  obtain ⟨locs, hlc⟩ : ∃ L : List Loc, L = [] := ⟨_, rfl⟩
  have hw : Wd D (cellsC ad cy s0 s1 s2 s3 s4 s5 s6 s7 s8 s9 s10) (Afr ad 67 s.heap.size) s.heap H locs := by rw [hH, hlc]; exact hw
  suffices h0 : W p l e (rmL 0) s m ([.ref (ad 6), .int a1] : List Value).toArray below meth c H locs 0 0 Q (F0 m 0 ls []) by rw [hH, hlc] at h0; exact h0
  clear hH hlc
  unfold f6_startOf at h
  have hJ_20 : ∀ (k0_j20 : Int32) (H : Heap) (locs : List Loc) (ls : Array Slot), f6_startOf_j20 k0_j20 s6 = some r → Wd D (cellsC ad cy s0 s1 s2 s3 s4 s5 s6 s7 s8 s9 s10) (Afr ad 67 s.heap.size) s.heap H locs → lv_has ls 2 [] → W p l e (rmL 0) s m ([.ref (ad 6), .int a1] : List Value).toArray below meth c H locs 0 0 Q (F0 m 20 ls [.int k0_j20]) := by
    intro k0_j20 H locs ls h hw hl
    unfold f6_startOf_j20 at h
    have h := Option.some.inj h
    subst h
    rw [← hQ]
    exact retI hx hb hr hlk hw rfl dX6_startOf_20
  have hJ_19 : ∀  (H : Heap) (locs : List Loc) (ls : Array Slot), f6_startOf_j19 s6 = some r → Wd D (cellsC ad cy s0 s1 s2 s3 s4 s5 s6 s7 s8 s9 s10) (Afr ad 67 s.heap.size) s.heap H locs → lv_has ls 2 [] → W p l e (rmL 0) s m ([.ref (ad 6), .int a1] : List Value).toArray below meth c H locs 0 0 Q (F0 m 19 ls []) := by
    intro  H locs ls h hw hl
    unfold f6_startOf_j19 at h
    refine lv_iconst (v := 0) hx hb dX6_startOf_19 (by decide) ?_
    exact hJ_20 ((0 : Int32)) H locs ls h hw (lv_sub hl [] rfl)
  refine lv_iload_n hx hb dX6_startOf_0 rfl (lv_at hl 1 rfl) ?_
  refine lv_if_lt (tgt := 19) hx hb dX6_startOf_1 (by decide) (fun c_1 => ?_) (fun c_1 => ?_)
  · have h := ite_t c_1 h
    exact hJ_19  H locs ls h hw (lv_sub hl [] rfl)
  · have h := ite_f c_1 h
    refine lv_iload_n hx hb dX6_startOf_4 rfl (lv_at hl 1 rfl) ?_
    refine lv_bipush (v := 12) hx hb dX6_startOf_5 (by decide) ?_
    refine lv_icmp_ge (tgt := 19) hx hb dX6_startOf_7 (by decide) (fun c_7 => ?_) (fun c_7 => ?_)
    · have h := ite_t c_7 h
      exact hJ_19  H locs ls h hw (lv_sub hl [] rfl)
    · have h := ite_f c_7 h
      refine lv_aload_n hx hb dX6_startOf_10 rfl (lv_at hl 0 rfl) ?_
      refine gX6_15 hx hb hts hown hK hw dX6_startOf_11 ?_
      refine lv_iload_n hx hb dX6_startOf_14 rfl (lv_at hl 1 rfl) ?_
      obtain ⟨hi_15, h⟩ := chk_e h
      obtain ⟨y_15, e_15, h⟩ := nam_e h
      refine lC53 hx hb hK hw hi_15 e_15 dX6_startOf_15 ?_
      refine lv_goto (tgt := 20) hx hb dX6_startOf_16 (by decide) ?_
      exact hJ_20 y_15 H locs ls h hw (lv_sub hl [] rfl)
theorem dX6_survey_0 : decode cX6_survey 0 = .ok (.aload_n 0, 1) := by decide +kernel
theorem dX6_survey_1 : decode cX6_survey 1 = .ok (.iconst 0, 1) := by decide +kernel
theorem dX6_survey_2 : decode cX6_survey 2 = .ok (.putfield 30, 3) := by decide +kernel
theorem dX6_survey_5 : decode cX6_survey 5 = .ok (.iconst 1, 1) := by decide +kernel
theorem dX6_survey_6 : decode cX6_survey 6 = .ok (.istore_n 1, 1) := by decide +kernel
theorem dX6_survey_7 : decode cX6_survey 7 = .ok (.iconst 0, 1) := by decide +kernel
theorem dX6_survey_8 : decode cX6_survey 8 = .ok (.istore_n 2, 1) := by decide +kernel
theorem dX6_survey_9 : decode cX6_survey 9 = .ok (.iload_n 2, 1) := by decide +kernel
theorem dX6_survey_10 : decode cX6_survey 10 = .ok (.bipush 12, 2) := by decide +kernel
theorem dX6_survey_12 : decode cX6_survey 12 = .ok (.if_icmp .gt 83, 3) := by decide +kernel
theorem dX6_survey_15 : decode cX6_survey 15 = .ok (.iload_n 1, 1) := by decide +kernel
theorem dX6_survey_16 : decode cX6_survey 16 = .ok (.ifCond .eq 79, 3) := by decide +kernel
theorem dX6_survey_19 : decode cX6_survey 19 = .ok (.iload_n 2, 1) := by decide +kernel
theorem dX6_survey_20 : decode cX6_survey 20 = .ok (.bipush 12, 2) := by decide +kernel
theorem dX6_survey_22 : decode cX6_survey 22 = .ok (.if_icmp .ge 29, 3) := by decide +kernel
theorem dX6_survey_25 : decode cX6_survey 25 = .ok (.aload_n 0, 1) := by decide +kernel
theorem dX6_survey_26 : decode cX6_survey 26 = .ok (.getfield 15, 3) := by decide +kernel
theorem dX6_survey_29 : decode cX6_survey 29 = .ok (.iload_n 2, 1) := by decide +kernel
theorem dX6_survey_30 : decode cX6_survey 30 = .ok (.aload_n 0, 1) := by decide +kernel
theorem dX6_survey_31 : decode cX6_survey 31 = .ok (.getfield 27, 3) := by decide +kernel
theorem dX6_survey_34 : decode cX6_survey 34 = .ok (.iastore, 1) := by decide +kernel
theorem dX6_survey_35 : decode cX6_survey 35 = .ok (.aload_n 0, 1) := by decide +kernel
theorem dX6_survey_36 : decode cX6_survey 36 = .ok (.iload_n 2, 1) := by decide +kernel
theorem dX6_survey_37 : decode cX6_survey 37 = .ok (.iconst 1, 1) := by decide +kernel
theorem dX6_survey_38 : decode cX6_survey 38 = .ok (.iadd, 1) := by decide +kernel
theorem dX6_survey_39 : decode cX6_survey 39 = .ok (.putfield 30, 3) := by decide +kernel
theorem dX6_survey_42 : decode cX6_survey 42 = .ok (.aload_n 0, 1) := by decide +kernel
theorem dX6_survey_43 : decode cX6_survey 43 = .ok (.iconst 0, 1) := by decide +kernel
theorem dX6_survey_44 : decode cX6_survey 44 = .ok (.invokevirtual 60, 3) := by decide +kernel
theorem dX6_survey_47 : decode cX6_survey 47 = .ok (.pop, 1) := by decide +kernel
theorem dX6_survey_48 : decode cX6_survey 48 = .ok (.goto 34, 3) := by decide +kernel
theorem dX6_survey_51 : decode cX6_survey 51 = .ok (.aload_n 0, 1) := by decide +kernel
theorem dX6_survey_52 : decode cX6_survey 52 = .ok (.invokevirtual 64, 3) := by decide +kernel
theorem dX6_survey_55 : decode cX6_survey 55 = .ok (.invokestatic 68, 3) := by decide +kernel
theorem dX6_survey_58 : decode cX6_survey 58 = .ok (.ifCond .eq 15, 3) := by decide +kernel
theorem dX6_survey_61 : decode cX6_survey 61 = .ok (.aload_n 0, 1) := by decide +kernel
theorem dX6_survey_62 : decode cX6_survey 62 = .ok (.iconst 4, 1) := by decide +kernel
theorem dX6_survey_63 : decode cX6_survey 63 = .ok (.aload_n 0, 1) := by decide +kernel
theorem dX6_survey_64 : decode cX6_survey 64 = .ok (.getfield 27, 3) := by decide +kernel
theorem dX6_survey_67 : decode cX6_survey 67 = .ok (.invokevirtual 72, 3) := by decide +kernel
theorem dX6_survey_70 : decode cX6_survey 70 = .ok (.goto 12, 3) := by decide +kernel
theorem dX6_survey_73 : decode cX6_survey 73 = .ok (.aload_n 0, 1) := by decide +kernel
theorem dX6_survey_74 : decode cX6_survey 74 = .ok (.iconst 1, 1) := by decide +kernel
theorem dX6_survey_75 : decode cX6_survey 75 = .ok (.aload_n 0, 1) := by decide +kernel
theorem dX6_survey_76 : decode cX6_survey 76 = .ok (.getfield 27, 3) := by decide +kernel
theorem dX6_survey_79 : decode cX6_survey 79 = .ok (.invokevirtual 72, 3) := by decide +kernel
theorem dX6_survey_82 : decode cX6_survey 82 = .ok (.aload_n 0, 1) := by decide +kernel
theorem dX6_survey_83 : decode cX6_survey 83 = .ok (.bipush 59, 2) := by decide +kernel
theorem dX6_survey_85 : decode cX6_survey 85 = .ok (.invokevirtual 76, 3) := by decide +kernel
theorem dX6_survey_88 : decode cX6_survey 88 = .ok (.istore_n 1, 1) := by decide +kernel
theorem dX6_survey_89 : decode cX6_survey 89 = .ok (.iinc 2 1, 3) := by decide +kernel
theorem dX6_survey_92 : decode cX6_survey 92 = .ok (.goto (-83), 3) := by decide +kernel
theorem dX6_survey_95 : decode cX6_survey 95 = .ok (.aload_n 0, 1) := by decide +kernel
theorem dX6_survey_96 : decode cX6_survey 96 = .ok (.getfield 27, 3) := by decide +kernel
theorem dX6_survey_99 : decode cX6_survey 99 = .ok (.aload_n 0, 1) := by decide +kernel
theorem dX6_survey_100 : decode cX6_survey 100 = .ok (.getfield 23, 3) := by decide +kernel
theorem dX6_survey_103 : decode cX6_survey 103 = .ok (.if_icmp .ge 12, 3) := by decide +kernel
theorem dX6_survey_106 : decode cX6_survey 106 = .ok (.aload_n 0, 1) := by decide +kernel
theorem dX6_survey_107 : decode cX6_survey 107 = .ok (.iconst 1, 1) := by decide +kernel
theorem dX6_survey_108 : decode cX6_survey 108 = .ok (.aload_n 0, 1) := by decide +kernel
theorem dX6_survey_109 : decode cX6_survey 109 = .ok (.getfield 27, 3) := by decide +kernel
theorem dX6_survey_112 : decode cX6_survey 112 = .ok (.invokevirtual 72, 3) := by decide +kernel
theorem dX6_survey_115 : decode cX6_survey 115 = .ok (.return_, 1) := by decide +kernel
noncomputable def f6_survey_j115 (s6_j115 : OS) : Option (OS) := some s6_j115
noncomputable def f6_survey_j95 (s6_j95 : OS) : Option (OS) := if (s6_j95.1 0 3) ≤ (s6_j95.1 0 4) then (f6_survey_j115 s6_j95) else (Option.bind (f6_fail ((1 : Int32)) ((s6_j95.1 0 4)) s6_j95) fun q_112 => f6_survey_j115 q_112)
noncomputable def f6_survey_j82 (v2_j82 : Int32) (s6_j82 : OS) : Option ((Int32 × Int32 × OS) ⊕ (OS)) := Option.bind (f6_take ((59 : Int32)) s6_j82) fun q_85 => nm (v2_j82 + (1 : Int32)) fun n_89 => some (Sum.inl (q_85.1, n_89, q_85.2))
noncomputable def f6_survey_l9  : Int32 × Int32 × OS → Option ((Int32 × Int32 × OS) ⊕ (OS)) := fun t_9 => if (12 : Int32) < t_9.2.1 then (Option.map Sum.inr (f6_survey_j95 t_9.2.2)) else (if t_9.1 = 0 then (Option.map Sum.inr (f6_survey_j95 t_9.2.2)) else (if (12 : Int32) ≤ t_9.2.1 then (Option.bind (f6_sign t_9.2.2) fun q_52 => Option.bind (f6_isClauseLetter q_52) fun q_55 => if q_55 = 0 then (Option.bind (f6_fail ((1 : Int32)) ((t_9.2.2.1 0 4)) t_9.2.2) fun q_79 => f6_survey_j82 t_9.2.1 q_79) else (Option.bind (f6_fail ((4 : Int32)) ((t_9.2.2.1 0 4)) t_9.2.2) fun q_67 => f6_survey_j82 t_9.2.1 q_67)) else (chk (inb t_9.2.1 12) (nm (wI t_9.2.2 2 t_9.2.1.toNatClampNeg ((t_9.2.2.1 0 4))) fun s6_34 => nm (wI s6_34 0 5 ((t_9.2.1 + (1 : Int32)))) fun s6_39 => Option.bind (f6_readClause ((0 : Int32)) s6_39) fun q_44 => f6_survey_j82 t_9.2.1 q_44.2))))
noncomputable def f6_survey (s6 : OS) : Option (OS) := nm (wI s6 0 5 ((0 : Int32))) fun s6_2 => loop (f6_survey_l9) ((1 : Int32), (0 : Int32), s6_2)
set_option maxHeartbeats 4000000 in
set_option maxRecDepth 100000 in
theorem m6_survey (l : Launch) (D : va_G) (ad : Nat → Nat) (cy : Nat → ClassId) (sz : Nat) (s0 s1 s2 s3 s4 s5 s6 s7 s8 s9 s10 : OS) (r : OS) (h : f6_survey s6 = some r) : Met l yX6_survey (wsOf yX6_survey cX6_survey 3 none) (rmL 68) (va_Pc ([.ref (ad 6)] : List Value) (PreG D cy (cellsC ad cy s0 s1 s2 s3 s4 s5 s6 s7 s8 s9 s10) sz (NC ad))) (QcV D ad 67 (cellsC ad cy s0 s1 s2 s3 s4 s5 r s7 s8 s9 s10) sz) 0 0 (Afr ad 67 sz) := by
  refine metG (own := RX6) (by decide) rfl (Nat.le_of_ble_eq_true rfl) fstC ?_ sz
  intro p e s m below meth c ls C0 hw hl
  obtain ⟨hx, hb, hml, hown, hts, hr, hlk, hK, hN⟩ := C0
  have hl : lv_has ls 3 [(0, .ref (ad 6))] := hl
  generalize hQ : MQ below (QcV D ad 67 (cellsC ad cy s0 s1 s2 s3 s4 s5 r s7 s8 s9 s10) s.heap.size) ([.ref (ad 6)] : List Value).toArray s 0 0 (Afr ad 67 s.heap.size) = Q
  obtain ⟨H, hH⟩ : ∃ H : Heap, H = s.heap := ⟨_, rfl⟩
  obtain ⟨locs, hlc⟩ : ∃ L : List Loc, L = [] := ⟨_, rfl⟩
  have hw : Wd D (cellsC ad cy s0 s1 s2 s3 s4 s5 s6 s7 s8 s9 s10) (Afr ad 67 s.heap.size) s.heap H locs := by rw [hH, hlc]; exact hw
  suffices h0 : W p l e (rmL 68) s m ([.ref (ad 6)] : List Value).toArray below meth c H locs 0 0 Q (F0 m 0 ls []) by rw [hH, hlc] at h0; exact h0
  clear hH hlc
  unfold f6_survey at h
  have hJ_115 : ∀ (s6_j115 : OS) (H : Heap) (locs : List Loc) (ls : Array Slot), f6_survey_j115 s6_j115 = some r → Wd D (cellsC ad cy s0 s1 s2 s3 s4 s5 s6_j115 s7 s8 s9 s10) (Afr ad 67 s.heap.size) s.heap H locs → lv_has ls 3 [] → W p l e (rmL 68) s m ([.ref (ad 6)] : List Value).toArray below meth c H locs 0 0 Q (F0 m 115 ls []) := by
    intro s6_j115 H locs ls h hw hl
    unfold f6_survey_j115 at h
    have h := Option.some.inj h
    subst h
    rw [← hQ]
    exact retV hx hb hr hlk hw dX6_survey_115
  have hJ_95 : ∀ (s6_j95 : OS) (H : Heap) (locs : List Loc) (ls : Array Slot), f6_survey_j95 s6_j95 = some r → Wd D (cellsC ad cy s0 s1 s2 s3 s4 s5 s6_j95 s7 s8 s9 s10) (Afr ad 67 s.heap.size) s.heap H locs → lv_has ls 3 [(0, .ref (ad 6))] → W p l e (rmL 68) s m ([.ref (ad 6)] : List Value).toArray below meth c H locs 0 0 Q (F0 m 95 ls []) := by
    intro s6_j95 H locs ls h hw hl
    unfold f6_survey_j95 at h
    refine lv_aload_n hx hb dX6_survey_95 rfl (lv_at hl 0 rfl) ?_
    refine gX6_27 hx hb hts hown hK hw dX6_survey_96 ?_
    refine lv_aload_n hx hb dX6_survey_99 rfl (lv_at hl 0 rfl) ?_
    refine gX6_23 hx hb hts hown hK hw dX6_survey_100 ?_
    refine lv_icmp_ge (tgt := 115) hx hb dX6_survey_103 (by decide) (fun c_103 => ?_) (fun c_103 => ?_)
    · have h := ite_t c_103 h
      exact hJ_115 s6_j95 H locs ls h hw (lv_sub hl [] rfl)
    · have h := ite_f c_103 h
      refine lv_aload_n hx hb dX6_survey_106 rfl (lv_at hl 0 rfl) ?_
      refine lv_iconst (v := 1) hx hb dX6_survey_107 (by decide) ?_
      refine lv_aload_n hx hb dX6_survey_108 rfl (lv_at hl 0 rfl) ?_
      refine gX6_27 hx hb hts hown hK hw dX6_survey_109 ?_
      obtain ⟨q_112, h_112, h⟩ := bnd_e h
      have pg_112 := preG (av := [.ref (ad 6), .int ((1 : Int32)), .int ((s6_j95.1 0 4))]) hK hw.1 hw.2.1 (NC_keep hN hw.2.2) NC_blind
      refine endV (mc := 0) (ms := 0) (va_runV (As := [.int ((1 : Int32)), .int ((s6_j95.1 0 4))]) (rest := []) ⟨hx, hb, hml, hown, hts⟩ (m6_fail l D ad cy H.size s0 s1 s2 s3 s4 s5 s6_j95 s7 s8 s9 s10 ((1 : Int32)) ((s6_j95.1 0 4)) q_112 h_112) (wX6_72 0 hts ⟨Nat.le_of_ble_eq_true rfl, Nat.le_of_ble_eq_true rfl⟩) ⟨pg_112.1, va_recv hK hw.1 (ci := 6) (q0 := 6) rfl eC_6, pg_112.2⟩ rfl rfl hl.1 rfl (lv_room (Nat.le_of_ble_eq_true rfl)) dX6_survey_112 ⟨Nat.le_refl _, Nat.le_refl _⟩) hw.2.2 (afr_in hw.2.2) (fun H locs hw => ?_)
      exact hJ_115 q_112 H locs ls h hw (lv_sub hl [] rfl)
  refine lv_aload_n hx hb dX6_survey_0 rfl (lv_at hl 0 rfl) ?_
  refine lv_iconst (v := 0) hx hb dX6_survey_1 (by decide) ?_
  obtain ⟨s6_2, e_2, h⟩ := nam_e h
  refine pX6_30 hx hb hts hown hK hw e_2 dX6_survey_2 (fun H locs hw => ?_)
  refine lv_iconst (v := 1) hx hb dX6_survey_5 (by decide) ?_
  refine lv_istore_n (lv' := [(1, .int ((1 : Int32))), (0, .ref (ad 6))]) hx hb dX6_survey_6 rfl hl (by decide) rfl (fun ls hl => ?_)
  refine lv_iconst (v := 0) hx hb dX6_survey_7 (by decide) ?_
  refine lv_istore_n (lv' := [(2, .int ((0 : Int32))), (1, .int ((1 : Int32))), (0, .ref (ad 6))]) hx hb dX6_survey_8 rfl hl (by decide) rfl (fun ls hl => ?_)
  obtain ⟨n_9, hn_9⟩ := loop_e h
  have hL_9 : ∀ (n : Nat) (t_9 : Int32 × Int32 × OS) (H : Heap) (locs : List Loc) (ls : Array Slot), loopN (f6_survey_l9) n t_9 = some r → Wd D (cellsC ad cy s0 s1 s2 s3 s4 s5 t_9.2.2 s7 s8 s9 s10) (Afr ad 67 s.heap.size) s.heap H locs → lv_has ls 3 [(1, .int t_9.1), (2, .int t_9.2.1), (0, .ref (ad 6))] → W p l e (rmL 68) s m ([.ref (ad 6)] : List Value).toArray below meth c H locs 0 0 Q (F0 m 9 ls []) := by
    intro n
    induction n with
    | zero => intro t_9 H locs ls hn; cases hn
    | succ n ih_9 =>
      intro t_9 H locs ls hn hw hl
      obtain ⟨x_9, h, hx_9⟩ := loopN_e hn
      unfold f6_survey_l9 at h
      have hJ_82 : ∀ (v2_j82 : Int32) (s6_j82 : OS) (H : Heap) (locs : List Loc) (ls : Array Slot), f6_survey_j82 v2_j82 s6_j82 = some x_9 → Wd D (cellsC ad cy s0 s1 s2 s3 s4 s5 s6_j82 s7 s8 s9 s10) (Afr ad 67 s.heap.size) s.heap H locs → lv_has ls 3 [(0, .ref (ad 6)), (2, .int v2_j82)] → W p l e (rmL 68) s m ([.ref (ad 6)] : List Value).toArray below meth c H locs 0 0 Q (F0 m 82 ls []) := by
        intro v2_j82 s6_j82 H locs ls h hw hl
        unfold f6_survey_j82 at h
        refine lv_aload_n hx hb dX6_survey_82 rfl (lv_at hl 0 rfl) ?_
        refine lv_bipush (v := 59) hx hb dX6_survey_83 (by decide) ?_
        obtain ⟨q_85, h_85, h⟩ := bnd_e h
        have pg_85 := preG (av := [.ref (ad 6), .int ((59 : Int32))]) hK hw.1 hw.2.1 (NC_keep hN hw.2.2) NC_blind
        refine endI (mc := 0) (ms := 0) (va_runV (As := [.int ((59 : Int32))]) (rest := []) ⟨hx, hb, hml, hown, hts⟩ (m6_take l D ad cy H.size s0 s1 s2 s3 s4 s5 s6_j82 s7 s8 s9 s10 ((59 : Int32)) q_85 h_85) (wX6_76 1 hts ⟨Nat.le_of_ble_eq_true rfl, Nat.le_of_ble_eq_true rfl⟩) ⟨pg_85.1, va_recv hK hw.1 (ci := 6) (q0 := 6) rfl eC_6, pg_85.2⟩ rfl rfl hl.1 rfl (lv_room (Nat.le_of_ble_eq_true rfl)) dX6_survey_85 ⟨Nat.le_refl _, Nat.le_refl _⟩) hw.2.2 (afr_in hw.2.2) (fun H locs hw => ?_)
        refine lv_istore_n (lv' := [(1, .int q_85.1), (0, .ref (ad 6)), (2, .int v2_j82)]) hx hb dX6_survey_88 rfl hl (by decide) rfl (fun ls hl => ?_)
        obtain ⟨n_89, e_89, h⟩ := nam_e h
        refine lv_iinc (v := n_89) (lv' := [(2, .int n_89), (1, .int q_85.1), (0, .ref (ad 6))]) hx hb dX6_survey_89 hl (k := 2) rfl (by rw [e_89]; rfl) (by decide) rfl (fun ls hl => ?_)
        refine lv_goto (tgt := 9) hx hb dX6_survey_92 (by decide) ?_
        exact ih_9 (q_85.1, n_89, q_85.2) H locs ls (nx_l hx_9 h) hw (lv_sub hl [1, 0, 2] rfl)
      refine lv_iload_n hx hb dX6_survey_9 rfl (lv_at hl 1 rfl) ?_
      refine lv_bipush (v := 12) hx hb dX6_survey_10 (by decide) ?_
      refine lv_icmp_gt (tgt := 95) hx hb dX6_survey_12 (by decide) (fun c_12 => ?_) (fun c_12 => ?_)
      · have h := ite_t c_12 h
        have h := nx_m hx_9 h
        exact hJ_95 t_9.2.2 H locs ls h hw (lv_sub hl [2] rfl)
      · have h := ite_f c_12 h
        refine lv_iload_n hx hb dX6_survey_15 rfl (lv_at hl 0 rfl) ?_
        refine lv_if_eq (tgt := 95) hx hb dX6_survey_16 (by decide) (fun c_16 => ?_) (fun c_16 => ?_)
        · have h := ite_t c_16 h
          have h := nx_m hx_9 h
          exact hJ_95 t_9.2.2 H locs ls h hw (lv_sub hl [2] rfl)
        · have h := ite_f c_16 h
          refine lv_iload_n hx hb dX6_survey_19 rfl (lv_at hl 1 rfl) ?_
          refine lv_bipush (v := 12) hx hb dX6_survey_20 (by decide) ?_
          refine lv_icmp_ge (tgt := 51) hx hb dX6_survey_22 (by decide) (fun c_22 => ?_) (fun c_22 => ?_)
          · have h := ite_t c_22 h
            refine lv_aload_n hx hb dX6_survey_51 rfl (lv_at hl 2 rfl) ?_
            obtain ⟨q_52, h_52, h⟩ := bnd_e h
            have pg_52 := preG (av := [.ref (ad 6)]) hK hw.1 hw.2.1 (NC_keep hN hw.2.2) NC_blind
            refine endI (mc := 0) (ms := 0) (va_runV (As := []) (rest := []) ⟨hx, hb, hml, hown, hts⟩ (m6_sign l D ad cy H.size s0 s1 s2 s3 s4 s5 t_9.2.2 s7 s8 s9 s10 q_52 h_52) (wX6_64 0 hts ⟨Nat.le_of_ble_eq_true rfl, Nat.le_of_ble_eq_true rfl⟩) ⟨pg_52.1, va_recv hK hw.1 (ci := 6) (q0 := 6) rfl eC_6, pg_52.2⟩ rfl rfl hl.1 rfl (lv_room (Nat.le_of_ble_eq_true rfl)) dX6_survey_52 ⟨Nat.le_refl _, Nat.le_refl _⟩) hw.2.2 (afr_in hw.2.2) (fun H locs hw => ?_)
            obtain ⟨q_55, h_55, h⟩ := bnd_e h
            have pg_55 := preG (av := [.int q_52]) hK hw.1 hw.2.1 (NC_keep hN hw.2.2) NC_blind
            refine endI (mc := 0) (ms := 0) (va_runS (As := [.int q_52]) (rest := []) ⟨hx, hb, hml, hown, hts⟩ (m6_isClauseLetter l D ad cy H.size s0 s1 s2 s3 s4 s5 t_9.2.2 s7 s8 s9 s10 q_52 q_55 h_55) (wX6_68 0 hts ⟨Nat.le_of_ble_eq_true rfl, Nat.le_of_ble_eq_true rfl⟩) pg_55 rfl rfl hl.1 rfl (lv_room (Nat.le_of_ble_eq_true rfl)) dX6_survey_55 ⟨Nat.le_refl _, Nat.le_refl _⟩) hw.2.2 (afr_in hw.2.2) (fun H locs hw => ?_)
            refine lv_if_eq (tgt := 73) hx hb dX6_survey_58 (by decide) (fun c_58 => ?_) (fun c_58 => ?_)
            · have h := ite_t c_58 h
              refine lv_aload_n hx hb dX6_survey_73 rfl (lv_at hl 2 rfl) ?_
              refine lv_iconst (v := 1) hx hb dX6_survey_74 (by decide) ?_
              refine lv_aload_n hx hb dX6_survey_75 rfl (lv_at hl 2 rfl) ?_
              refine gX6_27 hx hb hts hown hK hw dX6_survey_76 ?_
              obtain ⟨q_79, h_79, h⟩ := bnd_e h
              have pg_79 := preG (av := [.ref (ad 6), .int ((1 : Int32)), .int ((t_9.2.2.1 0 4))]) hK hw.1 hw.2.1 (NC_keep hN hw.2.2) NC_blind
              refine endV (mc := 0) (ms := 0) (va_runV (As := [.int ((1 : Int32)), .int ((t_9.2.2.1 0 4))]) (rest := []) ⟨hx, hb, hml, hown, hts⟩ (m6_fail l D ad cy H.size s0 s1 s2 s3 s4 s5 t_9.2.2 s7 s8 s9 s10 ((1 : Int32)) ((t_9.2.2.1 0 4)) q_79 h_79) (wX6_72 0 hts ⟨Nat.le_of_ble_eq_true rfl, Nat.le_of_ble_eq_true rfl⟩) ⟨pg_79.1, va_recv hK hw.1 (ci := 6) (q0 := 6) rfl eC_6, pg_79.2⟩ rfl rfl hl.1 rfl (lv_room (Nat.le_of_ble_eq_true rfl)) dX6_survey_79 ⟨Nat.le_refl _, Nat.le_refl _⟩) hw.2.2 (afr_in hw.2.2) (fun H locs hw => ?_)
              exact hJ_82 t_9.2.1 q_79 H locs ls h hw (lv_sub hl [2, 1] rfl)
            · have h := ite_f c_58 h
              refine lv_aload_n hx hb dX6_survey_61 rfl (lv_at hl 2 rfl) ?_
              refine lv_iconst (v := 4) hx hb dX6_survey_62 (by decide) ?_
              refine lv_aload_n hx hb dX6_survey_63 rfl (lv_at hl 2 rfl) ?_
              refine gX6_27 hx hb hts hown hK hw dX6_survey_64 ?_
              obtain ⟨q_67, h_67, h⟩ := bnd_e h
              have pg_67 := preG (av := [.ref (ad 6), .int ((4 : Int32)), .int ((t_9.2.2.1 0 4))]) hK hw.1 hw.2.1 (NC_keep hN hw.2.2) NC_blind
              refine endV (mc := 0) (ms := 0) (va_runV (As := [.int ((4 : Int32)), .int ((t_9.2.2.1 0 4))]) (rest := []) ⟨hx, hb, hml, hown, hts⟩ (m6_fail l D ad cy H.size s0 s1 s2 s3 s4 s5 t_9.2.2 s7 s8 s9 s10 ((4 : Int32)) ((t_9.2.2.1 0 4)) q_67 h_67) (wX6_72 0 hts ⟨Nat.le_of_ble_eq_true rfl, Nat.le_of_ble_eq_true rfl⟩) ⟨pg_67.1, va_recv hK hw.1 (ci := 6) (q0 := 6) rfl eC_6, pg_67.2⟩ rfl rfl hl.1 rfl (lv_room (Nat.le_of_ble_eq_true rfl)) dX6_survey_67 ⟨Nat.le_refl _, Nat.le_refl _⟩) hw.2.2 (afr_in hw.2.2) (fun H locs hw => ?_)
              refine lv_goto (tgt := 82) hx hb dX6_survey_70 (by decide) ?_
              exact hJ_82 t_9.2.1 q_67 H locs ls h hw (lv_sub hl [2, 1] rfl)
          · have h := ite_f c_22 h
            refine lv_aload_n hx hb dX6_survey_25 rfl (lv_at hl 2 rfl) ?_
            refine gX6_15 hx hb hts hown hK hw dX6_survey_26 ?_
            refine lv_iload_n hx hb dX6_survey_29 rfl (lv_at hl 1 rfl) ?_
            refine lv_aload_n hx hb dX6_survey_30 rfl (lv_at hl 2 rfl) ?_
            refine gX6_27 hx hb hts hown hK hw dX6_survey_31 ?_
            obtain ⟨hi_34, h⟩ := chk_e h
            obtain ⟨s6_34, e_34, h⟩ := nam_e h
            refine aC53 hx hb hK hw hi_34 e_34 dX6_survey_34 (fun H locs hw => ?_)
            refine lv_aload_n hx hb dX6_survey_35 rfl (lv_at hl 2 rfl) ?_
            refine lv_iload_n hx hb dX6_survey_36 rfl (lv_at hl 1 rfl) ?_
            refine lv_iconst (v := 1) hx hb dX6_survey_37 (by decide) ?_
            refine lv_iadd hx hb dX6_survey_38 ?_
            obtain ⟨s6_39, e_39, h⟩ := nam_e h
            refine pX6_30 hx hb hts hown hK hw e_39 dX6_survey_39 (fun H locs hw => ?_)
            refine lv_aload_n hx hb dX6_survey_42 rfl (lv_at hl 2 rfl) ?_
            refine lv_iconst (v := 0) hx hb dX6_survey_43 (by decide) ?_
            obtain ⟨q_44, h_44, h⟩ := bnd_e h
            have pg_44 := preG (av := [.ref (ad 6), .int ((0 : Int32))]) hK hw.1 hw.2.1 (NC_keep hN hw.2.2) NC_blind
            refine endI (mc := 0) (ms := 0) (va_runV (As := [.int ((0 : Int32))]) (rest := []) ⟨hx, hb, hml, hown, hts⟩ (m6_readClause l D ad cy H.size s0 s1 s2 s3 s4 s5 s6_39 s7 s8 s9 s10 ((0 : Int32)) q_44 h_44) (wX6_60 67 hts ⟨Nat.le_of_ble_eq_true rfl, Nat.le_of_ble_eq_true rfl⟩) ⟨pg_44.1, va_recv hK hw.1 (ci := 6) (q0 := 6) rfl eC_6, pg_44.2⟩ rfl rfl hl.1 rfl (lv_room (Nat.le_of_ble_eq_true rfl)) dX6_survey_44 ⟨Nat.le_refl _, Nat.le_refl _⟩) hw.2.2 (afr_in hw.2.2) (fun H locs hw => ?_)
            refine lv_pop hx hb dX6_survey_47 rfl ?_
            refine lv_goto (tgt := 82) hx hb dX6_survey_48 (by decide) ?_
            exact hJ_82 t_9.2.1 q_44.2 H locs ls h hw (lv_sub hl [2, 1] rfl)
  exact hL_9 n_9 ((1 : Int32), (0 : Int32), s6_2) H locs ls hn_9 hw (lv_sub hl [1, 0, 2] rfl)
