theorem dX9_giftCount_0 : decode cX9_giftCount 0 = .ok (.aload_n 0, 1) := by decide +kernel
theorem dX9_giftCount_1 : decode cX9_giftCount 1 = .ok (.getfield 30, 3) := by decide +kernel
theorem dX9_giftCount_4 : decode cX9_giftCount 4 = .ok (.ireturn, 1) := by decide +kernel
def f9_giftCount (s9 : OS) : Option (Int32) := some ((s9.1 0 6))
set_option maxHeartbeats 4000000 in
set_option maxRecDepth 100000 in
theorem m9_giftCount (l : Launch) (D : va_G) (ad : Nat → Nat) (cy : Nat → ClassId) (sz : Nat) (s0 s1 s2 s3 s4 s5 s6 s7 s8 s9 s10 : OS) (r : Int32) (h : f9_giftCount s9 = some r) : Met l yX9_giftCount (wsOf yX9_giftCount cX9_giftCount 1 (some .int)) (rmL 0) (va_Pc ([.ref (ad 9)] : List Value) (PreG D cy (cellsC ad cy s0 s1 s2 s3 s4 s5 s6 s7 s8 s9 s10) sz (NC ad))) (QcI D ad 67 (cellsC ad cy s0 s1 s2 s3 s4 s5 s6 s7 s8 s9 s10) (r) sz) 0 0 (Afr ad 67 sz) := by
  refine metG (own := RX9) (by decide) rfl (Nat.le_of_ble_eq_true rfl) fstC ?_ sz
  intro p e s m below meth c ls C0 hw hl
  obtain ⟨hx, hb, hml, hown, hts, hr, hlk, hK, hN⟩ := C0
  have hl : lv_has ls 1 [(0, .ref (ad 9))] := hl
  generalize hQ : MQ below (QcI D ad 67 (cellsC ad cy s0 s1 s2 s3 s4 s5 s6 s7 s8 s9 s10) (r) s.heap.size) ([.ref (ad 9)] : List Value).toArray s 0 0 (Afr ad 67 s.heap.size) = Q
  obtain ⟨H, hH⟩ : ∃ H : Heap, H = s.heap := ⟨_, rfl⟩
  obtain ⟨locs, hlc⟩ : ∃ L : List Loc, L = [] := ⟨_, rfl⟩
  have hw : Wd D (cellsC ad cy s0 s1 s2 s3 s4 s5 s6 s7 s8 s9 s10) (Afr ad 67 s.heap.size) s.heap H locs := by rw [hH, hlc]; exact hw
  suffices h0 : W p l e (rmL 0) s m ([.ref (ad 9)] : List Value).toArray below meth c H locs 0 0 Q (F0 m 0 ls []) by rw [hH, hlc] at h0; exact h0
  clear hH hlc
  unfold f9_giftCount at h
  refine lv_aload_n hx hb dX9_giftCount_0 rfl (lv_at hl 0 rfl) ?_
  refine gX9_30 hx hb hts hown hK hw dX9_giftCount_1 ?_
  have h := Option.some.inj h
  subst h
  rw [← hQ]
  exact retI hx hb hr hlk hw rfl dX9_giftCount_4
theorem dX9_sightCount_0 : decode cX9_sightCount 0 = .ok (.aload_n 0, 1) := by decide +kernel
theorem dX9_sightCount_1 : decode cX9_sightCount 1 = .ok (.getfield 34, 3) := by decide +kernel
theorem dX9_sightCount_4 : decode cX9_sightCount 4 = .ok (.aload_n 0, 1) := by decide +kernel
theorem dX9_sightCount_5 : decode cX9_sightCount 5 = .ok (.getfield 30, 3) := by decide +kernel
theorem dX9_sightCount_8 : decode cX9_sightCount 8 = .ok (.isub, 1) := by decide +kernel
theorem dX9_sightCount_9 : decode cX9_sightCount 9 = .ok (.ireturn, 1) := by decide +kernel
def f9_sightCount (s9 : OS) : Option (Int32) := some (((s9.1 0 7) - (s9.1 0 6)))
set_option maxHeartbeats 4000000 in
set_option maxRecDepth 100000 in
theorem m9_sightCount (l : Launch) (D : va_G) (ad : Nat → Nat) (cy : Nat → ClassId) (sz : Nat) (s0 s1 s2 s3 s4 s5 s6 s7 s8 s9 s10 : OS) (r : Int32) (h : f9_sightCount s9 = some r) : Met l yX9_sightCount (wsOf yX9_sightCount cX9_sightCount 1 (some .int)) (rmL 0) (va_Pc ([.ref (ad 9)] : List Value) (PreG D cy (cellsC ad cy s0 s1 s2 s3 s4 s5 s6 s7 s8 s9 s10) sz (NC ad))) (QcI D ad 67 (cellsC ad cy s0 s1 s2 s3 s4 s5 s6 s7 s8 s9 s10) (r) sz) 0 0 (Afr ad 67 sz) := by
  refine metG (own := RX9) (by decide) rfl (Nat.le_of_ble_eq_true rfl) fstC ?_ sz
  intro p e s m below meth c ls C0 hw hl
  obtain ⟨hx, hb, hml, hown, hts, hr, hlk, hK, hN⟩ := C0
  have hl : lv_has ls 1 [(0, .ref (ad 9))] := hl
  generalize hQ : MQ below (QcI D ad 67 (cellsC ad cy s0 s1 s2 s3 s4 s5 s6 s7 s8 s9 s10) (r) s.heap.size) ([.ref (ad 9)] : List Value).toArray s 0 0 (Afr ad 67 s.heap.size) = Q
  obtain ⟨H, hH⟩ : ∃ H : Heap, H = s.heap := ⟨_, rfl⟩
  obtain ⟨locs, hlc⟩ : ∃ L : List Loc, L = [] := ⟨_, rfl⟩
  have hw : Wd D (cellsC ad cy s0 s1 s2 s3 s4 s5 s6 s7 s8 s9 s10) (Afr ad 67 s.heap.size) s.heap H locs := by rw [hH, hlc]; exact hw
  suffices h0 : W p l e (rmL 0) s m ([.ref (ad 9)] : List Value).toArray below meth c H locs 0 0 Q (F0 m 0 ls []) by rw [hH, hlc] at h0; exact h0
  clear hH hlc
  unfold f9_sightCount at h
  refine lv_aload_n hx hb dX9_sightCount_0 rfl (lv_at hl 0 rfl) ?_
  refine gX9_34 hx hb hts hown hK hw dX9_sightCount_1 ?_
  refine lv_aload_n hx hb dX9_sightCount_4 rfl (lv_at hl 0 rfl) ?_
  refine gX9_30 hx hb hts hown hK hw dX9_sightCount_5 ?_
  refine lv_isub hx hb dX9_sightCount_8 ?_
  have h := Option.some.inj h
  subst h
  rw [← hQ]
  exact retI hx hb hr hlk hw rfl dX9_sightCount_9
theorem dX9_see_0 : decode cX9_see 0 = .ok (.aload_n 0, 1) := by decide +kernel
theorem dX9_see_1 : decode cX9_see 1 = .ok (.getfield 34, 3) := by decide +kernel
theorem dX9_see_4 : decode cX9_see 4 = .ok (.ifCond .lt 13, 3) := by decide +kernel
theorem dX9_see_7 : decode cX9_see 7 = .ok (.aload_n 0, 1) := by decide +kernel
theorem dX9_see_8 : decode cX9_see 8 = .ok (.getfield 34, 3) := by decide +kernel
theorem dX9_see_11 : decode cX9_see 11 = .ok (.sipush 140, 3) := by decide +kernel
theorem dX9_see_14 : decode cX9_see 14 = .ok (.if_icmp .lt 4, 3) := by decide +kernel
theorem dX9_see_17 : decode cX9_see 17 = .ok (.return_, 1) := by decide +kernel
theorem dX9_see_18 : decode cX9_see 18 = .ok (.aload_n 0, 1) := by decide +kernel
theorem dX9_see_19 : decode cX9_see 19 = .ok (.getfield 21, 3) := by decide +kernel
theorem dX9_see_22 : decode cX9_see 22 = .ok (.aload_n 0, 1) := by decide +kernel
theorem dX9_see_23 : decode cX9_see 23 = .ok (.getfield 34, 3) := by decide +kernel
theorem dX9_see_26 : decode cX9_see 26 = .ok (.iload_n 1, 1) := by decide +kernel
theorem dX9_see_27 : decode cX9_see 27 = .ok (.iastore, 1) := by decide +kernel
theorem dX9_see_28 : decode cX9_see 28 = .ok (.aload_n 0, 1) := by decide +kernel
theorem dX9_see_29 : decode cX9_see 29 = .ok (.getfield 24, 3) := by decide +kernel
theorem dX9_see_32 : decode cX9_see 32 = .ok (.aload_n 0, 1) := by decide +kernel
theorem dX9_see_33 : decode cX9_see 33 = .ok (.getfield 34, 3) := by decide +kernel
theorem dX9_see_36 : decode cX9_see 36 = .ok (.iload_n 2, 1) := by decide +kernel
theorem dX9_see_37 : decode cX9_see 37 = .ok (.iastore, 1) := by decide +kernel
theorem dX9_see_38 : decode cX9_see 38 = .ok (.aload_n 0, 1) := by decide +kernel
theorem dX9_see_39 : decode cX9_see 39 = .ok (.getfield 27, 3) := by decide +kernel
theorem dX9_see_42 : decode cX9_see 42 = .ok (.aload_n 0, 1) := by decide +kernel
theorem dX9_see_43 : decode cX9_see 43 = .ok (.getfield 34, 3) := by decide +kernel
theorem dX9_see_46 : decode cX9_see 46 = .ok (.iload_n 3, 1) := by decide +kernel
theorem dX9_see_47 : decode cX9_see 47 = .ok (.iastore, 1) := by decide +kernel
theorem dX9_see_48 : decode cX9_see 48 = .ok (.aload_n 0, 1) := by decide +kernel
theorem dX9_see_49 : decode cX9_see 49 = .ok (.dup, 1) := by decide +kernel
theorem dX9_see_50 : decode cX9_see 50 = .ok (.getfield 34, 3) := by decide +kernel
theorem dX9_see_53 : decode cX9_see 53 = .ok (.iconst 1, 1) := by decide +kernel
theorem dX9_see_54 : decode cX9_see 54 = .ok (.iadd, 1) := by decide +kernel
theorem dX9_see_55 : decode cX9_see 55 = .ok (.putfield 34, 3) := by decide +kernel
theorem dX9_see_58 : decode cX9_see 58 = .ok (.return_, 1) := by decide +kernel
def f9_see_j17 (s9_j17 : OS) : Option (OS) := some s9_j17
def f9_see (a1 : Int32) (a2 : Int32) (a3 : Int32) (s9 : OS) : Option (OS) := if (s9.1 0 7) < 0 then (f9_see_j17 s9) else (if (s9.1 0 7) < (140 : Int32) then (chk (inb ((s9.1 0 7)) 140) (nm (wI s9 4 ((s9.1 0 7)).toNatClampNeg a1) fun s9_27 => chk (inb ((s9_27.1 0 7)) 140) (nm (wI s9_27 5 ((s9_27.1 0 7)).toNatClampNeg a2) fun s9_37 => chk (inb ((s9_37.1 0 7)) 140) (nm (wI s9_37 6 ((s9_37.1 0 7)).toNatClampNeg a3) fun s9_47 => nm (wI s9_47 0 7 (((s9_47.1 0 7) + (1 : Int32)))) fun s9_55 => some s9_55)))) else (f9_see_j17 s9))
set_option maxHeartbeats 4000000 in
set_option maxRecDepth 100000 in
theorem m9_see (l : Launch) (D : va_G) (ad : Nat → Nat) (cy : Nat → ClassId) (sz : Nat) (s0 s1 s2 s3 s4 s5 s6 s7 s8 s9 s10 : OS) (a1 : Int32) (a2 : Int32) (a3 : Int32) (r : OS) (h : f9_see a1 a2 a3 s9 = some r) : Met l yX9_see (wsOf yX9_see cX9_see 4 none) (rmL 0) (va_Pc ([.ref (ad 9), .int a1, .int a2, .int a3] : List Value) (PreG D cy (cellsC ad cy s0 s1 s2 s3 s4 s5 s6 s7 s8 s9 s10) sz (NC ad))) (QcV D ad 67 (cellsC ad cy s0 s1 s2 s3 s4 s5 s6 s7 s8 r s10) sz) 0 0 (Afr ad 67 sz) := by
  refine metG (own := RX9) (by decide) rfl (Nat.le_of_ble_eq_true rfl) fstC ?_ sz
  intro p e s m below meth c ls C0 hw hl
  obtain ⟨hx, hb, hml, hown, hts, hr, hlk, hK, hN⟩ := C0
  have hl : lv_has ls 4 [(0, .ref (ad 9)), (1, .int a1), (2, .int a2), (3, .int a3)] := hl
  generalize hQ : MQ below (QcV D ad 67 (cellsC ad cy s0 s1 s2 s3 s4 s5 s6 s7 s8 r s10) s.heap.size) ([.ref (ad 9), .int a1, .int a2, .int a3] : List Value).toArray s 0 0 (Afr ad 67 s.heap.size) = Q
  obtain ⟨H, hH⟩ : ∃ H : Heap, H = s.heap := ⟨_, rfl⟩
  obtain ⟨locs, hlc⟩ : ∃ L : List Loc, L = [] := ⟨_, rfl⟩
  have hw : Wd D (cellsC ad cy s0 s1 s2 s3 s4 s5 s6 s7 s8 s9 s10) (Afr ad 67 s.heap.size) s.heap H locs := by rw [hH, hlc]; exact hw
  suffices h0 : W p l e (rmL 0) s m ([.ref (ad 9), .int a1, .int a2, .int a3] : List Value).toArray below meth c H locs 0 0 Q (F0 m 0 ls []) by rw [hH, hlc] at h0; exact h0
  clear hH hlc
  unfold f9_see at h
  have hJ_17 : ∀ (s9_j17 : OS) (H : Heap) (locs : List Loc) (ls : Array Slot), f9_see_j17 s9_j17 = some r → Wd D (cellsC ad cy s0 s1 s2 s3 s4 s5 s6 s7 s8 s9_j17 s10) (Afr ad 67 s.heap.size) s.heap H locs → lv_has ls 4 [] → W p l e (rmL 0) s m ([.ref (ad 9), .int a1, .int a2, .int a3] : List Value).toArray below meth c H locs 0 0 Q (F0 m 17 ls []) := by
    intro s9_j17 H locs ls h hw hl
    unfold f9_see_j17 at h
    have h := Option.some.inj h
    subst h
    rw [← hQ]
    exact retV hx hb hr hlk hw dX9_see_17
  refine lv_aload_n hx hb dX9_see_0 rfl (lv_at hl 0 rfl) ?_
  refine gX9_34 hx hb hts hown hK hw dX9_see_1 ?_
  refine lv_if_lt (tgt := 17) hx hb dX9_see_4 (by decide) (fun c_4 => ?_) (fun c_4 => ?_)
  · have h := ite_t c_4 h
    exact hJ_17 s9 H locs ls h hw (lv_sub hl [] rfl)
  · have h := ite_f c_4 h
    refine lv_aload_n hx hb dX9_see_7 rfl (lv_at hl 0 rfl) ?_
    refine gX9_34 hx hb hts hown hK hw dX9_see_8 ?_
    refine lv_sipush (v := 140) hx hb dX9_see_11 (by decide) ?_
    refine lv_icmp_lt (tgt := 18) hx hb dX9_see_14 (by decide) (fun c_14 => ?_) (fun c_14 => ?_)
    · have h := ite_t c_14 h
      refine lv_aload_n hx hb dX9_see_18 rfl (lv_at hl 0 rfl) ?_
      refine gX9_21 hx hb hts hown hK hw dX9_see_19 ?_
      refine lv_aload_n hx hb dX9_see_22 rfl (lv_at hl 0 rfl) ?_
      refine gX9_34 hx hb hts hown hK hw dX9_see_23 ?_
      refine lv_iload_n hx hb dX9_see_26 rfl (lv_at hl 1 rfl) ?_
      obtain ⟨hi_27, h⟩ := chk_e h
      obtain ⟨s9_27, e_27, h⟩ := nam_e h
      refine aC63 hx hb hK hw hi_27 e_27 dX9_see_27 (fun H locs hw => ?_)
      refine lv_aload_n hx hb dX9_see_28 rfl (lv_at hl 0 rfl) ?_
      refine gX9_24 hx hb hts hown hK hw dX9_see_29 ?_
      refine lv_aload_n hx hb dX9_see_32 rfl (lv_at hl 0 rfl) ?_
      refine gX9_34 hx hb hts hown hK hw dX9_see_33 ?_
      refine lv_iload_n hx hb dX9_see_36 rfl (lv_at hl 2 rfl) ?_
      obtain ⟨hi_37, h⟩ := chk_e h
      obtain ⟨s9_37, e_37, h⟩ := nam_e h
      refine aC64 hx hb hK hw hi_37 e_37 dX9_see_37 (fun H locs hw => ?_)
      refine lv_aload_n hx hb dX9_see_38 rfl (lv_at hl 0 rfl) ?_
      refine gX9_27 hx hb hts hown hK hw dX9_see_39 ?_
      refine lv_aload_n hx hb dX9_see_42 rfl (lv_at hl 0 rfl) ?_
      refine gX9_34 hx hb hts hown hK hw dX9_see_43 ?_
      refine lv_iload_n hx hb dX9_see_46 rfl (lv_at hl 3 rfl) ?_
      obtain ⟨hi_47, h⟩ := chk_e h
      obtain ⟨s9_47, e_47, h⟩ := nam_e h
      refine aC65 hx hb hK hw hi_47 e_47 dX9_see_47 (fun H locs hw => ?_)
      refine lv_aload_n hx hb dX9_see_48 rfl (lv_at hl 0 rfl) ?_
      refine lv_dup hx hb dX9_see_49 rfl ?_
      refine gX9_34 hx hb hts hown hK hw dX9_see_50 ?_
      refine lv_iconst (v := 1) hx hb dX9_see_53 (by decide) ?_
      refine lv_iadd hx hb dX9_see_54 ?_
      obtain ⟨s9_55, e_55, h⟩ := nam_e h
      refine pX9_34 hx hb hts hown hK hw e_55 dX9_see_55 (fun H locs hw => ?_)
      have h := Option.some.inj h
      subst h
      rw [← hQ]
      exact retV hx hb hr hlk hw dX9_see_58
    · have h := ite_f c_14 h
      exact hJ_17 s9 H locs ls h hw (lv_sub hl [] rfl)
theorem dX9_begin_0 : decode cX9_begin 0 = .ok (.aload_n 0, 1) := by decide +kernel
theorem dX9_begin_1 : decode cX9_begin 1 = .ok (.getfield 30, 3) := by decide +kernel
theorem dX9_begin_4 : decode cX9_begin 4 = .ok (.istore_n 3, 1) := by decide +kernel
theorem dX9_begin_5 : decode cX9_begin 5 = .ok (.iload_n 3, 1) := by decide +kernel
theorem dX9_begin_6 : decode cX9_begin 6 = .ok (.ifCond .lt 9, 3) := by decide +kernel
theorem dX9_begin_9 : decode cX9_begin 9 = .ok (.iload_n 3, 1) := by decide +kernel
theorem dX9_begin_10 : decode cX9_begin 10 = .ok (.bipush 40, 2) := by decide +kernel
theorem dX9_begin_12 : decode cX9_begin 12 = .ok (.if_icmp .lt 5, 3) := by decide +kernel
theorem dX9_begin_15 : decode cX9_begin 15 = .ok (.iconst (-1), 1) := by decide +kernel
theorem dX9_begin_16 : decode cX9_begin 16 = .ok (.ireturn, 1) := by decide +kernel
theorem dX9_begin_17 : decode cX9_begin 17 = .ok (.aload_n 0, 1) := by decide +kernel
theorem dX9_begin_18 : decode cX9_begin 18 = .ok (.getfield 18, 3) := by decide +kernel
theorem dX9_begin_21 : decode cX9_begin 21 = .ok (.iload_n 3, 1) := by decide +kernel
theorem dX9_begin_22 : decode cX9_begin 22 = .ok (.iload_n 2, 1) := by decide +kernel
theorem dX9_begin_23 : decode cX9_begin 23 = .ok (.iastore, 1) := by decide +kernel
theorem dX9_begin_24 : decode cX9_begin 24 = .ok (.aload_n 0, 1) := by decide +kernel
theorem dX9_begin_25 : decode cX9_begin 25 = .ok (.dup, 1) := by decide +kernel
theorem dX9_begin_26 : decode cX9_begin 26 = .ok (.getfield 30, 3) := by decide +kernel
theorem dX9_begin_29 : decode cX9_begin 29 = .ok (.iconst 1, 1) := by decide +kernel
theorem dX9_begin_30 : decode cX9_begin 30 = .ok (.iadd, 1) := by decide +kernel
theorem dX9_begin_31 : decode cX9_begin 31 = .ok (.putfield 30, 3) := by decide +kernel
theorem dX9_begin_34 : decode cX9_begin 34 = .ok (.aload_n 0, 1) := by decide +kernel
theorem dX9_begin_35 : decode cX9_begin 35 = .ok (.iload_n 3, 1) := by decide +kernel
theorem dX9_begin_36 : decode cX9_begin 36 = .ok (.iload_n 1, 1) := by decide +kernel
theorem dX9_begin_37 : decode cX9_begin 37 = .ok (.iload_n 2, 1) := by decide +kernel
theorem dX9_begin_38 : decode cX9_begin 38 = .ok (.invokevirtual 48, 3) := by decide +kernel
theorem dX9_begin_41 : decode cX9_begin 41 = .ok (.iload_n 3, 1) := by decide +kernel
theorem dX9_begin_42 : decode cX9_begin 42 = .ok (.ireturn, 1) := by decide +kernel
def f9_begin_j15 (s9_j15 : OS) : Option (Int32 × OS) := some ((-1 : Int32), s9_j15)
def f9_begin (a1 : Int32) (a2 : Int32) (s9 : OS) : Option (Int32 × OS) := nm ((s9.1 0 6)) fun n_4 => if n_4 < 0 then (f9_begin_j15 s9) else (if n_4 < (40 : Int32) then (chk (inb n_4 40) (nm (wI s9 3 n_4.toNatClampNeg a2) fun s9_23 => nm (wI s9_23 0 6 (((s9_23.1 0 6) + (1 : Int32)))) fun s9_31 => Option.bind (f9_see n_4 a1 a2 s9_31) fun q_38 => some (n_4, q_38))) else (f9_begin_j15 s9))
set_option maxHeartbeats 4000000 in
set_option maxRecDepth 100000 in
theorem m9_begin (l : Launch) (D : va_G) (ad : Nat → Nat) (cy : Nat → ClassId) (sz : Nat) (s0 s1 s2 s3 s4 s5 s6 s7 s8 s9 s10 : OS) (a1 : Int32) (a2 : Int32) (r : Int32 × OS) (h : f9_begin a1 a2 s9 = some r) : Met l yX9_begin (wsOf yX9_begin cX9_begin 4 (some .int)) (rmL 1) (va_Pc ([.ref (ad 9), .int a1, .int a2] : List Value) (PreG D cy (cellsC ad cy s0 s1 s2 s3 s4 s5 s6 s7 s8 s9 s10) sz (NC ad))) (QcI D ad 67 (cellsC ad cy s0 s1 s2 s3 s4 s5 s6 s7 s8 r.2 s10) (r.1) sz) 0 0 (Afr ad 67 sz) := by
  refine metG (own := RX9) (by decide) rfl (Nat.le_of_ble_eq_true rfl) fstC ?_ sz
  intro p e s m below meth c ls C0 hw hl
  obtain ⟨hx, hb, hml, hown, hts, hr, hlk, hK, hN⟩ := C0
  have hl : lv_has ls 4 [(0, .ref (ad 9)), (1, .int a1), (2, .int a2)] := hl
  generalize hQ : MQ below (QcI D ad 67 (cellsC ad cy s0 s1 s2 s3 s4 s5 s6 s7 s8 r.2 s10) (r.1) s.heap.size) ([.ref (ad 9), .int a1, .int a2] : List Value).toArray s 0 0 (Afr ad 67 s.heap.size) = Q
  obtain ⟨H, hH⟩ : ∃ H : Heap, H = s.heap := ⟨_, rfl⟩
  obtain ⟨locs, hlc⟩ : ∃ L : List Loc, L = [] := ⟨_, rfl⟩
  have hw : Wd D (cellsC ad cy s0 s1 s2 s3 s4 s5 s6 s7 s8 s9 s10) (Afr ad 67 s.heap.size) s.heap H locs := by rw [hH, hlc]; exact hw
  suffices h0 : W p l e (rmL 1) s m ([.ref (ad 9), .int a1, .int a2] : List Value).toArray below meth c H locs 0 0 Q (F0 m 0 ls []) by rw [hH, hlc] at h0; exact h0
  clear hH hlc
  unfold f9_begin at h
  have hJ_15 : ∀ (s9_j15 : OS) (H : Heap) (locs : List Loc) (ls : Array Slot), f9_begin_j15 s9_j15 = some r → Wd D (cellsC ad cy s0 s1 s2 s3 s4 s5 s6 s7 s8 s9_j15 s10) (Afr ad 67 s.heap.size) s.heap H locs → lv_has ls 4 [] → W p l e (rmL 1) s m ([.ref (ad 9), .int a1, .int a2] : List Value).toArray below meth c H locs 0 0 Q (F0 m 15 ls []) := by
    intro s9_j15 H locs ls h hw hl
    unfold f9_begin_j15 at h
    refine lv_iconst (v := (-1)) hx hb dX9_begin_15 (by decide) ?_
    have h := Option.some.inj h
    subst h
    rw [← hQ]
    exact retI hx hb hr hlk hw rfl dX9_begin_16
  refine lv_aload_n hx hb dX9_begin_0 rfl (lv_at hl 0 rfl) ?_
  refine gX9_30 hx hb hts hown hK hw dX9_begin_1 ?_
  obtain ⟨n_4, e_4, h⟩ := nam_e h
  refine topI e_4 ?_
  refine lv_istore_n (lv' := [(3, .int n_4), (0, .ref (ad 9)), (1, .int a1), (2, .int a2)]) hx hb dX9_begin_4 rfl hl (by decide) rfl (fun ls hl => ?_)
  refine lv_iload_n hx hb dX9_begin_5 rfl (lv_at hl 0 rfl) ?_
  refine lv_if_lt (tgt := 15) hx hb dX9_begin_6 (by decide) (fun c_6 => ?_) (fun c_6 => ?_)
  · have h := ite_t c_6 h
    exact hJ_15 s9 H locs ls h hw (lv_sub hl [] rfl)
  · have h := ite_f c_6 h
    refine lv_iload_n hx hb dX9_begin_9 rfl (lv_at hl 0 rfl) ?_
    refine lv_bipush (v := 40) hx hb dX9_begin_10 (by decide) ?_
    refine lv_icmp_lt (tgt := 17) hx hb dX9_begin_12 (by decide) (fun c_12 => ?_) (fun c_12 => ?_)
    · have h := ite_t c_12 h
      refine lv_aload_n hx hb dX9_begin_17 rfl (lv_at hl 1 rfl) ?_
      refine gX9_18 hx hb hts hown hK hw dX9_begin_18 ?_
      refine lv_iload_n hx hb dX9_begin_21 rfl (lv_at hl 0 rfl) ?_
      refine lv_iload_n hx hb dX9_begin_22 rfl (lv_at hl 3 rfl) ?_
      obtain ⟨hi_23, h⟩ := chk_e h
      obtain ⟨s9_23, e_23, h⟩ := nam_e h
      refine aC62 hx hb hK hw hi_23 e_23 dX9_begin_23 (fun H locs hw => ?_)
      refine lv_aload_n hx hb dX9_begin_24 rfl (lv_at hl 1 rfl) ?_
      refine lv_dup hx hb dX9_begin_25 rfl ?_
      refine gX9_30 hx hb hts hown hK hw dX9_begin_26 ?_
      refine lv_iconst (v := 1) hx hb dX9_begin_29 (by decide) ?_
      refine lv_iadd hx hb dX9_begin_30 ?_
      obtain ⟨s9_31, e_31, h⟩ := nam_e h
      refine pX9_30 hx hb hts hown hK hw e_31 dX9_begin_31 (fun H locs hw => ?_)
      refine lv_aload_n hx hb dX9_begin_34 rfl (lv_at hl 1 rfl) ?_
      refine lv_iload_n hx hb dX9_begin_35 rfl (lv_at hl 0 rfl) ?_
      refine lv_iload_n hx hb dX9_begin_36 rfl (lv_at hl 2 rfl) ?_
      refine lv_iload_n hx hb dX9_begin_37 rfl (lv_at hl 3 rfl) ?_
      obtain ⟨q_38, h_38, h⟩ := bnd_e h
      have pg_38 := preG (av := [.ref (ad 9), .int n_4, .int a1, .int a2]) hK hw.1 hw.2.1 (NC_keep hN hw.2.2) NC_blind
      refine endV (mc := 0) (ms := 0) (va_runV (As := [.int n_4, .int a1, .int a2]) (rest := []) ⟨hx, hb, hml, hown, hts⟩ (m9_see l D ad cy H.size s0 s1 s2 s3 s4 s5 s6 s7 s8 s9_31 s10 n_4 a1 a2 q_38 h_38) (wX9_48 0 hts ⟨Nat.le_of_ble_eq_true rfl, Nat.le_of_ble_eq_true rfl⟩) ⟨pg_38.1, va_recv hK hw.1 (ci := 9) (q0 := 9) rfl eC_9, pg_38.2⟩ rfl rfl hl.1 rfl (lv_room (Nat.le_of_ble_eq_true rfl)) dX9_begin_38 ⟨Nat.le_refl _, Nat.le_refl _⟩) hw.2.2 (afr_in hw.2.2) (fun H locs hw => ?_)
      refine lv_iload_n hx hb dX9_begin_41 rfl (lv_at hl 0 rfl) ?_
      have h := Option.some.inj h
      subst h
      rw [← hQ]
      exact retI hx hb hr hlk hw rfl dX9_begin_42
    · have h := ite_f c_12 h
      exact hJ_15 s9 H locs ls h hw (lv_sub hl [] rfl)
theorem dX9_hasRoomForGift_0 : decode cX9_hasRoomForGift 0 = .ok (.aload_n 0, 1) := by decide +kernel
theorem dX9_hasRoomForGift_1 : decode cX9_hasRoomForGift 1 = .ok (.getfield 30, 3) := by decide +kernel
theorem dX9_hasRoomForGift_4 : decode cX9_hasRoomForGift 4 = .ok (.bipush 40, 2) := by decide +kernel
theorem dX9_hasRoomForGift_6 : decode cX9_hasRoomForGift 6 = .ok (.if_icmp .ge 7, 3) := by decide +kernel
theorem dX9_hasRoomForGift_9 : decode cX9_hasRoomForGift 9 = .ok (.iconst 1, 1) := by decide +kernel
theorem dX9_hasRoomForGift_10 : decode cX9_hasRoomForGift 10 = .ok (.goto 4, 3) := by decide +kernel
theorem dX9_hasRoomForGift_13 : decode cX9_hasRoomForGift 13 = .ok (.iconst 0, 1) := by decide +kernel
theorem dX9_hasRoomForGift_14 : decode cX9_hasRoomForGift 14 = .ok (.ireturn, 1) := by decide +kernel
def f9_hasRoomForGift_j14 (k0_j14 : Int32) (s9_j14 : OS) : Option (Int32) := chk (isB k0_j14) (some k0_j14)
def f9_hasRoomForGift (s9 : OS) : Option (Int32) := if (40 : Int32) ≤ (s9.1 0 6) then (f9_hasRoomForGift_j14 ((0 : Int32)) s9) else (f9_hasRoomForGift_j14 ((1 : Int32)) s9)
set_option maxHeartbeats 4000000 in
set_option maxRecDepth 100000 in
theorem m9_hasRoomForGift (l : Launch) (D : va_G) (ad : Nat → Nat) (cy : Nat → ClassId) (sz : Nat) (s0 s1 s2 s3 s4 s5 s6 s7 s8 s9 s10 : OS) (r : Int32) (h : f9_hasRoomForGift s9 = some r) : Met l yX9_hasRoomForGift (wsOf yX9_hasRoomForGift cX9_hasRoomForGift 1 (some .boolean)) (rmL 0) (va_Pc ([.ref (ad 9)] : List Value) (PreG D cy (cellsC ad cy s0 s1 s2 s3 s4 s5 s6 s7 s8 s9 s10) sz (NC ad))) (QcI D ad 67 (cellsC ad cy s0 s1 s2 s3 s4 s5 s6 s7 s8 s9 s10) (r) sz) 0 0 (Afr ad 67 sz) := by
  refine metG (own := RX9) (by decide) rfl (Nat.le_of_ble_eq_true rfl) fstC ?_ sz
  intro p e s m below meth c ls C0 hw hl
  obtain ⟨hx, hb, hml, hown, hts, hr, hlk, hK, hN⟩ := C0
  have hl : lv_has ls 1 [(0, .ref (ad 9))] := hl
  generalize hQ : MQ below (QcI D ad 67 (cellsC ad cy s0 s1 s2 s3 s4 s5 s6 s7 s8 s9 s10) (r) s.heap.size) ([.ref (ad 9)] : List Value).toArray s 0 0 (Afr ad 67 s.heap.size) = Q
  obtain ⟨H, hH⟩ : ∃ H : Heap, H = s.heap := ⟨_, rfl⟩
  obtain ⟨locs, hlc⟩ : ∃ L : List Loc, L = [] := ⟨_, rfl⟩
  have hw : Wd D (cellsC ad cy s0 s1 s2 s3 s4 s5 s6 s7 s8 s9 s10) (Afr ad 67 s.heap.size) s.heap H locs := by rw [hH, hlc]; exact hw
  suffices h0 : W p l e (rmL 0) s m ([.ref (ad 9)] : List Value).toArray below meth c H locs 0 0 Q (F0 m 0 ls []) by rw [hH, hlc] at h0; exact h0
  clear hH hlc
  unfold f9_hasRoomForGift at h
  have hJ_14 : ∀ (k0_j14 : Int32) (H : Heap) (locs : List Loc) (ls : Array Slot), f9_hasRoomForGift_j14 k0_j14 s9 = some r → Wd D (cellsC ad cy s0 s1 s2 s3 s4 s5 s6 s7 s8 s9 s10) (Afr ad 67 s.heap.size) s.heap H locs → lv_has ls 1 [] → W p l e (rmL 0) s m ([.ref (ad 9)] : List Value).toArray below meth c H locs 0 0 Q (F0 m 14 ls [.int k0_j14]) := by
    intro k0_j14 H locs ls h hw hl
    unfold f9_hasRoomForGift_j14 at h
    obtain ⟨hz_14, h⟩ := chk_e h
    have h := Option.some.inj h
    subst h
    rw [← hQ]
    exact retI hx hb hr hlk hw (narB hz_14) dX9_hasRoomForGift_14
  refine lv_aload_n hx hb dX9_hasRoomForGift_0 rfl (lv_at hl 0 rfl) ?_
  refine gX9_30 hx hb hts hown hK hw dX9_hasRoomForGift_1 ?_
  refine lv_bipush (v := 40) hx hb dX9_hasRoomForGift_4 (by decide) ?_
  refine lv_icmp_ge (tgt := 13) hx hb dX9_hasRoomForGift_6 (by decide) (fun c_6 => ?_) (fun c_6 => ?_)
  · have h := ite_t c_6 h
    refine lv_iconst (v := 0) hx hb dX9_hasRoomForGift_13 (by decide) ?_
    exact hJ_14 ((0 : Int32)) H locs ls h hw (lv_sub hl [] rfl)
  · have h := ite_f c_6 h
    refine lv_iconst (v := 1) hx hb dX9_hasRoomForGift_9 (by decide) ?_
    refine lv_goto (tgt := 14) hx hb dX9_hasRoomForGift_10 (by decide) ?_
    exact hJ_14 ((1 : Int32)) H locs ls h hw (lv_sub hl [] rfl)
theorem dX9_hasGift_0 : decode cX9_hasGift 0 = .ok (.iload_n 1, 1) := by decide +kernel
theorem dX9_hasGift_1 : decode cX9_hasGift 1 = .ok (.ifCond .lt 21, 3) := by decide +kernel
theorem dX9_hasGift_4 : decode cX9_hasGift 4 = .ok (.iload_n 1, 1) := by decide +kernel
theorem dX9_hasGift_5 : decode cX9_hasGift 5 = .ok (.aload_n 0, 1) := by decide +kernel
theorem dX9_hasGift_6 : decode cX9_hasGift 6 = .ok (.getfield 30, 3) := by decide +kernel
theorem dX9_hasGift_9 : decode cX9_hasGift 9 = .ok (.if_icmp .ge 13, 3) := by decide +kernel
theorem dX9_hasGift_12 : decode cX9_hasGift 12 = .ok (.iload_n 1, 1) := by decide +kernel
theorem dX9_hasGift_13 : decode cX9_hasGift 13 = .ok (.bipush 40, 2) := by decide +kernel
theorem dX9_hasGift_15 : decode cX9_hasGift 15 = .ok (.if_icmp .ge 7, 3) := by decide +kernel
theorem dX9_hasGift_18 : decode cX9_hasGift 18 = .ok (.iconst 1, 1) := by decide +kernel
theorem dX9_hasGift_19 : decode cX9_hasGift 19 = .ok (.goto 4, 3) := by decide +kernel
theorem dX9_hasGift_22 : decode cX9_hasGift 22 = .ok (.iconst 0, 1) := by decide +kernel
theorem dX9_hasGift_23 : decode cX9_hasGift 23 = .ok (.ireturn, 1) := by decide +kernel
def f9_hasGift_j23 (k0_j23 : Int32) (s9_j23 : OS) : Option (Int32) := chk (isB k0_j23) (some k0_j23)
def f9_hasGift_j22 (s9_j22 : OS) : Option (Int32) := f9_hasGift_j23 ((0 : Int32)) s9_j22
def f9_hasGift (a1 : Int32) (s9 : OS) : Option (Int32) := if a1 < 0 then (f9_hasGift_j22 s9) else (if (s9.1 0 6) ≤ a1 then (f9_hasGift_j22 s9) else (if (40 : Int32) ≤ a1 then (f9_hasGift_j22 s9) else (f9_hasGift_j23 ((1 : Int32)) s9)))
set_option maxHeartbeats 4000000 in
set_option maxRecDepth 100000 in
theorem m9_hasGift (l : Launch) (D : va_G) (ad : Nat → Nat) (cy : Nat → ClassId) (sz : Nat) (s0 s1 s2 s3 s4 s5 s6 s7 s8 s9 s10 : OS) (a1 : Int32) (r : Int32) (h : f9_hasGift a1 s9 = some r) : Met l yX9_hasGift (wsOf yX9_hasGift cX9_hasGift 2 (some .boolean)) (rmL 0) (va_Pc ([.ref (ad 9), .int a1] : List Value) (PreG D cy (cellsC ad cy s0 s1 s2 s3 s4 s5 s6 s7 s8 s9 s10) sz (NC ad))) (QcI D ad 67 (cellsC ad cy s0 s1 s2 s3 s4 s5 s6 s7 s8 s9 s10) (r) sz) 0 0 (Afr ad 67 sz) := by
  refine metG (own := RX9) (by decide) rfl (Nat.le_of_ble_eq_true rfl) fstC ?_ sz
  intro p e s m below meth c ls C0 hw hl
  obtain ⟨hx, hb, hml, hown, hts, hr, hlk, hK, hN⟩ := C0
  have hl : lv_has ls 2 [(0, .ref (ad 9)), (1, .int a1)] := hl
  generalize hQ : MQ below (QcI D ad 67 (cellsC ad cy s0 s1 s2 s3 s4 s5 s6 s7 s8 s9 s10) (r) s.heap.size) ([.ref (ad 9), .int a1] : List Value).toArray s 0 0 (Afr ad 67 s.heap.size) = Q
  obtain ⟨H, hH⟩ : ∃ H : Heap, H = s.heap := ⟨_, rfl⟩
  obtain ⟨locs, hlc⟩ : ∃ L : List Loc, L = [] := ⟨_, rfl⟩
  have hw : Wd D (cellsC ad cy s0 s1 s2 s3 s4 s5 s6 s7 s8 s9 s10) (Afr ad 67 s.heap.size) s.heap H locs := by rw [hH, hlc]; exact hw
  suffices h0 : W p l e (rmL 0) s m ([.ref (ad 9), .int a1] : List Value).toArray below meth c H locs 0 0 Q (F0 m 0 ls []) by rw [hH, hlc] at h0; exact h0
  clear hH hlc
  unfold f9_hasGift at h
  have hJ_23 : ∀ (k0_j23 : Int32) (H : Heap) (locs : List Loc) (ls : Array Slot), f9_hasGift_j23 k0_j23 s9 = some r → Wd D (cellsC ad cy s0 s1 s2 s3 s4 s5 s6 s7 s8 s9 s10) (Afr ad 67 s.heap.size) s.heap H locs → lv_has ls 2 [] → W p l e (rmL 0) s m ([.ref (ad 9), .int a1] : List Value).toArray below meth c H locs 0 0 Q (F0 m 23 ls [.int k0_j23]) := by
    intro k0_j23 H locs ls h hw hl
    unfold f9_hasGift_j23 at h
    obtain ⟨hz_23, h⟩ := chk_e h
    have h := Option.some.inj h
    subst h
    rw [← hQ]
    exact retI hx hb hr hlk hw (narB hz_23) dX9_hasGift_23
  have hJ_22 : ∀  (H : Heap) (locs : List Loc) (ls : Array Slot), f9_hasGift_j22 s9 = some r → Wd D (cellsC ad cy s0 s1 s2 s3 s4 s5 s6 s7 s8 s9 s10) (Afr ad 67 s.heap.size) s.heap H locs → lv_has ls 2 [] → W p l e (rmL 0) s m ([.ref (ad 9), .int a1] : List Value).toArray below meth c H locs 0 0 Q (F0 m 22 ls []) := by
    intro  H locs ls h hw hl
    unfold f9_hasGift_j22 at h
    refine lv_iconst (v := 0) hx hb dX9_hasGift_22 (by decide) ?_
    exact hJ_23 ((0 : Int32)) H locs ls h hw (lv_sub hl [] rfl)
  refine lv_iload_n hx hb dX9_hasGift_0 rfl (lv_at hl 1 rfl) ?_
  refine lv_if_lt (tgt := 22) hx hb dX9_hasGift_1 (by decide) (fun c_1 => ?_) (fun c_1 => ?_)
  · have h := ite_t c_1 h
    exact hJ_22  H locs ls h hw (lv_sub hl [] rfl)
  · have h := ite_f c_1 h
    refine lv_iload_n hx hb dX9_hasGift_4 rfl (lv_at hl 1 rfl) ?_
    refine lv_aload_n hx hb dX9_hasGift_5 rfl (lv_at hl 0 rfl) ?_
    refine gX9_30 hx hb hts hown hK hw dX9_hasGift_6 ?_
    refine lv_icmp_ge (tgt := 22) hx hb dX9_hasGift_9 (by decide) (fun c_9 => ?_) (fun c_9 => ?_)
    · have h := ite_t c_9 h
      exact hJ_22  H locs ls h hw (lv_sub hl [] rfl)
    · have h := ite_f c_9 h
      refine lv_iload_n hx hb dX9_hasGift_12 rfl (lv_at hl 1 rfl) ?_
      refine lv_bipush (v := 40) hx hb dX9_hasGift_13 (by decide) ?_
      refine lv_icmp_ge (tgt := 22) hx hb dX9_hasGift_15 (by decide) (fun c_15 => ?_) (fun c_15 => ?_)
      · have h := ite_t c_15 h
        exact hJ_22  H locs ls h hw (lv_sub hl [] rfl)
      · have h := ite_f c_15 h
        refine lv_iconst (v := 1) hx hb dX9_hasGift_18 (by decide) ?_
        refine lv_goto (tgt := 23) hx hb dX9_hasGift_19 (by decide) ?_
        exact hJ_23 ((1 : Int32)) H locs ls h hw (lv_sub hl [] rfl)
theorem dX9_givenOn_0 : decode cX9_givenOn 0 = .ok (.aload_n 0, 1) := by decide +kernel
theorem dX9_givenOn_1 : decode cX9_givenOn 1 = .ok (.iload_n 1, 1) := by decide +kernel
theorem dX9_givenOn_2 : decode cX9_givenOn 2 = .ok (.invokevirtual 41, 3) := by decide +kernel
theorem dX9_givenOn_5 : decode cX9_givenOn 5 = .ok (.ifCond .eq 12, 3) := by decide +kernel
theorem dX9_givenOn_8 : decode cX9_givenOn 8 = .ok (.aload_n 0, 1) := by decide +kernel
theorem dX9_givenOn_9 : decode cX9_givenOn 9 = .ok (.getfield 18, 3) := by decide +kernel
theorem dX9_givenOn_12 : decode cX9_givenOn 12 = .ok (.iload_n 1, 1) := by decide +kernel
theorem dX9_givenOn_13 : decode cX9_givenOn 13 = .ok (.iaload, 1) := by decide +kernel
theorem dX9_givenOn_14 : decode cX9_givenOn 14 = .ok (.goto 4, 3) := by decide +kernel
theorem dX9_givenOn_17 : decode cX9_givenOn 17 = .ok (.iconst (-1), 1) := by decide +kernel
theorem dX9_givenOn_18 : decode cX9_givenOn 18 = .ok (.ireturn, 1) := by decide +kernel
def f9_givenOn_j18 (k0_j18 : Int32) (s9_j18 : OS) : Option (Int32) := some k0_j18
def f9_givenOn (a1 : Int32) (s9 : OS) : Option (Int32) := Option.bind (f9_hasGift a1 s9) fun q_2 => if q_2 = 0 then (f9_givenOn_j18 ((-1 : Int32)) s9) else (chk (inb a1 40) (nm (s9.1 3 a1.toNatClampNeg) fun y_13 => f9_givenOn_j18 y_13 s9))
set_option maxHeartbeats 4000000 in
set_option maxRecDepth 100000 in
theorem m9_givenOn (l : Launch) (D : va_G) (ad : Nat → Nat) (cy : Nat → ClassId) (sz : Nat) (s0 s1 s2 s3 s4 s5 s6 s7 s8 s9 s10 : OS) (a1 : Int32) (r : Int32) (h : f9_givenOn a1 s9 = some r) : Met l yX9_givenOn (wsOf yX9_givenOn cX9_givenOn 2 (some .int)) (rmL 1) (va_Pc ([.ref (ad 9), .int a1] : List Value) (PreG D cy (cellsC ad cy s0 s1 s2 s3 s4 s5 s6 s7 s8 s9 s10) sz (NC ad))) (QcI D ad 67 (cellsC ad cy s0 s1 s2 s3 s4 s5 s6 s7 s8 s9 s10) (r) sz) 0 0 (Afr ad 67 sz) := by
  refine metG (own := RX9) (by decide) rfl (Nat.le_of_ble_eq_true rfl) fstC ?_ sz
  intro p e s m below meth c ls C0 hw hl
  obtain ⟨hx, hb, hml, hown, hts, hr, hlk, hK, hN⟩ := C0
  have hl : lv_has ls 2 [(0, .ref (ad 9)), (1, .int a1)] := hl
  generalize hQ : MQ below (QcI D ad 67 (cellsC ad cy s0 s1 s2 s3 s4 s5 s6 s7 s8 s9 s10) (r) s.heap.size) ([.ref (ad 9), .int a1] : List Value).toArray s 0 0 (Afr ad 67 s.heap.size) = Q
  obtain ⟨H, hH⟩ : ∃ H : Heap, H = s.heap := ⟨_, rfl⟩
  obtain ⟨locs, hlc⟩ : ∃ L : List Loc, L = [] := ⟨_, rfl⟩
  have hw : Wd D (cellsC ad cy s0 s1 s2 s3 s4 s5 s6 s7 s8 s9 s10) (Afr ad 67 s.heap.size) s.heap H locs := by rw [hH, hlc]; exact hw
  suffices h0 : W p l e (rmL 1) s m ([.ref (ad 9), .int a1] : List Value).toArray below meth c H locs 0 0 Q (F0 m 0 ls []) by rw [hH, hlc] at h0; exact h0
  clear hH hlc
  unfold f9_givenOn at h
  have hJ_18 : ∀ (k0_j18 : Int32) (H : Heap) (locs : List Loc) (ls : Array Slot), f9_givenOn_j18 k0_j18 s9 = some r → Wd D (cellsC ad cy s0 s1 s2 s3 s4 s5 s6 s7 s8 s9 s10) (Afr ad 67 s.heap.size) s.heap H locs → lv_has ls 2 [] → W p l e (rmL 1) s m ([.ref (ad 9), .int a1] : List Value).toArray below meth c H locs 0 0 Q (F0 m 18 ls [.int k0_j18]) := by
    intro k0_j18 H locs ls h hw hl
    unfold f9_givenOn_j18 at h
    have h := Option.some.inj h
    subst h
    rw [← hQ]
    exact retI hx hb hr hlk hw rfl dX9_givenOn_18
  refine lv_aload_n hx hb dX9_givenOn_0 rfl (lv_at hl 0 rfl) ?_
  refine lv_iload_n hx hb dX9_givenOn_1 rfl (lv_at hl 1 rfl) ?_
  obtain ⟨q_2, h_2, h⟩ := bnd_e h
  have pg_2 := preG (av := [.ref (ad 9), .int a1]) hK hw.1 hw.2.1 (NC_keep hN hw.2.2) NC_blind
  refine endI (mc := 0) (ms := 0) (va_runV (As := [.int a1]) (rest := []) ⟨hx, hb, hml, hown, hts⟩ (m9_hasGift l D ad cy H.size s0 s1 s2 s3 s4 s5 s6 s7 s8 s9 s10 a1 q_2 h_2) (wX9_41 0 hts ⟨Nat.le_of_ble_eq_true rfl, Nat.le_of_ble_eq_true rfl⟩) ⟨pg_2.1, va_recv hK hw.1 (ci := 9) (q0 := 9) rfl eC_9, pg_2.2⟩ rfl rfl hl.1 rfl (lv_room (Nat.le_of_ble_eq_true rfl)) dX9_givenOn_2 ⟨Nat.le_refl _, Nat.le_refl _⟩) hw.2.2 (afr_in hw.2.2) (fun H locs hw => ?_)
  refine lv_if_eq (tgt := 17) hx hb dX9_givenOn_5 (by decide) (fun c_5 => ?_) (fun c_5 => ?_)
  · have h := ite_t c_5 h
    refine lv_iconst (v := (-1)) hx hb dX9_givenOn_17 (by decide) ?_
    exact hJ_18 ((-1 : Int32)) H locs ls h hw (lv_sub hl [] rfl)
  · have h := ite_f c_5 h
    refine lv_aload_n hx hb dX9_givenOn_8 rfl (lv_at hl 0 rfl) ?_
    refine gX9_18 hx hb hts hown hK hw dX9_givenOn_9 ?_
    refine lv_iload_n hx hb dX9_givenOn_12 rfl (lv_at hl 1 rfl) ?_
    obtain ⟨hi_13, h⟩ := chk_e h
    obtain ⟨y_13, e_13, h⟩ := nam_e h
    refine lC62 hx hb hK hw hi_13 e_13 dX9_givenOn_13 ?_
    refine lv_goto (tgt := 18) hx hb dX9_givenOn_14 (by decide) ?_
    exact hJ_18 y_13 H locs ls h hw (lv_sub hl [] rfl)
theorem dX9_hasRoomForSight_0 : decode cX9_hasRoomForSight 0 = .ok (.aload_n 0, 1) := by decide +kernel
theorem dX9_hasRoomForSight_1 : decode cX9_hasRoomForSight 1 = .ok (.invokevirtual 37, 3) := by decide +kernel
theorem dX9_hasRoomForSight_4 : decode cX9_hasRoomForSight 4 = .ok (.bipush 100, 2) := by decide +kernel
theorem dX9_hasRoomForSight_6 : decode cX9_hasRoomForSight 6 = .ok (.if_icmp .ge 7, 3) := by decide +kernel
theorem dX9_hasRoomForSight_9 : decode cX9_hasRoomForSight 9 = .ok (.iconst 1, 1) := by decide +kernel
theorem dX9_hasRoomForSight_10 : decode cX9_hasRoomForSight 10 = .ok (.goto 4, 3) := by decide +kernel
theorem dX9_hasRoomForSight_13 : decode cX9_hasRoomForSight 13 = .ok (.iconst 0, 1) := by decide +kernel
theorem dX9_hasRoomForSight_14 : decode cX9_hasRoomForSight 14 = .ok (.ireturn, 1) := by decide +kernel
def f9_hasRoomForSight_j14 (k0_j14 : Int32) (s9_j14 : OS) : Option (Int32) := chk (isB k0_j14) (some k0_j14)
def f9_hasRoomForSight (s9 : OS) : Option (Int32) := Option.bind (f9_sightCount s9) fun q_1 => if (100 : Int32) ≤ q_1 then (f9_hasRoomForSight_j14 ((0 : Int32)) s9) else (f9_hasRoomForSight_j14 ((1 : Int32)) s9)
set_option maxHeartbeats 4000000 in
set_option maxRecDepth 100000 in
theorem m9_hasRoomForSight (l : Launch) (D : va_G) (ad : Nat → Nat) (cy : Nat → ClassId) (sz : Nat) (s0 s1 s2 s3 s4 s5 s6 s7 s8 s9 s10 : OS) (r : Int32) (h : f9_hasRoomForSight s9 = some r) : Met l yX9_hasRoomForSight (wsOf yX9_hasRoomForSight cX9_hasRoomForSight 1 (some .boolean)) (rmL 1) (va_Pc ([.ref (ad 9)] : List Value) (PreG D cy (cellsC ad cy s0 s1 s2 s3 s4 s5 s6 s7 s8 s9 s10) sz (NC ad))) (QcI D ad 67 (cellsC ad cy s0 s1 s2 s3 s4 s5 s6 s7 s8 s9 s10) (r) sz) 0 0 (Afr ad 67 sz) := by
  refine metG (own := RX9) (by decide) rfl (Nat.le_of_ble_eq_true rfl) fstC ?_ sz
  intro p e s m below meth c ls C0 hw hl
  obtain ⟨hx, hb, hml, hown, hts, hr, hlk, hK, hN⟩ := C0
  have hl : lv_has ls 1 [(0, .ref (ad 9))] := hl
  generalize hQ : MQ below (QcI D ad 67 (cellsC ad cy s0 s1 s2 s3 s4 s5 s6 s7 s8 s9 s10) (r) s.heap.size) ([.ref (ad 9)] : List Value).toArray s 0 0 (Afr ad 67 s.heap.size) = Q
  obtain ⟨H, hH⟩ : ∃ H : Heap, H = s.heap := ⟨_, rfl⟩
  obtain ⟨locs, hlc⟩ : ∃ L : List Loc, L = [] := ⟨_, rfl⟩
  have hw : Wd D (cellsC ad cy s0 s1 s2 s3 s4 s5 s6 s7 s8 s9 s10) (Afr ad 67 s.heap.size) s.heap H locs := by rw [hH, hlc]; exact hw
  suffices h0 : W p l e (rmL 1) s m ([.ref (ad 9)] : List Value).toArray below meth c H locs 0 0 Q (F0 m 0 ls []) by rw [hH, hlc] at h0; exact h0
  clear hH hlc
  unfold f9_hasRoomForSight at h
  have hJ_14 : ∀ (k0_j14 : Int32) (H : Heap) (locs : List Loc) (ls : Array Slot), f9_hasRoomForSight_j14 k0_j14 s9 = some r → Wd D (cellsC ad cy s0 s1 s2 s3 s4 s5 s6 s7 s8 s9 s10) (Afr ad 67 s.heap.size) s.heap H locs → lv_has ls 1 [] → W p l e (rmL 1) s m ([.ref (ad 9)] : List Value).toArray below meth c H locs 0 0 Q (F0 m 14 ls [.int k0_j14]) := by
    intro k0_j14 H locs ls h hw hl
    unfold f9_hasRoomForSight_j14 at h
    obtain ⟨hz_14, h⟩ := chk_e h
    have h := Option.some.inj h
    subst h
    rw [← hQ]
    exact retI hx hb hr hlk hw (narB hz_14) dX9_hasRoomForSight_14
  refine lv_aload_n hx hb dX9_hasRoomForSight_0 rfl (lv_at hl 0 rfl) ?_
  obtain ⟨q_1, h_1, h⟩ := bnd_e h
  have pg_1 := preG (av := [.ref (ad 9)]) hK hw.1 hw.2.1 (NC_keep hN hw.2.2) NC_blind
  refine endI (mc := 0) (ms := 0) (va_runV (As := []) (rest := []) ⟨hx, hb, hml, hown, hts⟩ (m9_sightCount l D ad cy H.size s0 s1 s2 s3 s4 s5 s6 s7 s8 s9 s10 q_1 h_1) (wX9_37 0 hts ⟨Nat.le_of_ble_eq_true rfl, Nat.le_of_ble_eq_true rfl⟩) ⟨pg_1.1, va_recv hK hw.1 (ci := 9) (q0 := 9) rfl eC_9, pg_1.2⟩ rfl rfl hl.1 rfl (lv_room (Nat.le_of_ble_eq_true rfl)) dX9_hasRoomForSight_1 ⟨Nat.le_refl _, Nat.le_refl _⟩) hw.2.2 (afr_in hw.2.2) (fun H locs hw => ?_)
  refine lv_bipush (v := 100) hx hb dX9_hasRoomForSight_4 (by decide) ?_
  refine lv_icmp_ge (tgt := 13) hx hb dX9_hasRoomForSight_6 (by decide) (fun c_6 => ?_) (fun c_6 => ?_)
  · have h := ite_t c_6 h
    refine lv_iconst (v := 0) hx hb dX9_hasRoomForSight_13 (by decide) ?_
    exact hJ_14 ((0 : Int32)) H locs ls h hw (lv_sub hl [] rfl)
  · have h := ite_f c_6 h
    refine lv_iconst (v := 1) hx hb dX9_hasRoomForSight_9 (by decide) ?_
    refine lv_goto (tgt := 14) hx hb dX9_hasRoomForSight_10 (by decide) ?_
    exact hJ_14 ((1 : Int32)) H locs ls h hw (lv_sub hl [] rfl)
theorem dX9_connect_0 : decode cX9_connect 0 = .ok (.iload_n 1, 1) := by decide +kernel
theorem dX9_connect_1 : decode cX9_connect 1 = .ok (.invokestatic 45, 3) := by decide +kernel
theorem dX9_connect_4 : decode cX9_connect 4 = .ok (.ifCond .eq 34, 3) := by decide +kernel
theorem dX9_connect_7 : decode cX9_connect 7 = .ok (.iload_n 2, 1) := by decide +kernel
theorem dX9_connect_8 : decode cX9_connect 8 = .ok (.invokestatic 45, 3) := by decide +kernel
theorem dX9_connect_11 : decode cX9_connect 11 = .ok (.ifCond .eq 27, 3) := by decide +kernel
theorem dX9_connect_14 : decode cX9_connect 14 = .ok (.aload_n 0, 1) := by decide +kernel
theorem dX9_connect_15 : decode cX9_connect 15 = .ok (.getfield 11, 3) := by decide +kernel
theorem dX9_connect_18 : decode cX9_connect 18 = .ok (.iload_n 1, 1) := by decide +kernel
theorem dX9_connect_19 : decode cX9_connect 19 = .ok (.bipush 16, 2) := by decide +kernel
theorem dX9_connect_21 : decode cX9_connect 21 = .ok (.imul, 1) := by decide +kernel
theorem dX9_connect_22 : decode cX9_connect 22 = .ok (.iload_n 2, 1) := by decide +kernel
theorem dX9_connect_23 : decode cX9_connect 23 = .ok (.iadd, 1) := by decide +kernel
theorem dX9_connect_24 : decode cX9_connect 24 = .ok (.iload_n 3, 1) := by decide +kernel
theorem dX9_connect_25 : decode cX9_connect 25 = .ok (.iastore, 1) := by decide +kernel
theorem dX9_connect_26 : decode cX9_connect 26 = .ok (.aload_n 0, 1) := by decide +kernel
theorem dX9_connect_27 : decode cX9_connect 27 = .ok (.getfield 11, 3) := by decide +kernel
theorem dX9_connect_30 : decode cX9_connect 30 = .ok (.iload_n 2, 1) := by decide +kernel
theorem dX9_connect_31 : decode cX9_connect 31 = .ok (.bipush 16, 2) := by decide +kernel
theorem dX9_connect_33 : decode cX9_connect 33 = .ok (.imul, 1) := by decide +kernel
theorem dX9_connect_34 : decode cX9_connect 34 = .ok (.iload_n 1, 1) := by decide +kernel
theorem dX9_connect_35 : decode cX9_connect 35 = .ok (.iadd, 1) := by decide +kernel
theorem dX9_connect_36 : decode cX9_connect 36 = .ok (.iload_n 3, 1) := by decide +kernel
theorem dX9_connect_37 : decode cX9_connect 37 = .ok (.iastore, 1) := by decide +kernel
theorem dX9_connect_38 : decode cX9_connect 38 = .ok (.return_, 1) := by decide +kernel
def f9_connect_j38 (s9_j38 : OS) : Option (OS) := some s9_j38
def f9_connect (a1 : Int32) (a2 : Int32) (a3 : Int32) (s9 : OS) : Option (OS) := Option.bind (f10_isPlace a1) fun q_1 => if q_1 = 0 then (f9_connect_j38 s9) else (Option.bind (f10_isPlace a2) fun q_8 => if q_8 = 0 then (f9_connect_j38 s9) else (chk (inb (((a1 * (16 : Int32)) + a2)) 256) (nm (wI s9 1 (((a1 * (16 : Int32)) + a2)).toNatClampNeg a3) fun s9_25 => chk (inb (((a2 * (16 : Int32)) + a1)) 256) (nm (wI s9_25 1 (((a2 * (16 : Int32)) + a1)).toNatClampNeg a3) fun s9_37 => f9_connect_j38 s9_37))))
set_option maxHeartbeats 4000000 in
set_option maxRecDepth 100000 in
theorem m9_connect (l : Launch) (D : va_G) (ad : Nat → Nat) (cy : Nat → ClassId) (sz : Nat) (s0 s1 s2 s3 s4 s5 s6 s7 s8 s9 s10 : OS) (a1 : Int32) (a2 : Int32) (a3 : Int32) (r : OS) (h : f9_connect a1 a2 a3 s9 = some r) : Met l yX9_connect (wsOf yX9_connect cX9_connect 4 none) (rmL 2) (va_Pc ([.ref (ad 9), .int a1, .int a2, .int a3] : List Value) (PreG D cy (cellsC ad cy s0 s1 s2 s3 s4 s5 s6 s7 s8 s9 s10) sz (NC ad))) (QcV D ad 67 (cellsC ad cy s0 s1 s2 s3 s4 s5 s6 s7 s8 r s10) sz) 0 0 (Afr ad 67 sz) := by
  refine metG (own := RX9) (by decide) rfl (Nat.le_of_ble_eq_true rfl) fstC ?_ sz
  intro p e s m below meth c ls C0 hw hl
  obtain ⟨hx, hb, hml, hown, hts, hr, hlk, hK, hN⟩ := C0
  have hl : lv_has ls 4 [(0, .ref (ad 9)), (1, .int a1), (2, .int a2), (3, .int a3)] := hl
  generalize hQ : MQ below (QcV D ad 67 (cellsC ad cy s0 s1 s2 s3 s4 s5 s6 s7 s8 r s10) s.heap.size) ([.ref (ad 9), .int a1, .int a2, .int a3] : List Value).toArray s 0 0 (Afr ad 67 s.heap.size) = Q
  obtain ⟨H, hH⟩ : ∃ H : Heap, H = s.heap := ⟨_, rfl⟩
  obtain ⟨locs, hlc⟩ : ∃ L : List Loc, L = [] := ⟨_, rfl⟩
  have hw : Wd D (cellsC ad cy s0 s1 s2 s3 s4 s5 s6 s7 s8 s9 s10) (Afr ad 67 s.heap.size) s.heap H locs := by rw [hH, hlc]; exact hw
  suffices h0 : W p l e (rmL 2) s m ([.ref (ad 9), .int a1, .int a2, .int a3] : List Value).toArray below meth c H locs 0 0 Q (F0 m 0 ls []) by rw [hH, hlc] at h0; exact h0
  clear hH hlc
  unfold f9_connect at h
  have hJ_38 : ∀ (s9_j38 : OS) (H : Heap) (locs : List Loc) (ls : Array Slot), f9_connect_j38 s9_j38 = some r → Wd D (cellsC ad cy s0 s1 s2 s3 s4 s5 s6 s7 s8 s9_j38 s10) (Afr ad 67 s.heap.size) s.heap H locs → lv_has ls 4 [] → W p l e (rmL 2) s m ([.ref (ad 9), .int a1, .int a2, .int a3] : List Value).toArray below meth c H locs 0 0 Q (F0 m 38 ls []) := by
    intro s9_j38 H locs ls h hw hl
    unfold f9_connect_j38 at h
    have h := Option.some.inj h
    subst h
    rw [← hQ]
    exact retV hx hb hr hlk hw dX9_connect_38
  refine lv_iload_n hx hb dX9_connect_0 rfl (lv_at hl 1 rfl) ?_
  obtain ⟨q_1, h_1, h⟩ := bnd_e h
  have pg_1 := preG (av := [.int a1]) hK hw.1 hw.2.1 (NC_keep hN hw.2.2) NC_blind
  refine endI (mc := 0) (ms := 0) (va_runSN (As := [.int a1]) (rest := []) ⟨hx, hb, hml, hown, hts⟩ (m10_isPlace l D ad cy H.size s0 s1 s2 s3 s4 s5 s6 s7 s8 s9 s10 a1 q_1 h_1) (wX9_45 1 hts hN.2.2.1 ⟨Nat.le_of_ble_eq_true rfl, Nat.le_of_ble_eq_true rfl⟩) pg_1 rfl rfl hl.1 rfl (lv_room (Nat.le_of_ble_eq_true rfl)) dX9_connect_1 ⟨Nat.le_refl _, Nat.le_refl _⟩) hw.2.2 (afr_in hw.2.2) (fun H locs hw => ?_)
  refine lv_if_eq (tgt := 38) hx hb dX9_connect_4 (by decide) (fun c_4 => ?_) (fun c_4 => ?_)
  · have h := ite_t c_4 h
    exact hJ_38 s9 H locs ls h hw (lv_sub hl [] rfl)
  · have h := ite_f c_4 h
    refine lv_iload_n hx hb dX9_connect_7 rfl (lv_at hl 2 rfl) ?_
    obtain ⟨q_8, h_8, h⟩ := bnd_e h
    have pg_8 := preG (av := [.int a2]) hK hw.1 hw.2.1 (NC_keep hN hw.2.2) NC_blind
    refine endI (mc := 0) (ms := 0) (va_runSN (As := [.int a2]) (rest := []) ⟨hx, hb, hml, hown, hts⟩ (m10_isPlace l D ad cy H.size s0 s1 s2 s3 s4 s5 s6 s7 s8 s9 s10 a2 q_8 h_8) (wX9_45 1 hts hN.2.2.1 ⟨Nat.le_of_ble_eq_true rfl, Nat.le_of_ble_eq_true rfl⟩) pg_8 rfl rfl hl.1 rfl (lv_room (Nat.le_of_ble_eq_true rfl)) dX9_connect_8 ⟨Nat.le_refl _, Nat.le_refl _⟩) hw.2.2 (afr_in hw.2.2) (fun H locs hw => ?_)
    refine lv_if_eq (tgt := 38) hx hb dX9_connect_11 (by decide) (fun c_11 => ?_) (fun c_11 => ?_)
    · have h := ite_t c_11 h
      exact hJ_38 s9 H locs ls h hw (lv_sub hl [] rfl)
    · have h := ite_f c_11 h
      refine lv_aload_n hx hb dX9_connect_14 rfl (lv_at hl 0 rfl) ?_
      refine gX9_11 hx hb hts hown hK hw dX9_connect_15 ?_
      refine lv_iload_n hx hb dX9_connect_18 rfl (lv_at hl 1 rfl) ?_
      refine lv_bipush (v := 16) hx hb dX9_connect_19 (by decide) ?_
      refine lv_imul hx hb dX9_connect_21 ?_
      refine lv_iload_n hx hb dX9_connect_22 rfl (lv_at hl 2 rfl) ?_
      refine lv_iadd hx hb dX9_connect_23 ?_
      refine lv_iload_n hx hb dX9_connect_24 rfl (lv_at hl 3 rfl) ?_
      obtain ⟨hi_25, h⟩ := chk_e h
      obtain ⟨s9_25, e_25, h⟩ := nam_e h
      refine aC60 hx hb hK hw hi_25 e_25 dX9_connect_25 (fun H locs hw => ?_)
      refine lv_aload_n hx hb dX9_connect_26 rfl (lv_at hl 0 rfl) ?_
      refine gX9_11 hx hb hts hown hK hw dX9_connect_27 ?_
      refine lv_iload_n hx hb dX9_connect_30 rfl (lv_at hl 2 rfl) ?_
      refine lv_bipush (v := 16) hx hb dX9_connect_31 (by decide) ?_
      refine lv_imul hx hb dX9_connect_33 ?_
      refine lv_iload_n hx hb dX9_connect_34 rfl (lv_at hl 1 rfl) ?_
      refine lv_iadd hx hb dX9_connect_35 ?_
      refine lv_iload_n hx hb dX9_connect_36 rfl (lv_at hl 3 rfl) ?_
      obtain ⟨hi_37, h⟩ := chk_e h
      obtain ⟨s9_37, e_37, h⟩ := nam_e h
      refine aC60 hx hb hK hw hi_37 e_37 dX9_connect_37 (fun H locs hw => ?_)
      exact hJ_38 s9_37 H locs ls h hw (lv_sub hl [] rfl)
theorem dX9_latestTold_0 : decode cX9_latestTold 0 = .ok (.iconst (-1), 1) := by decide +kernel
theorem dX9_latestTold_1 : decode cX9_latestTold 1 = .ok (.istore_n 3, 1) := by decide +kernel
theorem dX9_latestTold_2 : decode cX9_latestTold 2 = .ok (.iconst 0, 1) := by decide +kernel
theorem dX9_latestTold_3 : decode cX9_latestTold 3 = .ok (.istore 4, 2) := by decide +kernel
theorem dX9_latestTold_5 : decode cX9_latestTold 5 = .ok (.iload 4, 2) := by decide +kernel
theorem dX9_latestTold_7 : decode cX9_latestTold 7 = .ok (.aload_n 0, 1) := by decide +kernel
theorem dX9_latestTold_8 : decode cX9_latestTold 8 = .ok (.getfield 34, 3) := by decide +kernel
theorem dX9_latestTold_11 : decode cX9_latestTold 11 = .ok (.if_icmp .ge 51, 3) := by decide +kernel
theorem dX9_latestTold_14 : decode cX9_latestTold 14 = .ok (.iload 4, 2) := by decide +kernel
theorem dX9_latestTold_16 : decode cX9_latestTold 16 = .ok (.sipush 140, 3) := by decide +kernel
theorem dX9_latestTold_19 : decode cX9_latestTold 19 = .ok (.if_icmp .ge 43, 3) := by decide +kernel
theorem dX9_latestTold_22 : decode cX9_latestTold 22 = .ok (.aload_n 0, 1) := by decide +kernel
theorem dX9_latestTold_23 : decode cX9_latestTold 23 = .ok (.getfield 21, 3) := by decide +kernel
theorem dX9_latestTold_26 : decode cX9_latestTold 26 = .ok (.iload 4, 2) := by decide +kernel
theorem dX9_latestTold_28 : decode cX9_latestTold 28 = .ok (.iaload, 1) := by decide +kernel
theorem dX9_latestTold_29 : decode cX9_latestTold 29 = .ok (.iload_n 1, 1) := by decide +kernel
theorem dX9_latestTold_30 : decode cX9_latestTold 30 = .ok (.if_icmp .ne 26, 3) := by decide +kernel
theorem dX9_latestTold_33 : decode cX9_latestTold 33 = .ok (.aload_n 0, 1) := by decide +kernel
theorem dX9_latestTold_34 : decode cX9_latestTold 34 = .ok (.getfield 27, 3) := by decide +kernel
theorem dX9_latestTold_37 : decode cX9_latestTold 37 = .ok (.iload 4, 2) := by decide +kernel
theorem dX9_latestTold_39 : decode cX9_latestTold 39 = .ok (.iaload, 1) := by decide +kernel
theorem dX9_latestTold_40 : decode cX9_latestTold 40 = .ok (.iload_n 2, 1) := by decide +kernel
theorem dX9_latestTold_41 : decode cX9_latestTold 41 = .ok (.if_icmp .gt 15, 3) := by decide +kernel
theorem dX9_latestTold_44 : decode cX9_latestTold 44 = .ok (.iload_n 3, 1) := by decide +kernel
theorem dX9_latestTold_45 : decode cX9_latestTold 45 = .ok (.aload_n 0, 1) := by decide +kernel
theorem dX9_latestTold_46 : decode cX9_latestTold 46 = .ok (.getfield 27, 3) := by decide +kernel
theorem dX9_latestTold_49 : decode cX9_latestTold 49 = .ok (.iload 4, 2) := by decide +kernel
theorem dX9_latestTold_51 : decode cX9_latestTold 51 = .ok (.iaload, 1) := by decide +kernel
theorem dX9_latestTold_52 : decode cX9_latestTold 52 = .ok (.invokestatic 65, 3) := by decide +kernel
theorem dX9_latestTold_55 : decode cX9_latestTold 55 = .ok (.istore_n 3, 1) := by decide +kernel
theorem dX9_latestTold_56 : decode cX9_latestTold 56 = .ok (.iinc 4 1, 3) := by decide +kernel
theorem dX9_latestTold_59 : decode cX9_latestTold 59 = .ok (.goto (-54), 3) := by decide +kernel
theorem dX9_latestTold_62 : decode cX9_latestTold 62 = .ok (.iload_n 3, 1) := by decide +kernel
theorem dX9_latestTold_63 : decode cX9_latestTold 63 = .ok (.ireturn, 1) := by decide +kernel
noncomputable def f9_latestTold_j62 (v3_j62 : Int32) (s9_j62 : OS) : Option (Int32) := some v3_j62
noncomputable def f9_latestTold_j56 (v1_j56 : Int32) (v2_j56 : Int32) (v3_j56 : Int32) (v4_j56 : Int32) (s9_j56 : OS) : Option ((Int32 × Int32) ⊕ (Int32)) := nm (v4_j56 + (1 : Int32)) fun n_56 => some (Sum.inl (v3_j56, n_56))
noncomputable def f9_latestTold_l5 (v1_i5 : Int32) (v2_i5 : Int32) (s9_i5 : OS) : Int32 × Int32 → Option ((Int32 × Int32) ⊕ (Int32)) := fun t_5 => if (s9_i5.1 0 7) ≤ t_5.2 then (Option.map Sum.inr (f9_latestTold_j62 t_5.1 s9_i5)) else (if (140 : Int32) ≤ t_5.2 then (Option.map Sum.inr (f9_latestTold_j62 t_5.1 s9_i5)) else (chk (inb t_5.2 140) (nm (s9_i5.1 4 t_5.2.toNatClampNeg) fun y_28 => if y_28 = v1_i5 then (chk (inb t_5.2 140) (nm (s9_i5.1 6 t_5.2.toNatClampNeg) fun y_39 => if v2_i5 < y_39 then (f9_latestTold_j56 v1_i5 v2_i5 t_5.1 t_5.2 s9_i5) else (chk (inb t_5.2 140) (nm (s9_i5.1 6 t_5.2.toNatClampNeg) fun y_51 => nm ((if t_5.1 < y_51 then y_51 else t_5.1)) fun n_55 => f9_latestTold_j56 v1_i5 v2_i5 n_55 t_5.2 s9_i5)))) else (f9_latestTold_j56 v1_i5 v2_i5 t_5.1 t_5.2 s9_i5))))
noncomputable def f9_latestTold (a1 : Int32) (a2 : Int32) (s9 : OS) : Option (Int32) := loop (f9_latestTold_l5 a1 a2 s9) ((-1 : Int32), (0 : Int32))
set_option maxHeartbeats 4000000 in
set_option maxRecDepth 100000 in
theorem m9_latestTold (l : Launch) (D : va_G) (ad : Nat → Nat) (cy : Nat → ClassId) (sz : Nat) (s0 s1 s2 s3 s4 s5 s6 s7 s8 s9 s10 : OS) (a1 : Int32) (a2 : Int32) (r : Int32) (h : f9_latestTold a1 a2 s9 = some r) : Met l yX9_latestTold (wsOf yX9_latestTold cX9_latestTold 5 (some .int)) (rmL 1) (va_Pc ([.ref (ad 9), .int a1, .int a2] : List Value) (PreG D cy (cellsC ad cy s0 s1 s2 s3 s4 s5 s6 s7 s8 s9 s10) sz (NC ad))) (QcI D ad 67 (cellsC ad cy s0 s1 s2 s3 s4 s5 s6 s7 s8 s9 s10) (r) sz) 0 0 (Afr ad 67 sz) := by
  refine metG (own := RX9) (by decide) rfl (Nat.le_of_ble_eq_true rfl) fstC ?_ sz
  intro p e s m below meth c ls C0 hw hl
  obtain ⟨hx, hb, hml, hown, hts, hr, hlk, hK, hN⟩ := C0
  have hl : lv_has ls 5 [(0, .ref (ad 9)), (1, .int a1), (2, .int a2)] := hl
  generalize hQ : MQ below (QcI D ad 67 (cellsC ad cy s0 s1 s2 s3 s4 s5 s6 s7 s8 s9 s10) (r) s.heap.size) ([.ref (ad 9), .int a1, .int a2] : List Value).toArray s 0 0 (Afr ad 67 s.heap.size) = Q
  obtain ⟨H, hH⟩ : ∃ H : Heap, H = s.heap := ⟨_, rfl⟩
  obtain ⟨locs, hlc⟩ : ∃ L : List Loc, L = [] := ⟨_, rfl⟩
  have hw : Wd D (cellsC ad cy s0 s1 s2 s3 s4 s5 s6 s7 s8 s9 s10) (Afr ad 67 s.heap.size) s.heap H locs := by rw [hH, hlc]; exact hw
  suffices h0 : W p l e (rmL 1) s m ([.ref (ad 9), .int a1, .int a2] : List Value).toArray below meth c H locs 0 0 Q (F0 m 0 ls []) by rw [hH, hlc] at h0; exact h0
  clear hH hlc
  unfold f9_latestTold at h
  have hJ_62 : ∀ (v3_j62 : Int32) (H : Heap) (locs : List Loc) (ls : Array Slot), f9_latestTold_j62 v3_j62 s9 = some r → Wd D (cellsC ad cy s0 s1 s2 s3 s4 s5 s6 s7 s8 s9 s10) (Afr ad 67 s.heap.size) s.heap H locs → lv_has ls 5 [(3, .int v3_j62)] → W p l e (rmL 1) s m ([.ref (ad 9), .int a1, .int a2] : List Value).toArray below meth c H locs 0 0 Q (F0 m 62 ls []) := by
    intro v3_j62 H locs ls h hw hl
    unfold f9_latestTold_j62 at h
    refine lv_iload_n hx hb dX9_latestTold_62 rfl (lv_at hl 0 rfl) ?_
    have h := Option.some.inj h
    subst h
    rw [← hQ]
    exact retI hx hb hr hlk hw rfl dX9_latestTold_63
  refine lv_iconst (v := (-1)) hx hb dX9_latestTold_0 (by decide) ?_
  refine lv_istore_n (lv' := [(3, .int ((-1 : Int32))), (0, .ref (ad 9)), (1, .int a1), (2, .int a2)]) hx hb dX9_latestTold_1 rfl hl (by decide) rfl (fun ls hl => ?_)
  refine lv_iconst (v := 0) hx hb dX9_latestTold_2 (by decide) ?_
  refine lv_istore (lv' := [(4, .int ((0 : Int32))), (3, .int ((-1 : Int32))), (0, .ref (ad 9)), (1, .int a1), (2, .int a2)]) hx hb dX9_latestTold_3 hl (by decide) rfl (fun ls hl => ?_)
  obtain ⟨n_5, hn_5⟩ := loop_e h
  have hL_5 : ∀ (n : Nat) (t_5 : Int32 × Int32) (H : Heap) (locs : List Loc) (ls : Array Slot), loopN (f9_latestTold_l5 a1 a2 s9) n t_5 = some r → Wd D (cellsC ad cy s0 s1 s2 s3 s4 s5 s6 s7 s8 s9 s10) (Afr ad 67 s.heap.size) s.heap H locs → lv_has ls 5 [(3, .int t_5.1), (4, .int t_5.2), (1, .int a1), (2, .int a2), (0, .ref (ad 9))] → W p l e (rmL 1) s m ([.ref (ad 9), .int a1, .int a2] : List Value).toArray below meth c H locs 0 0 Q (F0 m 5 ls []) := by
    intro n
    induction n with
    | zero => intro t_5 H locs ls hn; cases hn
    | succ n ih_5 =>
      intro t_5 H locs ls hn hw hl
      obtain ⟨x_5, h, hx_5⟩ := loopN_e hn
      unfold f9_latestTold_l5 at h
      have hJ_56 : ∀ (v3_j56 : Int32) (v4_j56 : Int32) (H : Heap) (locs : List Loc) (ls : Array Slot), f9_latestTold_j56 a1 a2 v3_j56 v4_j56 s9 = some x_5 → Wd D (cellsC ad cy s0 s1 s2 s3 s4 s5 s6 s7 s8 s9 s10) (Afr ad 67 s.heap.size) s.heap H locs → lv_has ls 5 [(0, .ref (ad 9)), (1, .int a1), (2, .int a2), (3, .int v3_j56), (4, .int v4_j56)] → W p l e (rmL 1) s m ([.ref (ad 9), .int a1, .int a2] : List Value).toArray below meth c H locs 0 0 Q (F0 m 56 ls []) := by
        intro v3_j56 v4_j56 H locs ls h hw hl
        unfold f9_latestTold_j56 at h
        obtain ⟨n_56, e_56, h⟩ := nam_e h
        refine lv_iinc (v := n_56) (lv' := [(4, .int n_56), (0, .ref (ad 9)), (1, .int a1), (2, .int a2), (3, .int v3_j56)]) hx hb dX9_latestTold_56 hl (k := 4) rfl (by rw [e_56]; rfl) (by decide) rfl (fun ls hl => ?_)
        refine lv_goto (tgt := 5) hx hb dX9_latestTold_59 (by decide) ?_
        exact ih_5 (v3_j56, n_56) H locs ls (nx_l hx_5 h) hw (lv_sub hl [4, 0, 2, 3, 1] rfl)
      refine lv_iload hx hb dX9_latestTold_5 (lv_at hl 1 rfl) ?_
      refine lv_aload_n hx hb dX9_latestTold_7 rfl (lv_at hl 4 rfl) ?_
      refine gX9_34 hx hb hts hown hK hw dX9_latestTold_8 ?_
      refine lv_icmp_ge (tgt := 62) hx hb dX9_latestTold_11 (by decide) (fun c_11 => ?_) (fun c_11 => ?_)
      · have h := ite_t c_11 h
        have h := nx_m hx_5 h
        exact hJ_62 t_5.1 H locs ls h hw (lv_sub hl [0] rfl)
      · have h := ite_f c_11 h
        refine lv_iload hx hb dX9_latestTold_14 (lv_at hl 1 rfl) ?_
        refine lv_sipush (v := 140) hx hb dX9_latestTold_16 (by decide) ?_
        refine lv_icmp_ge (tgt := 62) hx hb dX9_latestTold_19 (by decide) (fun c_19 => ?_) (fun c_19 => ?_)
        · have h := ite_t c_19 h
          have h := nx_m hx_5 h
          exact hJ_62 t_5.1 H locs ls h hw (lv_sub hl [0] rfl)
        · have h := ite_f c_19 h
          refine lv_aload_n hx hb dX9_latestTold_22 rfl (lv_at hl 4 rfl) ?_
          refine gX9_21 hx hb hts hown hK hw dX9_latestTold_23 ?_
          refine lv_iload hx hb dX9_latestTold_26 (lv_at hl 1 rfl) ?_
          obtain ⟨hi_28, h⟩ := chk_e h
          obtain ⟨y_28, e_28, h⟩ := nam_e h
          refine lC63 hx hb hK hw hi_28 e_28 dX9_latestTold_28 ?_
          refine lv_iload_n hx hb dX9_latestTold_29 rfl (lv_at hl 2 rfl) ?_
          refine lv_icmp_ne (tgt := 56) hx hb dX9_latestTold_30 (by decide) (fun c_30 => ?_) (fun c_30 => ?_)
          · have h := ite_f c_30 h
            exact hJ_56 t_5.1 t_5.2 H locs ls h hw (lv_sub hl [4, 2, 3, 0, 1] rfl)
          · have h := ite_t c_30 h
            refine lv_aload_n hx hb dX9_latestTold_33 rfl (lv_at hl 4 rfl) ?_
            refine gX9_27 hx hb hts hown hK hw dX9_latestTold_34 ?_
            refine lv_iload hx hb dX9_latestTold_37 (lv_at hl 1 rfl) ?_
            obtain ⟨hi_39, h⟩ := chk_e h
            obtain ⟨y_39, e_39, h⟩ := nam_e h
            refine lC65 hx hb hK hw hi_39 e_39 dX9_latestTold_39 ?_
            refine lv_iload_n hx hb dX9_latestTold_40 rfl (lv_at hl 3 rfl) ?_
            refine lv_icmp_gt (tgt := 56) hx hb dX9_latestTold_41 (by decide) (fun c_41 => ?_) (fun c_41 => ?_)
            · have h := ite_t c_41 h
              exact hJ_56 t_5.1 t_5.2 H locs ls h hw (lv_sub hl [4, 2, 3, 0, 1] rfl)
            · have h := ite_f c_41 h
              refine lv_iload_n hx hb dX9_latestTold_44 rfl (lv_at hl 0 rfl) ?_
              refine lv_aload_n hx hb dX9_latestTold_45 rfl (lv_at hl 4 rfl) ?_
              refine gX9_27 hx hb hts hown hK hw dX9_latestTold_46 ?_
              refine lv_iload hx hb dX9_latestTold_49 (lv_at hl 1 rfl) ?_
              obtain ⟨hi_51, h⟩ := chk_e h
              obtain ⟨y_51, e_51, h⟩ := nam_e h
              refine lC65 hx hb hK hw hi_51 e_51 dX9_latestTold_51 ?_
              refine va_mmax hx hb (hml.trans hl.1.symm) hown (hts _ (wd_5 (w := .methodLink RX9 65 Lib.Math.max.name) (i := 88) (by decide +kernel) rfl)) (hts _ (wd_3 (w := .static Lib.Math.max.name) (i := 173) (by decide +kernel) rfl)) (hts _ (wd_1 (w := .initialized "java/lang/Math") (i := 15) (by decide +kernel) rfl)) (hts _ (wd_3 (w := .code Lib.Math.max.name Lib.Math.max.code 2 (some .int)) (i := 174) (by decide +kernel) rfl)) (Nat.le_of_ble_eq_true rfl) (Nat.le_of_ble_eq_true rfl) (Nat.zero_le _) (Nat.zero_le _) dX9_latestTold_52 ?_
              obtain ⟨n_55, e_55, h⟩ := nam_e h
              refine topI e_55 ?_
              refine lv_istore_n (lv' := [(3, .int n_55), (4, .int t_5.2), (1, .int a1), (2, .int a2), (0, .ref (ad 9))]) hx hb dX9_latestTold_55 rfl hl (by decide) rfl (fun ls hl => ?_)
              exact hJ_56 n_55 t_5.2 H locs ls h hw (lv_sub hl [4, 2, 3, 0, 1] rfl)
  exact hL_5 n_5 ((-1 : Int32), (0 : Int32)) H locs ls hn_5 hw (lv_sub hl [1, 0, 3, 4, 2] rfl)
theorem dX9_nextTold_0 : decode cX9_nextTold 0 = .ok (.iconst (-1), 1) := by decide +kernel
theorem dX9_nextTold_1 : decode cX9_nextTold 1 = .ok (.istore_n 3, 1) := by decide +kernel
theorem dX9_nextTold_2 : decode cX9_nextTold 2 = .ok (.iconst 0, 1) := by decide +kernel
theorem dX9_nextTold_3 : decode cX9_nextTold 3 = .ok (.istore 4, 2) := by decide +kernel
theorem dX9_nextTold_5 : decode cX9_nextTold 5 = .ok (.iload 4, 2) := by decide +kernel
theorem dX9_nextTold_7 : decode cX9_nextTold 7 = .ok (.aload_n 0, 1) := by decide +kernel
theorem dX9_nextTold_8 : decode cX9_nextTold 8 = .ok (.getfield 34, 3) := by decide +kernel
theorem dX9_nextTold_11 : decode cX9_nextTold 11 = .ok (.if_icmp .ge 66, 3) := by decide +kernel
theorem dX9_nextTold_14 : decode cX9_nextTold 14 = .ok (.iload 4, 2) := by decide +kernel
theorem dX9_nextTold_16 : decode cX9_nextTold 16 = .ok (.sipush 140, 3) := by decide +kernel
theorem dX9_nextTold_19 : decode cX9_nextTold 19 = .ok (.if_icmp .ge 58, 3) := by decide +kernel
theorem dX9_nextTold_22 : decode cX9_nextTold 22 = .ok (.aload_n 0, 1) := by decide +kernel
theorem dX9_nextTold_23 : decode cX9_nextTold 23 = .ok (.getfield 21, 3) := by decide +kernel
theorem dX9_nextTold_26 : decode cX9_nextTold 26 = .ok (.iload 4, 2) := by decide +kernel
theorem dX9_nextTold_28 : decode cX9_nextTold 28 = .ok (.iaload, 1) := by decide +kernel
theorem dX9_nextTold_29 : decode cX9_nextTold 29 = .ok (.iload_n 1, 1) := by decide +kernel
theorem dX9_nextTold_30 : decode cX9_nextTold 30 = .ok (.if_icmp .ne 41, 3) := by decide +kernel
theorem dX9_nextTold_33 : decode cX9_nextTold 33 = .ok (.aload_n 0, 1) := by decide +kernel
theorem dX9_nextTold_34 : decode cX9_nextTold 34 = .ok (.getfield 27, 3) := by decide +kernel
theorem dX9_nextTold_37 : decode cX9_nextTold 37 = .ok (.iload 4, 2) := by decide +kernel
theorem dX9_nextTold_39 : decode cX9_nextTold 39 = .ok (.iaload, 1) := by decide +kernel
theorem dX9_nextTold_40 : decode cX9_nextTold 40 = .ok (.iload_n 2, 1) := by decide +kernel
theorem dX9_nextTold_41 : decode cX9_nextTold 41 = .ok (.if_icmp .le 30, 3) := by decide +kernel
theorem dX9_nextTold_44 : decode cX9_nextTold 44 = .ok (.iload_n 3, 1) := by decide +kernel
theorem dX9_nextTold_45 : decode cX9_nextTold 45 = .ok (.iconst (-1), 1) := by decide +kernel
theorem dX9_nextTold_46 : decode cX9_nextTold 46 = .ok (.if_icmp .ne 13, 3) := by decide +kernel
theorem dX9_nextTold_49 : decode cX9_nextTold 49 = .ok (.aload_n 0, 1) := by decide +kernel
theorem dX9_nextTold_50 : decode cX9_nextTold 50 = .ok (.getfield 27, 3) := by decide +kernel
theorem dX9_nextTold_53 : decode cX9_nextTold 53 = .ok (.iload 4, 2) := by decide +kernel
theorem dX9_nextTold_55 : decode cX9_nextTold 55 = .ok (.iaload, 1) := by decide +kernel
theorem dX9_nextTold_56 : decode cX9_nextTold 56 = .ok (.goto 14, 3) := by decide +kernel
theorem dX9_nextTold_59 : decode cX9_nextTold 59 = .ok (.iload_n 3, 1) := by decide +kernel
theorem dX9_nextTold_60 : decode cX9_nextTold 60 = .ok (.aload_n 0, 1) := by decide +kernel
theorem dX9_nextTold_61 : decode cX9_nextTold 61 = .ok (.getfield 27, 3) := by decide +kernel
theorem dX9_nextTold_64 : decode cX9_nextTold 64 = .ok (.iload 4, 2) := by decide +kernel
theorem dX9_nextTold_66 : decode cX9_nextTold 66 = .ok (.iaload, 1) := by decide +kernel
theorem dX9_nextTold_67 : decode cX9_nextTold 67 = .ok (.invokestatic 70, 3) := by decide +kernel
theorem dX9_nextTold_70 : decode cX9_nextTold 70 = .ok (.istore_n 3, 1) := by decide +kernel
theorem dX9_nextTold_71 : decode cX9_nextTold 71 = .ok (.iinc 4 1, 3) := by decide +kernel
theorem dX9_nextTold_74 : decode cX9_nextTold 74 = .ok (.goto (-69), 3) := by decide +kernel
theorem dX9_nextTold_77 : decode cX9_nextTold 77 = .ok (.iload_n 3, 1) := by decide +kernel
theorem dX9_nextTold_78 : decode cX9_nextTold 78 = .ok (.ireturn, 1) := by decide +kernel
noncomputable def f9_nextTold_j77 (v3_j77 : Int32) (s9_j77 : OS) : Option (Int32) := some v3_j77
noncomputable def f9_nextTold_j71 (v1_j71 : Int32) (v2_j71 : Int32) (v3_j71 : Int32) (v4_j71 : Int32) (s9_j71 : OS) : Option ((Int32 × Int32) ⊕ (Int32)) := nm (v4_j71 + (1 : Int32)) fun n_71 => some (Sum.inl (v3_j71, n_71))
noncomputable def f9_nextTold_j70 (v1_j70 : Int32) (v2_j70 : Int32) (v4_j70 : Int32) (k0_j70 : Int32) (s9_j70 : OS) : Option ((Int32 × Int32) ⊕ (Int32)) := f9_nextTold_j71 v1_j70 v2_j70 k0_j70 v4_j70 s9_j70
noncomputable def f9_nextTold_l5 (v1_i5 : Int32) (v2_i5 : Int32) (s9_i5 : OS) : Int32 × Int32 → Option ((Int32 × Int32) ⊕ (Int32)) := fun t_5 => if (s9_i5.1 0 7) ≤ t_5.2 then (Option.map Sum.inr (f9_nextTold_j77 t_5.1 s9_i5)) else (if (140 : Int32) ≤ t_5.2 then (Option.map Sum.inr (f9_nextTold_j77 t_5.1 s9_i5)) else (chk (inb t_5.2 140) (nm (s9_i5.1 4 t_5.2.toNatClampNeg) fun y_28 => if y_28 = v1_i5 then (chk (inb t_5.2 140) (nm (s9_i5.1 6 t_5.2.toNatClampNeg) fun y_39 => if y_39 ≤ v2_i5 then (f9_nextTold_j71 v1_i5 v2_i5 t_5.1 t_5.2 s9_i5) else (if t_5.1 = (-1 : Int32) then (chk (inb t_5.2 140) (nm (s9_i5.1 6 t_5.2.toNatClampNeg) fun y_55 => f9_nextTold_j70 v1_i5 v2_i5 t_5.2 y_55 s9_i5)) else (chk (inb t_5.2 140) (nm (s9_i5.1 6 t_5.2.toNatClampNeg) fun y_66 => f9_nextTold_j70 v1_i5 v2_i5 t_5.2 ((if y_66 < t_5.1 then y_66 else t_5.1)) s9_i5))))) else (f9_nextTold_j71 v1_i5 v2_i5 t_5.1 t_5.2 s9_i5))))
noncomputable def f9_nextTold (a1 : Int32) (a2 : Int32) (s9 : OS) : Option (Int32) := loop (f9_nextTold_l5 a1 a2 s9) ((-1 : Int32), (0 : Int32))
set_option maxHeartbeats 4000000 in
set_option maxRecDepth 100000 in
theorem m9_nextTold (l : Launch) (D : va_G) (ad : Nat → Nat) (cy : Nat → ClassId) (sz : Nat) (s0 s1 s2 s3 s4 s5 s6 s7 s8 s9 s10 : OS) (a1 : Int32) (a2 : Int32) (r : Int32) (h : f9_nextTold a1 a2 s9 = some r) : Met l yX9_nextTold (wsOf yX9_nextTold cX9_nextTold 5 (some .int)) (rmL 1) (va_Pc ([.ref (ad 9), .int a1, .int a2] : List Value) (PreG D cy (cellsC ad cy s0 s1 s2 s3 s4 s5 s6 s7 s8 s9 s10) sz (NC ad))) (QcI D ad 67 (cellsC ad cy s0 s1 s2 s3 s4 s5 s6 s7 s8 s9 s10) (r) sz) 0 0 (Afr ad 67 sz) := by
  refine metG (own := RX9) (by decide) rfl (Nat.le_of_ble_eq_true rfl) fstC ?_ sz
  intro p e s m below meth c ls C0 hw hl
  obtain ⟨hx, hb, hml, hown, hts, hr, hlk, hK, hN⟩ := C0
  have hl : lv_has ls 5 [(0, .ref (ad 9)), (1, .int a1), (2, .int a2)] := hl
  generalize hQ : MQ below (QcI D ad 67 (cellsC ad cy s0 s1 s2 s3 s4 s5 s6 s7 s8 s9 s10) (r) s.heap.size) ([.ref (ad 9), .int a1, .int a2] : List Value).toArray s 0 0 (Afr ad 67 s.heap.size) = Q
  obtain ⟨H, hH⟩ : ∃ H : Heap, H = s.heap := ⟨_, rfl⟩
  obtain ⟨locs, hlc⟩ : ∃ L : List Loc, L = [] := ⟨_, rfl⟩
  have hw : Wd D (cellsC ad cy s0 s1 s2 s3 s4 s5 s6 s7 s8 s9 s10) (Afr ad 67 s.heap.size) s.heap H locs := by rw [hH, hlc]; exact hw
  suffices h0 : W p l e (rmL 1) s m ([.ref (ad 9), .int a1, .int a2] : List Value).toArray below meth c H locs 0 0 Q (F0 m 0 ls []) by rw [hH, hlc] at h0; exact h0
  clear hH hlc
  unfold f9_nextTold at h
  have hJ_77 : ∀ (v3_j77 : Int32) (H : Heap) (locs : List Loc) (ls : Array Slot), f9_nextTold_j77 v3_j77 s9 = some r → Wd D (cellsC ad cy s0 s1 s2 s3 s4 s5 s6 s7 s8 s9 s10) (Afr ad 67 s.heap.size) s.heap H locs → lv_has ls 5 [(3, .int v3_j77)] → W p l e (rmL 1) s m ([.ref (ad 9), .int a1, .int a2] : List Value).toArray below meth c H locs 0 0 Q (F0 m 77 ls []) := by
    intro v3_j77 H locs ls h hw hl
    unfold f9_nextTold_j77 at h
    refine lv_iload_n hx hb dX9_nextTold_77 rfl (lv_at hl 0 rfl) ?_
    have h := Option.some.inj h
    subst h
    rw [← hQ]
    exact retI hx hb hr hlk hw rfl dX9_nextTold_78
  refine lv_iconst (v := (-1)) hx hb dX9_nextTold_0 (by decide) ?_
  refine lv_istore_n (lv' := [(3, .int ((-1 : Int32))), (0, .ref (ad 9)), (1, .int a1), (2, .int a2)]) hx hb dX9_nextTold_1 rfl hl (by decide) rfl (fun ls hl => ?_)
  refine lv_iconst (v := 0) hx hb dX9_nextTold_2 (by decide) ?_
  refine lv_istore (lv' := [(4, .int ((0 : Int32))), (3, .int ((-1 : Int32))), (0, .ref (ad 9)), (1, .int a1), (2, .int a2)]) hx hb dX9_nextTold_3 hl (by decide) rfl (fun ls hl => ?_)
  obtain ⟨n_5, hn_5⟩ := loop_e h
  have hL_5 : ∀ (n : Nat) (t_5 : Int32 × Int32) (H : Heap) (locs : List Loc) (ls : Array Slot), loopN (f9_nextTold_l5 a1 a2 s9) n t_5 = some r → Wd D (cellsC ad cy s0 s1 s2 s3 s4 s5 s6 s7 s8 s9 s10) (Afr ad 67 s.heap.size) s.heap H locs → lv_has ls 5 [(3, .int t_5.1), (4, .int t_5.2), (1, .int a1), (2, .int a2), (0, .ref (ad 9))] → W p l e (rmL 1) s m ([.ref (ad 9), .int a1, .int a2] : List Value).toArray below meth c H locs 0 0 Q (F0 m 5 ls []) := by
    intro n
    induction n with
    | zero => intro t_5 H locs ls hn; cases hn
    | succ n ih_5 =>
      intro t_5 H locs ls hn hw hl
      obtain ⟨x_5, h, hx_5⟩ := loopN_e hn
      unfold f9_nextTold_l5 at h
      have hJ_71 : ∀ (v3_j71 : Int32) (v4_j71 : Int32) (H : Heap) (locs : List Loc) (ls : Array Slot), f9_nextTold_j71 a1 a2 v3_j71 v4_j71 s9 = some x_5 → Wd D (cellsC ad cy s0 s1 s2 s3 s4 s5 s6 s7 s8 s9 s10) (Afr ad 67 s.heap.size) s.heap H locs → lv_has ls 5 [(0, .ref (ad 9)), (1, .int a1), (2, .int a2), (3, .int v3_j71), (4, .int v4_j71)] → W p l e (rmL 1) s m ([.ref (ad 9), .int a1, .int a2] : List Value).toArray below meth c H locs 0 0 Q (F0 m 71 ls []) := by
        intro v3_j71 v4_j71 H locs ls h hw hl
        unfold f9_nextTold_j71 at h
        obtain ⟨n_71, e_71, h⟩ := nam_e h
        refine lv_iinc (v := n_71) (lv' := [(4, .int n_71), (0, .ref (ad 9)), (1, .int a1), (2, .int a2), (3, .int v3_j71)]) hx hb dX9_nextTold_71 hl (k := 4) rfl (by rw [e_71]; rfl) (by decide) rfl (fun ls hl => ?_)
        refine lv_goto (tgt := 5) hx hb dX9_nextTold_74 (by decide) ?_
        exact ih_5 (v3_j71, n_71) H locs ls (nx_l hx_5 h) hw (lv_sub hl [4, 0, 2, 3, 1] rfl)
      have hJ_70 : ∀ (v4_j70 : Int32) (k0_j70 : Int32) (H : Heap) (locs : List Loc) (ls : Array Slot), f9_nextTold_j70 a1 a2 v4_j70 k0_j70 s9 = some x_5 → Wd D (cellsC ad cy s0 s1 s2 s3 s4 s5 s6 s7 s8 s9 s10) (Afr ad 67 s.heap.size) s.heap H locs → lv_has ls 5 [(0, .ref (ad 9)), (1, .int a1), (2, .int a2), (4, .int v4_j70)] → W p l e (rmL 1) s m ([.ref (ad 9), .int a1, .int a2] : List Value).toArray below meth c H locs 0 0 Q (F0 m 70 ls [.int k0_j70]) := by
        intro v4_j70 k0_j70 H locs ls h hw hl
        unfold f9_nextTold_j70 at h
        refine lv_istore_n (lv' := [(3, .int k0_j70), (0, .ref (ad 9)), (1, .int a1), (2, .int a2), (4, .int v4_j70)]) hx hb dX9_nextTold_70 rfl hl (by decide) rfl (fun ls hl => ?_)
        exact hJ_71 k0_j70 v4_j70 H locs ls h hw (lv_sub hl [1, 2, 3, 0, 4] rfl)
      refine lv_iload hx hb dX9_nextTold_5 (lv_at hl 1 rfl) ?_
      refine lv_aload_n hx hb dX9_nextTold_7 rfl (lv_at hl 4 rfl) ?_
      refine gX9_34 hx hb hts hown hK hw dX9_nextTold_8 ?_
      refine lv_icmp_ge (tgt := 77) hx hb dX9_nextTold_11 (by decide) (fun c_11 => ?_) (fun c_11 => ?_)
      · have h := ite_t c_11 h
        have h := nx_m hx_5 h
        exact hJ_77 t_5.1 H locs ls h hw (lv_sub hl [0] rfl)
      · have h := ite_f c_11 h
        refine lv_iload hx hb dX9_nextTold_14 (lv_at hl 1 rfl) ?_
        refine lv_sipush (v := 140) hx hb dX9_nextTold_16 (by decide) ?_
        refine lv_icmp_ge (tgt := 77) hx hb dX9_nextTold_19 (by decide) (fun c_19 => ?_) (fun c_19 => ?_)
        · have h := ite_t c_19 h
          have h := nx_m hx_5 h
          exact hJ_77 t_5.1 H locs ls h hw (lv_sub hl [0] rfl)
        · have h := ite_f c_19 h
          refine lv_aload_n hx hb dX9_nextTold_22 rfl (lv_at hl 4 rfl) ?_
          refine gX9_21 hx hb hts hown hK hw dX9_nextTold_23 ?_
          refine lv_iload hx hb dX9_nextTold_26 (lv_at hl 1 rfl) ?_
          obtain ⟨hi_28, h⟩ := chk_e h
          obtain ⟨y_28, e_28, h⟩ := nam_e h
          refine lC63 hx hb hK hw hi_28 e_28 dX9_nextTold_28 ?_
          refine lv_iload_n hx hb dX9_nextTold_29 rfl (lv_at hl 2 rfl) ?_
          refine lv_icmp_ne (tgt := 71) hx hb dX9_nextTold_30 (by decide) (fun c_30 => ?_) (fun c_30 => ?_)
          · have h := ite_f c_30 h
            exact hJ_71 t_5.1 t_5.2 H locs ls h hw (lv_sub hl [4, 2, 3, 0, 1] rfl)
          · have h := ite_t c_30 h
            refine lv_aload_n hx hb dX9_nextTold_33 rfl (lv_at hl 4 rfl) ?_
            refine gX9_27 hx hb hts hown hK hw dX9_nextTold_34 ?_
            refine lv_iload hx hb dX9_nextTold_37 (lv_at hl 1 rfl) ?_
            obtain ⟨hi_39, h⟩ := chk_e h
            obtain ⟨y_39, e_39, h⟩ := nam_e h
            refine lC65 hx hb hK hw hi_39 e_39 dX9_nextTold_39 ?_
            refine lv_iload_n hx hb dX9_nextTold_40 rfl (lv_at hl 3 rfl) ?_
            refine lv_icmp_le (tgt := 71) hx hb dX9_nextTold_41 (by decide) (fun c_41 => ?_) (fun c_41 => ?_)
            · have h := ite_t c_41 h
              exact hJ_71 t_5.1 t_5.2 H locs ls h hw (lv_sub hl [4, 2, 3, 0, 1] rfl)
            · have h := ite_f c_41 h
              refine lv_iload_n hx hb dX9_nextTold_44 rfl (lv_at hl 0 rfl) ?_
              refine lv_iconst (v := (-1)) hx hb dX9_nextTold_45 (by decide) ?_
              refine lv_icmp_ne (tgt := 59) hx hb dX9_nextTold_46 (by decide) (fun c_46 => ?_) (fun c_46 => ?_)
              · have h := ite_f c_46 h
                refine lv_iload_n hx hb dX9_nextTold_59 rfl (lv_at hl 0 rfl) ?_
                refine lv_aload_n hx hb dX9_nextTold_60 rfl (lv_at hl 4 rfl) ?_
                refine gX9_27 hx hb hts hown hK hw dX9_nextTold_61 ?_
                refine lv_iload hx hb dX9_nextTold_64 (lv_at hl 1 rfl) ?_
                obtain ⟨hi_66, h⟩ := chk_e h
                obtain ⟨y_66, e_66, h⟩ := nam_e h
                refine lC65 hx hb hK hw hi_66 e_66 dX9_nextTold_66 ?_
                refine va_mmin hx hb (hml.trans hl.1.symm) hown (hts _ (wd_5 (w := .methodLink RX9 70 Lib.Math.min.name) (i := 93) (by decide +kernel) rfl)) (hts _ (wd_3 (w := .static Lib.Math.min.name) (i := 176) (by decide +kernel) rfl)) (hts _ (wd_1 (w := .initialized "java/lang/Math") (i := 15) (by decide +kernel) rfl)) (hts _ (wd_3 (w := .code Lib.Math.min.name Lib.Math.min.code 2 (some .int)) (i := 177) (by decide +kernel) rfl)) (Nat.le_of_ble_eq_true rfl) (Nat.le_of_ble_eq_true rfl) (Nat.zero_le _) (Nat.zero_le _) dX9_nextTold_67 ?_
                exact hJ_70 t_5.2 ((if y_66 < t_5.1 then y_66 else t_5.1)) H locs ls h hw (lv_sub hl [4, 2, 3, 1] rfl)
              · have h := ite_t c_46 h
                refine lv_aload_n hx hb dX9_nextTold_49 rfl (lv_at hl 4 rfl) ?_
                refine gX9_27 hx hb hts hown hK hw dX9_nextTold_50 ?_
                refine lv_iload hx hb dX9_nextTold_53 (lv_at hl 1 rfl) ?_
                obtain ⟨hi_55, h⟩ := chk_e h
                obtain ⟨y_55, e_55, h⟩ := nam_e h
                refine lC65 hx hb hK hw hi_55 e_55 dX9_nextTold_55 ?_
                refine lv_goto (tgt := 70) hx hb dX9_nextTold_56 (by decide) ?_
                exact hJ_70 t_5.2 y_55 H locs ls h hw (lv_sub hl [4, 2, 3, 1] rfl)
  exact hL_5 n_5 ((-1 : Int32), (0 : Int32)) H locs ls hn_5 hw (lv_sub hl [1, 0, 3, 4, 2] rfl)
theorem dX9_placeTold_0 : decode cX9_placeTold 0 = .ok (.iconst (-1), 1) := by decide +kernel
theorem dX9_placeTold_1 : decode cX9_placeTold 1 = .ok (.istore_n 3, 1) := by decide +kernel
theorem dX9_placeTold_2 : decode cX9_placeTold 2 = .ok (.iconst 0, 1) := by decide +kernel
theorem dX9_placeTold_3 : decode cX9_placeTold 3 = .ok (.istore 4, 2) := by decide +kernel
theorem dX9_placeTold_5 : decode cX9_placeTold 5 = .ok (.iload 4, 2) := by decide +kernel
theorem dX9_placeTold_7 : decode cX9_placeTold 7 = .ok (.aload_n 0, 1) := by decide +kernel
theorem dX9_placeTold_8 : decode cX9_placeTold 8 = .ok (.getfield 34, 3) := by decide +kernel
theorem dX9_placeTold_11 : decode cX9_placeTold 11 = .ok (.if_icmp .ge 68, 3) := by decide +kernel
theorem dX9_placeTold_14 : decode cX9_placeTold 14 = .ok (.iload 4, 2) := by decide +kernel
theorem dX9_placeTold_16 : decode cX9_placeTold 16 = .ok (.sipush 140, 3) := by decide +kernel
theorem dX9_placeTold_19 : decode cX9_placeTold 19 = .ok (.if_icmp .ge 60, 3) := by decide +kernel
theorem dX9_placeTold_22 : decode cX9_placeTold 22 = .ok (.aload_n 0, 1) := by decide +kernel
theorem dX9_placeTold_23 : decode cX9_placeTold 23 = .ok (.getfield 21, 3) := by decide +kernel
theorem dX9_placeTold_26 : decode cX9_placeTold 26 = .ok (.iload 4, 2) := by decide +kernel
theorem dX9_placeTold_28 : decode cX9_placeTold 28 = .ok (.iaload, 1) := by decide +kernel
theorem dX9_placeTold_29 : decode cX9_placeTold 29 = .ok (.iload_n 1, 1) := by decide +kernel
theorem dX9_placeTold_30 : decode cX9_placeTold 30 = .ok (.if_icmp .ne 43, 3) := by decide +kernel
theorem dX9_placeTold_33 : decode cX9_placeTold 33 = .ok (.aload_n 0, 1) := by decide +kernel
theorem dX9_placeTold_34 : decode cX9_placeTold 34 = .ok (.getfield 27, 3) := by decide +kernel
theorem dX9_placeTold_37 : decode cX9_placeTold 37 = .ok (.iload 4, 2) := by decide +kernel
theorem dX9_placeTold_39 : decode cX9_placeTold 39 = .ok (.iaload, 1) := by decide +kernel
theorem dX9_placeTold_40 : decode cX9_placeTold 40 = .ok (.iload_n 2, 1) := by decide +kernel
theorem dX9_placeTold_41 : decode cX9_placeTold 41 = .ok (.if_icmp .ne 32, 3) := by decide +kernel
theorem dX9_placeTold_44 : decode cX9_placeTold 44 = .ok (.aload_n 0, 1) := by decide +kernel
theorem dX9_placeTold_45 : decode cX9_placeTold 45 = .ok (.getfield 24, 3) := by decide +kernel
theorem dX9_placeTold_48 : decode cX9_placeTold 48 = .ok (.iload 4, 2) := by decide +kernel
theorem dX9_placeTold_50 : decode cX9_placeTold 50 = .ok (.iaload, 1) := by decide +kernel
theorem dX9_placeTold_51 : decode cX9_placeTold 51 = .ok (.iload_n 3, 1) := by decide +kernel
theorem dX9_placeTold_52 : decode cX9_placeTold 52 = .ok (.if_icmp .eq 21, 3) := by decide +kernel
theorem dX9_placeTold_55 : decode cX9_placeTold 55 = .ok (.iload_n 3, 1) := by decide +kernel
theorem dX9_placeTold_56 : decode cX9_placeTold 56 = .ok (.iconst (-1), 1) := by decide +kernel
theorem dX9_placeTold_57 : decode cX9_placeTold 57 = .ok (.if_icmp .ne 13, 3) := by decide +kernel
theorem dX9_placeTold_60 : decode cX9_placeTold 60 = .ok (.aload_n 0, 1) := by decide +kernel
theorem dX9_placeTold_61 : decode cX9_placeTold 61 = .ok (.getfield 24, 3) := by decide +kernel
theorem dX9_placeTold_64 : decode cX9_placeTold 64 = .ok (.iload 4, 2) := by decide +kernel
theorem dX9_placeTold_66 : decode cX9_placeTold 66 = .ok (.iaload, 1) := by decide +kernel
theorem dX9_placeTold_67 : decode cX9_placeTold 67 = .ok (.goto 5, 3) := by decide +kernel
theorem dX9_placeTold_70 : decode cX9_placeTold 70 = .ok (.bipush (-2), 2) := by decide +kernel
theorem dX9_placeTold_72 : decode cX9_placeTold 72 = .ok (.istore_n 3, 1) := by decide +kernel
theorem dX9_placeTold_73 : decode cX9_placeTold 73 = .ok (.iinc 4 1, 3) := by decide +kernel
theorem dX9_placeTold_76 : decode cX9_placeTold 76 = .ok (.goto (-71), 3) := by decide +kernel
theorem dX9_placeTold_79 : decode cX9_placeTold 79 = .ok (.iload_n 3, 1) := by decide +kernel
theorem dX9_placeTold_80 : decode cX9_placeTold 80 = .ok (.ireturn, 1) := by decide +kernel
noncomputable def f9_placeTold_j79 (v3_j79 : Int32) (s9_j79 : OS) : Option (Int32) := some v3_j79
noncomputable def f9_placeTold_j73 (v1_j73 : Int32) (v2_j73 : Int32) (v3_j73 : Int32) (v4_j73 : Int32) (s9_j73 : OS) : Option ((Int32 × Int32) ⊕ (Int32)) := nm (v4_j73 + (1 : Int32)) fun n_73 => some (Sum.inl (v3_j73, n_73))
noncomputable def f9_placeTold_j72 (v1_j72 : Int32) (v2_j72 : Int32) (v4_j72 : Int32) (k0_j72 : Int32) (s9_j72 : OS) : Option ((Int32 × Int32) ⊕ (Int32)) := f9_placeTold_j73 v1_j72 v2_j72 k0_j72 v4_j72 s9_j72
noncomputable def f9_placeTold_l5 (v1_i5 : Int32) (v2_i5 : Int32) (s9_i5 : OS) : Int32 × Int32 → Option ((Int32 × Int32) ⊕ (Int32)) := fun t_5 => if (s9_i5.1 0 7) ≤ t_5.2 then (Option.map Sum.inr (f9_placeTold_j79 t_5.1 s9_i5)) else (if (140 : Int32) ≤ t_5.2 then (Option.map Sum.inr (f9_placeTold_j79 t_5.1 s9_i5)) else (chk (inb t_5.2 140) (nm (s9_i5.1 4 t_5.2.toNatClampNeg) fun y_28 => if y_28 = v1_i5 then (chk (inb t_5.2 140) (nm (s9_i5.1 6 t_5.2.toNatClampNeg) fun y_39 => if y_39 = v2_i5 then (chk (inb t_5.2 140) (nm (s9_i5.1 5 t_5.2.toNatClampNeg) fun y_50 => if y_50 = t_5.1 then (f9_placeTold_j73 v1_i5 v2_i5 t_5.1 t_5.2 s9_i5) else (if t_5.1 = (-1 : Int32) then (chk (inb t_5.2 140) (nm (s9_i5.1 5 t_5.2.toNatClampNeg) fun y_66 => f9_placeTold_j72 v1_i5 v2_i5 t_5.2 y_66 s9_i5)) else (f9_placeTold_j72 v1_i5 v2_i5 t_5.2 ((-2 : Int32)) s9_i5)))) else (f9_placeTold_j73 v1_i5 v2_i5 t_5.1 t_5.2 s9_i5))) else (f9_placeTold_j73 v1_i5 v2_i5 t_5.1 t_5.2 s9_i5))))
noncomputable def f9_placeTold (a1 : Int32) (a2 : Int32) (s9 : OS) : Option (Int32) := loop (f9_placeTold_l5 a1 a2 s9) ((-1 : Int32), (0 : Int32))
set_option maxHeartbeats 4000000 in
set_option maxRecDepth 100000 in
theorem m9_placeTold (l : Launch) (D : va_G) (ad : Nat → Nat) (cy : Nat → ClassId) (sz : Nat) (s0 s1 s2 s3 s4 s5 s6 s7 s8 s9 s10 : OS) (a1 : Int32) (a2 : Int32) (r : Int32) (h : f9_placeTold a1 a2 s9 = some r) : Met l yX9_placeTold (wsOf yX9_placeTold cX9_placeTold 5 (some .int)) (rmL 0) (va_Pc ([.ref (ad 9), .int a1, .int a2] : List Value) (PreG D cy (cellsC ad cy s0 s1 s2 s3 s4 s5 s6 s7 s8 s9 s10) sz (NC ad))) (QcI D ad 67 (cellsC ad cy s0 s1 s2 s3 s4 s5 s6 s7 s8 s9 s10) (r) sz) 0 0 (Afr ad 67 sz) := by
  refine metG (own := RX9) (by decide) rfl (Nat.le_of_ble_eq_true rfl) fstC ?_ sz
  intro p e s m below meth c ls C0 hw hl
  obtain ⟨hx, hb, hml, hown, hts, hr, hlk, hK, hN⟩ := C0
  have hl : lv_has ls 5 [(0, .ref (ad 9)), (1, .int a1), (2, .int a2)] := hl
  generalize hQ : MQ below (QcI D ad 67 (cellsC ad cy s0 s1 s2 s3 s4 s5 s6 s7 s8 s9 s10) (r) s.heap.size) ([.ref (ad 9), .int a1, .int a2] : List Value).toArray s 0 0 (Afr ad 67 s.heap.size) = Q
  obtain ⟨H, hH⟩ : ∃ H : Heap, H = s.heap := ⟨_, rfl⟩
  obtain ⟨locs, hlc⟩ : ∃ L : List Loc, L = [] := ⟨_, rfl⟩
  have hw : Wd D (cellsC ad cy s0 s1 s2 s3 s4 s5 s6 s7 s8 s9 s10) (Afr ad 67 s.heap.size) s.heap H locs := by rw [hH, hlc]; exact hw
  suffices h0 : W p l e (rmL 0) s m ([.ref (ad 9), .int a1, .int a2] : List Value).toArray below meth c H locs 0 0 Q (F0 m 0 ls []) by rw [hH, hlc] at h0; exact h0
  clear hH hlc
  unfold f9_placeTold at h
  have hJ_79 : ∀ (v3_j79 : Int32) (H : Heap) (locs : List Loc) (ls : Array Slot), f9_placeTold_j79 v3_j79 s9 = some r → Wd D (cellsC ad cy s0 s1 s2 s3 s4 s5 s6 s7 s8 s9 s10) (Afr ad 67 s.heap.size) s.heap H locs → lv_has ls 5 [(3, .int v3_j79)] → W p l e (rmL 0) s m ([.ref (ad 9), .int a1, .int a2] : List Value).toArray below meth c H locs 0 0 Q (F0 m 79 ls []) := by
    intro v3_j79 H locs ls h hw hl
    unfold f9_placeTold_j79 at h
    refine lv_iload_n hx hb dX9_placeTold_79 rfl (lv_at hl 0 rfl) ?_
    have h := Option.some.inj h
    subst h
    rw [← hQ]
    exact retI hx hb hr hlk hw rfl dX9_placeTold_80
  refine lv_iconst (v := (-1)) hx hb dX9_placeTold_0 (by decide) ?_
  refine lv_istore_n (lv' := [(3, .int ((-1 : Int32))), (0, .ref (ad 9)), (1, .int a1), (2, .int a2)]) hx hb dX9_placeTold_1 rfl hl (by decide) rfl (fun ls hl => ?_)
  refine lv_iconst (v := 0) hx hb dX9_placeTold_2 (by decide) ?_
  refine lv_istore (lv' := [(4, .int ((0 : Int32))), (3, .int ((-1 : Int32))), (0, .ref (ad 9)), (1, .int a1), (2, .int a2)]) hx hb dX9_placeTold_3 hl (by decide) rfl (fun ls hl => ?_)
  obtain ⟨n_5, hn_5⟩ := loop_e h
  have hL_5 : ∀ (n : Nat) (t_5 : Int32 × Int32) (H : Heap) (locs : List Loc) (ls : Array Slot), loopN (f9_placeTold_l5 a1 a2 s9) n t_5 = some r → Wd D (cellsC ad cy s0 s1 s2 s3 s4 s5 s6 s7 s8 s9 s10) (Afr ad 67 s.heap.size) s.heap H locs → lv_has ls 5 [(3, .int t_5.1), (4, .int t_5.2), (1, .int a1), (2, .int a2), (0, .ref (ad 9))] → W p l e (rmL 0) s m ([.ref (ad 9), .int a1, .int a2] : List Value).toArray below meth c H locs 0 0 Q (F0 m 5 ls []) := by
    intro n
    induction n with
    | zero => intro t_5 H locs ls hn; cases hn
    | succ n ih_5 =>
      intro t_5 H locs ls hn hw hl
      obtain ⟨x_5, h, hx_5⟩ := loopN_e hn
      unfold f9_placeTold_l5 at h
      have hJ_73 : ∀ (v3_j73 : Int32) (v4_j73 : Int32) (H : Heap) (locs : List Loc) (ls : Array Slot), f9_placeTold_j73 a1 a2 v3_j73 v4_j73 s9 = some x_5 → Wd D (cellsC ad cy s0 s1 s2 s3 s4 s5 s6 s7 s8 s9 s10) (Afr ad 67 s.heap.size) s.heap H locs → lv_has ls 5 [(0, .ref (ad 9)), (1, .int a1), (2, .int a2), (3, .int v3_j73), (4, .int v4_j73)] → W p l e (rmL 0) s m ([.ref (ad 9), .int a1, .int a2] : List Value).toArray below meth c H locs 0 0 Q (F0 m 73 ls []) := by
        intro v3_j73 v4_j73 H locs ls h hw hl
        unfold f9_placeTold_j73 at h
        obtain ⟨n_73, e_73, h⟩ := nam_e h
        refine lv_iinc (v := n_73) (lv' := [(4, .int n_73), (0, .ref (ad 9)), (1, .int a1), (2, .int a2), (3, .int v3_j73)]) hx hb dX9_placeTold_73 hl (k := 4) rfl (by rw [e_73]; rfl) (by decide) rfl (fun ls hl => ?_)
        refine lv_goto (tgt := 5) hx hb dX9_placeTold_76 (by decide) ?_
        exact ih_5 (v3_j73, n_73) H locs ls (nx_l hx_5 h) hw (lv_sub hl [4, 0, 2, 3, 1] rfl)
      have hJ_72 : ∀ (v4_j72 : Int32) (k0_j72 : Int32) (H : Heap) (locs : List Loc) (ls : Array Slot), f9_placeTold_j72 a1 a2 v4_j72 k0_j72 s9 = some x_5 → Wd D (cellsC ad cy s0 s1 s2 s3 s4 s5 s6 s7 s8 s9 s10) (Afr ad 67 s.heap.size) s.heap H locs → lv_has ls 5 [(0, .ref (ad 9)), (1, .int a1), (2, .int a2), (4, .int v4_j72)] → W p l e (rmL 0) s m ([.ref (ad 9), .int a1, .int a2] : List Value).toArray below meth c H locs 0 0 Q (F0 m 72 ls [.int k0_j72]) := by
        intro v4_j72 k0_j72 H locs ls h hw hl
        unfold f9_placeTold_j72 at h
        refine lv_istore_n (lv' := [(3, .int k0_j72), (0, .ref (ad 9)), (1, .int a1), (2, .int a2), (4, .int v4_j72)]) hx hb dX9_placeTold_72 rfl hl (by decide) rfl (fun ls hl => ?_)
        exact hJ_73 k0_j72 v4_j72 H locs ls h hw (lv_sub hl [1, 2, 3, 0, 4] rfl)
      refine lv_iload hx hb dX9_placeTold_5 (lv_at hl 1 rfl) ?_
      refine lv_aload_n hx hb dX9_placeTold_7 rfl (lv_at hl 4 rfl) ?_
      refine gX9_34 hx hb hts hown hK hw dX9_placeTold_8 ?_
      refine lv_icmp_ge (tgt := 79) hx hb dX9_placeTold_11 (by decide) (fun c_11 => ?_) (fun c_11 => ?_)
      · have h := ite_t c_11 h
        have h := nx_m hx_5 h
        exact hJ_79 t_5.1 H locs ls h hw (lv_sub hl [0] rfl)
      · have h := ite_f c_11 h
        refine lv_iload hx hb dX9_placeTold_14 (lv_at hl 1 rfl) ?_
        refine lv_sipush (v := 140) hx hb dX9_placeTold_16 (by decide) ?_
        refine lv_icmp_ge (tgt := 79) hx hb dX9_placeTold_19 (by decide) (fun c_19 => ?_) (fun c_19 => ?_)
        · have h := ite_t c_19 h
          have h := nx_m hx_5 h
          exact hJ_79 t_5.1 H locs ls h hw (lv_sub hl [0] rfl)
        · have h := ite_f c_19 h
          refine lv_aload_n hx hb dX9_placeTold_22 rfl (lv_at hl 4 rfl) ?_
          refine gX9_21 hx hb hts hown hK hw dX9_placeTold_23 ?_
          refine lv_iload hx hb dX9_placeTold_26 (lv_at hl 1 rfl) ?_
          obtain ⟨hi_28, h⟩ := chk_e h
          obtain ⟨y_28, e_28, h⟩ := nam_e h
          refine lC63 hx hb hK hw hi_28 e_28 dX9_placeTold_28 ?_
          refine lv_iload_n hx hb dX9_placeTold_29 rfl (lv_at hl 2 rfl) ?_
          refine lv_icmp_ne (tgt := 73) hx hb dX9_placeTold_30 (by decide) (fun c_30 => ?_) (fun c_30 => ?_)
          · have h := ite_f c_30 h
            exact hJ_73 t_5.1 t_5.2 H locs ls h hw (lv_sub hl [4, 2, 3, 0, 1] rfl)
          · have h := ite_t c_30 h
            refine lv_aload_n hx hb dX9_placeTold_33 rfl (lv_at hl 4 rfl) ?_
            refine gX9_27 hx hb hts hown hK hw dX9_placeTold_34 ?_
            refine lv_iload hx hb dX9_placeTold_37 (lv_at hl 1 rfl) ?_
            obtain ⟨hi_39, h⟩ := chk_e h
            obtain ⟨y_39, e_39, h⟩ := nam_e h
            refine lC65 hx hb hK hw hi_39 e_39 dX9_placeTold_39 ?_
            refine lv_iload_n hx hb dX9_placeTold_40 rfl (lv_at hl 3 rfl) ?_
            refine lv_icmp_ne (tgt := 73) hx hb dX9_placeTold_41 (by decide) (fun c_41 => ?_) (fun c_41 => ?_)
            · have h := ite_f c_41 h
              exact hJ_73 t_5.1 t_5.2 H locs ls h hw (lv_sub hl [4, 2, 3, 0, 1] rfl)
            · have h := ite_t c_41 h
              refine lv_aload_n hx hb dX9_placeTold_44 rfl (lv_at hl 4 rfl) ?_
              refine gX9_24 hx hb hts hown hK hw dX9_placeTold_45 ?_
              refine lv_iload hx hb dX9_placeTold_48 (lv_at hl 1 rfl) ?_
              obtain ⟨hi_50, h⟩ := chk_e h
              obtain ⟨y_50, e_50, h⟩ := nam_e h
              refine lC64 hx hb hK hw hi_50 e_50 dX9_placeTold_50 ?_
              refine lv_iload_n hx hb dX9_placeTold_51 rfl (lv_at hl 0 rfl) ?_
              refine lv_icmp_eq (tgt := 73) hx hb dX9_placeTold_52 (by decide) (fun c_52 => ?_) (fun c_52 => ?_)
              · have h := ite_t c_52 h
                exact hJ_73 t_5.1 t_5.2 H locs ls h hw (lv_sub hl [4, 2, 3, 0, 1] rfl)
              · have h := ite_f c_52 h
                refine lv_iload_n hx hb dX9_placeTold_55 rfl (lv_at hl 0 rfl) ?_
                refine lv_iconst (v := (-1)) hx hb dX9_placeTold_56 (by decide) ?_
                refine lv_icmp_ne (tgt := 70) hx hb dX9_placeTold_57 (by decide) (fun c_57 => ?_) (fun c_57 => ?_)
                · have h := ite_f c_57 h
                  refine lv_bipush (v := (-2)) hx hb dX9_placeTold_70 (by decide) ?_
                  exact hJ_72 t_5.2 ((-2 : Int32)) H locs ls h hw (lv_sub hl [4, 2, 3, 1] rfl)
                · have h := ite_t c_57 h
                  refine lv_aload_n hx hb dX9_placeTold_60 rfl (lv_at hl 4 rfl) ?_
                  refine gX9_24 hx hb hts hown hK hw dX9_placeTold_61 ?_
                  refine lv_iload hx hb dX9_placeTold_64 (lv_at hl 1 rfl) ?_
                  obtain ⟨hi_66, h⟩ := chk_e h
                  obtain ⟨y_66, e_66, h⟩ := nam_e h
                  refine lC64 hx hb hK hw hi_66 e_66 dX9_placeTold_66 ?_
                  refine lv_goto (tgt := 72) hx hb dX9_placeTold_67 (by decide) ?_
                  exact hJ_72 t_5.2 y_66 H locs ls h hw (lv_sub hl [4, 2, 3, 1] rfl)
  exact hL_5 n_5 ((-1 : Int32), (0 : Int32)) H locs ls hn_5 hw (lv_sub hl [1, 0, 3, 4, 2] rfl)
theorem dX9_goOnFrom_0 : decode cX9_goOnFrom 0 = .ok (.iload_n 1, 1) := by decide +kernel
theorem dX9_goOnFrom_1 : decode cX9_goOnFrom 1 = .ok (.invokestatic 45, 3) := by decide +kernel
theorem dX9_goOnFrom_4 : decode cX9_goOnFrom 4 = .ok (.ifCond .ne 4, 3) := by decide +kernel
theorem dX9_goOnFrom_7 : decode cX9_goOnFrom 7 = .ok (.return_, 1) := by decide +kernel
theorem dX9_goOnFrom_8 : decode cX9_goOnFrom 8 = .ok (.iconst 0, 1) := by decide +kernel
theorem dX9_goOnFrom_9 : decode cX9_goOnFrom 9 = .ok (.istore_n 2, 1) := by decide +kernel
theorem dX9_goOnFrom_10 : decode cX9_goOnFrom 10 = .ok (.iload_n 2, 1) := by decide +kernel
theorem dX9_goOnFrom_11 : decode cX9_goOnFrom 11 = .ok (.bipush 16, 2) := by decide +kernel
theorem dX9_goOnFrom_13 : decode cX9_goOnFrom 13 = .ok (.if_icmp .ge 48, 3) := by decide +kernel
theorem dX9_goOnFrom_16 : decode cX9_goOnFrom 16 = .ok (.aload_n 0, 1) := by decide +kernel
theorem dX9_goOnFrom_17 : decode cX9_goOnFrom 17 = .ok (.getfield 11, 3) := by decide +kernel
theorem dX9_goOnFrom_20 : decode cX9_goOnFrom 20 = .ok (.iload_n 1, 1) := by decide +kernel
theorem dX9_goOnFrom_21 : decode cX9_goOnFrom 21 = .ok (.bipush 16, 2) := by decide +kernel
theorem dX9_goOnFrom_23 : decode cX9_goOnFrom 23 = .ok (.imul, 1) := by decide +kernel
theorem dX9_goOnFrom_24 : decode cX9_goOnFrom 24 = .ok (.iload_n 2, 1) := by decide +kernel
theorem dX9_goOnFrom_25 : decode cX9_goOnFrom 25 = .ok (.iadd, 1) := by decide +kernel
theorem dX9_goOnFrom_26 : decode cX9_goOnFrom 26 = .ok (.iaload, 1) := by decide +kernel
theorem dX9_goOnFrom_27 : decode cX9_goOnFrom 27 = .ok (.istore_n 3, 1) := by decide +kernel
theorem dX9_goOnFrom_28 : decode cX9_goOnFrom 28 = .ok (.iload_n 3, 1) := by decide +kernel
theorem dX9_goOnFrom_29 : decode cX9_goOnFrom 29 = .ok (.ifCond .le 26, 3) := by decide +kernel
theorem dX9_goOnFrom_32 : decode cX9_goOnFrom 32 = .ok (.aload_n 0, 1) := by decide +kernel
theorem dX9_goOnFrom_33 : decode cX9_goOnFrom 33 = .ok (.getfield 15, 3) := by decide +kernel
theorem dX9_goOnFrom_36 : decode cX9_goOnFrom 36 = .ok (.iload_n 2, 1) := by decide +kernel
theorem dX9_goOnFrom_37 : decode cX9_goOnFrom 37 = .ok (.aload_n 0, 1) := by decide +kernel
theorem dX9_goOnFrom_38 : decode cX9_goOnFrom 38 = .ok (.getfield 15, 3) := by decide +kernel
theorem dX9_goOnFrom_41 : decode cX9_goOnFrom 41 = .ok (.iload_n 2, 1) := by decide +kernel
theorem dX9_goOnFrom_42 : decode cX9_goOnFrom 42 = .ok (.iaload, 1) := by decide +kernel
theorem dX9_goOnFrom_43 : decode cX9_goOnFrom 43 = .ok (.aload_n 0, 1) := by decide +kernel
theorem dX9_goOnFrom_44 : decode cX9_goOnFrom 44 = .ok (.getfield 15, 3) := by decide +kernel
theorem dX9_goOnFrom_47 : decode cX9_goOnFrom 47 = .ok (.iload_n 1, 1) := by decide +kernel
theorem dX9_goOnFrom_48 : decode cX9_goOnFrom 48 = .ok (.iaload, 1) := by decide +kernel
theorem dX9_goOnFrom_49 : decode cX9_goOnFrom 49 = .ok (.iload_n 3, 1) := by decide +kernel
theorem dX9_goOnFrom_50 : decode cX9_goOnFrom 50 = .ok (.iadd, 1) := by decide +kernel
theorem dX9_goOnFrom_51 : decode cX9_goOnFrom 51 = .ok (.invokestatic 70, 3) := by decide +kernel
theorem dX9_goOnFrom_54 : decode cX9_goOnFrom 54 = .ok (.iastore, 1) := by decide +kernel
theorem dX9_goOnFrom_55 : decode cX9_goOnFrom 55 = .ok (.iinc 2 1, 3) := by decide +kernel
theorem dX9_goOnFrom_58 : decode cX9_goOnFrom 58 = .ok (.goto (-48), 3) := by decide +kernel
theorem dX9_goOnFrom_61 : decode cX9_goOnFrom 61 = .ok (.return_, 1) := by decide +kernel
noncomputable def f9_goOnFrom_j55 (v1_j55 : Int32) (v2_j55 : Int32) (s9_j55 : OS) : Option ((Int32 × OS) ⊕ (OS)) := nm (v2_j55 + (1 : Int32)) fun n_55 => some (Sum.inl (n_55, s9_j55))
noncomputable def f9_goOnFrom_l10 (v1_i10 : Int32) : Int32 × OS → Option ((Int32 × OS) ⊕ (OS)) := fun t_10 => if (16 : Int32) ≤ t_10.1 then (Option.map Sum.inr (some t_10.2)) else (chk (inb (((v1_i10 * (16 : Int32)) + t_10.1)) 256) (nm (t_10.2.1 1 (((v1_i10 * (16 : Int32)) + t_10.1)).toNatClampNeg) fun y_26 => if y_26 ≤ 0 then (f9_goOnFrom_j55 v1_i10 t_10.1 t_10.2) else (chk (inb t_10.1 16) (nm (t_10.2.1 2 t_10.1.toNatClampNeg) fun y_42 => chk (inb v1_i10 16) (nm (t_10.2.1 2 v1_i10.toNatClampNeg) fun y_48 => chk (inb t_10.1 16) (nm (wI t_10.2 2 t_10.1.toNatClampNeg ((if (y_48 + y_26) < y_42 then (y_48 + y_26) else y_42))) fun s9_54 => f9_goOnFrom_j55 v1_i10 t_10.1 s9_54))))))
noncomputable def f9_goOnFrom (a1 : Int32) (s9 : OS) : Option (OS) := Option.bind (f10_isPlace a1) fun q_1 => if q_1 = 0 then (some s9) else (loop (f9_goOnFrom_l10 a1) ((0 : Int32), s9))
set_option maxHeartbeats 4000000 in
set_option maxRecDepth 100000 in
theorem m9_goOnFrom (l : Launch) (D : va_G) (ad : Nat → Nat) (cy : Nat → ClassId) (sz : Nat) (s0 s1 s2 s3 s4 s5 s6 s7 s8 s9 s10 : OS) (a1 : Int32) (r : OS) (h : f9_goOnFrom a1 s9 = some r) : Met l yX9_goOnFrom (wsOf yX9_goOnFrom cX9_goOnFrom 4 none) (rmL 2) (va_Pc ([.ref (ad 9), .int a1] : List Value) (PreG D cy (cellsC ad cy s0 s1 s2 s3 s4 s5 s6 s7 s8 s9 s10) sz (NC ad))) (QcV D ad 67 (cellsC ad cy s0 s1 s2 s3 s4 s5 s6 s7 s8 r s10) sz) 0 0 (Afr ad 67 sz) := by
  refine metG (own := RX9) (by decide) rfl (Nat.le_of_ble_eq_true rfl) fstC ?_ sz
  intro p e s m below meth c ls C0 hw hl
  obtain ⟨hx, hb, hml, hown, hts, hr, hlk, hK, hN⟩ := C0
  have hl : lv_has ls 4 [(0, .ref (ad 9)), (1, .int a1)] := hl
  generalize hQ : MQ below (QcV D ad 67 (cellsC ad cy s0 s1 s2 s3 s4 s5 s6 s7 s8 r s10) s.heap.size) ([.ref (ad 9), .int a1] : List Value).toArray s 0 0 (Afr ad 67 s.heap.size) = Q
  obtain ⟨H, hH⟩ : ∃ H : Heap, H = s.heap := ⟨_, rfl⟩
  obtain ⟨locs, hlc⟩ : ∃ L : List Loc, L = [] := ⟨_, rfl⟩
  have hw : Wd D (cellsC ad cy s0 s1 s2 s3 s4 s5 s6 s7 s8 s9 s10) (Afr ad 67 s.heap.size) s.heap H locs := by rw [hH, hlc]; exact hw
  suffices h0 : W p l e (rmL 2) s m ([.ref (ad 9), .int a1] : List Value).toArray below meth c H locs 0 0 Q (F0 m 0 ls []) by rw [hH, hlc] at h0; exact h0
  clear hH hlc
  unfold f9_goOnFrom at h
  refine lv_iload_n hx hb dX9_goOnFrom_0 rfl (lv_at hl 1 rfl) ?_
  obtain ⟨q_1, h_1, h⟩ := bnd_e h
  have pg_1 := preG (av := [.int a1]) hK hw.1 hw.2.1 (NC_keep hN hw.2.2) NC_blind
  refine endI (mc := 0) (ms := 0) (va_runSN (As := [.int a1]) (rest := []) ⟨hx, hb, hml, hown, hts⟩ (m10_isPlace l D ad cy H.size s0 s1 s2 s3 s4 s5 s6 s7 s8 s9 s10 a1 q_1 h_1) (wX9_45 1 hts hN.2.2.1 ⟨Nat.le_of_ble_eq_true rfl, Nat.le_of_ble_eq_true rfl⟩) pg_1 rfl rfl hl.1 rfl (lv_room (Nat.le_of_ble_eq_true rfl)) dX9_goOnFrom_1 ⟨Nat.le_refl _, Nat.le_refl _⟩) hw.2.2 (afr_in hw.2.2) (fun H locs hw => ?_)
  refine lv_if_ne (tgt := 8) hx hb dX9_goOnFrom_4 (by decide) (fun c_4 => ?_) (fun c_4 => ?_)
  · have h := ite_f c_4 h
    refine lv_iconst (v := 0) hx hb dX9_goOnFrom_8 (by decide) ?_
    refine lv_istore_n (lv' := [(2, .int ((0 : Int32))), (0, .ref (ad 9)), (1, .int a1)]) hx hb dX9_goOnFrom_9 rfl hl (by decide) rfl (fun ls hl => ?_)
    obtain ⟨n_10, hn_10⟩ := loop_e h
    have hL_10 : ∀ (n : Nat) (t_10 : Int32 × OS) (H : Heap) (locs : List Loc) (ls : Array Slot), loopN (f9_goOnFrom_l10 a1) n t_10 = some r → Wd D (cellsC ad cy s0 s1 s2 s3 s4 s5 s6 s7 s8 t_10.2 s10) (Afr ad 67 s.heap.size) s.heap H locs → lv_has ls 4 [(2, .int t_10.1), (1, .int a1), (0, .ref (ad 9))] → W p l e (rmL 2) s m ([.ref (ad 9), .int a1] : List Value).toArray below meth c H locs 0 0 Q (F0 m 10 ls []) := by
      intro n
      induction n with
      | zero => intro t_10 H locs ls hn; cases hn
      | succ n ih_10 =>
        intro t_10 H locs ls hn hw hl
        obtain ⟨x_10, h, hx_10⟩ := loopN_e hn
        unfold f9_goOnFrom_l10 at h
        have hJ_55 : ∀ (v2_j55 : Int32) (s9_j55 : OS) (H : Heap) (locs : List Loc) (ls : Array Slot), f9_goOnFrom_j55 a1 v2_j55 s9_j55 = some x_10 → Wd D (cellsC ad cy s0 s1 s2 s3 s4 s5 s6 s7 s8 s9_j55 s10) (Afr ad 67 s.heap.size) s.heap H locs → lv_has ls 4 [(0, .ref (ad 9)), (1, .int a1), (2, .int v2_j55)] → W p l e (rmL 2) s m ([.ref (ad 9), .int a1] : List Value).toArray below meth c H locs 0 0 Q (F0 m 55 ls []) := by
          intro v2_j55 s9_j55 H locs ls h hw hl
          unfold f9_goOnFrom_j55 at h
          obtain ⟨n_55, e_55, h⟩ := nam_e h
          refine lv_iinc (v := n_55) (lv' := [(2, .int n_55), (0, .ref (ad 9)), (1, .int a1)]) hx hb dX9_goOnFrom_55 hl (k := 2) rfl (by rw [e_55]; rfl) (by decide) rfl (fun ls hl => ?_)
          refine lv_goto (tgt := 10) hx hb dX9_goOnFrom_58 (by decide) ?_
          exact ih_10 (n_55, s9_j55) H locs ls (nx_l hx_10 h) hw (lv_sub hl [0, 2, 1] rfl)
        refine lv_iload_n hx hb dX9_goOnFrom_10 rfl (lv_at hl 0 rfl) ?_
        refine lv_bipush (v := 16) hx hb dX9_goOnFrom_11 (by decide) ?_
        refine lv_icmp_ge (tgt := 61) hx hb dX9_goOnFrom_13 (by decide) (fun c_13 => ?_) (fun c_13 => ?_)
        · have h := ite_t c_13 h
          have h := nx_m hx_10 h
          have h := Option.some.inj h
          subst h
          rw [← hQ]
          exact retV hx hb hr hlk hw dX9_goOnFrom_61
        · have h := ite_f c_13 h
          refine lv_aload_n hx hb dX9_goOnFrom_16 rfl (lv_at hl 2 rfl) ?_
          refine gX9_11 hx hb hts hown hK hw dX9_goOnFrom_17 ?_
          refine lv_iload_n hx hb dX9_goOnFrom_20 rfl (lv_at hl 1 rfl) ?_
          refine lv_bipush (v := 16) hx hb dX9_goOnFrom_21 (by decide) ?_
          refine lv_imul hx hb dX9_goOnFrom_23 ?_
          refine lv_iload_n hx hb dX9_goOnFrom_24 rfl (lv_at hl 0 rfl) ?_
          refine lv_iadd hx hb dX9_goOnFrom_25 ?_
          obtain ⟨hi_26, h⟩ := chk_e h
          obtain ⟨y_26, e_26, h⟩ := nam_e h
          refine lC60 hx hb hK hw hi_26 e_26 dX9_goOnFrom_26 ?_
          refine lv_istore_n (lv' := [(3, .int y_26), (2, .int t_10.1), (1, .int a1), (0, .ref (ad 9))]) hx hb dX9_goOnFrom_27 rfl hl (by decide) rfl (fun ls hl => ?_)
          refine lv_iload_n hx hb dX9_goOnFrom_28 rfl (lv_at hl 0 rfl) ?_
          refine lv_if_le (tgt := 55) hx hb dX9_goOnFrom_29 (by decide) (fun c_29 => ?_) (fun c_29 => ?_)
          · have h := ite_t c_29 h
            exact hJ_55 t_10.1 t_10.2 H locs ls h hw (lv_sub hl [3, 2, 1] rfl)
          · have h := ite_f c_29 h
            refine lv_aload_n hx hb dX9_goOnFrom_32 rfl (lv_at hl 3 rfl) ?_
            refine gX9_15 hx hb hts hown hK hw dX9_goOnFrom_33 ?_
            refine lv_iload_n hx hb dX9_goOnFrom_36 rfl (lv_at hl 1 rfl) ?_
            refine lv_aload_n hx hb dX9_goOnFrom_37 rfl (lv_at hl 3 rfl) ?_
            refine gX9_15 hx hb hts hown hK hw dX9_goOnFrom_38 ?_
            refine lv_iload_n hx hb dX9_goOnFrom_41 rfl (lv_at hl 1 rfl) ?_
            obtain ⟨hi_42, h⟩ := chk_e h
            obtain ⟨y_42, e_42, h⟩ := nam_e h
            refine lC61 hx hb hK hw hi_42 e_42 dX9_goOnFrom_42 ?_
            refine lv_aload_n hx hb dX9_goOnFrom_43 rfl (lv_at hl 3 rfl) ?_
            refine gX9_15 hx hb hts hown hK hw dX9_goOnFrom_44 ?_
            refine lv_iload_n hx hb dX9_goOnFrom_47 rfl (lv_at hl 2 rfl) ?_
            obtain ⟨hi_48, h⟩ := chk_e h
            obtain ⟨y_48, e_48, h⟩ := nam_e h
            refine lC61 hx hb hK hw hi_48 e_48 dX9_goOnFrom_48 ?_
            refine lv_iload_n hx hb dX9_goOnFrom_49 rfl (lv_at hl 0 rfl) ?_
            refine lv_iadd hx hb dX9_goOnFrom_50 ?_
            refine va_mmin hx hb (hml.trans hl.1.symm) hown (hts _ (wd_5 (w := .methodLink RX9 70 Lib.Math.min.name) (i := 93) (by decide +kernel) rfl)) (hts _ (wd_3 (w := .static Lib.Math.min.name) (i := 176) (by decide +kernel) rfl)) (hts _ (wd_1 (w := .initialized "java/lang/Math") (i := 15) (by decide +kernel) rfl)) (hts _ (wd_3 (w := .code Lib.Math.min.name Lib.Math.min.code 2 (some .int)) (i := 177) (by decide +kernel) rfl)) (Nat.le_of_ble_eq_true rfl) (Nat.le_of_ble_eq_true rfl) (Nat.zero_le _) (Nat.zero_le _) dX9_goOnFrom_51 ?_
            obtain ⟨hi_54, h⟩ := chk_e h
            obtain ⟨s9_54, e_54, h⟩ := nam_e h
            refine aC61 hx hb hK hw hi_54 e_54 dX9_goOnFrom_54 (fun H locs hw => ?_)
            exact hJ_55 t_10.1 s9_54 H locs ls h hw (lv_sub hl [3, 2, 1] rfl)
    exact hL_10 n_10 ((0 : Int32), s9) H locs ls hn_10 hw (lv_sub hl [0, 2, 1] rfl)
  · have h := ite_t c_4 h
    have h := Option.some.inj h
    subst h
    rw [← hQ]
    exact retV hx hb hr hlk hw dX9_goOnFrom_7
theorem dX9_nearestBut_0 : decode cX9_nearestBut 0 = .ok (.iconst (-1), 1) := by decide +kernel
theorem dX9_nearestBut_1 : decode cX9_nearestBut 1 = .ok (.istore_n 2, 1) := by decide +kernel
theorem dX9_nearestBut_2 : decode cX9_nearestBut 2 = .ok (.iconst 0, 1) := by decide +kernel
theorem dX9_nearestBut_3 : decode cX9_nearestBut 3 = .ok (.istore_n 3, 1) := by decide +kernel
theorem dX9_nearestBut_4 : decode cX9_nearestBut 4 = .ok (.iload_n 3, 1) := by decide +kernel
theorem dX9_nearestBut_5 : decode cX9_nearestBut 5 = .ok (.bipush 16, 2) := by decide +kernel
theorem dX9_nearestBut_7 : decode cX9_nearestBut 7 = .ok (.if_icmp .ge 39, 3) := by decide +kernel
theorem dX9_nearestBut_10 : decode cX9_nearestBut 10 = .ok (.iload_n 1, 1) := by decide +kernel
theorem dX9_nearestBut_11 : decode cX9_nearestBut 11 = .ok (.iload_n 3, 1) := by decide +kernel
theorem dX9_nearestBut_12 : decode cX9_nearestBut 12 = .ok (.ishr, 1) := by decide +kernel
theorem dX9_nearestBut_13 : decode cX9_nearestBut 13 = .ok (.iconst 1, 1) := by decide +kernel
theorem dX9_nearestBut_14 : decode cX9_nearestBut 14 = .ok (.iand, 1) := by decide +kernel
theorem dX9_nearestBut_15 : decode cX9_nearestBut 15 = .ok (.ifCond .ne 25, 3) := by decide +kernel
theorem dX9_nearestBut_18 : decode cX9_nearestBut 18 = .ok (.iload_n 2, 1) := by decide +kernel
theorem dX9_nearestBut_19 : decode cX9_nearestBut 19 = .ok (.iconst (-1), 1) := by decide +kernel
theorem dX9_nearestBut_20 : decode cX9_nearestBut 20 = .ok (.if_icmp .eq 18, 3) := by decide +kernel
theorem dX9_nearestBut_23 : decode cX9_nearestBut 23 = .ok (.aload_n 0, 1) := by decide +kernel
theorem dX9_nearestBut_24 : decode cX9_nearestBut 24 = .ok (.getfield 15, 3) := by decide +kernel
theorem dX9_nearestBut_27 : decode cX9_nearestBut 27 = .ok (.iload_n 3, 1) := by decide +kernel
theorem dX9_nearestBut_28 : decode cX9_nearestBut 28 = .ok (.iaload, 1) := by decide +kernel
theorem dX9_nearestBut_29 : decode cX9_nearestBut 29 = .ok (.aload_n 0, 1) := by decide +kernel
theorem dX9_nearestBut_30 : decode cX9_nearestBut 30 = .ok (.getfield 15, 3) := by decide +kernel
theorem dX9_nearestBut_33 : decode cX9_nearestBut 33 = .ok (.iload_n 2, 1) := by decide +kernel
theorem dX9_nearestBut_34 : decode cX9_nearestBut 34 = .ok (.iaload, 1) := by decide +kernel
theorem dX9_nearestBut_35 : decode cX9_nearestBut 35 = .ok (.if_icmp .ge 5, 3) := by decide +kernel
theorem dX9_nearestBut_38 : decode cX9_nearestBut 38 = .ok (.iload_n 3, 1) := by decide +kernel
theorem dX9_nearestBut_39 : decode cX9_nearestBut 39 = .ok (.istore_n 2, 1) := by decide +kernel
theorem dX9_nearestBut_40 : decode cX9_nearestBut 40 = .ok (.iinc 3 1, 3) := by decide +kernel
theorem dX9_nearestBut_43 : decode cX9_nearestBut 43 = .ok (.goto (-39), 3) := by decide +kernel
theorem dX9_nearestBut_46 : decode cX9_nearestBut 46 = .ok (.iload_n 2, 1) := by decide +kernel
theorem dX9_nearestBut_47 : decode cX9_nearestBut 47 = .ok (.ireturn, 1) := by decide +kernel
noncomputable def f9_nearestBut_j40 (v1_j40 : Int32) (v2_j40 : Int32) (v3_j40 : Int32) (s9_j40 : OS) : Option ((Int32 × Int32) ⊕ (Int32)) := nm (v3_j40 + (1 : Int32)) fun n_40 => some (Sum.inl (v2_j40, n_40))
noncomputable def f9_nearestBut_j38 (v1_j38 : Int32) (v3_j38 : Int32) (s9_j38 : OS) : Option ((Int32 × Int32) ⊕ (Int32)) := f9_nearestBut_j40 v1_j38 v3_j38 v3_j38 s9_j38
noncomputable def f9_nearestBut_l4 (v1_i4 : Int32) (s9_i4 : OS) : Int32 × Int32 → Option ((Int32 × Int32) ⊕ (Int32)) := fun t_4 => if (16 : Int32) ≤ t_4.2 then (Option.map Sum.inr (some t_4.1)) else (if ((v1_i4 >>> (t_4.2 &&& 31)) &&& (1 : Int32)) = 0 then (if t_4.1 = (-1 : Int32) then (f9_nearestBut_j38 v1_i4 t_4.2 s9_i4) else (chk (inb t_4.2 16) (nm (s9_i4.1 2 t_4.2.toNatClampNeg) fun y_28 => chk (inb t_4.1 16) (nm (s9_i4.1 2 t_4.1.toNatClampNeg) fun y_34 => if y_34 ≤ y_28 then (f9_nearestBut_j40 v1_i4 t_4.1 t_4.2 s9_i4) else (f9_nearestBut_j38 v1_i4 t_4.2 s9_i4))))) else (f9_nearestBut_j40 v1_i4 t_4.1 t_4.2 s9_i4))
noncomputable def f9_nearestBut (a1 : Int32) (s9 : OS) : Option (Int32) := loop (f9_nearestBut_l4 a1 s9) ((-1 : Int32), (0 : Int32))
set_option maxHeartbeats 4000000 in
set_option maxRecDepth 100000 in
theorem m9_nearestBut (l : Launch) (D : va_G) (ad : Nat → Nat) (cy : Nat → ClassId) (sz : Nat) (s0 s1 s2 s3 s4 s5 s6 s7 s8 s9 s10 : OS) (a1 : Int32) (r : Int32) (h : f9_nearestBut a1 s9 = some r) : Met l yX9_nearestBut (wsOf yX9_nearestBut cX9_nearestBut 4 (some .int)) (rmL 0) (va_Pc ([.ref (ad 9), .int a1] : List Value) (PreG D cy (cellsC ad cy s0 s1 s2 s3 s4 s5 s6 s7 s8 s9 s10) sz (NC ad))) (QcI D ad 67 (cellsC ad cy s0 s1 s2 s3 s4 s5 s6 s7 s8 s9 s10) (r) sz) 0 0 (Afr ad 67 sz) := by
  refine metG (own := RX9) (by decide) rfl (Nat.le_of_ble_eq_true rfl) fstC ?_ sz
  intro p e s m below meth c ls C0 hw hl
  obtain ⟨hx, hb, hml, hown, hts, hr, hlk, hK, hN⟩ := C0
  have hl : lv_has ls 4 [(0, .ref (ad 9)), (1, .int a1)] := hl
  generalize hQ : MQ below (QcI D ad 67 (cellsC ad cy s0 s1 s2 s3 s4 s5 s6 s7 s8 s9 s10) (r) s.heap.size) ([.ref (ad 9), .int a1] : List Value).toArray s 0 0 (Afr ad 67 s.heap.size) = Q
  obtain ⟨H, hH⟩ : ∃ H : Heap, H = s.heap := ⟨_, rfl⟩
  obtain ⟨locs, hlc⟩ : ∃ L : List Loc, L = [] := ⟨_, rfl⟩
  have hw : Wd D (cellsC ad cy s0 s1 s2 s3 s4 s5 s6 s7 s8 s9 s10) (Afr ad 67 s.heap.size) s.heap H locs := by rw [hH, hlc]; exact hw
  suffices h0 : W p l e (rmL 0) s m ([.ref (ad 9), .int a1] : List Value).toArray below meth c H locs 0 0 Q (F0 m 0 ls []) by rw [hH, hlc] at h0; exact h0
  clear hH hlc
  unfold f9_nearestBut at h
  refine lv_iconst (v := (-1)) hx hb dX9_nearestBut_0 (by decide) ?_
  refine lv_istore_n (lv' := [(2, .int ((-1 : Int32))), (0, .ref (ad 9)), (1, .int a1)]) hx hb dX9_nearestBut_1 rfl hl (by decide) rfl (fun ls hl => ?_)
  refine lv_iconst (v := 0) hx hb dX9_nearestBut_2 (by decide) ?_
  refine lv_istore_n (lv' := [(3, .int ((0 : Int32))), (2, .int ((-1 : Int32))), (0, .ref (ad 9)), (1, .int a1)]) hx hb dX9_nearestBut_3 rfl hl (by decide) rfl (fun ls hl => ?_)
  obtain ⟨n_4, hn_4⟩ := loop_e h
  have hL_4 : ∀ (n : Nat) (t_4 : Int32 × Int32) (H : Heap) (locs : List Loc) (ls : Array Slot), loopN (f9_nearestBut_l4 a1 s9) n t_4 = some r → Wd D (cellsC ad cy s0 s1 s2 s3 s4 s5 s6 s7 s8 s9 s10) (Afr ad 67 s.heap.size) s.heap H locs → lv_has ls 4 [(2, .int t_4.1), (3, .int t_4.2), (1, .int a1), (0, .ref (ad 9))] → W p l e (rmL 0) s m ([.ref (ad 9), .int a1] : List Value).toArray below meth c H locs 0 0 Q (F0 m 4 ls []) := by
    intro n
    induction n with
    | zero => intro t_4 H locs ls hn; cases hn
    | succ n ih_4 =>
      intro t_4 H locs ls hn hw hl
      obtain ⟨x_4, h, hx_4⟩ := loopN_e hn
      unfold f9_nearestBut_l4 at h
      have hJ_40 : ∀ (v2_j40 : Int32) (v3_j40 : Int32) (H : Heap) (locs : List Loc) (ls : Array Slot), f9_nearestBut_j40 a1 v2_j40 v3_j40 s9 = some x_4 → Wd D (cellsC ad cy s0 s1 s2 s3 s4 s5 s6 s7 s8 s9 s10) (Afr ad 67 s.heap.size) s.heap H locs → lv_has ls 4 [(0, .ref (ad 9)), (1, .int a1), (2, .int v2_j40), (3, .int v3_j40)] → W p l e (rmL 0) s m ([.ref (ad 9), .int a1] : List Value).toArray below meth c H locs 0 0 Q (F0 m 40 ls []) := by
        intro v2_j40 v3_j40 H locs ls h hw hl
        unfold f9_nearestBut_j40 at h
        obtain ⟨n_40, e_40, h⟩ := nam_e h
        refine lv_iinc (v := n_40) (lv' := [(3, .int n_40), (0, .ref (ad 9)), (1, .int a1), (2, .int v2_j40)]) hx hb dX9_nearestBut_40 hl (k := 3) rfl (by rw [e_40]; rfl) (by decide) rfl (fun ls hl => ?_)
        refine lv_goto (tgt := 4) hx hb dX9_nearestBut_43 (by decide) ?_
        exact ih_4 (v2_j40, n_40) H locs ls (nx_l hx_4 h) hw (lv_sub hl [3, 0, 2, 1] rfl)
      have hJ_38 : ∀ (v3_j38 : Int32) (H : Heap) (locs : List Loc) (ls : Array Slot), f9_nearestBut_j38 a1 v3_j38 s9 = some x_4 → Wd D (cellsC ad cy s0 s1 s2 s3 s4 s5 s6 s7 s8 s9 s10) (Afr ad 67 s.heap.size) s.heap H locs → lv_has ls 4 [(0, .ref (ad 9)), (1, .int a1), (3, .int v3_j38)] → W p l e (rmL 0) s m ([.ref (ad 9), .int a1] : List Value).toArray below meth c H locs 0 0 Q (F0 m 38 ls []) := by
        intro v3_j38 H locs ls h hw hl
        unfold f9_nearestBut_j38 at h
        refine lv_iload_n hx hb dX9_nearestBut_38 rfl (lv_at hl 2 rfl) ?_
        refine lv_istore_n (lv' := [(2, .int v3_j38), (0, .ref (ad 9)), (1, .int a1), (3, .int v3_j38)]) hx hb dX9_nearestBut_39 rfl hl (by decide) rfl (fun ls hl => ?_)
        exact hJ_40 v3_j38 v3_j38 H locs ls h hw (lv_sub hl [1, 2, 0, 3] rfl)
      refine lv_iload_n hx hb dX9_nearestBut_4 rfl (lv_at hl 1 rfl) ?_
      refine lv_bipush (v := 16) hx hb dX9_nearestBut_5 (by decide) ?_
      refine lv_icmp_ge (tgt := 46) hx hb dX9_nearestBut_7 (by decide) (fun c_7 => ?_) (fun c_7 => ?_)
      · have h := ite_t c_7 h
        have h := nx_m hx_4 h
        refine lv_iload_n hx hb dX9_nearestBut_46 rfl (lv_at hl 0 rfl) ?_
        have h := Option.some.inj h
        subst h
        rw [← hQ]
        exact retI hx hb hr hlk hw rfl dX9_nearestBut_47
      · have h := ite_f c_7 h
        refine lv_iload_n hx hb dX9_nearestBut_10 rfl (lv_at hl 2 rfl) ?_
        refine lv_iload_n hx hb dX9_nearestBut_11 rfl (lv_at hl 1 rfl) ?_
        refine lv_ishr hx hb dX9_nearestBut_12 ?_
        refine lv_iconst (v := 1) hx hb dX9_nearestBut_13 (by decide) ?_
        refine lv_iand hx hb dX9_nearestBut_14 ?_
        refine lv_if_ne (tgt := 40) hx hb dX9_nearestBut_15 (by decide) (fun c_15 => ?_) (fun c_15 => ?_)
        · have h := ite_f c_15 h
          exact hJ_40 t_4.1 t_4.2 H locs ls h hw (lv_sub hl [3, 2, 0, 1] rfl)
        · have h := ite_t c_15 h
          refine lv_iload_n hx hb dX9_nearestBut_18 rfl (lv_at hl 0 rfl) ?_
          refine lv_iconst (v := (-1)) hx hb dX9_nearestBut_19 (by decide) ?_
          refine lv_icmp_eq (tgt := 38) hx hb dX9_nearestBut_20 (by decide) (fun c_20 => ?_) (fun c_20 => ?_)
          · have h := ite_t c_20 h
            exact hJ_38 t_4.2 H locs ls h hw (lv_sub hl [3, 2, 1] rfl)
          · have h := ite_f c_20 h
            refine lv_aload_n hx hb dX9_nearestBut_23 rfl (lv_at hl 3 rfl) ?_
            refine gX9_15 hx hb hts hown hK hw dX9_nearestBut_24 ?_
            refine lv_iload_n hx hb dX9_nearestBut_27 rfl (lv_at hl 1 rfl) ?_
            obtain ⟨hi_28, h⟩ := chk_e h
            obtain ⟨y_28, e_28, h⟩ := nam_e h
            refine lC61 hx hb hK hw hi_28 e_28 dX9_nearestBut_28 ?_
            refine lv_aload_n hx hb dX9_nearestBut_29 rfl (lv_at hl 3 rfl) ?_
            refine gX9_15 hx hb hts hown hK hw dX9_nearestBut_30 ?_
            refine lv_iload_n hx hb dX9_nearestBut_33 rfl (lv_at hl 0 rfl) ?_
            obtain ⟨hi_34, h⟩ := chk_e h
            obtain ⟨y_34, e_34, h⟩ := nam_e h
            refine lC61 hx hb hK hw hi_34 e_34 dX9_nearestBut_34 ?_
            refine lv_icmp_ge (tgt := 40) hx hb dX9_nearestBut_35 (by decide) (fun c_35 => ?_) (fun c_35 => ?_)
            · have h := ite_t c_35 h
              exact hJ_40 t_4.1 t_4.2 H locs ls h hw (lv_sub hl [3, 2, 0, 1] rfl)
            · have h := ite_f c_35 h
              exact hJ_38 t_4.2 H locs ls h hw (lv_sub hl [3, 2, 1] rfl)
  exact hL_4 n_4 ((-1 : Int32), (0 : Int32)) H locs ls hn_4 hw (lv_sub hl [1, 0, 3, 2] rfl)
theorem dX9_reachable_0 : decode cX9_reachable 0 = .ok (.iconst 0, 1) := by decide +kernel
theorem dX9_reachable_1 : decode cX9_reachable 1 = .ok (.istore_n 3, 1) := by decide +kernel
theorem dX9_reachable_2 : decode cX9_reachable 2 = .ok (.iload_n 3, 1) := by decide +kernel
theorem dX9_reachable_3 : decode cX9_reachable 3 = .ok (.bipush 16, 2) := by decide +kernel
theorem dX9_reachable_5 : decode cX9_reachable 5 = .ok (.if_icmp .ge 26, 3) := by decide +kernel
theorem dX9_reachable_8 : decode cX9_reachable 8 = .ok (.aload_n 0, 1) := by decide +kernel
theorem dX9_reachable_9 : decode cX9_reachable 9 = .ok (.getfield 15, 3) := by decide +kernel
theorem dX9_reachable_12 : decode cX9_reachable 12 = .ok (.iload_n 3, 1) := by decide +kernel
theorem dX9_reachable_13 : decode cX9_reachable 13 = .ok (.iload_n 3, 1) := by decide +kernel
theorem dX9_reachable_14 : decode cX9_reachable 14 = .ok (.iload_n 1, 1) := by decide +kernel
theorem dX9_reachable_15 : decode cX9_reachable 15 = .ok (.if_icmp .ne 7, 3) := by decide +kernel
theorem dX9_reachable_18 : decode cX9_reachable 18 = .ok (.iconst 0, 1) := by decide +kernel
theorem dX9_reachable_19 : decode cX9_reachable 19 = .ok (.goto 5, 3) := by decide +kernel
theorem dX9_reachable_22 : decode cX9_reachable 22 = .ok (.ldc 73, 2) := by decide +kernel
theorem dX9_reachable_24 : decode cX9_reachable 24 = .ok (.iastore, 1) := by decide +kernel
theorem dX9_reachable_25 : decode cX9_reachable 25 = .ok (.iinc 3 1, 3) := by decide +kernel
theorem dX9_reachable_28 : decode cX9_reachable 28 = .ok (.goto (-26), 3) := by decide +kernel
theorem dX9_reachable_31 : decode cX9_reachable 31 = .ok (.iconst 0, 1) := by decide +kernel
theorem dX9_reachable_32 : decode cX9_reachable 32 = .ok (.istore_n 3, 1) := by decide +kernel
theorem dX9_reachable_33 : decode cX9_reachable 33 = .ok (.iconst 0, 1) := by decide +kernel
theorem dX9_reachable_34 : decode cX9_reachable 34 = .ok (.istore 4, 2) := by decide +kernel
theorem dX9_reachable_36 : decode cX9_reachable 36 = .ok (.iload 4, 2) := by decide +kernel
theorem dX9_reachable_38 : decode cX9_reachable 38 = .ok (.bipush 16, 2) := by decide +kernel
theorem dX9_reachable_40 : decode cX9_reachable 40 = .ok (.if_icmp .ge 48, 3) := by decide +kernel
theorem dX9_reachable_43 : decode cX9_reachable 43 = .ok (.aload_n 0, 1) := by decide +kernel
theorem dX9_reachable_44 : decode cX9_reachable 44 = .ok (.iload_n 3, 1) := by decide +kernel
theorem dX9_reachable_45 : decode cX9_reachable 45 = .ok (.invokevirtual 74, 3) := by decide +kernel
theorem dX9_reachable_48 : decode cX9_reachable 48 = .ok (.istore 5, 2) := by decide +kernel
theorem dX9_reachable_50 : decode cX9_reachable 50 = .ok (.iload 5, 2) := by decide +kernel
theorem dX9_reachable_52 : decode cX9_reachable 52 = .ok (.invokestatic 45, 3) := by decide +kernel
theorem dX9_reachable_55 : decode cX9_reachable 55 = .ok (.ifCond .eq 27, 3) := by decide +kernel
theorem dX9_reachable_58 : decode cX9_reachable 58 = .ok (.aload_n 0, 1) := by decide +kernel
theorem dX9_reachable_59 : decode cX9_reachable 59 = .ok (.getfield 15, 3) := by decide +kernel
theorem dX9_reachable_62 : decode cX9_reachable 62 = .ok (.iload 5, 2) := by decide +kernel
theorem dX9_reachable_64 : decode cX9_reachable 64 = .ok (.iaload, 1) := by decide +kernel
theorem dX9_reachable_65 : decode cX9_reachable 65 = .ok (.iload_n 2, 1) := by decide +kernel
theorem dX9_reachable_66 : decode cX9_reachable 66 = .ok (.if_icmp .gt 16, 3) := by decide +kernel
theorem dX9_reachable_69 : decode cX9_reachable 69 = .ok (.iload_n 3, 1) := by decide +kernel
theorem dX9_reachable_70 : decode cX9_reachable 70 = .ok (.iconst 1, 1) := by decide +kernel
theorem dX9_reachable_71 : decode cX9_reachable 71 = .ok (.iload 5, 2) := by decide +kernel
theorem dX9_reachable_73 : decode cX9_reachable 73 = .ok (.ishl, 1) := by decide +kernel
theorem dX9_reachable_74 : decode cX9_reachable 74 = .ok (.ior, 1) := by decide +kernel
theorem dX9_reachable_75 : decode cX9_reachable 75 = .ok (.istore_n 3, 1) := by decide +kernel
theorem dX9_reachable_76 : decode cX9_reachable 76 = .ok (.aload_n 0, 1) := by decide +kernel
theorem dX9_reachable_77 : decode cX9_reachable 77 = .ok (.iload 5, 2) := by decide +kernel
theorem dX9_reachable_79 : decode cX9_reachable 79 = .ok (.invokevirtual 78, 3) := by decide +kernel
theorem dX9_reachable_82 : decode cX9_reachable 82 = .ok (.iinc 4 1, 3) := by decide +kernel
theorem dX9_reachable_85 : decode cX9_reachable 85 = .ok (.goto (-49), 3) := by decide +kernel
theorem dX9_reachable_88 : decode cX9_reachable 88 = .ok (.iload_n 3, 1) := by decide +kernel
theorem dX9_reachable_89 : decode cX9_reachable 89 = .ok (.ireturn, 1) := by decide +kernel
noncomputable def f9_reachable_j24 (v1_j24 : Int32) (v2_j24 : Int32) (v3_j24 : Int32) (k1_j24 : Int32) (k2_j24 : Int32) (s9_j24 : OS) : Option ((Int32 × OS) ⊕ (Int32 × OS)) := chk (inb k1_j24 16) (nm (wI s9_j24 2 k1_j24.toNatClampNeg k2_j24) fun s9_24 => nm (v3_j24 + (1 : Int32)) fun n_25 => some (Sum.inl (n_25, s9_24)))
noncomputable def f9_reachable_j82 (v2_j82 : Int32) (v3_j82 : Int32) (v4_j82 : Int32) (s9_j82 : OS) : Option ((Int32 × Int32 × OS) ⊕ (Int32 × OS)) := nm (v4_j82 + (1 : Int32)) fun n_82 => some (Sum.inl (v3_j82, n_82, s9_j82))
noncomputable def f9_reachable_l36 (v2_i36 : Int32) : Int32 × Int32 × OS → Option ((Int32 × Int32 × OS) ⊕ (Int32 × OS)) := fun t_36 => if (16 : Int32) ≤ t_36.2.1 then (Option.map Sum.inr (some (t_36.1, t_36.2.2))) else (Option.bind (f9_nearestBut t_36.1 t_36.2.2) fun q_45 => Option.bind (f10_isPlace q_45) fun q_52 => if q_52 = 0 then (f9_reachable_j82 v2_i36 t_36.1 t_36.2.1 t_36.2.2) else (chk (inb q_45 16) (nm (t_36.2.2.1 2 q_45.toNatClampNeg) fun y_64 => if v2_i36 < y_64 then (f9_reachable_j82 v2_i36 t_36.1 t_36.2.1 t_36.2.2) else (nm ((t_36.1 ||| ((1 : Int32) <<< (q_45 &&& 31)))) fun n_75 => Option.bind (f9_goOnFrom q_45 t_36.2.2) fun q_79 => f9_reachable_j82 v2_i36 n_75 t_36.2.1 q_79))))
noncomputable def f9_reachable_l2 (v1_i2 : Int32) (v2_i2 : Int32) : Int32 × OS → Option ((Int32 × OS) ⊕ (Int32 × OS)) := fun t_2 => if (16 : Int32) ≤ t_2.1 then (Option.map Sum.inr (loop (f9_reachable_l36 v2_i2) ((0 : Int32), (0 : Int32), t_2.2))) else (if t_2.1 = v1_i2 then (f9_reachable_j24 v1_i2 v2_i2 t_2.1 t_2.1 ((0 : Int32)) t_2.2) else (f9_reachable_j24 v1_i2 v2_i2 t_2.1 t_2.1 ((1000000 : Int32)) t_2.2))
noncomputable def f9_reachable (a1 : Int32) (a2 : Int32) (s9 : OS) : Option (Int32 × OS) := loop (f9_reachable_l2 a1 a2) ((0 : Int32), s9)
set_option maxHeartbeats 4000000 in
set_option maxRecDepth 100000 in
theorem m9_reachable (l : Launch) (D : va_G) (ad : Nat → Nat) (cy : Nat → ClassId) (sz : Nat) (s0 s1 s2 s3 s4 s5 s6 s7 s8 s9 s10 : OS) (a1 : Int32) (a2 : Int32) (r : Int32 × OS) (h : f9_reachable a1 a2 s9 = some r) : Met l yX9_reachable (wsOf yX9_reachable cX9_reachable 6 (some .int)) (rmL 3) (va_Pc ([.ref (ad 9), .int a1, .int a2] : List Value) (PreG D cy (cellsC ad cy s0 s1 s2 s3 s4 s5 s6 s7 s8 s9 s10) sz (NC ad))) (QcI D ad 67 (cellsC ad cy s0 s1 s2 s3 s4 s5 s6 s7 s8 r.2 s10) (r.1) sz) 0 0 (Afr ad 67 sz) := by
  refine metG (own := RX9) (by decide) rfl (Nat.le_of_ble_eq_true rfl) fstC ?_ sz
  intro p e s m below meth c ls C0 hw hl
  obtain ⟨hx, hb, hml, hown, hts, hr, hlk, hK, hN⟩ := C0
  have hl : lv_has ls 6 [(0, .ref (ad 9)), (1, .int a1), (2, .int a2)] := hl
  generalize hQ : MQ below (QcI D ad 67 (cellsC ad cy s0 s1 s2 s3 s4 s5 s6 s7 s8 r.2 s10) (r.1) s.heap.size) ([.ref (ad 9), .int a1, .int a2] : List Value).toArray s 0 0 (Afr ad 67 s.heap.size) = Q
  obtain ⟨H, hH⟩ : ∃ H : Heap, H = s.heap := ⟨_, rfl⟩
  obtain ⟨locs, hlc⟩ : ∃ L : List Loc, L = [] := ⟨_, rfl⟩
  have hw : Wd D (cellsC ad cy s0 s1 s2 s3 s4 s5 s6 s7 s8 s9 s10) (Afr ad 67 s.heap.size) s.heap H locs := by rw [hH, hlc]; exact hw
  suffices h0 : W p l e (rmL 3) s m ([.ref (ad 9), .int a1, .int a2] : List Value).toArray below meth c H locs 0 0 Q (F0 m 0 ls []) by rw [hH, hlc] at h0; exact h0
  clear hH hlc
  unfold f9_reachable at h
  refine lv_iconst (v := 0) hx hb dX9_reachable_0 (by decide) ?_
  refine lv_istore_n (lv' := [(3, .int ((0 : Int32))), (0, .ref (ad 9)), (1, .int a1), (2, .int a2)]) hx hb dX9_reachable_1 rfl hl (by decide) rfl (fun ls hl => ?_)
  obtain ⟨n_2, hn_2⟩ := loop_e h
  have hL_2 : ∀ (n : Nat) (t_2 : Int32 × OS) (H : Heap) (locs : List Loc) (ls : Array Slot), loopN (f9_reachable_l2 a1 a2) n t_2 = some r → Wd D (cellsC ad cy s0 s1 s2 s3 s4 s5 s6 s7 s8 t_2.2 s10) (Afr ad 67 s.heap.size) s.heap H locs → lv_has ls 6 [(3, .int t_2.1), (1, .int a1), (2, .int a2), (0, .ref (ad 9))] → W p l e (rmL 3) s m ([.ref (ad 9), .int a1, .int a2] : List Value).toArray below meth c H locs 0 0 Q (F0 m 2 ls []) := by
    intro n
    induction n with
    | zero => intro t_2 H locs ls hn; cases hn
    | succ n ih_2 =>
      intro t_2 H locs ls hn hw hl
      obtain ⟨x_2, h, hx_2⟩ := loopN_e hn
      unfold f9_reachable_l2 at h
      have hJ_24 : ∀ (v3_j24 : Int32) (k1_j24 : Int32) (k2_j24 : Int32) (s9_j24 : OS) (H : Heap) (locs : List Loc) (ls : Array Slot), f9_reachable_j24 a1 a2 v3_j24 k1_j24 k2_j24 s9_j24 = some x_2 → Wd D (cellsC ad cy s0 s1 s2 s3 s4 s5 s6 s7 s8 s9_j24 s10) (Afr ad 67 s.heap.size) s.heap H locs → lv_has ls 6 [(0, .ref (ad 9)), (1, .int a1), (2, .int a2), (3, .int v3_j24)] → W p l e (rmL 3) s m ([.ref (ad 9), .int a1, .int a2] : List Value).toArray below meth c H locs 0 0 Q (F0 m 24 ls [.int k2_j24, .int k1_j24, .ref (ad 61)]) := by
        intro v3_j24 k1_j24 k2_j24 s9_j24 H locs ls h hw hl
        unfold f9_reachable_j24 at h
        obtain ⟨hi_24, h⟩ := chk_e h
        obtain ⟨s9_24, e_24, h⟩ := nam_e h
        refine aC61 hx hb hK hw hi_24 e_24 dX9_reachable_24 (fun H locs hw => ?_)
        obtain ⟨n_25, e_25, h⟩ := nam_e h
        refine lv_iinc (v := n_25) (lv' := [(3, .int n_25), (0, .ref (ad 9)), (1, .int a1), (2, .int a2)]) hx hb dX9_reachable_25 hl (k := 3) rfl (by rw [e_25]; rfl) (by decide) rfl (fun ls hl => ?_)
        refine lv_goto (tgt := 2) hx hb dX9_reachable_28 (by decide) ?_
        exact ih_2 (n_25, s9_24) H locs ls (nx_l hx_2 h) hw (lv_sub hl [0, 2, 3, 1] rfl)
      refine lv_iload_n hx hb dX9_reachable_2 rfl (lv_at hl 0 rfl) ?_
      refine lv_bipush (v := 16) hx hb dX9_reachable_3 (by decide) ?_
      refine lv_icmp_ge (tgt := 31) hx hb dX9_reachable_5 (by decide) (fun c_5 => ?_) (fun c_5 => ?_)
      · have h := ite_t c_5 h
        have h := nx_m hx_2 h
        refine lv_iconst (v := 0) hx hb dX9_reachable_31 (by decide) ?_
        refine lv_istore_n (lv' := [(3, .int ((0 : Int32))), (1, .int a1), (2, .int a2), (0, .ref (ad 9))]) hx hb dX9_reachable_32 rfl hl (by decide) rfl (fun ls hl => ?_)
        refine lv_iconst (v := 0) hx hb dX9_reachable_33 (by decide) ?_
        refine lv_istore (lv' := [(4, .int ((0 : Int32))), (3, .int ((0 : Int32))), (1, .int a1), (2, .int a2), (0, .ref (ad 9))]) hx hb dX9_reachable_34 hl (by decide) rfl (fun ls hl => ?_)
        obtain ⟨n_36, hn_36⟩ := loop_e h
        have hL_36 : ∀ (n : Nat) (t_36 : Int32 × Int32 × OS) (H : Heap) (locs : List Loc) (ls : Array Slot), loopN (f9_reachable_l36 a2) n t_36 = some r → Wd D (cellsC ad cy s0 s1 s2 s3 s4 s5 s6 s7 s8 t_36.2.2 s10) (Afr ad 67 s.heap.size) s.heap H locs → lv_has ls 6 [(3, .int t_36.1), (4, .int t_36.2.1), (2, .int a2), (0, .ref (ad 9))] → W p l e (rmL 3) s m ([.ref (ad 9), .int a1, .int a2] : List Value).toArray below meth c H locs 0 0 Q (F0 m 36 ls []) := by
          intro n
          induction n with
          | zero => intro t_36 H locs ls hn; cases hn
          | succ n ih_36 =>
            intro t_36 H locs ls hn hw hl
            obtain ⟨x_36, h, hx_36⟩ := loopN_e hn
            unfold f9_reachable_l36 at h
            have hJ_82 : ∀ (v3_j82 : Int32) (v4_j82 : Int32) (s9_j82 : OS) (H : Heap) (locs : List Loc) (ls : Array Slot), f9_reachable_j82 a2 v3_j82 v4_j82 s9_j82 = some x_36 → Wd D (cellsC ad cy s0 s1 s2 s3 s4 s5 s6 s7 s8 s9_j82 s10) (Afr ad 67 s.heap.size) s.heap H locs → lv_has ls 6 [(0, .ref (ad 9)), (2, .int a2), (3, .int v3_j82), (4, .int v4_j82)] → W p l e (rmL 3) s m ([.ref (ad 9), .int a1, .int a2] : List Value).toArray below meth c H locs 0 0 Q (F0 m 82 ls []) := by
              intro v3_j82 v4_j82 s9_j82 H locs ls h hw hl
              unfold f9_reachable_j82 at h
              obtain ⟨n_82, e_82, h⟩ := nam_e h
              refine lv_iinc (v := n_82) (lv' := [(4, .int n_82), (0, .ref (ad 9)), (2, .int a2), (3, .int v3_j82)]) hx hb dX9_reachable_82 hl (k := 3) rfl (by rw [e_82]; rfl) (by decide) rfl (fun ls hl => ?_)
              refine lv_goto (tgt := 36) hx hb dX9_reachable_85 (by decide) ?_
              exact ih_36 (v3_j82, n_82, s9_j82) H locs ls (nx_l hx_36 h) hw (lv_sub hl [3, 0, 2, 1] rfl)
            refine lv_iload hx hb dX9_reachable_36 (lv_at hl 1 rfl) ?_
            refine lv_bipush (v := 16) hx hb dX9_reachable_38 (by decide) ?_
            refine lv_icmp_ge (tgt := 88) hx hb dX9_reachable_40 (by decide) (fun c_40 => ?_) (fun c_40 => ?_)
            · have h := ite_t c_40 h
              have h := nx_m hx_36 h
              refine lv_iload_n hx hb dX9_reachable_88 rfl (lv_at hl 0 rfl) ?_
              have h := Option.some.inj h
              subst h
              rw [← hQ]
              exact retI hx hb hr hlk hw rfl dX9_reachable_89
            · have h := ite_f c_40 h
              refine lv_aload_n hx hb dX9_reachable_43 rfl (lv_at hl 3 rfl) ?_
              refine lv_iload_n hx hb dX9_reachable_44 rfl (lv_at hl 0 rfl) ?_
              obtain ⟨q_45, h_45, h⟩ := bnd_e h
              have pg_45 := preG (av := [.ref (ad 9), .int t_36.1]) hK hw.1 hw.2.1 (NC_keep hN hw.2.2) NC_blind
              refine endI (mc := 0) (ms := 0) (va_runV (As := [.int t_36.1]) (rest := []) ⟨hx, hb, hml, hown, hts⟩ (m9_nearestBut l D ad cy H.size s0 s1 s2 s3 s4 s5 s6 s7 s8 t_36.2.2 s10 t_36.1 q_45 h_45) (wX9_74 0 hts ⟨Nat.le_of_ble_eq_true rfl, Nat.le_of_ble_eq_true rfl⟩) ⟨pg_45.1, va_recv hK hw.1 (ci := 9) (q0 := 9) rfl eC_9, pg_45.2⟩ rfl rfl hl.1 rfl (lv_room (Nat.le_of_ble_eq_true rfl)) dX9_reachable_45 ⟨Nat.le_refl _, Nat.le_refl _⟩) hw.2.2 (afr_in hw.2.2) (fun H locs hw => ?_)
              refine lv_istore (lv' := [(5, .int q_45), (3, .int t_36.1), (4, .int t_36.2.1), (2, .int a2), (0, .ref (ad 9))]) hx hb dX9_reachable_48 hl (by decide) rfl (fun ls hl => ?_)
              refine lv_iload hx hb dX9_reachable_50 (lv_at hl 0 rfl) ?_
              obtain ⟨q_52, h_52, h⟩ := bnd_e h
              have pg_52 := preG (av := [.int q_45]) hK hw.1 hw.2.1 (NC_keep hN hw.2.2) NC_blind
              refine endI (mc := 0) (ms := 0) (va_runSN (As := [.int q_45]) (rest := []) ⟨hx, hb, hml, hown, hts⟩ (m10_isPlace l D ad cy H.size s0 s1 s2 s3 s4 s5 s6 s7 s8 t_36.2.2 s10 q_45 q_52 h_52) (wX9_45 1 hts hN.2.2.1 ⟨Nat.le_of_ble_eq_true rfl, Nat.le_of_ble_eq_true rfl⟩) pg_52 rfl rfl hl.1 rfl (lv_room (Nat.le_of_ble_eq_true rfl)) dX9_reachable_52 ⟨Nat.le_refl _, Nat.le_refl _⟩) hw.2.2 (afr_in hw.2.2) (fun H locs hw => ?_)
              refine lv_if_eq (tgt := 82) hx hb dX9_reachable_55 (by decide) (fun c_55 => ?_) (fun c_55 => ?_)
              · have h := ite_t c_55 h
                exact hJ_82 t_36.1 t_36.2.1 t_36.2.2 H locs ls h hw (lv_sub hl [4, 3, 1, 2] rfl)
              · have h := ite_f c_55 h
                refine lv_aload_n hx hb dX9_reachable_58 rfl (lv_at hl 4 rfl) ?_
                refine gX9_15 hx hb hts hown hK hw dX9_reachable_59 ?_
                refine lv_iload hx hb dX9_reachable_62 (lv_at hl 0 rfl) ?_
                obtain ⟨hi_64, h⟩ := chk_e h
                obtain ⟨y_64, e_64, h⟩ := nam_e h
                refine lC61 hx hb hK hw hi_64 e_64 dX9_reachable_64 ?_
                refine lv_iload_n hx hb dX9_reachable_65 rfl (lv_at hl 3 rfl) ?_
                refine lv_icmp_gt (tgt := 82) hx hb dX9_reachable_66 (by decide) (fun c_66 => ?_) (fun c_66 => ?_)
                · have h := ite_t c_66 h
                  exact hJ_82 t_36.1 t_36.2.1 t_36.2.2 H locs ls h hw (lv_sub hl [4, 3, 1, 2] rfl)
                · have h := ite_f c_66 h
                  refine lv_iload_n hx hb dX9_reachable_69 rfl (lv_at hl 1 rfl) ?_
                  refine lv_iconst (v := 1) hx hb dX9_reachable_70 (by decide) ?_
                  refine lv_iload hx hb dX9_reachable_71 (lv_at hl 0 rfl) ?_
                  refine lv_ishl hx hb dX9_reachable_73 ?_
                  refine lv_ior hx hb dX9_reachable_74 ?_
                  obtain ⟨n_75, e_75, h⟩ := nam_e h
                  refine topI e_75 ?_
                  refine lv_istore_n (lv' := [(3, .int n_75), (5, .int q_45), (4, .int t_36.2.1), (2, .int a2), (0, .ref (ad 9))]) hx hb dX9_reachable_75 rfl hl (by decide) rfl (fun ls hl => ?_)
                  refine lv_aload_n hx hb dX9_reachable_76 rfl (lv_at hl 4 rfl) ?_
                  refine lv_iload hx hb dX9_reachable_77 (lv_at hl 1 rfl) ?_
                  obtain ⟨q_79, h_79, h⟩ := bnd_e h
                  have pg_79 := preG (av := [.ref (ad 9), .int q_45]) hK hw.1 hw.2.1 (NC_keep hN hw.2.2) NC_blind
                  refine endV (mc := 0) (ms := 0) (va_runV (As := [.int q_45]) (rest := []) ⟨hx, hb, hml, hown, hts⟩ (m9_goOnFrom l D ad cy H.size s0 s1 s2 s3 s4 s5 s6 s7 s8 t_36.2.2 s10 q_45 q_79 h_79) (wX9_78 2 hts ⟨Nat.le_of_ble_eq_true rfl, Nat.le_of_ble_eq_true rfl⟩) ⟨pg_79.1, va_recv hK hw.1 (ci := 9) (q0 := 9) rfl eC_9, pg_79.2⟩ rfl rfl hl.1 rfl (lv_room (Nat.le_of_ble_eq_true rfl)) dX9_reachable_79 ⟨Nat.le_refl _, Nat.le_refl _⟩) hw.2.2 (afr_in hw.2.2) (fun H locs hw => ?_)
                  exact hJ_82 n_75 t_36.2.1 q_79 H locs ls h hw (lv_sub hl [4, 3, 0, 2] rfl)
        exact hL_36 n_36 ((0 : Int32), (0 : Int32), t_2.2) H locs ls hn_36 hw (lv_sub hl [1, 0, 3, 4] rfl)
      · have h := ite_f c_5 h
        refine lv_aload_n hx hb dX9_reachable_8 rfl (lv_at hl 3 rfl) ?_
        refine gX9_15 hx hb hts hown hK hw dX9_reachable_9 ?_
        refine lv_iload_n hx hb dX9_reachable_12 rfl (lv_at hl 0 rfl) ?_
        refine lv_iload_n hx hb dX9_reachable_13 rfl (lv_at hl 0 rfl) ?_
        refine lv_iload_n hx hb dX9_reachable_14 rfl (lv_at hl 1 rfl) ?_
        refine lv_icmp_ne (tgt := 22) hx hb dX9_reachable_15 (by decide) (fun c_15 => ?_) (fun c_15 => ?_)
        · have h := ite_f c_15 h
          refine lv_ldc (v := 1000000) hx hb hown (hts _ (wd_5 (w := .constant RX9 73 1000000) (i := 102) (by decide +kernel) rfl)) dX9_reachable_22 ?_
          exact hJ_24 t_2.1 t_2.1 ((1000000 : Int32)) t_2.2 H locs ls h hw (lv_sub hl [3, 1, 2, 0] rfl)
        · have h := ite_t c_15 h
          refine lv_iconst (v := 0) hx hb dX9_reachable_18 (by decide) ?_
          refine lv_goto (tgt := 24) hx hb dX9_reachable_19 (by decide) ?_
          exact hJ_24 t_2.1 t_2.1 ((0 : Int32)) t_2.2 H locs ls h hw (lv_sub hl [3, 1, 2, 0] rfl)
  exact hL_2 n_2 ((0 : Int32), s9) H locs ls hn_2 hw (lv_sub hl [0, 2, 3, 1] rfl)
theorem dX9_placesOn_0 : decode cX9_placesOn 0 = .ok (.aload_n 0, 1) := by decide +kernel
theorem dX9_placesOn_1 : decode cX9_placesOn 1 = .ok (.iload_n 1, 1) := by decide +kernel
theorem dX9_placesOn_2 : decode cX9_placesOn 2 = .ok (.iload_n 2, 1) := by decide +kernel
theorem dX9_placesOn_3 : decode cX9_placesOn 3 = .ok (.invokevirtual 52, 3) := by decide +kernel
theorem dX9_placesOn_6 : decode cX9_placesOn 6 = .ok (.istore_n 3, 1) := by decide +kernel
theorem dX9_placesOn_7 : decode cX9_placesOn 7 = .ok (.aload_n 0, 1) := by decide +kernel
theorem dX9_placesOn_8 : decode cX9_placesOn 8 = .ok (.iload_n 1, 1) := by decide +kernel
theorem dX9_placesOn_9 : decode cX9_placesOn 9 = .ok (.iload_n 2, 1) := by decide +kernel
theorem dX9_placesOn_10 : decode cX9_placesOn 10 = .ok (.invokevirtual 56, 3) := by decide +kernel
theorem dX9_placesOn_13 : decode cX9_placesOn 13 = .ok (.istore 4, 2) := by decide +kernel
theorem dX9_placesOn_15 : decode cX9_placesOn 15 = .ok (.aload_n 0, 1) := by decide +kernel
theorem dX9_placesOn_16 : decode cX9_placesOn 16 = .ok (.iload_n 1, 1) := by decide +kernel
theorem dX9_placesOn_17 : decode cX9_placesOn 17 = .ok (.iload_n 3, 1) := by decide +kernel
theorem dX9_placesOn_18 : decode cX9_placesOn 18 = .ok (.invokevirtual 59, 3) := by decide +kernel
theorem dX9_placesOn_21 : decode cX9_placesOn 21 = .ok (.istore 5, 2) := by decide +kernel
theorem dX9_placesOn_23 : decode cX9_placesOn 23 = .ok (.iload_n 3, 1) := by decide +kernel
theorem dX9_placesOn_24 : decode cX9_placesOn 24 = .ok (.iload_n 2, 1) := by decide +kernel
theorem dX9_placesOn_25 : decode cX9_placesOn 25 = .ok (.if_icmp .ne 20, 3) := by decide +kernel
theorem dX9_placesOn_28 : decode cX9_placesOn 28 = .ok (.iload 5, 2) := by decide +kernel
theorem dX9_placesOn_30 : decode cX9_placesOn 30 = .ok (.invokestatic 45, 3) := by decide +kernel
theorem dX9_placesOn_33 : decode cX9_placesOn 33 = .ok (.ifCond .eq 10, 3) := by decide +kernel
theorem dX9_placesOn_36 : decode cX9_placesOn 36 = .ok (.iconst 1, 1) := by decide +kernel
theorem dX9_placesOn_37 : decode cX9_placesOn 37 = .ok (.iload 5, 2) := by decide +kernel
theorem dX9_placesOn_39 : decode cX9_placesOn 39 = .ok (.ishl, 1) := by decide +kernel
theorem dX9_placesOn_40 : decode cX9_placesOn 40 = .ok (.goto 4, 3) := by decide +kernel
theorem dX9_placesOn_43 : decode cX9_placesOn 43 = .ok (.iconst 0, 1) := by decide +kernel
theorem dX9_placesOn_44 : decode cX9_placesOn 44 = .ok (.ireturn, 1) := by decide +kernel
theorem dX9_placesOn_45 : decode cX9_placesOn 45 = .ok (.iload 5, 2) := by decide +kernel
theorem dX9_placesOn_47 : decode cX9_placesOn 47 = .ok (.invokestatic 45, 3) := by decide +kernel
theorem dX9_placesOn_50 : decode cX9_placesOn 50 = .ok (.ifCond .ne 5, 3) := by decide +kernel
theorem dX9_placesOn_53 : decode cX9_placesOn 53 = .ok (.iconst 0, 1) := by decide +kernel
theorem dX9_placesOn_54 : decode cX9_placesOn 54 = .ok (.ireturn, 1) := by decide +kernel
theorem dX9_placesOn_55 : decode cX9_placesOn 55 = .ok (.aload_n 0, 1) := by decide +kernel
theorem dX9_placesOn_56 : decode cX9_placesOn 56 = .ok (.iload 5, 2) := by decide +kernel
theorem dX9_placesOn_58 : decode cX9_placesOn 58 = .ok (.iload_n 2, 1) := by decide +kernel
theorem dX9_placesOn_59 : decode cX9_placesOn 59 = .ok (.iload_n 3, 1) := by decide +kernel
theorem dX9_placesOn_60 : decode cX9_placesOn 60 = .ok (.isub, 1) := by decide +kernel
theorem dX9_placesOn_61 : decode cX9_placesOn 61 = .ok (.invokevirtual 62, 3) := by decide +kernel
theorem dX9_placesOn_64 : decode cX9_placesOn 64 = .ok (.istore 6, 2) := by decide +kernel
theorem dX9_placesOn_66 : decode cX9_placesOn 66 = .ok (.iload 4, 2) := by decide +kernel
theorem dX9_placesOn_68 : decode cX9_placesOn 68 = .ok (.iconst (-1), 1) := by decide +kernel
theorem dX9_placesOn_69 : decode cX9_placesOn 69 = .ok (.if_icmp .ne 6, 3) := by decide +kernel
theorem dX9_placesOn_72 : decode cX9_placesOn 72 = .ok (.iload 6, 2) := by decide +kernel
theorem dX9_placesOn_74 : decode cX9_placesOn 74 = .ok (.ireturn, 1) := by decide +kernel
theorem dX9_placesOn_75 : decode cX9_placesOn 75 = .ok (.aload_n 0, 1) := by decide +kernel
theorem dX9_placesOn_76 : decode cX9_placesOn 76 = .ok (.iload_n 1, 1) := by decide +kernel
theorem dX9_placesOn_77 : decode cX9_placesOn 77 = .ok (.iload 4, 2) := by decide +kernel
theorem dX9_placesOn_79 : decode cX9_placesOn 79 = .ok (.invokevirtual 59, 3) := by decide +kernel
theorem dX9_placesOn_82 : decode cX9_placesOn 82 = .ok (.istore 7, 2) := by decide +kernel
theorem dX9_placesOn_84 : decode cX9_placesOn 84 = .ok (.iload 7, 2) := by decide +kernel
theorem dX9_placesOn_86 : decode cX9_placesOn 86 = .ok (.invokestatic 45, 3) := by decide +kernel
theorem dX9_placesOn_89 : decode cX9_placesOn 89 = .ok (.ifCond .eq 19, 3) := by decide +kernel
theorem dX9_placesOn_92 : decode cX9_placesOn 92 = .ok (.iload 6, 2) := by decide +kernel
theorem dX9_placesOn_94 : decode cX9_placesOn 94 = .ok (.aload_n 0, 1) := by decide +kernel
theorem dX9_placesOn_95 : decode cX9_placesOn 95 = .ok (.iload 7, 2) := by decide +kernel
theorem dX9_placesOn_97 : decode cX9_placesOn 97 = .ok (.iload 4, 2) := by decide +kernel
theorem dX9_placesOn_99 : decode cX9_placesOn 99 = .ok (.iload_n 2, 1) := by decide +kernel
theorem dX9_placesOn_100 : decode cX9_placesOn 100 = .ok (.isub, 1) := by decide +kernel
theorem dX9_placesOn_101 : decode cX9_placesOn 101 = .ok (.invokevirtual 62, 3) := by decide +kernel
theorem dX9_placesOn_104 : decode cX9_placesOn 104 = .ok (.iand, 1) := by decide +kernel
theorem dX9_placesOn_105 : decode cX9_placesOn 105 = .ok (.goto 4, 3) := by decide +kernel
theorem dX9_placesOn_108 : decode cX9_placesOn 108 = .ok (.iconst 0, 1) := by decide +kernel
theorem dX9_placesOn_109 : decode cX9_placesOn 109 = .ok (.ireturn, 1) := by decide +kernel
noncomputable def f9_placesOn_j109 (k0_j109 : Int32) (s9_j109 : OS) : Option (Int32 × OS) := some (k0_j109, s9_j109)
noncomputable def f9_placesOn_j44 (k0_j44 : Int32) (s9_j44 : OS) : Option (Int32 × OS) := some (k0_j44, s9_j44)
noncomputable def f9_placesOn (a1 : Int32) (a2 : Int32) (s9 : OS) : Option (Int32 × OS) := Option.bind (f9_latestTold a1 a2 s9) fun q_3 => Option.bind (f9_nextTold a1 a2 s9) fun q_10 => Option.bind (f9_placeTold a1 q_3 s9) fun q_18 => if q_3 = a2 then (Option.bind (f10_isPlace q_18) fun q_30 => if q_30 = 0 then (f9_placesOn_j44 ((0 : Int32)) s9) else (f9_placesOn_j44 (((1 : Int32) <<< (q_18 &&& 31))) s9)) else (Option.bind (f10_isPlace q_18) fun q_47 => if q_47 = 0 then (some ((0 : Int32), s9)) else (Option.bind (f9_reachable q_18 ((a2 - q_3)) s9) fun q_61 => if q_10 = (-1 : Int32) then (some (q_61.1, q_61.2)) else (Option.bind (f9_placeTold a1 q_10 q_61.2) fun q_79 => Option.bind (f10_isPlace q_79) fun q_86 => if q_86 = 0 then (f9_placesOn_j109 ((0 : Int32)) q_61.2) else (Option.bind (f9_reachable q_79 ((q_10 - a2)) q_61.2) fun q_101 => f9_placesOn_j109 ((q_61.1 &&& q_101.1)) q_101.2))))
set_option maxHeartbeats 4000000 in
set_option maxRecDepth 100000 in
theorem m9_placesOn (l : Launch) (D : va_G) (ad : Nat → Nat) (cy : Nat → ClassId) (sz : Nat) (s0 s1 s2 s3 s4 s5 s6 s7 s8 s9 s10 : OS) (a1 : Int32) (a2 : Int32) (r : Int32 × OS) (h : f9_placesOn a1 a2 s9 = some r) : Met l yX9_placesOn (wsOf yX9_placesOn cX9_placesOn 8 (some .int)) (rmL 4) (va_Pc ([.ref (ad 9), .int a1, .int a2] : List Value) (PreG D cy (cellsC ad cy s0 s1 s2 s3 s4 s5 s6 s7 s8 s9 s10) sz (NC ad))) (QcI D ad 67 (cellsC ad cy s0 s1 s2 s3 s4 s5 s6 s7 s8 r.2 s10) (r.1) sz) 0 0 (Afr ad 67 sz) := by
  refine metG (own := RX9) (by decide) rfl (Nat.le_of_ble_eq_true rfl) fstC ?_ sz
  intro p e s m below meth c ls C0 hw hl
  obtain ⟨hx, hb, hml, hown, hts, hr, hlk, hK, hN⟩ := C0
  have hl : lv_has ls 8 [(0, .ref (ad 9)), (1, .int a1), (2, .int a2)] := hl
  generalize hQ : MQ below (QcI D ad 67 (cellsC ad cy s0 s1 s2 s3 s4 s5 s6 s7 s8 r.2 s10) (r.1) s.heap.size) ([.ref (ad 9), .int a1, .int a2] : List Value).toArray s 0 0 (Afr ad 67 s.heap.size) = Q
  obtain ⟨H, hH⟩ : ∃ H : Heap, H = s.heap := ⟨_, rfl⟩
  obtain ⟨locs, hlc⟩ : ∃ L : List Loc, L = [] := ⟨_, rfl⟩
  have hw : Wd D (cellsC ad cy s0 s1 s2 s3 s4 s5 s6 s7 s8 s9 s10) (Afr ad 67 s.heap.size) s.heap H locs := by rw [hH, hlc]; exact hw
  suffices h0 : W p l e (rmL 4) s m ([.ref (ad 9), .int a1, .int a2] : List Value).toArray below meth c H locs 0 0 Q (F0 m 0 ls []) by rw [hH, hlc] at h0; exact h0
  clear hH hlc
  unfold f9_placesOn at h
  have hJ_109 : ∀ (k0_j109 : Int32) (s9_j109 : OS) (H : Heap) (locs : List Loc) (ls : Array Slot), f9_placesOn_j109 k0_j109 s9_j109 = some r → Wd D (cellsC ad cy s0 s1 s2 s3 s4 s5 s6 s7 s8 s9_j109 s10) (Afr ad 67 s.heap.size) s.heap H locs → lv_has ls 8 [] → W p l e (rmL 4) s m ([.ref (ad 9), .int a1, .int a2] : List Value).toArray below meth c H locs 0 0 Q (F0 m 109 ls [.int k0_j109]) := by
    intro k0_j109 s9_j109 H locs ls h hw hl
    unfold f9_placesOn_j109 at h
    have h := Option.some.inj h
    subst h
    rw [← hQ]
    exact retI hx hb hr hlk hw rfl dX9_placesOn_109
  have hJ_44 : ∀ (k0_j44 : Int32) (s9_j44 : OS) (H : Heap) (locs : List Loc) (ls : Array Slot), f9_placesOn_j44 k0_j44 s9_j44 = some r → Wd D (cellsC ad cy s0 s1 s2 s3 s4 s5 s6 s7 s8 s9_j44 s10) (Afr ad 67 s.heap.size) s.heap H locs → lv_has ls 8 [] → W p l e (rmL 4) s m ([.ref (ad 9), .int a1, .int a2] : List Value).toArray below meth c H locs 0 0 Q (F0 m 44 ls [.int k0_j44]) := by
    intro k0_j44 s9_j44 H locs ls h hw hl
    unfold f9_placesOn_j44 at h
    have h := Option.some.inj h
    subst h
    rw [← hQ]
    exact retI hx hb hr hlk hw rfl dX9_placesOn_44
  refine lv_aload_n hx hb dX9_placesOn_0 rfl (lv_at hl 0 rfl) ?_
  refine lv_iload_n hx hb dX9_placesOn_1 rfl (lv_at hl 1 rfl) ?_
  refine lv_iload_n hx hb dX9_placesOn_2 rfl (lv_at hl 2 rfl) ?_
  obtain ⟨q_3, h_3, h⟩ := bnd_e h
  have pg_3 := preG (av := [.ref (ad 9), .int a1, .int a2]) hK hw.1 hw.2.1 (NC_keep hN hw.2.2) NC_blind
  refine endI (mc := 0) (ms := 0) (va_runV (As := [.int a1, .int a2]) (rest := []) ⟨hx, hb, hml, hown, hts⟩ (m9_latestTold l D ad cy H.size s0 s1 s2 s3 s4 s5 s6 s7 s8 s9 s10 a1 a2 q_3 h_3) (wX9_52 1 hts ⟨Nat.le_of_ble_eq_true rfl, Nat.le_of_ble_eq_true rfl⟩) ⟨pg_3.1, va_recv hK hw.1 (ci := 9) (q0 := 9) rfl eC_9, pg_3.2⟩ rfl rfl hl.1 rfl (lv_room (Nat.le_of_ble_eq_true rfl)) dX9_placesOn_3 ⟨Nat.le_refl _, Nat.le_refl _⟩) hw.2.2 (afr_in hw.2.2) (fun H locs hw => ?_)
  refine lv_istore_n (lv' := [(3, .int q_3), (0, .ref (ad 9)), (1, .int a1), (2, .int a2)]) hx hb dX9_placesOn_6 rfl hl (by decide) rfl (fun ls hl => ?_)
  refine lv_aload_n hx hb dX9_placesOn_7 rfl (lv_at hl 1 rfl) ?_
  refine lv_iload_n hx hb dX9_placesOn_8 rfl (lv_at hl 2 rfl) ?_
  refine lv_iload_n hx hb dX9_placesOn_9 rfl (lv_at hl 3 rfl) ?_
  obtain ⟨q_10, h_10, h⟩ := bnd_e h
  have pg_10 := preG (av := [.ref (ad 9), .int a1, .int a2]) hK hw.1 hw.2.1 (NC_keep hN hw.2.2) NC_blind
  refine endI (mc := 0) (ms := 0) (va_runV (As := [.int a1, .int a2]) (rest := []) ⟨hx, hb, hml, hown, hts⟩ (m9_nextTold l D ad cy H.size s0 s1 s2 s3 s4 s5 s6 s7 s8 s9 s10 a1 a2 q_10 h_10) (wX9_56 1 hts ⟨Nat.le_of_ble_eq_true rfl, Nat.le_of_ble_eq_true rfl⟩) ⟨pg_10.1, va_recv hK hw.1 (ci := 9) (q0 := 9) rfl eC_9, pg_10.2⟩ rfl rfl hl.1 rfl (lv_room (Nat.le_of_ble_eq_true rfl)) dX9_placesOn_10 ⟨Nat.le_refl _, Nat.le_refl _⟩) hw.2.2 (afr_in hw.2.2) (fun H locs hw => ?_)
  refine lv_istore (lv' := [(4, .int q_10), (3, .int q_3), (0, .ref (ad 9)), (1, .int a1), (2, .int a2)]) hx hb dX9_placesOn_13 hl (by decide) rfl (fun ls hl => ?_)
  refine lv_aload_n hx hb dX9_placesOn_15 rfl (lv_at hl 2 rfl) ?_
  refine lv_iload_n hx hb dX9_placesOn_16 rfl (lv_at hl 3 rfl) ?_
  refine lv_iload_n hx hb dX9_placesOn_17 rfl (lv_at hl 1 rfl) ?_
  obtain ⟨q_18, h_18, h⟩ := bnd_e h
  have pg_18 := preG (av := [.ref (ad 9), .int a1, .int q_3]) hK hw.1 hw.2.1 (NC_keep hN hw.2.2) NC_blind
  refine endI (mc := 0) (ms := 0) (va_runV (As := [.int a1, .int q_3]) (rest := []) ⟨hx, hb, hml, hown, hts⟩ (m9_placeTold l D ad cy H.size s0 s1 s2 s3 s4 s5 s6 s7 s8 s9 s10 a1 q_3 q_18 h_18) (wX9_59 0 hts ⟨Nat.le_of_ble_eq_true rfl, Nat.le_of_ble_eq_true rfl⟩) ⟨pg_18.1, va_recv hK hw.1 (ci := 9) (q0 := 9) rfl eC_9, pg_18.2⟩ rfl rfl hl.1 rfl (lv_room (Nat.le_of_ble_eq_true rfl)) dX9_placesOn_18 ⟨Nat.le_refl _, Nat.le_refl _⟩) hw.2.2 (afr_in hw.2.2) (fun H locs hw => ?_)
  refine lv_istore (lv' := [(5, .int q_18), (4, .int q_10), (3, .int q_3), (0, .ref (ad 9)), (1, .int a1), (2, .int a2)]) hx hb dX9_placesOn_21 hl (by decide) rfl (fun ls hl => ?_)
  refine lv_iload_n hx hb dX9_placesOn_23 rfl (lv_at hl 2 rfl) ?_
  refine lv_iload_n hx hb dX9_placesOn_24 rfl (lv_at hl 5 rfl) ?_
  refine lv_icmp_ne (tgt := 45) hx hb dX9_placesOn_25 (by decide) (fun c_25 => ?_) (fun c_25 => ?_)
  · have h := ite_f c_25 h
    refine lv_iload hx hb dX9_placesOn_45 (lv_at hl 0 rfl) ?_
    obtain ⟨q_47, h_47, h⟩ := bnd_e h
    have pg_47 := preG (av := [.int q_18]) hK hw.1 hw.2.1 (NC_keep hN hw.2.2) NC_blind
    refine endI (mc := 0) (ms := 0) (va_runSN (As := [.int q_18]) (rest := []) ⟨hx, hb, hml, hown, hts⟩ (m10_isPlace l D ad cy H.size s0 s1 s2 s3 s4 s5 s6 s7 s8 s9 s10 q_18 q_47 h_47) (wX9_45 1 hts hN.2.2.1 ⟨Nat.le_of_ble_eq_true rfl, Nat.le_of_ble_eq_true rfl⟩) pg_47 rfl rfl hl.1 rfl (lv_room (Nat.le_of_ble_eq_true rfl)) dX9_placesOn_47 ⟨Nat.le_refl _, Nat.le_refl _⟩) hw.2.2 (afr_in hw.2.2) (fun H locs hw => ?_)
    refine lv_if_ne (tgt := 55) hx hb dX9_placesOn_50 (by decide) (fun c_50 => ?_) (fun c_50 => ?_)
    · have h := ite_f c_50 h
      refine lv_aload_n hx hb dX9_placesOn_55 rfl (lv_at hl 3 rfl) ?_
      refine lv_iload hx hb dX9_placesOn_56 (lv_at hl 0 rfl) ?_
      refine lv_iload_n hx hb dX9_placesOn_58 rfl (lv_at hl 5 rfl) ?_
      refine lv_iload_n hx hb dX9_placesOn_59 rfl (lv_at hl 2 rfl) ?_
      refine lv_isub hx hb dX9_placesOn_60 ?_
      obtain ⟨q_61, h_61, h⟩ := bnd_e h
      have pg_61 := preG (av := [.ref (ad 9), .int q_18, .int ((a2 - q_3))]) hK hw.1 hw.2.1 (NC_keep hN hw.2.2) NC_blind
      refine endI (mc := 0) (ms := 0) (va_runV (As := [.int q_18, .int ((a2 - q_3))]) (rest := []) ⟨hx, hb, hml, hown, hts⟩ (m9_reachable l D ad cy H.size s0 s1 s2 s3 s4 s5 s6 s7 s8 s9 s10 q_18 ((a2 - q_3)) q_61 h_61) (wX9_62 3 hts ⟨Nat.le_of_ble_eq_true rfl, Nat.le_of_ble_eq_true rfl⟩) ⟨pg_61.1, va_recv hK hw.1 (ci := 9) (q0 := 9) rfl eC_9, pg_61.2⟩ rfl rfl hl.1 rfl (lv_room (Nat.le_of_ble_eq_true rfl)) dX9_placesOn_61 ⟨Nat.le_refl _, Nat.le_refl _⟩) hw.2.2 (afr_in hw.2.2) (fun H locs hw => ?_)
      refine lv_istore (lv' := [(6, .int q_61.1), (5, .int q_18), (4, .int q_10), (3, .int q_3), (0, .ref (ad 9)), (1, .int a1), (2, .int a2)]) hx hb dX9_placesOn_64 hl (by decide) rfl (fun ls hl => ?_)
      refine lv_iload hx hb dX9_placesOn_66 (lv_at hl 2 rfl) ?_
      refine lv_iconst (v := (-1)) hx hb dX9_placesOn_68 (by decide) ?_
      refine lv_icmp_ne (tgt := 75) hx hb dX9_placesOn_69 (by decide) (fun c_69 => ?_) (fun c_69 => ?_)
      · have h := ite_f c_69 h
        refine lv_aload_n hx hb dX9_placesOn_75 rfl (lv_at hl 4 rfl) ?_
        refine lv_iload_n hx hb dX9_placesOn_76 rfl (lv_at hl 5 rfl) ?_
        refine lv_iload hx hb dX9_placesOn_77 (lv_at hl 2 rfl) ?_
        obtain ⟨q_79, h_79, h⟩ := bnd_e h
        have pg_79 := preG (av := [.ref (ad 9), .int a1, .int q_10]) hK hw.1 hw.2.1 (NC_keep hN hw.2.2) NC_blind
        refine endI (mc := 0) (ms := 0) (va_runV (As := [.int a1, .int q_10]) (rest := []) ⟨hx, hb, hml, hown, hts⟩ (m9_placeTold l D ad cy H.size s0 s1 s2 s3 s4 s5 s6 s7 s8 q_61.2 s10 a1 q_10 q_79 h_79) (wX9_59 0 hts ⟨Nat.le_of_ble_eq_true rfl, Nat.le_of_ble_eq_true rfl⟩) ⟨pg_79.1, va_recv hK hw.1 (ci := 9) (q0 := 9) rfl eC_9, pg_79.2⟩ rfl rfl hl.1 rfl (lv_room (Nat.le_of_ble_eq_true rfl)) dX9_placesOn_79 ⟨Nat.le_refl _, Nat.le_refl _⟩) hw.2.2 (afr_in hw.2.2) (fun H locs hw => ?_)
        refine lv_istore (lv' := [(7, .int q_79), (6, .int q_61.1), (5, .int q_18), (4, .int q_10), (3, .int q_3), (0, .ref (ad 9)), (1, .int a1), (2, .int a2)]) hx hb dX9_placesOn_82 hl (by decide) rfl (fun ls hl => ?_)
        refine lv_iload hx hb dX9_placesOn_84 (lv_at hl 0 rfl) ?_
        obtain ⟨q_86, h_86, h⟩ := bnd_e h
        have pg_86 := preG (av := [.int q_79]) hK hw.1 hw.2.1 (NC_keep hN hw.2.2) NC_blind
        refine endI (mc := 0) (ms := 0) (va_runSN (As := [.int q_79]) (rest := []) ⟨hx, hb, hml, hown, hts⟩ (m10_isPlace l D ad cy H.size s0 s1 s2 s3 s4 s5 s6 s7 s8 q_61.2 s10 q_79 q_86 h_86) (wX9_45 1 hts hN.2.2.1 ⟨Nat.le_of_ble_eq_true rfl, Nat.le_of_ble_eq_true rfl⟩) pg_86 rfl rfl hl.1 rfl (lv_room (Nat.le_of_ble_eq_true rfl)) dX9_placesOn_86 ⟨Nat.le_refl _, Nat.le_refl _⟩) hw.2.2 (afr_in hw.2.2) (fun H locs hw => ?_)
        refine lv_if_eq (tgt := 108) hx hb dX9_placesOn_89 (by decide) (fun c_89 => ?_) (fun c_89 => ?_)
        · have h := ite_t c_89 h
          refine lv_iconst (v := 0) hx hb dX9_placesOn_108 (by decide) ?_
          exact hJ_109 ((0 : Int32)) q_61.2 H locs ls h hw (lv_sub hl [] rfl)
        · have h := ite_f c_89 h
          refine lv_iload hx hb dX9_placesOn_92 (lv_at hl 1 rfl) ?_
          refine lv_aload_n hx hb dX9_placesOn_94 rfl (lv_at hl 5 rfl) ?_
          refine lv_iload hx hb dX9_placesOn_95 (lv_at hl 0 rfl) ?_
          refine lv_iload hx hb dX9_placesOn_97 (lv_at hl 3 rfl) ?_
          refine lv_iload_n hx hb dX9_placesOn_99 rfl (lv_at hl 7 rfl) ?_
          refine lv_isub hx hb dX9_placesOn_100 ?_
          obtain ⟨q_101, h_101, h⟩ := bnd_e h
          have pg_101 := preG (av := [.ref (ad 9), .int q_79, .int ((q_10 - a2))]) hK hw.1 hw.2.1 (NC_keep hN hw.2.2) NC_blind
          refine endI (mc := 0) (ms := 0) (va_runV (As := [.int q_79, .int ((q_10 - a2))]) (rest := [.int q_61.1]) ⟨hx, hb, hml, hown, hts⟩ (m9_reachable l D ad cy H.size s0 s1 s2 s3 s4 s5 s6 s7 s8 q_61.2 s10 q_79 ((q_10 - a2)) q_101 h_101) (wX9_62 3 hts ⟨Nat.le_of_ble_eq_true rfl, Nat.le_of_ble_eq_true rfl⟩) ⟨pg_101.1, va_recv hK hw.1 (ci := 9) (q0 := 9) rfl eC_9, pg_101.2⟩ rfl rfl hl.1 rfl (lv_room (Nat.le_of_ble_eq_true rfl)) dX9_placesOn_101 ⟨Nat.le_refl _, Nat.le_refl _⟩) hw.2.2 (afr_in hw.2.2) (fun H locs hw => ?_)
          refine lv_iand hx hb dX9_placesOn_104 ?_
          refine lv_goto (tgt := 109) hx hb dX9_placesOn_105 (by decide) ?_
          exact hJ_109 ((q_61.1 &&& q_101.1)) q_101.2 H locs ls h hw (lv_sub hl [] rfl)
      · have h := ite_t c_69 h
        refine lv_iload hx hb dX9_placesOn_72 (lv_at hl 0 rfl) ?_
        have h := Option.some.inj h
        subst h
        rw [← hQ]
        exact retI hx hb hr hlk hw rfl dX9_placesOn_74
    · have h := ite_t c_50 h
      refine lv_iconst (v := 0) hx hb dX9_placesOn_53 (by decide) ?_
      have h := Option.some.inj h
      subst h
      rw [← hQ]
      exact retI hx hb hr hlk hw rfl dX9_placesOn_54
  · have h := ite_t c_25 h
    refine lv_iload hx hb dX9_placesOn_28 (lv_at hl 0 rfl) ?_
    obtain ⟨q_30, h_30, h⟩ := bnd_e h
    have pg_30 := preG (av := [.int q_18]) hK hw.1 hw.2.1 (NC_keep hN hw.2.2) NC_blind
    refine endI (mc := 0) (ms := 0) (va_runSN (As := [.int q_18]) (rest := []) ⟨hx, hb, hml, hown, hts⟩ (m10_isPlace l D ad cy H.size s0 s1 s2 s3 s4 s5 s6 s7 s8 s9 s10 q_18 q_30 h_30) (wX9_45 1 hts hN.2.2.1 ⟨Nat.le_of_ble_eq_true rfl, Nat.le_of_ble_eq_true rfl⟩) pg_30 rfl rfl hl.1 rfl (lv_room (Nat.le_of_ble_eq_true rfl)) dX9_placesOn_30 ⟨Nat.le_refl _, Nat.le_refl _⟩) hw.2.2 (afr_in hw.2.2) (fun H locs hw => ?_)
    refine lv_if_eq (tgt := 43) hx hb dX9_placesOn_33 (by decide) (fun c_33 => ?_) (fun c_33 => ?_)
    · have h := ite_t c_33 h
      refine lv_iconst (v := 0) hx hb dX9_placesOn_43 (by decide) ?_
      exact hJ_44 ((0 : Int32)) s9 H locs ls h hw (lv_sub hl [] rfl)
    · have h := ite_f c_33 h
      refine lv_iconst (v := 1) hx hb dX9_placesOn_36 (by decide) ?_
      refine lv_iload hx hb dX9_placesOn_37 (lv_at hl 0 rfl) ?_
      refine lv_ishl hx hb dX9_placesOn_39 ?_
      refine lv_goto (tgt := 44) hx hb dX9_placesOn_40 (by decide) ?_
      exact hJ_44 (((1 : Int32) <<< (q_18 &&& 31))) s9 H locs ls h hw (lv_sub hl [] rfl)
