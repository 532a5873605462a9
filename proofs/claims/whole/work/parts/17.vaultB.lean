theorem dX10_judge_0 : decode cX10_judge 0 = .ok (.iload_n 1, 1) := by decide +kernel
theorem dX10_judge_1 : decode cX10_judge 1 = .ok (.invokestatic 83, 3) := by decide +kernel
theorem dX10_judge_4 : decode cX10_judge 4 = .ok (.ifCond .eq 14, 3) := by decide +kernel
theorem dX10_judge_7 : decode cX10_judge 7 = .ok (.aload_n 0, 1) := by decide +kernel
theorem dX10_judge_8 : decode cX10_judge 8 = .ok (.getfield 65, 3) := by decide +kernel
theorem dX10_judge_11 : decode cX10_judge 11 = .ok (.iload_n 2, 1) := by decide +kernel
theorem dX10_judge_12 : decode cX10_judge 12 = .ok (.invokevirtual 327, 3) := by decide +kernel
theorem dX10_judge_15 : decode cX10_judge 15 = .ok (.ifCond .ne 5, 3) := by decide +kernel
theorem dX10_judge_18 : decode cX10_judge 18 = .ok (.iconst (-1), 1) := by decide +kernel
theorem dX10_judge_19 : decode cX10_judge 19 = .ok (.ireturn, 1) := by decide +kernel
theorem dX10_judge_20 : decode cX10_judge 20 = .ok (.aload_n 0, 1) := by decide +kernel
theorem dX10_judge_21 : decode cX10_judge 21 = .ok (.iload_n 1, 1) := by decide +kernel
theorem dX10_judge_22 : decode cX10_judge 22 = .ok (.invokevirtual 318, 3) := by decide +kernel
theorem dX10_judge_25 : decode cX10_judge 25 = .ok (.aload_n 0, 1) := by decide +kernel
theorem dX10_judge_26 : decode cX10_judge 26 = .ok (.getfield 65, 3) := by decide +kernel
theorem dX10_judge_29 : decode cX10_judge 29 = .ok (.iload_n 2, 1) := by decide +kernel
theorem dX10_judge_30 : decode cX10_judge 30 = .ok (.invokevirtual 330, 3) := by decide +kernel
theorem dX10_judge_33 : decode cX10_judge 33 = .ok (.ireturn, 1) := by decide +kernel
noncomputable def f10_judge_j18 (s0_j18 : OS) (s4_j18 : OS) : Option (Int32 × OS) := some ((-1 : Int32), s0_j18)
noncomputable def f10_judge (a1 : Int32) (a2 : Int32) (s0 : OS) (s4 : OS) : Option (Int32 × OS) := Option.bind (f10_isKind a1) fun q_1 => if q_1 = 0 then (f10_judge_j18 s0 s4) else (Option.bind (f0_isRow a2 s0) fun q_12 => if q_12 = 0 then (f10_judge_j18 s0 s4) else (Option.bind (f10_takeStock a1 s0 s4) fun q_22 => Option.bind (f0_worthOfRow a2 q_22) fun q_30 => some (q_30.1, q_30.2)))
set_option maxHeartbeats 4000000 in
set_option maxRecDepth 100000 in
theorem m10_judge (l : Launch) (D : va_G) (ad : Nat → Nat) (cy : Nat → ClassId) (sz : Nat) (s0 s1 s2 s3 s4 s5 s6 s7 s8 s9 s10 : OS) (a1 : Int32) (a2 : Int32) (r : Int32 × OS) (h : f10_judge a1 a2 s0 s4 = some r) : Met l yX10_judge (wsOf yX10_judge cX10_judge 3 (some .int)) (rmL 4) (va_Pc ([.ref (ad 10), .int a1, .int a2] : List Value) (PreG D cy (cellsC ad cy s0 s1 s2 s3 s4 s5 s6 s7 s8 s9 s10) sz (NC ad))) (QcI D ad 67 (cellsC ad cy r.2 s1 s2 s3 s4 s5 s6 s7 s8 s9 s10) (r.1) sz) 0 0 (Afr ad 67 sz) := by
  refine metG (own := RX10) (by decide) rfl (Nat.le_of_ble_eq_true rfl) fstC ?_ sz
  intro p e s m below meth c ls C0 hw hl
  obtain ⟨hx, hb, hml, hown, hts, hr, hlk, hK, hN⟩ := C0
  have hl : lv_has ls 3 [(0, .ref (ad 10)), (1, .int a1), (2, .int a2)] := hl
  generalize hQ : MQ below (QcI D ad 67 (cellsC ad cy r.2 s1 s2 s3 s4 s5 s6 s7 s8 s9 s10) (r.1) s.heap.size) ([.ref (ad 10), .int a1, .int a2] : List Value).toArray s 0 0 (Afr ad 67 s.heap.size) = Q
  obtain ⟨H, hH⟩ : ∃ H : Heap, H = s.heap := ⟨_, rfl⟩
  obtain ⟨locs, hlc⟩ : ∃ L : List Loc, L = [] := ⟨_, rfl⟩
  have hw : Wd D (cellsC ad cy s0 s1 s2 s3 s4 s5 s6 s7 s8 s9 s10) (Afr ad 67 s.heap.size) s.heap H locs := by rw [hH, hlc]; exact hw
  suffices h0 : W p l e (rmL 4) s m ([.ref (ad 10), .int a1, .int a2] : List Value).toArray below meth c H locs 0 0 Q (F0 m 0 ls []) by rw [hH, hlc] at h0; exact h0
  clear hH hlc
  unfold f10_judge at h
  have hJ_18 : ∀ (s0_j18 : OS) (H : Heap) (locs : List Loc) (ls : Array Slot), f10_judge_j18 s0_j18 s4 = some r → Wd D (cellsC ad cy s0_j18 s1 s2 s3 s4 s5 s6 s7 s8 s9 s10) (Afr ad 67 s.heap.size) s.heap H locs → lv_has ls 3 [] → W p l e (rmL 4) s m ([.ref (ad 10), .int a1, .int a2] : List Value).toArray below meth c H locs 0 0 Q (F0 m 18 ls []) := by
    intro s0_j18 H locs ls h hw hl
    unfold f10_judge_j18 at h
    refine lv_iconst (v := (-1)) hx hb dX10_judge_18 (by decide) ?_
    have h := Option.some.inj h
    subst h
    rw [← hQ]
    exact retI hx hb hr hlk hw rfl dX10_judge_19
  refine lv_iload_n hx hb dX10_judge_0 rfl (lv_at hl 1 rfl) ?_
  obtain ⟨q_1, h_1, h⟩ := bnd_e h
  have pg_1 := preG (av := [.int a1]) hK hw.1 hw.2.1 (NC_keep hN hw.2.2) NC_blind
  refine endI (mc := 0) (ms := 0) (va_runS (As := [.int a1]) (rest := []) ⟨hx, hb, hml, hown, hts⟩ (m10_isKind l D ad cy H.size s0 s1 s2 s3 s4 s5 s6 s7 s8 s9 s10 a1 q_1 h_1) (wX10_83 1 hts ⟨Nat.le_of_ble_eq_true rfl, Nat.le_of_ble_eq_true rfl⟩) pg_1 rfl rfl hl.1 rfl (lv_room (Nat.le_of_ble_eq_true rfl)) dX10_judge_1 ⟨Nat.le_refl _, Nat.le_refl _⟩) hw.2.2 (afr_in hw.2.2) (fun H locs hw => ?_)
  refine lv_if_eq (tgt := 18) hx hb dX10_judge_4 (by decide) (fun c_4 => ?_) (fun c_4 => ?_)
  · have h := ite_t c_4 h
    exact hJ_18 s0 H locs ls h hw (lv_sub hl [] rfl)
  · have h := ite_f c_4 h
    refine lv_aload_n hx hb dX10_judge_7 rfl (lv_at hl 0 rfl) ?_
    refine gX10_65 hx hb hts hown hK hw dX10_judge_8 ?_
    refine lv_iload_n hx hb dX10_judge_11 rfl (lv_at hl 2 rfl) ?_
    obtain ⟨q_12, h_12, h⟩ := bnd_e h
    have pg_12 := preG (av := [.ref (ad 0), .int a2]) hK hw.1 hw.2.1 (NC_keep hN hw.2.2) NC_blind
    refine endI (mc := 0) (ms := 0) (va_runV (As := [.int a2]) (rest := []) ⟨hx, hb, hml, hown, hts⟩ (m0_isRow l D ad cy H.size s0 s1 s2 s3 s4 s5 s6 s7 s8 s9 s10 a2 q_12 h_12) (wX10_327 0 hts ⟨Nat.le_of_ble_eq_true rfl, Nat.le_of_ble_eq_true rfl⟩) ⟨pg_12.1, va_recv hK hw.1 (ci := 0) (q0 := 0) rfl eC_0, pg_12.2⟩ rfl rfl hl.1 rfl (lv_room (Nat.le_of_ble_eq_true rfl)) dX10_judge_12 ⟨Nat.le_refl _, Nat.le_refl _⟩) hw.2.2 (afr_in hw.2.2) (fun H locs hw => ?_)
    refine lv_if_ne (tgt := 20) hx hb dX10_judge_15 (by decide) (fun c_15 => ?_) (fun c_15 => ?_)
    · have h := ite_f c_15 h
      refine lv_aload_n hx hb dX10_judge_20 rfl (lv_at hl 0 rfl) ?_
      refine lv_iload_n hx hb dX10_judge_21 rfl (lv_at hl 1 rfl) ?_
      obtain ⟨q_22, h_22, h⟩ := bnd_e h
      have pg_22 := preG (av := [.ref (ad 10), .int a1]) hK hw.1 hw.2.1 (NC_keep hN hw.2.2) NC_blind
      refine endV (mc := 0) (ms := 0) (va_runV (As := [.int a1]) (rest := []) ⟨hx, hb, hml, hown, hts⟩ (m10_takeStock l D ad cy H.size s0 s1 s2 s3 s4 s5 s6 s7 s8 s9 s10 a1 q_22 h_22) (wX10_318 3 hts ⟨Nat.le_of_ble_eq_true rfl, Nat.le_of_ble_eq_true rfl⟩) ⟨pg_22.1, va_recv hK hw.1 (ci := 10) (q0 := 10) rfl eC_10, pg_22.2⟩ rfl rfl hl.1 rfl (lv_room (Nat.le_of_ble_eq_true rfl)) dX10_judge_22 ⟨Nat.le_refl _, Nat.le_refl _⟩) hw.2.2 (afr_in hw.2.2) (fun H locs hw => ?_)
      refine lv_aload_n hx hb dX10_judge_25 rfl (lv_at hl 0 rfl) ?_
      refine gX10_65 hx hb hts hown hK hw dX10_judge_26 ?_
      refine lv_iload_n hx hb dX10_judge_29 rfl (lv_at hl 2 rfl) ?_
      obtain ⟨q_30, h_30, h⟩ := bnd_e h
      have pg_30 := preG (av := [.ref (ad 0), .int a2]) hK hw.1 hw.2.1 (NC_keep hN hw.2.2) NC_blind
      refine endI (mc := 0) (ms := 0) (va_runV (As := [.int a2]) (rest := []) ⟨hx, hb, hml, hown, hts⟩ (m0_worthOfRow l D ad cy H.size q_22 s1 s2 s3 s4 s5 s6 s7 s8 s9 s10 a2 q_30 h_30) (wX10_330 2 hts ⟨Nat.le_of_ble_eq_true rfl, Nat.le_of_ble_eq_true rfl⟩) ⟨pg_30.1, va_recv hK hw.1 (ci := 0) (q0 := 0) rfl eC_0, pg_30.2⟩ rfl rfl hl.1 rfl (lv_room (Nat.le_of_ble_eq_true rfl)) dX10_judge_30 ⟨Nat.le_refl _, Nat.le_refl _⟩) hw.2.2 (afr_in hw.2.2) (fun H locs hw => ?_)
      have h := Option.some.inj h
      subst h
      rw [← hQ]
      exact retI hx hb hr hlk hw rfl dX10_judge_33
    · have h := ite_t c_15 h
      exact hJ_18 s0 H locs ls h hw (lv_sub hl [] rfl)
theorem dX10_keepsTooLittle_0 : decode cX10_keepsTooLittle 0 = .ok (.aload_n 0, 1) := by decide +kernel
theorem dX10_keepsTooLittle_1 : decode cX10_keepsTooLittle 1 = .ok (.getfield 23, 3) := by decide +kernel
theorem dX10_keepsTooLittle_4 : decode cX10_keepsTooLittle 4 = .ok (.iload_n 1, 1) := by decide +kernel
theorem dX10_keepsTooLittle_5 : decode cX10_keepsTooLittle 5 = .ok (.invokevirtual 219, 3) := by decide +kernel
theorem dX10_keepsTooLittle_8 : decode cX10_keepsTooLittle 8 = .ok (.ifCond .eq 5, 3) := by decide +kernel
theorem dX10_keepsTooLittle_11 : decode cX10_keepsTooLittle 11 = .ok (.iconst 0, 1) := by decide +kernel
theorem dX10_keepsTooLittle_12 : decode cX10_keepsTooLittle 12 = .ok (.ireturn, 1) := by decide +kernel
theorem dX10_keepsTooLittle_13 : decode cX10_keepsTooLittle 13 = .ok (.aload_n 0, 1) := by decide +kernel
theorem dX10_keepsTooLittle_14 : decode cX10_keepsTooLittle 14 = .ok (.getfield 23, 3) := by decide +kernel
theorem dX10_keepsTooLittle_17 : decode cX10_keepsTooLittle 17 = .ok (.iload_n 1, 1) := by decide +kernel
theorem dX10_keepsTooLittle_18 : decode cX10_keepsTooLittle 18 = .ok (.invokevirtual 206, 3) := by decide +kernel
theorem dX10_keepsTooLittle_21 : decode cX10_keepsTooLittle 21 = .ok (.istore_n 3, 1) := by decide +kernel
theorem dX10_keepsTooLittle_22 : decode cX10_keepsTooLittle 22 = .ok (.aload_n 0, 1) := by decide +kernel
theorem dX10_keepsTooLittle_23 : decode cX10_keepsTooLittle 23 = .ok (.getfield 23, 3) := by decide +kernel
theorem dX10_keepsTooLittle_26 : decode cX10_keepsTooLittle 26 = .ok (.iload_n 3, 1) := by decide +kernel
theorem dX10_keepsTooLittle_27 : decode cX10_keepsTooLittle 27 = .ok (.iconst 0, 1) := by decide +kernel
theorem dX10_keepsTooLittle_28 : decode cX10_keepsTooLittle 28 = .ok (.bipush 9, 2) := by decide +kernel
theorem dX10_keepsTooLittle_30 : decode cX10_keepsTooLittle 30 = .ok (.iconst 1, 1) := by decide +kernel
theorem dX10_keepsTooLittle_31 : decode cX10_keepsTooLittle 31 = .ok (.invokevirtual 227, 3) := by decide +kernel
theorem dX10_keepsTooLittle_34 : decode cX10_keepsTooLittle 34 = .ok (.aload_n 0, 1) := by decide +kernel
theorem dX10_keepsTooLittle_35 : decode cX10_keepsTooLittle 35 = .ok (.getfield 23, 3) := by decide +kernel
theorem dX10_keepsTooLittle_38 : decode cX10_keepsTooLittle 38 = .ok (.iload_n 1, 1) := by decide +kernel
theorem dX10_keepsTooLittle_39 : decode cX10_keepsTooLittle 39 = .ok (.invokevirtual 104, 3) := by decide +kernel
theorem dX10_keepsTooLittle_42 : decode cX10_keepsTooLittle 42 = .ok (.i2l, 1) := by decide +kernel
theorem dX10_keepsTooLittle_43 : decode cX10_keepsTooLittle 43 = .ok (.lsub, 1) := by decide +kernel
theorem dX10_keepsTooLittle_44 : decode cX10_keepsTooLittle 44 = .ok (.lstore 4, 2) := by decide +kernel
theorem dX10_keepsTooLittle_46 : decode cX10_keepsTooLittle 46 = .ok (.lload 4, 2) := by decide +kernel
theorem dX10_keepsTooLittle_48 : decode cX10_keepsTooLittle 48 = .ok (.ldc2_w 238, 3) := by decide +kernel
theorem dX10_keepsTooLittle_51 : decode cX10_keepsTooLittle 51 = .ok (.lmul, 1) := by decide +kernel
theorem dX10_keepsTooLittle_52 : decode cX10_keepsTooLittle 52 = .ok (.iload_n 2, 1) := by decide +kernel
theorem dX10_keepsTooLittle_53 : decode cX10_keepsTooLittle 53 = .ok (.i2l, 1) := by decide +kernel
theorem dX10_keepsTooLittle_54 : decode cX10_keepsTooLittle 54 = .ok (.aload_n 0, 1) := by decide +kernel
theorem dX10_keepsTooLittle_55 : decode cX10_keepsTooLittle 55 = .ok (.getfield 23, 3) := by decide +kernel
theorem dX10_keepsTooLittle_58 : decode cX10_keepsTooLittle 58 = .ok (.iconst 0, 1) := by decide +kernel
theorem dX10_keepsTooLittle_59 : decode cX10_keepsTooLittle 59 = .ok (.iload_n 3, 1) := by decide +kernel
theorem dX10_keepsTooLittle_60 : decode cX10_keepsTooLittle 60 = .ok (.invokevirtual 240, 3) := by decide +kernel
theorem dX10_keepsTooLittle_63 : decode cX10_keepsTooLittle 63 = .ok (.lmul, 1) := by decide +kernel
theorem dX10_keepsTooLittle_64 : decode cX10_keepsTooLittle 64 = .ok (.lcmp, 1) := by decide +kernel
theorem dX10_keepsTooLittle_65 : decode cX10_keepsTooLittle 65 = .ok (.ifCond .ge 7, 3) := by decide +kernel
theorem dX10_keepsTooLittle_68 : decode cX10_keepsTooLittle 68 = .ok (.iconst 1, 1) := by decide +kernel
theorem dX10_keepsTooLittle_69 : decode cX10_keepsTooLittle 69 = .ok (.goto 4, 3) := by decide +kernel
theorem dX10_keepsTooLittle_72 : decode cX10_keepsTooLittle 72 = .ok (.iconst 0, 1) := by decide +kernel
theorem dX10_keepsTooLittle_73 : decode cX10_keepsTooLittle 73 = .ok (.ireturn, 1) := by decide +kernel
noncomputable def f10_keepsTooLittle_j73 (k0_j73 : Int32) (s4_j73 : OS) : Option (Int32) := chk (isB k0_j73) (some k0_j73)
noncomputable def f10_keepsTooLittle (a1 : Int32) (a2 : Int32) (s4 : OS) : Option (Int32) := Option.bind (f4_metOf a1 s4) fun q_5 => if q_5 = 0 then (Option.bind (f4_kindOf a1 s4) fun q_18 => Option.bind (f4_weightIn q_18 ((0 : Int32)) ((9 : Int32)) ((1 : Int32)) s4) fun q_31 => Option.bind (f4_weightOf a1 s4) fun q_39 => nm ((q_31 - (q_39).toInt64)) fun n_44 => Option.bind (f4_charged ((0 : Int32)) q_18 s4) fun q_60 => if 0 ≤ (lg_cmp ((n_44 * (1000 : Int64))) (((a2).toInt64 * q_60))) then (f10_keepsTooLittle_j73 ((0 : Int32)) s4) else (f10_keepsTooLittle_j73 ((1 : Int32)) s4)) else (some ((0 : Int32)))
set_option maxHeartbeats 4000000 in
set_option maxRecDepth 100000 in
theorem m10_keepsTooLittle (l : Launch) (D : va_G) (ad : Nat → Nat) (cy : Nat → ClassId) (sz : Nat) (s0 s1 s2 s3 s4 s5 s6 s7 s8 s9 s10 : OS) (a1 : Int32) (a2 : Int32) (r : Int32) (h : f10_keepsTooLittle a1 a2 s4 = some r) : Met l yX10_keepsTooLittle (wsOf yX10_keepsTooLittle cX10_keepsTooLittle 6 (some .boolean)) (rmL 3) (va_Pc ([.ref (ad 10), .int a1, .int a2] : List Value) (PreG D cy (cellsC ad cy s0 s1 s2 s3 s4 s5 s6 s7 s8 s9 s10) sz (NC ad))) (QcI D ad 67 (cellsC ad cy s0 s1 s2 s3 s4 s5 s6 s7 s8 s9 s10) (r) sz) 0 0 (Afr ad 67 sz) := by
  refine metG (own := RX10) (by decide) rfl (Nat.le_of_ble_eq_true rfl) fstC ?_ sz
  intro p e s m below meth c ls C0 hw hl
  obtain ⟨hx, hb, hml, hown, hts, hr, hlk, hK, hN⟩ := C0
  have hl : lv_has ls 6 [(0, .ref (ad 10)), (1, .int a1), (2, .int a2)] := hl
  generalize hQ : MQ below (QcI D ad 67 (cellsC ad cy s0 s1 s2 s3 s4 s5 s6 s7 s8 s9 s10) (r) s.heap.size) ([.ref (ad 10), .int a1, .int a2] : List Value).toArray s 0 0 (Afr ad 67 s.heap.size) = Q
  obtain ⟨H, hH⟩ : ∃ H : Heap, H = s.heap := ⟨_, rfl⟩
  obtain ⟨locs, hlc⟩ : ∃ L : List Loc, L = [] := ⟨_, rfl⟩
  have hw : Wd D (cellsC ad cy s0 s1 s2 s3 s4 s5 s6 s7 s8 s9 s10) (Afr ad 67 s.heap.size) s.heap H locs := by rw [hH, hlc]; exact hw
  suffices h0 : W p l e (rmL 3) s m ([.ref (ad 10), .int a1, .int a2] : List Value).toArray below meth c H locs 0 0 Q (F0 m 0 ls []) by rw [hH, hlc] at h0; exact h0
  clear hH hlc
  unfold f10_keepsTooLittle at h
  have hJ_73 : ∀ (k0_j73 : Int32) (H : Heap) (locs : List Loc) (ls : Array Slot), f10_keepsTooLittle_j73 k0_j73 s4 = some r → Wd D (cellsC ad cy s0 s1 s2 s3 s4 s5 s6 s7 s8 s9 s10) (Afr ad 67 s.heap.size) s.heap H locs → lv_has ls 6 [] → W p l e (rmL 3) s m ([.ref (ad 10), .int a1, .int a2] : List Value).toArray below meth c H locs 0 0 Q (F0 m 73 ls [.int k0_j73]) := by
    intro k0_j73 H locs ls h hw hl
    unfold f10_keepsTooLittle_j73 at h
    obtain ⟨hz_73, h⟩ := chk_e h
    have h := Option.some.inj h
    subst h
    rw [← hQ]
    exact retI hx hb hr hlk hw (narB hz_73) dX10_keepsTooLittle_73
  refine lv_aload_n hx hb dX10_keepsTooLittle_0 rfl (lv_at hl 0 rfl) ?_
  refine gX10_23 hx hb hts hown hK hw dX10_keepsTooLittle_1 ?_
  refine lv_iload_n hx hb dX10_keepsTooLittle_4 rfl (lv_at hl 1 rfl) ?_
  obtain ⟨q_5, h_5, h⟩ := bnd_e h
  have pg_5 := preG (av := [.ref (ad 4), .int a1]) hK hw.1 hw.2.1 (NC_keep hN hw.2.2) NC_blind
  refine endI (mc := 0) (ms := 0) (va_runV (As := [.int a1]) (rest := []) ⟨hx, hb, hml, hown, hts⟩ (m4_metOf l D ad cy H.size s0 s1 s2 s3 s4 s5 s6 s7 s8 s9 s10 a1 q_5 h_5) (wX10_219 1 hts ⟨Nat.le_of_ble_eq_true rfl, Nat.le_of_ble_eq_true rfl⟩) ⟨pg_5.1, va_recv hK hw.1 (ci := 4) (q0 := 4) rfl eC_4, pg_5.2⟩ rfl rfl hl.1 rfl (lv_room (Nat.le_of_ble_eq_true rfl)) dX10_keepsTooLittle_5 ⟨Nat.le_refl _, Nat.le_refl _⟩) hw.2.2 (afr_in hw.2.2) (fun H locs hw => ?_)
  refine lv_if_eq (tgt := 13) hx hb dX10_keepsTooLittle_8 (by decide) (fun c_8 => ?_) (fun c_8 => ?_)
  · have h := ite_t c_8 h
    refine lv_aload_n hx hb dX10_keepsTooLittle_13 rfl (lv_at hl 0 rfl) ?_
    refine gX10_23 hx hb hts hown hK hw dX10_keepsTooLittle_14 ?_
    refine lv_iload_n hx hb dX10_keepsTooLittle_17 rfl (lv_at hl 1 rfl) ?_
    obtain ⟨q_18, h_18, h⟩ := bnd_e h
    have pg_18 := preG (av := [.ref (ad 4), .int a1]) hK hw.1 hw.2.1 (NC_keep hN hw.2.2) NC_blind
    refine endI (mc := 0) (ms := 0) (va_runV (As := [.int a1]) (rest := []) ⟨hx, hb, hml, hown, hts⟩ (m4_kindOf l D ad cy H.size s0 s1 s2 s3 s4 s5 s6 s7 s8 s9 s10 a1 q_18 h_18) (wX10_206 1 hts ⟨Nat.le_of_ble_eq_true rfl, Nat.le_of_ble_eq_true rfl⟩) ⟨pg_18.1, va_recv hK hw.1 (ci := 4) (q0 := 4) rfl eC_4, pg_18.2⟩ rfl rfl hl.1 rfl (lv_room (Nat.le_of_ble_eq_true rfl)) dX10_keepsTooLittle_18 ⟨Nat.le_refl _, Nat.le_refl _⟩) hw.2.2 (afr_in hw.2.2) (fun H locs hw => ?_)
    refine lv_istore_n (lv' := [(3, .int q_18), (0, .ref (ad 10)), (1, .int a1), (2, .int a2)]) hx hb dX10_keepsTooLittle_21 rfl hl (by decide) rfl (fun ls hl => ?_)
    refine lv_aload_n hx hb dX10_keepsTooLittle_22 rfl (lv_at hl 1 rfl) ?_
    refine gX10_23 hx hb hts hown hK hw dX10_keepsTooLittle_23 ?_
    refine lv_iload_n hx hb dX10_keepsTooLittle_26 rfl (lv_at hl 0 rfl) ?_
    refine lv_iconst (v := 0) hx hb dX10_keepsTooLittle_27 (by decide) ?_
    refine lv_bipush (v := 9) hx hb dX10_keepsTooLittle_28 (by decide) ?_
    refine lv_iconst (v := 1) hx hb dX10_keepsTooLittle_30 (by decide) ?_
    obtain ⟨q_31, h_31, h⟩ := bnd_e h
    have pg_31 := preG (av := [.ref (ad 4), .int q_18, .int ((0 : Int32)), .int ((9 : Int32)), .int ((1 : Int32))]) hK hw.1 hw.2.1 (NC_keep hN hw.2.2) NC_blind
    refine endL (mc := 0) (ms := 0) (va_runV (As := [.int q_18, .int ((0 : Int32)), .int ((9 : Int32)), .int ((1 : Int32))]) (rest := []) ⟨hx, hb, hml, hown, hts⟩ (m4_weightIn l D ad cy H.size s0 s1 s2 s3 s4 s5 s6 s7 s8 s9 s10 q_18 ((0 : Int32)) ((9 : Int32)) ((1 : Int32)) q_31 h_31) (wX10_227 2 hts ⟨Nat.le_of_ble_eq_true rfl, Nat.le_of_ble_eq_true rfl⟩) ⟨pg_31.1, va_recv hK hw.1 (ci := 4) (q0 := 4) rfl eC_4, pg_31.2⟩ rfl rfl hl.1 rfl (lv_room (Nat.le_of_ble_eq_true rfl)) dX10_keepsTooLittle_31 ⟨Nat.le_refl _, Nat.le_refl _⟩) hw.2.2 (afr_in hw.2.2) (fun H locs hw => ?_)
    refine lv_aload_n hx hb dX10_keepsTooLittle_34 rfl (lv_at hl 1 rfl) ?_
    refine gX10_23 hx hb hts hown hK hw dX10_keepsTooLittle_35 ?_
    refine lv_iload_n hx hb dX10_keepsTooLittle_38 rfl (lv_at hl 2 rfl) ?_
    obtain ⟨q_39, h_39, h⟩ := bnd_e h
    have pg_39 := preG (av := [.ref (ad 4), .int a1]) hK hw.1 hw.2.1 (NC_keep hN hw.2.2) NC_blind
    refine endI (mc := 0) (ms := 0) (va_runV (As := [.int a1]) (rest := [.long q_31]) ⟨hx, hb, hml, hown, hts⟩ (m4_weightOf l D ad cy H.size s0 s1 s2 s3 s4 s5 s6 s7 s8 s9 s10 a1 q_39 h_39) (wX10_104 1 hts ⟨Nat.le_of_ble_eq_true rfl, Nat.le_of_ble_eq_true rfl⟩) ⟨pg_39.1, va_recv hK hw.1 (ci := 4) (q0 := 4) rfl eC_4, pg_39.2⟩ rfl rfl hl.1 rfl (lv_room (Nat.le_of_ble_eq_true rfl)) dX10_keepsTooLittle_39 ⟨Nat.le_refl _, Nat.le_refl _⟩) hw.2.2 (afr_in hw.2.2) (fun H locs hw => ?_)
    refine lv_i2l hx hb dX10_keepsTooLittle_42 rfl ?_
    refine lv_lsub hx hb dX10_keepsTooLittle_43 ?_
    obtain ⟨n_44, e_44, h⟩ := nam_e h
    refine topL e_44 ?_
    refine lv_lstore (lv' := [(4, .long n_44), (3, .int q_18), (0, .ref (ad 10)), (1, .int a1), (2, .int a2)]) hx hb dX10_keepsTooLittle_44 hl (by decide) rfl (fun ls hl => ?_)
    refine lv_lload hx hb dX10_keepsTooLittle_46 (lv_at hl 0 rfl) ?_
    refine lv_ldc2 (v := 1000) hx hb hown (hts _ (wd_4 (w := .constantLong RX10 238 1000) (i := 136) (by decide +kernel) rfl)) dX10_keepsTooLittle_48 ?_
    refine lv_lmul hx hb dX10_keepsTooLittle_51 ?_
    refine lv_iload_n hx hb dX10_keepsTooLittle_52 rfl (lv_at hl 4 rfl) ?_
    refine lv_i2l hx hb dX10_keepsTooLittle_53 rfl ?_
    refine lv_aload_n hx hb dX10_keepsTooLittle_54 rfl (lv_at hl 2 rfl) ?_
    refine gX10_23 hx hb hts hown hK hw dX10_keepsTooLittle_55 ?_
    refine lv_iconst (v := 0) hx hb dX10_keepsTooLittle_58 (by decide) ?_
    refine lv_iload_n hx hb dX10_keepsTooLittle_59 rfl (lv_at hl 1 rfl) ?_
    obtain ⟨q_60, h_60, h⟩ := bnd_e h
    have pg_60 := preG (av := [.ref (ad 4), .int ((0 : Int32)), .int q_18]) hK hw.1 hw.2.1 (NC_keep hN hw.2.2) NC_blind
    refine endL (mc := 0) (ms := 0) (va_runV (As := [.int ((0 : Int32)), .int q_18]) (rest := [.long ((a2).toInt64), .long ((n_44 * (1000 : Int64)))]) ⟨hx, hb, hml, hown, hts⟩ (m4_charged l D ad cy H.size s0 s1 s2 s3 s4 s5 s6 s7 s8 s9 s10 ((0 : Int32)) q_18 q_60 h_60) (wX10_240 0 hts ⟨Nat.le_of_ble_eq_true rfl, Nat.le_of_ble_eq_true rfl⟩) ⟨pg_60.1, va_recv hK hw.1 (ci := 4) (q0 := 4) rfl eC_4, pg_60.2⟩ rfl rfl hl.1 rfl (lv_room (Nat.le_of_ble_eq_true rfl)) dX10_keepsTooLittle_60 ⟨Nat.le_refl _, Nat.le_refl _⟩) hw.2.2 (afr_in hw.2.2) (fun H locs hw => ?_)
    refine lv_lmul hx hb dX10_keepsTooLittle_63 ?_
    refine W.lcmp hx hb dX10_keepsTooLittle_64 ?_
    refine lv_if_ge (tgt := 72) hx hb dX10_keepsTooLittle_65 (by decide) (fun c_65 => ?_) (fun c_65 => ?_)
    · have h := ite_t c_65 h
      refine lv_iconst (v := 0) hx hb dX10_keepsTooLittle_72 (by decide) ?_
      exact hJ_73 ((0 : Int32)) H locs ls h hw (lv_sub hl [] rfl)
    · have h := ite_f c_65 h
      refine lv_iconst (v := 1) hx hb dX10_keepsTooLittle_68 (by decide) ?_
      refine lv_goto (tgt := 73) hx hb dX10_keepsTooLittle_69 (by decide) ?_
      exact hJ_73 ((1 : Int32)) H locs ls h hw (lv_sub hl [] rfl)
  · have h := ite_f c_8 h
    refine lv_iconst (v := 0) hx hb dX10_keepsTooLittle_11 (by decide) ?_
    have h := Option.some.inj h
    subst h
    rw [← hQ]
    exact retI hx hb hr hlk hw (narB (v := (0 : Int32)) (by decide)) dX10_keepsTooLittle_12
theorem dX10_tellLetters_0 : decode cX10_tellLetters 0 = .ok (.aload_n 0, 1) := by decide +kernel
theorem dX10_tellLetters_1 : decode cX10_tellLetters 1 = .ok (.getfield 23, 3) := by decide +kernel
theorem dX10_tellLetters_4 : decode cX10_tellLetters 4 = .ok (.iload_n 1, 1) := by decide +kernel
theorem dX10_tellLetters_5 : decode cX10_tellLetters 5 = .ok (.invokevirtual 206, 3) := by decide +kernel
theorem dX10_tellLetters_8 : decode cX10_tellLetters 8 = .ok (.istore_n 3, 1) := by decide +kernel
theorem dX10_tellLetters_9 : decode cX10_tellLetters 9 = .ok (.aload_n 0, 1) := by decide +kernel
theorem dX10_tellLetters_10 : decode cX10_tellLetters 10 = .ok (.getfield 37, 3) := by decide +kernel
theorem dX10_tellLetters_13 : decode cX10_tellLetters 13 = .ok (.bipush 102, 2) := by decide +kernel
theorem dX10_tellLetters_15 : decode cX10_tellLetters 15 = .ok (.aload_n 0, 1) := by decide +kernel
theorem dX10_tellLetters_16 : decode cX10_tellLetters 16 = .ok (.getfield 30, 3) := by decide +kernel
theorem dX10_tellLetters_19 : decode cX10_tellLetters 19 = .ok (.iload_n 2, 1) := by decide +kernel
theorem dX10_tellLetters_20 : decode cX10_tellLetters 20 = .ok (.invokevirtual 209, 3) := by decide +kernel
theorem dX10_tellLetters_23 : decode cX10_tellLetters 23 = .ok (.i2l, 1) := by decide +kernel
theorem dX10_tellLetters_24 : decode cX10_tellLetters 24 = .ok (.invokevirtual 212, 3) := by decide +kernel
theorem dX10_tellLetters_27 : decode cX10_tellLetters 27 = .ok (.aload_n 0, 1) := by decide +kernel
theorem dX10_tellLetters_28 : decode cX10_tellLetters 28 = .ok (.getfield 37, 3) := by decide +kernel
theorem dX10_tellLetters_31 : decode cX10_tellLetters 31 = .ok (.bipush 104, 2) := by decide +kernel
theorem dX10_tellLetters_33 : decode cX10_tellLetters 33 = .ok (.aload_n 0, 1) := by decide +kernel
theorem dX10_tellLetters_34 : decode cX10_tellLetters 34 = .ok (.getfield 30, 3) := by decide +kernel
theorem dX10_tellLetters_37 : decode cX10_tellLetters 37 = .ok (.iload_n 2, 1) := by decide +kernel
theorem dX10_tellLetters_38 : decode cX10_tellLetters 38 = .ok (.invokevirtual 216, 3) := by decide +kernel
theorem dX10_tellLetters_41 : decode cX10_tellLetters 41 = .ok (.i2l, 1) := by decide +kernel
theorem dX10_tellLetters_42 : decode cX10_tellLetters 42 = .ok (.invokevirtual 212, 3) := by decide +kernel
theorem dX10_tellLetters_45 : decode cX10_tellLetters 45 = .ok (.aload_n 0, 1) := by decide +kernel
theorem dX10_tellLetters_46 : decode cX10_tellLetters 46 = .ok (.getfield 37, 3) := by decide +kernel
theorem dX10_tellLetters_49 : decode cX10_tellLetters 49 = .ok (.bipush 107, 2) := by decide +kernel
theorem dX10_tellLetters_51 : decode cX10_tellLetters 51 = .ok (.iload_n 3, 1) := by decide +kernel
theorem dX10_tellLetters_52 : decode cX10_tellLetters 52 = .ok (.i2l, 1) := by decide +kernel
theorem dX10_tellLetters_53 : decode cX10_tellLetters 53 = .ok (.invokevirtual 212, 3) := by decide +kernel
theorem dX10_tellLetters_56 : decode cX10_tellLetters 56 = .ok (.aload_n 0, 1) := by decide +kernel
theorem dX10_tellLetters_57 : decode cX10_tellLetters 57 = .ok (.getfield 37, 3) := by decide +kernel
theorem dX10_tellLetters_60 : decode cX10_tellLetters 60 = .ok (.bipush 119, 2) := by decide +kernel
theorem dX10_tellLetters_62 : decode cX10_tellLetters 62 = .ok (.aload_n 0, 1) := by decide +kernel
theorem dX10_tellLetters_63 : decode cX10_tellLetters 63 = .ok (.getfield 23, 3) := by decide +kernel
theorem dX10_tellLetters_66 : decode cX10_tellLetters 66 = .ok (.iload_n 1, 1) := by decide +kernel
theorem dX10_tellLetters_67 : decode cX10_tellLetters 67 = .ok (.invokevirtual 104, 3) := by decide +kernel
theorem dX10_tellLetters_70 : decode cX10_tellLetters 70 = .ok (.i2l, 1) := by decide +kernel
theorem dX10_tellLetters_71 : decode cX10_tellLetters 71 = .ok (.invokevirtual 212, 3) := by decide +kernel
theorem dX10_tellLetters_74 : decode cX10_tellLetters 74 = .ok (.aload_n 0, 1) := by decide +kernel
theorem dX10_tellLetters_75 : decode cX10_tellLetters 75 = .ok (.getfield 37, 3) := by decide +kernel
theorem dX10_tellLetters_78 : decode cX10_tellLetters 78 = .ok (.bipush 109, 2) := by decide +kernel
theorem dX10_tellLetters_80 : decode cX10_tellLetters 80 = .ok (.aload_n 0, 1) := by decide +kernel
theorem dX10_tellLetters_81 : decode cX10_tellLetters 81 = .ok (.getfield 23, 3) := by decide +kernel
theorem dX10_tellLetters_84 : decode cX10_tellLetters 84 = .ok (.iload_n 1, 1) := by decide +kernel
theorem dX10_tellLetters_85 : decode cX10_tellLetters 85 = .ok (.invokevirtual 219, 3) := by decide +kernel
theorem dX10_tellLetters_88 : decode cX10_tellLetters 88 = .ok (.invokestatic 222, 3) := by decide +kernel
theorem dX10_tellLetters_91 : decode cX10_tellLetters 91 = .ok (.i2l, 1) := by decide +kernel
theorem dX10_tellLetters_92 : decode cX10_tellLetters 92 = .ok (.invokevirtual 212, 3) := by decide +kernel
theorem dX10_tellLetters_95 : decode cX10_tellLetters 95 = .ok (.aload_n 0, 1) := by decide +kernel
theorem dX10_tellLetters_96 : decode cX10_tellLetters 96 = .ok (.getfield 37, 3) := by decide +kernel
theorem dX10_tellLetters_99 : decode cX10_tellLetters 99 = .ok (.bipush 108, 2) := by decide +kernel
theorem dX10_tellLetters_101 : decode cX10_tellLetters 101 = .ok (.aload_n 0, 1) := by decide +kernel
theorem dX10_tellLetters_102 : decode cX10_tellLetters 102 = .ok (.getfield 23, 3) := by decide +kernel
theorem dX10_tellLetters_105 : decode cX10_tellLetters 105 = .ok (.iload_n 3, 1) := by decide +kernel
theorem dX10_tellLetters_106 : decode cX10_tellLetters 106 = .ok (.iconst 0, 1) := by decide +kernel
theorem dX10_tellLetters_107 : decode cX10_tellLetters 107 = .ok (.bipush 9, 2) := by decide +kernel
theorem dX10_tellLetters_109 : decode cX10_tellLetters 109 = .ok (.iconst 0, 1) := by decide +kernel
theorem dX10_tellLetters_110 : decode cX10_tellLetters 110 = .ok (.invokevirtual 227, 3) := by decide +kernel
theorem dX10_tellLetters_113 : decode cX10_tellLetters 113 = .ok (.invokevirtual 212, 3) := by decide +kernel
theorem dX10_tellLetters_116 : decode cX10_tellLetters 116 = .ok (.aload_n 0, 1) := by decide +kernel
theorem dX10_tellLetters_117 : decode cX10_tellLetters 117 = .ok (.getfield 37, 3) := by decide +kernel
theorem dX10_tellLetters_120 : decode cX10_tellLetters 120 = .ok (.bipush 97, 2) := by decide +kernel
theorem dX10_tellLetters_122 : decode cX10_tellLetters 122 = .ok (.aload_n 0, 1) := by decide +kernel
theorem dX10_tellLetters_123 : decode cX10_tellLetters 123 = .ok (.getfield 30, 3) := by decide +kernel
theorem dX10_tellLetters_126 : decode cX10_tellLetters 126 = .ok (.iload_n 2, 1) := by decide +kernel
theorem dX10_tellLetters_127 : decode cX10_tellLetters 127 = .ok (.invokevirtual 231, 3) := by decide +kernel
theorem dX10_tellLetters_130 : decode cX10_tellLetters 130 = .ok (.i2l, 1) := by decide +kernel
theorem dX10_tellLetters_131 : decode cX10_tellLetters 131 = .ok (.invokevirtual 212, 3) := by decide +kernel
theorem dX10_tellLetters_134 : decode cX10_tellLetters 134 = .ok (.aload_n 0, 1) := by decide +kernel
theorem dX10_tellLetters_135 : decode cX10_tellLetters 135 = .ok (.getfield 37, 3) := by decide +kernel
theorem dX10_tellLetters_138 : decode cX10_tellLetters 138 = .ok (.bipush 115, 2) := by decide +kernel
theorem dX10_tellLetters_140 : decode cX10_tellLetters 140 = .ok (.aload_n 0, 1) := by decide +kernel
theorem dX10_tellLetters_141 : decode cX10_tellLetters 141 = .ok (.getfield 30, 3) := by decide +kernel
theorem dX10_tellLetters_144 : decode cX10_tellLetters 144 = .ok (.iload_n 2, 1) := by decide +kernel
theorem dX10_tellLetters_145 : decode cX10_tellLetters 145 = .ok (.invokevirtual 234, 3) := by decide +kernel
theorem dX10_tellLetters_148 : decode cX10_tellLetters 148 = .ok (.invokevirtual 212, 3) := by decide +kernel
theorem dX10_tellLetters_151 : decode cX10_tellLetters 151 = .ok (.aload_n 0, 1) := by decide +kernel
theorem dX10_tellLetters_152 : decode cX10_tellLetters 152 = .ok (.getfield 37, 3) := by decide +kernel
theorem dX10_tellLetters_155 : decode cX10_tellLetters 155 = .ok (.bipush 100, 2) := by decide +kernel
theorem dX10_tellLetters_157 : decode cX10_tellLetters 157 = .ok (.aload_n 0, 1) := by decide +kernel
theorem dX10_tellLetters_158 : decode cX10_tellLetters 158 = .ok (.getfield 69, 3) := by decide +kernel
theorem dX10_tellLetters_161 : decode cX10_tellLetters 161 = .ok (.i2l, 1) := by decide +kernel
theorem dX10_tellLetters_162 : decode cX10_tellLetters 162 = .ok (.invokevirtual 212, 3) := by decide +kernel
theorem dX10_tellLetters_165 : decode cX10_tellLetters 165 = .ok (.return_, 1) := by decide +kernel
noncomputable def f10_tellLetters (a1 : Int32) (a2 : Int32) (s2 : OS) (s4 : OS) (s6 : OS) (s10 : OS) : Option (OS) := Option.bind (f4_kindOf a1 s4) fun q_5 => Option.bind (f2_fieldOf a2 s2) fun q_20 => Option.bind (f5_tell ((102 : Int32)) ((q_20).toInt64) s6) fun q_24 => Option.bind (f2_houseOf a2 s2) fun q_38 => Option.bind (f5_tell ((104 : Int32)) ((q_38).toInt64) q_24) fun q_42 => Option.bind (f5_tell ((107 : Int32)) ((q_5).toInt64) q_42) fun q_53 => Option.bind (f4_weightOf a1 s4) fun q_67 => Option.bind (f5_tell ((119 : Int32)) ((q_67).toInt64) q_53) fun q_71 => Option.bind (f4_metOf a1 s4) fun q_85 => Option.bind (fJ6_bitCount_0f7a4 q_85) fun q_88 => Option.bind (f5_tell ((109 : Int32)) ((q_88).toInt64) q_71) fun q_92 => Option.bind (f4_weightIn q_5 ((0 : Int32)) ((9 : Int32)) ((0 : Int32)) s4) fun q_110 => Option.bind (f5_tell ((108 : Int32)) q_110 q_92) fun q_113 => Option.bind (f2_loansOut a2 s2) fun q_127 => Option.bind (f5_tell ((97 : Int32)) ((q_127).toInt64) q_113) fun q_131 => Option.bind (f2_missingBy a2 s2) fun q_145 => Option.bind (f5_tell ((115 : Int32)) q_145 q_131) fun q_148 => Option.bind (f5_tell ((100 : Int32)) (((s10.1 0 9)).toInt64) q_148) fun q_162 => some q_162
set_option maxHeartbeats 4000000 in
set_option maxRecDepth 100000 in
theorem m10_tellLetters (l : Launch) (D : va_G) (ad : Nat → Nat) (cy : Nat → ClassId) (sz : Nat) (s0 s1 s2 s3 s4 s5 s6 s7 s8 s9 s10 : OS) (a1 : Int32) (a2 : Int32) (r : OS) (h : f10_tellLetters a1 a2 s2 s4 s6 s10 = some r) : Met l yX10_tellLetters (wsOf yX10_tellLetters cX10_tellLetters 4 none) (rmL 12) (va_Pc ([.ref (ad 10), .int a1, .int a2] : List Value) (PreG D cy (cellsC ad cy s0 s1 s2 s3 s4 s5 s6 s7 s8 s9 s10) sz (NC ad))) (QcV D ad 67 (cellsC ad cy s0 s1 s2 s3 s4 s5 r s7 s8 s9 s10) sz) 0 0 (Afr ad 67 sz) := by
  refine metG (own := RX10) (by decide) rfl (Nat.le_of_ble_eq_true rfl) fstC ?_ sz
  intro p e s m below meth c ls C0 hw hl
  obtain ⟨hx, hb, hml, hown, hts, hr, hlk, hK, hN⟩ := C0
  have hl : lv_has ls 4 [(0, .ref (ad 10)), (1, .int a1), (2, .int a2)] := hl
  generalize hQ : MQ below (QcV D ad 67 (cellsC ad cy s0 s1 s2 s3 s4 s5 r s7 s8 s9 s10) s.heap.size) ([.ref (ad 10), .int a1, .int a2] : List Value).toArray s 0 0 (Afr ad 67 s.heap.size) = Q
  obtain ⟨H, hH⟩ : ∃ H : Heap, H = s.heap := ⟨_, rfl⟩
  obtain ⟨locs, hlc⟩ : ∃ L : List Loc, L = [] := ⟨_, rfl⟩
  have hw : Wd D (cellsC ad cy s0 s1 s2 s3 s4 s5 s6 s7 s8 s9 s10) (Afr ad 67 s.heap.size) s.heap H locs := by rw [hH, hlc]; exact hw
  suffices h0 : W p l e (rmL 12) s m ([.ref (ad 10), .int a1, .int a2] : List Value).toArray below meth c H locs 0 0 Q (F0 m 0 ls []) by rw [hH, hlc] at h0; exact h0
  clear hH hlc
  unfold f10_tellLetters at h
  refine lv_aload_n hx hb dX10_tellLetters_0 rfl (lv_at hl 0 rfl) ?_
  refine gX10_23 hx hb hts hown hK hw dX10_tellLetters_1 ?_
  refine lv_iload_n hx hb dX10_tellLetters_4 rfl (lv_at hl 1 rfl) ?_
  obtain ⟨q_5, h_5, h⟩ := bnd_e h
  have pg_5 := preG (av := [.ref (ad 4), .int a1]) hK hw.1 hw.2.1 (NC_keep hN hw.2.2) NC_blind
  refine endI (mc := 0) (ms := 0) (va_runV (As := [.int a1]) (rest := []) ⟨hx, hb, hml, hown, hts⟩ (m4_kindOf l D ad cy H.size s0 s1 s2 s3 s4 s5 s6 s7 s8 s9 s10 a1 q_5 h_5) (wX10_206 1 hts ⟨Nat.le_of_ble_eq_true rfl, Nat.le_of_ble_eq_true rfl⟩) ⟨pg_5.1, va_recv hK hw.1 (ci := 4) (q0 := 4) rfl eC_4, pg_5.2⟩ rfl rfl hl.1 rfl (lv_room (Nat.le_of_ble_eq_true rfl)) dX10_tellLetters_5 ⟨Nat.le_refl _, Nat.le_refl _⟩) hw.2.2 (afr_in hw.2.2) (fun H locs hw => ?_)
  refine lv_istore_n (lv' := [(3, .int q_5), (0, .ref (ad 10)), (1, .int a1), (2, .int a2)]) hx hb dX10_tellLetters_8 rfl hl (by decide) rfl (fun ls hl => ?_)
  refine lv_aload_n hx hb dX10_tellLetters_9 rfl (lv_at hl 1 rfl) ?_
  refine gX10_37 hx hb hts hown hK hw dX10_tellLetters_10 ?_
  refine lv_bipush (v := 102) hx hb dX10_tellLetters_13 (by decide) ?_
  refine lv_aload_n hx hb dX10_tellLetters_15 rfl (lv_at hl 1 rfl) ?_
  refine gX10_30 hx hb hts hown hK hw dX10_tellLetters_16 ?_
  refine lv_iload_n hx hb dX10_tellLetters_19 rfl (lv_at hl 3 rfl) ?_
  obtain ⟨q_20, h_20, h⟩ := bnd_e h
  have pg_20 := preG (av := [.ref (ad 2), .int a2]) hK hw.1 hw.2.1 (NC_keep hN hw.2.2) NC_blind
  refine endI (mc := 0) (ms := 0) (va_runV (As := [.int a2]) (rest := [.int ((102 : Int32)), .ref (ad 5)]) ⟨hx, hb, hml, hown, hts⟩ (m2_fieldOf l D ad cy H.size s0 s1 s2 s3 s4 s5 s6 s7 s8 s9 s10 a2 q_20 h_20) (wX10_209 1 hts ⟨Nat.le_of_ble_eq_true rfl, Nat.le_of_ble_eq_true rfl⟩) ⟨pg_20.1, va_recv hK hw.1 (ci := 2) (q0 := 2) rfl eC_2, pg_20.2⟩ rfl rfl hl.1 rfl (lv_room (Nat.le_of_ble_eq_true rfl)) dX10_tellLetters_20 ⟨Nat.le_refl _, Nat.le_refl _⟩) hw.2.2 (afr_in hw.2.2) (fun H locs hw => ?_)
  refine lv_i2l hx hb dX10_tellLetters_23 rfl ?_
  obtain ⟨q_24, h_24, h⟩ := bnd_e h
  have pg_24 := preG (av := [.ref (ad 5), .int ((102 : Int32)), .long ((q_20).toInt64)]) hK hw.1 hw.2.1 (NC_keep hN hw.2.2) NC_blind
  refine endV (mc := 0) (ms := 0) (va_runV (As := [.int ((102 : Int32)), .long ((q_20).toInt64)]) (rest := []) ⟨hx, hb, hml, hown, hts⟩ (m5_tell l D ad cy H.size s0 s1 s2 s3 s4 s5 s6 s7 s8 s9 s10 ((102 : Int32)) ((q_20).toInt64) q_24 h_24) (wX10_212 11 hts ⟨Nat.le_of_ble_eq_true rfl, Nat.le_of_ble_eq_true rfl⟩) ⟨pg_24.1, va_recv hK hw.1 (ci := 5) (q0 := 5) rfl eC_5, pg_24.2⟩ rfl rfl hl.1 rfl (lv_room (Nat.le_of_ble_eq_true rfl)) dX10_tellLetters_24 ⟨Nat.le_refl _, Nat.le_refl _⟩) hw.2.2 (afr_in hw.2.2) (fun H locs hw => ?_)
  refine lv_aload_n hx hb dX10_tellLetters_27 rfl (lv_at hl 1 rfl) ?_
  refine gX10_37 hx hb hts hown hK hw dX10_tellLetters_28 ?_
  refine lv_bipush (v := 104) hx hb dX10_tellLetters_31 (by decide) ?_
  refine lv_aload_n hx hb dX10_tellLetters_33 rfl (lv_at hl 1 rfl) ?_
  refine gX10_30 hx hb hts hown hK hw dX10_tellLetters_34 ?_
  refine lv_iload_n hx hb dX10_tellLetters_37 rfl (lv_at hl 3 rfl) ?_
  obtain ⟨q_38, h_38, h⟩ := bnd_e h
  have pg_38 := preG (av := [.ref (ad 2), .int a2]) hK hw.1 hw.2.1 (NC_keep hN hw.2.2) NC_blind
  refine endI (mc := 0) (ms := 0) (va_runV (As := [.int a2]) (rest := [.int ((104 : Int32)), .ref (ad 5)]) ⟨hx, hb, hml, hown, hts⟩ (m2_houseOf l D ad cy H.size s0 s1 s2 s3 s4 s5 q_24 s7 s8 s9 s10 a2 q_38 h_38) (wX10_216 1 hts ⟨Nat.le_of_ble_eq_true rfl, Nat.le_of_ble_eq_true rfl⟩) ⟨pg_38.1, va_recv hK hw.1 (ci := 2) (q0 := 2) rfl eC_2, pg_38.2⟩ rfl rfl hl.1 rfl (lv_room (Nat.le_of_ble_eq_true rfl)) dX10_tellLetters_38 ⟨Nat.le_refl _, Nat.le_refl _⟩) hw.2.2 (afr_in hw.2.2) (fun H locs hw => ?_)
  refine lv_i2l hx hb dX10_tellLetters_41 rfl ?_
  obtain ⟨q_42, h_42, h⟩ := bnd_e h
  have pg_42 := preG (av := [.ref (ad 5), .int ((104 : Int32)), .long ((q_38).toInt64)]) hK hw.1 hw.2.1 (NC_keep hN hw.2.2) NC_blind
  refine endV (mc := 0) (ms := 0) (va_runV (As := [.int ((104 : Int32)), .long ((q_38).toInt64)]) (rest := []) ⟨hx, hb, hml, hown, hts⟩ (m5_tell l D ad cy H.size s0 s1 s2 s3 s4 s5 q_24 s7 s8 s9 s10 ((104 : Int32)) ((q_38).toInt64) q_42 h_42) (wX10_212 11 hts ⟨Nat.le_of_ble_eq_true rfl, Nat.le_of_ble_eq_true rfl⟩) ⟨pg_42.1, va_recv hK hw.1 (ci := 5) (q0 := 5) rfl eC_5, pg_42.2⟩ rfl rfl hl.1 rfl (lv_room (Nat.le_of_ble_eq_true rfl)) dX10_tellLetters_42 ⟨Nat.le_refl _, Nat.le_refl _⟩) hw.2.2 (afr_in hw.2.2) (fun H locs hw => ?_)
  refine lv_aload_n hx hb dX10_tellLetters_45 rfl (lv_at hl 1 rfl) ?_
  refine gX10_37 hx hb hts hown hK hw dX10_tellLetters_46 ?_
  refine lv_bipush (v := 107) hx hb dX10_tellLetters_49 (by decide) ?_
  refine lv_iload_n hx hb dX10_tellLetters_51 rfl (lv_at hl 0 rfl) ?_
  refine lv_i2l hx hb dX10_tellLetters_52 rfl ?_
  obtain ⟨q_53, h_53, h⟩ := bnd_e h
  have pg_53 := preG (av := [.ref (ad 5), .int ((107 : Int32)), .long ((q_5).toInt64)]) hK hw.1 hw.2.1 (NC_keep hN hw.2.2) NC_blind
  refine endV (mc := 0) (ms := 0) (va_runV (As := [.int ((107 : Int32)), .long ((q_5).toInt64)]) (rest := []) ⟨hx, hb, hml, hown, hts⟩ (m5_tell l D ad cy H.size s0 s1 s2 s3 s4 s5 q_42 s7 s8 s9 s10 ((107 : Int32)) ((q_5).toInt64) q_53 h_53) (wX10_212 11 hts ⟨Nat.le_of_ble_eq_true rfl, Nat.le_of_ble_eq_true rfl⟩) ⟨pg_53.1, va_recv hK hw.1 (ci := 5) (q0 := 5) rfl eC_5, pg_53.2⟩ rfl rfl hl.1 rfl (lv_room (Nat.le_of_ble_eq_true rfl)) dX10_tellLetters_53 ⟨Nat.le_refl _, Nat.le_refl _⟩) hw.2.2 (afr_in hw.2.2) (fun H locs hw => ?_)
  refine lv_aload_n hx hb dX10_tellLetters_56 rfl (lv_at hl 1 rfl) ?_
  refine gX10_37 hx hb hts hown hK hw dX10_tellLetters_57 ?_
  refine lv_bipush (v := 119) hx hb dX10_tellLetters_60 (by decide) ?_
  refine lv_aload_n hx hb dX10_tellLetters_62 rfl (lv_at hl 1 rfl) ?_
  refine gX10_23 hx hb hts hown hK hw dX10_tellLetters_63 ?_
  refine lv_iload_n hx hb dX10_tellLetters_66 rfl (lv_at hl 2 rfl) ?_
  obtain ⟨q_67, h_67, h⟩ := bnd_e h
  have pg_67 := preG (av := [.ref (ad 4), .int a1]) hK hw.1 hw.2.1 (NC_keep hN hw.2.2) NC_blind
  refine endI (mc := 0) (ms := 0) (va_runV (As := [.int a1]) (rest := [.int ((119 : Int32)), .ref (ad 5)]) ⟨hx, hb, hml, hown, hts⟩ (m4_weightOf l D ad cy H.size s0 s1 s2 s3 s4 s5 q_53 s7 s8 s9 s10 a1 q_67 h_67) (wX10_104 1 hts ⟨Nat.le_of_ble_eq_true rfl, Nat.le_of_ble_eq_true rfl⟩) ⟨pg_67.1, va_recv hK hw.1 (ci := 4) (q0 := 4) rfl eC_4, pg_67.2⟩ rfl rfl hl.1 rfl (lv_room (Nat.le_of_ble_eq_true rfl)) dX10_tellLetters_67 ⟨Nat.le_refl _, Nat.le_refl _⟩) hw.2.2 (afr_in hw.2.2) (fun H locs hw => ?_)
  refine lv_i2l hx hb dX10_tellLetters_70 rfl ?_
  obtain ⟨q_71, h_71, h⟩ := bnd_e h
  have pg_71 := preG (av := [.ref (ad 5), .int ((119 : Int32)), .long ((q_67).toInt64)]) hK hw.1 hw.2.1 (NC_keep hN hw.2.2) NC_blind
  refine endV (mc := 0) (ms := 0) (va_runV (As := [.int ((119 : Int32)), .long ((q_67).toInt64)]) (rest := []) ⟨hx, hb, hml, hown, hts⟩ (m5_tell l D ad cy H.size s0 s1 s2 s3 s4 s5 q_53 s7 s8 s9 s10 ((119 : Int32)) ((q_67).toInt64) q_71 h_71) (wX10_212 11 hts ⟨Nat.le_of_ble_eq_true rfl, Nat.le_of_ble_eq_true rfl⟩) ⟨pg_71.1, va_recv hK hw.1 (ci := 5) (q0 := 5) rfl eC_5, pg_71.2⟩ rfl rfl hl.1 rfl (lv_room (Nat.le_of_ble_eq_true rfl)) dX10_tellLetters_71 ⟨Nat.le_refl _, Nat.le_refl _⟩) hw.2.2 (afr_in hw.2.2) (fun H locs hw => ?_)
  refine lv_aload_n hx hb dX10_tellLetters_74 rfl (lv_at hl 1 rfl) ?_
  refine gX10_37 hx hb hts hown hK hw dX10_tellLetters_75 ?_
  refine lv_bipush (v := 109) hx hb dX10_tellLetters_78 (by decide) ?_
  refine lv_aload_n hx hb dX10_tellLetters_80 rfl (lv_at hl 1 rfl) ?_
  refine gX10_23 hx hb hts hown hK hw dX10_tellLetters_81 ?_
  refine lv_iload_n hx hb dX10_tellLetters_84 rfl (lv_at hl 2 rfl) ?_
  obtain ⟨q_85, h_85, h⟩ := bnd_e h
  have pg_85 := preG (av := [.ref (ad 4), .int a1]) hK hw.1 hw.2.1 (NC_keep hN hw.2.2) NC_blind
  refine endI (mc := 0) (ms := 0) (va_runV (As := [.int a1]) (rest := [.int ((109 : Int32)), .ref (ad 5)]) ⟨hx, hb, hml, hown, hts⟩ (m4_metOf l D ad cy H.size s0 s1 s2 s3 s4 s5 q_71 s7 s8 s9 s10 a1 q_85 h_85) (wX10_219 1 hts ⟨Nat.le_of_ble_eq_true rfl, Nat.le_of_ble_eq_true rfl⟩) ⟨pg_85.1, va_recv hK hw.1 (ci := 4) (q0 := 4) rfl eC_4, pg_85.2⟩ rfl rfl hl.1 rfl (lv_room (Nat.le_of_ble_eq_true rfl)) dX10_tellLetters_85 ⟨Nat.le_refl _, Nat.le_refl _⟩) hw.2.2 (afr_in hw.2.2) (fun H locs hw => ?_)
  obtain ⟨q_88, h_88, h⟩ := bnd_e h
  have pg_88 := preG (av := [.int q_85]) hK hw.1 hw.2.1 (NC_keep hN hw.2.2) NC_blind
  refine endI (mc := 0) (ms := 0) (va_runS (As := [.int q_85]) (rest := [.int ((109 : Int32)), .ref (ad 5)]) ⟨hx, hb, hml, hown, hts⟩ (mJ6_bitCount_0f7a4 l D ad cy H.size s0 s1 s2 s3 s4 s5 q_71 s7 s8 s9 s10 q_85 q_88 h_88) (wX10_222 0 hts ⟨Nat.le_of_ble_eq_true rfl, Nat.le_of_ble_eq_true rfl⟩) pg_88 rfl rfl hl.1 rfl (lv_room (Nat.le_of_ble_eq_true rfl)) dX10_tellLetters_88 ⟨Nat.le_refl _, Nat.le_refl _⟩) hw.2.2 (afr_in hw.2.2) (fun H locs hw => ?_)
  refine lv_i2l hx hb dX10_tellLetters_91 rfl ?_
  obtain ⟨q_92, h_92, h⟩ := bnd_e h
  have pg_92 := preG (av := [.ref (ad 5), .int ((109 : Int32)), .long ((q_88).toInt64)]) hK hw.1 hw.2.1 (NC_keep hN hw.2.2) NC_blind
  refine endV (mc := 0) (ms := 0) (va_runV (As := [.int ((109 : Int32)), .long ((q_88).toInt64)]) (rest := []) ⟨hx, hb, hml, hown, hts⟩ (m5_tell l D ad cy H.size s0 s1 s2 s3 s4 s5 q_71 s7 s8 s9 s10 ((109 : Int32)) ((q_88).toInt64) q_92 h_92) (wX10_212 11 hts ⟨Nat.le_of_ble_eq_true rfl, Nat.le_of_ble_eq_true rfl⟩) ⟨pg_92.1, va_recv hK hw.1 (ci := 5) (q0 := 5) rfl eC_5, pg_92.2⟩ rfl rfl hl.1 rfl (lv_room (Nat.le_of_ble_eq_true rfl)) dX10_tellLetters_92 ⟨Nat.le_refl _, Nat.le_refl _⟩) hw.2.2 (afr_in hw.2.2) (fun H locs hw => ?_)
  refine lv_aload_n hx hb dX10_tellLetters_95 rfl (lv_at hl 1 rfl) ?_
  refine gX10_37 hx hb hts hown hK hw dX10_tellLetters_96 ?_
  refine lv_bipush (v := 108) hx hb dX10_tellLetters_99 (by decide) ?_
  refine lv_aload_n hx hb dX10_tellLetters_101 rfl (lv_at hl 1 rfl) ?_
  refine gX10_23 hx hb hts hown hK hw dX10_tellLetters_102 ?_
  refine lv_iload_n hx hb dX10_tellLetters_105 rfl (lv_at hl 0 rfl) ?_
  refine lv_iconst (v := 0) hx hb dX10_tellLetters_106 (by decide) ?_
  refine lv_bipush (v := 9) hx hb dX10_tellLetters_107 (by decide) ?_
  refine lv_iconst (v := 0) hx hb dX10_tellLetters_109 (by decide) ?_
  obtain ⟨q_110, h_110, h⟩ := bnd_e h
  have pg_110 := preG (av := [.ref (ad 4), .int q_5, .int ((0 : Int32)), .int ((9 : Int32)), .int ((0 : Int32))]) hK hw.1 hw.2.1 (NC_keep hN hw.2.2) NC_blind
  refine endL (mc := 0) (ms := 0) (va_runV (As := [.int q_5, .int ((0 : Int32)), .int ((9 : Int32)), .int ((0 : Int32))]) (rest := [.int ((108 : Int32)), .ref (ad 5)]) ⟨hx, hb, hml, hown, hts⟩ (m4_weightIn l D ad cy H.size s0 s1 s2 s3 s4 s5 q_92 s7 s8 s9 s10 q_5 ((0 : Int32)) ((9 : Int32)) ((0 : Int32)) q_110 h_110) (wX10_227 2 hts ⟨Nat.le_of_ble_eq_true rfl, Nat.le_of_ble_eq_true rfl⟩) ⟨pg_110.1, va_recv hK hw.1 (ci := 4) (q0 := 4) rfl eC_4, pg_110.2⟩ rfl rfl hl.1 rfl (lv_room (Nat.le_of_ble_eq_true rfl)) dX10_tellLetters_110 ⟨Nat.le_refl _, Nat.le_refl _⟩) hw.2.2 (afr_in hw.2.2) (fun H locs hw => ?_)
  obtain ⟨q_113, h_113, h⟩ := bnd_e h
  have pg_113 := preG (av := [.ref (ad 5), .int ((108 : Int32)), .long q_110]) hK hw.1 hw.2.1 (NC_keep hN hw.2.2) NC_blind
  refine endV (mc := 0) (ms := 0) (va_runV (As := [.int ((108 : Int32)), .long q_110]) (rest := []) ⟨hx, hb, hml, hown, hts⟩ (m5_tell l D ad cy H.size s0 s1 s2 s3 s4 s5 q_92 s7 s8 s9 s10 ((108 : Int32)) q_110 q_113 h_113) (wX10_212 11 hts ⟨Nat.le_of_ble_eq_true rfl, Nat.le_of_ble_eq_true rfl⟩) ⟨pg_113.1, va_recv hK hw.1 (ci := 5) (q0 := 5) rfl eC_5, pg_113.2⟩ rfl rfl hl.1 rfl (lv_room (Nat.le_of_ble_eq_true rfl)) dX10_tellLetters_113 ⟨Nat.le_refl _, Nat.le_refl _⟩) hw.2.2 (afr_in hw.2.2) (fun H locs hw => ?_)
  refine lv_aload_n hx hb dX10_tellLetters_116 rfl (lv_at hl 1 rfl) ?_
  refine gX10_37 hx hb hts hown hK hw dX10_tellLetters_117 ?_
  refine lv_bipush (v := 97) hx hb dX10_tellLetters_120 (by decide) ?_
  refine lv_aload_n hx hb dX10_tellLetters_122 rfl (lv_at hl 1 rfl) ?_
  refine gX10_30 hx hb hts hown hK hw dX10_tellLetters_123 ?_
  refine lv_iload_n hx hb dX10_tellLetters_126 rfl (lv_at hl 3 rfl) ?_
  obtain ⟨q_127, h_127, h⟩ := bnd_e h
  have pg_127 := preG (av := [.ref (ad 2), .int a2]) hK hw.1 hw.2.1 (NC_keep hN hw.2.2) NC_blind
  refine endI (mc := 0) (ms := 0) (va_runV (As := [.int a2]) (rest := [.int ((97 : Int32)), .ref (ad 5)]) ⟨hx, hb, hml, hown, hts⟩ (m2_loansOut l D ad cy H.size s0 s1 s2 s3 s4 s5 q_113 s7 s8 s9 s10 a2 q_127 h_127) (wX10_231 2 hts ⟨Nat.le_of_ble_eq_true rfl, Nat.le_of_ble_eq_true rfl⟩) ⟨pg_127.1, va_recv hK hw.1 (ci := 2) (q0 := 2) rfl eC_2, pg_127.2⟩ rfl rfl hl.1 rfl (lv_room (Nat.le_of_ble_eq_true rfl)) dX10_tellLetters_127 ⟨Nat.le_refl _, Nat.le_refl _⟩) hw.2.2 (afr_in hw.2.2) (fun H locs hw => ?_)
  refine lv_i2l hx hb dX10_tellLetters_130 rfl ?_
  obtain ⟨q_131, h_131, h⟩ := bnd_e h
  have pg_131 := preG (av := [.ref (ad 5), .int ((97 : Int32)), .long ((q_127).toInt64)]) hK hw.1 hw.2.1 (NC_keep hN hw.2.2) NC_blind
  refine endV (mc := 0) (ms := 0) (va_runV (As := [.int ((97 : Int32)), .long ((q_127).toInt64)]) (rest := []) ⟨hx, hb, hml, hown, hts⟩ (m5_tell l D ad cy H.size s0 s1 s2 s3 s4 s5 q_113 s7 s8 s9 s10 ((97 : Int32)) ((q_127).toInt64) q_131 h_131) (wX10_212 11 hts ⟨Nat.le_of_ble_eq_true rfl, Nat.le_of_ble_eq_true rfl⟩) ⟨pg_131.1, va_recv hK hw.1 (ci := 5) (q0 := 5) rfl eC_5, pg_131.2⟩ rfl rfl hl.1 rfl (lv_room (Nat.le_of_ble_eq_true rfl)) dX10_tellLetters_131 ⟨Nat.le_refl _, Nat.le_refl _⟩) hw.2.2 (afr_in hw.2.2) (fun H locs hw => ?_)
  refine lv_aload_n hx hb dX10_tellLetters_134 rfl (lv_at hl 1 rfl) ?_
  refine gX10_37 hx hb hts hown hK hw dX10_tellLetters_135 ?_
  refine lv_bipush (v := 115) hx hb dX10_tellLetters_138 (by decide) ?_
  refine lv_aload_n hx hb dX10_tellLetters_140 rfl (lv_at hl 1 rfl) ?_
  refine gX10_30 hx hb hts hown hK hw dX10_tellLetters_141 ?_
  refine lv_iload_n hx hb dX10_tellLetters_144 rfl (lv_at hl 3 rfl) ?_
  obtain ⟨q_145, h_145, h⟩ := bnd_e h
  have pg_145 := preG (av := [.ref (ad 2), .int a2]) hK hw.1 hw.2.1 (NC_keep hN hw.2.2) NC_blind
  refine endL (mc := 0) (ms := 0) (va_runV (As := [.int a2]) (rest := [.int ((115 : Int32)), .ref (ad 5)]) ⟨hx, hb, hml, hown, hts⟩ (m2_missingBy l D ad cy H.size s0 s1 s2 s3 s4 s5 q_131 s7 s8 s9 s10 a2 q_145 h_145) (wX10_234 1 hts ⟨Nat.le_of_ble_eq_true rfl, Nat.le_of_ble_eq_true rfl⟩) ⟨pg_145.1, va_recv hK hw.1 (ci := 2) (q0 := 2) rfl eC_2, pg_145.2⟩ rfl rfl hl.1 rfl (lv_room (Nat.le_of_ble_eq_true rfl)) dX10_tellLetters_145 ⟨Nat.le_refl _, Nat.le_refl _⟩) hw.2.2 (afr_in hw.2.2) (fun H locs hw => ?_)
  obtain ⟨q_148, h_148, h⟩ := bnd_e h
  have pg_148 := preG (av := [.ref (ad 5), .int ((115 : Int32)), .long q_145]) hK hw.1 hw.2.1 (NC_keep hN hw.2.2) NC_blind
  refine endV (mc := 0) (ms := 0) (va_runV (As := [.int ((115 : Int32)), .long q_145]) (rest := []) ⟨hx, hb, hml, hown, hts⟩ (m5_tell l D ad cy H.size s0 s1 s2 s3 s4 s5 q_131 s7 s8 s9 s10 ((115 : Int32)) q_145 q_148 h_148) (wX10_212 11 hts ⟨Nat.le_of_ble_eq_true rfl, Nat.le_of_ble_eq_true rfl⟩) ⟨pg_148.1, va_recv hK hw.1 (ci := 5) (q0 := 5) rfl eC_5, pg_148.2⟩ rfl rfl hl.1 rfl (lv_room (Nat.le_of_ble_eq_true rfl)) dX10_tellLetters_148 ⟨Nat.le_refl _, Nat.le_refl _⟩) hw.2.2 (afr_in hw.2.2) (fun H locs hw => ?_)
  refine lv_aload_n hx hb dX10_tellLetters_151 rfl (lv_at hl 1 rfl) ?_
  refine gX10_37 hx hb hts hown hK hw dX10_tellLetters_152 ?_
  refine lv_bipush (v := 100) hx hb dX10_tellLetters_155 (by decide) ?_
  refine lv_aload_n hx hb dX10_tellLetters_157 rfl (lv_at hl 1 rfl) ?_
  refine gX10_69 hx hb hts hown hK hw dX10_tellLetters_158 ?_
  refine lv_i2l hx hb dX10_tellLetters_161 rfl ?_
  obtain ⟨q_162, h_162, h⟩ := bnd_e h
  have pg_162 := preG (av := [.ref (ad 5), .int ((100 : Int32)), .long (((s10.1 0 9)).toInt64)]) hK hw.1 hw.2.1 (NC_keep hN hw.2.2) NC_blind
  refine endV (mc := 0) (ms := 0) (va_runV (As := [.int ((100 : Int32)), .long (((s10.1 0 9)).toInt64)]) (rest := []) ⟨hx, hb, hml, hown, hts⟩ (m5_tell l D ad cy H.size s0 s1 s2 s3 s4 s5 q_148 s7 s8 s9 s10 ((100 : Int32)) (((s10.1 0 9)).toInt64) q_162 h_162) (wX10_212 11 hts ⟨Nat.le_of_ble_eq_true rfl, Nat.le_of_ble_eq_true rfl⟩) ⟨pg_162.1, va_recv hK hw.1 (ci := 5) (q0 := 5) rfl eC_5, pg_162.2⟩ rfl rfl hl.1 rfl (lv_room (Nat.le_of_ble_eq_true rfl)) dX10_tellLetters_162 ⟨Nat.le_refl _, Nat.le_refl _⟩) hw.2.2 (afr_in hw.2.2) (fun H locs hw => ?_)
  have h := Option.some.inj h
  subst h
  rw [← hQ]
  exact retV hx hb hr hlk hw dX10_tellLetters_165
theorem dX10_lend_0 : decode cX10_lend 0 = .ok (.aload_n 0, 1) := by decide +kernel
theorem dX10_lend_1 : decode cX10_lend 1 = .ok (.getfield 23, 3) := by decide +kernel
theorem dX10_lend_4 : decode cX10_lend 4 = .ok (.iload_n 1, 1) := by decide +kernel
theorem dX10_lend_5 : decode cX10_lend 5 = .ok (.invokevirtual 130, 3) := by decide +kernel
theorem dX10_lend_8 : decode cX10_lend 8 = .ok (.ifCond .eq 24, 3) := by decide +kernel
theorem dX10_lend_11 : decode cX10_lend 11 = .ok (.aload_n 0, 1) := by decide +kernel
theorem dX10_lend_12 : decode cX10_lend 12 = .ok (.getfield 30, 3) := by decide +kernel
theorem dX10_lend_15 : decode cX10_lend 15 = .ok (.iload_n 2, 1) := by decide +kernel
theorem dX10_lend_16 : decode cX10_lend 16 = .ok (.invokevirtual 172, 3) := by decide +kernel
theorem dX10_lend_19 : decode cX10_lend 19 = .ok (.ifCond .eq 13, 3) := by decide +kernel
theorem dX10_lend_22 : decode cX10_lend 22 = .ok (.aload_n 0, 1) := by decide +kernel
theorem dX10_lend_23 : decode cX10_lend 23 = .ok (.getfield 30, 3) := by decide +kernel
theorem dX10_lend_26 : decode cX10_lend 26 = .ok (.invokevirtual 175, 3) := by decide +kernel
theorem dX10_lend_29 : decode cX10_lend 29 = .ok (.ifCond .ne 5, 3) := by decide +kernel
theorem dX10_lend_32 : decode cX10_lend 32 = .ok (.iconst (-1), 1) := by decide +kernel
theorem dX10_lend_33 : decode cX10_lend 33 = .ok (.ireturn, 1) := by decide +kernel
theorem dX10_lend_34 : decode cX10_lend 34 = .ok (.aload_n 0, 1) := by decide +kernel
theorem dX10_lend_35 : decode cX10_lend 35 = .ok (.iload_n 1, 1) := by decide +kernel
theorem dX10_lend_36 : decode cX10_lend 36 = .ok (.iload_n 2, 1) := by decide +kernel
theorem dX10_lend_37 : decode cX10_lend 37 = .ok (.invokevirtual 176, 3) := by decide +kernel
theorem dX10_lend_40 : decode cX10_lend 40 = .ok (.aload_n 0, 1) := by decide +kernel
theorem dX10_lend_41 : decode cX10_lend 41 = .ok (.getfield 37, 3) := by decide +kernel
theorem dX10_lend_44 : decode cX10_lend 44 = .ok (.aload_n 0, 1) := by decide +kernel
theorem dX10_lend_45 : decode cX10_lend 45 = .ok (.getfield 69, 3) := by decide +kernel
theorem dX10_lend_48 : decode cX10_lend 48 = .ok (.invokevirtual 180, 3) := by decide +kernel
theorem dX10_lend_51 : decode cX10_lend 51 = .ok (.aload_n 0, 1) := by decide +kernel
theorem dX10_lend_52 : decode cX10_lend 52 = .ok (.getfield 37, 3) := by decide +kernel
theorem dX10_lend_55 : decode cX10_lend 55 = .ok (.invokevirtual 183, 3) := by decide +kernel
theorem dX10_lend_58 : decode cX10_lend 58 = .ok (.ifCond .eq 6, 3) := by decide +kernel
theorem dX10_lend_61 : decode cX10_lend 61 = .ok (.bipush (-2), 2) := by decide +kernel
theorem dX10_lend_63 : decode cX10_lend 63 = .ok (.ireturn, 1) := by decide +kernel
theorem dX10_lend_64 : decode cX10_lend 64 = .ok (.aload_n 0, 1) := by decide +kernel
theorem dX10_lend_65 : decode cX10_lend 65 = .ok (.iload_n 1, 1) := by decide +kernel
theorem dX10_lend_66 : decode cX10_lend 66 = .ok (.aload_n 0, 1) := by decide +kernel
theorem dX10_lend_67 : decode cX10_lend 67 = .ok (.getfield 37, 3) := by decide +kernel
theorem dX10_lend_70 : decode cX10_lend 70 = .ok (.invokevirtual 186, 3) := by decide +kernel
theorem dX10_lend_73 : decode cX10_lend 73 = .ok (.invokevirtual 189, 3) := by decide +kernel
theorem dX10_lend_76 : decode cX10_lend 76 = .ok (.ifCond .eq 6, 3) := by decide +kernel
theorem dX10_lend_79 : decode cX10_lend 79 = .ok (.bipush (-3), 2) := by decide +kernel
theorem dX10_lend_81 : decode cX10_lend 81 = .ok (.ireturn, 1) := by decide +kernel
theorem dX10_lend_82 : decode cX10_lend 82 = .ok (.ldc 193, 2) := by decide +kernel
theorem dX10_lend_84 : decode cX10_lend 84 = .ok (.aload_n 0, 1) := by decide +kernel
theorem dX10_lend_85 : decode cX10_lend 85 = .ok (.getfield 69, 3) := by decide +kernel
theorem dX10_lend_88 : decode cX10_lend 88 = .ok (.aload_n 0, 1) := by decide +kernel
theorem dX10_lend_89 : decode cX10_lend 89 = .ok (.getfield 37, 3) := by decide +kernel
theorem dX10_lend_92 : decode cX10_lend 92 = .ok (.invokevirtual 194, 3) := by decide +kernel
theorem dX10_lend_95 : decode cX10_lend 95 = .ok (.iadd, 1) := by decide +kernel
theorem dX10_lend_96 : decode cX10_lend 96 = .ok (.invokestatic 197, 3) := by decide +kernel
theorem dX10_lend_99 : decode cX10_lend 99 = .ok (.istore_n 3, 1) := by decide +kernel
theorem dX10_lend_100 : decode cX10_lend 100 = .ok (.aload_n 0, 1) := by decide +kernel
theorem dX10_lend_101 : decode cX10_lend 101 = .ok (.getfield 23, 3) := by decide +kernel
theorem dX10_lend_104 : decode cX10_lend 104 = .ok (.iload_n 1, 1) := by decide +kernel
theorem dX10_lend_105 : decode cX10_lend 105 = .ok (.aload_n 0, 1) := by decide +kernel
theorem dX10_lend_106 : decode cX10_lend 106 = .ok (.getfield 23, 3) := by decide +kernel
theorem dX10_lend_109 : decode cX10_lend 109 = .ok (.iload_n 1, 1) := by decide +kernel
theorem dX10_lend_110 : decode cX10_lend 110 = .ok (.invokevirtual 104, 3) := by decide +kernel
theorem dX10_lend_113 : decode cX10_lend 113 = .ok (.iconst 0, 1) := by decide +kernel
theorem dX10_lend_114 : decode cX10_lend 114 = .ok (.bipush 10, 2) := by decide +kernel
theorem dX10_lend_116 : decode cX10_lend 116 = .ok (.aload_n 0, 1) := by decide +kernel
theorem dX10_lend_117 : decode cX10_lend 117 = .ok (.getfield 69, 3) := by decide +kernel
theorem dX10_lend_120 : decode cX10_lend 120 = .ok (.invokevirtual 108, 3) := by decide +kernel
theorem dX10_lend_123 : decode cX10_lend 123 = .ok (.aload_n 0, 1) := by decide +kernel
theorem dX10_lend_124 : decode cX10_lend 124 = .ok (.getfield 30, 3) := by decide +kernel
theorem dX10_lend_127 : decode cX10_lend 127 = .ok (.iload_n 1, 1) := by decide +kernel
theorem dX10_lend_128 : decode cX10_lend 128 = .ok (.iload_n 2, 1) := by decide +kernel
theorem dX10_lend_129 : decode cX10_lend 129 = .ok (.aload_n 0, 1) := by decide +kernel
theorem dX10_lend_130 : decode cX10_lend 130 = .ok (.getfield 69, 3) := by decide +kernel
theorem dX10_lend_133 : decode cX10_lend 133 = .ok (.iload_n 3, 1) := by decide +kernel
theorem dX10_lend_134 : decode cX10_lend 134 = .ok (.invokevirtual 202, 3) := by decide +kernel
theorem dX10_lend_137 : decode cX10_lend 137 = .ok (.ireturn, 1) := by decide +kernel
noncomputable def f10_lend_j32 (s1_j32 : OS) (s2_j32 : OS) (s4_j32 : OS) (s5_j32 : OS) (s6_j32 : OS) (s10_j32 : OS) : Option (Int32 × OS × OS × OS × OS × OS) := some ((-1 : Int32), s1_j32, s2_j32, s4_j32, s5_j32, s6_j32)
noncomputable def f10_lend (a1 : Int32) (a2 : Int32) (s1 : OS) (s2 : OS) (s4 : OS) (s5 : OS) (s6 : OS) (s10 : OS) : Option (Int32 × OS × OS × OS × OS × OS) := Option.bind (f4_isAtHand a1 s4) fun q_5 => if q_5 = 0 then (f10_lend_j32 s1 s2 s4 s5 s6 s10) else (Option.bind (f2_hasAsker a2 s2) fun q_16 => if q_16 = 0 then (f10_lend_j32 s1 s2 s4 s5 s6 s10) else (Option.bind (f2_hasRoom s2) fun q_26 => if q_26 = 0 then (f10_lend_j32 s1 s2 s4 s5 s6 s10) else (Option.bind (f10_tellLetters a1 a2 s2 s4 s6 s10) fun q_37 => Option.bind (f5_apply ((s10.1 0 9)) s5 q_37) fun q_48 => Option.bind (f5_isBarred q_48.1) fun q_55 => if q_55 = 0 then (Option.bind (f5_thousandths q_48.1) fun q_70 => Option.bind (f10_keepsTooLittle a1 q_70 s4) fun q_73 => if q_73 = 0 then (Option.bind (f5_days q_48.1) fun q_92 => nm ((if ((s10.1 0 9) + q_92) < (99999 : Int32) then ((s10.1 0 9) + q_92) else (99999 : Int32))) fun n_99 => Option.bind (f4_weightOf a1 s4) fun q_110 => Option.bind (f4_change a1 q_110 ((0 : Int32)) ((10 : Int32)) ((s10.1 0 9)) s1 s4) fun q_120 => Option.bind (f2_begin a1 a2 ((s10.1 0 9)) n_99 s2) fun q_134 => some (q_134.1, q_120.1, q_134.2, q_120.2, q_48.1, q_48.2)) else (some ((-3 : Int32), s1, s2, s4, q_48.1, q_48.2))) else (some ((-2 : Int32), s1, s2, s4, q_48.1, q_48.2)))))
set_option maxHeartbeats 4000000 in
set_option maxRecDepth 100000 in
theorem m10_lend (l : Launch) (D : va_G) (ad : Nat → Nat) (cy : Nat → ClassId) (sz : Nat) (s0 s1 s2 s3 s4 s5 s6 s7 s8 s9 s10 : OS) (a1 : Int32) (a2 : Int32) (r : Int32 × OS × OS × OS × OS × OS) (h : f10_lend a1 a2 s1 s2 s4 s5 s6 s10 = some r) : Met l yX10_lend (wsOf yX10_lend cX10_lend 4 (some .int)) (rmL 70) (va_Pc ([.ref (ad 10), .int a1, .int a2] : List Value) (PreG D cy (cellsC ad cy s0 s1 s2 s3 s4 s5 s6 s7 s8 s9 s10) sz (NC ad))) (QcI D ad 67 (cellsC ad cy s0 r.2.1 r.2.2.1 s3 r.2.2.2.1 r.2.2.2.2.1 r.2.2.2.2.2 s7 s8 s9 s10) (r.1) sz) 0 0 (Afr ad 67 sz) := by
  refine metG (own := RX10) (by decide) rfl (Nat.le_of_ble_eq_true rfl) fstC ?_ sz
  intro p e s m below meth c ls C0 hw hl
  obtain ⟨hx, hb, hml, hown, hts, hr, hlk, hK, hN⟩ := C0
  have hl : lv_has ls 4 [(0, .ref (ad 10)), (1, .int a1), (2, .int a2)] := hl
  generalize hQ : MQ below (QcI D ad 67 (cellsC ad cy s0 r.2.1 r.2.2.1 s3 r.2.2.2.1 r.2.2.2.2.1 r.2.2.2.2.2 s7 s8 s9 s10) (r.1) s.heap.size) ([.ref (ad 10), .int a1, .int a2] : List Value).toArray s 0 0 (Afr ad 67 s.heap.size) = Q
  obtain ⟨H, hH⟩ : ∃ H : Heap, H = s.heap := ⟨_, rfl⟩
  obtain ⟨locs, hlc⟩ : ∃ L : List Loc, L = [] := ⟨_, rfl⟩
  have hw : Wd D (cellsC ad cy s0 s1 s2 s3 s4 s5 s6 s7 s8 s9 s10) (Afr ad 67 s.heap.size) s.heap H locs := by rw [hH, hlc]; exact hw
  suffices h0 : W p l e (rmL 70) s m ([.ref (ad 10), .int a1, .int a2] : List Value).toArray below meth c H locs 0 0 Q (F0 m 0 ls []) by rw [hH, hlc] at h0; exact h0
  clear hH hlc
  unfold f10_lend at h
  have hJ_32 : ∀ (s1_j32 : OS) (s2_j32 : OS) (s4_j32 : OS) (s5_j32 : OS) (s6_j32 : OS) (H : Heap) (locs : List Loc) (ls : Array Slot), f10_lend_j32 s1_j32 s2_j32 s4_j32 s5_j32 s6_j32 s10 = some r → Wd D (cellsC ad cy s0 s1_j32 s2_j32 s3 s4_j32 s5_j32 s6_j32 s7 s8 s9 s10) (Afr ad 67 s.heap.size) s.heap H locs → lv_has ls 4 [] → W p l e (rmL 70) s m ([.ref (ad 10), .int a1, .int a2] : List Value).toArray below meth c H locs 0 0 Q (F0 m 32 ls []) := by
    intro s1_j32 s2_j32 s4_j32 s5_j32 s6_j32 H locs ls h hw hl
    unfold f10_lend_j32 at h
    refine lv_iconst (v := (-1)) hx hb dX10_lend_32 (by decide) ?_
    have h := Option.some.inj h
    subst h
    rw [← hQ]
    exact retI hx hb hr hlk hw rfl dX10_lend_33
  refine lv_aload_n hx hb dX10_lend_0 rfl (lv_at hl 0 rfl) ?_
  refine gX10_23 hx hb hts hown hK hw dX10_lend_1 ?_
  refine lv_iload_n hx hb dX10_lend_4 rfl (lv_at hl 1 rfl) ?_
  obtain ⟨q_5, h_5, h⟩ := bnd_e h
  have pg_5 := preG (av := [.ref (ad 4), .int a1]) hK hw.1 hw.2.1 (NC_keep hN hw.2.2) NC_blind
  refine endI (mc := 0) (ms := 0) (va_runV (As := [.int a1]) (rest := []) ⟨hx, hb, hml, hown, hts⟩ (m4_isAtHand l D ad cy H.size s0 s1 s2 s3 s4 s5 s6 s7 s8 s9 s10 a1 q_5 h_5) (wX10_130 2 hts ⟨Nat.le_of_ble_eq_true rfl, Nat.le_of_ble_eq_true rfl⟩) ⟨pg_5.1, va_recv hK hw.1 (ci := 4) (q0 := 4) rfl eC_4, pg_5.2⟩ rfl rfl hl.1 rfl (lv_room (Nat.le_of_ble_eq_true rfl)) dX10_lend_5 ⟨Nat.le_refl _, Nat.le_refl _⟩) hw.2.2 (afr_in hw.2.2) (fun H locs hw => ?_)
  refine lv_if_eq (tgt := 32) hx hb dX10_lend_8 (by decide) (fun c_8 => ?_) (fun c_8 => ?_)
  · have h := ite_t c_8 h
    exact hJ_32 s1 s2 s4 s5 s6 H locs ls h hw (lv_sub hl [] rfl)
  · have h := ite_f c_8 h
    refine lv_aload_n hx hb dX10_lend_11 rfl (lv_at hl 0 rfl) ?_
    refine gX10_30 hx hb hts hown hK hw dX10_lend_12 ?_
    refine lv_iload_n hx hb dX10_lend_15 rfl (lv_at hl 2 rfl) ?_
    obtain ⟨q_16, h_16, h⟩ := bnd_e h
    have pg_16 := preG (av := [.ref (ad 2), .int a2]) hK hw.1 hw.2.1 (NC_keep hN hw.2.2) NC_blind
    refine endI (mc := 0) (ms := 0) (va_runV (As := [.int a2]) (rest := []) ⟨hx, hb, hml, hown, hts⟩ (m2_hasAsker l D ad cy H.size s0 s1 s2 s3 s4 s5 s6 s7 s8 s9 s10 a2 q_16 h_16) (wX10_172 0 hts ⟨Nat.le_of_ble_eq_true rfl, Nat.le_of_ble_eq_true rfl⟩) ⟨pg_16.1, va_recv hK hw.1 (ci := 2) (q0 := 2) rfl eC_2, pg_16.2⟩ rfl rfl hl.1 rfl (lv_room (Nat.le_of_ble_eq_true rfl)) dX10_lend_16 ⟨Nat.le_refl _, Nat.le_refl _⟩) hw.2.2 (afr_in hw.2.2) (fun H locs hw => ?_)
    refine lv_if_eq (tgt := 32) hx hb dX10_lend_19 (by decide) (fun c_19 => ?_) (fun c_19 => ?_)
    · have h := ite_t c_19 h
      exact hJ_32 s1 s2 s4 s5 s6 H locs ls h hw (lv_sub hl [] rfl)
    · have h := ite_f c_19 h
      refine lv_aload_n hx hb dX10_lend_22 rfl (lv_at hl 0 rfl) ?_
      refine gX10_30 hx hb hts hown hK hw dX10_lend_23 ?_
      obtain ⟨q_26, h_26, h⟩ := bnd_e h
      have pg_26 := preG (av := [.ref (ad 2)]) hK hw.1 hw.2.1 (NC_keep hN hw.2.2) NC_blind
      refine endI (mc := 0) (ms := 0) (va_runV (As := []) (rest := []) ⟨hx, hb, hml, hown, hts⟩ (m2_hasRoom l D ad cy H.size s0 s1 s2 s3 s4 s5 s6 s7 s8 s9 s10 q_26 h_26) (wX10_175 0 hts ⟨Nat.le_of_ble_eq_true rfl, Nat.le_of_ble_eq_true rfl⟩) ⟨pg_26.1, va_recv hK hw.1 (ci := 2) (q0 := 2) rfl eC_2, pg_26.2⟩ rfl rfl hl.1 rfl (lv_room (Nat.le_of_ble_eq_true rfl)) dX10_lend_26 ⟨Nat.le_refl _, Nat.le_refl _⟩) hw.2.2 (afr_in hw.2.2) (fun H locs hw => ?_)
      refine lv_if_ne (tgt := 34) hx hb dX10_lend_29 (by decide) (fun c_29 => ?_) (fun c_29 => ?_)
      · have h := ite_f c_29 h
        refine lv_aload_n hx hb dX10_lend_34 rfl (lv_at hl 0 rfl) ?_
        refine lv_iload_n hx hb dX10_lend_35 rfl (lv_at hl 1 rfl) ?_
        refine lv_iload_n hx hb dX10_lend_36 rfl (lv_at hl 2 rfl) ?_
        obtain ⟨q_37, h_37, h⟩ := bnd_e h
        have pg_37 := preG (av := [.ref (ad 10), .int a1, .int a2]) hK hw.1 hw.2.1 (NC_keep hN hw.2.2) NC_blind
        refine endV (mc := 0) (ms := 0) (va_runV (As := [.int a1, .int a2]) (rest := []) ⟨hx, hb, hml, hown, hts⟩ (m10_tellLetters l D ad cy H.size s0 s1 s2 s3 s4 s5 s6 s7 s8 s9 s10 a1 a2 q_37 h_37) (wX10_176 12 hts ⟨Nat.le_of_ble_eq_true rfl, Nat.le_of_ble_eq_true rfl⟩) ⟨pg_37.1, va_recv hK hw.1 (ci := 10) (q0 := 10) rfl eC_10, pg_37.2⟩ rfl rfl hl.1 rfl (lv_room (Nat.le_of_ble_eq_true rfl)) dX10_lend_37 ⟨Nat.le_refl _, Nat.le_refl _⟩) hw.2.2 (afr_in hw.2.2) (fun H locs hw => ?_)
        refine lv_aload_n hx hb dX10_lend_40 rfl (lv_at hl 0 rfl) ?_
        refine gX10_37 hx hb hts hown hK hw dX10_lend_41 ?_
        refine lv_aload_n hx hb dX10_lend_44 rfl (lv_at hl 0 rfl) ?_
        refine gX10_69 hx hb hts hown hK hw dX10_lend_45 ?_
        obtain ⟨q_48, h_48, h⟩ := bnd_e h
        have pg_48 := preG (av := [.ref (ad 5), .int ((s10.1 0 9))]) hK hw.1 hw.2.1 (NC_keep hN hw.2.2) NC_blind
        refine endV (mc := 0) (ms := 0) (va_runV (As := [.int ((s10.1 0 9))]) (rest := []) ⟨hx, hb, hml, hown, hts⟩ (m5_apply l D ad cy H.size s0 s1 s2 s3 s4 s5 q_37 s7 s8 s9 s10 ((s10.1 0 9)) q_48 h_48) (wX10_180 69 hts ⟨Nat.le_of_ble_eq_true rfl, Nat.le_of_ble_eq_true rfl⟩) ⟨pg_48.1, va_recv hK hw.1 (ci := 5) (q0 := 5) rfl eC_5, pg_48.2⟩ rfl rfl hl.1 rfl (lv_room (Nat.le_of_ble_eq_true rfl)) dX10_lend_48 ⟨Nat.le_refl _, Nat.le_refl _⟩) hw.2.2 (afr_in hw.2.2) (fun H locs hw => ?_)
        refine lv_aload_n hx hb dX10_lend_51 rfl (lv_at hl 0 rfl) ?_
        refine gX10_37 hx hb hts hown hK hw dX10_lend_52 ?_
        obtain ⟨q_55, h_55, h⟩ := bnd_e h
        have pg_55 := preG (av := [.ref (ad 5)]) hK hw.1 hw.2.1 (NC_keep hN hw.2.2) NC_blind
        refine endI (mc := 0) (ms := 0) (va_runV (As := []) (rest := []) ⟨hx, hb, hml, hown, hts⟩ (m5_isBarred l D ad cy H.size s0 s1 s2 s3 s4 q_48.1 q_48.2 s7 s8 s9 s10 q_55 h_55) (wX10_183 0 hts ⟨Nat.le_of_ble_eq_true rfl, Nat.le_of_ble_eq_true rfl⟩) ⟨pg_55.1, va_recv hK hw.1 (ci := 5) (q0 := 5) rfl eC_5, pg_55.2⟩ rfl rfl hl.1 rfl (lv_room (Nat.le_of_ble_eq_true rfl)) dX10_lend_55 ⟨Nat.le_refl _, Nat.le_refl _⟩) hw.2.2 (afr_in hw.2.2) (fun H locs hw => ?_)
        refine lv_if_eq (tgt := 64) hx hb dX10_lend_58 (by decide) (fun c_58 => ?_) (fun c_58 => ?_)
        · have h := ite_t c_58 h
          refine lv_aload_n hx hb dX10_lend_64 rfl (lv_at hl 0 rfl) ?_
          refine lv_iload_n hx hb dX10_lend_65 rfl (lv_at hl 1 rfl) ?_
          refine lv_aload_n hx hb dX10_lend_66 rfl (lv_at hl 0 rfl) ?_
          refine gX10_37 hx hb hts hown hK hw dX10_lend_67 ?_
          obtain ⟨q_70, h_70, h⟩ := bnd_e h
          have pg_70 := preG (av := [.ref (ad 5)]) hK hw.1 hw.2.1 (NC_keep hN hw.2.2) NC_blind
          refine endI (mc := 0) (ms := 0) (va_runV (As := []) (rest := [.int a1, .ref (ad 10)]) ⟨hx, hb, hml, hown, hts⟩ (m5_thousandths l D ad cy H.size s0 s1 s2 s3 s4 q_48.1 q_48.2 s7 s8 s9 s10 q_70 h_70) (wX10_186 0 hts ⟨Nat.le_of_ble_eq_true rfl, Nat.le_of_ble_eq_true rfl⟩) ⟨pg_70.1, va_recv hK hw.1 (ci := 5) (q0 := 5) rfl eC_5, pg_70.2⟩ rfl rfl hl.1 rfl (lv_room (Nat.le_of_ble_eq_true rfl)) dX10_lend_70 ⟨Nat.le_refl _, Nat.le_refl _⟩) hw.2.2 (afr_in hw.2.2) (fun H locs hw => ?_)
          obtain ⟨q_73, h_73, h⟩ := bnd_e h
          have pg_73 := preG (av := [.ref (ad 10), .int a1, .int q_70]) hK hw.1 hw.2.1 (NC_keep hN hw.2.2) NC_blind
          refine endI (mc := 0) (ms := 0) (va_runV (As := [.int a1, .int q_70]) (rest := []) ⟨hx, hb, hml, hown, hts⟩ (m10_keepsTooLittle l D ad cy H.size s0 s1 s2 s3 s4 q_48.1 q_48.2 s7 s8 s9 s10 a1 q_70 q_73 h_73) (wX10_189 3 hts ⟨Nat.le_of_ble_eq_true rfl, Nat.le_of_ble_eq_true rfl⟩) ⟨pg_73.1, va_recv hK hw.1 (ci := 10) (q0 := 10) rfl eC_10, pg_73.2⟩ rfl rfl hl.1 rfl (lv_room (Nat.le_of_ble_eq_true rfl)) dX10_lend_73 ⟨Nat.le_refl _, Nat.le_refl _⟩) hw.2.2 (afr_in hw.2.2) (fun H locs hw => ?_)
          refine lv_if_eq (tgt := 82) hx hb dX10_lend_76 (by decide) (fun c_76 => ?_) (fun c_76 => ?_)
          · have h := ite_t c_76 h
            refine lv_ldc (v := 99999) hx hb hown (hts _ (wd_2 (w := .constant RX10 193 99999) (i := 152) (by decide +kernel) rfl)) dX10_lend_82 ?_
            refine lv_aload_n hx hb dX10_lend_84 rfl (lv_at hl 0 rfl) ?_
            refine gX10_69 hx hb hts hown hK hw dX10_lend_85 ?_
            refine lv_aload_n hx hb dX10_lend_88 rfl (lv_at hl 0 rfl) ?_
            refine gX10_37 hx hb hts hown hK hw dX10_lend_89 ?_
            obtain ⟨q_92, h_92, h⟩ := bnd_e h
            have pg_92 := preG (av := [.ref (ad 5)]) hK hw.1 hw.2.1 (NC_keep hN hw.2.2) NC_blind
            refine endI (mc := 0) (ms := 0) (va_runV (As := []) (rest := [.int ((s10.1 0 9)), .int ((99999 : Int32))]) ⟨hx, hb, hml, hown, hts⟩ (m5_days l D ad cy H.size s0 s1 s2 s3 s4 q_48.1 q_48.2 s7 s8 s9 s10 q_92 h_92) (wX10_194 0 hts ⟨Nat.le_of_ble_eq_true rfl, Nat.le_of_ble_eq_true rfl⟩) ⟨pg_92.1, va_recv hK hw.1 (ci := 5) (q0 := 5) rfl eC_5, pg_92.2⟩ rfl rfl hl.1 rfl (lv_room (Nat.le_of_ble_eq_true rfl)) dX10_lend_92 ⟨Nat.le_refl _, Nat.le_refl _⟩) hw.2.2 (afr_in hw.2.2) (fun H locs hw => ?_)
            refine lv_iadd hx hb dX10_lend_95 ?_
            refine va_mmin hx hb (hml.trans hl.1.symm) hown (hts _ (wd_4 (w := .methodLink RX10 197 Lib.Math.min.name) (i := 145) (by decide +kernel) rfl)) (hts _ (wd_3 (w := .static Lib.Math.min.name) (i := 176) (by decide +kernel) rfl)) (hts _ (wd_1 (w := .initialized "java/lang/Math") (i := 15) (by decide +kernel) rfl)) (hts _ (wd_3 (w := .code Lib.Math.min.name Lib.Math.min.code 2 (some .int)) (i := 177) (by decide +kernel) rfl)) (Nat.le_of_ble_eq_true rfl) (Nat.le_of_ble_eq_true rfl) (Nat.zero_le _) (Nat.zero_le _) dX10_lend_96 ?_
            obtain ⟨n_99, e_99, h⟩ := nam_e h
            refine topI e_99 ?_
            refine lv_istore_n (lv' := [(3, .int n_99), (0, .ref (ad 10)), (1, .int a1), (2, .int a2)]) hx hb dX10_lend_99 rfl hl (by decide) rfl (fun ls hl => ?_)
            refine lv_aload_n hx hb dX10_lend_100 rfl (lv_at hl 1 rfl) ?_
            refine gX10_23 hx hb hts hown hK hw dX10_lend_101 ?_
            refine lv_iload_n hx hb dX10_lend_104 rfl (lv_at hl 2 rfl) ?_
            refine lv_aload_n hx hb dX10_lend_105 rfl (lv_at hl 1 rfl) ?_
            refine gX10_23 hx hb hts hown hK hw dX10_lend_106 ?_
            refine lv_iload_n hx hb dX10_lend_109 rfl (lv_at hl 2 rfl) ?_
            obtain ⟨q_110, h_110, h⟩ := bnd_e h
            have pg_110 := preG (av := [.ref (ad 4), .int a1]) hK hw.1 hw.2.1 (NC_keep hN hw.2.2) NC_blind
            refine endI (mc := 0) (ms := 0) (va_runV (As := [.int a1]) (rest := [.int a1, .ref (ad 4)]) ⟨hx, hb, hml, hown, hts⟩ (m4_weightOf l D ad cy H.size s0 s1 s2 s3 s4 q_48.1 q_48.2 s7 s8 s9 s10 a1 q_110 h_110) (wX10_104 1 hts ⟨Nat.le_of_ble_eq_true rfl, Nat.le_of_ble_eq_true rfl⟩) ⟨pg_110.1, va_recv hK hw.1 (ci := 4) (q0 := 4) rfl eC_4, pg_110.2⟩ rfl rfl hl.1 rfl (lv_room (Nat.le_of_ble_eq_true rfl)) dX10_lend_110 ⟨Nat.le_refl _, Nat.le_refl _⟩) hw.2.2 (afr_in hw.2.2) (fun H locs hw => ?_)
            refine lv_iconst (v := 0) hx hb dX10_lend_113 (by decide) ?_
            refine lv_bipush (v := 10) hx hb dX10_lend_114 (by decide) ?_
            refine lv_aload_n hx hb dX10_lend_116 rfl (lv_at hl 1 rfl) ?_
            refine gX10_69 hx hb hts hown hK hw dX10_lend_117 ?_
            obtain ⟨q_120, h_120, h⟩ := bnd_e h
            have pg_120 := preG (av := [.ref (ad 4), .int a1, .int q_110, .int ((0 : Int32)), .int ((10 : Int32)), .int ((s10.1 0 9))]) hK hw.1 hw.2.1 (NC_keep hN hw.2.2) NC_blind
            refine endV (mc := 0) (ms := 0) (va_runV (As := [.int a1, .int q_110, .int ((0 : Int32)), .int ((10 : Int32)), .int ((s10.1 0 9))]) (rest := []) ⟨hx, hb, hml, hown, hts⟩ (m4_change l D ad cy H.size s0 s1 s2 s3 s4 q_48.1 q_48.2 s7 s8 s9 s10 a1 q_110 ((0 : Int32)) ((10 : Int32)) ((s10.1 0 9)) q_120 h_120) (wX10_108 1 hts ⟨Nat.le_of_ble_eq_true rfl, Nat.le_of_ble_eq_true rfl⟩) ⟨pg_120.1, va_recv hK hw.1 (ci := 4) (q0 := 4) rfl eC_4, pg_120.2⟩ rfl rfl hl.1 rfl (lv_room (Nat.le_of_ble_eq_true rfl)) dX10_lend_120 ⟨Nat.le_refl _, Nat.le_refl _⟩) hw.2.2 (afr_in hw.2.2) (fun H locs hw => ?_)
            refine lv_aload_n hx hb dX10_lend_123 rfl (lv_at hl 1 rfl) ?_
            refine gX10_30 hx hb hts hown hK hw dX10_lend_124 ?_
            refine lv_iload_n hx hb dX10_lend_127 rfl (lv_at hl 2 rfl) ?_
            refine lv_iload_n hx hb dX10_lend_128 rfl (lv_at hl 3 rfl) ?_
            refine lv_aload_n hx hb dX10_lend_129 rfl (lv_at hl 1 rfl) ?_
            refine gX10_69 hx hb hts hown hK hw dX10_lend_130 ?_
            refine lv_iload_n hx hb dX10_lend_133 rfl (lv_at hl 0 rfl) ?_
            obtain ⟨q_134, h_134, h⟩ := bnd_e h
            have pg_134 := preG (av := [.ref (ad 2), .int a1, .int a2, .int ((s10.1 0 9)), .int n_99]) hK hw.1 hw.2.1 (NC_keep hN hw.2.2) NC_blind
            refine endI (mc := 0) (ms := 0) (va_runV (As := [.int a1, .int a2, .int ((s10.1 0 9)), .int n_99]) (rest := []) ⟨hx, hb, hml, hown, hts⟩ (m2_begin l D ad cy H.size s0 q_120.1 s2 s3 q_120.2 q_48.1 q_48.2 s7 s8 s9 s10 a1 a2 ((s10.1 0 9)) n_99 q_134 h_134) (wX10_202 0 hts ⟨Nat.le_of_ble_eq_true rfl, Nat.le_of_ble_eq_true rfl⟩) ⟨pg_134.1, va_recv hK hw.1 (ci := 2) (q0 := 2) rfl eC_2, pg_134.2⟩ rfl rfl hl.1 rfl (lv_room (Nat.le_of_ble_eq_true rfl)) dX10_lend_134 ⟨Nat.le_refl _, Nat.le_refl _⟩) hw.2.2 (afr_in hw.2.2) (fun H locs hw => ?_)
            have h := Option.some.inj h
            subst h
            rw [← hQ]
            exact retI hx hb hr hlk hw rfl dX10_lend_137
          · have h := ite_f c_76 h
            refine lv_bipush (v := (-3)) hx hb dX10_lend_79 (by decide) ?_
            have h := Option.some.inj h
            subst h
            rw [← hQ]
            exact retI hx hb hr hlk hw rfl dX10_lend_81
        · have h := ite_f c_58 h
          refine lv_bipush (v := (-2)) hx hb dX10_lend_61 (by decide) ?_
          have h := Option.some.inj h
          subst h
          rw [← hQ]
          exact retI hx hb hr hlk hw rfl dX10_lend_63
      · have h := ite_t c_29 h
        exact hJ_32 s1 s2 s4 s5 s6 H locs ls h hw (lv_sub hl [] rfl)
theorem dX10_loan_0 : decode cX10_loan 0 = .ok (.aload_n 0, 1) := by decide +kernel
theorem dX10_loan_1 : decode cX10_loan 1 = .ok (.getfield 30, 3) := by decide +kernel
theorem dX10_loan_4 : decode cX10_loan 4 = .ok (.iload_n 1, 1) := by decide +kernel
theorem dX10_loan_5 : decode cX10_loan 5 = .ok (.iload_n 2, 1) := by decide +kernel
theorem dX10_loan_6 : decode cX10_loan 6 = .ok (.aload_n 0, 1) := by decide +kernel
theorem dX10_loan_7 : decode cX10_loan 7 = .ok (.getfield 69, 3) := by decide +kernel
theorem dX10_loan_10 : decode cX10_loan 10 = .ok (.invokevirtual 254, 3) := by decide +kernel
theorem dX10_loan_13 : decode cX10_loan 13 = .ok (.ireturn, 1) := by decide +kernel
def f10_loan (a1 : Int32) (a2 : Int32) (s2 : OS) (s10 : OS) : Option (Int32) := Option.bind (f2_tell a1 a2 ((s10.1 0 9)) s2) fun q_10 => some q_10
set_option maxHeartbeats 4000000 in
set_option maxRecDepth 100000 in
theorem m10_loan (l : Launch) (D : va_G) (ad : Nat → Nat) (cy : Nat → ClassId) (sz : Nat) (s0 s1 s2 s3 s4 s5 s6 s7 s8 s9 s10 : OS) (a1 : Int32) (a2 : Int32) (r : Int32) (h : f10_loan a1 a2 s2 s10 = some r) : Met l yX10_loan (wsOf yX10_loan cX10_loan 3 (some .int)) (rmL 3) (va_Pc ([.ref (ad 10), .int a1, .int a2] : List Value) (PreG D cy (cellsC ad cy s0 s1 s2 s3 s4 s5 s6 s7 s8 s9 s10) sz (NC ad))) (QcI D ad 67 (cellsC ad cy s0 s1 s2 s3 s4 s5 s6 s7 s8 s9 s10) (r) sz) 0 0 (Afr ad 67 sz) := by
  refine metG (own := RX10) (by decide) rfl (Nat.le_of_ble_eq_true rfl) fstC ?_ sz
  intro p e s m below meth c ls C0 hw hl
  obtain ⟨hx, hb, hml, hown, hts, hr, hlk, hK, hN⟩ := C0
  have hl : lv_has ls 3 [(0, .ref (ad 10)), (1, .int a1), (2, .int a2)] := hl
  generalize hQ : MQ below (QcI D ad 67 (cellsC ad cy s0 s1 s2 s3 s4 s5 s6 s7 s8 s9 s10) (r) s.heap.size) ([.ref (ad 10), .int a1, .int a2] : List Value).toArray s 0 0 (Afr ad 67 s.heap.size) = Q
  obtain ⟨H, hH⟩ : ∃ H : Heap, H = s.heap := ⟨_, rfl⟩
  obtain ⟨locs, hlc⟩ : ∃ L : List Loc, L = [] := ⟨_, rfl⟩
  have hw : Wd D (cellsC ad cy s0 s1 s2 s3 s4 s5 s6 s7 s8 s9 s10) (Afr ad 67 s.heap.size) s.heap H locs := by rw [hH, hlc]; exact hw
  suffices h0 : W p l e (rmL 3) s m ([.ref (ad 10), .int a1, .int a2] : List Value).toArray below meth c H locs 0 0 Q (F0 m 0 ls []) by rw [hH, hlc] at h0; exact h0
  clear hH hlc
  unfold f10_loan at h
  refine lv_aload_n hx hb dX10_loan_0 rfl (lv_at hl 0 rfl) ?_
  refine gX10_30 hx hb hts hown hK hw dX10_loan_1 ?_
  refine lv_iload_n hx hb dX10_loan_4 rfl (lv_at hl 1 rfl) ?_
  refine lv_iload_n hx hb dX10_loan_5 rfl (lv_at hl 2 rfl) ?_
  refine lv_aload_n hx hb dX10_loan_6 rfl (lv_at hl 0 rfl) ?_
  refine gX10_69 hx hb hts hown hK hw dX10_loan_7 ?_
  obtain ⟨q_10, h_10, h⟩ := bnd_e h
  have pg_10 := preG (av := [.ref (ad 2), .int a1, .int a2, .int ((s10.1 0 9))]) hK hw.1 hw.2.1 (NC_keep hN hw.2.2) NC_blind
  refine endI (mc := 0) (ms := 0) (va_runV (As := [.int a1, .int a2, .int ((s10.1 0 9))]) (rest := []) ⟨hx, hb, hml, hown, hts⟩ (m2_tell l D ad cy H.size s0 s1 s2 s3 s4 s5 s6 s7 s8 s9 s10 a1 a2 ((s10.1 0 9)) q_10 h_10) (wX10_254 2 hts ⟨Nat.le_of_ble_eq_true rfl, Nat.le_of_ble_eq_true rfl⟩) ⟨pg_10.1, va_recv hK hw.1 (ci := 2) (q0 := 2) rfl eC_2, pg_10.2⟩ rfl rfl hl.1 rfl (lv_room (Nat.le_of_ble_eq_true rfl)) dX10_loan_10 ⟨Nat.le_refl _, Nat.le_refl _⟩) hw.2.2 (afr_in hw.2.2) (fun H locs hw => ?_)
  have h := Option.some.inj h
  subst h
  rw [← hQ]
  exact retI hx hb hr hlk hw rfl dX10_loan_13
theorem dX10_loss_0 : decode cX10_loss 0 = .ok (.iload_n 1, 1) := by decide +kernel
theorem dX10_loss_1 : decode cX10_loss 1 = .ok (.iconst 0, 1) := by decide +kernel
theorem dX10_loss_2 : decode cX10_loss 2 = .ok (.ldc_w 311, 3) := by decide +kernel
theorem dX10_loss_5 : decode cX10_loss 5 = .ok (.invokestatic 86, 3) := by decide +kernel
theorem dX10_loss_8 : decode cX10_loss 8 = .ok (.ifCond .ne 5, 3) := by decide +kernel
theorem dX10_loss_11 : decode cX10_loss 11 = .ok (.iconst 0, 1) := by decide +kernel
theorem dX10_loss_12 : decode cX10_loss 12 = .ok (.ireturn, 1) := by decide +kernel
theorem dX10_loss_13 : decode cX10_loss 13 = .ok (.aload_n 0, 1) := by decide +kernel
theorem dX10_loss_14 : decode cX10_loss 14 = .ok (.getfield 65, 3) := by decide +kernel
theorem dX10_loss_17 : decode cX10_loss 17 = .ok (.iload_n 1, 1) := by decide +kernel
theorem dX10_loss_18 : decode cX10_loss 18 = .ok (.invokevirtual 312, 3) := by decide +kernel
theorem dX10_loss_21 : decode cX10_loss 21 = .ok (.iconst 1, 1) := by decide +kernel
theorem dX10_loss_22 : decode cX10_loss 22 = .ok (.ireturn, 1) := by decide +kernel
def f10_loss (a1 : Int32) (s0 : OS) : Option (Int32 × OS) := Option.bind (f10_isWithin a1 ((0 : Int32)) ((1000000 : Int32))) fun q_5 => if q_5 = 0 then (some ((0 : Int32), s0)) else (Option.bind (f0_setLoss a1 s0) fun q_18 => some ((1 : Int32), q_18))
set_option maxHeartbeats 4000000 in
set_option maxRecDepth 100000 in
theorem m10_loss (l : Launch) (D : va_G) (ad : Nat → Nat) (cy : Nat → ClassId) (sz : Nat) (s0 s1 s2 s3 s4 s5 s6 s7 s8 s9 s10 : OS) (a1 : Int32) (r : Int32 × OS) (h : f10_loss a1 s0 = some r) : Met l yX10_loss (wsOf yX10_loss cX10_loss 2 (some .boolean)) (rmL 1) (va_Pc ([.ref (ad 10), .int a1] : List Value) (PreG D cy (cellsC ad cy s0 s1 s2 s3 s4 s5 s6 s7 s8 s9 s10) sz (NC ad))) (QcI D ad 67 (cellsC ad cy r.2 s1 s2 s3 s4 s5 s6 s7 s8 s9 s10) (r.1) sz) 0 0 (Afr ad 67 sz) := by
  refine metG (own := RX10) (by decide) rfl (Nat.le_of_ble_eq_true rfl) fstC ?_ sz
  intro p e s m below meth c ls C0 hw hl
  obtain ⟨hx, hb, hml, hown, hts, hr, hlk, hK, hN⟩ := C0
  have hl : lv_has ls 2 [(0, .ref (ad 10)), (1, .int a1)] := hl
  generalize hQ : MQ below (QcI D ad 67 (cellsC ad cy r.2 s1 s2 s3 s4 s5 s6 s7 s8 s9 s10) (r.1) s.heap.size) ([.ref (ad 10), .int a1] : List Value).toArray s 0 0 (Afr ad 67 s.heap.size) = Q
  obtain ⟨H, hH⟩ : ∃ H : Heap, H = s.heap := ⟨_, rfl⟩
  obtain ⟨locs, hlc⟩ : ∃ L : List Loc, L = [] := ⟨_, rfl⟩
  have hw : Wd D (cellsC ad cy s0 s1 s2 s3 s4 s5 s6 s7 s8 s9 s10) (Afr ad 67 s.heap.size) s.heap H locs := by rw [hH, hlc]; exact hw
  suffices h0 : W p l e (rmL 1) s m ([.ref (ad 10), .int a1] : List Value).toArray below meth c H locs 0 0 Q (F0 m 0 ls []) by rw [hH, hlc] at h0; exact h0
  clear hH hlc
  unfold f10_loss at h
  refine lv_iload_n hx hb dX10_loss_0 rfl (lv_at hl 1 rfl) ?_
  refine lv_iconst (v := 0) hx hb dX10_loss_1 (by decide) ?_
  refine lv_ldcw (v := 1000000) hx hb hown (hts _ (wd_5 (w := .constant RX10 311 1000000) (i := 131) (by decide +kernel) rfl)) dX10_loss_2 ?_
  obtain ⟨q_5, h_5, h⟩ := bnd_e h
  have pg_5 := preG (av := [.int a1, .int ((0 : Int32)), .int ((1000000 : Int32))]) hK hw.1 hw.2.1 (NC_keep hN hw.2.2) NC_blind
  refine endI (mc := 0) (ms := 0) (va_runS (As := [.int a1, .int ((0 : Int32)), .int ((1000000 : Int32))]) (rest := []) ⟨hx, hb, hml, hown, hts⟩ (m10_isWithin l D ad cy H.size s0 s1 s2 s3 s4 s5 s6 s7 s8 s9 s10 a1 ((0 : Int32)) ((1000000 : Int32)) q_5 h_5) (wX10_86 0 hts ⟨Nat.le_of_ble_eq_true rfl, Nat.le_of_ble_eq_true rfl⟩) pg_5 rfl rfl hl.1 rfl (lv_room (Nat.le_of_ble_eq_true rfl)) dX10_loss_5 ⟨Nat.le_refl _, Nat.le_refl _⟩) hw.2.2 (afr_in hw.2.2) (fun H locs hw => ?_)
  refine lv_if_ne (tgt := 13) hx hb dX10_loss_8 (by decide) (fun c_8 => ?_) (fun c_8 => ?_)
  · have h := ite_f c_8 h
    refine lv_aload_n hx hb dX10_loss_13 rfl (lv_at hl 0 rfl) ?_
    refine gX10_65 hx hb hts hown hK hw dX10_loss_14 ?_
    refine lv_iload_n hx hb dX10_loss_17 rfl (lv_at hl 1 rfl) ?_
    obtain ⟨q_18, h_18, h⟩ := bnd_e h
    have pg_18 := preG (av := [.ref (ad 0), .int a1]) hK hw.1 hw.2.1 (NC_keep hN hw.2.2) NC_blind
    refine endV (mc := 0) (ms := 0) (va_runV (As := [.int a1]) (rest := []) ⟨hx, hb, hml, hown, hts⟩ (m0_setLoss l D ad cy H.size s0 s1 s2 s3 s4 s5 s6 s7 s8 s9 s10 a1 q_18 h_18) (wX10_312 0 hts ⟨Nat.le_of_ble_eq_true rfl, Nat.le_of_ble_eq_true rfl⟩) ⟨pg_18.1, va_recv hK hw.1 (ci := 0) (q0 := 0) rfl eC_0, pg_18.2⟩ rfl rfl hl.1 rfl (lv_room (Nat.le_of_ble_eq_true rfl)) dX10_loss_18 ⟨Nat.le_refl _, Nat.le_refl _⟩) hw.2.2 (afr_in hw.2.2) (fun H locs hw => ?_)
    refine lv_iconst (v := 1) hx hb dX10_loss_21 (by decide) ?_
    have h := Option.some.inj h
    subst h
    rw [← hQ]
    exact retI hx hb hr hlk hw (narB (v := (1 : Int32)) (by decide)) dX10_loss_22
  · have h := ite_t c_8 h
    refine lv_iconst (v := 0) hx hb dX10_loss_11 (by decide) ?_
    have h := Option.some.inj h
    subst h
    rw [← hQ]
    exact retI hx hb hr hlk hw (narB (v := (0 : Int32)) (by decide)) dX10_loss_12
theorem dX10_move_0 : decode cX10_move 0 = .ok (.iload_n 2, 1) := by decide +kernel
theorem dX10_move_1 : decode cX10_move 1 = .ok (.invokestatic 77, 3) := by decide +kernel
theorem dX10_move_4 : decode cX10_move 4 = .ok (.ifCond .eq 14, 3) := by decide +kernel
theorem dX10_move_7 : decode cX10_move 7 = .ok (.aload_n 0, 1) := by decide +kernel
theorem dX10_move_8 : decode cX10_move 8 = .ok (.getfield 23, 3) := by decide +kernel
theorem dX10_move_11 : decode cX10_move 11 = .ok (.iload_n 1, 1) := by decide +kernel
theorem dX10_move_12 : decode cX10_move 12 = .ok (.invokevirtual 98, 3) := by decide +kernel
theorem dX10_move_15 : decode cX10_move 15 = .ok (.ifCond .ne 5, 3) := by decide +kernel
theorem dX10_move_18 : decode cX10_move 18 = .ok (.iconst 0, 1) := by decide +kernel
theorem dX10_move_19 : decode cX10_move 19 = .ok (.ireturn, 1) := by decide +kernel
theorem dX10_move_20 : decode cX10_move 20 = .ok (.aload_n 0, 1) := by decide +kernel
theorem dX10_move_21 : decode cX10_move 21 = .ok (.getfield 23, 3) := by decide +kernel
theorem dX10_move_24 : decode cX10_move 24 = .ok (.iload_n 1, 1) := by decide +kernel
theorem dX10_move_25 : decode cX10_move 25 = .ok (.invokevirtual 101, 3) := by decide +kernel
theorem dX10_move_28 : decode cX10_move 28 = .ok (.ifCond .eq 7, 3) := by decide +kernel
theorem dX10_move_31 : decode cX10_move 31 = .ok (.iconst 0, 1) := by decide +kernel
theorem dX10_move_32 : decode cX10_move 32 = .ok (.goto 9, 3) := by decide +kernel
theorem dX10_move_35 : decode cX10_move 35 = .ok (.aload_n 0, 1) := by decide +kernel
theorem dX10_move_36 : decode cX10_move 36 = .ok (.getfield 9, 3) := by decide +kernel
theorem dX10_move_39 : decode cX10_move 39 = .ok (.iload_n 2, 1) := by decide +kernel
theorem dX10_move_40 : decode cX10_move 40 = .ok (.iaload, 1) := by decide +kernel
theorem dX10_move_41 : decode cX10_move 41 = .ok (.istore_n 3, 1) := by decide +kernel
theorem dX10_move_42 : decode cX10_move 42 = .ok (.aload_n 0, 1) := by decide +kernel
theorem dX10_move_43 : decode cX10_move 43 = .ok (.getfield 23, 3) := by decide +kernel
theorem dX10_move_46 : decode cX10_move 46 = .ok (.iload_n 1, 1) := by decide +kernel
theorem dX10_move_47 : decode cX10_move 47 = .ok (.aload_n 0, 1) := by decide +kernel
theorem dX10_move_48 : decode cX10_move 48 = .ok (.getfield 23, 3) := by decide +kernel
theorem dX10_move_51 : decode cX10_move 51 = .ok (.iload_n 1, 1) := by decide +kernel
theorem dX10_move_52 : decode cX10_move 52 = .ok (.invokevirtual 104, 3) := by decide +kernel
theorem dX10_move_55 : decode cX10_move 55 = .ok (.iload_n 3, 1) := by decide +kernel
theorem dX10_move_56 : decode cX10_move 56 = .ok (.iload_n 2, 1) := by decide +kernel
theorem dX10_move_57 : decode cX10_move 57 = .ok (.aload_n 0, 1) := by decide +kernel
theorem dX10_move_58 : decode cX10_move 58 = .ok (.getfield 69, 3) := by decide +kernel
theorem dX10_move_61 : decode cX10_move 61 = .ok (.invokevirtual 108, 3) := by decide +kernel
theorem dX10_move_64 : decode cX10_move 64 = .ok (.iconst 1, 1) := by decide +kernel
theorem dX10_move_65 : decode cX10_move 65 = .ok (.ireturn, 1) := by decide +kernel
def f10_move_j41 (v1_j41 : Int32) (v2_j41 : Int32) (k0_j41 : Int32) (s1_j41 : OS) (s4_j41 : OS) (s10_j41 : OS) : Option (Int32 × OS × OS) := Option.bind (f4_weightOf v1_j41 s4_j41) fun q_52 => Option.bind (f4_change v1_j41 q_52 k0_j41 v2_j41 ((s10_j41.1 0 9)) s1_j41 s4_j41) fun q_61 => some ((1 : Int32), q_61.1, q_61.2)
def f10_move_j18 (s1_j18 : OS) (s4_j18 : OS) (s10_j18 : OS) : Option (Int32 × OS × OS) := some ((0 : Int32), s1_j18, s4_j18)
def f10_move (a1 : Int32) (a2 : Int32) (s1 : OS) (s4 : OS) (s10 : OS) : Option (Int32 × OS × OS) := Option.bind (f10_isCabinet a2) fun q_1 => if q_1 = 0 then (f10_move_j18 s1 s4 s10) else (Option.bind (f4_lies a1 s4) fun q_12 => if q_12 = 0 then (f10_move_j18 s1 s4 s10) else (Option.bind (f4_isSealed a1 s4) fun q_25 => if q_25 = 0 then (chk (inb a2 10) (nm (s10.1 1 a2.toNatClampNeg) fun y_40 => f10_move_j41 a1 a2 y_40 s1 s4 s10)) else (f10_move_j41 a1 a2 ((0 : Int32)) s1 s4 s10)))
set_option maxHeartbeats 4000000 in
set_option maxRecDepth 100000 in
theorem m10_move (l : Launch) (D : va_G) (ad : Nat → Nat) (cy : Nat → ClassId) (sz : Nat) (s0 s1 s2 s3 s4 s5 s6 s7 s8 s9 s10 : OS) (a1 : Int32) (a2 : Int32) (r : Int32 × OS × OS) (h : f10_move a1 a2 s1 s4 s10 = some r) : Met l yX10_move (wsOf yX10_move cX10_move 4 (some .boolean)) (rmL 2) (va_Pc ([.ref (ad 10), .int a1, .int a2] : List Value) (PreG D cy (cellsC ad cy s0 s1 s2 s3 s4 s5 s6 s7 s8 s9 s10) sz (NC ad))) (QcI D ad 67 (cellsC ad cy s0 r.2.1 s2 s3 r.2.2 s5 s6 s7 s8 s9 s10) (r.1) sz) 0 0 (Afr ad 67 sz) := by
  refine metG (own := RX10) (by decide) rfl (Nat.le_of_ble_eq_true rfl) fstC ?_ sz
  intro p e s m below meth c ls C0 hw hl
  obtain ⟨hx, hb, hml, hown, hts, hr, hlk, hK, hN⟩ := C0
  have hl : lv_has ls 4 [(0, .ref (ad 10)), (1, .int a1), (2, .int a2)] := hl
  generalize hQ : MQ below (QcI D ad 67 (cellsC ad cy s0 r.2.1 s2 s3 r.2.2 s5 s6 s7 s8 s9 s10) (r.1) s.heap.size) ([.ref (ad 10), .int a1, .int a2] : List Value).toArray s 0 0 (Afr ad 67 s.heap.size) = Q
  obtain ⟨H, hH⟩ : ∃ H : Heap, H = s.heap := ⟨_, rfl⟩
  obtain ⟨locs, hlc⟩ : ∃ L : List Loc, L = [] := ⟨_, rfl⟩
  have hw : Wd D (cellsC ad cy s0 s1 s2 s3 s4 s5 s6 s7 s8 s9 s10) (Afr ad 67 s.heap.size) s.heap H locs := by rw [hH, hlc]; exact hw
  suffices h0 : W p l e (rmL 2) s m ([.ref (ad 10), .int a1, .int a2] : List Value).toArray below meth c H locs 0 0 Q (F0 m 0 ls []) by rw [hH, hlc] at h0; exact h0
  clear hH hlc
  unfold f10_move at h
  have hJ_41 : ∀ (v1_j41 : Int32) (v2_j41 : Int32) (k0_j41 : Int32) (s1_j41 : OS) (s4_j41 : OS) (H : Heap) (locs : List Loc) (ls : Array Slot), f10_move_j41 v1_j41 v2_j41 k0_j41 s1_j41 s4_j41 s10 = some r → Wd D (cellsC ad cy s0 s1_j41 s2 s3 s4_j41 s5 s6 s7 s8 s9 s10) (Afr ad 67 s.heap.size) s.heap H locs → lv_has ls 4 [(0, .ref (ad 10)), (1, .int v1_j41), (2, .int v2_j41)] → W p l e (rmL 2) s m ([.ref (ad 10), .int a1, .int a2] : List Value).toArray below meth c H locs 0 0 Q (F0 m 41 ls [.int k0_j41]) := by
    intro v1_j41 v2_j41 k0_j41 s1_j41 s4_j41 H locs ls h hw hl
    unfold f10_move_j41 at h
    refine lv_istore_n (lv' := [(3, .int k0_j41), (0, .ref (ad 10)), (1, .int v1_j41), (2, .int v2_j41)]) hx hb dX10_move_41 rfl hl (by decide) rfl (fun ls hl => ?_)
    refine lv_aload_n hx hb dX10_move_42 rfl (lv_at hl 1 rfl) ?_
    refine gX10_23 hx hb hts hown hK hw dX10_move_43 ?_
    refine lv_iload_n hx hb dX10_move_46 rfl (lv_at hl 2 rfl) ?_
    refine lv_aload_n hx hb dX10_move_47 rfl (lv_at hl 1 rfl) ?_
    refine gX10_23 hx hb hts hown hK hw dX10_move_48 ?_
    refine lv_iload_n hx hb dX10_move_51 rfl (lv_at hl 2 rfl) ?_
    obtain ⟨q_52, h_52, h⟩ := bnd_e h
    have pg_52 := preG (av := [.ref (ad 4), .int v1_j41]) hK hw.1 hw.2.1 (NC_keep hN hw.2.2) NC_blind
    refine endI (mc := 0) (ms := 0) (va_runV (As := [.int v1_j41]) (rest := [.int v1_j41, .ref (ad 4)]) ⟨hx, hb, hml, hown, hts⟩ (m4_weightOf l D ad cy H.size s0 s1_j41 s2 s3 s4_j41 s5 s6 s7 s8 s9 s10 v1_j41 q_52 h_52) (wX10_104 1 hts ⟨Nat.le_of_ble_eq_true rfl, Nat.le_of_ble_eq_true rfl⟩) ⟨pg_52.1, va_recv hK hw.1 (ci := 4) (q0 := 4) rfl eC_4, pg_52.2⟩ rfl rfl hl.1 rfl (lv_room (Nat.le_of_ble_eq_true rfl)) dX10_move_52 ⟨Nat.le_refl _, Nat.le_refl _⟩) hw.2.2 (afr_in hw.2.2) (fun H locs hw => ?_)
    refine lv_iload_n hx hb dX10_move_55 rfl (lv_at hl 0 rfl) ?_
    refine lv_iload_n hx hb dX10_move_56 rfl (lv_at hl 3 rfl) ?_
    refine lv_aload_n hx hb dX10_move_57 rfl (lv_at hl 1 rfl) ?_
    refine gX10_69 hx hb hts hown hK hw dX10_move_58 ?_
    obtain ⟨q_61, h_61, h⟩ := bnd_e h
    have pg_61 := preG (av := [.ref (ad 4), .int v1_j41, .int q_52, .int k0_j41, .int v2_j41, .int ((s10.1 0 9))]) hK hw.1 hw.2.1 (NC_keep hN hw.2.2) NC_blind
    refine endV (mc := 0) (ms := 0) (va_runV (As := [.int v1_j41, .int q_52, .int k0_j41, .int v2_j41, .int ((s10.1 0 9))]) (rest := []) ⟨hx, hb, hml, hown, hts⟩ (m4_change l D ad cy H.size s0 s1_j41 s2 s3 s4_j41 s5 s6 s7 s8 s9 s10 v1_j41 q_52 k0_j41 v2_j41 ((s10.1 0 9)) q_61 h_61) (wX10_108 1 hts ⟨Nat.le_of_ble_eq_true rfl, Nat.le_of_ble_eq_true rfl⟩) ⟨pg_61.1, va_recv hK hw.1 (ci := 4) (q0 := 4) rfl eC_4, pg_61.2⟩ rfl rfl hl.1 rfl (lv_room (Nat.le_of_ble_eq_true rfl)) dX10_move_61 ⟨Nat.le_refl _, Nat.le_refl _⟩) hw.2.2 (afr_in hw.2.2) (fun H locs hw => ?_)
    refine lv_iconst (v := 1) hx hb dX10_move_64 (by decide) ?_
    have h := Option.some.inj h
    subst h
    rw [← hQ]
    exact retI hx hb hr hlk hw (narB (v := (1 : Int32)) (by decide)) dX10_move_65
  have hJ_18 : ∀ (s1_j18 : OS) (s4_j18 : OS) (H : Heap) (locs : List Loc) (ls : Array Slot), f10_move_j18 s1_j18 s4_j18 s10 = some r → Wd D (cellsC ad cy s0 s1_j18 s2 s3 s4_j18 s5 s6 s7 s8 s9 s10) (Afr ad 67 s.heap.size) s.heap H locs → lv_has ls 4 [] → W p l e (rmL 2) s m ([.ref (ad 10), .int a1, .int a2] : List Value).toArray below meth c H locs 0 0 Q (F0 m 18 ls []) := by
    intro s1_j18 s4_j18 H locs ls h hw hl
    unfold f10_move_j18 at h
    refine lv_iconst (v := 0) hx hb dX10_move_18 (by decide) ?_
    have h := Option.some.inj h
    subst h
    rw [← hQ]
    exact retI hx hb hr hlk hw (narB (v := (0 : Int32)) (by decide)) dX10_move_19
  refine lv_iload_n hx hb dX10_move_0 rfl (lv_at hl 2 rfl) ?_
  obtain ⟨q_1, h_1, h⟩ := bnd_e h
  have pg_1 := preG (av := [.int a2]) hK hw.1 hw.2.1 (NC_keep hN hw.2.2) NC_blind
  refine endI (mc := 0) (ms := 0) (va_runS (As := [.int a2]) (rest := []) ⟨hx, hb, hml, hown, hts⟩ (m10_isCabinet l D ad cy H.size s0 s1 s2 s3 s4 s5 s6 s7 s8 s9 s10 a2 q_1 h_1) (wX10_77 1 hts ⟨Nat.le_of_ble_eq_true rfl, Nat.le_of_ble_eq_true rfl⟩) pg_1 rfl rfl hl.1 rfl (lv_room (Nat.le_of_ble_eq_true rfl)) dX10_move_1 ⟨Nat.le_refl _, Nat.le_refl _⟩) hw.2.2 (afr_in hw.2.2) (fun H locs hw => ?_)
  refine lv_if_eq (tgt := 18) hx hb dX10_move_4 (by decide) (fun c_4 => ?_) (fun c_4 => ?_)
  · have h := ite_t c_4 h
    exact hJ_18 s1 s4 H locs ls h hw (lv_sub hl [] rfl)
  · have h := ite_f c_4 h
    refine lv_aload_n hx hb dX10_move_7 rfl (lv_at hl 0 rfl) ?_
    refine gX10_23 hx hb hts hown hK hw dX10_move_8 ?_
    refine lv_iload_n hx hb dX10_move_11 rfl (lv_at hl 1 rfl) ?_
    obtain ⟨q_12, h_12, h⟩ := bnd_e h
    have pg_12 := preG (av := [.ref (ad 4), .int a1]) hK hw.1 hw.2.1 (NC_keep hN hw.2.2) NC_blind
    refine endI (mc := 0) (ms := 0) (va_runV (As := [.int a1]) (rest := []) ⟨hx, hb, hml, hown, hts⟩ (m4_lies l D ad cy H.size s0 s1 s2 s3 s4 s5 s6 s7 s8 s9 s10 a1 q_12 h_12) (wX10_98 1 hts ⟨Nat.le_of_ble_eq_true rfl, Nat.le_of_ble_eq_true rfl⟩) ⟨pg_12.1, va_recv hK hw.1 (ci := 4) (q0 := 4) rfl eC_4, pg_12.2⟩ rfl rfl hl.1 rfl (lv_room (Nat.le_of_ble_eq_true rfl)) dX10_move_12 ⟨Nat.le_refl _, Nat.le_refl _⟩) hw.2.2 (afr_in hw.2.2) (fun H locs hw => ?_)
    refine lv_if_ne (tgt := 20) hx hb dX10_move_15 (by decide) (fun c_15 => ?_) (fun c_15 => ?_)
    · have h := ite_f c_15 h
      refine lv_aload_n hx hb dX10_move_20 rfl (lv_at hl 0 rfl) ?_
      refine gX10_23 hx hb hts hown hK hw dX10_move_21 ?_
      refine lv_iload_n hx hb dX10_move_24 rfl (lv_at hl 1 rfl) ?_
      obtain ⟨q_25, h_25, h⟩ := bnd_e h
      have pg_25 := preG (av := [.ref (ad 4), .int a1]) hK hw.1 hw.2.1 (NC_keep hN hw.2.2) NC_blind
      refine endI (mc := 0) (ms := 0) (va_runV (As := [.int a1]) (rest := []) ⟨hx, hb, hml, hown, hts⟩ (m4_isSealed l D ad cy H.size s0 s1 s2 s3 s4 s5 s6 s7 s8 s9 s10 a1 q_25 h_25) (wX10_101 1 hts ⟨Nat.le_of_ble_eq_true rfl, Nat.le_of_ble_eq_true rfl⟩) ⟨pg_25.1, va_recv hK hw.1 (ci := 4) (q0 := 4) rfl eC_4, pg_25.2⟩ rfl rfl hl.1 rfl (lv_room (Nat.le_of_ble_eq_true rfl)) dX10_move_25 ⟨Nat.le_refl _, Nat.le_refl _⟩) hw.2.2 (afr_in hw.2.2) (fun H locs hw => ?_)
      refine lv_if_eq (tgt := 35) hx hb dX10_move_28 (by decide) (fun c_28 => ?_) (fun c_28 => ?_)
      · have h := ite_t c_28 h
        refine lv_aload_n hx hb dX10_move_35 rfl (lv_at hl 0 rfl) ?_
        refine gX10_9 hx hb hts hown hK hw dX10_move_36 ?_
        refine lv_iload_n hx hb dX10_move_39 rfl (lv_at hl 2 rfl) ?_
        obtain ⟨hi_40, h⟩ := chk_e h
        obtain ⟨y_40, e_40, h⟩ := nam_e h
        refine lC66 hx hb hK hw hi_40 e_40 dX10_move_40 ?_
        exact hJ_41 a1 a2 y_40 s1 s4 H locs ls h hw (lv_sub hl [0, 1, 2] rfl)
      · have h := ite_f c_28 h
        refine lv_iconst (v := 0) hx hb dX10_move_31 (by decide) ?_
        refine lv_goto (tgt := 41) hx hb dX10_move_32 (by decide) ?_
        exact hJ_41 a1 a2 ((0 : Int32)) s1 s4 H locs ls h hw (lv_sub hl [0, 1, 2] rfl)
    · have h := ite_t c_15 h
      exact hJ_18 s1 s4 H locs ls h hw (lv_sub hl [] rfl)
theorem dX10_next_0 : decode cX10_next 0 = .ok (.iload_n 1, 1) := by decide +kernel
theorem dX10_next_1 : decode cX10_next 1 = .ok (.invokestatic 83, 3) := by decide +kernel
theorem dX10_next_4 : decode cX10_next 4 = .ok (.ifCond .eq 20, 3) := by decide +kernel
theorem dX10_next_7 : decode cX10_next 7 = .ok (.iload_n 2, 1) := by decide +kernel
theorem dX10_next_8 : decode cX10_next 8 = .ok (.invokestatic 80, 3) := by decide +kernel
theorem dX10_next_11 : decode cX10_next 11 = .ok (.ifCond .eq 13, 3) := by decide +kernel
theorem dX10_next_14 : decode cX10_next 14 = .ok (.iload_n 3, 1) := by decide +kernel
theorem dX10_next_15 : decode cX10_next 15 = .ok (.iconst 1, 1) := by decide +kernel
theorem dX10_next_16 : decode cX10_next 16 = .ok (.ldc 90, 2) := by decide +kernel
theorem dX10_next_18 : decode cX10_next 18 = .ok (.invokestatic 86, 3) := by decide +kernel
theorem dX10_next_21 : decode cX10_next 21 = .ok (.ifCond .ne 5, 3) := by decide +kernel
theorem dX10_next_24 : decode cX10_next 24 = .ok (.iconst (-1), 1) := by decide +kernel
theorem dX10_next_25 : decode cX10_next 25 = .ok (.ireturn, 1) := by decide +kernel
theorem dX10_next_26 : decode cX10_next 26 = .ok (.iconst (-1), 1) := by decide +kernel
theorem dX10_next_27 : decode cX10_next 27 = .ok (.istore 4, 2) := by decide +kernel
theorem dX10_next_29 : decode cX10_next 29 = .ok (.iconst 0, 1) := by decide +kernel
theorem dX10_next_30 : decode cX10_next 30 = .ok (.istore 5, 2) := by decide +kernel
theorem dX10_next_32 : decode cX10_next 32 = .ok (.iload 5, 2) := by decide +kernel
theorem dX10_next_34 : decode cX10_next 34 = .ok (.aload_n 0, 1) := by decide +kernel
theorem dX10_next_35 : decode cX10_next 35 = .ok (.getfield 23, 3) := by decide +kernel
theorem dX10_next_38 : decode cX10_next 38 = .ok (.invokevirtual 146, 3) := by decide +kernel
theorem dX10_next_41 : decode cX10_next 41 = .ok (.if_icmp .ge 94, 3) := by decide +kernel
theorem dX10_next_44 : decode cX10_next 44 = .ok (.aload_n 0, 1) := by decide +kernel
theorem dX10_next_45 : decode cX10_next 45 = .ok (.getfield 23, 3) := by decide +kernel
theorem dX10_next_48 : decode cX10_next 48 = .ok (.iload 5, 2) := by decide +kernel
theorem dX10_next_50 : decode cX10_next 50 = .ok (.invokevirtual 130, 3) := by decide +kernel
theorem dX10_next_53 : decode cX10_next 53 = .ok (.ifCond .eq 47, 3) := by decide +kernel
theorem dX10_next_56 : decode cX10_next 56 = .ok (.aload_n 0, 1) := by decide +kernel
theorem dX10_next_57 : decode cX10_next 57 = .ok (.getfield 23, 3) := by decide +kernel
theorem dX10_next_60 : decode cX10_next 60 = .ok (.iload 5, 2) := by decide +kernel
theorem dX10_next_62 : decode cX10_next 62 = .ok (.invokevirtual 206, 3) := by decide +kernel
theorem dX10_next_65 : decode cX10_next 65 = .ok (.iload_n 1, 1) := by decide +kernel
theorem dX10_next_66 : decode cX10_next 66 = .ok (.if_icmp .ne 34, 3) := by decide +kernel
theorem dX10_next_69 : decode cX10_next 69 = .ok (.aload_n 0, 1) := by decide +kernel
theorem dX10_next_70 : decode cX10_next 70 = .ok (.getfield 23, 3) := by decide +kernel
theorem dX10_next_73 : decode cX10_next 73 = .ok (.iload 5, 2) := by decide +kernel
theorem dX10_next_75 : decode cX10_next 75 = .ok (.invokevirtual 219, 3) := by decide +kernel
theorem dX10_next_78 : decode cX10_next 78 = .ok (.iload_n 2, 1) := by decide +kernel
theorem dX10_next_79 : decode cX10_next 79 = .ok (.iand, 1) := by decide +kernel
theorem dX10_next_80 : decode cX10_next 80 = .ok (.ifCond .ne 20, 3) := by decide +kernel
theorem dX10_next_83 : decode cX10_next 83 = .ok (.aload_n 0, 1) := by decide +kernel
theorem dX10_next_84 : decode cX10_next 84 = .ok (.getfield 23, 3) := by decide +kernel
theorem dX10_next_87 : decode cX10_next 87 = .ok (.iload 5, 2) := by decide +kernel
theorem dX10_next_89 : decode cX10_next 89 = .ok (.invokevirtual 104, 3) := by decide +kernel
theorem dX10_next_92 : decode cX10_next 92 = .ok (.iload_n 3, 1) := by decide +kernel
theorem dX10_next_93 : decode cX10_next 93 = .ok (.if_icmp .lt 7, 3) := by decide +kernel
theorem dX10_next_96 : decode cX10_next 96 = .ok (.iconst 1, 1) := by decide +kernel
theorem dX10_next_97 : decode cX10_next 97 = .ok (.goto 4, 3) := by decide +kernel
theorem dX10_next_100 : decode cX10_next 100 = .ok (.iconst 0, 1) := by decide +kernel
theorem dX10_next_101 : decode cX10_next 101 = .ok (.istore 6, 2) := by decide +kernel
theorem dX10_next_103 : decode cX10_next 103 = .ok (.iload 6, 2) := by decide +kernel
theorem dX10_next_105 : decode cX10_next 105 = .ok (.ifCond .eq 24, 3) := by decide +kernel
theorem dX10_next_108 : decode cX10_next 108 = .ok (.iload 4, 2) := by decide +kernel
theorem dX10_next_110 : decode cX10_next 110 = .ok (.iconst (-1), 1) := by decide +kernel
theorem dX10_next_111 : decode cX10_next 111 = .ok (.if_icmp .eq 14, 3) := by decide +kernel
theorem dX10_next_114 : decode cX10_next 114 = .ok (.aload_n 0, 1) := by decide +kernel
theorem dX10_next_115 : decode cX10_next 115 = .ok (.iload 5, 2) := by decide +kernel
theorem dX10_next_117 : decode cX10_next 117 = .ok (.iload 4, 2) := by decide +kernel
theorem dX10_next_119 : decode cX10_next 119 = .ok (.invokevirtual 339, 3) := by decide +kernel
theorem dX10_next_122 : decode cX10_next 122 = .ok (.ifCond .eq 7, 3) := by decide +kernel
theorem dX10_next_125 : decode cX10_next 125 = .ok (.iload 5, 2) := by decide +kernel
theorem dX10_next_127 : decode cX10_next 127 = .ok (.istore 4, 2) := by decide +kernel
theorem dX10_next_129 : decode cX10_next 129 = .ok (.iinc 5 1, 3) := by decide +kernel
theorem dX10_next_132 : decode cX10_next 132 = .ok (.goto (-100), 3) := by decide +kernel
theorem dX10_next_135 : decode cX10_next 135 = .ok (.iload 4, 2) := by decide +kernel
theorem dX10_next_137 : decode cX10_next 137 = .ok (.ireturn, 1) := by decide +kernel
noncomputable def f10_next_j24 (s4_j24 : OS) : Option (Int32) := some ((-1 : Int32))
noncomputable def f10_next_j129 (v1_j129 : Int32) (v2_j129 : Int32) (v3_j129 : Int32) (v4_j129 : Int32) (v5_j129 : Int32) (s4_j129 : OS) : Option ((Int32 × Int32) ⊕ (Int32)) := nm (v5_j129 + (1 : Int32)) fun n_129 => some (Sum.inl (v4_j129, n_129))
noncomputable def f10_next_j125 (v1_j125 : Int32) (v2_j125 : Int32) (v3_j125 : Int32) (v5_j125 : Int32) (s4_j125 : OS) : Option ((Int32 × Int32) ⊕ (Int32)) := f10_next_j129 v1_j125 v2_j125 v3_j125 v5_j125 v5_j125 s4_j125
noncomputable def f10_next_j101 (v1_j101 : Int32) (v2_j101 : Int32) (v3_j101 : Int32) (v4_j101 : Int32) (v5_j101 : Int32) (k0_j101 : Int32) (s4_j101 : OS) : Option ((Int32 × Int32) ⊕ (Int32)) := if k0_j101 = 0 then (f10_next_j129 v1_j101 v2_j101 v3_j101 v4_j101 v5_j101 s4_j101) else (if v4_j101 = (-1 : Int32) then (f10_next_j125 v1_j101 v2_j101 v3_j101 v5_j101 s4_j101) else (Option.bind (f10_isSooner v5_j101 v4_j101 s4_j101) fun q_119 => if q_119 = 0 then (f10_next_j129 v1_j101 v2_j101 v3_j101 v4_j101 v5_j101 s4_j101) else (f10_next_j125 v1_j101 v2_j101 v3_j101 v5_j101 s4_j101)))
noncomputable def f10_next_j100 (v1_j100 : Int32) (v2_j100 : Int32) (v3_j100 : Int32) (v4_j100 : Int32) (v5_j100 : Int32) (s4_j100 : OS) : Option ((Int32 × Int32) ⊕ (Int32)) := f10_next_j101 v1_j100 v2_j100 v3_j100 v4_j100 v5_j100 ((0 : Int32)) s4_j100
noncomputable def f10_next_l32 (v1_i32 : Int32) (v2_i32 : Int32) (v3_i32 : Int32) (s4_i32 : OS) : Int32 × Int32 → Option ((Int32 × Int32) ⊕ (Int32)) := fun t_32 => Option.bind (f4_size s4_i32) fun q_38 => if q_38 ≤ t_32.2 then (Option.map Sum.inr (some t_32.1)) else (Option.bind (f4_isAtHand t_32.2 s4_i32) fun q_50 => if q_50 = 0 then (f10_next_j100 v1_i32 v2_i32 v3_i32 t_32.1 t_32.2 s4_i32) else (Option.bind (f4_kindOf t_32.2 s4_i32) fun q_62 => if q_62 = v1_i32 then (Option.bind (f4_metOf t_32.2 s4_i32) fun q_75 => if (q_75 &&& v2_i32) = 0 then (Option.bind (f4_weightOf t_32.2 s4_i32) fun q_89 => if q_89 < v3_i32 then (f10_next_j100 v1_i32 v2_i32 v3_i32 t_32.1 t_32.2 s4_i32) else (f10_next_j101 v1_i32 v2_i32 v3_i32 t_32.1 t_32.2 ((1 : Int32)) s4_i32)) else (f10_next_j100 v1_i32 v2_i32 v3_i32 t_32.1 t_32.2 s4_i32)) else (f10_next_j100 v1_i32 v2_i32 v3_i32 t_32.1 t_32.2 s4_i32)))
noncomputable def f10_next (a1 : Int32) (a2 : Int32) (a3 : Int32) (s4 : OS) : Option (Int32) := Option.bind (f10_isKind a1) fun q_1 => if q_1 = 0 then (f10_next_j24 s4) else (Option.bind (f10_isBits a2) fun q_8 => if q_8 = 0 then (f10_next_j24 s4) else (Option.bind (f10_isWithin a3 ((1 : Int32)) ((1000000000 : Int32))) fun q_18 => if q_18 = 0 then (f10_next_j24 s4) else (loop (f10_next_l32 a1 a2 a3 s4) ((-1 : Int32), (0 : Int32)))))
set_option maxHeartbeats 4000000 in
set_option maxRecDepth 100000 in
theorem m10_next (l : Launch) (D : va_G) (ad : Nat → Nat) (cy : Nat → ClassId) (sz : Nat) (s0 s1 s2 s3 s4 s5 s6 s7 s8 s9 s10 : OS) (a1 : Int32) (a2 : Int32) (a3 : Int32) (r : Int32) (h : f10_next a1 a2 a3 s4 = some r) : Met l yX10_next (wsOf yX10_next cX10_next 7 (some .int)) (rmL 3) (va_Pc ([.ref (ad 10), .int a1, .int a2, .int a3] : List Value) (PreG D cy (cellsC ad cy s0 s1 s2 s3 s4 s5 s6 s7 s8 s9 s10) sz (NC ad))) (QcI D ad 67 (cellsC ad cy s0 s1 s2 s3 s4 s5 s6 s7 s8 s9 s10) (r) sz) 0 0 (Afr ad 67 sz) := by
  refine metG (own := RX10) (by decide) rfl (Nat.le_of_ble_eq_true rfl) fstC ?_ sz
  intro p e s m below meth c ls C0 hw hl
  obtain ⟨hx, hb, hml, hown, hts, hr, hlk, hK, hN⟩ := C0
  have hl : lv_has ls 7 [(0, .ref (ad 10)), (1, .int a1), (2, .int a2), (3, .int a3)] := hl
  generalize hQ : MQ below (QcI D ad 67 (cellsC ad cy s0 s1 s2 s3 s4 s5 s6 s7 s8 s9 s10) (r) s.heap.size) ([.ref (ad 10), .int a1, .int a2, .int a3] : List Value).toArray s 0 0 (Afr ad 67 s.heap.size) = Q
  obtain ⟨H, hH⟩ : ∃ H : Heap, H = s.heap := ⟨_, rfl⟩
  obtain ⟨locs, hlc⟩ : ∃ L : List Loc, L = [] := ⟨_, rfl⟩
  have hw : Wd D (cellsC ad cy s0 s1 s2 s3 s4 s5 s6 s7 s8 s9 s10) (Afr ad 67 s.heap.size) s.heap H locs := by rw [hH, hlc]; exact hw
  suffices h0 : W p l e (rmL 3) s m ([.ref (ad 10), .int a1, .int a2, .int a3] : List Value).toArray below meth c H locs 0 0 Q (F0 m 0 ls []) by rw [hH, hlc] at h0; exact h0
  clear hH hlc
  unfold f10_next at h
  have hJ_24 : ∀  (H : Heap) (locs : List Loc) (ls : Array Slot), f10_next_j24 s4 = some r → Wd D (cellsC ad cy s0 s1 s2 s3 s4 s5 s6 s7 s8 s9 s10) (Afr ad 67 s.heap.size) s.heap H locs → lv_has ls 7 [] → W p l e (rmL 3) s m ([.ref (ad 10), .int a1, .int a2, .int a3] : List Value).toArray below meth c H locs 0 0 Q (F0 m 24 ls []) := by
    intro  H locs ls h hw hl
    unfold f10_next_j24 at h
    refine lv_iconst (v := (-1)) hx hb dX10_next_24 (by decide) ?_
    have h := Option.some.inj h
    subst h
    rw [← hQ]
    exact retI hx hb hr hlk hw rfl dX10_next_25
  refine lv_iload_n hx hb dX10_next_0 rfl (lv_at hl 1 rfl) ?_
  obtain ⟨q_1, h_1, h⟩ := bnd_e h
  have pg_1 := preG (av := [.int a1]) hK hw.1 hw.2.1 (NC_keep hN hw.2.2) NC_blind
  refine endI (mc := 0) (ms := 0) (va_runS (As := [.int a1]) (rest := []) ⟨hx, hb, hml, hown, hts⟩ (m10_isKind l D ad cy H.size s0 s1 s2 s3 s4 s5 s6 s7 s8 s9 s10 a1 q_1 h_1) (wX10_83 1 hts ⟨Nat.le_of_ble_eq_true rfl, Nat.le_of_ble_eq_true rfl⟩) pg_1 rfl rfl hl.1 rfl (lv_room (Nat.le_of_ble_eq_true rfl)) dX10_next_1 ⟨Nat.le_refl _, Nat.le_refl _⟩) hw.2.2 (afr_in hw.2.2) (fun H locs hw => ?_)
  refine lv_if_eq (tgt := 24) hx hb dX10_next_4 (by decide) (fun c_4 => ?_) (fun c_4 => ?_)
  · have h := ite_t c_4 h
    exact hJ_24  H locs ls h hw (lv_sub hl [] rfl)
  · have h := ite_f c_4 h
    refine lv_iload_n hx hb dX10_next_7 rfl (lv_at hl 2 rfl) ?_
    obtain ⟨q_8, h_8, h⟩ := bnd_e h
    have pg_8 := preG (av := [.int a2]) hK hw.1 hw.2.1 (NC_keep hN hw.2.2) NC_blind
    refine endI (mc := 0) (ms := 0) (va_runS (As := [.int a2]) (rest := []) ⟨hx, hb, hml, hown, hts⟩ (m10_isBits l D ad cy H.size s0 s1 s2 s3 s4 s5 s6 s7 s8 s9 s10 a2 q_8 h_8) (wX10_80 1 hts ⟨Nat.le_of_ble_eq_true rfl, Nat.le_of_ble_eq_true rfl⟩) pg_8 rfl rfl hl.1 rfl (lv_room (Nat.le_of_ble_eq_true rfl)) dX10_next_8 ⟨Nat.le_refl _, Nat.le_refl _⟩) hw.2.2 (afr_in hw.2.2) (fun H locs hw => ?_)
    refine lv_if_eq (tgt := 24) hx hb dX10_next_11 (by decide) (fun c_11 => ?_) (fun c_11 => ?_)
    · have h := ite_t c_11 h
      exact hJ_24  H locs ls h hw (lv_sub hl [] rfl)
    · have h := ite_f c_11 h
      refine lv_iload_n hx hb dX10_next_14 rfl (lv_at hl 3 rfl) ?_
      refine lv_iconst (v := 1) hx hb dX10_next_15 (by decide) ?_
      refine lv_ldc (v := 1000000000) hx hb hown (hts _ (wd_2 (w := .constant RX10 90 1000000000) (i := 174) (by decide +kernel) rfl)) dX10_next_16 ?_
      obtain ⟨q_18, h_18, h⟩ := bnd_e h
      have pg_18 := preG (av := [.int a3, .int ((1 : Int32)), .int ((1000000000 : Int32))]) hK hw.1 hw.2.1 (NC_keep hN hw.2.2) NC_blind
      refine endI (mc := 0) (ms := 0) (va_runS (As := [.int a3, .int ((1 : Int32)), .int ((1000000000 : Int32))]) (rest := []) ⟨hx, hb, hml, hown, hts⟩ (m10_isWithin l D ad cy H.size s0 s1 s2 s3 s4 s5 s6 s7 s8 s9 s10 a3 ((1 : Int32)) ((1000000000 : Int32)) q_18 h_18) (wX10_86 0 hts ⟨Nat.le_of_ble_eq_true rfl, Nat.le_of_ble_eq_true rfl⟩) pg_18 rfl rfl hl.1 rfl (lv_room (Nat.le_of_ble_eq_true rfl)) dX10_next_18 ⟨Nat.le_refl _, Nat.le_refl _⟩) hw.2.2 (afr_in hw.2.2) (fun H locs hw => ?_)
      refine lv_if_ne (tgt := 26) hx hb dX10_next_21 (by decide) (fun c_21 => ?_) (fun c_21 => ?_)
      · have h := ite_f c_21 h
        refine lv_iconst (v := (-1)) hx hb dX10_next_26 (by decide) ?_
        refine lv_istore (lv' := [(4, .int ((-1 : Int32))), (0, .ref (ad 10)), (1, .int a1), (2, .int a2), (3, .int a3)]) hx hb dX10_next_27 hl (by decide) rfl (fun ls hl => ?_)
        refine lv_iconst (v := 0) hx hb dX10_next_29 (by decide) ?_
        refine lv_istore (lv' := [(5, .int ((0 : Int32))), (4, .int ((-1 : Int32))), (0, .ref (ad 10)), (1, .int a1), (2, .int a2), (3, .int a3)]) hx hb dX10_next_30 hl (by decide) rfl (fun ls hl => ?_)
        obtain ⟨n_32, hn_32⟩ := loop_e h
        have hL_32 : ∀ (n : Nat) (t_32 : Int32 × Int32) (H : Heap) (locs : List Loc) (ls : Array Slot), loopN (f10_next_l32 a1 a2 a3 s4) n t_32 = some r → Wd D (cellsC ad cy s0 s1 s2 s3 s4 s5 s6 s7 s8 s9 s10) (Afr ad 67 s.heap.size) s.heap H locs → lv_has ls 7 [(4, .int t_32.1), (5, .int t_32.2), (1, .int a1), (2, .int a2), (3, .int a3), (0, .ref (ad 10))] → W p l e (rmL 3) s m ([.ref (ad 10), .int a1, .int a2, .int a3] : List Value).toArray below meth c H locs 0 0 Q (F0 m 32 ls []) := by
          intro n
          induction n with
          | zero => intro t_32 H locs ls hn; cases hn
          | succ n ih_32 =>
            intro t_32 H locs ls hn hw hl
            obtain ⟨x_32, h, hx_32⟩ := loopN_e hn
            unfold f10_next_l32 at h
            have hJ_129 : ∀ (v4_j129 : Int32) (v5_j129 : Int32) (H : Heap) (locs : List Loc) (ls : Array Slot), f10_next_j129 a1 a2 a3 v4_j129 v5_j129 s4 = some x_32 → Wd D (cellsC ad cy s0 s1 s2 s3 s4 s5 s6 s7 s8 s9 s10) (Afr ad 67 s.heap.size) s.heap H locs → lv_has ls 7 [(0, .ref (ad 10)), (1, .int a1), (2, .int a2), (3, .int a3), (4, .int v4_j129), (5, .int v5_j129)] → W p l e (rmL 3) s m ([.ref (ad 10), .int a1, .int a2, .int a3] : List Value).toArray below meth c H locs 0 0 Q (F0 m 129 ls []) := by
              intro v4_j129 v5_j129 H locs ls h hw hl
              unfold f10_next_j129 at h
              obtain ⟨n_129, e_129, h⟩ := nam_e h
              refine lv_iinc (v := n_129) (lv' := [(5, .int n_129), (0, .ref (ad 10)), (1, .int a1), (2, .int a2), (3, .int a3), (4, .int v4_j129)]) hx hb dX10_next_129 hl (k := 5) rfl (by rw [e_129]; rfl) (by decide) rfl (fun ls hl => ?_)
              refine lv_goto (tgt := 32) hx hb dX10_next_132 (by decide) ?_
              exact ih_32 (v4_j129, n_129) H locs ls (nx_l hx_32 h) hw (lv_sub hl [5, 0, 2, 3, 4, 1] rfl)
            have hJ_125 : ∀ (v5_j125 : Int32) (H : Heap) (locs : List Loc) (ls : Array Slot), f10_next_j125 a1 a2 a3 v5_j125 s4 = some x_32 → Wd D (cellsC ad cy s0 s1 s2 s3 s4 s5 s6 s7 s8 s9 s10) (Afr ad 67 s.heap.size) s.heap H locs → lv_has ls 7 [(0, .ref (ad 10)), (1, .int a1), (2, .int a2), (3, .int a3), (5, .int v5_j125)] → W p l e (rmL 3) s m ([.ref (ad 10), .int a1, .int a2, .int a3] : List Value).toArray below meth c H locs 0 0 Q (F0 m 125 ls []) := by
              intro v5_j125 H locs ls h hw hl
              unfold f10_next_j125 at h
              refine lv_iload hx hb dX10_next_125 (lv_at hl 4 rfl) ?_
              refine lv_istore (lv' := [(4, .int v5_j125), (0, .ref (ad 10)), (1, .int a1), (2, .int a2), (3, .int a3), (5, .int v5_j125)]) hx hb dX10_next_127 hl (by decide) rfl (fun ls hl => ?_)
              exact hJ_129 v5_j125 v5_j125 H locs ls h hw (lv_sub hl [1, 2, 3, 4, 0, 5] rfl)
            have hJ_101 : ∀ (v4_j101 : Int32) (v5_j101 : Int32) (k0_j101 : Int32) (H : Heap) (locs : List Loc) (ls : Array Slot), f10_next_j101 a1 a2 a3 v4_j101 v5_j101 k0_j101 s4 = some x_32 → Wd D (cellsC ad cy s0 s1 s2 s3 s4 s5 s6 s7 s8 s9 s10) (Afr ad 67 s.heap.size) s.heap H locs → lv_has ls 7 [(0, .ref (ad 10)), (1, .int a1), (2, .int a2), (3, .int a3), (4, .int v4_j101), (5, .int v5_j101)] → W p l e (rmL 3) s m ([.ref (ad 10), .int a1, .int a2, .int a3] : List Value).toArray below meth c H locs 0 0 Q (F0 m 101 ls [.int k0_j101]) := by
              intro v4_j101 v5_j101 k0_j101 H locs ls h hw hl
              unfold f10_next_j101 at h
              refine lv_istore (lv' := [(6, .int k0_j101), (0, .ref (ad 10)), (1, .int a1), (2, .int a2), (3, .int a3), (4, .int v4_j101), (5, .int v5_j101)]) hx hb dX10_next_101 hl (by decide) rfl (fun ls hl => ?_)
              refine lv_iload hx hb dX10_next_103 (lv_at hl 0 rfl) ?_
              refine lv_if_eq (tgt := 129) hx hb dX10_next_105 (by decide) (fun c_105 => ?_) (fun c_105 => ?_)
              · have h := ite_t c_105 h
                exact hJ_129 v4_j101 v5_j101 H locs ls h hw (lv_sub hl [1, 2, 3, 4, 5, 6] rfl)
              · have h := ite_f c_105 h
                refine lv_iload hx hb dX10_next_108 (lv_at hl 5 rfl) ?_
                refine lv_iconst (v := (-1)) hx hb dX10_next_110 (by decide) ?_
                refine lv_icmp_eq (tgt := 125) hx hb dX10_next_111 (by decide) (fun c_111 => ?_) (fun c_111 => ?_)
                · have h := ite_t c_111 h
                  exact hJ_125 v5_j101 H locs ls h hw (lv_sub hl [1, 2, 3, 4, 6] rfl)
                · have h := ite_f c_111 h
                  refine lv_aload_n hx hb dX10_next_114 rfl (lv_at hl 1 rfl) ?_
                  refine lv_iload hx hb dX10_next_115 (lv_at hl 6 rfl) ?_
                  refine lv_iload hx hb dX10_next_117 (lv_at hl 5 rfl) ?_
                  obtain ⟨q_119, h_119, h⟩ := bnd_e h
                  have pg_119 := preG (av := [.ref (ad 10), .int v5_j101, .int v4_j101]) hK hw.1 hw.2.1 (NC_keep hN hw.2.2) NC_blind
                  refine endI (mc := 0) (ms := 0) (va_runV (As := [.int v5_j101, .int v4_j101]) (rest := []) ⟨hx, hb, hml, hown, hts⟩ (m10_isSooner l D ad cy H.size s0 s1 s2 s3 s4 s5 s6 s7 s8 s9 s10 v5_j101 v4_j101 q_119 h_119) (wX10_339 2 hts ⟨Nat.le_of_ble_eq_true rfl, Nat.le_of_ble_eq_true rfl⟩) ⟨pg_119.1, va_recv hK hw.1 (ci := 10) (q0 := 10) rfl eC_10, pg_119.2⟩ rfl rfl hl.1 rfl (lv_room (Nat.le_of_ble_eq_true rfl)) dX10_next_119 ⟨Nat.le_refl _, Nat.le_refl _⟩) hw.2.2 (afr_in hw.2.2) (fun H locs hw => ?_)
                  refine lv_if_eq (tgt := 129) hx hb dX10_next_122 (by decide) (fun c_122 => ?_) (fun c_122 => ?_)
                  · have h := ite_t c_122 h
                    exact hJ_129 v4_j101 v5_j101 H locs ls h hw (lv_sub hl [1, 2, 3, 4, 5, 6] rfl)
                  · have h := ite_f c_122 h
                    exact hJ_125 v5_j101 H locs ls h hw (lv_sub hl [1, 2, 3, 4, 6] rfl)
            have hJ_100 : ∀ (v4_j100 : Int32) (v5_j100 : Int32) (H : Heap) (locs : List Loc) (ls : Array Slot), f10_next_j100 a1 a2 a3 v4_j100 v5_j100 s4 = some x_32 → Wd D (cellsC ad cy s0 s1 s2 s3 s4 s5 s6 s7 s8 s9 s10) (Afr ad 67 s.heap.size) s.heap H locs → lv_has ls 7 [(0, .ref (ad 10)), (1, .int a1), (2, .int a2), (3, .int a3), (4, .int v4_j100), (5, .int v5_j100)] → W p l e (rmL 3) s m ([.ref (ad 10), .int a1, .int a2, .int a3] : List Value).toArray below meth c H locs 0 0 Q (F0 m 100 ls []) := by
              intro v4_j100 v5_j100 H locs ls h hw hl
              unfold f10_next_j100 at h
              refine lv_iconst (v := 0) hx hb dX10_next_100 (by decide) ?_
              exact hJ_101 v4_j100 v5_j100 ((0 : Int32)) H locs ls h hw (lv_sub hl [0, 1, 2, 3, 4, 5] rfl)
            refine lv_iload hx hb dX10_next_32 (lv_at hl 1 rfl) ?_
            refine lv_aload_n hx hb dX10_next_34 rfl (lv_at hl 5 rfl) ?_
            refine gX10_23 hx hb hts hown hK hw dX10_next_35 ?_
            obtain ⟨q_38, h_38, h⟩ := bnd_e h
            have pg_38 := preG (av := [.ref (ad 4)]) hK hw.1 hw.2.1 (NC_keep hN hw.2.2) NC_blind
            refine endI (mc := 0) (ms := 0) (va_runV (As := []) (rest := [.int t_32.2]) ⟨hx, hb, hml, hown, hts⟩ (m4_size l D ad cy H.size s0 s1 s2 s3 s4 s5 s6 s7 s8 s9 s10 q_38 h_38) (wX10_146 0 hts ⟨Nat.le_of_ble_eq_true rfl, Nat.le_of_ble_eq_true rfl⟩) ⟨pg_38.1, va_recv hK hw.1 (ci := 4) (q0 := 4) rfl eC_4, pg_38.2⟩ rfl rfl hl.1 rfl (lv_room (Nat.le_of_ble_eq_true rfl)) dX10_next_38 ⟨Nat.le_refl _, Nat.le_refl _⟩) hw.2.2 (afr_in hw.2.2) (fun H locs hw => ?_)
            refine lv_icmp_ge (tgt := 135) hx hb dX10_next_41 (by decide) (fun c_41 => ?_) (fun c_41 => ?_)
            · have h := ite_t c_41 h
              have h := nx_m hx_32 h
              refine lv_iload hx hb dX10_next_135 (lv_at hl 0 rfl) ?_
              have h := Option.some.inj h
              subst h
              rw [← hQ]
              exact retI hx hb hr hlk hw rfl dX10_next_137
            · have h := ite_f c_41 h
              refine lv_aload_n hx hb dX10_next_44 rfl (lv_at hl 5 rfl) ?_
              refine gX10_23 hx hb hts hown hK hw dX10_next_45 ?_
              refine lv_iload hx hb dX10_next_48 (lv_at hl 1 rfl) ?_
              obtain ⟨q_50, h_50, h⟩ := bnd_e h
              have pg_50 := preG (av := [.ref (ad 4), .int t_32.2]) hK hw.1 hw.2.1 (NC_keep hN hw.2.2) NC_blind
              refine endI (mc := 0) (ms := 0) (va_runV (As := [.int t_32.2]) (rest := []) ⟨hx, hb, hml, hown, hts⟩ (m4_isAtHand l D ad cy H.size s0 s1 s2 s3 s4 s5 s6 s7 s8 s9 s10 t_32.2 q_50 h_50) (wX10_130 2 hts ⟨Nat.le_of_ble_eq_true rfl, Nat.le_of_ble_eq_true rfl⟩) ⟨pg_50.1, va_recv hK hw.1 (ci := 4) (q0 := 4) rfl eC_4, pg_50.2⟩ rfl rfl hl.1 rfl (lv_room (Nat.le_of_ble_eq_true rfl)) dX10_next_50 ⟨Nat.le_refl _, Nat.le_refl _⟩) hw.2.2 (afr_in hw.2.2) (fun H locs hw => ?_)
              refine lv_if_eq (tgt := 100) hx hb dX10_next_53 (by decide) (fun c_53 => ?_) (fun c_53 => ?_)
              · have h := ite_t c_53 h
                exact hJ_100 t_32.1 t_32.2 H locs ls h hw (lv_sub hl [5, 2, 3, 4, 0, 1] rfl)
              · have h := ite_f c_53 h
                refine lv_aload_n hx hb dX10_next_56 rfl (lv_at hl 5 rfl) ?_
                refine gX10_23 hx hb hts hown hK hw dX10_next_57 ?_
                refine lv_iload hx hb dX10_next_60 (lv_at hl 1 rfl) ?_
                obtain ⟨q_62, h_62, h⟩ := bnd_e h
                have pg_62 := preG (av := [.ref (ad 4), .int t_32.2]) hK hw.1 hw.2.1 (NC_keep hN hw.2.2) NC_blind
                refine endI (mc := 0) (ms := 0) (va_runV (As := [.int t_32.2]) (rest := []) ⟨hx, hb, hml, hown, hts⟩ (m4_kindOf l D ad cy H.size s0 s1 s2 s3 s4 s5 s6 s7 s8 s9 s10 t_32.2 q_62 h_62) (wX10_206 1 hts ⟨Nat.le_of_ble_eq_true rfl, Nat.le_of_ble_eq_true rfl⟩) ⟨pg_62.1, va_recv hK hw.1 (ci := 4) (q0 := 4) rfl eC_4, pg_62.2⟩ rfl rfl hl.1 rfl (lv_room (Nat.le_of_ble_eq_true rfl)) dX10_next_62 ⟨Nat.le_refl _, Nat.le_refl _⟩) hw.2.2 (afr_in hw.2.2) (fun H locs hw => ?_)
                refine lv_iload_n hx hb dX10_next_65 rfl (lv_at hl 2 rfl) ?_
                refine lv_icmp_ne (tgt := 100) hx hb dX10_next_66 (by decide) (fun c_66 => ?_) (fun c_66 => ?_)
                · have h := ite_f c_66 h
                  exact hJ_100 t_32.1 t_32.2 H locs ls h hw (lv_sub hl [5, 2, 3, 4, 0, 1] rfl)
                · have h := ite_t c_66 h
                  refine lv_aload_n hx hb dX10_next_69 rfl (lv_at hl 5 rfl) ?_
                  refine gX10_23 hx hb hts hown hK hw dX10_next_70 ?_
                  refine lv_iload hx hb dX10_next_73 (lv_at hl 1 rfl) ?_
                  obtain ⟨q_75, h_75, h⟩ := bnd_e h
                  have pg_75 := preG (av := [.ref (ad 4), .int t_32.2]) hK hw.1 hw.2.1 (NC_keep hN hw.2.2) NC_blind
                  refine endI (mc := 0) (ms := 0) (va_runV (As := [.int t_32.2]) (rest := []) ⟨hx, hb, hml, hown, hts⟩ (m4_metOf l D ad cy H.size s0 s1 s2 s3 s4 s5 s6 s7 s8 s9 s10 t_32.2 q_75 h_75) (wX10_219 1 hts ⟨Nat.le_of_ble_eq_true rfl, Nat.le_of_ble_eq_true rfl⟩) ⟨pg_75.1, va_recv hK hw.1 (ci := 4) (q0 := 4) rfl eC_4, pg_75.2⟩ rfl rfl hl.1 rfl (lv_room (Nat.le_of_ble_eq_true rfl)) dX10_next_75 ⟨Nat.le_refl _, Nat.le_refl _⟩) hw.2.2 (afr_in hw.2.2) (fun H locs hw => ?_)
                  refine lv_iload_n hx hb dX10_next_78 rfl (lv_at hl 3 rfl) ?_
                  refine lv_iand hx hb dX10_next_79 ?_
                  refine lv_if_ne (tgt := 100) hx hb dX10_next_80 (by decide) (fun c_80 => ?_) (fun c_80 => ?_)
                  · have h := ite_f c_80 h
                    exact hJ_100 t_32.1 t_32.2 H locs ls h hw (lv_sub hl [5, 2, 3, 4, 0, 1] rfl)
                  · have h := ite_t c_80 h
                    refine lv_aload_n hx hb dX10_next_83 rfl (lv_at hl 5 rfl) ?_
                    refine gX10_23 hx hb hts hown hK hw dX10_next_84 ?_
                    refine lv_iload hx hb dX10_next_87 (lv_at hl 1 rfl) ?_
                    obtain ⟨q_89, h_89, h⟩ := bnd_e h
                    have pg_89 := preG (av := [.ref (ad 4), .int t_32.2]) hK hw.1 hw.2.1 (NC_keep hN hw.2.2) NC_blind
                    refine endI (mc := 0) (ms := 0) (va_runV (As := [.int t_32.2]) (rest := []) ⟨hx, hb, hml, hown, hts⟩ (m4_weightOf l D ad cy H.size s0 s1 s2 s3 s4 s5 s6 s7 s8 s9 s10 t_32.2 q_89 h_89) (wX10_104 1 hts ⟨Nat.le_of_ble_eq_true rfl, Nat.le_of_ble_eq_true rfl⟩) ⟨pg_89.1, va_recv hK hw.1 (ci := 4) (q0 := 4) rfl eC_4, pg_89.2⟩ rfl rfl hl.1 rfl (lv_room (Nat.le_of_ble_eq_true rfl)) dX10_next_89 ⟨Nat.le_refl _, Nat.le_refl _⟩) hw.2.2 (afr_in hw.2.2) (fun H locs hw => ?_)
                    refine lv_iload_n hx hb dX10_next_92 rfl (lv_at hl 4 rfl) ?_
                    refine lv_icmp_lt (tgt := 100) hx hb dX10_next_93 (by decide) (fun c_93 => ?_) (fun c_93 => ?_)
                    · have h := ite_t c_93 h
                      exact hJ_100 t_32.1 t_32.2 H locs ls h hw (lv_sub hl [5, 2, 3, 4, 0, 1] rfl)
                    · have h := ite_f c_93 h
                      refine lv_iconst (v := 1) hx hb dX10_next_96 (by decide) ?_
                      refine lv_goto (tgt := 101) hx hb dX10_next_97 (by decide) ?_
                      exact hJ_101 t_32.1 t_32.2 ((1 : Int32)) H locs ls h hw (lv_sub hl [5, 2, 3, 4, 0, 1] rfl)
        exact hL_32 n_32 ((-1 : Int32), (0 : Int32)) H locs ls hn_32 hw (lv_sub hl [1, 0, 3, 4, 5, 2] rfl)
      · have h := ite_t c_21 h
        exact hJ_24  H locs ls h hw (lv_sub hl [] rfl)
theorem dX10_now_0 : decode cX10_now 0 = .ok (.iload_n 1, 1) := by decide +kernel
theorem dX10_now_1 : decode cX10_now 1 = .ok (.invokestatic 73, 3) := by decide +kernel
theorem dX10_now_4 : decode cX10_now 4 = .ok (.ifCond .eq 11, 3) := by decide +kernel
theorem dX10_now_7 : decode cX10_now 7 = .ok (.iload_n 1, 1) := by decide +kernel
theorem dX10_now_8 : decode cX10_now 8 = .ok (.aload_n 0, 1) := by decide +kernel
theorem dX10_now_9 : decode cX10_now 9 = .ok (.getfield 69, 3) := by decide +kernel
theorem dX10_now_12 : decode cX10_now 12 = .ok (.if_icmp .ge 5, 3) := by decide +kernel
theorem dX10_now_15 : decode cX10_now 15 = .ok (.iconst 0, 1) := by decide +kernel
theorem dX10_now_16 : decode cX10_now 16 = .ok (.ireturn, 1) := by decide +kernel
theorem dX10_now_17 : decode cX10_now 17 = .ok (.aload_n 0, 1) := by decide +kernel
theorem dX10_now_18 : decode cX10_now 18 = .ok (.iload_n 1, 1) := by decide +kernel
theorem dX10_now_19 : decode cX10_now 19 = .ok (.putfield 69, 3) := by decide +kernel
theorem dX10_now_22 : decode cX10_now 22 = .ok (.iconst 1, 1) := by decide +kernel
theorem dX10_now_23 : decode cX10_now 23 = .ok (.ireturn, 1) := by decide +kernel
def f10_now_j15 (s10_j15 : OS) : Option (Int32 × OS) := some ((0 : Int32), s10_j15)
def f10_now (a1 : Int32) (s10 : OS) : Option (Int32 × OS) := Option.bind (f10_isDay a1) fun q_1 => if q_1 = 0 then (f10_now_j15 s10) else (if (s10.1 0 9) ≤ a1 then (nm (wI s10 0 9 a1) fun s10_19 => some ((1 : Int32), s10_19)) else (f10_now_j15 s10))
set_option maxHeartbeats 4000000 in
set_option maxRecDepth 100000 in
theorem m10_now (l : Launch) (D : va_G) (ad : Nat → Nat) (cy : Nat → ClassId) (sz : Nat) (s0 s1 s2 s3 s4 s5 s6 s7 s8 s9 s10 : OS) (a1 : Int32) (r : Int32 × OS) (h : f10_now a1 s10 = some r) : Met l yX10_now (wsOf yX10_now cX10_now 2 (some .boolean)) (rmL 2) (va_Pc ([.ref (ad 10), .int a1] : List Value) (PreG D cy (cellsC ad cy s0 s1 s2 s3 s4 s5 s6 s7 s8 s9 s10) sz (NC ad))) (QcI D ad 67 (cellsC ad cy s0 s1 s2 s3 s4 s5 s6 s7 s8 s9 r.2) (r.1) sz) 0 0 (Afr ad 67 sz) := by
  refine metG (own := RX10) (by decide) rfl (Nat.le_of_ble_eq_true rfl) fstC ?_ sz
  intro p e s m below meth c ls C0 hw hl
  obtain ⟨hx, hb, hml, hown, hts, hr, hlk, hK, hN⟩ := C0
  have hl : lv_has ls 2 [(0, .ref (ad 10)), (1, .int a1)] := hl
  generalize hQ : MQ below (QcI D ad 67 (cellsC ad cy s0 s1 s2 s3 s4 s5 s6 s7 s8 s9 r.2) (r.1) s.heap.size) ([.ref (ad 10), .int a1] : List Value).toArray s 0 0 (Afr ad 67 s.heap.size) = Q
  obtain ⟨H, hH⟩ : ∃ H : Heap, H = s.heap := ⟨_, rfl⟩
  obtain ⟨locs, hlc⟩ : ∃ L : List Loc, L = [] := ⟨_, rfl⟩
  have hw : Wd D (cellsC ad cy s0 s1 s2 s3 s4 s5 s6 s7 s8 s9 s10) (Afr ad 67 s.heap.size) s.heap H locs := by rw [hH, hlc]; exact hw
  suffices h0 : W p l e (rmL 2) s m ([.ref (ad 10), .int a1] : List Value).toArray below meth c H locs 0 0 Q (F0 m 0 ls []) by rw [hH, hlc] at h0; exact h0
  clear hH hlc
  unfold f10_now at h
  have hJ_15 : ∀ (s10_j15 : OS) (H : Heap) (locs : List Loc) (ls : Array Slot), f10_now_j15 s10_j15 = some r → Wd D (cellsC ad cy s0 s1 s2 s3 s4 s5 s6 s7 s8 s9 s10_j15) (Afr ad 67 s.heap.size) s.heap H locs → lv_has ls 2 [] → W p l e (rmL 2) s m ([.ref (ad 10), .int a1] : List Value).toArray below meth c H locs 0 0 Q (F0 m 15 ls []) := by
    intro s10_j15 H locs ls h hw hl
    unfold f10_now_j15 at h
    refine lv_iconst (v := 0) hx hb dX10_now_15 (by decide) ?_
    have h := Option.some.inj h
    subst h
    rw [← hQ]
    exact retI hx hb hr hlk hw (narB (v := (0 : Int32)) (by decide)) dX10_now_16
  refine lv_iload_n hx hb dX10_now_0 rfl (lv_at hl 1 rfl) ?_
  obtain ⟨q_1, h_1, h⟩ := bnd_e h
  have pg_1 := preG (av := [.int a1]) hK hw.1 hw.2.1 (NC_keep hN hw.2.2) NC_blind
  refine endI (mc := 0) (ms := 0) (va_runS (As := [.int a1]) (rest := []) ⟨hx, hb, hml, hown, hts⟩ (m10_isDay l D ad cy H.size s0 s1 s2 s3 s4 s5 s6 s7 s8 s9 s10 a1 q_1 h_1) (wX10_73 1 hts ⟨Nat.le_of_ble_eq_true rfl, Nat.le_of_ble_eq_true rfl⟩) pg_1 rfl rfl hl.1 rfl (lv_room (Nat.le_of_ble_eq_true rfl)) dX10_now_1 ⟨Nat.le_refl _, Nat.le_refl _⟩) hw.2.2 (afr_in hw.2.2) (fun H locs hw => ?_)
  refine lv_if_eq (tgt := 15) hx hb dX10_now_4 (by decide) (fun c_4 => ?_) (fun c_4 => ?_)
  · have h := ite_t c_4 h
    exact hJ_15 s10 H locs ls h hw (lv_sub hl [] rfl)
  · have h := ite_f c_4 h
    refine lv_iload_n hx hb dX10_now_7 rfl (lv_at hl 1 rfl) ?_
    refine lv_aload_n hx hb dX10_now_8 rfl (lv_at hl 0 rfl) ?_
    refine gX10_69 hx hb hts hown hK hw dX10_now_9 ?_
    refine lv_icmp_ge (tgt := 17) hx hb dX10_now_12 (by decide) (fun c_12 => ?_) (fun c_12 => ?_)
    · have h := ite_t c_12 h
      refine lv_aload_n hx hb dX10_now_17 rfl (lv_at hl 0 rfl) ?_
      refine lv_iload_n hx hb dX10_now_18 rfl (lv_at hl 1 rfl) ?_
      obtain ⟨s10_19, e_19, h⟩ := nam_e h
      refine pX10_69 hx hb hts hown hK hw e_19 dX10_now_19 (fun H locs hw => ?_)
      refine lv_iconst (v := 1) hx hb dX10_now_22 (by decide) ?_
      have h := Option.some.inj h
      subst h
      rw [← hQ]
      exact retI hx hb hr hlk hw (narB (v := (1 : Int32)) (by decide)) dX10_now_23
    · have h := ite_f c_12 h
      exact hJ_15 s10 H locs ls h hw (lv_sub hl [] rfl)
theorem dX10_open_0 : decode cX10_open 0 = .ok (.aload_n 0, 1) := by decide +kernel
theorem dX10_open_1 : decode cX10_open 1 = .ok (.getfield 23, 3) := by decide +kernel
theorem dX10_open_4 : decode cX10_open 4 = .ok (.iload_n 1, 1) := by decide +kernel
theorem dX10_open_5 : decode cX10_open 5 = .ok (.invokevirtual 98, 3) := by decide +kernel
theorem dX10_open_8 : decode cX10_open 8 = .ok (.ifCond .eq 14, 3) := by decide +kernel
theorem dX10_open_11 : decode cX10_open 11 = .ok (.aload_n 0, 1) := by decide +kernel
theorem dX10_open_12 : decode cX10_open 12 = .ok (.getfield 23, 3) := by decide +kernel
theorem dX10_open_15 : decode cX10_open 15 = .ok (.iload_n 1, 1) := by decide +kernel
theorem dX10_open_16 : decode cX10_open 16 = .ok (.invokevirtual 101, 3) := by decide +kernel
theorem dX10_open_19 : decode cX10_open 19 = .ok (.ifCond .ne 5, 3) := by decide +kernel
theorem dX10_open_22 : decode cX10_open 22 = .ok (.iconst 0, 1) := by decide +kernel
theorem dX10_open_23 : decode cX10_open 23 = .ok (.ireturn, 1) := by decide +kernel
theorem dX10_open_24 : decode cX10_open 24 = .ok (.aload_n 0, 1) := by decide +kernel
theorem dX10_open_25 : decode cX10_open 25 = .ok (.getfield 23, 3) := by decide +kernel
theorem dX10_open_28 : decode cX10_open 28 = .ok (.iload_n 1, 1) := by decide +kernel
theorem dX10_open_29 : decode cX10_open 29 = .ok (.invokevirtual 112, 3) := by decide +kernel
theorem dX10_open_32 : decode cX10_open 32 = .ok (.aload_n 0, 1) := by decide +kernel
theorem dX10_open_33 : decode cX10_open 33 = .ok (.getfield 23, 3) := by decide +kernel
theorem dX10_open_36 : decode cX10_open 36 = .ok (.iload_n 1, 1) := by decide +kernel
theorem dX10_open_37 : decode cX10_open 37 = .ok (.invokevirtual 116, 3) := by decide +kernel
theorem dX10_open_40 : decode cX10_open 40 = .ok (.istore_n 2, 1) := by decide +kernel
theorem dX10_open_41 : decode cX10_open 41 = .ok (.aload_n 0, 1) := by decide +kernel
theorem dX10_open_42 : decode cX10_open 42 = .ok (.getfield 23, 3) := by decide +kernel
theorem dX10_open_45 : decode cX10_open 45 = .ok (.iload_n 1, 1) := by decide +kernel
theorem dX10_open_46 : decode cX10_open 46 = .ok (.aload_n 0, 1) := by decide +kernel
theorem dX10_open_47 : decode cX10_open 47 = .ok (.getfield 23, 3) := by decide +kernel
theorem dX10_open_50 : decode cX10_open 50 = .ok (.iload_n 1, 1) := by decide +kernel
theorem dX10_open_51 : decode cX10_open 51 = .ok (.invokevirtual 104, 3) := by decide +kernel
theorem dX10_open_54 : decode cX10_open 54 = .ok (.aload_n 0, 1) := by decide +kernel
theorem dX10_open_55 : decode cX10_open 55 = .ok (.iload_n 2, 1) := by decide +kernel
theorem dX10_open_56 : decode cX10_open 56 = .ok (.invokevirtual 119, 3) := by decide +kernel
theorem dX10_open_59 : decode cX10_open 59 = .ok (.iload_n 2, 1) := by decide +kernel
theorem dX10_open_60 : decode cX10_open 60 = .ok (.aload_n 0, 1) := by decide +kernel
theorem dX10_open_61 : decode cX10_open 61 = .ok (.getfield 69, 3) := by decide +kernel
theorem dX10_open_64 : decode cX10_open 64 = .ok (.invokevirtual 108, 3) := by decide +kernel
theorem dX10_open_67 : decode cX10_open 67 = .ok (.iconst 1, 1) := by decide +kernel
theorem dX10_open_68 : decode cX10_open 68 = .ok (.ireturn, 1) := by decide +kernel
def f10_open_j22 (s1_j22 : OS) (s4_j22 : OS) (s10_j22 : OS) : Option (Int32 × OS × OS) := some ((0 : Int32), s1_j22, s4_j22)
def f10_open (a1 : Int32) (s1 : OS) (s4 : OS) (s10 : OS) : Option (Int32 × OS × OS) := Option.bind (f4_lies a1 s4) fun q_5 => if q_5 = 0 then (f10_open_j22 s1 s4 s10) else (Option.bind (f4_isSealed a1 s4) fun q_16 => if q_16 = 0 then (f10_open_j22 s1 s4 s10) else (Option.bind (f4_unseal a1 s4) fun q_29 => Option.bind (f4_placeOf a1 q_29) fun q_37 => Option.bind (f4_weightOf a1 q_29) fun q_51 => Option.bind (f10_gasOf q_37 s10) fun q_56 => Option.bind (f4_change a1 q_51 q_56 q_37 ((s10.1 0 9)) s1 q_29) fun q_64 => some ((1 : Int32), q_64.1, q_64.2)))
set_option maxHeartbeats 4000000 in
set_option maxRecDepth 100000 in
theorem m10_open (l : Launch) (D : va_G) (ad : Nat → Nat) (cy : Nat → ClassId) (sz : Nat) (s0 s1 s2 s3 s4 s5 s6 s7 s8 s9 s10 : OS) (a1 : Int32) (r : Int32 × OS × OS) (h : f10_open a1 s1 s4 s10 = some r) : Met l yX10_open (wsOf yX10_open cX10_open 3 (some .boolean)) (rmL 3) (va_Pc ([.ref (ad 10), .int a1] : List Value) (PreG D cy (cellsC ad cy s0 s1 s2 s3 s4 s5 s6 s7 s8 s9 s10) sz (NC ad))) (QcI D ad 67 (cellsC ad cy s0 r.2.1 s2 s3 r.2.2 s5 s6 s7 s8 s9 s10) (r.1) sz) 0 0 (Afr ad 67 sz) := by
  refine metG (own := RX10) (by decide) rfl (Nat.le_of_ble_eq_true rfl) fstC ?_ sz
  intro p e s m below meth c ls C0 hw hl
  obtain ⟨hx, hb, hml, hown, hts, hr, hlk, hK, hN⟩ := C0
  have hl : lv_has ls 3 [(0, .ref (ad 10)), (1, .int a1)] := hl
  generalize hQ : MQ below (QcI D ad 67 (cellsC ad cy s0 r.2.1 s2 s3 r.2.2 s5 s6 s7 s8 s9 s10) (r.1) s.heap.size) ([.ref (ad 10), .int a1] : List Value).toArray s 0 0 (Afr ad 67 s.heap.size) = Q
  obtain ⟨H, hH⟩ : ∃ H : Heap, H = s.heap := ⟨_, rfl⟩
  obtain ⟨locs, hlc⟩ : ∃ L : List Loc, L = [] := ⟨_, rfl⟩
  have hw : Wd D (cellsC ad cy s0 s1 s2 s3 s4 s5 s6 s7 s8 s9 s10) (Afr ad 67 s.heap.size) s.heap H locs := by rw [hH, hlc]; exact hw
  suffices h0 : W p l e (rmL 3) s m ([.ref (ad 10), .int a1] : List Value).toArray below meth c H locs 0 0 Q (F0 m 0 ls []) by rw [hH, hlc] at h0; exact h0
  clear hH hlc
  unfold f10_open at h
  have hJ_22 : ∀ (s1_j22 : OS) (s4_j22 : OS) (H : Heap) (locs : List Loc) (ls : Array Slot), f10_open_j22 s1_j22 s4_j22 s10 = some r → Wd D (cellsC ad cy s0 s1_j22 s2 s3 s4_j22 s5 s6 s7 s8 s9 s10) (Afr ad 67 s.heap.size) s.heap H locs → lv_has ls 3 [] → W p l e (rmL 3) s m ([.ref (ad 10), .int a1] : List Value).toArray below meth c H locs 0 0 Q (F0 m 22 ls []) := by
    intro s1_j22 s4_j22 H locs ls h hw hl
    unfold f10_open_j22 at h
    refine lv_iconst (v := 0) hx hb dX10_open_22 (by decide) ?_
    have h := Option.some.inj h
    subst h
    rw [← hQ]
    exact retI hx hb hr hlk hw (narB (v := (0 : Int32)) (by decide)) dX10_open_23
  refine lv_aload_n hx hb dX10_open_0 rfl (lv_at hl 0 rfl) ?_
  refine gX10_23 hx hb hts hown hK hw dX10_open_1 ?_
  refine lv_iload_n hx hb dX10_open_4 rfl (lv_at hl 1 rfl) ?_
  obtain ⟨q_5, h_5, h⟩ := bnd_e h
  have pg_5 := preG (av := [.ref (ad 4), .int a1]) hK hw.1 hw.2.1 (NC_keep hN hw.2.2) NC_blind
  refine endI (mc := 0) (ms := 0) (va_runV (As := [.int a1]) (rest := []) ⟨hx, hb, hml, hown, hts⟩ (m4_lies l D ad cy H.size s0 s1 s2 s3 s4 s5 s6 s7 s8 s9 s10 a1 q_5 h_5) (wX10_98 1 hts ⟨Nat.le_of_ble_eq_true rfl, Nat.le_of_ble_eq_true rfl⟩) ⟨pg_5.1, va_recv hK hw.1 (ci := 4) (q0 := 4) rfl eC_4, pg_5.2⟩ rfl rfl hl.1 rfl (lv_room (Nat.le_of_ble_eq_true rfl)) dX10_open_5 ⟨Nat.le_refl _, Nat.le_refl _⟩) hw.2.2 (afr_in hw.2.2) (fun H locs hw => ?_)
  refine lv_if_eq (tgt := 22) hx hb dX10_open_8 (by decide) (fun c_8 => ?_) (fun c_8 => ?_)
  · have h := ite_t c_8 h
    exact hJ_22 s1 s4 H locs ls h hw (lv_sub hl [] rfl)
  · have h := ite_f c_8 h
    refine lv_aload_n hx hb dX10_open_11 rfl (lv_at hl 0 rfl) ?_
    refine gX10_23 hx hb hts hown hK hw dX10_open_12 ?_
    refine lv_iload_n hx hb dX10_open_15 rfl (lv_at hl 1 rfl) ?_
    obtain ⟨q_16, h_16, h⟩ := bnd_e h
    have pg_16 := preG (av := [.ref (ad 4), .int a1]) hK hw.1 hw.2.1 (NC_keep hN hw.2.2) NC_blind
    refine endI (mc := 0) (ms := 0) (va_runV (As := [.int a1]) (rest := []) ⟨hx, hb, hml, hown, hts⟩ (m4_isSealed l D ad cy H.size s0 s1 s2 s3 s4 s5 s6 s7 s8 s9 s10 a1 q_16 h_16) (wX10_101 1 hts ⟨Nat.le_of_ble_eq_true rfl, Nat.le_of_ble_eq_true rfl⟩) ⟨pg_16.1, va_recv hK hw.1 (ci := 4) (q0 := 4) rfl eC_4, pg_16.2⟩ rfl rfl hl.1 rfl (lv_room (Nat.le_of_ble_eq_true rfl)) dX10_open_16 ⟨Nat.le_refl _, Nat.le_refl _⟩) hw.2.2 (afr_in hw.2.2) (fun H locs hw => ?_)
    refine lv_if_ne (tgt := 24) hx hb dX10_open_19 (by decide) (fun c_19 => ?_) (fun c_19 => ?_)
    · have h := ite_f c_19 h
      refine lv_aload_n hx hb dX10_open_24 rfl (lv_at hl 0 rfl) ?_
      refine gX10_23 hx hb hts hown hK hw dX10_open_25 ?_
      refine lv_iload_n hx hb dX10_open_28 rfl (lv_at hl 1 rfl) ?_
      obtain ⟨q_29, h_29, h⟩ := bnd_e h
      have pg_29 := preG (av := [.ref (ad 4), .int a1]) hK hw.1 hw.2.1 (NC_keep hN hw.2.2) NC_blind
      refine endV (mc := 0) (ms := 0) (va_runV (As := [.int a1]) (rest := []) ⟨hx, hb, hml, hown, hts⟩ (m4_unseal l D ad cy H.size s0 s1 s2 s3 s4 s5 s6 s7 s8 s9 s10 a1 q_29 h_29) (wX10_112 1 hts ⟨Nat.le_of_ble_eq_true rfl, Nat.le_of_ble_eq_true rfl⟩) ⟨pg_29.1, va_recv hK hw.1 (ci := 4) (q0 := 4) rfl eC_4, pg_29.2⟩ rfl rfl hl.1 rfl (lv_room (Nat.le_of_ble_eq_true rfl)) dX10_open_29 ⟨Nat.le_refl _, Nat.le_refl _⟩) hw.2.2 (afr_in hw.2.2) (fun H locs hw => ?_)
      refine lv_aload_n hx hb dX10_open_32 rfl (lv_at hl 0 rfl) ?_
      refine gX10_23 hx hb hts hown hK hw dX10_open_33 ?_
      refine lv_iload_n hx hb dX10_open_36 rfl (lv_at hl 1 rfl) ?_
      obtain ⟨q_37, h_37, h⟩ := bnd_e h
      have pg_37 := preG (av := [.ref (ad 4), .int a1]) hK hw.1 hw.2.1 (NC_keep hN hw.2.2) NC_blind
      refine endI (mc := 0) (ms := 0) (va_runV (As := [.int a1]) (rest := []) ⟨hx, hb, hml, hown, hts⟩ (m4_placeOf l D ad cy H.size s0 s1 s2 s3 q_29 s5 s6 s7 s8 s9 s10 a1 q_37 h_37) (wX10_116 1 hts ⟨Nat.le_of_ble_eq_true rfl, Nat.le_of_ble_eq_true rfl⟩) ⟨pg_37.1, va_recv hK hw.1 (ci := 4) (q0 := 4) rfl eC_4, pg_37.2⟩ rfl rfl hl.1 rfl (lv_room (Nat.le_of_ble_eq_true rfl)) dX10_open_37 ⟨Nat.le_refl _, Nat.le_refl _⟩) hw.2.2 (afr_in hw.2.2) (fun H locs hw => ?_)
      refine lv_istore_n (lv' := [(2, .int q_37), (0, .ref (ad 10)), (1, .int a1)]) hx hb dX10_open_40 rfl hl (by decide) rfl (fun ls hl => ?_)
      refine lv_aload_n hx hb dX10_open_41 rfl (lv_at hl 1 rfl) ?_
      refine gX10_23 hx hb hts hown hK hw dX10_open_42 ?_
      refine lv_iload_n hx hb dX10_open_45 rfl (lv_at hl 2 rfl) ?_
      refine lv_aload_n hx hb dX10_open_46 rfl (lv_at hl 1 rfl) ?_
      refine gX10_23 hx hb hts hown hK hw dX10_open_47 ?_
      refine lv_iload_n hx hb dX10_open_50 rfl (lv_at hl 2 rfl) ?_
      obtain ⟨q_51, h_51, h⟩ := bnd_e h
      have pg_51 := preG (av := [.ref (ad 4), .int a1]) hK hw.1 hw.2.1 (NC_keep hN hw.2.2) NC_blind
      refine endI (mc := 0) (ms := 0) (va_runV (As := [.int a1]) (rest := [.int a1, .ref (ad 4)]) ⟨hx, hb, hml, hown, hts⟩ (m4_weightOf l D ad cy H.size s0 s1 s2 s3 q_29 s5 s6 s7 s8 s9 s10 a1 q_51 h_51) (wX10_104 1 hts ⟨Nat.le_of_ble_eq_true rfl, Nat.le_of_ble_eq_true rfl⟩) ⟨pg_51.1, va_recv hK hw.1 (ci := 4) (q0 := 4) rfl eC_4, pg_51.2⟩ rfl rfl hl.1 rfl (lv_room (Nat.le_of_ble_eq_true rfl)) dX10_open_51 ⟨Nat.le_refl _, Nat.le_refl _⟩) hw.2.2 (afr_in hw.2.2) (fun H locs hw => ?_)
      refine lv_aload_n hx hb dX10_open_54 rfl (lv_at hl 1 rfl) ?_
      refine lv_iload_n hx hb dX10_open_55 rfl (lv_at hl 0 rfl) ?_
      obtain ⟨q_56, h_56, h⟩ := bnd_e h
      have pg_56 := preG (av := [.ref (ad 10), .int q_37]) hK hw.1 hw.2.1 (NC_keep hN hw.2.2) NC_blind
      refine endI (mc := 0) (ms := 0) (va_runV (As := [.int q_37]) (rest := [.int q_51, .int a1, .ref (ad 4)]) ⟨hx, hb, hml, hown, hts⟩ (m10_gasOf l D ad cy H.size s0 s1 s2 s3 q_29 s5 s6 s7 s8 s9 s10 q_37 q_56 h_56) (wX10_119 2 hts ⟨Nat.le_of_ble_eq_true rfl, Nat.le_of_ble_eq_true rfl⟩) ⟨pg_56.1, va_recv hK hw.1 (ci := 10) (q0 := 10) rfl eC_10, pg_56.2⟩ rfl rfl hl.1 rfl (lv_room (Nat.le_of_ble_eq_true rfl)) dX10_open_56 ⟨Nat.le_refl _, Nat.le_refl _⟩) hw.2.2 (afr_in hw.2.2) (fun H locs hw => ?_)
      refine lv_iload_n hx hb dX10_open_59 rfl (lv_at hl 0 rfl) ?_
      refine lv_aload_n hx hb dX10_open_60 rfl (lv_at hl 1 rfl) ?_
      refine gX10_69 hx hb hts hown hK hw dX10_open_61 ?_
      obtain ⟨q_64, h_64, h⟩ := bnd_e h
      have pg_64 := preG (av := [.ref (ad 4), .int a1, .int q_51, .int q_56, .int q_37, .int ((s10.1 0 9))]) hK hw.1 hw.2.1 (NC_keep hN hw.2.2) NC_blind
      refine endV (mc := 0) (ms := 0) (va_runV (As := [.int a1, .int q_51, .int q_56, .int q_37, .int ((s10.1 0 9))]) (rest := []) ⟨hx, hb, hml, hown, hts⟩ (m4_change l D ad cy H.size s0 s1 s2 s3 q_29 s5 s6 s7 s8 s9 s10 a1 q_51 q_56 q_37 ((s10.1 0 9)) q_64 h_64) (wX10_108 1 hts ⟨Nat.le_of_ble_eq_true rfl, Nat.le_of_ble_eq_true rfl⟩) ⟨pg_64.1, va_recv hK hw.1 (ci := 4) (q0 := 4) rfl eC_4, pg_64.2⟩ rfl rfl hl.1 rfl (lv_room (Nat.le_of_ble_eq_true rfl)) dX10_open_64 ⟨Nat.le_refl _, Nat.le_refl _⟩) hw.2.2 (afr_in hw.2.2) (fun H locs hw => ?_)
      refine lv_iconst (v := 1) hx hb dX10_open_67 (by decide) ?_
      have h := Option.some.inj h
      subst h
      rw [← hQ]
      exact retI hx hb hr hlk hw (narB (v := (1 : Int32)) (by decide)) dX10_open_68
    · have h := ite_t c_19 h
      exact hJ_22 s1 s4 H locs ls h hw (lv_sub hl [] rfl)
theorem dX10_piece_0 : decode cX10_piece 0 = .ok (.aload_n 0, 1) := by decide +kernel
theorem dX10_piece_1 : decode cX10_piece 1 = .ok (.getfield 23, 3) := by decide +kernel
theorem dX10_piece_4 : decode cX10_piece 4 = .ok (.iload_n 1, 1) := by decide +kernel
theorem dX10_piece_5 : decode cX10_piece 5 = .ok (.iload_n 2, 1) := by decide +kernel
theorem dX10_piece_6 : decode cX10_piece 6 = .ok (.invokevirtual 256, 3) := by decide +kernel
theorem dX10_piece_9 : decode cX10_piece 9 = .ok (.ireturn, 1) := by decide +kernel
def f10_piece (a1 : Int32) (a2 : Int32) (s4 : OS) : Option (Int32) := Option.bind (f4_tell a1 a2 s4) fun q_6 => some q_6
set_option maxHeartbeats 4000000 in
set_option maxRecDepth 100000 in
theorem m10_piece (l : Launch) (D : va_G) (ad : Nat → Nat) (cy : Nat → ClassId) (sz : Nat) (s0 s1 s2 s3 s4 s5 s6 s7 s8 s9 s10 : OS) (a1 : Int32) (a2 : Int32) (r : Int32) (h : f10_piece a1 a2 s4 = some r) : Met l yX10_piece (wsOf yX10_piece cX10_piece 3 (some .int)) (rmL 2) (va_Pc ([.ref (ad 10), .int a1, .int a2] : List Value) (PreG D cy (cellsC ad cy s0 s1 s2 s3 s4 s5 s6 s7 s8 s9 s10) sz (NC ad))) (QcI D ad 67 (cellsC ad cy s0 s1 s2 s3 s4 s5 s6 s7 s8 s9 s10) (r) sz) 0 0 (Afr ad 67 sz) := by
  refine metG (own := RX10) (by decide) rfl (Nat.le_of_ble_eq_true rfl) fstC ?_ sz
  intro p e s m below meth c ls C0 hw hl
  obtain ⟨hx, hb, hml, hown, hts, hr, hlk, hK, hN⟩ := C0
  have hl : lv_has ls 3 [(0, .ref (ad 10)), (1, .int a1), (2, .int a2)] := hl
  generalize hQ : MQ below (QcI D ad 67 (cellsC ad cy s0 s1 s2 s3 s4 s5 s6 s7 s8 s9 s10) (r) s.heap.size) ([.ref (ad 10), .int a1, .int a2] : List Value).toArray s 0 0 (Afr ad 67 s.heap.size) = Q
  obtain ⟨H, hH⟩ : ∃ H : Heap, H = s.heap := ⟨_, rfl⟩
  obtain ⟨locs, hlc⟩ : ∃ L : List Loc, L = [] := ⟨_, rfl⟩
  have hw : Wd D (cellsC ad cy s0 s1 s2 s3 s4 s5 s6 s7 s8 s9 s10) (Afr ad 67 s.heap.size) s.heap H locs := by rw [hH, hlc]; exact hw
  suffices h0 : W p l e (rmL 2) s m ([.ref (ad 10), .int a1, .int a2] : List Value).toArray below meth c H locs 0 0 Q (F0 m 0 ls []) by rw [hH, hlc] at h0; exact h0
  clear hH hlc
  unfold f10_piece at h
  refine lv_aload_n hx hb dX10_piece_0 rfl (lv_at hl 0 rfl) ?_
  refine gX10_23 hx hb hts hown hK hw dX10_piece_1 ?_
  refine lv_iload_n hx hb dX10_piece_4 rfl (lv_at hl 1 rfl) ?_
  refine lv_iload_n hx hb dX10_piece_5 rfl (lv_at hl 2 rfl) ?_
  obtain ⟨q_6, h_6, h⟩ := bnd_e h
  have pg_6 := preG (av := [.ref (ad 4), .int a1, .int a2]) hK hw.1 hw.2.1 (NC_keep hN hw.2.2) NC_blind
  refine endI (mc := 0) (ms := 0) (va_runV (As := [.int a1, .int a2]) (rest := []) ⟨hx, hb, hml, hown, hts⟩ (m4_tell l D ad cy H.size s0 s1 s2 s3 s4 s5 s6 s7 s8 s9 s10 a1 a2 q_6 h_6) (wX10_256 1 hts ⟨Nat.le_of_ble_eq_true rfl, Nat.le_of_ble_eq_true rfl⟩) ⟨pg_6.1, va_recv hK hw.1 (ci := 4) (q0 := 4) rfl eC_4, pg_6.2⟩ rfl rfl hl.1 rfl (lv_room (Nat.le_of_ble_eq_true rfl)) dX10_piece_6 ⟨Nat.le_refl _, Nat.le_refl _⟩) hw.2.2 (afr_in hw.2.2) (fun H locs hw => ?_)
  have h := Option.some.inj h
  subst h
  rw [← hQ]
  exact retI hx hb hr hlk hw rfl dX10_piece_9
theorem dX10_rules_0 : decode cX10_rules 0 = .ok (.iload_n 1, 1) := by decide +kernel
theorem dX10_rules_1 : decode cX10_rules 1 = .ok (.invokestatic 73, 3) := by decide +kernel
theorem dX10_rules_4 : decode cX10_rules 4 = .ok (.ifCond .eq 26, 3) := by decide +kernel
theorem dX10_rules_7 : decode cX10_rules 7 = .ok (.iload_n 2, 1) := by decide +kernel
theorem dX10_rules_8 : decode cX10_rules 8 = .ok (.invokestatic 73, 3) := by decide +kernel
theorem dX10_rules_11 : decode cX10_rules 11 = .ok (.ifCond .eq 19, 3) := by decide +kernel
theorem dX10_rules_14 : decode cX10_rules 14 = .ok (.iload_n 2, 1) := by decide +kernel
theorem dX10_rules_15 : decode cX10_rules 15 = .ok (.iload_n 1, 1) := by decide +kernel
theorem dX10_rules_16 : decode cX10_rules 16 = .ok (.if_icmp .lt 14, 3) := by decide +kernel
theorem dX10_rules_19 : decode cX10_rules 19 = .ok (.iload_n 3, 1) := by decide +kernel
theorem dX10_rules_20 : decode cX10_rules 20 = .ok (.iconst 1, 1) := by decide +kernel
theorem dX10_rules_21 : decode cX10_rules 21 = .ok (.sipush 160, 3) := by decide +kernel
theorem dX10_rules_24 : decode cX10_rules 24 = .ok (.invokestatic 86, 3) := by decide +kernel
theorem dX10_rules_27 : decode cX10_rules 27 = .ok (.ifCond .ne 5, 3) := by decide +kernel
theorem dX10_rules_30 : decode cX10_rules 30 = .ok (.iconst (-1), 1) := by decide +kernel
theorem dX10_rules_31 : decode cX10_rules 31 = .ok (.ireturn, 1) := by decide +kernel
theorem dX10_rules_32 : decode cX10_rules 32 = .ok (.aload_n 0, 1) := by decide +kernel
theorem dX10_rules_33 : decode cX10_rules 33 = .ok (.getfield 37, 3) := by decide +kernel
theorem dX10_rules_36 : decode cX10_rules 36 = .ok (.invokevirtual 161, 3) := by decide +kernel
theorem dX10_rules_39 : decode cX10_rules 39 = .ok (.ifCond .eq 14, 3) := by decide +kernel
theorem dX10_rules_42 : decode cX10_rules 42 = .ok (.aload_n 0, 1) := by decide +kernel
theorem dX10_rules_43 : decode cX10_rules 43 = .ok (.getfield 16, 3) := by decide +kernel
theorem dX10_rules_46 : decode cX10_rules 46 = .ok (.iload_n 3, 1) := by decide +kernel
theorem dX10_rules_47 : decode cX10_rules 47 = .ok (.invokevirtual 165, 3) := by decide +kernel
theorem dX10_rules_50 : decode cX10_rules 50 = .ok (.ifCond .ne 5, 3) := by decide +kernel
theorem dX10_rules_53 : decode cX10_rules 53 = .ok (.iconst (-1), 1) := by decide +kernel
theorem dX10_rules_54 : decode cX10_rules 54 = .ok (.ireturn, 1) := by decide +kernel
theorem dX10_rules_55 : decode cX10_rules 55 = .ok (.aload_n 0, 1) := by decide +kernel
theorem dX10_rules_56 : decode cX10_rules 56 = .ok (.getfield 37, 3) := by decide +kernel
theorem dX10_rules_59 : decode cX10_rules 59 = .ok (.aload_n 0, 1) := by decide +kernel
theorem dX10_rules_60 : decode cX10_rules 60 = .ok (.getfield 16, 3) := by decide +kernel
theorem dX10_rules_63 : decode cX10_rules 63 = .ok (.iload_n 3, 1) := by decide +kernel
theorem dX10_rules_64 : decode cX10_rules 64 = .ok (.iload_n 1, 1) := by decide +kernel
theorem dX10_rules_65 : decode cX10_rules 65 = .ok (.iload_n 2, 1) := by decide +kernel
theorem dX10_rules_66 : decode cX10_rules 66 = .ok (.invokevirtual 168, 3) := by decide +kernel
theorem dX10_rules_69 : decode cX10_rules 69 = .ok (.istore 4, 2) := by decide +kernel
theorem dX10_rules_71 : decode cX10_rules 71 = .ok (.aload_n 0, 1) := by decide +kernel
theorem dX10_rules_72 : decode cX10_rules 72 = .ok (.getfield 16, 3) := by decide +kernel
theorem dX10_rules_75 : decode cX10_rules 75 = .ok (.invokevirtual 140, 3) := by decide +kernel
theorem dX10_rules_78 : decode cX10_rules 78 = .ok (.iload 4, 2) := by decide +kernel
theorem dX10_rules_80 : decode cX10_rules 80 = .ok (.ireturn, 1) := by decide +kernel
noncomputable def f10_rules_j53 (s5_j53 : OS) (s6_j53 : OS) (s8_j53 : OS) : Option (Int32 × OS × OS × OS) := some ((-1 : Int32), s5_j53, s6_j53, s8_j53)
noncomputable def f10_rules_j30 (s5_j30 : OS) (s6_j30 : OS) (s8_j30 : OS) : Option (Int32 × OS × OS × OS) := some ((-1 : Int32), s5_j30, s6_j30, s8_j30)
noncomputable def f10_rules (a1 : Int32) (a2 : Int32) (a3 : Int32) (s5 : OS) (s6 : OS) (s8 : OS) : Option (Int32 × OS × OS × OS) := Option.bind (f10_isDay a1) fun q_1 => if q_1 = 0 then (f10_rules_j30 s5 s6 s8) else (Option.bind (f10_isDay a2) fun q_8 => if q_8 = 0 then (f10_rules_j30 s5 s6 s8) else (if a2 < a1 then (f10_rules_j30 s5 s6 s8) else (Option.bind (f10_isWithin a3 ((1 : Int32)) ((160 : Int32))) fun q_24 => if q_24 = 0 then (f10_rules_j30 s5 s6 s8) else (Option.bind (f5_hasRoom s5) fun q_36 => if q_36 = 0 then (f10_rules_j53 s5 s6 s8) else (Option.bind (f8_hasBytes a3 s8) fun q_47 => if q_47 = 0 then (f10_rules_j53 s5 s6 s8) else (Option.bind (f5_add a3 a1 a2 s5 s6 s8) fun q_66 => Option.bind (f8_wipe s8) fun q_75 => some (q_66.1, q_66.2.1, q_66.2.2, q_75)))))))
set_option maxHeartbeats 4000000 in
set_option maxRecDepth 100000 in
theorem m10_rules (l : Launch) (D : va_G) (ad : Nat → Nat) (cy : Nat → ClassId) (sz : Nat) (s0 s1 s2 s3 s4 s5 s6 s7 s8 s9 s10 : OS) (a1 : Int32) (a2 : Int32) (a3 : Int32) (r : Int32 × OS × OS × OS) (h : f10_rules a1 a2 a3 s5 s6 s8 = some r) : Met l yX10_rules (wsOf yX10_rules cX10_rules 5 (some .int)) (rmL 70) (va_Pc ([.ref (ad 10), .int a1, .int a2, .int a3] : List Value) (PreG D cy (cellsC ad cy s0 s1 s2 s3 s4 s5 s6 s7 s8 s9 s10) sz (NC ad))) (QcI D ad 67 (cellsC ad cy s0 s1 s2 s3 s4 r.2.1 r.2.2.1 s7 r.2.2.2 s9 s10) (r.1) sz) 0 0 (Afr ad 67 sz) := by
  refine metG (own := RX10) (by decide) rfl (Nat.le_of_ble_eq_true rfl) fstC ?_ sz
  intro p e s m below meth c ls C0 hw hl
  obtain ⟨hx, hb, hml, hown, hts, hr, hlk, hK, hN⟩ := C0
  have hl : lv_has ls 5 [(0, .ref (ad 10)), (1, .int a1), (2, .int a2), (3, .int a3)] := hl
  generalize hQ : MQ below (QcI D ad 67 (cellsC ad cy s0 s1 s2 s3 s4 r.2.1 r.2.2.1 s7 r.2.2.2 s9 s10) (r.1) s.heap.size) ([.ref (ad 10), .int a1, .int a2, .int a3] : List Value).toArray s 0 0 (Afr ad 67 s.heap.size) = Q
  obtain ⟨H, hH⟩ : ∃ H : Heap, H = s.heap := ⟨_, rfl⟩
  obtain ⟨locs, hlc⟩ : ∃ L : List Loc, L = [] := ⟨_, rfl⟩
  have hw : Wd D (cellsC ad cy s0 s1 s2 s3 s4 s5 s6 s7 s8 s9 s10) (Afr ad 67 s.heap.size) s.heap H locs := by rw [hH, hlc]; exact hw
  suffices h0 : W p l e (rmL 70) s m ([.ref (ad 10), .int a1, .int a2, .int a3] : List Value).toArray below meth c H locs 0 0 Q (F0 m 0 ls []) by rw [hH, hlc] at h0; exact h0
  clear hH hlc
  unfold f10_rules at h
  have hJ_53 : ∀ (s5_j53 : OS) (s6_j53 : OS) (s8_j53 : OS) (H : Heap) (locs : List Loc) (ls : Array Slot), f10_rules_j53 s5_j53 s6_j53 s8_j53 = some r → Wd D (cellsC ad cy s0 s1 s2 s3 s4 s5_j53 s6_j53 s7 s8_j53 s9 s10) (Afr ad 67 s.heap.size) s.heap H locs → lv_has ls 5 [] → W p l e (rmL 70) s m ([.ref (ad 10), .int a1, .int a2, .int a3] : List Value).toArray below meth c H locs 0 0 Q (F0 m 53 ls []) := by
    intro s5_j53 s6_j53 s8_j53 H locs ls h hw hl
    unfold f10_rules_j53 at h
    refine lv_iconst (v := (-1)) hx hb dX10_rules_53 (by decide) ?_
    have h := Option.some.inj h
    subst h
    rw [← hQ]
    exact retI hx hb hr hlk hw rfl dX10_rules_54
  have hJ_30 : ∀ (s5_j30 : OS) (s6_j30 : OS) (s8_j30 : OS) (H : Heap) (locs : List Loc) (ls : Array Slot), f10_rules_j30 s5_j30 s6_j30 s8_j30 = some r → Wd D (cellsC ad cy s0 s1 s2 s3 s4 s5_j30 s6_j30 s7 s8_j30 s9 s10) (Afr ad 67 s.heap.size) s.heap H locs → lv_has ls 5 [] → W p l e (rmL 70) s m ([.ref (ad 10), .int a1, .int a2, .int a3] : List Value).toArray below meth c H locs 0 0 Q (F0 m 30 ls []) := by
    intro s5_j30 s6_j30 s8_j30 H locs ls h hw hl
    unfold f10_rules_j30 at h
    refine lv_iconst (v := (-1)) hx hb dX10_rules_30 (by decide) ?_
    have h := Option.some.inj h
    subst h
    rw [← hQ]
    exact retI hx hb hr hlk hw rfl dX10_rules_31
  refine lv_iload_n hx hb dX10_rules_0 rfl (lv_at hl 1 rfl) ?_
  obtain ⟨q_1, h_1, h⟩ := bnd_e h
  have pg_1 := preG (av := [.int a1]) hK hw.1 hw.2.1 (NC_keep hN hw.2.2) NC_blind
  refine endI (mc := 0) (ms := 0) (va_runS (As := [.int a1]) (rest := []) ⟨hx, hb, hml, hown, hts⟩ (m10_isDay l D ad cy H.size s0 s1 s2 s3 s4 s5 s6 s7 s8 s9 s10 a1 q_1 h_1) (wX10_73 1 hts ⟨Nat.le_of_ble_eq_true rfl, Nat.le_of_ble_eq_true rfl⟩) pg_1 rfl rfl hl.1 rfl (lv_room (Nat.le_of_ble_eq_true rfl)) dX10_rules_1 ⟨Nat.le_refl _, Nat.le_refl _⟩) hw.2.2 (afr_in hw.2.2) (fun H locs hw => ?_)
  refine lv_if_eq (tgt := 30) hx hb dX10_rules_4 (by decide) (fun c_4 => ?_) (fun c_4 => ?_)
  · have h := ite_t c_4 h
    exact hJ_30 s5 s6 s8 H locs ls h hw (lv_sub hl [] rfl)
  · have h := ite_f c_4 h
    refine lv_iload_n hx hb dX10_rules_7 rfl (lv_at hl 2 rfl) ?_
    obtain ⟨q_8, h_8, h⟩ := bnd_e h
    have pg_8 := preG (av := [.int a2]) hK hw.1 hw.2.1 (NC_keep hN hw.2.2) NC_blind
    refine endI (mc := 0) (ms := 0) (va_runS (As := [.int a2]) (rest := []) ⟨hx, hb, hml, hown, hts⟩ (m10_isDay l D ad cy H.size s0 s1 s2 s3 s4 s5 s6 s7 s8 s9 s10 a2 q_8 h_8) (wX10_73 1 hts ⟨Nat.le_of_ble_eq_true rfl, Nat.le_of_ble_eq_true rfl⟩) pg_8 rfl rfl hl.1 rfl (lv_room (Nat.le_of_ble_eq_true rfl)) dX10_rules_8 ⟨Nat.le_refl _, Nat.le_refl _⟩) hw.2.2 (afr_in hw.2.2) (fun H locs hw => ?_)
    refine lv_if_eq (tgt := 30) hx hb dX10_rules_11 (by decide) (fun c_11 => ?_) (fun c_11 => ?_)
    · have h := ite_t c_11 h
      exact hJ_30 s5 s6 s8 H locs ls h hw (lv_sub hl [] rfl)
    · have h := ite_f c_11 h
      refine lv_iload_n hx hb dX10_rules_14 rfl (lv_at hl 2 rfl) ?_
      refine lv_iload_n hx hb dX10_rules_15 rfl (lv_at hl 1 rfl) ?_
      refine lv_icmp_lt (tgt := 30) hx hb dX10_rules_16 (by decide) (fun c_16 => ?_) (fun c_16 => ?_)
      · have h := ite_t c_16 h
        exact hJ_30 s5 s6 s8 H locs ls h hw (lv_sub hl [] rfl)
      · have h := ite_f c_16 h
        refine lv_iload_n hx hb dX10_rules_19 rfl (lv_at hl 3 rfl) ?_
        refine lv_iconst (v := 1) hx hb dX10_rules_20 (by decide) ?_
        refine lv_sipush (v := 160) hx hb dX10_rules_21 (by decide) ?_
        obtain ⟨q_24, h_24, h⟩ := bnd_e h
        have pg_24 := preG (av := [.int a3, .int ((1 : Int32)), .int ((160 : Int32))]) hK hw.1 hw.2.1 (NC_keep hN hw.2.2) NC_blind
        refine endI (mc := 0) (ms := 0) (va_runS (As := [.int a3, .int ((1 : Int32)), .int ((160 : Int32))]) (rest := []) ⟨hx, hb, hml, hown, hts⟩ (m10_isWithin l D ad cy H.size s0 s1 s2 s3 s4 s5 s6 s7 s8 s9 s10 a3 ((1 : Int32)) ((160 : Int32)) q_24 h_24) (wX10_86 0 hts ⟨Nat.le_of_ble_eq_true rfl, Nat.le_of_ble_eq_true rfl⟩) pg_24 rfl rfl hl.1 rfl (lv_room (Nat.le_of_ble_eq_true rfl)) dX10_rules_24 ⟨Nat.le_refl _, Nat.le_refl _⟩) hw.2.2 (afr_in hw.2.2) (fun H locs hw => ?_)
        refine lv_if_ne (tgt := 32) hx hb dX10_rules_27 (by decide) (fun c_27 => ?_) (fun c_27 => ?_)
        · have h := ite_f c_27 h
          refine lv_aload_n hx hb dX10_rules_32 rfl (lv_at hl 0 rfl) ?_
          refine gX10_37 hx hb hts hown hK hw dX10_rules_33 ?_
          obtain ⟨q_36, h_36, h⟩ := bnd_e h
          have pg_36 := preG (av := [.ref (ad 5)]) hK hw.1 hw.2.1 (NC_keep hN hw.2.2) NC_blind
          refine endI (mc := 0) (ms := 0) (va_runV (As := []) (rest := []) ⟨hx, hb, hml, hown, hts⟩ (m5_hasRoom l D ad cy H.size s0 s1 s2 s3 s4 s5 s6 s7 s8 s9 s10 q_36 h_36) (wX10_161 0 hts ⟨Nat.le_of_ble_eq_true rfl, Nat.le_of_ble_eq_true rfl⟩) ⟨pg_36.1, va_recv hK hw.1 (ci := 5) (q0 := 5) rfl eC_5, pg_36.2⟩ rfl rfl hl.1 rfl (lv_room (Nat.le_of_ble_eq_true rfl)) dX10_rules_36 ⟨Nat.le_refl _, Nat.le_refl _⟩) hw.2.2 (afr_in hw.2.2) (fun H locs hw => ?_)
          refine lv_if_eq (tgt := 53) hx hb dX10_rules_39 (by decide) (fun c_39 => ?_) (fun c_39 => ?_)
          · have h := ite_t c_39 h
            exact hJ_53 s5 s6 s8 H locs ls h hw (lv_sub hl [] rfl)
          · have h := ite_f c_39 h
            refine lv_aload_n hx hb dX10_rules_42 rfl (lv_at hl 0 rfl) ?_
            refine gX10_16 hx hb hts hown hK hw dX10_rules_43 ?_
            refine lv_iload_n hx hb dX10_rules_46 rfl (lv_at hl 3 rfl) ?_
            obtain ⟨q_47, h_47, h⟩ := bnd_e h
            have pg_47 := preG (av := [.ref (ad 8), .int a3]) hK hw.1 hw.2.1 (NC_keep hN hw.2.2) NC_blind
            refine endI (mc := 0) (ms := 0) (va_runV (As := [.int a3]) (rest := []) ⟨hx, hb, hml, hown, hts⟩ (m8_hasBytes l D ad cy H.size s0 s1 s2 s3 s4 s5 s6 s7 s8 s9 s10 a3 q_47 h_47) (wX10_165 0 hts ⟨Nat.le_of_ble_eq_true rfl, Nat.le_of_ble_eq_true rfl⟩) ⟨pg_47.1, va_recv hK hw.1 (ci := 8) (q0 := 8) rfl eC_8, pg_47.2⟩ rfl rfl hl.1 rfl (lv_room (Nat.le_of_ble_eq_true rfl)) dX10_rules_47 ⟨Nat.le_refl _, Nat.le_refl _⟩) hw.2.2 (afr_in hw.2.2) (fun H locs hw => ?_)
            refine lv_if_ne (tgt := 55) hx hb dX10_rules_50 (by decide) (fun c_50 => ?_) (fun c_50 => ?_)
            · have h := ite_f c_50 h
              refine lv_aload_n hx hb dX10_rules_55 rfl (lv_at hl 0 rfl) ?_
              refine gX10_37 hx hb hts hown hK hw dX10_rules_56 ?_
              refine lv_aload_n hx hb dX10_rules_59 rfl (lv_at hl 0 rfl) ?_
              refine gX10_16 hx hb hts hown hK hw dX10_rules_60 ?_
              refine lv_iload_n hx hb dX10_rules_63 rfl (lv_at hl 3 rfl) ?_
              refine lv_iload_n hx hb dX10_rules_64 rfl (lv_at hl 1 rfl) ?_
              refine lv_iload_n hx hb dX10_rules_65 rfl (lv_at hl 2 rfl) ?_
              obtain ⟨q_66, h_66, h⟩ := bnd_e h
              have pg_66 := preG (av := [.ref (ad 5), .ref (ad 8), .int a3, .int a1, .int a2]) hK hw.1 hw.2.1 (NC_keep hN hw.2.2) NC_blind
              refine endI (mc := 0) (ms := 0) (va_runV (As := [.ref (ad 8), .int a3, .int a1, .int a2]) (rest := []) ⟨hx, hb, hml, hown, hts⟩ (m5_add l D ad cy H.size s0 s1 s2 s3 s4 s5 s6 s7 s8 s9 s10 a3 a1 a2 q_66 h_66) (wX10_168 69 hts ⟨Nat.le_of_ble_eq_true rfl, Nat.le_of_ble_eq_true rfl⟩) ⟨pg_66.1, va_recv hK hw.1 (ci := 5) (q0 := 5) rfl eC_5, pg_66.2⟩ rfl rfl hl.1 rfl (lv_room (Nat.le_of_ble_eq_true rfl)) dX10_rules_66 ⟨Nat.le_refl _, Nat.le_refl _⟩) hw.2.2 (afr_in hw.2.2) (fun H locs hw => ?_)
              refine lv_istore (lv' := [(4, .int q_66.1), (0, .ref (ad 10)), (1, .int a1), (2, .int a2), (3, .int a3)]) hx hb dX10_rules_69 hl (by decide) rfl (fun ls hl => ?_)
              refine lv_aload_n hx hb dX10_rules_71 rfl (lv_at hl 1 rfl) ?_
              refine gX10_16 hx hb hts hown hK hw dX10_rules_72 ?_
              obtain ⟨q_75, h_75, h⟩ := bnd_e h
              have pg_75 := preG (av := [.ref (ad 8)]) hK hw.1 hw.2.1 (NC_keep hN hw.2.2) NC_blind
              refine endV (mc := 0) (ms := 0) (va_runV (As := []) (rest := []) ⟨hx, hb, hml, hown, hts⟩ (m8_wipe l D ad cy H.size s0 s1 s2 s3 s4 q_66.2.1 q_66.2.2 s7 s8 s9 s10 q_75 h_75) (wX10_140 0 hts ⟨Nat.le_of_ble_eq_true rfl, Nat.le_of_ble_eq_true rfl⟩) ⟨pg_75.1, va_recv hK hw.1 (ci := 8) (q0 := 8) rfl eC_8, pg_75.2⟩ rfl rfl hl.1 rfl (lv_room (Nat.le_of_ble_eq_true rfl)) dX10_rules_75 ⟨Nat.le_refl _, Nat.le_refl _⟩) hw.2.2 (afr_in hw.2.2) (fun H locs hw => ?_)
              refine lv_iload hx hb dX10_rules_78 (lv_at hl 0 rfl) ?_
              have h := Option.some.inj h
              subst h
              rw [← hQ]
              exact retI hx hb hr hlk hw rfl dX10_rules_80
            · have h := ite_t c_50 h
              exact hJ_53 s5 s6 s8 H locs ls h hw (lv_sub hl [] rfl)
        · have h := ite_t c_27 h
          exact hJ_30 s5 s6 s8 H locs ls h hw (lv_sub hl [] rfl)
theorem dX10_sight_0 : decode cX10_sight 0 = .ok (.aload_n 0, 1) := by decide +kernel
theorem dX10_sight_1 : decode cX10_sight 1 = .ok (.getfield 58, 3) := by decide +kernel
theorem dX10_sight_4 : decode cX10_sight 4 = .ok (.iload_n 1, 1) := by decide +kernel
theorem dX10_sight_5 : decode cX10_sight 5 = .ok (.invokevirtual 291, 3) := by decide +kernel
theorem dX10_sight_8 : decode cX10_sight 8 = .ok (.ifCond .eq 20, 3) := by decide +kernel
theorem dX10_sight_11 : decode cX10_sight 11 = .ok (.iload_n 2, 1) := by decide +kernel
theorem dX10_sight_12 : decode cX10_sight 12 = .ok (.invokestatic 280, 3) := by decide +kernel
theorem dX10_sight_15 : decode cX10_sight 15 = .ok (.ifCond .eq 13, 3) := by decide +kernel
theorem dX10_sight_18 : decode cX10_sight 18 = .ok (.aload_n 0, 1) := by decide +kernel
theorem dX10_sight_19 : decode cX10_sight 19 = .ok (.getfield 58, 3) := by decide +kernel
theorem dX10_sight_22 : decode cX10_sight 22 = .ok (.invokevirtual 294, 3) := by decide +kernel
theorem dX10_sight_25 : decode cX10_sight 25 = .ok (.ifCond .ne 5, 3) := by decide +kernel
theorem dX10_sight_28 : decode cX10_sight 28 = .ok (.iconst 0, 1) := by decide +kernel
theorem dX10_sight_29 : decode cX10_sight 29 = .ok (.ireturn, 1) := by decide +kernel
theorem dX10_sight_30 : decode cX10_sight 30 = .ok (.iload_n 3, 1) := by decide +kernel
theorem dX10_sight_31 : decode cX10_sight 31 = .ok (.aload_n 0, 1) := by decide +kernel
theorem dX10_sight_32 : decode cX10_sight 32 = .ok (.getfield 58, 3) := by decide +kernel
theorem dX10_sight_35 : decode cX10_sight 35 = .ok (.iload_n 1, 1) := by decide +kernel
theorem dX10_sight_36 : decode cX10_sight 36 = .ok (.invokevirtual 297, 3) := by decide +kernel
theorem dX10_sight_39 : decode cX10_sight 39 = .ok (.aload_n 0, 1) := by decide +kernel
theorem dX10_sight_40 : decode cX10_sight 40 = .ok (.getfield 69, 3) := by decide +kernel
theorem dX10_sight_43 : decode cX10_sight 43 = .ok (.invokestatic 86, 3) := by decide +kernel
theorem dX10_sight_46 : decode cX10_sight 46 = .ok (.ifCond .ne 5, 3) := by decide +kernel
theorem dX10_sight_49 : decode cX10_sight 49 = .ok (.iconst 0, 1) := by decide +kernel
theorem dX10_sight_50 : decode cX10_sight 50 = .ok (.ireturn, 1) := by decide +kernel
theorem dX10_sight_51 : decode cX10_sight 51 = .ok (.aload_n 0, 1) := by decide +kernel
theorem dX10_sight_52 : decode cX10_sight 52 = .ok (.getfield 58, 3) := by decide +kernel
theorem dX10_sight_55 : decode cX10_sight 55 = .ok (.iload_n 1, 1) := by decide +kernel
theorem dX10_sight_56 : decode cX10_sight 56 = .ok (.iload_n 2, 1) := by decide +kernel
theorem dX10_sight_57 : decode cX10_sight 57 = .ok (.iload_n 3, 1) := by decide +kernel
theorem dX10_sight_58 : decode cX10_sight 58 = .ok (.invokevirtual 300, 3) := by decide +kernel
theorem dX10_sight_61 : decode cX10_sight 61 = .ok (.iconst 1, 1) := by decide +kernel
theorem dX10_sight_62 : decode cX10_sight 62 = .ok (.ireturn, 1) := by decide +kernel
def f10_sight_j28 (s9_j28 : OS) (s10_j28 : OS) : Option (Int32 × OS) := some ((0 : Int32), s9_j28)
def f10_sight (a1 : Int32) (a2 : Int32) (a3 : Int32) (s9 : OS) (s10 : OS) : Option (Int32 × OS) := Option.bind (f9_hasGift a1 s9) fun q_5 => if q_5 = 0 then (f10_sight_j28 s9 s10) else (Option.bind (f10_isPlace a2) fun q_12 => if q_12 = 0 then (f10_sight_j28 s9 s10) else (Option.bind (f9_hasRoomForSight s9) fun q_22 => if q_22 = 0 then (f10_sight_j28 s9 s10) else (Option.bind (f9_givenOn a1 s9) fun q_36 => Option.bind (f10_isWithin a3 q_36 ((s10.1 0 9))) fun q_43 => if q_43 = 0 then (some ((0 : Int32), s9)) else (Option.bind (f9_see a1 a2 a3 s9) fun q_58 => some ((1 : Int32), q_58)))))
set_option maxHeartbeats 4000000 in
set_option maxRecDepth 100000 in
theorem m10_sight (l : Launch) (D : va_G) (ad : Nat → Nat) (cy : Nat → ClassId) (sz : Nat) (s0 s1 s2 s3 s4 s5 s6 s7 s8 s9 s10 : OS) (a1 : Int32) (a2 : Int32) (a3 : Int32) (r : Int32 × OS) (h : f10_sight a1 a2 a3 s9 s10 = some r) : Met l yX10_sight (wsOf yX10_sight cX10_sight 4 (some .boolean)) (rmL 2) (va_Pc ([.ref (ad 10), .int a1, .int a2, .int a3] : List Value) (PreG D cy (cellsC ad cy s0 s1 s2 s3 s4 s5 s6 s7 s8 s9 s10) sz (NC ad))) (QcI D ad 67 (cellsC ad cy s0 s1 s2 s3 s4 s5 s6 s7 s8 r.2 s10) (r.1) sz) 0 0 (Afr ad 67 sz) := by
  refine metG (own := RX10) (by decide) rfl (Nat.le_of_ble_eq_true rfl) fstC ?_ sz
  intro p e s m below meth c ls C0 hw hl
  obtain ⟨hx, hb, hml, hown, hts, hr, hlk, hK, hN⟩ := C0
  have hl : lv_has ls 4 [(0, .ref (ad 10)), (1, .int a1), (2, .int a2), (3, .int a3)] := hl
  generalize hQ : MQ below (QcI D ad 67 (cellsC ad cy s0 s1 s2 s3 s4 s5 s6 s7 s8 r.2 s10) (r.1) s.heap.size) ([.ref (ad 10), .int a1, .int a2, .int a3] : List Value).toArray s 0 0 (Afr ad 67 s.heap.size) = Q
  obtain ⟨H, hH⟩ : ∃ H : Heap, H = s.heap := ⟨_, rfl⟩
  obtain ⟨locs, hlc⟩ : ∃ L : List Loc, L = [] := ⟨_, rfl⟩
  have hw : Wd D (cellsC ad cy s0 s1 s2 s3 s4 s5 s6 s7 s8 s9 s10) (Afr ad 67 s.heap.size) s.heap H locs := by rw [hH, hlc]; exact hw
  suffices h0 : W p l e (rmL 2) s m ([.ref (ad 10), .int a1, .int a2, .int a3] : List Value).toArray below meth c H locs 0 0 Q (F0 m 0 ls []) by rw [hH, hlc] at h0; exact h0
  clear hH hlc
  unfold f10_sight at h
  have hJ_28 : ∀ (s9_j28 : OS) (H : Heap) (locs : List Loc) (ls : Array Slot), f10_sight_j28 s9_j28 s10 = some r → Wd D (cellsC ad cy s0 s1 s2 s3 s4 s5 s6 s7 s8 s9_j28 s10) (Afr ad 67 s.heap.size) s.heap H locs → lv_has ls 4 [] → W p l e (rmL 2) s m ([.ref (ad 10), .int a1, .int a2, .int a3] : List Value).toArray below meth c H locs 0 0 Q (F0 m 28 ls []) := by
    intro s9_j28 H locs ls h hw hl
    unfold f10_sight_j28 at h
    refine lv_iconst (v := 0) hx hb dX10_sight_28 (by decide) ?_
    have h := Option.some.inj h
    subst h
    rw [← hQ]
    exact retI hx hb hr hlk hw (narB (v := (0 : Int32)) (by decide)) dX10_sight_29
  refine lv_aload_n hx hb dX10_sight_0 rfl (lv_at hl 0 rfl) ?_
  refine gX10_58 hx hb hts hown hK hw dX10_sight_1 ?_
  refine lv_iload_n hx hb dX10_sight_4 rfl (lv_at hl 1 rfl) ?_
  obtain ⟨q_5, h_5, h⟩ := bnd_e h
  have pg_5 := preG (av := [.ref (ad 9), .int a1]) hK hw.1 hw.2.1 (NC_keep hN hw.2.2) NC_blind
  refine endI (mc := 0) (ms := 0) (va_runV (As := [.int a1]) (rest := []) ⟨hx, hb, hml, hown, hts⟩ (m9_hasGift l D ad cy H.size s0 s1 s2 s3 s4 s5 s6 s7 s8 s9 s10 a1 q_5 h_5) (wX10_291 0 hts ⟨Nat.le_of_ble_eq_true rfl, Nat.le_of_ble_eq_true rfl⟩) ⟨pg_5.1, va_recv hK hw.1 (ci := 9) (q0 := 9) rfl eC_9, pg_5.2⟩ rfl rfl hl.1 rfl (lv_room (Nat.le_of_ble_eq_true rfl)) dX10_sight_5 ⟨Nat.le_refl _, Nat.le_refl _⟩) hw.2.2 (afr_in hw.2.2) (fun H locs hw => ?_)
  refine lv_if_eq (tgt := 28) hx hb dX10_sight_8 (by decide) (fun c_8 => ?_) (fun c_8 => ?_)
  · have h := ite_t c_8 h
    exact hJ_28 s9 H locs ls h hw (lv_sub hl [] rfl)
  · have h := ite_f c_8 h
    refine lv_iload_n hx hb dX10_sight_11 rfl (lv_at hl 2 rfl) ?_
    obtain ⟨q_12, h_12, h⟩ := bnd_e h
    have pg_12 := preG (av := [.int a2]) hK hw.1 hw.2.1 (NC_keep hN hw.2.2) NC_blind
    refine endI (mc := 0) (ms := 0) (va_runS (As := [.int a2]) (rest := []) ⟨hx, hb, hml, hown, hts⟩ (m10_isPlace l D ad cy H.size s0 s1 s2 s3 s4 s5 s6 s7 s8 s9 s10 a2 q_12 h_12) (wX10_280 1 hts ⟨Nat.le_of_ble_eq_true rfl, Nat.le_of_ble_eq_true rfl⟩) pg_12 rfl rfl hl.1 rfl (lv_room (Nat.le_of_ble_eq_true rfl)) dX10_sight_12 ⟨Nat.le_refl _, Nat.le_refl _⟩) hw.2.2 (afr_in hw.2.2) (fun H locs hw => ?_)
    refine lv_if_eq (tgt := 28) hx hb dX10_sight_15 (by decide) (fun c_15 => ?_) (fun c_15 => ?_)
    · have h := ite_t c_15 h
      exact hJ_28 s9 H locs ls h hw (lv_sub hl [] rfl)
    · have h := ite_f c_15 h
      refine lv_aload_n hx hb dX10_sight_18 rfl (lv_at hl 0 rfl) ?_
      refine gX10_58 hx hb hts hown hK hw dX10_sight_19 ?_
      obtain ⟨q_22, h_22, h⟩ := bnd_e h
      have pg_22 := preG (av := [.ref (ad 9)]) hK hw.1 hw.2.1 (NC_keep hN hw.2.2) NC_blind
      refine endI (mc := 0) (ms := 0) (va_runV (As := []) (rest := []) ⟨hx, hb, hml, hown, hts⟩ (m9_hasRoomForSight l D ad cy H.size s0 s1 s2 s3 s4 s5 s6 s7 s8 s9 s10 q_22 h_22) (wX10_294 1 hts ⟨Nat.le_of_ble_eq_true rfl, Nat.le_of_ble_eq_true rfl⟩) ⟨pg_22.1, va_recv hK hw.1 (ci := 9) (q0 := 9) rfl eC_9, pg_22.2⟩ rfl rfl hl.1 rfl (lv_room (Nat.le_of_ble_eq_true rfl)) dX10_sight_22 ⟨Nat.le_refl _, Nat.le_refl _⟩) hw.2.2 (afr_in hw.2.2) (fun H locs hw => ?_)
      refine lv_if_ne (tgt := 30) hx hb dX10_sight_25 (by decide) (fun c_25 => ?_) (fun c_25 => ?_)
      · have h := ite_f c_25 h
        refine lv_iload_n hx hb dX10_sight_30 rfl (lv_at hl 3 rfl) ?_
        refine lv_aload_n hx hb dX10_sight_31 rfl (lv_at hl 0 rfl) ?_
        refine gX10_58 hx hb hts hown hK hw dX10_sight_32 ?_
        refine lv_iload_n hx hb dX10_sight_35 rfl (lv_at hl 1 rfl) ?_
        obtain ⟨q_36, h_36, h⟩ := bnd_e h
        have pg_36 := preG (av := [.ref (ad 9), .int a1]) hK hw.1 hw.2.1 (NC_keep hN hw.2.2) NC_blind
        refine endI (mc := 0) (ms := 0) (va_runV (As := [.int a1]) (rest := [.int a3]) ⟨hx, hb, hml, hown, hts⟩ (m9_givenOn l D ad cy H.size s0 s1 s2 s3 s4 s5 s6 s7 s8 s9 s10 a1 q_36 h_36) (wX10_297 1 hts ⟨Nat.le_of_ble_eq_true rfl, Nat.le_of_ble_eq_true rfl⟩) ⟨pg_36.1, va_recv hK hw.1 (ci := 9) (q0 := 9) rfl eC_9, pg_36.2⟩ rfl rfl hl.1 rfl (lv_room (Nat.le_of_ble_eq_true rfl)) dX10_sight_36 ⟨Nat.le_refl _, Nat.le_refl _⟩) hw.2.2 (afr_in hw.2.2) (fun H locs hw => ?_)
        refine lv_aload_n hx hb dX10_sight_39 rfl (lv_at hl 0 rfl) ?_
        refine gX10_69 hx hb hts hown hK hw dX10_sight_40 ?_
        obtain ⟨q_43, h_43, h⟩ := bnd_e h
        have pg_43 := preG (av := [.int a3, .int q_36, .int ((s10.1 0 9))]) hK hw.1 hw.2.1 (NC_keep hN hw.2.2) NC_blind
        refine endI (mc := 0) (ms := 0) (va_runS (As := [.int a3, .int q_36, .int ((s10.1 0 9))]) (rest := []) ⟨hx, hb, hml, hown, hts⟩ (m10_isWithin l D ad cy H.size s0 s1 s2 s3 s4 s5 s6 s7 s8 s9 s10 a3 q_36 ((s10.1 0 9)) q_43 h_43) (wX10_86 0 hts ⟨Nat.le_of_ble_eq_true rfl, Nat.le_of_ble_eq_true rfl⟩) pg_43 rfl rfl hl.1 rfl (lv_room (Nat.le_of_ble_eq_true rfl)) dX10_sight_43 ⟨Nat.le_refl _, Nat.le_refl _⟩) hw.2.2 (afr_in hw.2.2) (fun H locs hw => ?_)
        refine lv_if_ne (tgt := 51) hx hb dX10_sight_46 (by decide) (fun c_46 => ?_) (fun c_46 => ?_)
        · have h := ite_f c_46 h
          refine lv_aload_n hx hb dX10_sight_51 rfl (lv_at hl 0 rfl) ?_
          refine gX10_58 hx hb hts hown hK hw dX10_sight_52 ?_
          refine lv_iload_n hx hb dX10_sight_55 rfl (lv_at hl 1 rfl) ?_
          refine lv_iload_n hx hb dX10_sight_56 rfl (lv_at hl 2 rfl) ?_
          refine lv_iload_n hx hb dX10_sight_57 rfl (lv_at hl 3 rfl) ?_
          obtain ⟨q_58, h_58, h⟩ := bnd_e h
          have pg_58 := preG (av := [.ref (ad 9), .int a1, .int a2, .int a3]) hK hw.1 hw.2.1 (NC_keep hN hw.2.2) NC_blind
          refine endV (mc := 0) (ms := 0) (va_runV (As := [.int a1, .int a2, .int a3]) (rest := []) ⟨hx, hb, hml, hown, hts⟩ (m9_see l D ad cy H.size s0 s1 s2 s3 s4 s5 s6 s7 s8 s9 s10 a1 a2 a3 q_58 h_58) (wX10_300 0 hts ⟨Nat.le_of_ble_eq_true rfl, Nat.le_of_ble_eq_true rfl⟩) ⟨pg_58.1, va_recv hK hw.1 (ci := 9) (q0 := 9) rfl eC_9, pg_58.2⟩ rfl rfl hl.1 rfl (lv_room (Nat.le_of_ble_eq_true rfl)) dX10_sight_58 ⟨Nat.le_refl _, Nat.le_refl _⟩) hw.2.2 (afr_in hw.2.2) (fun H locs hw => ?_)
          refine lv_iconst (v := 1) hx hb dX10_sight_61 (by decide) ?_
          have h := Option.some.inj h
          subst h
          rw [← hQ]
          exact retI hx hb hr hlk hw (narB (v := (1 : Int32)) (by decide)) dX10_sight_62
        · have h := ite_t c_46 h
          refine lv_iconst (v := 0) hx hb dX10_sight_49 (by decide) ?_
          have h := Option.some.inj h
          subst h
          rw [← hQ]
          exact retI hx hb hr hlk hw (narB (v := (0 : Int32)) (by decide)) dX10_sight_50
      · have h := ite_t c_25 h
        exact hJ_28 s9 H locs ls h hw (lv_sub hl [] rfl)
theorem dX10_stone_0 : decode cX10_stone 0 = .ok (.iload_n 1, 1) := by decide +kernel
theorem dX10_stone_1 : decode cX10_stone 1 = .ok (.invokestatic 83, 3) := by decide +kernel
theorem dX10_stone_4 : decode cX10_stone 4 = .ok (.ifCond .eq 23, 3) := by decide +kernel
theorem dX10_stone_7 : decode cX10_stone 7 = .ok (.iload_n 2, 1) := by decide +kernel
theorem dX10_stone_8 : decode cX10_stone 8 = .ok (.iconst 0, 1) := by decide +kernel
theorem dX10_stone_9 : decode cX10_stone 9 = .ok (.bipush 9, 2) := by decide +kernel
theorem dX10_stone_11 : decode cX10_stone 11 = .ok (.invokestatic 86, 3) := by decide +kernel
theorem dX10_stone_14 : decode cX10_stone 14 = .ok (.ifCond .eq 13, 3) := by decide +kernel
theorem dX10_stone_17 : decode cX10_stone 17 = .ok (.iload_n 3, 1) := by decide +kernel
theorem dX10_stone_18 : decode cX10_stone 18 = .ok (.iconst 1, 1) := by decide +kernel
theorem dX10_stone_19 : decode cX10_stone 19 = .ok (.ldc 90, 2) := by decide +kernel
theorem dX10_stone_21 : decode cX10_stone 21 = .ok (.invokestatic 86, 3) := by decide +kernel
theorem dX10_stone_24 : decode cX10_stone 24 = .ok (.ifCond .ne 5, 3) := by decide +kernel
theorem dX10_stone_27 : decode cX10_stone 27 = .ok (.iconst (-1), 1) := by decide +kernel
theorem dX10_stone_28 : decode cX10_stone 28 = .ok (.ireturn, 1) := by decide +kernel
theorem dX10_stone_29 : decode cX10_stone 29 = .ok (.iload 4, 2) := by decide +kernel
theorem dX10_stone_31 : decode cX10_stone 31 = .ok (.invokestatic 77, 3) := by decide +kernel
theorem dX10_stone_34 : decode cX10_stone 34 = .ok (.ifCond .eq 14, 3) := by decide +kernel
theorem dX10_stone_37 : decode cX10_stone 37 = .ok (.aload_n 0, 1) := by decide +kernel
theorem dX10_stone_38 : decode cX10_stone 38 = .ok (.getfield 23, 3) := by decide +kernel
theorem dX10_stone_41 : decode cX10_stone 41 = .ok (.iconst 1, 1) := by decide +kernel
theorem dX10_stone_42 : decode cX10_stone 42 = .ok (.invokevirtual 91, 3) := by decide +kernel
theorem dX10_stone_45 : decode cX10_stone 45 = .ok (.ifCond .ne 5, 3) := by decide +kernel
theorem dX10_stone_48 : decode cX10_stone 48 = .ok (.iconst (-1), 1) := by decide +kernel
theorem dX10_stone_49 : decode cX10_stone 49 = .ok (.ireturn, 1) := by decide +kernel
theorem dX10_stone_50 : decode cX10_stone 50 = .ok (.aload_n 0, 1) := by decide +kernel
theorem dX10_stone_51 : decode cX10_stone 51 = .ok (.getfield 23, 3) := by decide +kernel
theorem dX10_stone_54 : decode cX10_stone 54 = .ok (.iload_n 1, 1) := by decide +kernel
theorem dX10_stone_55 : decode cX10_stone 55 = .ok (.iload_n 2, 1) := by decide +kernel
theorem dX10_stone_56 : decode cX10_stone 56 = .ok (.iload_n 3, 1) := by decide +kernel
theorem dX10_stone_57 : decode cX10_stone 57 = .ok (.iload 4, 2) := by decide +kernel
theorem dX10_stone_59 : decode cX10_stone 59 = .ok (.iload 5, 2) := by decide +kernel
theorem dX10_stone_61 : decode cX10_stone 61 = .ok (.aload_n 0, 1) := by decide +kernel
theorem dX10_stone_62 : decode cX10_stone 62 = .ok (.getfield 69, 3) := by decide +kernel
theorem dX10_stone_65 : decode cX10_stone 65 = .ok (.invokevirtual 94, 3) := by decide +kernel
theorem dX10_stone_68 : decode cX10_stone 68 = .ok (.ireturn, 1) := by decide +kernel
def f10_stone_j48 (s1_j48 : OS) (s4_j48 : OS) (s10_j48 : OS) : Option (Int32 × OS × OS) := some ((-1 : Int32), s1_j48, s4_j48)
def f10_stone_j27 (s1_j27 : OS) (s4_j27 : OS) (s10_j27 : OS) : Option (Int32 × OS × OS) := some ((-1 : Int32), s1_j27, s4_j27)
def f10_stone (a1 : Int32) (a2 : Int32) (a3 : Int32) (a4 : Int32) (a5 : Int32) (s1 : OS) (s4 : OS) (s10 : OS) : Option (Int32 × OS × OS) := Option.bind (f10_isKind a1) fun q_1 => if q_1 = 0 then (f10_stone_j27 s1 s4 s10) else (Option.bind (f10_isWithin a2 ((0 : Int32)) ((9 : Int32))) fun q_11 => if q_11 = 0 then (f10_stone_j27 s1 s4 s10) else (Option.bind (f10_isWithin a3 ((1 : Int32)) ((1000000000 : Int32))) fun q_21 => if q_21 = 0 then (f10_stone_j27 s1 s4 s10) else (Option.bind (f10_isCabinet a4) fun q_31 => if q_31 = 0 then (f10_stone_j48 s1 s4 s10) else (Option.bind (f4_hasRoomFor ((1 : Int32)) s4) fun q_42 => if q_42 = 0 then (f10_stone_j48 s1 s4 s10) else (Option.bind (f4_bring a1 a2 a3 a4 a5 ((s10.1 0 9)) s1 s4) fun q_65 => some (q_65.1, q_65.2.1, q_65.2.2))))))
set_option maxHeartbeats 4000000 in
set_option maxRecDepth 100000 in
theorem m10_stone (l : Launch) (D : va_G) (ad : Nat → Nat) (cy : Nat → ClassId) (sz : Nat) (s0 s1 s2 s3 s4 s5 s6 s7 s8 s9 s10 : OS) (a1 : Int32) (a2 : Int32) (a3 : Int32) (a4 : Int32) (a5 : Int32) (r : Int32 × OS × OS) (h : f10_stone a1 a2 a3 a4 a5 s1 s4 s10 = some r) : Met l yX10_stone (wsOf yX10_stone cX10_stone 6 (some .int)) (rmL 4) (va_Pc ([.ref (ad 10), .int a1, .int a2, .int a3, .int a4, .int a5] : List Value) (PreG D cy (cellsC ad cy s0 s1 s2 s3 s4 s5 s6 s7 s8 s9 s10) sz (NC ad))) (QcI D ad 67 (cellsC ad cy s0 r.2.1 s2 s3 r.2.2 s5 s6 s7 s8 s9 s10) (r.1) sz) 0 0 (Afr ad 67 sz) := by
  refine metG (own := RX10) (by decide) rfl (Nat.le_of_ble_eq_true rfl) fstC ?_ sz
  intro p e s m below meth c ls C0 hw hl
  obtain ⟨hx, hb, hml, hown, hts, hr, hlk, hK, hN⟩ := C0
  have hl : lv_has ls 6 [(0, .ref (ad 10)), (1, .int a1), (2, .int a2), (3, .int a3), (4, .int a4), (5, .int a5)] := hl
  generalize hQ : MQ below (QcI D ad 67 (cellsC ad cy s0 r.2.1 s2 s3 r.2.2 s5 s6 s7 s8 s9 s10) (r.1) s.heap.size) ([.ref (ad 10), .int a1, .int a2, .int a3, .int a4, .int a5] : List Value).toArray s 0 0 (Afr ad 67 s.heap.size) = Q
  obtain ⟨H, hH⟩ : ∃ H : Heap, H = s.heap := ⟨_, rfl⟩
  obtain ⟨locs, hlc⟩ : ∃ L : List Loc, L = [] := ⟨_, rfl⟩
  have hw : Wd D (cellsC ad cy s0 s1 s2 s3 s4 s5 s6 s7 s8 s9 s10) (Afr ad 67 s.heap.size) s.heap H locs := by rw [hH, hlc]; exact hw
  suffices h0 : W p l e (rmL 4) s m ([.ref (ad 10), .int a1, .int a2, .int a3, .int a4, .int a5] : List Value).toArray below meth c H locs 0 0 Q (F0 m 0 ls []) by rw [hH, hlc] at h0; exact h0
  clear hH hlc
  unfold f10_stone at h
  have hJ_48 : ∀ (s1_j48 : OS) (s4_j48 : OS) (H : Heap) (locs : List Loc) (ls : Array Slot), f10_stone_j48 s1_j48 s4_j48 s10 = some r → Wd D (cellsC ad cy s0 s1_j48 s2 s3 s4_j48 s5 s6 s7 s8 s9 s10) (Afr ad 67 s.heap.size) s.heap H locs → lv_has ls 6 [] → W p l e (rmL 4) s m ([.ref (ad 10), .int a1, .int a2, .int a3, .int a4, .int a5] : List Value).toArray below meth c H locs 0 0 Q (F0 m 48 ls []) := by
    intro s1_j48 s4_j48 H locs ls h hw hl
    unfold f10_stone_j48 at h
    refine lv_iconst (v := (-1)) hx hb dX10_stone_48 (by decide) ?_
    have h := Option.some.inj h
    subst h
    rw [← hQ]
    exact retI hx hb hr hlk hw rfl dX10_stone_49
  have hJ_27 : ∀ (s1_j27 : OS) (s4_j27 : OS) (H : Heap) (locs : List Loc) (ls : Array Slot), f10_stone_j27 s1_j27 s4_j27 s10 = some r → Wd D (cellsC ad cy s0 s1_j27 s2 s3 s4_j27 s5 s6 s7 s8 s9 s10) (Afr ad 67 s.heap.size) s.heap H locs → lv_has ls 6 [] → W p l e (rmL 4) s m ([.ref (ad 10), .int a1, .int a2, .int a3, .int a4, .int a5] : List Value).toArray below meth c H locs 0 0 Q (F0 m 27 ls []) := by
    intro s1_j27 s4_j27 H locs ls h hw hl
    unfold f10_stone_j27 at h
    refine lv_iconst (v := (-1)) hx hb dX10_stone_27 (by decide) ?_
    have h := Option.some.inj h
    subst h
    rw [← hQ]
    exact retI hx hb hr hlk hw rfl dX10_stone_28
  refine lv_iload_n hx hb dX10_stone_0 rfl (lv_at hl 1 rfl) ?_
  obtain ⟨q_1, h_1, h⟩ := bnd_e h
  have pg_1 := preG (av := [.int a1]) hK hw.1 hw.2.1 (NC_keep hN hw.2.2) NC_blind
  refine endI (mc := 0) (ms := 0) (va_runS (As := [.int a1]) (rest := []) ⟨hx, hb, hml, hown, hts⟩ (m10_isKind l D ad cy H.size s0 s1 s2 s3 s4 s5 s6 s7 s8 s9 s10 a1 q_1 h_1) (wX10_83 1 hts ⟨Nat.le_of_ble_eq_true rfl, Nat.le_of_ble_eq_true rfl⟩) pg_1 rfl rfl hl.1 rfl (lv_room (Nat.le_of_ble_eq_true rfl)) dX10_stone_1 ⟨Nat.le_refl _, Nat.le_refl _⟩) hw.2.2 (afr_in hw.2.2) (fun H locs hw => ?_)
  refine lv_if_eq (tgt := 27) hx hb dX10_stone_4 (by decide) (fun c_4 => ?_) (fun c_4 => ?_)
  · have h := ite_t c_4 h
    exact hJ_27 s1 s4 H locs ls h hw (lv_sub hl [] rfl)
  · have h := ite_f c_4 h
    refine lv_iload_n hx hb dX10_stone_7 rfl (lv_at hl 2 rfl) ?_
    refine lv_iconst (v := 0) hx hb dX10_stone_8 (by decide) ?_
    refine lv_bipush (v := 9) hx hb dX10_stone_9 (by decide) ?_
    obtain ⟨q_11, h_11, h⟩ := bnd_e h
    have pg_11 := preG (av := [.int a2, .int ((0 : Int32)), .int ((9 : Int32))]) hK hw.1 hw.2.1 (NC_keep hN hw.2.2) NC_blind
    refine endI (mc := 0) (ms := 0) (va_runS (As := [.int a2, .int ((0 : Int32)), .int ((9 : Int32))]) (rest := []) ⟨hx, hb, hml, hown, hts⟩ (m10_isWithin l D ad cy H.size s0 s1 s2 s3 s4 s5 s6 s7 s8 s9 s10 a2 ((0 : Int32)) ((9 : Int32)) q_11 h_11) (wX10_86 0 hts ⟨Nat.le_of_ble_eq_true rfl, Nat.le_of_ble_eq_true rfl⟩) pg_11 rfl rfl hl.1 rfl (lv_room (Nat.le_of_ble_eq_true rfl)) dX10_stone_11 ⟨Nat.le_refl _, Nat.le_refl _⟩) hw.2.2 (afr_in hw.2.2) (fun H locs hw => ?_)
    refine lv_if_eq (tgt := 27) hx hb dX10_stone_14 (by decide) (fun c_14 => ?_) (fun c_14 => ?_)
    · have h := ite_t c_14 h
      exact hJ_27 s1 s4 H locs ls h hw (lv_sub hl [] rfl)
    · have h := ite_f c_14 h
      refine lv_iload_n hx hb dX10_stone_17 rfl (lv_at hl 3 rfl) ?_
      refine lv_iconst (v := 1) hx hb dX10_stone_18 (by decide) ?_
      refine lv_ldc (v := 1000000000) hx hb hown (hts _ (wd_2 (w := .constant RX10 90 1000000000) (i := 174) (by decide +kernel) rfl)) dX10_stone_19 ?_
      obtain ⟨q_21, h_21, h⟩ := bnd_e h
      have pg_21 := preG (av := [.int a3, .int ((1 : Int32)), .int ((1000000000 : Int32))]) hK hw.1 hw.2.1 (NC_keep hN hw.2.2) NC_blind
      refine endI (mc := 0) (ms := 0) (va_runS (As := [.int a3, .int ((1 : Int32)), .int ((1000000000 : Int32))]) (rest := []) ⟨hx, hb, hml, hown, hts⟩ (m10_isWithin l D ad cy H.size s0 s1 s2 s3 s4 s5 s6 s7 s8 s9 s10 a3 ((1 : Int32)) ((1000000000 : Int32)) q_21 h_21) (wX10_86 0 hts ⟨Nat.le_of_ble_eq_true rfl, Nat.le_of_ble_eq_true rfl⟩) pg_21 rfl rfl hl.1 rfl (lv_room (Nat.le_of_ble_eq_true rfl)) dX10_stone_21 ⟨Nat.le_refl _, Nat.le_refl _⟩) hw.2.2 (afr_in hw.2.2) (fun H locs hw => ?_)
      refine lv_if_ne (tgt := 29) hx hb dX10_stone_24 (by decide) (fun c_24 => ?_) (fun c_24 => ?_)
      · have h := ite_f c_24 h
        refine lv_iload hx hb dX10_stone_29 (lv_at hl 4 rfl) ?_
        obtain ⟨q_31, h_31, h⟩ := bnd_e h
        have pg_31 := preG (av := [.int a4]) hK hw.1 hw.2.1 (NC_keep hN hw.2.2) NC_blind
        refine endI (mc := 0) (ms := 0) (va_runS (As := [.int a4]) (rest := []) ⟨hx, hb, hml, hown, hts⟩ (m10_isCabinet l D ad cy H.size s0 s1 s2 s3 s4 s5 s6 s7 s8 s9 s10 a4 q_31 h_31) (wX10_77 1 hts ⟨Nat.le_of_ble_eq_true rfl, Nat.le_of_ble_eq_true rfl⟩) pg_31 rfl rfl hl.1 rfl (lv_room (Nat.le_of_ble_eq_true rfl)) dX10_stone_31 ⟨Nat.le_refl _, Nat.le_refl _⟩) hw.2.2 (afr_in hw.2.2) (fun H locs hw => ?_)
        refine lv_if_eq (tgt := 48) hx hb dX10_stone_34 (by decide) (fun c_34 => ?_) (fun c_34 => ?_)
        · have h := ite_t c_34 h
          exact hJ_48 s1 s4 H locs ls h hw (lv_sub hl [] rfl)
        · have h := ite_f c_34 h
          refine lv_aload_n hx hb dX10_stone_37 rfl (lv_at hl 0 rfl) ?_
          refine gX10_23 hx hb hts hown hK hw dX10_stone_38 ?_
          refine lv_iconst (v := 1) hx hb dX10_stone_41 (by decide) ?_
          obtain ⟨q_42, h_42, h⟩ := bnd_e h
          have pg_42 := preG (av := [.ref (ad 4), .int ((1 : Int32))]) hK hw.1 hw.2.1 (NC_keep hN hw.2.2) NC_blind
          refine endI (mc := 0) (ms := 0) (va_runV (As := [.int ((1 : Int32))]) (rest := []) ⟨hx, hb, hml, hown, hts⟩ (m4_hasRoomFor l D ad cy H.size s0 s1 s2 s3 s4 s5 s6 s7 s8 s9 s10 ((1 : Int32)) q_42 h_42) (wX10_91 0 hts ⟨Nat.le_of_ble_eq_true rfl, Nat.le_of_ble_eq_true rfl⟩) ⟨pg_42.1, va_recv hK hw.1 (ci := 4) (q0 := 4) rfl eC_4, pg_42.2⟩ rfl rfl hl.1 rfl (lv_room (Nat.le_of_ble_eq_true rfl)) dX10_stone_42 ⟨Nat.le_refl _, Nat.le_refl _⟩) hw.2.2 (afr_in hw.2.2) (fun H locs hw => ?_)
          refine lv_if_ne (tgt := 50) hx hb dX10_stone_45 (by decide) (fun c_45 => ?_) (fun c_45 => ?_)
          · have h := ite_f c_45 h
            refine lv_aload_n hx hb dX10_stone_50 rfl (lv_at hl 0 rfl) ?_
            refine gX10_23 hx hb hts hown hK hw dX10_stone_51 ?_
            refine lv_iload_n hx hb dX10_stone_54 rfl (lv_at hl 1 rfl) ?_
            refine lv_iload_n hx hb dX10_stone_55 rfl (lv_at hl 2 rfl) ?_
            refine lv_iload_n hx hb dX10_stone_56 rfl (lv_at hl 3 rfl) ?_
            refine lv_iload hx hb dX10_stone_57 (lv_at hl 4 rfl) ?_
            refine lv_iload hx hb dX10_stone_59 (lv_at hl 5 rfl) ?_
            refine lv_aload_n hx hb dX10_stone_61 rfl (lv_at hl 0 rfl) ?_
            refine gX10_69 hx hb hts hown hK hw dX10_stone_62 ?_
            obtain ⟨q_65, h_65, h⟩ := bnd_e h
            have pg_65 := preG (av := [.ref (ad 4), .int a1, .int a2, .int a3, .int a4, .int a5, .int ((s10.1 0 9))]) hK hw.1 hw.2.1 (NC_keep hN hw.2.2) NC_blind
            refine endI (mc := 0) (ms := 0) (va_runV (As := [.int a1, .int a2, .int a3, .int a4, .int a5, .int ((s10.1 0 9))]) (rest := []) ⟨hx, hb, hml, hown, hts⟩ (m4_bring l D ad cy H.size s0 s1 s2 s3 s4 s5 s6 s7 s8 s9 s10 a1 a2 a3 a4 a5 ((s10.1 0 9)) q_65 h_65) (wX10_94 3 hts ⟨Nat.le_of_ble_eq_true rfl, Nat.le_of_ble_eq_true rfl⟩) ⟨pg_65.1, va_recv hK hw.1 (ci := 4) (q0 := 4) rfl eC_4, pg_65.2⟩ rfl rfl hl.1 rfl (lv_room (Nat.le_of_ble_eq_true rfl)) dX10_stone_65 ⟨Nat.le_refl _, Nat.le_refl _⟩) hw.2.2 (afr_in hw.2.2) (fun H locs hw => ?_)
            have h := Option.some.inj h
            subst h
            rw [← hQ]
            exact retI hx hb hr hlk hw rfl dX10_stone_68
          · have h := ite_t c_45 h
            exact hJ_48 s1 s4 H locs ls h hw (lv_sub hl [] rfl)
      · have h := ite_t c_24 h
        exact hJ_27 s1 s4 H locs ls h hw (lv_sub hl [] rfl)
theorem dX10_sum_0 : decode cX10_sum 0 = .ok (.iload_n 1, 1) := by decide +kernel
theorem dX10_sum_1 : decode cX10_sum 1 = .ok (.iconst (-1), 1) := by decide +kernel
theorem dX10_sum_2 : decode cX10_sum 2 = .ok (.bipush 7, 2) := by decide +kernel
theorem dX10_sum_4 : decode cX10_sum 4 = .ok (.invokestatic 86, 3) := by decide +kernel
theorem dX10_sum_7 : decode cX10_sum 7 = .ok (.ifCond .ne 7, 3) := by decide +kernel
theorem dX10_sum_10 : decode cX10_sum 10 = .ok (.ldc2_w 316, 3) := by decide +kernel
theorem dX10_sum_13 : decode cX10_sum 13 = .ok (.lreturn, 1) := by decide +kernel
theorem dX10_sum_14 : decode cX10_sum 14 = .ok (.iload_n 2, 1) := by decide +kernel
theorem dX10_sum_15 : decode cX10_sum 15 = .ok (.tableswitch 139 0 7 #[45, 55, 68, 82, 96, 106, 116, 126], 45) := by decide +kernel
theorem dX10_sum_60 : decode cX10_sum 60 = .ok (.aload_n 0, 1) := by decide +kernel
theorem dX10_sum_61 : decode cX10_sum 61 = .ok (.getfield 23, 3) := by decide +kernel
theorem dX10_sum_64 : decode cX10_sum 64 = .ok (.iconst 0, 1) := by decide +kernel
theorem dX10_sum_65 : decode cX10_sum 65 = .ok (.iload_n 1, 1) := by decide +kernel
theorem dX10_sum_66 : decode cX10_sum 66 = .ok (.invokevirtual 240, 3) := by decide +kernel
theorem dX10_sum_69 : decode cX10_sum 69 = .ok (.lreturn, 1) := by decide +kernel
theorem dX10_sum_70 : decode cX10_sum 70 = .ok (.aload_n 0, 1) := by decide +kernel
theorem dX10_sum_71 : decode cX10_sum 71 = .ok (.getfield 23, 3) := by decide +kernel
theorem dX10_sum_74 : decode cX10_sum 74 = .ok (.iload_n 1, 1) := by decide +kernel
theorem dX10_sum_75 : decode cX10_sum 75 = .ok (.iconst 0, 1) := by decide +kernel
theorem dX10_sum_76 : decode cX10_sum 76 = .ok (.bipush 9, 2) := by decide +kernel
theorem dX10_sum_78 : decode cX10_sum 78 = .ok (.iconst 0, 1) := by decide +kernel
theorem dX10_sum_79 : decode cX10_sum 79 = .ok (.invokevirtual 227, 3) := by decide +kernel
theorem dX10_sum_82 : decode cX10_sum 82 = .ok (.lreturn, 1) := by decide +kernel
theorem dX10_sum_83 : decode cX10_sum 83 = .ok (.aload_n 0, 1) := by decide +kernel
theorem dX10_sum_84 : decode cX10_sum 84 = .ok (.getfield 23, 3) := by decide +kernel
theorem dX10_sum_87 : decode cX10_sum 87 = .ok (.iload_n 1, 1) := by decide +kernel
theorem dX10_sum_88 : decode cX10_sum 88 = .ok (.bipush 10, 2) := by decide +kernel
theorem dX10_sum_90 : decode cX10_sum 90 = .ok (.bipush 10, 2) := by decide +kernel
theorem dX10_sum_92 : decode cX10_sum 92 = .ok (.iconst 0, 1) := by decide +kernel
theorem dX10_sum_93 : decode cX10_sum 93 = .ok (.invokevirtual 227, 3) := by decide +kernel
theorem dX10_sum_96 : decode cX10_sum 96 = .ok (.lreturn, 1) := by decide +kernel
theorem dX10_sum_97 : decode cX10_sum 97 = .ok (.aload_n 0, 1) := by decide +kernel
theorem dX10_sum_98 : decode cX10_sum 98 = .ok (.getfield 23, 3) := by decide +kernel
theorem dX10_sum_101 : decode cX10_sum 101 = .ok (.iload_n 1, 1) := by decide +kernel
theorem dX10_sum_102 : decode cX10_sum 102 = .ok (.bipush 11, 2) := by decide +kernel
theorem dX10_sum_104 : decode cX10_sum 104 = .ok (.bipush 11, 2) := by decide +kernel
theorem dX10_sum_106 : decode cX10_sum 106 = .ok (.iconst 0, 1) := by decide +kernel
theorem dX10_sum_107 : decode cX10_sum 107 = .ok (.invokevirtual 227, 3) := by decide +kernel
theorem dX10_sum_110 : decode cX10_sum 110 = .ok (.lreturn, 1) := by decide +kernel
theorem dX10_sum_111 : decode cX10_sum 111 = .ok (.aload_n 0, 1) := by decide +kernel
theorem dX10_sum_112 : decode cX10_sum 112 = .ok (.getfield 23, 3) := by decide +kernel
theorem dX10_sum_115 : decode cX10_sum 115 = .ok (.iconst 1, 1) := by decide +kernel
theorem dX10_sum_116 : decode cX10_sum 116 = .ok (.iload_n 1, 1) := by decide +kernel
theorem dX10_sum_117 : decode cX10_sum 117 = .ok (.invokevirtual 240, 3) := by decide +kernel
theorem dX10_sum_120 : decode cX10_sum 120 = .ok (.lreturn, 1) := by decide +kernel
theorem dX10_sum_121 : decode cX10_sum 121 = .ok (.aload_n 0, 1) := by decide +kernel
theorem dX10_sum_122 : decode cX10_sum 122 = .ok (.getfield 23, 3) := by decide +kernel
theorem dX10_sum_125 : decode cX10_sum 125 = .ok (.iconst 2, 1) := by decide +kernel
theorem dX10_sum_126 : decode cX10_sum 126 = .ok (.iload_n 1, 1) := by decide +kernel
theorem dX10_sum_127 : decode cX10_sum 127 = .ok (.invokevirtual 240, 3) := by decide +kernel
theorem dX10_sum_130 : decode cX10_sum 130 = .ok (.lreturn, 1) := by decide +kernel
theorem dX10_sum_131 : decode cX10_sum 131 = .ok (.aload_n 0, 1) := by decide +kernel
theorem dX10_sum_132 : decode cX10_sum 132 = .ok (.getfield 23, 3) := by decide +kernel
theorem dX10_sum_135 : decode cX10_sum 135 = .ok (.iconst 3, 1) := by decide +kernel
theorem dX10_sum_136 : decode cX10_sum 136 = .ok (.iload_n 1, 1) := by decide +kernel
theorem dX10_sum_137 : decode cX10_sum 137 = .ok (.invokevirtual 240, 3) := by decide +kernel
theorem dX10_sum_140 : decode cX10_sum 140 = .ok (.lreturn, 1) := by decide +kernel
theorem dX10_sum_141 : decode cX10_sum 141 = .ok (.aload_n 0, 1) := by decide +kernel
theorem dX10_sum_142 : decode cX10_sum 142 = .ok (.getfield 23, 3) := by decide +kernel
theorem dX10_sum_145 : decode cX10_sum 145 = .ok (.iload_n 1, 1) := by decide +kernel
theorem dX10_sum_146 : decode cX10_sum 146 = .ok (.iconst 0, 1) := by decide +kernel
theorem dX10_sum_147 : decode cX10_sum 147 = .ok (.bipush 9, 2) := by decide +kernel
theorem dX10_sum_149 : decode cX10_sum 149 = .ok (.iconst 1, 1) := by decide +kernel
theorem dX10_sum_150 : decode cX10_sum 150 = .ok (.invokevirtual 227, 3) := by decide +kernel
theorem dX10_sum_153 : decode cX10_sum 153 = .ok (.lreturn, 1) := by decide +kernel
theorem dX10_sum_154 : decode cX10_sum 154 = .ok (.ldc2_w 316, 3) := by decide +kernel
theorem dX10_sum_157 : decode cX10_sum 157 = .ok (.lreturn, 1) := by decide +kernel
noncomputable def f10_sum (a1 : Int32) (a2 : Int32) (s4 : OS) : Option (Int64) := Option.bind (f10_isWithin a1 ((-1 : Int32)) ((7 : Int32))) fun q_4 => if q_4 = 0 then (some ((-1 : Int64))) else (if a2 = 0 then (Option.bind (f4_charged ((0 : Int32)) a1 s4) fun q_66 => some q_66) else if a2 = 1 then (Option.bind (f4_weightIn a1 ((0 : Int32)) ((9 : Int32)) ((0 : Int32)) s4) fun q_79 => some q_79) else if a2 = 2 then (Option.bind (f4_weightIn a1 ((10 : Int32)) ((10 : Int32)) ((0 : Int32)) s4) fun q_93 => some q_93) else if a2 = 3 then (Option.bind (f4_weightIn a1 ((11 : Int32)) ((11 : Int32)) ((0 : Int32)) s4) fun q_107 => some q_107) else if a2 = 4 then (Option.bind (f4_charged ((1 : Int32)) a1 s4) fun q_117 => some q_117) else if a2 = 5 then (Option.bind (f4_charged ((2 : Int32)) a1 s4) fun q_127 => some q_127) else if a2 = 6 then (Option.bind (f4_charged ((3 : Int32)) a1 s4) fun q_137 => some q_137) else if a2 = 7 then (Option.bind (f4_weightIn a1 ((0 : Int32)) ((9 : Int32)) ((1 : Int32)) s4) fun q_150 => some q_150) else (some ((-1 : Int64))))
set_option maxHeartbeats 4000000 in
set_option maxRecDepth 100000 in
theorem m10_sum (l : Launch) (D : va_G) (ad : Nat → Nat) (cy : Nat → ClassId) (sz : Nat) (s0 s1 s2 s3 s4 s5 s6 s7 s8 s9 s10 : OS) (a1 : Int32) (a2 : Int32) (r : Int64) (h : f10_sum a1 a2 s4 = some r) : Met l yX10_sum (wsOf yX10_sum cX10_sum 3 (some .long)) (rmL 3) (va_Pc ([.ref (ad 10), .int a1, .int a2] : List Value) (PreG D cy (cellsC ad cy s0 s1 s2 s3 s4 s5 s6 s7 s8 s9 s10) sz (NC ad))) (QcL D ad 67 (cellsC ad cy s0 s1 s2 s3 s4 s5 s6 s7 s8 s9 s10) (r) sz) 0 0 (Afr ad 67 sz) := by
  refine metG (own := RX10) (by decide) rfl (Nat.le_of_ble_eq_true rfl) fstC ?_ sz
  intro p e s m below meth c ls C0 hw hl
  obtain ⟨hx, hb, hml, hown, hts, hr, hlk, hK, hN⟩ := C0
  have hl : lv_has ls 3 [(0, .ref (ad 10)), (1, .int a1), (2, .int a2)] := hl
  generalize hQ : MQ below (QcL D ad 67 (cellsC ad cy s0 s1 s2 s3 s4 s5 s6 s7 s8 s9 s10) (r) s.heap.size) ([.ref (ad 10), .int a1, .int a2] : List Value).toArray s 0 0 (Afr ad 67 s.heap.size) = Q
  obtain ⟨H, hH⟩ : ∃ H : Heap, H = s.heap := ⟨_, rfl⟩
  obtain ⟨locs, hlc⟩ : ∃ L : List Loc, L = [] := ⟨_, rfl⟩
  have hw : Wd D (cellsC ad cy s0 s1 s2 s3 s4 s5 s6 s7 s8 s9 s10) (Afr ad 67 s.heap.size) s.heap H locs := by rw [hH, hlc]; exact hw
  suffices h0 : W p l e (rmL 3) s m ([.ref (ad 10), .int a1, .int a2] : List Value).toArray below meth c H locs 0 0 Q (F0 m 0 ls []) by rw [hH, hlc] at h0; exact h0
  clear hH hlc
  unfold f10_sum at h
  refine lv_iload_n hx hb dX10_sum_0 rfl (lv_at hl 1 rfl) ?_
  refine lv_iconst (v := (-1)) hx hb dX10_sum_1 (by decide) ?_
  refine lv_bipush (v := 7) hx hb dX10_sum_2 (by decide) ?_
  obtain ⟨q_4, h_4, h⟩ := bnd_e h
  have pg_4 := preG (av := [.int a1, .int ((-1 : Int32)), .int ((7 : Int32))]) hK hw.1 hw.2.1 (NC_keep hN hw.2.2) NC_blind
  refine endI (mc := 0) (ms := 0) (va_runS (As := [.int a1, .int ((-1 : Int32)), .int ((7 : Int32))]) (rest := []) ⟨hx, hb, hml, hown, hts⟩ (m10_isWithin l D ad cy H.size s0 s1 s2 s3 s4 s5 s6 s7 s8 s9 s10 a1 ((-1 : Int32)) ((7 : Int32)) q_4 h_4) (wX10_86 0 hts ⟨Nat.le_of_ble_eq_true rfl, Nat.le_of_ble_eq_true rfl⟩) pg_4 rfl rfl hl.1 rfl (lv_room (Nat.le_of_ble_eq_true rfl)) dX10_sum_4 ⟨Nat.le_refl _, Nat.le_refl _⟩) hw.2.2 (afr_in hw.2.2) (fun H locs hw => ?_)
  refine lv_if_ne (tgt := 14) hx hb dX10_sum_7 (by decide) (fun c_7 => ?_) (fun c_7 => ?_)
  · have h := ite_f c_7 h
    refine lv_iload_n hx hb dX10_sum_14 rfl (lv_at hl 2 rfl) ?_
    have q_15 : ∀ tgt : Nat, W p l e (rmL 3) s m ([.ref (ad 10), .int a1, .int a2] : List Value).toArray below meth c H locs 0 0 Q (F0 m tgt ls []) → W p l e (rmL 3) s m ([.ref (ad 10), .int a1, .int a2] : List Value).toArray below meth c H locs 0 0 Q (F0 m tgt ls []) := fun _ z => z
    by_cases c_15_0 : a2 = 0
    · have h := ite_t c_15_0 h
      refine lv_tableIn (off := 45) (tgt := 60) hx hb dX10_sum_15 (by rw [c_15_0]; decide) (by rw [c_15_0]; decide) (by rw [c_15_0]; rfl) (by decide) ?_
      refine lv_aload_n hx hb dX10_sum_60 rfl (lv_at hl 0 rfl) ?_
      refine gX10_23 hx hb hts hown hK hw dX10_sum_61 ?_
      refine lv_iconst (v := 0) hx hb dX10_sum_64 (by decide) ?_
      refine lv_iload_n hx hb dX10_sum_65 rfl (lv_at hl 1 rfl) ?_
      obtain ⟨q_66, h_66, h⟩ := bnd_e h
      have pg_66 := preG (av := [.ref (ad 4), .int ((0 : Int32)), .int a1]) hK hw.1 hw.2.1 (NC_keep hN hw.2.2) NC_blind
      refine endL (mc := 0) (ms := 0) (va_runV (As := [.int ((0 : Int32)), .int a1]) (rest := []) ⟨hx, hb, hml, hown, hts⟩ (m4_charged l D ad cy H.size s0 s1 s2 s3 s4 s5 s6 s7 s8 s9 s10 ((0 : Int32)) a1 q_66 h_66) (wX10_240 0 hts ⟨Nat.le_of_ble_eq_true rfl, Nat.le_of_ble_eq_true rfl⟩) ⟨pg_66.1, va_recv hK hw.1 (ci := 4) (q0 := 4) rfl eC_4, pg_66.2⟩ rfl rfl hl.1 rfl (lv_room (Nat.le_of_ble_eq_true rfl)) dX10_sum_66 ⟨Nat.le_refl _, Nat.le_refl _⟩) hw.2.2 (afr_in hw.2.2) (fun H locs hw => ?_)
      have h := Option.some.inj h
      subst h
      rw [← hQ]
      exact retL hx hb hr hlk hw dX10_sum_69
    have h := ite_f c_15_0 h
    by_cases c_15_1 : a2 = 1
    · have h := ite_t c_15_1 h
      refine lv_tableIn (off := 55) (tgt := 70) hx hb dX10_sum_15 (by rw [c_15_1]; decide) (by rw [c_15_1]; decide) (by rw [c_15_1]; rfl) (by decide) ?_
      refine lv_aload_n hx hb dX10_sum_70 rfl (lv_at hl 0 rfl) ?_
      refine gX10_23 hx hb hts hown hK hw dX10_sum_71 ?_
      refine lv_iload_n hx hb dX10_sum_74 rfl (lv_at hl 1 rfl) ?_
      refine lv_iconst (v := 0) hx hb dX10_sum_75 (by decide) ?_
      refine lv_bipush (v := 9) hx hb dX10_sum_76 (by decide) ?_
      refine lv_iconst (v := 0) hx hb dX10_sum_78 (by decide) ?_
      obtain ⟨q_79, h_79, h⟩ := bnd_e h
      have pg_79 := preG (av := [.ref (ad 4), .int a1, .int ((0 : Int32)), .int ((9 : Int32)), .int ((0 : Int32))]) hK hw.1 hw.2.1 (NC_keep hN hw.2.2) NC_blind
      refine endL (mc := 0) (ms := 0) (va_runV (As := [.int a1, .int ((0 : Int32)), .int ((9 : Int32)), .int ((0 : Int32))]) (rest := []) ⟨hx, hb, hml, hown, hts⟩ (m4_weightIn l D ad cy H.size s0 s1 s2 s3 s4 s5 s6 s7 s8 s9 s10 a1 ((0 : Int32)) ((9 : Int32)) ((0 : Int32)) q_79 h_79) (wX10_227 2 hts ⟨Nat.le_of_ble_eq_true rfl, Nat.le_of_ble_eq_true rfl⟩) ⟨pg_79.1, va_recv hK hw.1 (ci := 4) (q0 := 4) rfl eC_4, pg_79.2⟩ rfl rfl hl.1 rfl (lv_room (Nat.le_of_ble_eq_true rfl)) dX10_sum_79 ⟨Nat.le_refl _, Nat.le_refl _⟩) hw.2.2 (afr_in hw.2.2) (fun H locs hw => ?_)
      have h := Option.some.inj h
      subst h
      rw [← hQ]
      exact retL hx hb hr hlk hw dX10_sum_82
    have h := ite_f c_15_1 h
    by_cases c_15_2 : a2 = 2
    · have h := ite_t c_15_2 h
      refine lv_tableIn (off := 68) (tgt := 83) hx hb dX10_sum_15 (by rw [c_15_2]; decide) (by rw [c_15_2]; decide) (by rw [c_15_2]; rfl) (by decide) ?_
      refine lv_aload_n hx hb dX10_sum_83 rfl (lv_at hl 0 rfl) ?_
      refine gX10_23 hx hb hts hown hK hw dX10_sum_84 ?_
      refine lv_iload_n hx hb dX10_sum_87 rfl (lv_at hl 1 rfl) ?_
      refine lv_bipush (v := 10) hx hb dX10_sum_88 (by decide) ?_
      refine lv_bipush (v := 10) hx hb dX10_sum_90 (by decide) ?_
      refine lv_iconst (v := 0) hx hb dX10_sum_92 (by decide) ?_
      obtain ⟨q_93, h_93, h⟩ := bnd_e h
      have pg_93 := preG (av := [.ref (ad 4), .int a1, .int ((10 : Int32)), .int ((10 : Int32)), .int ((0 : Int32))]) hK hw.1 hw.2.1 (NC_keep hN hw.2.2) NC_blind
      refine endL (mc := 0) (ms := 0) (va_runV (As := [.int a1, .int ((10 : Int32)), .int ((10 : Int32)), .int ((0 : Int32))]) (rest := []) ⟨hx, hb, hml, hown, hts⟩ (m4_weightIn l D ad cy H.size s0 s1 s2 s3 s4 s5 s6 s7 s8 s9 s10 a1 ((10 : Int32)) ((10 : Int32)) ((0 : Int32)) q_93 h_93) (wX10_227 2 hts ⟨Nat.le_of_ble_eq_true rfl, Nat.le_of_ble_eq_true rfl⟩) ⟨pg_93.1, va_recv hK hw.1 (ci := 4) (q0 := 4) rfl eC_4, pg_93.2⟩ rfl rfl hl.1 rfl (lv_room (Nat.le_of_ble_eq_true rfl)) dX10_sum_93 ⟨Nat.le_refl _, Nat.le_refl _⟩) hw.2.2 (afr_in hw.2.2) (fun H locs hw => ?_)
      have h := Option.some.inj h
      subst h
      rw [← hQ]
      exact retL hx hb hr hlk hw dX10_sum_96
    have h := ite_f c_15_2 h
    by_cases c_15_3 : a2 = 3
    · have h := ite_t c_15_3 h
      refine lv_tableIn (off := 82) (tgt := 97) hx hb dX10_sum_15 (by rw [c_15_3]; decide) (by rw [c_15_3]; decide) (by rw [c_15_3]; rfl) (by decide) ?_
      refine lv_aload_n hx hb dX10_sum_97 rfl (lv_at hl 0 rfl) ?_
      refine gX10_23 hx hb hts hown hK hw dX10_sum_98 ?_
      refine lv_iload_n hx hb dX10_sum_101 rfl (lv_at hl 1 rfl) ?_
      refine lv_bipush (v := 11) hx hb dX10_sum_102 (by decide) ?_
      refine lv_bipush (v := 11) hx hb dX10_sum_104 (by decide) ?_
      refine lv_iconst (v := 0) hx hb dX10_sum_106 (by decide) ?_
      obtain ⟨q_107, h_107, h⟩ := bnd_e h
      have pg_107 := preG (av := [.ref (ad 4), .int a1, .int ((11 : Int32)), .int ((11 : Int32)), .int ((0 : Int32))]) hK hw.1 hw.2.1 (NC_keep hN hw.2.2) NC_blind
      refine endL (mc := 0) (ms := 0) (va_runV (As := [.int a1, .int ((11 : Int32)), .int ((11 : Int32)), .int ((0 : Int32))]) (rest := []) ⟨hx, hb, hml, hown, hts⟩ (m4_weightIn l D ad cy H.size s0 s1 s2 s3 s4 s5 s6 s7 s8 s9 s10 a1 ((11 : Int32)) ((11 : Int32)) ((0 : Int32)) q_107 h_107) (wX10_227 2 hts ⟨Nat.le_of_ble_eq_true rfl, Nat.le_of_ble_eq_true rfl⟩) ⟨pg_107.1, va_recv hK hw.1 (ci := 4) (q0 := 4) rfl eC_4, pg_107.2⟩ rfl rfl hl.1 rfl (lv_room (Nat.le_of_ble_eq_true rfl)) dX10_sum_107 ⟨Nat.le_refl _, Nat.le_refl _⟩) hw.2.2 (afr_in hw.2.2) (fun H locs hw => ?_)
      have h := Option.some.inj h
      subst h
      rw [← hQ]
      exact retL hx hb hr hlk hw dX10_sum_110
    have h := ite_f c_15_3 h
    by_cases c_15_4 : a2 = 4
    · have h := ite_t c_15_4 h
      refine lv_tableIn (off := 96) (tgt := 111) hx hb dX10_sum_15 (by rw [c_15_4]; decide) (by rw [c_15_4]; decide) (by rw [c_15_4]; rfl) (by decide) ?_
      refine lv_aload_n hx hb dX10_sum_111 rfl (lv_at hl 0 rfl) ?_
      refine gX10_23 hx hb hts hown hK hw dX10_sum_112 ?_
      refine lv_iconst (v := 1) hx hb dX10_sum_115 (by decide) ?_
      refine lv_iload_n hx hb dX10_sum_116 rfl (lv_at hl 1 rfl) ?_
      obtain ⟨q_117, h_117, h⟩ := bnd_e h
      have pg_117 := preG (av := [.ref (ad 4), .int ((1 : Int32)), .int a1]) hK hw.1 hw.2.1 (NC_keep hN hw.2.2) NC_blind
      refine endL (mc := 0) (ms := 0) (va_runV (As := [.int ((1 : Int32)), .int a1]) (rest := []) ⟨hx, hb, hml, hown, hts⟩ (m4_charged l D ad cy H.size s0 s1 s2 s3 s4 s5 s6 s7 s8 s9 s10 ((1 : Int32)) a1 q_117 h_117) (wX10_240 0 hts ⟨Nat.le_of_ble_eq_true rfl, Nat.le_of_ble_eq_true rfl⟩) ⟨pg_117.1, va_recv hK hw.1 (ci := 4) (q0 := 4) rfl eC_4, pg_117.2⟩ rfl rfl hl.1 rfl (lv_room (Nat.le_of_ble_eq_true rfl)) dX10_sum_117 ⟨Nat.le_refl _, Nat.le_refl _⟩) hw.2.2 (afr_in hw.2.2) (fun H locs hw => ?_)
      have h := Option.some.inj h
      subst h
      rw [← hQ]
      exact retL hx hb hr hlk hw dX10_sum_120
    have h := ite_f c_15_4 h
    by_cases c_15_5 : a2 = 5
    · have h := ite_t c_15_5 h
      refine lv_tableIn (off := 106) (tgt := 121) hx hb dX10_sum_15 (by rw [c_15_5]; decide) (by rw [c_15_5]; decide) (by rw [c_15_5]; rfl) (by decide) ?_
      refine lv_aload_n hx hb dX10_sum_121 rfl (lv_at hl 0 rfl) ?_
      refine gX10_23 hx hb hts hown hK hw dX10_sum_122 ?_
      refine lv_iconst (v := 2) hx hb dX10_sum_125 (by decide) ?_
      refine lv_iload_n hx hb dX10_sum_126 rfl (lv_at hl 1 rfl) ?_
      obtain ⟨q_127, h_127, h⟩ := bnd_e h
      have pg_127 := preG (av := [.ref (ad 4), .int ((2 : Int32)), .int a1]) hK hw.1 hw.2.1 (NC_keep hN hw.2.2) NC_blind
      refine endL (mc := 0) (ms := 0) (va_runV (As := [.int ((2 : Int32)), .int a1]) (rest := []) ⟨hx, hb, hml, hown, hts⟩ (m4_charged l D ad cy H.size s0 s1 s2 s3 s4 s5 s6 s7 s8 s9 s10 ((2 : Int32)) a1 q_127 h_127) (wX10_240 0 hts ⟨Nat.le_of_ble_eq_true rfl, Nat.le_of_ble_eq_true rfl⟩) ⟨pg_127.1, va_recv hK hw.1 (ci := 4) (q0 := 4) rfl eC_4, pg_127.2⟩ rfl rfl hl.1 rfl (lv_room (Nat.le_of_ble_eq_true rfl)) dX10_sum_127 ⟨Nat.le_refl _, Nat.le_refl _⟩) hw.2.2 (afr_in hw.2.2) (fun H locs hw => ?_)
      have h := Option.some.inj h
      subst h
      rw [← hQ]
      exact retL hx hb hr hlk hw dX10_sum_130
    have h := ite_f c_15_5 h
    by_cases c_15_6 : a2 = 6
    · have h := ite_t c_15_6 h
      refine lv_tableIn (off := 116) (tgt := 131) hx hb dX10_sum_15 (by rw [c_15_6]; decide) (by rw [c_15_6]; decide) (by rw [c_15_6]; rfl) (by decide) ?_
      refine lv_aload_n hx hb dX10_sum_131 rfl (lv_at hl 0 rfl) ?_
      refine gX10_23 hx hb hts hown hK hw dX10_sum_132 ?_
      refine lv_iconst (v := 3) hx hb dX10_sum_135 (by decide) ?_
      refine lv_iload_n hx hb dX10_sum_136 rfl (lv_at hl 1 rfl) ?_
      obtain ⟨q_137, h_137, h⟩ := bnd_e h
      have pg_137 := preG (av := [.ref (ad 4), .int ((3 : Int32)), .int a1]) hK hw.1 hw.2.1 (NC_keep hN hw.2.2) NC_blind
      refine endL (mc := 0) (ms := 0) (va_runV (As := [.int ((3 : Int32)), .int a1]) (rest := []) ⟨hx, hb, hml, hown, hts⟩ (m4_charged l D ad cy H.size s0 s1 s2 s3 s4 s5 s6 s7 s8 s9 s10 ((3 : Int32)) a1 q_137 h_137) (wX10_240 0 hts ⟨Nat.le_of_ble_eq_true rfl, Nat.le_of_ble_eq_true rfl⟩) ⟨pg_137.1, va_recv hK hw.1 (ci := 4) (q0 := 4) rfl eC_4, pg_137.2⟩ rfl rfl hl.1 rfl (lv_room (Nat.le_of_ble_eq_true rfl)) dX10_sum_137 ⟨Nat.le_refl _, Nat.le_refl _⟩) hw.2.2 (afr_in hw.2.2) (fun H locs hw => ?_)
      have h := Option.some.inj h
      subst h
      rw [← hQ]
      exact retL hx hb hr hlk hw dX10_sum_140
    have h := ite_f c_15_6 h
    by_cases c_15_7 : a2 = 7
    · have h := ite_t c_15_7 h
      refine lv_tableIn (off := 126) (tgt := 141) hx hb dX10_sum_15 (by rw [c_15_7]; decide) (by rw [c_15_7]; decide) (by rw [c_15_7]; rfl) (by decide) ?_
      refine lv_aload_n hx hb dX10_sum_141 rfl (lv_at hl 0 rfl) ?_
      refine gX10_23 hx hb hts hown hK hw dX10_sum_142 ?_
      refine lv_iload_n hx hb dX10_sum_145 rfl (lv_at hl 1 rfl) ?_
      refine lv_iconst (v := 0) hx hb dX10_sum_146 (by decide) ?_
      refine lv_bipush (v := 9) hx hb dX10_sum_147 (by decide) ?_
      refine lv_iconst (v := 1) hx hb dX10_sum_149 (by decide) ?_
      obtain ⟨q_150, h_150, h⟩ := bnd_e h
      have pg_150 := preG (av := [.ref (ad 4), .int a1, .int ((0 : Int32)), .int ((9 : Int32)), .int ((1 : Int32))]) hK hw.1 hw.2.1 (NC_keep hN hw.2.2) NC_blind
      refine endL (mc := 0) (ms := 0) (va_runV (As := [.int a1, .int ((0 : Int32)), .int ((9 : Int32)), .int ((1 : Int32))]) (rest := []) ⟨hx, hb, hml, hown, hts⟩ (m4_weightIn l D ad cy H.size s0 s1 s2 s3 s4 s5 s6 s7 s8 s9 s10 a1 ((0 : Int32)) ((9 : Int32)) ((1 : Int32)) q_150 h_150) (wX10_227 2 hts ⟨Nat.le_of_ble_eq_true rfl, Nat.le_of_ble_eq_true rfl⟩) ⟨pg_150.1, va_recv hK hw.1 (ci := 4) (q0 := 4) rfl eC_4, pg_150.2⟩ rfl rfl hl.1 rfl (lv_room (Nat.le_of_ble_eq_true rfl)) dX10_sum_150 ⟨Nat.le_refl _, Nat.le_refl _⟩) hw.2.2 (afr_in hw.2.2) (fun H locs hw => ?_)
      have h := Option.some.inj h
      subst h
      rw [← hQ]
      exact retL hx hb hr hlk hw dX10_sum_153
    have h := ite_f c_15_7 h
    refine lv_tableOut (tgt := 154) hx hb dX10_sum_15 (by have := lv_neT c_15_0 (a := 0) rfl; have := lv_neT c_15_1 (a := 1) rfl; have := lv_neT c_15_2 (a := 2) rfl; have := lv_neT c_15_3 (a := 3) rfl; have := lv_neT c_15_4 (a := 4) rfl; have := lv_neT c_15_5 (a := 5) rfl; have := lv_neT c_15_6 (a := 6) rfl; have := lv_neT c_15_7 (a := 7) rfl; omega) (by decide) ?_
    refine lv_ldc2 (v := (-1)) hx hb hown (hts _ (wd_5 (w := .constantLong RX10 316 (-1)) (i := 144) (by decide +kernel) rfl)) dX10_sum_154 ?_
    have h := Option.some.inj h
    subst h
    rw [← hQ]
    exact retL hx hb hr hlk hw dX10_sum_157
  · have h := ite_t c_7 h
    refine lv_ldc2 (v := (-1)) hx hb hown (hts _ (wd_5 (w := .constantLong RX10 316 (-1)) (i := 144) (by decide +kernel) rfl)) dX10_sum_10 ?_
    have h := Option.some.inj h
    subst h
    rw [← hQ]
    exact retL hx hb hr hlk hw dX10_sum_13
theorem dX10_thing_0 : decode cX10_thing 0 = .ok (.aload_n 0, 1) := by decide +kernel
theorem dX10_thing_1 : decode cX10_thing 1 = .ok (.getfield 51, 3) := by decide +kernel
theorem dX10_thing_4 : decode cX10_thing 4 = .ok (.iload_n 1, 1) := by decide +kernel
theorem dX10_thing_5 : decode cX10_thing 5 = .ok (.iload_n 2, 1) := by decide +kernel
theorem dX10_thing_6 : decode cX10_thing 6 = .ok (.invokevirtual 279, 3) := by decide +kernel
theorem dX10_thing_9 : decode cX10_thing 9 = .ok (.ireturn, 1) := by decide +kernel
noncomputable def f10_thing (a1 : Int32) (a2 : Int32) (s3 : OS) : Option (Int32) := Option.bind (f3_tell a1 a2 s3) fun q_6 => some q_6
set_option maxHeartbeats 4000000 in
set_option maxRecDepth 100000 in
theorem m10_thing (l : Launch) (D : va_G) (ad : Nat → Nat) (cy : Nat → ClassId) (sz : Nat) (s0 s1 s2 s3 s4 s5 s6 s7 s8 s9 s10 : OS) (a1 : Int32) (a2 : Int32) (r : Int32) (h : f10_thing a1 a2 s3 = some r) : Met l yX10_thing (wsOf yX10_thing cX10_thing 3 (some .int)) (rmL 2) (va_Pc ([.ref (ad 10), .int a1, .int a2] : List Value) (PreG D cy (cellsC ad cy s0 s1 s2 s3 s4 s5 s6 s7 s8 s9 s10) sz (NC ad))) (QcI D ad 67 (cellsC ad cy s0 s1 s2 s3 s4 s5 s6 s7 s8 s9 s10) (r) sz) 0 0 (Afr ad 67 sz) := by
  refine metG (own := RX10) (by decide) rfl (Nat.le_of_ble_eq_true rfl) fstC ?_ sz
  intro p e s m below meth c ls C0 hw hl
  obtain ⟨hx, hb, hml, hown, hts, hr, hlk, hK, hN⟩ := C0
  have hl : lv_has ls 3 [(0, .ref (ad 10)), (1, .int a1), (2, .int a2)] := hl
  generalize hQ : MQ below (QcI D ad 67 (cellsC ad cy s0 s1 s2 s3 s4 s5 s6 s7 s8 s9 s10) (r) s.heap.size) ([.ref (ad 10), .int a1, .int a2] : List Value).toArray s 0 0 (Afr ad 67 s.heap.size) = Q
  obtain ⟨H, hH⟩ : ∃ H : Heap, H = s.heap := ⟨_, rfl⟩
  obtain ⟨locs, hlc⟩ : ∃ L : List Loc, L = [] := ⟨_, rfl⟩
  have hw : Wd D (cellsC ad cy s0 s1 s2 s3 s4 s5 s6 s7 s8 s9 s10) (Afr ad 67 s.heap.size) s.heap H locs := by rw [hH, hlc]; exact hw
  suffices h0 : W p l e (rmL 2) s m ([.ref (ad 10), .int a1, .int a2] : List Value).toArray below meth c H locs 0 0 Q (F0 m 0 ls []) by rw [hH, hlc] at h0; exact h0
  clear hH hlc
  unfold f10_thing at h
  refine lv_aload_n hx hb dX10_thing_0 rfl (lv_at hl 0 rfl) ?_
  refine gX10_51 hx hb hts hown hK hw dX10_thing_1 ?_
  refine lv_iload_n hx hb dX10_thing_4 rfl (lv_at hl 1 rfl) ?_
  refine lv_iload_n hx hb dX10_thing_5 rfl (lv_at hl 2 rfl) ?_
  obtain ⟨q_6, h_6, h⟩ := bnd_e h
  have pg_6 := preG (av := [.ref (ad 3), .int a1, .int a2]) hK hw.1 hw.2.1 (NC_keep hN hw.2.2) NC_blind
  refine endI (mc := 0) (ms := 0) (va_runV (As := [.int a1, .int a2]) (rest := []) ⟨hx, hb, hml, hown, hts⟩ (m3_tell l D ad cy H.size s0 s1 s2 s3 s4 s5 s6 s7 s8 s9 s10 a1 a2 q_6 h_6) (wX10_279 1 hts ⟨Nat.le_of_ble_eq_true rfl, Nat.le_of_ble_eq_true rfl⟩) ⟨pg_6.1, va_recv hK hw.1 (ci := 3) (q0 := 3) rfl eC_3, pg_6.2⟩ rfl rfl hl.1 rfl (lv_room (Nat.le_of_ble_eq_true rfl)) dX10_thing_6 ⟨Nat.le_refl _, Nat.le_refl _⟩) hw.2.2 (afr_in hw.2.2) (fun H locs hw => ?_)
  have h := Option.some.inj h
  subst h
  rw [← hQ]
  exact retI hx hb hr hlk hw rfl dX10_thing_9
theorem dX10_trial_0 : decode cX10_trial 0 = .ok (.iload_n 3, 1) := by decide +kernel
theorem dX10_trial_1 : decode cX10_trial 1 = .ok (.invokestatic 80, 3) := by decide +kernel
theorem dX10_trial_4 : decode cX10_trial 4 = .ok (.ifCond .eq 14, 3) := by decide +kernel
theorem dX10_trial_7 : decode cX10_trial 7 = .ok (.aload_n 0, 1) := by decide +kernel
theorem dX10_trial_8 : decode cX10_trial 8 = .ok (.getfield 23, 3) := by decide +kernel
theorem dX10_trial_11 : decode cX10_trial 11 = .ok (.iload_n 1, 1) := by decide +kernel
theorem dX10_trial_12 : decode cX10_trial 12 = .ok (.invokevirtual 130, 3) := by decide +kernel
theorem dX10_trial_15 : decode cX10_trial 15 = .ok (.ifCond .ne 5, 3) := by decide +kernel
theorem dX10_trial_18 : decode cX10_trial 18 = .ok (.iconst (-1), 1) := by decide +kernel
theorem dX10_trial_19 : decode cX10_trial 19 = .ok (.ireturn, 1) := by decide +kernel
theorem dX10_trial_20 : decode cX10_trial 20 = .ok (.aload_n 0, 1) := by decide +kernel
theorem dX10_trial_21 : decode cX10_trial 21 = .ok (.getfield 23, 3) := by decide +kernel
theorem dX10_trial_24 : decode cX10_trial 24 = .ok (.iload_n 1, 1) := by decide +kernel
theorem dX10_trial_25 : decode cX10_trial 25 = .ok (.invokevirtual 104, 3) := by decide +kernel
theorem dX10_trial_28 : decode cX10_trial 28 = .ok (.istore 4, 2) := by decide +kernel
theorem dX10_trial_30 : decode cX10_trial 30 = .ok (.iload_n 2, 1) := by decide +kernel
theorem dX10_trial_31 : decode cX10_trial 31 = .ok (.iconst 0, 1) := by decide +kernel
theorem dX10_trial_32 : decode cX10_trial 32 = .ok (.iload 4, 2) := by decide +kernel
theorem dX10_trial_34 : decode cX10_trial 34 = .ok (.invokestatic 86, 3) := by decide +kernel
theorem dX10_trial_37 : decode cX10_trial 37 = .ok (.ifCond .ne 5, 3) := by decide +kernel
theorem dX10_trial_40 : decode cX10_trial 40 = .ok (.iconst (-1), 1) := by decide +kernel
theorem dX10_trial_41 : decode cX10_trial 41 = .ok (.ireturn, 1) := by decide +kernel
theorem dX10_trial_42 : decode cX10_trial 42 = .ok (.iload 4, 2) := by decide +kernel
theorem dX10_trial_44 : decode cX10_trial 44 = .ok (.iload_n 2, 1) := by decide +kernel
theorem dX10_trial_45 : decode cX10_trial 45 = .ok (.isub, 1) := by decide +kernel
theorem dX10_trial_46 : decode cX10_trial 46 = .ok (.istore 5, 2) := by decide +kernel
theorem dX10_trial_48 : decode cX10_trial 48 = .ok (.aload_n 0, 1) := by decide +kernel
theorem dX10_trial_49 : decode cX10_trial 49 = .ok (.getfield 23, 3) := by decide +kernel
theorem dX10_trial_52 : decode cX10_trial 52 = .ok (.iconst 2, 1) := by decide +kernel
theorem dX10_trial_53 : decode cX10_trial 53 = .ok (.iload_n 1, 1) := by decide +kernel
theorem dX10_trial_54 : decode cX10_trial 54 = .ok (.iload_n 2, 1) := by decide +kernel
theorem dX10_trial_55 : decode cX10_trial 55 = .ok (.i2l, 1) := by decide +kernel
theorem dX10_trial_56 : decode cX10_trial 56 = .ok (.invokevirtual 153, 3) := by decide +kernel
theorem dX10_trial_59 : decode cX10_trial 59 = .ok (.aload_n 0, 1) := by decide +kernel
theorem dX10_trial_60 : decode cX10_trial 60 = .ok (.getfield 23, 3) := by decide +kernel
theorem dX10_trial_63 : decode cX10_trial 63 = .ok (.iload_n 1, 1) := by decide +kernel
theorem dX10_trial_64 : decode cX10_trial 64 = .ok (.iload 5, 2) := by decide +kernel
theorem dX10_trial_66 : decode cX10_trial 66 = .ok (.iload_n 3, 1) := by decide +kernel
theorem dX10_trial_67 : decode cX10_trial 67 = .ok (.iload 5, 2) := by decide +kernel
theorem dX10_trial_69 : decode cX10_trial 69 = .ok (.ifCond .ne 8, 3) := by decide +kernel
theorem dX10_trial_72 : decode cX10_trial 72 = .ok (.bipush 12, 2) := by decide +kernel
theorem dX10_trial_74 : decode cX10_trial 74 = .ok (.goto 11, 3) := by decide +kernel
theorem dX10_trial_77 : decode cX10_trial 77 = .ok (.aload_n 0, 1) := by decide +kernel
theorem dX10_trial_78 : decode cX10_trial 78 = .ok (.getfield 23, 3) := by decide +kernel
theorem dX10_trial_81 : decode cX10_trial 81 = .ok (.iload_n 1, 1) := by decide +kernel
theorem dX10_trial_82 : decode cX10_trial 82 = .ok (.invokevirtual 116, 3) := by decide +kernel
theorem dX10_trial_85 : decode cX10_trial 85 = .ok (.aload_n 0, 1) := by decide +kernel
theorem dX10_trial_86 : decode cX10_trial 86 = .ok (.getfield 69, 3) := by decide +kernel
theorem dX10_trial_89 : decode cX10_trial 89 = .ok (.invokevirtual 108, 3) := by decide +kernel
theorem dX10_trial_92 : decode cX10_trial 92 = .ok (.iload 5, 2) := by decide +kernel
theorem dX10_trial_94 : decode cX10_trial 94 = .ok (.ireturn, 1) := by decide +kernel
def f10_trial_j85 (v5_j85 : Int32) (k1_j85 : Int32) (k2_j85 : Int32) (k3_j85 : Int32) (k4_j85 : Int32) (s1_j85 : OS) (s4_j85 : OS) (s10_j85 : OS) : Option (Int32 × OS × OS) := Option.bind (f4_change k1_j85 k2_j85 k3_j85 k4_j85 ((s10_j85.1 0 9)) s1_j85 s4_j85) fun q_89 => some (v5_j85, q_89.1, q_89.2)
def f10_trial_j18 (s1_j18 : OS) (s4_j18 : OS) (s10_j18 : OS) : Option (Int32 × OS × OS) := some ((-1 : Int32), s1_j18, s4_j18)
def f10_trial (a1 : Int32) (a2 : Int32) (a3 : Int32) (s1 : OS) (s4 : OS) (s10 : OS) : Option (Int32 × OS × OS) := Option.bind (f10_isBits a3) fun q_1 => if q_1 = 0 then (f10_trial_j18 s1 s4 s10) else (Option.bind (f4_isAtHand a1 s4) fun q_12 => if q_12 = 0 then (f10_trial_j18 s1 s4 s10) else (Option.bind (f4_weightOf a1 s4) fun q_25 => Option.bind (f10_isWithin a2 ((0 : Int32)) q_25) fun q_34 => if q_34 = 0 then (some ((-1 : Int32), s1, s4)) else (nm ((q_25 - a2)) fun n_46 => Option.bind (f4_charge ((2 : Int32)) a1 ((a2).toInt64) s4) fun q_56 => if n_46 = 0 then (f10_trial_j85 n_46 a1 n_46 a3 ((12 : Int32)) s1 q_56 s10) else (Option.bind (f4_placeOf a1 q_56) fun q_82 => f10_trial_j85 n_46 a1 n_46 a3 q_82 s1 q_56 s10))))
set_option maxHeartbeats 4000000 in
set_option maxRecDepth 100000 in
theorem m10_trial (l : Launch) (D : va_G) (ad : Nat → Nat) (cy : Nat → ClassId) (sz : Nat) (s0 s1 s2 s3 s4 s5 s6 s7 s8 s9 s10 : OS) (a1 : Int32) (a2 : Int32) (a3 : Int32) (r : Int32 × OS × OS) (h : f10_trial a1 a2 a3 s1 s4 s10 = some r) : Met l yX10_trial (wsOf yX10_trial cX10_trial 6 (some .int)) (rmL 3) (va_Pc ([.ref (ad 10), .int a1, .int a2, .int a3] : List Value) (PreG D cy (cellsC ad cy s0 s1 s2 s3 s4 s5 s6 s7 s8 s9 s10) sz (NC ad))) (QcI D ad 67 (cellsC ad cy s0 r.2.1 s2 s3 r.2.2 s5 s6 s7 s8 s9 s10) (r.1) sz) 0 0 (Afr ad 67 sz) := by
  refine metG (own := RX10) (by decide) rfl (Nat.le_of_ble_eq_true rfl) fstC ?_ sz
  intro p e s m below meth c ls C0 hw hl
  obtain ⟨hx, hb, hml, hown, hts, hr, hlk, hK, hN⟩ := C0
  have hl : lv_has ls 6 [(0, .ref (ad 10)), (1, .int a1), (2, .int a2), (3, .int a3)] := hl
  generalize hQ : MQ below (QcI D ad 67 (cellsC ad cy s0 r.2.1 s2 s3 r.2.2 s5 s6 s7 s8 s9 s10) (r.1) s.heap.size) ([.ref (ad 10), .int a1, .int a2, .int a3] : List Value).toArray s 0 0 (Afr ad 67 s.heap.size) = Q
  obtain ⟨H, hH⟩ : ∃ H : Heap, H = s.heap := ⟨_, rfl⟩
  obtain ⟨locs, hlc⟩ : ∃ L : List Loc, L = [] := ⟨_, rfl⟩
  have hw : Wd D (cellsC ad cy s0 s1 s2 s3 s4 s5 s6 s7 s8 s9 s10) (Afr ad 67 s.heap.size) s.heap H locs := by rw [hH, hlc]; exact hw
  suffices h0 : W p l e (rmL 3) s m ([.ref (ad 10), .int a1, .int a2, .int a3] : List Value).toArray below meth c H locs 0 0 Q (F0 m 0 ls []) by rw [hH, hlc] at h0; exact h0
  clear hH hlc
  unfold f10_trial at h
  have hJ_85 : ∀ (v5_j85 : Int32) (k1_j85 : Int32) (k2_j85 : Int32) (k3_j85 : Int32) (k4_j85 : Int32) (s1_j85 : OS) (s4_j85 : OS) (H : Heap) (locs : List Loc) (ls : Array Slot), f10_trial_j85 v5_j85 k1_j85 k2_j85 k3_j85 k4_j85 s1_j85 s4_j85 s10 = some r → Wd D (cellsC ad cy s0 s1_j85 s2 s3 s4_j85 s5 s6 s7 s8 s9 s10) (Afr ad 67 s.heap.size) s.heap H locs → lv_has ls 6 [(0, .ref (ad 10)), (5, .int v5_j85)] → W p l e (rmL 3) s m ([.ref (ad 10), .int a1, .int a2, .int a3] : List Value).toArray below meth c H locs 0 0 Q (F0 m 85 ls [.int k4_j85, .int k3_j85, .int k2_j85, .int k1_j85, .ref (ad 4)]) := by
    intro v5_j85 k1_j85 k2_j85 k3_j85 k4_j85 s1_j85 s4_j85 H locs ls h hw hl
    unfold f10_trial_j85 at h
    refine lv_aload_n hx hb dX10_trial_85 rfl (lv_at hl 0 rfl) ?_
    refine gX10_69 hx hb hts hown hK hw dX10_trial_86 ?_
    obtain ⟨q_89, h_89, h⟩ := bnd_e h
    have pg_89 := preG (av := [.ref (ad 4), .int k1_j85, .int k2_j85, .int k3_j85, .int k4_j85, .int ((s10.1 0 9))]) hK hw.1 hw.2.1 (NC_keep hN hw.2.2) NC_blind
    refine endV (mc := 0) (ms := 0) (va_runV (As := [.int k1_j85, .int k2_j85, .int k3_j85, .int k4_j85, .int ((s10.1 0 9))]) (rest := []) ⟨hx, hb, hml, hown, hts⟩ (m4_change l D ad cy H.size s0 s1_j85 s2 s3 s4_j85 s5 s6 s7 s8 s9 s10 k1_j85 k2_j85 k3_j85 k4_j85 ((s10.1 0 9)) q_89 h_89) (wX10_108 1 hts ⟨Nat.le_of_ble_eq_true rfl, Nat.le_of_ble_eq_true rfl⟩) ⟨pg_89.1, va_recv hK hw.1 (ci := 4) (q0 := 4) rfl eC_4, pg_89.2⟩ rfl rfl hl.1 rfl (lv_room (Nat.le_of_ble_eq_true rfl)) dX10_trial_89 ⟨Nat.le_refl _, Nat.le_refl _⟩) hw.2.2 (afr_in hw.2.2) (fun H locs hw => ?_)
    refine lv_iload hx hb dX10_trial_92 (lv_at hl 1 rfl) ?_
    have h := Option.some.inj h
    subst h
    rw [← hQ]
    exact retI hx hb hr hlk hw rfl dX10_trial_94
  have hJ_18 : ∀ (s1_j18 : OS) (s4_j18 : OS) (H : Heap) (locs : List Loc) (ls : Array Slot), f10_trial_j18 s1_j18 s4_j18 s10 = some r → Wd D (cellsC ad cy s0 s1_j18 s2 s3 s4_j18 s5 s6 s7 s8 s9 s10) (Afr ad 67 s.heap.size) s.heap H locs → lv_has ls 6 [] → W p l e (rmL 3) s m ([.ref (ad 10), .int a1, .int a2, .int a3] : List Value).toArray below meth c H locs 0 0 Q (F0 m 18 ls []) := by
    intro s1_j18 s4_j18 H locs ls h hw hl
    unfold f10_trial_j18 at h
    refine lv_iconst (v := (-1)) hx hb dX10_trial_18 (by decide) ?_
    have h := Option.some.inj h
    subst h
    rw [← hQ]
    exact retI hx hb hr hlk hw rfl dX10_trial_19
  refine lv_iload_n hx hb dX10_trial_0 rfl (lv_at hl 3 rfl) ?_
  obtain ⟨q_1, h_1, h⟩ := bnd_e h
  have pg_1 := preG (av := [.int a3]) hK hw.1 hw.2.1 (NC_keep hN hw.2.2) NC_blind
  refine endI (mc := 0) (ms := 0) (va_runS (As := [.int a3]) (rest := []) ⟨hx, hb, hml, hown, hts⟩ (m10_isBits l D ad cy H.size s0 s1 s2 s3 s4 s5 s6 s7 s8 s9 s10 a3 q_1 h_1) (wX10_80 1 hts ⟨Nat.le_of_ble_eq_true rfl, Nat.le_of_ble_eq_true rfl⟩) pg_1 rfl rfl hl.1 rfl (lv_room (Nat.le_of_ble_eq_true rfl)) dX10_trial_1 ⟨Nat.le_refl _, Nat.le_refl _⟩) hw.2.2 (afr_in hw.2.2) (fun H locs hw => ?_)
  refine lv_if_eq (tgt := 18) hx hb dX10_trial_4 (by decide) (fun c_4 => ?_) (fun c_4 => ?_)
  · have h := ite_t c_4 h
    exact hJ_18 s1 s4 H locs ls h hw (lv_sub hl [] rfl)
  · have h := ite_f c_4 h
    refine lv_aload_n hx hb dX10_trial_7 rfl (lv_at hl 0 rfl) ?_
    refine gX10_23 hx hb hts hown hK hw dX10_trial_8 ?_
    refine lv_iload_n hx hb dX10_trial_11 rfl (lv_at hl 1 rfl) ?_
    obtain ⟨q_12, h_12, h⟩ := bnd_e h
    have pg_12 := preG (av := [.ref (ad 4), .int a1]) hK hw.1 hw.2.1 (NC_keep hN hw.2.2) NC_blind
    refine endI (mc := 0) (ms := 0) (va_runV (As := [.int a1]) (rest := []) ⟨hx, hb, hml, hown, hts⟩ (m4_isAtHand l D ad cy H.size s0 s1 s2 s3 s4 s5 s6 s7 s8 s9 s10 a1 q_12 h_12) (wX10_130 2 hts ⟨Nat.le_of_ble_eq_true rfl, Nat.le_of_ble_eq_true rfl⟩) ⟨pg_12.1, va_recv hK hw.1 (ci := 4) (q0 := 4) rfl eC_4, pg_12.2⟩ rfl rfl hl.1 rfl (lv_room (Nat.le_of_ble_eq_true rfl)) dX10_trial_12 ⟨Nat.le_refl _, Nat.le_refl _⟩) hw.2.2 (afr_in hw.2.2) (fun H locs hw => ?_)
    refine lv_if_ne (tgt := 20) hx hb dX10_trial_15 (by decide) (fun c_15 => ?_) (fun c_15 => ?_)
    · have h := ite_f c_15 h
      refine lv_aload_n hx hb dX10_trial_20 rfl (lv_at hl 0 rfl) ?_
      refine gX10_23 hx hb hts hown hK hw dX10_trial_21 ?_
      refine lv_iload_n hx hb dX10_trial_24 rfl (lv_at hl 1 rfl) ?_
      obtain ⟨q_25, h_25, h⟩ := bnd_e h
      have pg_25 := preG (av := [.ref (ad 4), .int a1]) hK hw.1 hw.2.1 (NC_keep hN hw.2.2) NC_blind
      refine endI (mc := 0) (ms := 0) (va_runV (As := [.int a1]) (rest := []) ⟨hx, hb, hml, hown, hts⟩ (m4_weightOf l D ad cy H.size s0 s1 s2 s3 s4 s5 s6 s7 s8 s9 s10 a1 q_25 h_25) (wX10_104 1 hts ⟨Nat.le_of_ble_eq_true rfl, Nat.le_of_ble_eq_true rfl⟩) ⟨pg_25.1, va_recv hK hw.1 (ci := 4) (q0 := 4) rfl eC_4, pg_25.2⟩ rfl rfl hl.1 rfl (lv_room (Nat.le_of_ble_eq_true rfl)) dX10_trial_25 ⟨Nat.le_refl _, Nat.le_refl _⟩) hw.2.2 (afr_in hw.2.2) (fun H locs hw => ?_)
      refine lv_istore (lv' := [(4, .int q_25), (0, .ref (ad 10)), (1, .int a1), (2, .int a2), (3, .int a3)]) hx hb dX10_trial_28 hl (by decide) rfl (fun ls hl => ?_)
      refine lv_iload_n hx hb dX10_trial_30 rfl (lv_at hl 3 rfl) ?_
      refine lv_iconst (v := 0) hx hb dX10_trial_31 (by decide) ?_
      refine lv_iload hx hb dX10_trial_32 (lv_at hl 0 rfl) ?_
      obtain ⟨q_34, h_34, h⟩ := bnd_e h
      have pg_34 := preG (av := [.int a2, .int ((0 : Int32)), .int q_25]) hK hw.1 hw.2.1 (NC_keep hN hw.2.2) NC_blind
      refine endI (mc := 0) (ms := 0) (va_runS (As := [.int a2, .int ((0 : Int32)), .int q_25]) (rest := []) ⟨hx, hb, hml, hown, hts⟩ (m10_isWithin l D ad cy H.size s0 s1 s2 s3 s4 s5 s6 s7 s8 s9 s10 a2 ((0 : Int32)) q_25 q_34 h_34) (wX10_86 0 hts ⟨Nat.le_of_ble_eq_true rfl, Nat.le_of_ble_eq_true rfl⟩) pg_34 rfl rfl hl.1 rfl (lv_room (Nat.le_of_ble_eq_true rfl)) dX10_trial_34 ⟨Nat.le_refl _, Nat.le_refl _⟩) hw.2.2 (afr_in hw.2.2) (fun H locs hw => ?_)
      refine lv_if_ne (tgt := 42) hx hb dX10_trial_37 (by decide) (fun c_37 => ?_) (fun c_37 => ?_)
      · have h := ite_f c_37 h
        refine lv_iload hx hb dX10_trial_42 (lv_at hl 0 rfl) ?_
        refine lv_iload_n hx hb dX10_trial_44 rfl (lv_at hl 3 rfl) ?_
        refine lv_isub hx hb dX10_trial_45 ?_
        obtain ⟨n_46, e_46, h⟩ := nam_e h
        refine topI e_46 ?_
        refine lv_istore (lv' := [(5, .int n_46), (4, .int q_25), (0, .ref (ad 10)), (1, .int a1), (2, .int a2), (3, .int a3)]) hx hb dX10_trial_46 hl (by decide) rfl (fun ls hl => ?_)
        refine lv_aload_n hx hb dX10_trial_48 rfl (lv_at hl 2 rfl) ?_
        refine gX10_23 hx hb hts hown hK hw dX10_trial_49 ?_
        refine lv_iconst (v := 2) hx hb dX10_trial_52 (by decide) ?_
        refine lv_iload_n hx hb dX10_trial_53 rfl (lv_at hl 3 rfl) ?_
        refine lv_iload_n hx hb dX10_trial_54 rfl (lv_at hl 4 rfl) ?_
        refine lv_i2l hx hb dX10_trial_55 rfl ?_
        obtain ⟨q_56, h_56, h⟩ := bnd_e h
        have pg_56 := preG (av := [.ref (ad 4), .int ((2 : Int32)), .int a1, .long ((a2).toInt64)]) hK hw.1 hw.2.1 (NC_keep hN hw.2.2) NC_blind
        refine endV (mc := 0) (ms := 0) (va_runV (As := [.int ((2 : Int32)), .int a1, .long ((a2).toInt64)]) (rest := []) ⟨hx, hb, hml, hown, hts⟩ (m4_charge l D ad cy H.size s0 s1 s2 s3 s4 s5 s6 s7 s8 s9 s10 ((2 : Int32)) a1 ((a2).toInt64) q_56 h_56) (wX10_153 2 hts ⟨Nat.le_of_ble_eq_true rfl, Nat.le_of_ble_eq_true rfl⟩) ⟨pg_56.1, va_recv hK hw.1 (ci := 4) (q0 := 4) rfl eC_4, pg_56.2⟩ rfl rfl hl.1 rfl (lv_room (Nat.le_of_ble_eq_true rfl)) dX10_trial_56 ⟨Nat.le_refl _, Nat.le_refl _⟩) hw.2.2 (afr_in hw.2.2) (fun H locs hw => ?_)
        refine lv_aload_n hx hb dX10_trial_59 rfl (lv_at hl 2 rfl) ?_
        refine gX10_23 hx hb hts hown hK hw dX10_trial_60 ?_
        refine lv_iload_n hx hb dX10_trial_63 rfl (lv_at hl 3 rfl) ?_
        refine lv_iload hx hb dX10_trial_64 (lv_at hl 0 rfl) ?_
        refine lv_iload_n hx hb dX10_trial_66 rfl (lv_at hl 5 rfl) ?_
        refine lv_iload hx hb dX10_trial_67 (lv_at hl 0 rfl) ?_
        refine lv_if_ne (tgt := 77) hx hb dX10_trial_69 (by decide) (fun c_69 => ?_) (fun c_69 => ?_)
        · have h := ite_f c_69 h
          refine lv_aload_n hx hb dX10_trial_77 rfl (lv_at hl 2 rfl) ?_
          refine gX10_23 hx hb hts hown hK hw dX10_trial_78 ?_
          refine lv_iload_n hx hb dX10_trial_81 rfl (lv_at hl 3 rfl) ?_
          obtain ⟨q_82, h_82, h⟩ := bnd_e h
          have pg_82 := preG (av := [.ref (ad 4), .int a1]) hK hw.1 hw.2.1 (NC_keep hN hw.2.2) NC_blind
          refine endI (mc := 0) (ms := 0) (va_runV (As := [.int a1]) (rest := [.int a3, .int n_46, .int a1, .ref (ad 4)]) ⟨hx, hb, hml, hown, hts⟩ (m4_placeOf l D ad cy H.size s0 s1 s2 s3 q_56 s5 s6 s7 s8 s9 s10 a1 q_82 h_82) (wX10_116 1 hts ⟨Nat.le_of_ble_eq_true rfl, Nat.le_of_ble_eq_true rfl⟩) ⟨pg_82.1, va_recv hK hw.1 (ci := 4) (q0 := 4) rfl eC_4, pg_82.2⟩ rfl rfl hl.1 rfl (lv_room (Nat.le_of_ble_eq_true rfl)) dX10_trial_82 ⟨Nat.le_refl _, Nat.le_refl _⟩) hw.2.2 (afr_in hw.2.2) (fun H locs hw => ?_)
          exact hJ_85 n_46 a1 n_46 a3 q_82 s1 q_56 H locs ls h hw (lv_sub hl [2, 0] rfl)
        · have h := ite_t c_69 h
          refine lv_bipush (v := 12) hx hb dX10_trial_72 (by decide) ?_
          refine lv_goto (tgt := 85) hx hb dX10_trial_74 (by decide) ?_
          exact hJ_85 n_46 a1 n_46 a3 ((12 : Int32)) s1 q_56 H locs ls h hw (lv_sub hl [2, 0] rfl)
      · have h := ite_t c_37 h
        refine lv_iconst (v := (-1)) hx hb dX10_trial_40 (by decide) ?_
        have h := Option.some.inj h
        subst h
        rw [← hQ]
        exact retI hx hb hr hlk hw rfl dX10_trial_41
    · have h := ite_t c_15 h
      exact hJ_18 s1 s4 H locs ls h hw (lv_sub hl [] rfl)
theorem dX10_was_0 : decode cX10_was 0 = .ok (.aload_n 0, 1) := by decide +kernel
theorem dX10_was_1 : decode cX10_was 1 = .ok (.getfield 23, 3) := by decide +kernel
theorem dX10_was_4 : decode cX10_was 4 = .ok (.iload_n 1, 1) := by decide +kernel
theorem dX10_was_5 : decode cX10_was 5 = .ok (.invokevirtual 258, 3) := by decide +kernel
theorem dX10_was_8 : decode cX10_was 8 = .ok (.ifCond .eq 15, 3) := by decide +kernel
theorem dX10_was_11 : decode cX10_was 11 = .ok (.iload_n 2, 1) := by decide +kernel
theorem dX10_was_12 : decode cX10_was 12 = .ok (.iconst 0, 1) := by decide +kernel
theorem dX10_was_13 : decode cX10_was 13 = .ok (.aload_n 0, 1) := by decide +kernel
theorem dX10_was_14 : decode cX10_was 14 = .ok (.getfield 69, 3) := by decide +kernel
theorem dX10_was_17 : decode cX10_was 17 = .ok (.invokestatic 86, 3) := by decide +kernel
theorem dX10_was_20 : decode cX10_was 20 = .ok (.ifCond .ne 5, 3) := by decide +kernel
theorem dX10_was_23 : decode cX10_was 23 = .ok (.iconst (-1), 1) := by decide +kernel
theorem dX10_was_24 : decode cX10_was 24 = .ok (.ireturn, 1) := by decide +kernel
theorem dX10_was_25 : decode cX10_was 25 = .ok (.aload_n 0, 1) := by decide +kernel
theorem dX10_was_26 : decode cX10_was 26 = .ok (.getfield 23, 3) := by decide +kernel
theorem dX10_was_29 : decode cX10_was 29 = .ok (.iload_n 1, 1) := by decide +kernel
theorem dX10_was_30 : decode cX10_was 30 = .ok (.iload_n 2, 1) := by decide +kernel
theorem dX10_was_31 : decode cX10_was 31 = .ok (.iload_n 3, 1) := by decide +kernel
theorem dX10_was_32 : decode cX10_was 32 = .ok (.invokevirtual 261, 3) := by decide +kernel
theorem dX10_was_35 : decode cX10_was 35 = .ok (.ireturn, 1) := by decide +kernel
noncomputable def f10_was_j23 (s1_j23 : OS) (s4_j23 : OS) (s10_j23 : OS) : Option (Int32) := some ((-1 : Int32))
noncomputable def f10_was (a1 : Int32) (a2 : Int32) (a3 : Int32) (s1 : OS) (s4 : OS) (s10 : OS) : Option (Int32) := Option.bind (f4_has a1 s4) fun q_5 => if q_5 = 0 then (f10_was_j23 s1 s4 s10) else (Option.bind (f10_isWithin a2 ((0 : Int32)) ((s10.1 0 9))) fun q_17 => if q_17 = 0 then (f10_was_j23 s1 s4 s10) else (Option.bind (f4_tellPast a1 a2 a3 s1) fun q_32 => some q_32))
set_option maxHeartbeats 4000000 in
set_option maxRecDepth 100000 in
theorem m10_was (l : Launch) (D : va_G) (ad : Nat → Nat) (cy : Nat → ClassId) (sz : Nat) (s0 s1 s2 s3 s4 s5 s6 s7 s8 s9 s10 : OS) (a1 : Int32) (a2 : Int32) (a3 : Int32) (r : Int32) (h : f10_was a1 a2 a3 s1 s4 s10 = some r) : Met l yX10_was (wsOf yX10_was cX10_was 4 (some .int)) (rmL 3) (va_Pc ([.ref (ad 10), .int a1, .int a2, .int a3] : List Value) (PreG D cy (cellsC ad cy s0 s1 s2 s3 s4 s5 s6 s7 s8 s9 s10) sz (NC ad))) (QcI D ad 67 (cellsC ad cy s0 s1 s2 s3 s4 s5 s6 s7 s8 s9 s10) (r) sz) 0 0 (Afr ad 67 sz) := by
  refine metG (own := RX10) (by decide) rfl (Nat.le_of_ble_eq_true rfl) fstC ?_ sz
  intro p e s m below meth c ls C0 hw hl
  obtain ⟨hx, hb, hml, hown, hts, hr, hlk, hK, hN⟩ := C0
  have hl : lv_has ls 4 [(0, .ref (ad 10)), (1, .int a1), (2, .int a2), (3, .int a3)] := hl
  generalize hQ : MQ below (QcI D ad 67 (cellsC ad cy s0 s1 s2 s3 s4 s5 s6 s7 s8 s9 s10) (r) s.heap.size) ([.ref (ad 10), .int a1, .int a2, .int a3] : List Value).toArray s 0 0 (Afr ad 67 s.heap.size) = Q
  obtain ⟨H, hH⟩ : ∃ H : Heap, H = s.heap := ⟨_, rfl⟩
  obtain ⟨locs, hlc⟩ : ∃ L : List Loc, L = [] := ⟨_, rfl⟩
  have hw : Wd D (cellsC ad cy s0 s1 s2 s3 s4 s5 s6 s7 s8 s9 s10) (Afr ad 67 s.heap.size) s.heap H locs := by rw [hH, hlc]; exact hw
  suffices h0 : W p l e (rmL 3) s m ([.ref (ad 10), .int a1, .int a2, .int a3] : List Value).toArray below meth c H locs 0 0 Q (F0 m 0 ls []) by rw [hH, hlc] at h0; exact h0
  clear hH hlc
  unfold f10_was at h
  have hJ_23 : ∀  (H : Heap) (locs : List Loc) (ls : Array Slot), f10_was_j23 s1 s4 s10 = some r → Wd D (cellsC ad cy s0 s1 s2 s3 s4 s5 s6 s7 s8 s9 s10) (Afr ad 67 s.heap.size) s.heap H locs → lv_has ls 4 [] → W p l e (rmL 3) s m ([.ref (ad 10), .int a1, .int a2, .int a3] : List Value).toArray below meth c H locs 0 0 Q (F0 m 23 ls []) := by
    intro  H locs ls h hw hl
    unfold f10_was_j23 at h
    refine lv_iconst (v := (-1)) hx hb dX10_was_23 (by decide) ?_
    have h := Option.some.inj h
    subst h
    rw [← hQ]
    exact retI hx hb hr hlk hw rfl dX10_was_24
  refine lv_aload_n hx hb dX10_was_0 rfl (lv_at hl 0 rfl) ?_
  refine gX10_23 hx hb hts hown hK hw dX10_was_1 ?_
  refine lv_iload_n hx hb dX10_was_4 rfl (lv_at hl 1 rfl) ?_
  obtain ⟨q_5, h_5, h⟩ := bnd_e h
  have pg_5 := preG (av := [.ref (ad 4), .int a1]) hK hw.1 hw.2.1 (NC_keep hN hw.2.2) NC_blind
  refine endI (mc := 0) (ms := 0) (va_runV (As := [.int a1]) (rest := []) ⟨hx, hb, hml, hown, hts⟩ (m4_has l D ad cy H.size s0 s1 s2 s3 s4 s5 s6 s7 s8 s9 s10 a1 q_5 h_5) (wX10_258 0 hts ⟨Nat.le_of_ble_eq_true rfl, Nat.le_of_ble_eq_true rfl⟩) ⟨pg_5.1, va_recv hK hw.1 (ci := 4) (q0 := 4) rfl eC_4, pg_5.2⟩ rfl rfl hl.1 rfl (lv_room (Nat.le_of_ble_eq_true rfl)) dX10_was_5 ⟨Nat.le_refl _, Nat.le_refl _⟩) hw.2.2 (afr_in hw.2.2) (fun H locs hw => ?_)
  refine lv_if_eq (tgt := 23) hx hb dX10_was_8 (by decide) (fun c_8 => ?_) (fun c_8 => ?_)
  · have h := ite_t c_8 h
    exact hJ_23  H locs ls h hw (lv_sub hl [] rfl)
  · have h := ite_f c_8 h
    refine lv_iload_n hx hb dX10_was_11 rfl (lv_at hl 2 rfl) ?_
    refine lv_iconst (v := 0) hx hb dX10_was_12 (by decide) ?_
    refine lv_aload_n hx hb dX10_was_13 rfl (lv_at hl 0 rfl) ?_
    refine gX10_69 hx hb hts hown hK hw dX10_was_14 ?_
    obtain ⟨q_17, h_17, h⟩ := bnd_e h
    have pg_17 := preG (av := [.int a2, .int ((0 : Int32)), .int ((s10.1 0 9))]) hK hw.1 hw.2.1 (NC_keep hN hw.2.2) NC_blind
    refine endI (mc := 0) (ms := 0) (va_runS (As := [.int a2, .int ((0 : Int32)), .int ((s10.1 0 9))]) (rest := []) ⟨hx, hb, hml, hown, hts⟩ (m10_isWithin l D ad cy H.size s0 s1 s2 s3 s4 s5 s6 s7 s8 s9 s10 a2 ((0 : Int32)) ((s10.1 0 9)) q_17 h_17) (wX10_86 0 hts ⟨Nat.le_of_ble_eq_true rfl, Nat.le_of_ble_eq_true rfl⟩) pg_17 rfl rfl hl.1 rfl (lv_room (Nat.le_of_ble_eq_true rfl)) dX10_was_17 ⟨Nat.le_refl _, Nat.le_refl _⟩) hw.2.2 (afr_in hw.2.2) (fun H locs hw => ?_)
    refine lv_if_ne (tgt := 25) hx hb dX10_was_20 (by decide) (fun c_20 => ?_) (fun c_20 => ?_)
    · have h := ite_f c_20 h
      refine lv_aload_n hx hb dX10_was_25 rfl (lv_at hl 0 rfl) ?_
      refine gX10_23 hx hb hts hown hK hw dX10_was_26 ?_
      refine lv_iload_n hx hb dX10_was_29 rfl (lv_at hl 1 rfl) ?_
      refine lv_iload_n hx hb dX10_was_30 rfl (lv_at hl 2 rfl) ?_
      refine lv_iload_n hx hb dX10_was_31 rfl (lv_at hl 3 rfl) ?_
      obtain ⟨q_32, h_32, h⟩ := bnd_e h
      have pg_32 := preG (av := [.ref (ad 4), .int a1, .int a2, .int a3]) hK hw.1 hw.2.1 (NC_keep hN hw.2.2) NC_blind
      refine endI (mc := 0) (ms := 0) (va_runV (As := [.int a1, .int a2, .int a3]) (rest := []) ⟨hx, hb, hml, hown, hts⟩ (m4_tellPast l D ad cy H.size s0 s1 s2 s3 s4 s5 s6 s7 s8 s9 s10 a1 a2 a3 q_32 h_32) (wX10_261 2 hts ⟨Nat.le_of_ble_eq_true rfl, Nat.le_of_ble_eq_true rfl⟩) ⟨pg_32.1, va_recv hK hw.1 (ci := 4) (q0 := 4) rfl eC_4, pg_32.2⟩ rfl rfl hl.1 rfl (lv_room (Nat.le_of_ble_eq_true rfl)) dX10_was_32 ⟨Nat.le_refl _, Nat.le_refl _⟩) hw.2.2 (afr_in hw.2.2) (fun H locs hw => ?_)
      have h := Option.some.inj h
      subst h
      rw [← hQ]
      exact retI hx hb hr hlk hw rfl dX10_was_35
    · have h := ite_t c_20 h
      exact hJ_23  H locs ls h hw (lv_sub hl [] rfl)
theorem dX10_way_0 : decode cX10_way 0 = .ok (.iload_n 1, 1) := by decide +kernel
theorem dX10_way_1 : decode cX10_way 1 = .ok (.invokestatic 280, 3) := by decide +kernel
theorem dX10_way_4 : decode cX10_way 4 = .ok (.ifCond .eq 26, 3) := by decide +kernel
theorem dX10_way_7 : decode cX10_way 7 = .ok (.iload_n 2, 1) := by decide +kernel
theorem dX10_way_8 : decode cX10_way 8 = .ok (.invokestatic 280, 3) := by decide +kernel
theorem dX10_way_11 : decode cX10_way 11 = .ok (.ifCond .eq 19, 3) := by decide +kernel
theorem dX10_way_14 : decode cX10_way 14 = .ok (.iload_n 1, 1) := by decide +kernel
theorem dX10_way_15 : decode cX10_way 15 = .ok (.iload_n 2, 1) := by decide +kernel
theorem dX10_way_16 : decode cX10_way 16 = .ok (.if_icmp .eq 14, 3) := by decide +kernel
theorem dX10_way_19 : decode cX10_way 19 = .ok (.iload_n 3, 1) := by decide +kernel
theorem dX10_way_20 : decode cX10_way 20 = .ok (.iconst 1, 1) := by decide +kernel
theorem dX10_way_21 : decode cX10_way 21 = .ok (.sipush 1000, 3) := by decide +kernel
theorem dX10_way_24 : decode cX10_way 24 = .ok (.invokestatic 86, 3) := by decide +kernel
theorem dX10_way_27 : decode cX10_way 27 = .ok (.ifCond .ne 5, 3) := by decide +kernel
theorem dX10_way_30 : decode cX10_way 30 = .ok (.iconst 0, 1) := by decide +kernel
theorem dX10_way_31 : decode cX10_way 31 = .ok (.ireturn, 1) := by decide +kernel
theorem dX10_way_32 : decode cX10_way 32 = .ok (.aload_n 0, 1) := by decide +kernel
theorem dX10_way_33 : decode cX10_way 33 = .ok (.getfield 58, 3) := by decide +kernel
theorem dX10_way_36 : decode cX10_way 36 = .ok (.iload_n 1, 1) := by decide +kernel
theorem dX10_way_37 : decode cX10_way 37 = .ok (.iload_n 2, 1) := by decide +kernel
theorem dX10_way_38 : decode cX10_way 38 = .ok (.iload_n 3, 1) := by decide +kernel
theorem dX10_way_39 : decode cX10_way 39 = .ok (.invokevirtual 283, 3) := by decide +kernel
theorem dX10_way_42 : decode cX10_way 42 = .ok (.iconst 1, 1) := by decide +kernel
theorem dX10_way_43 : decode cX10_way 43 = .ok (.ireturn, 1) := by decide +kernel
def f10_way_j30 (s9_j30 : OS) : Option (Int32 × OS) := some ((0 : Int32), s9_j30)
def f10_way (a1 : Int32) (a2 : Int32) (a3 : Int32) (s9 : OS) : Option (Int32 × OS) := Option.bind (f10_isPlace a1) fun q_1 => if q_1 = 0 then (f10_way_j30 s9) else (Option.bind (f10_isPlace a2) fun q_8 => if q_8 = 0 then (f10_way_j30 s9) else (if a1 = a2 then (f10_way_j30 s9) else (Option.bind (f10_isWithin a3 ((1 : Int32)) ((1000 : Int32))) fun q_24 => if q_24 = 0 then (f10_way_j30 s9) else (Option.bind (f9_connect a1 a2 a3 s9) fun q_39 => some ((1 : Int32), q_39)))))
set_option maxHeartbeats 4000000 in
set_option maxRecDepth 100000 in
theorem m10_way (l : Launch) (D : va_G) (ad : Nat → Nat) (cy : Nat → ClassId) (sz : Nat) (s0 s1 s2 s3 s4 s5 s6 s7 s8 s9 s10 : OS) (a1 : Int32) (a2 : Int32) (a3 : Int32) (r : Int32 × OS) (h : f10_way a1 a2 a3 s9 = some r) : Met l yX10_way (wsOf yX10_way cX10_way 4 (some .boolean)) (rmL 3) (va_Pc ([.ref (ad 10), .int a1, .int a2, .int a3] : List Value) (PreG D cy (cellsC ad cy s0 s1 s2 s3 s4 s5 s6 s7 s8 s9 s10) sz (NC ad))) (QcI D ad 67 (cellsC ad cy s0 s1 s2 s3 s4 s5 s6 s7 s8 r.2 s10) (r.1) sz) 0 0 (Afr ad 67 sz) := by
  refine metG (own := RX10) (by decide) rfl (Nat.le_of_ble_eq_true rfl) fstC ?_ sz
  intro p e s m below meth c ls C0 hw hl
  obtain ⟨hx, hb, hml, hown, hts, hr, hlk, hK, hN⟩ := C0
  have hl : lv_has ls 4 [(0, .ref (ad 10)), (1, .int a1), (2, .int a2), (3, .int a3)] := hl
  generalize hQ : MQ below (QcI D ad 67 (cellsC ad cy s0 s1 s2 s3 s4 s5 s6 s7 s8 r.2 s10) (r.1) s.heap.size) ([.ref (ad 10), .int a1, .int a2, .int a3] : List Value).toArray s 0 0 (Afr ad 67 s.heap.size) = Q
  obtain ⟨H, hH⟩ : ∃ H : Heap, H = s.heap := ⟨_, rfl⟩
  obtain ⟨locs, hlc⟩ : ∃ L : List Loc, L = [] := ⟨_, rfl⟩
  have hw : Wd D (cellsC ad cy s0 s1 s2 s3 s4 s5 s6 s7 s8 s9 s10) (Afr ad 67 s.heap.size) s.heap H locs := by rw [hH, hlc]; exact hw
  suffices h0 : W p l e (rmL 3) s m ([.ref (ad 10), .int a1, .int a2, .int a3] : List Value).toArray below meth c H locs 0 0 Q (F0 m 0 ls []) by rw [hH, hlc] at h0; exact h0
  clear hH hlc
  unfold f10_way at h
  have hJ_30 : ∀ (s9_j30 : OS) (H : Heap) (locs : List Loc) (ls : Array Slot), f10_way_j30 s9_j30 = some r → Wd D (cellsC ad cy s0 s1 s2 s3 s4 s5 s6 s7 s8 s9_j30 s10) (Afr ad 67 s.heap.size) s.heap H locs → lv_has ls 4 [] → W p l e (rmL 3) s m ([.ref (ad 10), .int a1, .int a2, .int a3] : List Value).toArray below meth c H locs 0 0 Q (F0 m 30 ls []) := by
    intro s9_j30 H locs ls h hw hl
    unfold f10_way_j30 at h
    refine lv_iconst (v := 0) hx hb dX10_way_30 (by decide) ?_
    have h := Option.some.inj h
    subst h
    rw [← hQ]
    exact retI hx hb hr hlk hw (narB (v := (0 : Int32)) (by decide)) dX10_way_31
  refine lv_iload_n hx hb dX10_way_0 rfl (lv_at hl 1 rfl) ?_
  obtain ⟨q_1, h_1, h⟩ := bnd_e h
  have pg_1 := preG (av := [.int a1]) hK hw.1 hw.2.1 (NC_keep hN hw.2.2) NC_blind
  refine endI (mc := 0) (ms := 0) (va_runS (As := [.int a1]) (rest := []) ⟨hx, hb, hml, hown, hts⟩ (m10_isPlace l D ad cy H.size s0 s1 s2 s3 s4 s5 s6 s7 s8 s9 s10 a1 q_1 h_1) (wX10_280 1 hts ⟨Nat.le_of_ble_eq_true rfl, Nat.le_of_ble_eq_true rfl⟩) pg_1 rfl rfl hl.1 rfl (lv_room (Nat.le_of_ble_eq_true rfl)) dX10_way_1 ⟨Nat.le_refl _, Nat.le_refl _⟩) hw.2.2 (afr_in hw.2.2) (fun H locs hw => ?_)
  refine lv_if_eq (tgt := 30) hx hb dX10_way_4 (by decide) (fun c_4 => ?_) (fun c_4 => ?_)
  · have h := ite_t c_4 h
    exact hJ_30 s9 H locs ls h hw (lv_sub hl [] rfl)
  · have h := ite_f c_4 h
    refine lv_iload_n hx hb dX10_way_7 rfl (lv_at hl 2 rfl) ?_
    obtain ⟨q_8, h_8, h⟩ := bnd_e h
    have pg_8 := preG (av := [.int a2]) hK hw.1 hw.2.1 (NC_keep hN hw.2.2) NC_blind
    refine endI (mc := 0) (ms := 0) (va_runS (As := [.int a2]) (rest := []) ⟨hx, hb, hml, hown, hts⟩ (m10_isPlace l D ad cy H.size s0 s1 s2 s3 s4 s5 s6 s7 s8 s9 s10 a2 q_8 h_8) (wX10_280 1 hts ⟨Nat.le_of_ble_eq_true rfl, Nat.le_of_ble_eq_true rfl⟩) pg_8 rfl rfl hl.1 rfl (lv_room (Nat.le_of_ble_eq_true rfl)) dX10_way_8 ⟨Nat.le_refl _, Nat.le_refl _⟩) hw.2.2 (afr_in hw.2.2) (fun H locs hw => ?_)
    refine lv_if_eq (tgt := 30) hx hb dX10_way_11 (by decide) (fun c_11 => ?_) (fun c_11 => ?_)
    · have h := ite_t c_11 h
      exact hJ_30 s9 H locs ls h hw (lv_sub hl [] rfl)
    · have h := ite_f c_11 h
      refine lv_iload_n hx hb dX10_way_14 rfl (lv_at hl 1 rfl) ?_
      refine lv_iload_n hx hb dX10_way_15 rfl (lv_at hl 2 rfl) ?_
      refine lv_icmp_eq (tgt := 30) hx hb dX10_way_16 (by decide) (fun c_16 => ?_) (fun c_16 => ?_)
      · have h := ite_t c_16 h
        exact hJ_30 s9 H locs ls h hw (lv_sub hl [] rfl)
      · have h := ite_f c_16 h
        refine lv_iload_n hx hb dX10_way_19 rfl (lv_at hl 3 rfl) ?_
        refine lv_iconst (v := 1) hx hb dX10_way_20 (by decide) ?_
        refine lv_sipush (v := 1000) hx hb dX10_way_21 (by decide) ?_
        obtain ⟨q_24, h_24, h⟩ := bnd_e h
        have pg_24 := preG (av := [.int a3, .int ((1 : Int32)), .int ((1000 : Int32))]) hK hw.1 hw.2.1 (NC_keep hN hw.2.2) NC_blind
        refine endI (mc := 0) (ms := 0) (va_runS (As := [.int a3, .int ((1 : Int32)), .int ((1000 : Int32))]) (rest := []) ⟨hx, hb, hml, hown, hts⟩ (m10_isWithin l D ad cy H.size s0 s1 s2 s3 s4 s5 s6 s7 s8 s9 s10 a3 ((1 : Int32)) ((1000 : Int32)) q_24 h_24) (wX10_86 0 hts ⟨Nat.le_of_ble_eq_true rfl, Nat.le_of_ble_eq_true rfl⟩) pg_24 rfl rfl hl.1 rfl (lv_room (Nat.le_of_ble_eq_true rfl)) dX10_way_24 ⟨Nat.le_refl _, Nat.le_refl _⟩) hw.2.2 (afr_in hw.2.2) (fun H locs hw => ?_)
        refine lv_if_ne (tgt := 32) hx hb dX10_way_27 (by decide) (fun c_27 => ?_) (fun c_27 => ?_)
        · have h := ite_f c_27 h
          refine lv_aload_n hx hb dX10_way_32 rfl (lv_at hl 0 rfl) ?_
          refine gX10_58 hx hb hts hown hK hw dX10_way_33 ?_
          refine lv_iload_n hx hb dX10_way_36 rfl (lv_at hl 1 rfl) ?_
          refine lv_iload_n hx hb dX10_way_37 rfl (lv_at hl 2 rfl) ?_
          refine lv_iload_n hx hb dX10_way_38 rfl (lv_at hl 3 rfl) ?_
          obtain ⟨q_39, h_39, h⟩ := bnd_e h
          have pg_39 := preG (av := [.ref (ad 9), .int a1, .int a2, .int a3]) hK hw.1 hw.2.1 (NC_keep hN hw.2.2) NC_blind
          refine endV (mc := 0) (ms := 0) (va_runV (As := [.int a1, .int a2, .int a3]) (rest := []) ⟨hx, hb, hml, hown, hts⟩ (m9_connect l D ad cy H.size s0 s1 s2 s3 s4 s5 s6 s7 s8 s9 s10 a1 a2 a3 q_39 h_39) (wX10_283 2 hts ⟨Nat.le_of_ble_eq_true rfl, Nat.le_of_ble_eq_true rfl⟩) ⟨pg_39.1, va_recv hK hw.1 (ci := 9) (q0 := 9) rfl eC_9, pg_39.2⟩ rfl rfl hl.1 rfl (lv_room (Nat.le_of_ble_eq_true rfl)) dX10_way_39 ⟨Nat.le_refl _, Nat.le_refl _⟩) hw.2.2 (afr_in hw.2.2) (fun H locs hw => ?_)
          refine lv_iconst (v := 1) hx hb dX10_way_42 (by decide) ?_
          have h := Option.some.inj h
          subst h
          rw [← hQ]
          exact retI hx hb hr hlk hw (narB (v := (1 : Int32)) (by decide)) dX10_way_43
        · have h := ite_t c_27 h
          exact hJ_30 s9 H locs ls h hw (lv_sub hl [] rfl)
theorem dX10_weigh_0 : decode cX10_weigh 0 = .ok (.iload_n 2, 1) := by decide +kernel
theorem dX10_weigh_1 : decode cX10_weigh 1 = .ok (.iconst 0, 1) := by decide +kernel
theorem dX10_weigh_2 : decode cX10_weigh 2 = .ok (.iconst 3, 1) := by decide +kernel
theorem dX10_weigh_3 : decode cX10_weigh 3 = .ok (.invokestatic 86, 3) := by decide +kernel
theorem dX10_weigh_6 : decode cX10_weigh 6 = .ok (.ifCond .eq 26, 3) := by decide +kernel
theorem dX10_weigh_9 : decode cX10_weigh 9 = .ok (.iload_n 3, 1) := by decide +kernel
theorem dX10_weigh_10 : decode cX10_weigh 10 = .ok (.iconst 0, 1) := by decide +kernel
theorem dX10_weigh_11 : decode cX10_weigh 11 = .ok (.ldc_w 264, 3) := by decide +kernel
theorem dX10_weigh_14 : decode cX10_weigh 14 = .ok (.invokestatic 86, 3) := by decide +kernel
theorem dX10_weigh_17 : decode cX10_weigh 17 = .ok (.ifCond .eq 15, 3) := by decide +kernel
theorem dX10_weigh_20 : decode cX10_weigh 20 = .ok (.iload 4, 2) := by decide +kernel
theorem dX10_weigh_22 : decode cX10_weigh 22 = .ok (.iconst 0, 1) := by decide +kernel
theorem dX10_weigh_23 : decode cX10_weigh 23 = .ok (.sipush 1000, 3) := by decide +kernel
theorem dX10_weigh_26 : decode cX10_weigh 26 = .ok (.invokestatic 86, 3) := by decide +kernel
theorem dX10_weigh_29 : decode cX10_weigh 29 = .ok (.ifCond .ne 5, 3) := by decide +kernel
theorem dX10_weigh_32 : decode cX10_weigh 32 = .ok (.iconst 0, 1) := by decide +kernel
theorem dX10_weigh_33 : decode cX10_weigh 33 = .ok (.ireturn, 1) := by decide +kernel
theorem dX10_weigh_34 : decode cX10_weigh 34 = .ok (.aload_n 0, 1) := by decide +kernel
theorem dX10_weigh_35 : decode cX10_weigh 35 = .ok (.getfield 23, 3) := by decide +kernel
theorem dX10_weigh_38 : decode cX10_weigh 38 = .ok (.iload_n 1, 1) := by decide +kernel
theorem dX10_weigh_39 : decode cX10_weigh 39 = .ok (.invokevirtual 98, 3) := by decide +kernel
theorem dX10_weigh_42 : decode cX10_weigh 42 = .ok (.ifCond .eq 13, 3) := by decide +kernel
theorem dX10_weigh_45 : decode cX10_weigh 45 = .ok (.aload_n 0, 1) := by decide +kernel
theorem dX10_weigh_46 : decode cX10_weigh 46 = .ok (.getfield 44, 3) := by decide +kernel
theorem dX10_weigh_49 : decode cX10_weigh 49 = .ok (.invokevirtual 265, 3) := by decide +kernel
theorem dX10_weigh_52 : decode cX10_weigh 52 = .ok (.ifCond .ne 5, 3) := by decide +kernel
theorem dX10_weigh_55 : decode cX10_weigh 55 = .ok (.iconst 0, 1) := by decide +kernel
theorem dX10_weigh_56 : decode cX10_weigh 56 = .ok (.ireturn, 1) := by decide +kernel
theorem dX10_weigh_57 : decode cX10_weigh 57 = .ok (.iload_n 3, 1) := by decide +kernel
theorem dX10_weigh_58 : decode cX10_weigh 58 = .ok (.aload_n 0, 1) := by decide +kernel
theorem dX10_weigh_59 : decode cX10_weigh 59 = .ok (.getfield 23, 3) := by decide +kernel
theorem dX10_weigh_62 : decode cX10_weigh 62 = .ok (.iload_n 1, 1) := by decide +kernel
theorem dX10_weigh_63 : decode cX10_weigh 63 = .ok (.invokevirtual 104, 3) := by decide +kernel
theorem dX10_weigh_66 : decode cX10_weigh 66 = .ok (.isub, 1) := by decide +kernel
theorem dX10_weigh_67 : decode cX10_weigh 67 = .ok (.istore 5, 2) := by decide +kernel
theorem dX10_weigh_69 : decode cX10_weigh 69 = .ok (.aload_n 0, 1) := by decide +kernel
theorem dX10_weigh_70 : decode cX10_weigh 70 = .ok (.getfield 44, 3) := by decide +kernel
theorem dX10_weigh_73 : decode cX10_weigh 73 = .ok (.iload_n 2, 1) := by decide +kernel
theorem dX10_weigh_74 : decode cX10_weigh 74 = .ok (.aload_n 0, 1) := by decide +kernel
theorem dX10_weigh_75 : decode cX10_weigh 75 = .ok (.getfield 69, 3) := by decide +kernel
theorem dX10_weigh_78 : decode cX10_weigh 78 = .ok (.iload 5, 2) := by decide +kernel
theorem dX10_weigh_80 : decode cX10_weigh 80 = .ok (.iload 4, 2) := by decide +kernel
theorem dX10_weigh_82 : decode cX10_weigh 82 = .ok (.isub, 1) := by decide +kernel
theorem dX10_weigh_83 : decode cX10_weigh 83 = .ok (.iload 5, 2) := by decide +kernel
theorem dX10_weigh_85 : decode cX10_weigh 85 = .ok (.iload 4, 2) := by decide +kernel
theorem dX10_weigh_87 : decode cX10_weigh 87 = .ok (.iadd, 1) := by decide +kernel
theorem dX10_weigh_88 : decode cX10_weigh 88 = .ok (.invokevirtual 266, 3) := by decide +kernel
theorem dX10_weigh_91 : decode cX10_weigh 91 = .ok (.iconst 1, 1) := by decide +kernel
theorem dX10_weigh_92 : decode cX10_weigh 92 = .ok (.ireturn, 1) := by decide +kernel
def f10_weigh_j55 (s7_j55 : OS) (s4_j55 : OS) (s10_j55 : OS) : Option (Int32 × OS) := some ((0 : Int32), s7_j55)
def f10_weigh_j32 (s7_j32 : OS) (s4_j32 : OS) (s10_j32 : OS) : Option (Int32 × OS) := some ((0 : Int32), s7_j32)
def f10_weigh (a1 : Int32) (a2 : Int32) (a3 : Int32) (a4 : Int32) (s4 : OS) (s7 : OS) (s10 : OS) : Option (Int32 × OS) := Option.bind (f10_isWithin a2 ((0 : Int32)) ((3 : Int32))) fun q_3 => if q_3 = 0 then (f10_weigh_j32 s7 s4 s10) else (Option.bind (f10_isWithin a3 ((0 : Int32)) ((1000001000 : Int32))) fun q_14 => if q_14 = 0 then (f10_weigh_j32 s7 s4 s10) else (Option.bind (f10_isWithin a4 ((0 : Int32)) ((1000 : Int32))) fun q_26 => if q_26 = 0 then (f10_weigh_j32 s7 s4 s10) else (Option.bind (f4_lies a1 s4) fun q_39 => if q_39 = 0 then (f10_weigh_j55 s7 s4 s10) else (Option.bind (f7_hasRoom s7) fun q_49 => if q_49 = 0 then (f10_weigh_j55 s7 s4 s10) else (Option.bind (f4_weightOf a1 s4) fun q_63 => nm ((a3 - q_63)) fun n_67 => Option.bind (f7_add a2 ((s10.1 0 9)) ((n_67 - a4)) ((n_67 + a4)) s7) fun q_88 => some ((1 : Int32), q_88))))))
set_option maxHeartbeats 4000000 in
set_option maxRecDepth 100000 in
theorem m10_weigh (l : Launch) (D : va_G) (ad : Nat → Nat) (cy : Nat → ClassId) (sz : Nat) (s0 s1 s2 s3 s4 s5 s6 s7 s8 s9 s10 : OS) (a1 : Int32) (a2 : Int32) (a3 : Int32) (a4 : Int32) (r : Int32 × OS) (h : f10_weigh a1 a2 a3 a4 s4 s7 s10 = some r) : Met l yX10_weigh (wsOf yX10_weigh cX10_weigh 6 (some .boolean)) (rmL 2) (va_Pc ([.ref (ad 10), .int a1, .int a2, .int a3, .int a4] : List Value) (PreG D cy (cellsC ad cy s0 s1 s2 s3 s4 s5 s6 s7 s8 s9 s10) sz (NC ad))) (QcI D ad 67 (cellsC ad cy s0 s1 s2 s3 s4 s5 s6 r.2 s8 s9 s10) (r.1) sz) 0 0 (Afr ad 67 sz) := by
  refine metG (own := RX10) (by decide) rfl (Nat.le_of_ble_eq_true rfl) fstC ?_ sz
  intro p e s m below meth c ls C0 hw hl
  obtain ⟨hx, hb, hml, hown, hts, hr, hlk, hK, hN⟩ := C0
  have hl : lv_has ls 6 [(0, .ref (ad 10)), (1, .int a1), (2, .int a2), (3, .int a3), (4, .int a4)] := hl
  generalize hQ : MQ below (QcI D ad 67 (cellsC ad cy s0 s1 s2 s3 s4 s5 s6 r.2 s8 s9 s10) (r.1) s.heap.size) ([.ref (ad 10), .int a1, .int a2, .int a3, .int a4] : List Value).toArray s 0 0 (Afr ad 67 s.heap.size) = Q
  obtain ⟨H, hH⟩ : ∃ H : Heap, H = s.heap := ⟨_, rfl⟩
  obtain ⟨locs, hlc⟩ : ∃ L : List Loc, L = [] := ⟨_, rfl⟩
  have hw : Wd D (cellsC ad cy s0 s1 s2 s3 s4 s5 s6 s7 s8 s9 s10) (Afr ad 67 s.heap.size) s.heap H locs := by rw [hH, hlc]; exact hw
  suffices h0 : W p l e (rmL 2) s m ([.ref (ad 10), .int a1, .int a2, .int a3, .int a4] : List Value).toArray below meth c H locs 0 0 Q (F0 m 0 ls []) by rw [hH, hlc] at h0; exact h0
  clear hH hlc
  unfold f10_weigh at h
  have hJ_55 : ∀ (s7_j55 : OS) (H : Heap) (locs : List Loc) (ls : Array Slot), f10_weigh_j55 s7_j55 s4 s10 = some r → Wd D (cellsC ad cy s0 s1 s2 s3 s4 s5 s6 s7_j55 s8 s9 s10) (Afr ad 67 s.heap.size) s.heap H locs → lv_has ls 6 [] → W p l e (rmL 2) s m ([.ref (ad 10), .int a1, .int a2, .int a3, .int a4] : List Value).toArray below meth c H locs 0 0 Q (F0 m 55 ls []) := by
    intro s7_j55 H locs ls h hw hl
    unfold f10_weigh_j55 at h
    refine lv_iconst (v := 0) hx hb dX10_weigh_55 (by decide) ?_
    have h := Option.some.inj h
    subst h
    rw [← hQ]
    exact retI hx hb hr hlk hw (narB (v := (0 : Int32)) (by decide)) dX10_weigh_56
  have hJ_32 : ∀ (s7_j32 : OS) (H : Heap) (locs : List Loc) (ls : Array Slot), f10_weigh_j32 s7_j32 s4 s10 = some r → Wd D (cellsC ad cy s0 s1 s2 s3 s4 s5 s6 s7_j32 s8 s9 s10) (Afr ad 67 s.heap.size) s.heap H locs → lv_has ls 6 [] → W p l e (rmL 2) s m ([.ref (ad 10), .int a1, .int a2, .int a3, .int a4] : List Value).toArray below meth c H locs 0 0 Q (F0 m 32 ls []) := by
    intro s7_j32 H locs ls h hw hl
    unfold f10_weigh_j32 at h
    refine lv_iconst (v := 0) hx hb dX10_weigh_32 (by decide) ?_
    have h := Option.some.inj h
    subst h
    rw [← hQ]
    exact retI hx hb hr hlk hw (narB (v := (0 : Int32)) (by decide)) dX10_weigh_33
  refine lv_iload_n hx hb dX10_weigh_0 rfl (lv_at hl 2 rfl) ?_
  refine lv_iconst (v := 0) hx hb dX10_weigh_1 (by decide) ?_
  refine lv_iconst (v := 3) hx hb dX10_weigh_2 (by decide) ?_
  obtain ⟨q_3, h_3, h⟩ := bnd_e h
  have pg_3 := preG (av := [.int a2, .int ((0 : Int32)), .int ((3 : Int32))]) hK hw.1 hw.2.1 (NC_keep hN hw.2.2) NC_blind
  refine endI (mc := 0) (ms := 0) (va_runS (As := [.int a2, .int ((0 : Int32)), .int ((3 : Int32))]) (rest := []) ⟨hx, hb, hml, hown, hts⟩ (m10_isWithin l D ad cy H.size s0 s1 s2 s3 s4 s5 s6 s7 s8 s9 s10 a2 ((0 : Int32)) ((3 : Int32)) q_3 h_3) (wX10_86 0 hts ⟨Nat.le_of_ble_eq_true rfl, Nat.le_of_ble_eq_true rfl⟩) pg_3 rfl rfl hl.1 rfl (lv_room (Nat.le_of_ble_eq_true rfl)) dX10_weigh_3 ⟨Nat.le_refl _, Nat.le_refl _⟩) hw.2.2 (afr_in hw.2.2) (fun H locs hw => ?_)
  refine lv_if_eq (tgt := 32) hx hb dX10_weigh_6 (by decide) (fun c_6 => ?_) (fun c_6 => ?_)
  · have h := ite_t c_6 h
    exact hJ_32 s7 H locs ls h hw (lv_sub hl [] rfl)
  · have h := ite_f c_6 h
    refine lv_iload_n hx hb dX10_weigh_9 rfl (lv_at hl 3 rfl) ?_
    refine lv_iconst (v := 0) hx hb dX10_weigh_10 (by decide) ?_
    refine lv_ldcw (v := 1000001000) hx hb hown (hts _ (wd_4 (w := .constant RX10 264 1000001000) (i := 200) (by decide +kernel) rfl)) dX10_weigh_11 ?_
    obtain ⟨q_14, h_14, h⟩ := bnd_e h
    have pg_14 := preG (av := [.int a3, .int ((0 : Int32)), .int ((1000001000 : Int32))]) hK hw.1 hw.2.1 (NC_keep hN hw.2.2) NC_blind
    refine endI (mc := 0) (ms := 0) (va_runS (As := [.int a3, .int ((0 : Int32)), .int ((1000001000 : Int32))]) (rest := []) ⟨hx, hb, hml, hown, hts⟩ (m10_isWithin l D ad cy H.size s0 s1 s2 s3 s4 s5 s6 s7 s8 s9 s10 a3 ((0 : Int32)) ((1000001000 : Int32)) q_14 h_14) (wX10_86 0 hts ⟨Nat.le_of_ble_eq_true rfl, Nat.le_of_ble_eq_true rfl⟩) pg_14 rfl rfl hl.1 rfl (lv_room (Nat.le_of_ble_eq_true rfl)) dX10_weigh_14 ⟨Nat.le_refl _, Nat.le_refl _⟩) hw.2.2 (afr_in hw.2.2) (fun H locs hw => ?_)
    refine lv_if_eq (tgt := 32) hx hb dX10_weigh_17 (by decide) (fun c_17 => ?_) (fun c_17 => ?_)
    · have h := ite_t c_17 h
      exact hJ_32 s7 H locs ls h hw (lv_sub hl [] rfl)
    · have h := ite_f c_17 h
      refine lv_iload hx hb dX10_weigh_20 (lv_at hl 4 rfl) ?_
      refine lv_iconst (v := 0) hx hb dX10_weigh_22 (by decide) ?_
      refine lv_sipush (v := 1000) hx hb dX10_weigh_23 (by decide) ?_
      obtain ⟨q_26, h_26, h⟩ := bnd_e h
      have pg_26 := preG (av := [.int a4, .int ((0 : Int32)), .int ((1000 : Int32))]) hK hw.1 hw.2.1 (NC_keep hN hw.2.2) NC_blind
      refine endI (mc := 0) (ms := 0) (va_runS (As := [.int a4, .int ((0 : Int32)), .int ((1000 : Int32))]) (rest := []) ⟨hx, hb, hml, hown, hts⟩ (m10_isWithin l D ad cy H.size s0 s1 s2 s3 s4 s5 s6 s7 s8 s9 s10 a4 ((0 : Int32)) ((1000 : Int32)) q_26 h_26) (wX10_86 0 hts ⟨Nat.le_of_ble_eq_true rfl, Nat.le_of_ble_eq_true rfl⟩) pg_26 rfl rfl hl.1 rfl (lv_room (Nat.le_of_ble_eq_true rfl)) dX10_weigh_26 ⟨Nat.le_refl _, Nat.le_refl _⟩) hw.2.2 (afr_in hw.2.2) (fun H locs hw => ?_)
      refine lv_if_ne (tgt := 34) hx hb dX10_weigh_29 (by decide) (fun c_29 => ?_) (fun c_29 => ?_)
      · have h := ite_f c_29 h
        refine lv_aload_n hx hb dX10_weigh_34 rfl (lv_at hl 0 rfl) ?_
        refine gX10_23 hx hb hts hown hK hw dX10_weigh_35 ?_
        refine lv_iload_n hx hb dX10_weigh_38 rfl (lv_at hl 1 rfl) ?_
        obtain ⟨q_39, h_39, h⟩ := bnd_e h
        have pg_39 := preG (av := [.ref (ad 4), .int a1]) hK hw.1 hw.2.1 (NC_keep hN hw.2.2) NC_blind
        refine endI (mc := 0) (ms := 0) (va_runV (As := [.int a1]) (rest := []) ⟨hx, hb, hml, hown, hts⟩ (m4_lies l D ad cy H.size s0 s1 s2 s3 s4 s5 s6 s7 s8 s9 s10 a1 q_39 h_39) (wX10_98 1 hts ⟨Nat.le_of_ble_eq_true rfl, Nat.le_of_ble_eq_true rfl⟩) ⟨pg_39.1, va_recv hK hw.1 (ci := 4) (q0 := 4) rfl eC_4, pg_39.2⟩ rfl rfl hl.1 rfl (lv_room (Nat.le_of_ble_eq_true rfl)) dX10_weigh_39 ⟨Nat.le_refl _, Nat.le_refl _⟩) hw.2.2 (afr_in hw.2.2) (fun H locs hw => ?_)
        refine lv_if_eq (tgt := 55) hx hb dX10_weigh_42 (by decide) (fun c_42 => ?_) (fun c_42 => ?_)
        · have h := ite_t c_42 h
          exact hJ_55 s7 H locs ls h hw (lv_sub hl [] rfl)
        · have h := ite_f c_42 h
          refine lv_aload_n hx hb dX10_weigh_45 rfl (lv_at hl 0 rfl) ?_
          refine gX10_44 hx hb hts hown hK hw dX10_weigh_46 ?_
          obtain ⟨q_49, h_49, h⟩ := bnd_e h
          have pg_49 := preG (av := [.ref (ad 7)]) hK hw.1 hw.2.1 (NC_keep hN hw.2.2) NC_blind
          refine endI (mc := 0) (ms := 0) (va_runV (As := []) (rest := []) ⟨hx, hb, hml, hown, hts⟩ (m7_hasRoom l D ad cy H.size s0 s1 s2 s3 s4 s5 s6 s7 s8 s9 s10 q_49 h_49) (wX10_265 0 hts ⟨Nat.le_of_ble_eq_true rfl, Nat.le_of_ble_eq_true rfl⟩) ⟨pg_49.1, va_recv hK hw.1 (ci := 7) (q0 := 7) rfl eC_7, pg_49.2⟩ rfl rfl hl.1 rfl (lv_room (Nat.le_of_ble_eq_true rfl)) dX10_weigh_49 ⟨Nat.le_refl _, Nat.le_refl _⟩) hw.2.2 (afr_in hw.2.2) (fun H locs hw => ?_)
          refine lv_if_ne (tgt := 57) hx hb dX10_weigh_52 (by decide) (fun c_52 => ?_) (fun c_52 => ?_)
          · have h := ite_f c_52 h
            refine lv_iload_n hx hb dX10_weigh_57 rfl (lv_at hl 3 rfl) ?_
            refine lv_aload_n hx hb dX10_weigh_58 rfl (lv_at hl 0 rfl) ?_
            refine gX10_23 hx hb hts hown hK hw dX10_weigh_59 ?_
            refine lv_iload_n hx hb dX10_weigh_62 rfl (lv_at hl 1 rfl) ?_
            obtain ⟨q_63, h_63, h⟩ := bnd_e h
            have pg_63 := preG (av := [.ref (ad 4), .int a1]) hK hw.1 hw.2.1 (NC_keep hN hw.2.2) NC_blind
            refine endI (mc := 0) (ms := 0) (va_runV (As := [.int a1]) (rest := [.int a3]) ⟨hx, hb, hml, hown, hts⟩ (m4_weightOf l D ad cy H.size s0 s1 s2 s3 s4 s5 s6 s7 s8 s9 s10 a1 q_63 h_63) (wX10_104 1 hts ⟨Nat.le_of_ble_eq_true rfl, Nat.le_of_ble_eq_true rfl⟩) ⟨pg_63.1, va_recv hK hw.1 (ci := 4) (q0 := 4) rfl eC_4, pg_63.2⟩ rfl rfl hl.1 rfl (lv_room (Nat.le_of_ble_eq_true rfl)) dX10_weigh_63 ⟨Nat.le_refl _, Nat.le_refl _⟩) hw.2.2 (afr_in hw.2.2) (fun H locs hw => ?_)
            refine lv_isub hx hb dX10_weigh_66 ?_
            obtain ⟨n_67, e_67, h⟩ := nam_e h
            refine topI e_67 ?_
            refine lv_istore (lv' := [(5, .int n_67), (0, .ref (ad 10)), (1, .int a1), (2, .int a2), (3, .int a3), (4, .int a4)]) hx hb dX10_weigh_67 hl (by decide) rfl (fun ls hl => ?_)
            refine lv_aload_n hx hb dX10_weigh_69 rfl (lv_at hl 1 rfl) ?_
            refine gX10_44 hx hb hts hown hK hw dX10_weigh_70 ?_
            refine lv_iload_n hx hb dX10_weigh_73 rfl (lv_at hl 3 rfl) ?_
            refine lv_aload_n hx hb dX10_weigh_74 rfl (lv_at hl 1 rfl) ?_
            refine gX10_69 hx hb hts hown hK hw dX10_weigh_75 ?_
            refine lv_iload hx hb dX10_weigh_78 (lv_at hl 0 rfl) ?_
            refine lv_iload hx hb dX10_weigh_80 (lv_at hl 5 rfl) ?_
            refine lv_isub hx hb dX10_weigh_82 ?_
            refine lv_iload hx hb dX10_weigh_83 (lv_at hl 0 rfl) ?_
            refine lv_iload hx hb dX10_weigh_85 (lv_at hl 5 rfl) ?_
            refine lv_iadd hx hb dX10_weigh_87 ?_
            obtain ⟨q_88, h_88, h⟩ := bnd_e h
            have pg_88 := preG (av := [.ref (ad 7), .int a2, .int ((s10.1 0 9)), .int ((n_67 - a4)), .int ((n_67 + a4))]) hK hw.1 hw.2.1 (NC_keep hN hw.2.2) NC_blind
            refine endV (mc := 0) (ms := 0) (va_runV (As := [.int a2, .int ((s10.1 0 9)), .int ((n_67 - a4)), .int ((n_67 + a4))]) (rest := []) ⟨hx, hb, hml, hown, hts⟩ (m7_add l D ad cy H.size s0 s1 s2 s3 s4 s5 s6 s7 s8 s9 s10 a2 ((s10.1 0 9)) ((n_67 - a4)) ((n_67 + a4)) q_88 h_88) (wX10_266 0 hts ⟨Nat.le_of_ble_eq_true rfl, Nat.le_of_ble_eq_true rfl⟩) ⟨pg_88.1, va_recv hK hw.1 (ci := 7) (q0 := 7) rfl eC_7, pg_88.2⟩ rfl rfl hl.1 rfl (lv_room (Nat.le_of_ble_eq_true rfl)) dX10_weigh_88 ⟨Nat.le_refl _, Nat.le_refl _⟩) hw.2.2 (afr_in hw.2.2) (fun H locs hw => ?_)
            refine lv_iconst (v := 1) hx hb dX10_weigh_91 (by decide) ?_
            have h := Option.some.inj h
            subst h
            rw [← hQ]
            exact retI hx hb hr hlk hw (narB (v := (1 : Int32)) (by decide)) dX10_weigh_92
          · have h := ite_t c_52 h
            exact hJ_55 s7 H locs ls h hw (lv_sub hl [] rfl)
      · have h := ite_t c_29 h
        exact hJ_32 s7 H locs ls h hw (lv_sub hl [] rfl)
theorem dX10_where_0 : decode cX10_where 0 = .ok (.aload_n 0, 1) := by decide +kernel
theorem dX10_where_1 : decode cX10_where 1 = .ok (.getfield 58, 3) := by decide +kernel
theorem dX10_where_4 : decode cX10_where 4 = .ok (.iload_n 1, 1) := by decide +kernel
theorem dX10_where_5 : decode cX10_where 5 = .ok (.invokevirtual 291, 3) := by decide +kernel
theorem dX10_where_8 : decode cX10_where 8 = .ok (.ifCond .eq 22, 3) := by decide +kernel
theorem dX10_where_11 : decode cX10_where 11 = .ok (.iload_n 2, 1) := by decide +kernel
theorem dX10_where_12 : decode cX10_where 12 = .ok (.aload_n 0, 1) := by decide +kernel
theorem dX10_where_13 : decode cX10_where 13 = .ok (.getfield 58, 3) := by decide +kernel
theorem dX10_where_16 : decode cX10_where 16 = .ok (.iload_n 1, 1) := by decide +kernel
theorem dX10_where_17 : decode cX10_where 17 = .ok (.invokevirtual 297, 3) := by decide +kernel
theorem dX10_where_20 : decode cX10_where 20 = .ok (.aload_n 0, 1) := by decide +kernel
theorem dX10_where_21 : decode cX10_where 21 = .ok (.getfield 69, 3) := by decide +kernel
theorem dX10_where_24 : decode cX10_where 24 = .ok (.invokestatic 86, 3) := by decide +kernel
theorem dX10_where_27 : decode cX10_where 27 = .ok (.ifCond .ne 5, 3) := by decide +kernel
theorem dX10_where_30 : decode cX10_where 30 = .ok (.iconst (-1), 1) := by decide +kernel
theorem dX10_where_31 : decode cX10_where 31 = .ok (.ireturn, 1) := by decide +kernel
theorem dX10_where_32 : decode cX10_where 32 = .ok (.aload_n 0, 1) := by decide +kernel
theorem dX10_where_33 : decode cX10_where 33 = .ok (.getfield 58, 3) := by decide +kernel
theorem dX10_where_36 : decode cX10_where 36 = .ok (.iload_n 1, 1) := by decide +kernel
theorem dX10_where_37 : decode cX10_where 37 = .ok (.iload_n 2, 1) := by decide +kernel
theorem dX10_where_38 : decode cX10_where 38 = .ok (.invokevirtual 303, 3) := by decide +kernel
theorem dX10_where_41 : decode cX10_where 41 = .ok (.ireturn, 1) := by decide +kernel
noncomputable def f10_where_j30 (s9_j30 : OS) (s10_j30 : OS) : Option (Int32 × OS) := some ((-1 : Int32), s9_j30)
noncomputable def f10_where (a1 : Int32) (a2 : Int32) (s9 : OS) (s10 : OS) : Option (Int32 × OS) := Option.bind (f9_hasGift a1 s9) fun q_5 => if q_5 = 0 then (f10_where_j30 s9 s10) else (Option.bind (f9_givenOn a1 s9) fun q_17 => Option.bind (f10_isWithin a2 q_17 ((s10.1 0 9))) fun q_24 => if q_24 = 0 then (f10_where_j30 s9 s10) else (Option.bind (f9_placesOn a1 a2 s9) fun q_38 => some (q_38.1, q_38.2)))
set_option maxHeartbeats 4000000 in
set_option maxRecDepth 100000 in
theorem m10_where (l : Launch) (D : va_G) (ad : Nat → Nat) (cy : Nat → ClassId) (sz : Nat) (s0 s1 s2 s3 s4 s5 s6 s7 s8 s9 s10 : OS) (a1 : Int32) (a2 : Int32) (r : Int32 × OS) (h : f10_where a1 a2 s9 s10 = some r) : Met l yX10_where (wsOf yX10_where cX10_where 3 (some .int)) (rmL 5) (va_Pc ([.ref (ad 10), .int a1, .int a2] : List Value) (PreG D cy (cellsC ad cy s0 s1 s2 s3 s4 s5 s6 s7 s8 s9 s10) sz (NC ad))) (QcI D ad 67 (cellsC ad cy s0 s1 s2 s3 s4 s5 s6 s7 s8 r.2 s10) (r.1) sz) 0 0 (Afr ad 67 sz) := by
  refine metG (own := RX10) (by decide) rfl (Nat.le_of_ble_eq_true rfl) fstC ?_ sz
  intro p e s m below meth c ls C0 hw hl
  obtain ⟨hx, hb, hml, hown, hts, hr, hlk, hK, hN⟩ := C0
  have hl : lv_has ls 3 [(0, .ref (ad 10)), (1, .int a1), (2, .int a2)] := hl
  generalize hQ : MQ below (QcI D ad 67 (cellsC ad cy s0 s1 s2 s3 s4 s5 s6 s7 s8 r.2 s10) (r.1) s.heap.size) ([.ref (ad 10), .int a1, .int a2] : List Value).toArray s 0 0 (Afr ad 67 s.heap.size) = Q
  obtain ⟨H, hH⟩ : ∃ H : Heap, H = s.heap := ⟨_, rfl⟩
  obtain ⟨locs, hlc⟩ : ∃ L : List Loc, L = [] := ⟨_, rfl⟩
  have hw : Wd D (cellsC ad cy s0 s1 s2 s3 s4 s5 s6 s7 s8 s9 s10) (Afr ad 67 s.heap.size) s.heap H locs := by rw [hH, hlc]; exact hw
  suffices h0 : W p l e (rmL 5) s m ([.ref (ad 10), .int a1, .int a2] : List Value).toArray below meth c H locs 0 0 Q (F0 m 0 ls []) by rw [hH, hlc] at h0; exact h0
  clear hH hlc
  unfold f10_where at h
  have hJ_30 : ∀ (s9_j30 : OS) (H : Heap) (locs : List Loc) (ls : Array Slot), f10_where_j30 s9_j30 s10 = some r → Wd D (cellsC ad cy s0 s1 s2 s3 s4 s5 s6 s7 s8 s9_j30 s10) (Afr ad 67 s.heap.size) s.heap H locs → lv_has ls 3 [] → W p l e (rmL 5) s m ([.ref (ad 10), .int a1, .int a2] : List Value).toArray below meth c H locs 0 0 Q (F0 m 30 ls []) := by
    intro s9_j30 H locs ls h hw hl
    unfold f10_where_j30 at h
    refine lv_iconst (v := (-1)) hx hb dX10_where_30 (by decide) ?_
    have h := Option.some.inj h
    subst h
    rw [← hQ]
    exact retI hx hb hr hlk hw rfl dX10_where_31
  refine lv_aload_n hx hb dX10_where_0 rfl (lv_at hl 0 rfl) ?_
  refine gX10_58 hx hb hts hown hK hw dX10_where_1 ?_
  refine lv_iload_n hx hb dX10_where_4 rfl (lv_at hl 1 rfl) ?_
  obtain ⟨q_5, h_5, h⟩ := bnd_e h
  have pg_5 := preG (av := [.ref (ad 9), .int a1]) hK hw.1 hw.2.1 (NC_keep hN hw.2.2) NC_blind
  refine endI (mc := 0) (ms := 0) (va_runV (As := [.int a1]) (rest := []) ⟨hx, hb, hml, hown, hts⟩ (m9_hasGift l D ad cy H.size s0 s1 s2 s3 s4 s5 s6 s7 s8 s9 s10 a1 q_5 h_5) (wX10_291 0 hts ⟨Nat.le_of_ble_eq_true rfl, Nat.le_of_ble_eq_true rfl⟩) ⟨pg_5.1, va_recv hK hw.1 (ci := 9) (q0 := 9) rfl eC_9, pg_5.2⟩ rfl rfl hl.1 rfl (lv_room (Nat.le_of_ble_eq_true rfl)) dX10_where_5 ⟨Nat.le_refl _, Nat.le_refl _⟩) hw.2.2 (afr_in hw.2.2) (fun H locs hw => ?_)
  refine lv_if_eq (tgt := 30) hx hb dX10_where_8 (by decide) (fun c_8 => ?_) (fun c_8 => ?_)
  · have h := ite_t c_8 h
    exact hJ_30 s9 H locs ls h hw (lv_sub hl [] rfl)
  · have h := ite_f c_8 h
    refine lv_iload_n hx hb dX10_where_11 rfl (lv_at hl 2 rfl) ?_
    refine lv_aload_n hx hb dX10_where_12 rfl (lv_at hl 0 rfl) ?_
    refine gX10_58 hx hb hts hown hK hw dX10_where_13 ?_
    refine lv_iload_n hx hb dX10_where_16 rfl (lv_at hl 1 rfl) ?_
    obtain ⟨q_17, h_17, h⟩ := bnd_e h
    have pg_17 := preG (av := [.ref (ad 9), .int a1]) hK hw.1 hw.2.1 (NC_keep hN hw.2.2) NC_blind
    refine endI (mc := 0) (ms := 0) (va_runV (As := [.int a1]) (rest := [.int a2]) ⟨hx, hb, hml, hown, hts⟩ (m9_givenOn l D ad cy H.size s0 s1 s2 s3 s4 s5 s6 s7 s8 s9 s10 a1 q_17 h_17) (wX10_297 1 hts ⟨Nat.le_of_ble_eq_true rfl, Nat.le_of_ble_eq_true rfl⟩) ⟨pg_17.1, va_recv hK hw.1 (ci := 9) (q0 := 9) rfl eC_9, pg_17.2⟩ rfl rfl hl.1 rfl (lv_room (Nat.le_of_ble_eq_true rfl)) dX10_where_17 ⟨Nat.le_refl _, Nat.le_refl _⟩) hw.2.2 (afr_in hw.2.2) (fun H locs hw => ?_)
    refine lv_aload_n hx hb dX10_where_20 rfl (lv_at hl 0 rfl) ?_
    refine gX10_69 hx hb hts hown hK hw dX10_where_21 ?_
    obtain ⟨q_24, h_24, h⟩ := bnd_e h
    have pg_24 := preG (av := [.int a2, .int q_17, .int ((s10.1 0 9))]) hK hw.1 hw.2.1 (NC_keep hN hw.2.2) NC_blind
    refine endI (mc := 0) (ms := 0) (va_runS (As := [.int a2, .int q_17, .int ((s10.1 0 9))]) (rest := []) ⟨hx, hb, hml, hown, hts⟩ (m10_isWithin l D ad cy H.size s0 s1 s2 s3 s4 s5 s6 s7 s8 s9 s10 a2 q_17 ((s10.1 0 9)) q_24 h_24) (wX10_86 0 hts ⟨Nat.le_of_ble_eq_true rfl, Nat.le_of_ble_eq_true rfl⟩) pg_24 rfl rfl hl.1 rfl (lv_room (Nat.le_of_ble_eq_true rfl)) dX10_where_24 ⟨Nat.le_refl _, Nat.le_refl _⟩) hw.2.2 (afr_in hw.2.2) (fun H locs hw => ?_)
    refine lv_if_ne (tgt := 32) hx hb dX10_where_27 (by decide) (fun c_27 => ?_) (fun c_27 => ?_)
    · have h := ite_f c_27 h
      refine lv_aload_n hx hb dX10_where_32 rfl (lv_at hl 0 rfl) ?_
      refine gX10_58 hx hb hts hown hK hw dX10_where_33 ?_
      refine lv_iload_n hx hb dX10_where_36 rfl (lv_at hl 1 rfl) ?_
      refine lv_iload_n hx hb dX10_where_37 rfl (lv_at hl 2 rfl) ?_
      obtain ⟨q_38, h_38, h⟩ := bnd_e h
      have pg_38 := preG (av := [.ref (ad 9), .int a1, .int a2]) hK hw.1 hw.2.1 (NC_keep hN hw.2.2) NC_blind
      refine endI (mc := 0) (ms := 0) (va_runV (As := [.int a1, .int a2]) (rest := []) ⟨hx, hb, hml, hown, hts⟩ (m9_placesOn l D ad cy H.size s0 s1 s2 s3 s4 s5 s6 s7 s8 s9 s10 a1 a2 q_38 h_38) (wX10_303 4 hts ⟨Nat.le_of_ble_eq_true rfl, Nat.le_of_ble_eq_true rfl⟩) ⟨pg_38.1, va_recv hK hw.1 (ci := 9) (q0 := 9) rfl eC_9, pg_38.2⟩ rfl rfl hl.1 rfl (lv_room (Nat.le_of_ble_eq_true rfl)) dX10_where_38 ⟨Nat.le_refl _, Nat.le_refl _⟩) hw.2.2 (afr_in hw.2.2) (fun H locs hw => ?_)
      have h := Option.some.inj h
      subst h
      rw [← hQ]
      exact retI hx hb hr hlk hw rfl dX10_where_41
    · have h := ite_t c_27 h
      exact hJ_30 s9 H locs ls h hw (lv_sub hl [] rfl)
