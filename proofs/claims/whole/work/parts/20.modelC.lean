theorem dX11_gas_0 : decode cX11_gas 0 = .ok (.iload_n 1, 1) := by decide +kernel
theorem dX11_gas_1 : decode cX11_gas 1 = .ok (.invokestatic 245, 3) := by decide +kernel
theorem dX11_gas_4 : decode cX11_gas 4 = .ok (.ifCond .eq 10, 3) := by decide +kernel
theorem dX11_gas_7 : decode cX11_gas 7 = .ok (.iload_n 2, 1) := by decide +kernel
theorem dX11_gas_8 : decode cX11_gas 8 = .ok (.invokestatic 248, 3) := by decide +kernel
theorem dX11_gas_11 : decode cX11_gas 11 = .ok (.ifCond .ne 5, 3) := by decide +kernel
theorem dX11_gas_14 : decode cX11_gas 14 = .ok (.iconst 0, 1) := by decide +kernel
theorem dX11_gas_15 : decode cX11_gas 15 = .ok (.ireturn, 1) := by decide +kernel
theorem dX11_gas_16 : decode cX11_gas 16 = .ok (.aload_n 0, 1) := by decide +kernel
theorem dX11_gas_17 : decode cX11_gas 17 = .ok (.getfield 39, 3) := by decide +kernel
theorem dX11_gas_20 : decode cX11_gas 20 = .ok (.iload_n 1, 1) := by decide +kernel
theorem dX11_gas_21 : decode cX11_gas 21 = .ok (.iload_n 2, 1) := by decide +kernel
theorem dX11_gas_22 : decode cX11_gas 22 = .ok (.iastore, 1) := by decide +kernel
theorem dX11_gas_23 : decode cX11_gas 23 = .ok (.iconst 1, 1) := by decide +kernel
theorem dX11_gas_24 : decode cX11_gas 24 = .ok (.ireturn, 1) := by decide +kernel
def f11_gas_j14 (s11_j14 : OS) : Option (Int32 × OS) := some ((0 : Int32), s11_j14)
def f11_gas (a1 : Int32) (a2 : Int32) (s11 : OS) : Option (Int32 × OS) := Option.bind (f11_isCabinet a1) fun q_1 => if q_1 = 0 then (f11_gas_j14 s11) else (Option.bind (f11_isBits a2) fun q_8 => if q_8 = 0 then (f11_gas_j14 s11) else (chk (inb a1 10) (nm (wI s11 20 a1.toNatClampNeg a2) fun s11_22 => some ((1 : Int32), s11_22))))
set_option maxHeartbeats 4000000 in
set_option maxRecDepth 100000 in
theorem m11_gas (l : Launch) (D : va_G) (ad : Nat → Nat) (cy : Nat → ClassId) (sz : Nat) (s11 : OS) (a1 : Int32) (a2 : Int32) (r : Int32 × OS) (h : f11_gas a1 a2 s11 = some r) : Met l yX11_gas (wsOf yX11_gas cX11_gas 3 (some .boolean)) (rmL 2) (va_Pc ([.ref (ad 0), .int a1, .int a2] : List Value) (PreG D cy (cellsM ad cy s11) sz NM)) (QcI D ad 66 (cellsM ad cy r.2) (r.1) sz) 0 0 (Afr ad 66 sz) := by
  refine metG (own := RX11) (by decide) rfl (Nat.le_of_ble_eq_true rfl) fstM ?_ sz
  intro p e s m below meth c ls C0 hw hl
  obtain ⟨hx, hb, hml, hown, hts, hr, hlk, hK, hN⟩ := C0
  have hl : lv_has ls 3 [(0, .ref (ad 0)), (1, .int a1), (2, .int a2)] := hl
  generalize hQ : MQ below (QcI D ad 66 (cellsM ad cy r.2) (r.1) s.heap.size) ([.ref (ad 0), .int a1, .int a2] : List Value).toArray s 0 0 (Afr ad 66 s.heap.size) = Q
  obtain ⟨H, hH⟩ : ∃ H : Heap, H = s.heap := ⟨_, rfl⟩
  obtain ⟨locs, hlc⟩ : ∃ L : List Loc, L = [] := ⟨_, rfl⟩
  have hw : Wd D (cellsM ad cy s11) (Afr ad 66 s.heap.size) s.heap H locs := by rw [hH, hlc]; exact hw
  suffices h0 : W p l e (rmL 2) s m ([.ref (ad 0), .int a1, .int a2] : List Value).toArray below meth c H locs 0 0 Q (F0 m 0 ls []) by rw [hH, hlc] at h0; exact h0
  clear hH hlc
  unfold f11_gas at h
  have hJ_14 : ∀ (s11_j14 : OS) (H : Heap) (locs : List Loc) (ls : Array Slot), f11_gas_j14 s11_j14 = some r → Wd D (cellsM ad cy s11_j14) (Afr ad 66 s.heap.size) s.heap H locs → lv_has ls 3 [] → W p l e (rmL 2) s m ([.ref (ad 0), .int a1, .int a2] : List Value).toArray below meth c H locs 0 0 Q (F0 m 14 ls []) := by
    intro s11_j14 H locs ls h hw hl
    unfold f11_gas_j14 at h
    refine lv_iconst (v := 0) hx hb dX11_gas_14 (by decide) ?_
    have h := Option.some.inj h
    subst h
    rw [← hQ]
    exact retI hx hb hr hlk hw (narB (v := (0 : Int32)) (by decide)) dX11_gas_15
  refine lv_iload_n hx hb dX11_gas_0 rfl (lv_at hl 1 rfl) ?_
  obtain ⟨q_1, h_1, h⟩ := bnd_e h
  have pg_1 := preG (av := [.int a1]) hK hw.1 hw.2.1 NM_keep NM_blind
  refine endI (mc := 0) (ms := 0) (va_runS (As := [.int a1]) (rest := []) ⟨hx, hb, hml, hown, hts⟩ (m11_isCabinet l D ad cy H.size s11 a1 q_1 h_1) (wX11_245 1 hts ⟨Nat.le_of_ble_eq_true rfl, Nat.le_of_ble_eq_true rfl⟩) pg_1 rfl rfl hl.1 rfl (lv_room (Nat.le_of_ble_eq_true rfl)) dX11_gas_1 ⟨Nat.le_refl _, Nat.le_refl _⟩) hw.2.2 (afr_in hw.2.2) (fun H locs hw => ?_)
  refine lv_if_eq (tgt := 14) hx hb dX11_gas_4 (by decide) (fun c_4 => ?_) (fun c_4 => ?_)
  · have h := ite_t c_4 h
    exact hJ_14 s11 H locs ls h hw (lv_sub hl [] rfl)
  · have h := ite_f c_4 h
    refine lv_iload_n hx hb dX11_gas_7 rfl (lv_at hl 2 rfl) ?_
    obtain ⟨q_8, h_8, h⟩ := bnd_e h
    have pg_8 := preG (av := [.int a2]) hK hw.1 hw.2.1 NM_keep NM_blind
    refine endI (mc := 0) (ms := 0) (va_runS (As := [.int a2]) (rest := []) ⟨hx, hb, hml, hown, hts⟩ (m11_isBits l D ad cy H.size s11 a2 q_8 h_8) (wX11_248 1 hts ⟨Nat.le_of_ble_eq_true rfl, Nat.le_of_ble_eq_true rfl⟩) pg_8 rfl rfl hl.1 rfl (lv_room (Nat.le_of_ble_eq_true rfl)) dX11_gas_8 ⟨Nat.le_refl _, Nat.le_refl _⟩) hw.2.2 (afr_in hw.2.2) (fun H locs hw => ?_)
    refine lv_if_ne (tgt := 16) hx hb dX11_gas_11 (by decide) (fun c_11 => ?_) (fun c_11 => ?_)
    · have h := ite_f c_11 h
      refine lv_aload_n hx hb dX11_gas_16 rfl (lv_at hl 0 rfl) ?_
      refine gX11_39 hx hb hts hown hK hw dX11_gas_17 ?_
      refine lv_iload_n hx hb dX11_gas_20 rfl (lv_at hl 1 rfl) ?_
      refine lv_iload_n hx hb dX11_gas_21 rfl (lv_at hl 2 rfl) ?_
      obtain ⟨hi_22, h⟩ := chk_e h
      obtain ⟨s11_22, e_22, h⟩ := nam_e h
      refine aM10 hx hb hK hw hi_22 e_22 dX11_gas_22 (fun H locs hw => ?_)
      refine lv_iconst (v := 1) hx hb dX11_gas_23 (by decide) ?_
      have h := Option.some.inj h
      subst h
      rw [← hQ]
      exact retI hx hb hr hlk hw (narB (v := (1 : Int32)) (by decide)) dX11_gas_24
    · have h := ite_t c_11 h
      exact hJ_14 s11 H locs ls h hw (lv_sub hl [] rfl)
theorem dX11_isPlace_0 : decode cX11_isPlace 0 = .ok (.iload_n 0, 1) := by decide +kernel
theorem dX11_isPlace_1 : decode cX11_isPlace 1 = .ok (.i2l, 1) := by decide +kernel
theorem dX11_isPlace_2 : decode cX11_isPlace 2 = .ok (.lconst 0, 1) := by decide +kernel
theorem dX11_isPlace_3 : decode cX11_isPlace 3 = .ok (.ldc2_w 269, 3) := by decide +kernel
theorem dX11_isPlace_6 : decode cX11_isPlace 6 = .ok (.invokestatic 215, 3) := by decide +kernel
theorem dX11_isPlace_9 : decode cX11_isPlace 9 = .ok (.ireturn, 1) := by decide +kernel
def f11_isPlace (a0 : Int32) : Option (Int32) := Option.bind (f11_lies ((a0).toInt64) ((0 : Int64)) ((15 : Int64))) fun q_6 => chk (isB q_6) (some q_6)
set_option maxHeartbeats 4000000 in
set_option maxRecDepth 100000 in
theorem m11_isPlace (l : Launch) (D : va_G) (ad : Nat → Nat) (cy : Nat → ClassId) (sz : Nat) (s11 : OS) (a0 : Int32) (r : Int32) (h : f11_isPlace a0 = some r) : Met l yX11_isPlace (wsOf yX11_isPlace cX11_isPlace 1 (some .boolean)) (rmL 1) (va_Pc ([.int a0] : List Value) (PreG D cy (cellsM ad cy s11) sz NM)) (QcI D ad 66 (cellsM ad cy s11) (r) sz) 0 0 (Afr ad 66 sz) := by
  refine metG (own := RX11) (by decide) rfl (Nat.le_of_ble_eq_true rfl) fstM ?_ sz
  intro p e s m below meth c ls C0 hw hl
  obtain ⟨hx, hb, hml, hown, hts, hr, hlk, hK, hN⟩ := C0
  have hl : lv_has ls 1 [(0, .int a0)] := hl
  generalize hQ : MQ below (QcI D ad 66 (cellsM ad cy s11) (r) s.heap.size) ([.int a0] : List Value).toArray s 0 0 (Afr ad 66 s.heap.size) = Q
  obtain ⟨H, hH⟩ : ∃ H : Heap, H = s.heap := ⟨_, rfl⟩
  obtain ⟨locs, hlc⟩ : ∃ L : List Loc, L = [] := ⟨_, rfl⟩
  have hw : Wd D (cellsM ad cy s11) (Afr ad 66 s.heap.size) s.heap H locs := by rw [hH, hlc]; exact hw
  suffices h0 : W p l e (rmL 1) s m ([.int a0] : List Value).toArray below meth c H locs 0 0 Q (F0 m 0 ls []) by rw [hH, hlc] at h0; exact h0
  clear hH hlc
  unfold f11_isPlace at h
  refine lv_iload_n hx hb dX11_isPlace_0 rfl (lv_at hl 0 rfl) ?_
  refine lv_i2l hx hb dX11_isPlace_1 rfl ?_
  refine lv_lconst (v := 0) hx hb dX11_isPlace_2 (by decide) ?_
  refine lv_ldc2 (v := 15) hx hb hown (hts _ (wd_7 (w := .constantLong RX11 269 15) (i := 142) (by decide +kernel) rfl)) dX11_isPlace_3 ?_
  obtain ⟨q_6, h_6, h⟩ := bnd_e h
  have pg_6 := preG (av := [.long ((a0).toInt64), .long ((0 : Int64)), .long ((15 : Int64))]) hK hw.1 hw.2.1 NM_keep NM_blind
  refine endI (mc := 0) (ms := 0) (va_runS (As := [.long ((a0).toInt64), .long ((0 : Int64)), .long ((15 : Int64))]) (rest := []) ⟨hx, hb, hml, hown, hts⟩ (m11_lies l D ad cy H.size s11 ((a0).toInt64) ((0 : Int64)) ((15 : Int64)) q_6 h_6) (wX11_215 0 hts ⟨Nat.le_of_ble_eq_true rfl, Nat.le_of_ble_eq_true rfl⟩) pg_6 rfl rfl hl.1 rfl (lv_room (Nat.le_of_ble_eq_true rfl)) dX11_isPlace_6 ⟨Nat.le_refl _, Nat.le_refl _⟩) hw.2.2 (afr_in hw.2.2) (fun H locs hw => ?_)
  obtain ⟨hz_9, h⟩ := chk_e h
  have h := Option.some.inj h
  subst h
  rw [← hQ]
  exact retI hx hb hr hlk hw (narB hz_9) dX11_isPlace_9
theorem dX11_give_0 : decode cX11_give 0 = .ok (.aload_n 0, 1) := by decide +kernel
theorem dX11_give_1 : decode cX11_give 1 = .ok (.getfield 483, 3) := by decide +kernel
theorem dX11_give_4 : decode cX11_give 4 = .ok (.bipush 40, 2) := by decide +kernel
theorem dX11_give_6 : decode cX11_give 6 = .ok (.if_icmp .eq 30, 3) := by decide +kernel
theorem dX11_give_9 : decode cX11_give 9 = .ok (.aload_n 0, 1) := by decide +kernel
theorem dX11_give_10 : decode cX11_give 10 = .ok (.iload_n 1, 1) := by decide +kernel
theorem dX11_give_11 : decode cX11_give 11 = .ok (.invokevirtual 266, 3) := by decide +kernel
theorem dX11_give_14 : decode cX11_give 14 = .ok (.ifCond .eq 22, 3) := by decide +kernel
theorem dX11_give_17 : decode cX11_give 17 = .ok (.iload_n 2, 1) := by decide +kernel
theorem dX11_give_18 : decode cX11_give 18 = .ok (.i2l, 1) := by decide +kernel
theorem dX11_give_19 : decode cX11_give 19 = .ok (.lconst 0, 1) := by decide +kernel
theorem dX11_give_20 : decode cX11_give 20 = .ok (.ldc2_w 486, 3) := by decide +kernel
theorem dX11_give_23 : decode cX11_give 23 = .ok (.invokestatic 215, 3) := by decide +kernel
theorem dX11_give_26 : decode cX11_give 26 = .ok (.ifCond .eq 10, 3) := by decide +kernel
theorem dX11_give_29 : decode cX11_give 29 = .ok (.iload_n 3, 1) := by decide +kernel
theorem dX11_give_30 : decode cX11_give 30 = .ok (.invokestatic 480, 3) := by decide +kernel
theorem dX11_give_33 : decode cX11_give 33 = .ok (.ifCond .ne 5, 3) := by decide +kernel
theorem dX11_give_36 : decode cX11_give 36 = .ok (.iconst (-1), 1) := by decide +kernel
theorem dX11_give_37 : decode cX11_give 37 = .ok (.ireturn, 1) := by decide +kernel
theorem dX11_give_38 : decode cX11_give 38 = .ok (.aload_n 0, 1) := by decide +kernel
theorem dX11_give_39 : decode cX11_give 39 = .ok (.getfield 178, 3) := by decide +kernel
theorem dX11_give_42 : decode cX11_give 42 = .ok (.aload_n 0, 1) := by decide +kernel
theorem dX11_give_43 : decode cX11_give 43 = .ok (.getfield 483, 3) := by decide +kernel
theorem dX11_give_46 : decode cX11_give 46 = .ok (.aload_n 0, 1) := by decide +kernel
theorem dX11_give_47 : decode cX11_give 47 = .ok (.getfield 225, 3) := by decide +kernel
theorem dX11_give_50 : decode cX11_give 50 = .ok (.iastore, 1) := by decide +kernel
theorem dX11_give_51 : decode cX11_give 51 = .ok (.aload_n 0, 1) := by decide +kernel
theorem dX11_give_52 : decode cX11_give 52 = .ok (.getfield 181, 3) := by decide +kernel
theorem dX11_give_55 : decode cX11_give 55 = .ok (.aload_n 0, 1) := by decide +kernel
theorem dX11_give_56 : decode cX11_give 56 = .ok (.getfield 483, 3) := by decide +kernel
theorem dX11_give_59 : decode cX11_give 59 = .ok (.iload_n 3, 1) := by decide +kernel
theorem dX11_give_60 : decode cX11_give 60 = .ok (.iastore, 1) := by decide +kernel
theorem dX11_give_61 : decode cX11_give 61 = .ok (.aload_n 0, 1) := by decide +kernel
theorem dX11_give_62 : decode cX11_give 62 = .ok (.dup, 1) := by decide +kernel
theorem dX11_give_63 : decode cX11_give 63 = .ok (.getfield 483, 3) := by decide +kernel
theorem dX11_give_66 : decode cX11_give 66 = .ok (.iconst 1, 1) := by decide +kernel
theorem dX11_give_67 : decode cX11_give 67 = .ok (.iadd, 1) := by decide +kernel
theorem dX11_give_68 : decode cX11_give 68 = .ok (.putfield 483, 3) := by decide +kernel
theorem dX11_give_71 : decode cX11_give 71 = .ok (.aload_n 0, 1) := by decide +kernel
theorem dX11_give_72 : decode cX11_give 72 = .ok (.getfield 26, 3) := by decide +kernel
theorem dX11_give_75 : decode cX11_give 75 = .ok (.iload_n 1, 1) := by decide +kernel
theorem dX11_give_76 : decode cX11_give 76 = .ok (.bipush 11, 2) := by decide +kernel
theorem dX11_give_78 : decode cX11_give 78 = .ok (.iastore, 1) := by decide +kernel
theorem dX11_give_79 : decode cX11_give 79 = .ok (.aload_n 0, 1) := by decide +kernel
theorem dX11_give_80 : decode cX11_give 80 = .ok (.iload_n 1, 1) := by decide +kernel
theorem dX11_give_81 : decode cX11_give 81 = .ok (.invokevirtual 251, 3) := by decide +kernel
theorem dX11_give_84 : decode cX11_give 84 = .ok (.aload_n 0, 1) := by decide +kernel
theorem dX11_give_85 : decode cX11_give 85 = .ok (.getfield 483, 3) := by decide +kernel
theorem dX11_give_88 : decode cX11_give 88 = .ok (.iconst 1, 1) := by decide +kernel
theorem dX11_give_89 : decode cX11_give 89 = .ok (.isub, 1) := by decide +kernel
theorem dX11_give_90 : decode cX11_give 90 = .ok (.ireturn, 1) := by decide +kernel
def f11_give_j36 (s11_j36 : OS) : Option (Int32 × OS) := some ((-1 : Int32), s11_j36)
def f11_give (a1 : Int32) (a2 : Int32) (a3 : Int32) (s11 : OS) : Option (Int32 × OS) := if (s11.1 0 8) = (40 : Int32) then (f11_give_j36 s11) else (Option.bind (f11_isOpen a1 s11) fun q_11 => if q_11 = 0 then (f11_give_j36 s11) else (Option.bind (f11_lies ((a2).toInt64) ((0 : Int64)) ((99 : Int64))) fun q_23 => if q_23 = 0 then (f11_give_j36 s11) else (Option.bind (f11_isPlace a3) fun q_30 => if q_30 = 0 then (f11_give_j36 s11) else (chk (inb ((s11.1 0 8)) 40) (nm (wI s11 80 ((s11.1 0 8)).toNatClampNeg ((s11.1 0 2))) fun s11_50 => chk (inb ((s11_50.1 0 8)) 40) (nm (wI s11_50 81 ((s11_50.1 0 8)).toNatClampNeg a3) fun s11_60 => nm (wI s11_60 0 8 (((s11_60.1 0 8) + (1 : Int32)))) fun s11_68 => chk (inb a1 150) (nm (wI s11_68 16 a1.toNatClampNeg ((11 : Int32))) fun s11_78 => Option.bind (f11_notes a1 s11_78) fun q_81 => some (((q_81.1 0 8) - (1 : Int32)), q_81))))))))
set_option maxHeartbeats 4000000 in
set_option maxRecDepth 100000 in
theorem m11_give (l : Launch) (D : va_G) (ad : Nat → Nat) (cy : Nat → ClassId) (sz : Nat) (s11 : OS) (a1 : Int32) (a2 : Int32) (a3 : Int32) (r : Int32 × OS) (h : f11_give a1 a2 a3 s11 = some r) : Met l yX11_give (wsOf yX11_give cX11_give 4 (some .int)) (rmL 4) (va_Pc ([.ref (ad 0), .int a1, .int a2, .int a3] : List Value) (PreG D cy (cellsM ad cy s11) sz NM)) (QcI D ad 66 (cellsM ad cy r.2) (r.1) sz) 0 0 (Afr ad 66 sz) := by
  refine metG (own := RX11) (by decide) rfl (Nat.le_of_ble_eq_true rfl) fstM ?_ sz
  intro p e s m below meth c ls C0 hw hl
  obtain ⟨hx, hb, hml, hown, hts, hr, hlk, hK, hN⟩ := C0
  have hl : lv_has ls 4 [(0, .ref (ad 0)), (1, .int a1), (2, .int a2), (3, .int a3)] := hl
  generalize hQ : MQ below (QcI D ad 66 (cellsM ad cy r.2) (r.1) s.heap.size) ([.ref (ad 0), .int a1, .int a2, .int a3] : List Value).toArray s 0 0 (Afr ad 66 s.heap.size) = Q
  obtain ⟨H, hH⟩ : ∃ H : Heap, H = s.heap := ⟨_, rfl⟩
  obtain ⟨locs, hlc⟩ : ∃ L : List Loc, L = [] := ⟨_, rfl⟩
  have hw : Wd D (cellsM ad cy s11) (Afr ad 66 s.heap.size) s.heap H locs := by rw [hH, hlc]; exact hw
  suffices h0 : W p l e (rmL 4) s m ([.ref (ad 0), .int a1, .int a2, .int a3] : List Value).toArray below meth c H locs 0 0 Q (F0 m 0 ls []) by rw [hH, hlc] at h0; exact h0
  clear hH hlc
  unfold f11_give at h
  have hJ_36 : ∀ (s11_j36 : OS) (H : Heap) (locs : List Loc) (ls : Array Slot), f11_give_j36 s11_j36 = some r → Wd D (cellsM ad cy s11_j36) (Afr ad 66 s.heap.size) s.heap H locs → lv_has ls 4 [] → W p l e (rmL 4) s m ([.ref (ad 0), .int a1, .int a2, .int a3] : List Value).toArray below meth c H locs 0 0 Q (F0 m 36 ls []) := by
    intro s11_j36 H locs ls h hw hl
    unfold f11_give_j36 at h
    refine lv_iconst (v := (-1)) hx hb dX11_give_36 (by decide) ?_
    have h := Option.some.inj h
    subst h
    rw [← hQ]
    exact retI hx hb hr hlk hw rfl dX11_give_37
  refine lv_aload_n hx hb dX11_give_0 rfl (lv_at hl 0 rfl) ?_
  refine gX11_483 hx hb hts hown hK hw dX11_give_1 ?_
  refine lv_bipush (v := 40) hx hb dX11_give_4 (by decide) ?_
  refine lv_icmp_eq (tgt := 36) hx hb dX11_give_6 (by decide) (fun c_6 => ?_) (fun c_6 => ?_)
  · have h := ite_t c_6 h
    exact hJ_36 s11 H locs ls h hw (lv_sub hl [] rfl)
  · have h := ite_f c_6 h
    refine lv_aload_n hx hb dX11_give_9 rfl (lv_at hl 0 rfl) ?_
    refine lv_iload_n hx hb dX11_give_10 rfl (lv_at hl 1 rfl) ?_
    obtain ⟨q_11, h_11, h⟩ := bnd_e h
    have pg_11 := preG (av := [.ref (ad 0), .int a1]) hK hw.1 hw.2.1 NM_keep NM_blind
    refine endI (mc := 0) (ms := 0) (va_runV (As := [.int a1]) (rest := []) ⟨hx, hb, hml, hown, hts⟩ (m11_isOpen l D ad cy H.size s11 a1 q_11 h_11) (wX11_266 3 hts ⟨Nat.le_of_ble_eq_true rfl, Nat.le_of_ble_eq_true rfl⟩) ⟨pg_11.1, va_recv hK hw.1 (ci := 11) (q0 := 0) rfl eM_0, pg_11.2⟩ rfl rfl hl.1 rfl (lv_room (Nat.le_of_ble_eq_true rfl)) dX11_give_11 ⟨Nat.le_refl _, Nat.le_refl _⟩) hw.2.2 (afr_in hw.2.2) (fun H locs hw => ?_)
    refine lv_if_eq (tgt := 36) hx hb dX11_give_14 (by decide) (fun c_14 => ?_) (fun c_14 => ?_)
    · have h := ite_t c_14 h
      exact hJ_36 s11 H locs ls h hw (lv_sub hl [] rfl)
    · have h := ite_f c_14 h
      refine lv_iload_n hx hb dX11_give_17 rfl (lv_at hl 2 rfl) ?_
      refine lv_i2l hx hb dX11_give_18 rfl ?_
      refine lv_lconst (v := 0) hx hb dX11_give_19 (by decide) ?_
      refine lv_ldc2 (v := 99) hx hb hown (hts _ (wd_8 (w := .constantLong RX11 486 99) (i := 134) (by decide +kernel) rfl)) dX11_give_20 ?_
      obtain ⟨q_23, h_23, h⟩ := bnd_e h
      have pg_23 := preG (av := [.long ((a2).toInt64), .long ((0 : Int64)), .long ((99 : Int64))]) hK hw.1 hw.2.1 NM_keep NM_blind
      refine endI (mc := 0) (ms := 0) (va_runS (As := [.long ((a2).toInt64), .long ((0 : Int64)), .long ((99 : Int64))]) (rest := []) ⟨hx, hb, hml, hown, hts⟩ (m11_lies l D ad cy H.size s11 ((a2).toInt64) ((0 : Int64)) ((99 : Int64)) q_23 h_23) (wX11_215 0 hts ⟨Nat.le_of_ble_eq_true rfl, Nat.le_of_ble_eq_true rfl⟩) pg_23 rfl rfl hl.1 rfl (lv_room (Nat.le_of_ble_eq_true rfl)) dX11_give_23 ⟨Nat.le_refl _, Nat.le_refl _⟩) hw.2.2 (afr_in hw.2.2) (fun H locs hw => ?_)
      refine lv_if_eq (tgt := 36) hx hb dX11_give_26 (by decide) (fun c_26 => ?_) (fun c_26 => ?_)
      · have h := ite_t c_26 h
        exact hJ_36 s11 H locs ls h hw (lv_sub hl [] rfl)
      · have h := ite_f c_26 h
        refine lv_iload_n hx hb dX11_give_29 rfl (lv_at hl 3 rfl) ?_
        obtain ⟨q_30, h_30, h⟩ := bnd_e h
        have pg_30 := preG (av := [.int a3]) hK hw.1 hw.2.1 NM_keep NM_blind
        refine endI (mc := 0) (ms := 0) (va_runS (As := [.int a3]) (rest := []) ⟨hx, hb, hml, hown, hts⟩ (m11_isPlace l D ad cy H.size s11 a3 q_30 h_30) (wX11_480 1 hts ⟨Nat.le_of_ble_eq_true rfl, Nat.le_of_ble_eq_true rfl⟩) pg_30 rfl rfl hl.1 rfl (lv_room (Nat.le_of_ble_eq_true rfl)) dX11_give_30 ⟨Nat.le_refl _, Nat.le_refl _⟩) hw.2.2 (afr_in hw.2.2) (fun H locs hw => ?_)
        refine lv_if_ne (tgt := 38) hx hb dX11_give_33 (by decide) (fun c_33 => ?_) (fun c_33 => ?_)
        · have h := ite_f c_33 h
          refine lv_aload_n hx hb dX11_give_38 rfl (lv_at hl 0 rfl) ?_
          refine gX11_178 hx hb hts hown hK hw dX11_give_39 ?_
          refine lv_aload_n hx hb dX11_give_42 rfl (lv_at hl 0 rfl) ?_
          refine gX11_483 hx hb hts hown hK hw dX11_give_43 ?_
          refine lv_aload_n hx hb dX11_give_46 rfl (lv_at hl 0 rfl) ?_
          refine gX11_225 hx hb hts hown hK hw dX11_give_47 ?_
          obtain ⟨hi_50, h⟩ := chk_e h
          obtain ⟨s11_50, e_50, h⟩ := nam_e h
          refine aM56 hx hb hK hw hi_50 e_50 dX11_give_50 (fun H locs hw => ?_)
          refine lv_aload_n hx hb dX11_give_51 rfl (lv_at hl 0 rfl) ?_
          refine gX11_181 hx hb hts hown hK hw dX11_give_52 ?_
          refine lv_aload_n hx hb dX11_give_55 rfl (lv_at hl 0 rfl) ?_
          refine gX11_483 hx hb hts hown hK hw dX11_give_56 ?_
          refine lv_iload_n hx hb dX11_give_59 rfl (lv_at hl 3 rfl) ?_
          obtain ⟨hi_60, h⟩ := chk_e h
          obtain ⟨s11_60, e_60, h⟩ := nam_e h
          refine aM57 hx hb hK hw hi_60 e_60 dX11_give_60 (fun H locs hw => ?_)
          refine lv_aload_n hx hb dX11_give_61 rfl (lv_at hl 0 rfl) ?_
          refine lv_dup hx hb dX11_give_62 rfl ?_
          refine gX11_483 hx hb hts hown hK hw dX11_give_63 ?_
          refine lv_iconst (v := 1) hx hb dX11_give_66 (by decide) ?_
          refine lv_iadd hx hb dX11_give_67 ?_
          obtain ⟨s11_68, e_68, h⟩ := nam_e h
          refine pX11_483 hx hb hts hown hK hw e_68 dX11_give_68 (fun H locs hw => ?_)
          refine lv_aload_n hx hb dX11_give_71 rfl (lv_at hl 0 rfl) ?_
          refine gX11_26 hx hb hts hown hK hw dX11_give_72 ?_
          refine lv_iload_n hx hb dX11_give_75 rfl (lv_at hl 1 rfl) ?_
          refine lv_bipush (v := 11) hx hb dX11_give_76 (by decide) ?_
          obtain ⟨hi_78, h⟩ := chk_e h
          obtain ⟨s11_78, e_78, h⟩ := nam_e h
          refine aM6 hx hb hK hw hi_78 e_78 dX11_give_78 (fun H locs hw => ?_)
          refine lv_aload_n hx hb dX11_give_79 rfl (lv_at hl 0 rfl) ?_
          refine lv_iload_n hx hb dX11_give_80 rfl (lv_at hl 1 rfl) ?_
          obtain ⟨q_81, h_81, h⟩ := bnd_e h
          have pg_81 := preG (av := [.ref (ad 0), .int a1]) hK hw.1 hw.2.1 NM_keep NM_blind
          refine endV (mc := 0) (ms := 0) (va_runV (As := [.int a1]) (rest := []) ⟨hx, hb, hml, hown, hts⟩ (m11_notes l D ad cy H.size s11_78 a1 q_81 h_81) (wX11_251 0 hts ⟨Nat.le_of_ble_eq_true rfl, Nat.le_of_ble_eq_true rfl⟩) ⟨pg_81.1, va_recv hK hw.1 (ci := 11) (q0 := 0) rfl eM_0, pg_81.2⟩ rfl rfl hl.1 rfl (lv_room (Nat.le_of_ble_eq_true rfl)) dX11_give_81 ⟨Nat.le_refl _, Nat.le_refl _⟩) hw.2.2 (afr_in hw.2.2) (fun H locs hw => ?_)
          refine lv_aload_n hx hb dX11_give_84 rfl (lv_at hl 0 rfl) ?_
          refine gX11_483 hx hb hts hown hK hw dX11_give_85 ?_
          refine lv_iconst (v := 1) hx hb dX11_give_88 (by decide) ?_
          refine lv_isub hx hb dX11_give_89 ?_
          have h := Option.some.inj h
          subst h
          rw [← hQ]
          exact retI hx hb hr hlk hw rfl dX11_give_90
        · have h := ite_t c_33 h
          exact hJ_36 s11 H locs ls h hw (lv_sub hl [] rfl)
theorem dX11_has_0 : decode cX11_has 0 = .ok (.iload_n 0, 1) := by decide +kernel
theorem dX11_has_1 : decode cX11_has 1 = .ok (.iload_n 1, 1) := by decide +kernel
theorem dX11_has_2 : decode cX11_has 2 = .ok (.ishr, 1) := by decide +kernel
theorem dX11_has_3 : decode cX11_has 3 = .ok (.iconst 1, 1) := by decide +kernel
theorem dX11_has_4 : decode cX11_has 4 = .ok (.iand, 1) := by decide +kernel
theorem dX11_has_5 : decode cX11_has 5 = .ok (.iconst 1, 1) := by decide +kernel
theorem dX11_has_6 : decode cX11_has 6 = .ok (.if_icmp .ne 7, 3) := by decide +kernel
theorem dX11_has_9 : decode cX11_has 9 = .ok (.iconst 1, 1) := by decide +kernel
theorem dX11_has_10 : decode cX11_has 10 = .ok (.goto 4, 3) := by decide +kernel
theorem dX11_has_13 : decode cX11_has 13 = .ok (.iconst 0, 1) := by decide +kernel
theorem dX11_has_14 : decode cX11_has 14 = .ok (.ireturn, 1) := by decide +kernel
def f11_has_j14 (k0_j14 : Int32) : Option (Int32) := chk (isB k0_j14) (some k0_j14)
def f11_has (a0 : Int32) (a1 : Int32) : Option (Int32) := if ((a0 >>> (a1 &&& 31)) &&& (1 : Int32)) = (1 : Int32) then (f11_has_j14 ((1 : Int32))) else (f11_has_j14 ((0 : Int32)))
set_option maxHeartbeats 4000000 in
set_option maxRecDepth 100000 in
theorem m11_has (l : Launch) (D : va_G) (ad : Nat → Nat) (cy : Nat → ClassId) (sz : Nat) (s11 : OS) (a0 : Int32) (a1 : Int32) (r : Int32) (h : f11_has a0 a1 = some r) : Met l yX11_has (wsOf yX11_has cX11_has 2 (some .boolean)) (rmL 0) (va_Pc ([.int a0, .int a1] : List Value) (PreG D cy (cellsM ad cy s11) sz NM)) (QcI D ad 66 (cellsM ad cy s11) (r) sz) 0 0 (Afr ad 66 sz) := by
  refine metG (own := RX11) (by decide) rfl (Nat.le_of_ble_eq_true rfl) fstM ?_ sz
  intro p e s m below meth c ls C0 hw hl
  obtain ⟨hx, hb, hml, hown, hts, hr, hlk, hK, hN⟩ := C0
  have hl : lv_has ls 2 [(0, .int a0), (1, .int a1)] := hl
  generalize hQ : MQ below (QcI D ad 66 (cellsM ad cy s11) (r) s.heap.size) ([.int a0, .int a1] : List Value).toArray s 0 0 (Afr ad 66 s.heap.size) = Q
  obtain ⟨H, hH⟩ : ∃ H : Heap, H = s.heap := ⟨_, rfl⟩
  obtain ⟨locs, hlc⟩ : ∃ L : List Loc, L = [] := ⟨_, rfl⟩
  have hw : Wd D (cellsM ad cy s11) (Afr ad 66 s.heap.size) s.heap H locs := by rw [hH, hlc]; exact hw
  suffices h0 : W p l e (rmL 0) s m ([.int a0, .int a1] : List Value).toArray below meth c H locs 0 0 Q (F0 m 0 ls []) by rw [hH, hlc] at h0; exact h0
  clear hH hlc
  unfold f11_has at h
  have hJ_14 : ∀ (k0_j14 : Int32) (H : Heap) (locs : List Loc) (ls : Array Slot), f11_has_j14 k0_j14 = some r → Wd D (cellsM ad cy s11) (Afr ad 66 s.heap.size) s.heap H locs → lv_has ls 2 [] → W p l e (rmL 0) s m ([.int a0, .int a1] : List Value).toArray below meth c H locs 0 0 Q (F0 m 14 ls [.int k0_j14]) := by
    intro k0_j14 H locs ls h hw hl
    unfold f11_has_j14 at h
    obtain ⟨hz_14, h⟩ := chk_e h
    have h := Option.some.inj h
    subst h
    rw [← hQ]
    exact retI hx hb hr hlk hw (narB hz_14) dX11_has_14
  refine lv_iload_n hx hb dX11_has_0 rfl (lv_at hl 0 rfl) ?_
  refine lv_iload_n hx hb dX11_has_1 rfl (lv_at hl 1 rfl) ?_
  refine lv_ishr hx hb dX11_has_2 ?_
  refine lv_iconst (v := 1) hx hb dX11_has_3 (by decide) ?_
  refine lv_iand hx hb dX11_has_4 ?_
  refine lv_iconst (v := 1) hx hb dX11_has_5 (by decide) ?_
  refine lv_icmp_ne (tgt := 13) hx hb dX11_has_6 (by decide) (fun c_6 => ?_) (fun c_6 => ?_)
  · have h := ite_f c_6 h
    refine lv_iconst (v := 0) hx hb dX11_has_13 (by decide) ?_
    exact hJ_14 ((0 : Int32)) H locs ls h hw (lv_sub hl [] rfl)
  · have h := ite_t c_6 h
    refine lv_iconst (v := 1) hx hb dX11_has_9 (by decide) ?_
    refine lv_goto (tgt := 14) hx hb dX11_has_10 (by decide) ?_
    exact hJ_14 ((1 : Int32)) H locs ls h hw (lv_sub hl [] rfl)
theorem dX11_isGift_0 : decode cX11_isGift 0 = .ok (.iload_n 1, 1) := by decide +kernel
theorem dX11_isGift_1 : decode cX11_isGift 1 = .ok (.i2l, 1) := by decide +kernel
theorem dX11_isGift_2 : decode cX11_isGift 2 = .ok (.lconst 0, 1) := by decide +kernel
theorem dX11_isGift_3 : decode cX11_isGift 3 = .ok (.aload_n 0, 1) := by decide +kernel
theorem dX11_isGift_4 : decode cX11_isGift 4 = .ok (.getfield 483, 3) := by decide +kernel
theorem dX11_isGift_7 : decode cX11_isGift 7 = .ok (.iconst 1, 1) := by decide +kernel
theorem dX11_isGift_8 : decode cX11_isGift 8 = .ok (.isub, 1) := by decide +kernel
theorem dX11_isGift_9 : decode cX11_isGift 9 = .ok (.i2l, 1) := by decide +kernel
theorem dX11_isGift_10 : decode cX11_isGift 10 = .ok (.invokestatic 215, 3) := by decide +kernel
theorem dX11_isGift_13 : decode cX11_isGift 13 = .ok (.ireturn, 1) := by decide +kernel
def f11_isGift (a1 : Int32) (s11 : OS) : Option (Int32) := Option.bind (f11_lies ((a1).toInt64) ((0 : Int64)) ((((s11.1 0 8) - (1 : Int32))).toInt64)) fun q_10 => chk (isB q_10) (some q_10)
set_option maxHeartbeats 4000000 in
set_option maxRecDepth 100000 in
theorem m11_isGift (l : Launch) (D : va_G) (ad : Nat → Nat) (cy : Nat → ClassId) (sz : Nat) (s11 : OS) (a1 : Int32) (r : Int32) (h : f11_isGift a1 s11 = some r) : Met l yX11_isGift (wsOf yX11_isGift cX11_isGift 2 (some .boolean)) (rmL 1) (va_Pc ([.ref (ad 0), .int a1] : List Value) (PreG D cy (cellsM ad cy s11) sz NM)) (QcI D ad 66 (cellsM ad cy s11) (r) sz) 0 0 (Afr ad 66 sz) := by
  refine metG (own := RX11) (by decide) rfl (Nat.le_of_ble_eq_true rfl) fstM ?_ sz
  intro p e s m below meth c ls C0 hw hl
  obtain ⟨hx, hb, hml, hown, hts, hr, hlk, hK, hN⟩ := C0
  have hl : lv_has ls 2 [(0, .ref (ad 0)), (1, .int a1)] := hl
  generalize hQ : MQ below (QcI D ad 66 (cellsM ad cy s11) (r) s.heap.size) ([.ref (ad 0), .int a1] : List Value).toArray s 0 0 (Afr ad 66 s.heap.size) = Q
  obtain ⟨H, hH⟩ : ∃ H : Heap, H = s.heap := ⟨_, rfl⟩
  obtain ⟨locs, hlc⟩ : ∃ L : List Loc, L = [] := ⟨_, rfl⟩
  have hw : Wd D (cellsM ad cy s11) (Afr ad 66 s.heap.size) s.heap H locs := by rw [hH, hlc]; exact hw
  suffices h0 : W p l e (rmL 1) s m ([.ref (ad 0), .int a1] : List Value).toArray below meth c H locs 0 0 Q (F0 m 0 ls []) by rw [hH, hlc] at h0; exact h0
  clear hH hlc
  unfold f11_isGift at h
  refine lv_iload_n hx hb dX11_isGift_0 rfl (lv_at hl 1 rfl) ?_
  refine lv_i2l hx hb dX11_isGift_1 rfl ?_
  refine lv_lconst (v := 0) hx hb dX11_isGift_2 (by decide) ?_
  refine lv_aload_n hx hb dX11_isGift_3 rfl (lv_at hl 0 rfl) ?_
  refine gX11_483 hx hb hts hown hK hw dX11_isGift_4 ?_
  refine lv_iconst (v := 1) hx hb dX11_isGift_7 (by decide) ?_
  refine lv_isub hx hb dX11_isGift_8 ?_
  refine lv_i2l hx hb dX11_isGift_9 rfl ?_
  obtain ⟨q_10, h_10, h⟩ := bnd_e h
  have pg_10 := preG (av := [.long ((a1).toInt64), .long ((0 : Int64)), .long ((((s11.1 0 8) - (1 : Int32))).toInt64)]) hK hw.1 hw.2.1 NM_keep NM_blind
  refine endI (mc := 0) (ms := 0) (va_runS (As := [.long ((a1).toInt64), .long ((0 : Int64)), .long ((((s11.1 0 8) - (1 : Int32))).toInt64)]) (rest := []) ⟨hx, hb, hml, hown, hts⟩ (m11_lies l D ad cy H.size s11 ((a1).toInt64) ((0 : Int64)) ((((s11.1 0 8) - (1 : Int32))).toInt64) q_10 h_10) (wX11_215 0 hts ⟨Nat.le_of_ble_eq_true rfl, Nat.le_of_ble_eq_true rfl⟩) pg_10 rfl rfl hl.1 rfl (lv_room (Nat.le_of_ble_eq_true rfl)) dX11_isGift_10 ⟨Nat.le_refl _, Nat.le_refl _⟩) hw.2.2 (afr_in hw.2.2) (fun H locs hw => ?_)
  obtain ⟨hz_13, h⟩ := chk_e h
  have h := Option.some.inj h
  subst h
  rw [← hQ]
  exact retI hx hb hr hlk hw (narB hz_13) dX11_isGift_13
theorem dX11_judge_0 : decode cX11_judge 0 = .ok (.iload_n 1, 1) := by decide +kernel
theorem dX11_judge_1 : decode cX11_judge 1 = .ok (.invokestatic 254, 3) := by decide +kernel
theorem dX11_judge_4 : decode cX11_judge 4 = .ok (.ifCond .eq 23, 3) := by decide +kernel
theorem dX11_judge_7 : decode cX11_judge 7 = .ok (.iload_n 2, 1) := by decide +kernel
theorem dX11_judge_8 : decode cX11_judge 8 = .ok (.i2l, 1) := by decide +kernel
theorem dX11_judge_9 : decode cX11_judge 9 = .ok (.lconst 0, 1) := by decide +kernel
theorem dX11_judge_10 : decode cX11_judge 10 = .ok (.aload_n 0, 1) := by decide +kernel
theorem dX11_judge_11 : decode cX11_judge 11 = .ok (.aload_n 0, 1) := by decide +kernel
theorem dX11_judge_12 : decode cX11_judge 12 = .ok (.getfield 507, 3) := by decide +kernel
theorem dX11_judge_15 : decode cX11_judge 15 = .ok (.invokevirtual 525, 3) := by decide +kernel
theorem dX11_judge_18 : decode cX11_judge 18 = .ok (.iconst 1, 1) := by decide +kernel
theorem dX11_judge_19 : decode cX11_judge 19 = .ok (.isub, 1) := by decide +kernel
theorem dX11_judge_20 : decode cX11_judge 20 = .ok (.i2l, 1) := by decide +kernel
theorem dX11_judge_21 : decode cX11_judge 21 = .ok (.invokestatic 215, 3) := by decide +kernel
theorem dX11_judge_24 : decode cX11_judge 24 = .ok (.ifCond .ne 5, 3) := by decide +kernel
theorem dX11_judge_27 : decode cX11_judge 27 = .ok (.iconst (-1), 1) := by decide +kernel
theorem dX11_judge_28 : decode cX11_judge 28 = .ok (.ireturn, 1) := by decide +kernel
theorem dX11_judge_29 : decode cX11_judge 29 = .ok (.aload_n 0, 1) := by decide +kernel
theorem dX11_judge_30 : decode cX11_judge 30 = .ok (.iload_n 1, 1) := by decide +kernel
theorem dX11_judge_31 : decode cX11_judge 31 = .ok (.invokevirtual 519, 3) := by decide +kernel
theorem dX11_judge_34 : decode cX11_judge 34 = .ok (.iload_n 2, 1) := by decide +kernel
theorem dX11_judge_35 : decode cX11_judge 35 = .ok (.istore_n 3, 1) := by decide +kernel
theorem dX11_judge_36 : decode cX11_judge 36 = .ok (.iconst 0, 1) := by decide +kernel
theorem dX11_judge_37 : decode cX11_judge 37 = .ok (.istore 4, 2) := by decide +kernel
theorem dX11_judge_39 : decode cX11_judge 39 = .ok (.iload 4, 2) := by decide +kernel
theorem dX11_judge_41 : decode cX11_judge 41 = .ok (.aload_n 0, 1) := by decide +kernel
theorem dX11_judge_42 : decode cX11_judge 42 = .ok (.getfield 507, 3) := by decide +kernel
theorem dX11_judge_45 : decode cX11_judge 45 = .ok (.if_icmp .ge 23, 3) := by decide +kernel
theorem dX11_judge_48 : decode cX11_judge 48 = .ok (.aload_n 0, 1) := by decide +kernel
theorem dX11_judge_49 : decode cX11_judge 49 = .ok (.getfield 205, 3) := by decide +kernel
theorem dX11_judge_52 : decode cX11_judge 52 = .ok (.iload 4, 2) := by decide +kernel
theorem dX11_judge_54 : decode cX11_judge 54 = .ok (.iload_n 3, 1) := by decide +kernel
theorem dX11_judge_55 : decode cX11_judge 55 = .ok (.iconst 5, 1) := by decide +kernel
theorem dX11_judge_56 : decode cX11_judge 56 = .ok (.irem, 1) := by decide +kernel
theorem dX11_judge_57 : decode cX11_judge 57 = .ok (.iastore, 1) := by decide +kernel
theorem dX11_judge_58 : decode cX11_judge 58 = .ok (.iload_n 3, 1) := by decide +kernel
theorem dX11_judge_59 : decode cX11_judge 59 = .ok (.iconst 5, 1) := by decide +kernel
theorem dX11_judge_60 : decode cX11_judge 60 = .ok (.idiv, 1) := by decide +kernel
theorem dX11_judge_61 : decode cX11_judge 61 = .ok (.istore_n 3, 1) := by decide +kernel
theorem dX11_judge_62 : decode cX11_judge 62 = .ok (.iinc 4 1, 3) := by decide +kernel
theorem dX11_judge_65 : decode cX11_judge 65 = .ok (.goto (-26), 3) := by decide +kernel
theorem dX11_judge_68 : decode cX11_judge 68 = .ok (.aload_n 0, 1) := by decide +kernel
theorem dX11_judge_69 : decode cX11_judge 69 = .ok (.invokevirtual 528, 3) := by decide +kernel
theorem dX11_judge_72 : decode cX11_judge 72 = .ok (.istore 4, 2) := by decide +kernel
theorem dX11_judge_74 : decode cX11_judge 74 = .ok (.iload 4, 2) := by decide +kernel
theorem dX11_judge_76 : decode cX11_judge 76 = .ok (.iconst (-1), 1) := by decide +kernel
theorem dX11_judge_77 : decode cX11_judge 77 = .ok (.if_icmp .ne 8, 3) := by decide +kernel
theorem dX11_judge_80 : decode cX11_judge 80 = .ok (.bipush (-2), 2) := by decide +kernel
theorem dX11_judge_82 : decode cX11_judge 82 = .ok (.goto 5, 3) := by decide +kernel
theorem dX11_judge_85 : decode cX11_judge 85 = .ok (.iload 4, 2) := by decide +kernel
theorem dX11_judge_87 : decode cX11_judge 87 = .ok (.ireturn, 1) := by decide +kernel
noncomputable def f11_judge_j87 (k0_j87 : Int32) (s11_j87 : OS) : Option (Int32 × OS) := some (k0_j87, s11_j87)
noncomputable def f11_judge_j27 (s11_j27 : OS) : Option (Int32 × OS) := some ((-1 : Int32), s11_j27)
noncomputable def f11_judge_l39  : Int32 × Int32 × OS → Option ((Int32 × Int32 × OS) ⊕ (Int32 × OS)) := fun t_39 => if (t_39.2.2.1 0 10) ≤ t_39.2.1 then (Option.map Sum.inr (Option.bind (f11_worthOfRow t_39.2.2) fun q_69 => if q_69.1 = (-1 : Int32) then (f11_judge_j87 ((-2 : Int32)) q_69.2) else (f11_judge_j87 q_69.1 q_69.2))) else (chk (inb t_39.2.1 6) (nm (wI t_39.2.2 89 t_39.2.1.toNatClampNeg ((t_39.1 - t_39.1 / (5 : Int32) * (5 : Int32)))) fun s11_57 => nm ((t_39.1 / (5 : Int32))) fun n_61 => nm (t_39.2.1 + (1 : Int32)) fun n_62 => some (Sum.inl (n_61, n_62, s11_57))))
noncomputable def f11_judge (a1 : Int32) (a2 : Int32) (s11 : OS) : Option (Int32 × OS) := Option.bind (f11_isKind a1) fun q_1 => if q_1 = 0 then (f11_judge_j27 s11) else (Option.bind (f11_rowsOf ((s11.1 0 10))) fun q_15 => Option.bind (f11_lies ((a2).toInt64) ((0 : Int64)) (((q_15 - (1 : Int32))).toInt64)) fun q_21 => if q_21 = 0 then (f11_judge_j27 s11) else (Option.bind (f11_stocks a1 s11) fun q_31 => loop (f11_judge_l39) (a2, (0 : Int32), q_31)))
set_option maxHeartbeats 4000000 in
set_option maxRecDepth 100000 in
theorem m11_judge (l : Launch) (D : va_G) (ad : Nat → Nat) (cy : Nat → ClassId) (sz : Nat) (s11 : OS) (a1 : Int32) (a2 : Int32) (r : Int32 × OS) (h : f11_judge a1 a2 s11 = some r) : Met l yX11_judge (wsOf yX11_judge cX11_judge 5 (some .int)) (rmL 5) (va_Pc ([.ref (ad 0), .int a1, .int a2] : List Value) (PreG D cy (cellsM ad cy s11) sz NM)) (QcI D ad 66 (cellsM ad cy r.2) (r.1) sz) 0 0 (Afr ad 66 sz) := by
  refine metG (own := RX11) (by decide) rfl (Nat.le_of_ble_eq_true rfl) fstM ?_ sz
  intro p e s m below meth c ls C0 hw hl
  obtain ⟨hx, hb, hml, hown, hts, hr, hlk, hK, hN⟩ := C0
  have hl : lv_has ls 5 [(0, .ref (ad 0)), (1, .int a1), (2, .int a2)] := hl
  generalize hQ : MQ below (QcI D ad 66 (cellsM ad cy r.2) (r.1) s.heap.size) ([.ref (ad 0), .int a1, .int a2] : List Value).toArray s 0 0 (Afr ad 66 s.heap.size) = Q
  obtain ⟨H, hH⟩ : ∃ H : Heap, H = s.heap := ⟨_, rfl⟩
  obtain ⟨locs, hlc⟩ : ∃ L : List Loc, L = [] := ⟨_, rfl⟩
  have hw : Wd D (cellsM ad cy s11) (Afr ad 66 s.heap.size) s.heap H locs := by rw [hH, hlc]; exact hw
  suffices h0 : W p l e (rmL 5) s m ([.ref (ad 0), .int a1, .int a2] : List Value).toArray below meth c H locs 0 0 Q (F0 m 0 ls []) by rw [hH, hlc] at h0; exact h0
  clear hH hlc
  unfold f11_judge at h
  have hJ_87 : ∀ (k0_j87 : Int32) (s11_j87 : OS) (H : Heap) (locs : List Loc) (ls : Array Slot), f11_judge_j87 k0_j87 s11_j87 = some r → Wd D (cellsM ad cy s11_j87) (Afr ad 66 s.heap.size) s.heap H locs → lv_has ls 5 [] → W p l e (rmL 5) s m ([.ref (ad 0), .int a1, .int a2] : List Value).toArray below meth c H locs 0 0 Q (F0 m 87 ls [.int k0_j87]) := by
    intro k0_j87 s11_j87 H locs ls h hw hl
    unfold f11_judge_j87 at h
    have h := Option.some.inj h
    subst h
    rw [← hQ]
    exact retI hx hb hr hlk hw rfl dX11_judge_87
  have hJ_27 : ∀ (s11_j27 : OS) (H : Heap) (locs : List Loc) (ls : Array Slot), f11_judge_j27 s11_j27 = some r → Wd D (cellsM ad cy s11_j27) (Afr ad 66 s.heap.size) s.heap H locs → lv_has ls 5 [] → W p l e (rmL 5) s m ([.ref (ad 0), .int a1, .int a2] : List Value).toArray below meth c H locs 0 0 Q (F0 m 27 ls []) := by
    intro s11_j27 H locs ls h hw hl
    unfold f11_judge_j27 at h
    refine lv_iconst (v := (-1)) hx hb dX11_judge_27 (by decide) ?_
    have h := Option.some.inj h
    subst h
    rw [← hQ]
    exact retI hx hb hr hlk hw rfl dX11_judge_28
  refine lv_iload_n hx hb dX11_judge_0 rfl (lv_at hl 1 rfl) ?_
  obtain ⟨q_1, h_1, h⟩ := bnd_e h
  have pg_1 := preG (av := [.int a1]) hK hw.1 hw.2.1 NM_keep NM_blind
  refine endI (mc := 0) (ms := 0) (va_runS (As := [.int a1]) (rest := []) ⟨hx, hb, hml, hown, hts⟩ (m11_isKind l D ad cy H.size s11 a1 q_1 h_1) (wX11_254 1 hts ⟨Nat.le_of_ble_eq_true rfl, Nat.le_of_ble_eq_true rfl⟩) pg_1 rfl rfl hl.1 rfl (lv_room (Nat.le_of_ble_eq_true rfl)) dX11_judge_1 ⟨Nat.le_refl _, Nat.le_refl _⟩) hw.2.2 (afr_in hw.2.2) (fun H locs hw => ?_)
  refine lv_if_eq (tgt := 27) hx hb dX11_judge_4 (by decide) (fun c_4 => ?_) (fun c_4 => ?_)
  · have h := ite_t c_4 h
    exact hJ_27 s11 H locs ls h hw (lv_sub hl [] rfl)
  · have h := ite_f c_4 h
    refine lv_iload_n hx hb dX11_judge_7 rfl (lv_at hl 2 rfl) ?_
    refine lv_i2l hx hb dX11_judge_8 rfl ?_
    refine lv_lconst (v := 0) hx hb dX11_judge_9 (by decide) ?_
    refine lv_aload_n hx hb dX11_judge_10 rfl (lv_at hl 0 rfl) ?_
    refine lv_aload_n hx hb dX11_judge_11 rfl (lv_at hl 0 rfl) ?_
    refine gX11_507 hx hb hts hown hK hw dX11_judge_12 ?_
    obtain ⟨q_15, h_15, h⟩ := bnd_e h
    have pg_15 := preG (av := [.ref (ad 0), .int ((s11.1 0 10))]) hK hw.1 hw.2.1 NM_keep NM_blind
    refine endI (mc := 0) (ms := 0) (va_runV (As := [.int ((s11.1 0 10))]) (rest := [.long ((0 : Int64)), .long ((a2).toInt64)]) ⟨hx, hb, hml, hown, hts⟩ (m11_rowsOf l D ad cy H.size s11 ((s11.1 0 10)) q_15 h_15) (wX11_525 0 hts ⟨Nat.le_of_ble_eq_true rfl, Nat.le_of_ble_eq_true rfl⟩) ⟨pg_15.1, va_recv hK hw.1 (ci := 11) (q0 := 0) rfl eM_0, pg_15.2⟩ rfl rfl hl.1 rfl (lv_room (Nat.le_of_ble_eq_true rfl)) dX11_judge_15 ⟨Nat.le_refl _, Nat.le_refl _⟩) hw.2.2 (afr_in hw.2.2) (fun H locs hw => ?_)
    refine lv_iconst (v := 1) hx hb dX11_judge_18 (by decide) ?_
    refine lv_isub hx hb dX11_judge_19 ?_
    refine lv_i2l hx hb dX11_judge_20 rfl ?_
    obtain ⟨q_21, h_21, h⟩ := bnd_e h
    have pg_21 := preG (av := [.long ((a2).toInt64), .long ((0 : Int64)), .long (((q_15 - (1 : Int32))).toInt64)]) hK hw.1 hw.2.1 NM_keep NM_blind
    refine endI (mc := 0) (ms := 0) (va_runS (As := [.long ((a2).toInt64), .long ((0 : Int64)), .long (((q_15 - (1 : Int32))).toInt64)]) (rest := []) ⟨hx, hb, hml, hown, hts⟩ (m11_lies l D ad cy H.size s11 ((a2).toInt64) ((0 : Int64)) (((q_15 - (1 : Int32))).toInt64) q_21 h_21) (wX11_215 0 hts ⟨Nat.le_of_ble_eq_true rfl, Nat.le_of_ble_eq_true rfl⟩) pg_21 rfl rfl hl.1 rfl (lv_room (Nat.le_of_ble_eq_true rfl)) dX11_judge_21 ⟨Nat.le_refl _, Nat.le_refl _⟩) hw.2.2 (afr_in hw.2.2) (fun H locs hw => ?_)
    refine lv_if_ne (tgt := 29) hx hb dX11_judge_24 (by decide) (fun c_24 => ?_) (fun c_24 => ?_)
    · have h := ite_f c_24 h
      refine lv_aload_n hx hb dX11_judge_29 rfl (lv_at hl 0 rfl) ?_
      refine lv_iload_n hx hb dX11_judge_30 rfl (lv_at hl 1 rfl) ?_
      obtain ⟨q_31, h_31, h⟩ := bnd_e h
      have pg_31 := preG (av := [.ref (ad 0), .int a1]) hK hw.1 hw.2.1 NM_keep NM_blind
      refine endV (mc := 0) (ms := 0) (va_runV (As := [.int a1]) (rest := []) ⟨hx, hb, hml, hown, hts⟩ (m11_stocks l D ad cy H.size s11 a1 q_31 h_31) (wX11_519 4 hts ⟨Nat.le_of_ble_eq_true rfl, Nat.le_of_ble_eq_true rfl⟩) ⟨pg_31.1, va_recv hK hw.1 (ci := 11) (q0 := 0) rfl eM_0, pg_31.2⟩ rfl rfl hl.1 rfl (lv_room (Nat.le_of_ble_eq_true rfl)) dX11_judge_31 ⟨Nat.le_refl _, Nat.le_refl _⟩) hw.2.2 (afr_in hw.2.2) (fun H locs hw => ?_)
      refine lv_iload_n hx hb dX11_judge_34 rfl (lv_at hl 2 rfl) ?_
      refine lv_istore_n (lv' := [(3, .int a2), (0, .ref (ad 0)), (1, .int a1), (2, .int a2)]) hx hb dX11_judge_35 rfl hl (by decide) rfl (fun ls hl => ?_)
      refine lv_iconst (v := 0) hx hb dX11_judge_36 (by decide) ?_
      refine lv_istore (lv' := [(4, .int ((0 : Int32))), (3, .int a2), (0, .ref (ad 0)), (1, .int a1), (2, .int a2)]) hx hb dX11_judge_37 hl (by decide) rfl (fun ls hl => ?_)
      obtain ⟨n_39, hn_39⟩ := loop_e h
      have hL_39 : ∀ (n : Nat) (t_39 : Int32 × Int32 × OS) (H : Heap) (locs : List Loc) (ls : Array Slot), loopN (f11_judge_l39) n t_39 = some r → Wd D (cellsM ad cy t_39.2.2) (Afr ad 66 s.heap.size) s.heap H locs → lv_has ls 5 [(3, .int t_39.1), (4, .int t_39.2.1), (0, .ref (ad 0))] → W p l e (rmL 5) s m ([.ref (ad 0), .int a1, .int a2] : List Value).toArray below meth c H locs 0 0 Q (F0 m 39 ls []) := by
        intro n
        induction n with
        | zero => intro t_39 H locs ls hn; cases hn
        | succ n ih_39 =>
          intro t_39 H locs ls hn hw hl
          obtain ⟨x_39, h, hx_39⟩ := loopN_e hn
          unfold f11_judge_l39 at h
          refine lv_iload hx hb dX11_judge_39 (lv_at hl 1 rfl) ?_
          refine lv_aload_n hx hb dX11_judge_41 rfl (lv_at hl 2 rfl) ?_
          refine gX11_507 hx hb hts hown hK hw dX11_judge_42 ?_
          refine lv_icmp_ge (tgt := 68) hx hb dX11_judge_45 (by decide) (fun c_45 => ?_) (fun c_45 => ?_)
          · have h := ite_t c_45 h
            have h := nx_m hx_39 h
            refine lv_aload_n hx hb dX11_judge_68 rfl (lv_at hl 2 rfl) ?_
            obtain ⟨q_69, h_69, h⟩ := bnd_e h
            have pg_69 := preG (av := [.ref (ad 0)]) hK hw.1 hw.2.1 NM_keep NM_blind
            refine endI (mc := 0) (ms := 0) (va_runV (As := []) (rest := []) ⟨hx, hb, hml, hown, hts⟩ (m11_worthOfRow l D ad cy H.size t_39.2.2 q_69 h_69) (wX11_528 0 hts ⟨Nat.le_of_ble_eq_true rfl, Nat.le_of_ble_eq_true rfl⟩) ⟨pg_69.1, va_recv hK hw.1 (ci := 11) (q0 := 0) rfl eM_0, pg_69.2⟩ rfl rfl hl.1 rfl (lv_room (Nat.le_of_ble_eq_true rfl)) dX11_judge_69 ⟨Nat.le_refl _, Nat.le_refl _⟩) hw.2.2 (afr_in hw.2.2) (fun H locs hw => ?_)
            refine lv_istore (lv' := [(4, .int q_69.1), (3, .int t_39.1), (0, .ref (ad 0))]) hx hb dX11_judge_72 hl (by decide) rfl (fun ls hl => ?_)
            refine lv_iload hx hb dX11_judge_74 (lv_at hl 0 rfl) ?_
            refine lv_iconst (v := (-1)) hx hb dX11_judge_76 (by decide) ?_
            refine lv_icmp_ne (tgt := 85) hx hb dX11_judge_77 (by decide) (fun c_77 => ?_) (fun c_77 => ?_)
            · have h := ite_f c_77 h
              refine lv_iload hx hb dX11_judge_85 (lv_at hl 0 rfl) ?_
              exact hJ_87 q_69.1 q_69.2 H locs ls h hw (lv_sub hl [] rfl)
            · have h := ite_t c_77 h
              refine lv_bipush (v := (-2)) hx hb dX11_judge_80 (by decide) ?_
              refine lv_goto (tgt := 87) hx hb dX11_judge_82 (by decide) ?_
              exact hJ_87 ((-2 : Int32)) q_69.2 H locs ls h hw (lv_sub hl [] rfl)
          · have h := ite_f c_45 h
            refine lv_aload_n hx hb dX11_judge_48 rfl (lv_at hl 2 rfl) ?_
            refine gX11_205 hx hb hts hown hK hw dX11_judge_49 ?_
            refine lv_iload hx hb dX11_judge_52 (lv_at hl 1 rfl) ?_
            refine lv_iload_n hx hb dX11_judge_54 rfl (lv_at hl 0 rfl) ?_
            refine lv_iconst (v := 5) hx hb dX11_judge_55 (by decide) ?_
            refine lv_irem hx hb dX11_judge_56 (by decide) ?_
            obtain ⟨hi_57, h⟩ := chk_e h
            obtain ⟨s11_57, e_57, h⟩ := nam_e h
            refine aM65 hx hb hK hw hi_57 e_57 dX11_judge_57 (fun H locs hw => ?_)
            refine lv_iload_n hx hb dX11_judge_58 rfl (lv_at hl 0 rfl) ?_
            refine lv_iconst (v := 5) hx hb dX11_judge_59 (by decide) ?_
            refine lv_idiv hx hb dX11_judge_60 (by decide) ?_
            obtain ⟨n_61, e_61, h⟩ := nam_e h
            refine topI e_61 ?_
            refine lv_istore_n (lv' := [(3, .int n_61), (4, .int t_39.2.1), (0, .ref (ad 0))]) hx hb dX11_judge_61 rfl hl (by decide) rfl (fun ls hl => ?_)
            obtain ⟨n_62, e_62, h⟩ := nam_e h
            refine lv_iinc (v := n_62) (lv' := [(4, .int n_62), (3, .int n_61), (0, .ref (ad 0))]) hx hb dX11_judge_62 hl (k := 1) rfl (by rw [e_62]; rfl) (by decide) rfl (fun ls hl => ?_)
            refine lv_goto (tgt := 39) hx hb dX11_judge_65 (by decide) ?_
            exact ih_39 (n_61, n_62, s11_57) H locs ls (nx_l hx_39 h) hw (lv_sub hl [1, 0, 2] rfl)
      exact hL_39 n_39 (a2, (0 : Int32), q_31) H locs ls hn_39 hw (lv_sub hl [1, 0, 2] rfl)
    · have h := ite_t c_24 h
      exact hJ_27 s11 H locs ls h hw (lv_sub hl [] rfl)
theorem dX11_strikes_0 : decode cX11_strikes 0 = .ok (.iconst 0, 1) := by decide +kernel
theorem dX11_strikes_1 : decode cX11_strikes 1 = .ok (.istore_n 1, 1) := by decide +kernel
theorem dX11_strikes_2 : decode cX11_strikes 2 = .ok (.iload_n 1, 1) := by decide +kernel
theorem dX11_strikes_3 : decode cX11_strikes 3 = .ok (.bipush 12, 2) := by decide +kernel
theorem dX11_strikes_5 : decode cX11_strikes 5 = .ok (.aload_n 0, 1) := by decide +kernel
theorem dX11_strikes_6 : decode cX11_strikes 6 = .ok (.getfield 298, 3) := by decide +kernel
theorem dX11_strikes_9 : decode cX11_strikes 9 = .ok (.imul, 1) := by decide +kernel
theorem dX11_strikes_10 : decode cX11_strikes 10 = .ok (.if_icmp .ge 16, 3) := by decide +kernel
theorem dX11_strikes_13 : decode cX11_strikes 13 = .ok (.aload_n 0, 1) := by decide +kernel
theorem dX11_strikes_14 : decode cX11_strikes 14 = .ok (.getfield 118, 3) := by decide +kernel
theorem dX11_strikes_17 : decode cX11_strikes 17 = .ok (.iload_n 1, 1) := by decide +kernel
theorem dX11_strikes_18 : decode cX11_strikes 18 = .ok (.iconst 0, 1) := by decide +kernel
theorem dX11_strikes_19 : decode cX11_strikes 19 = .ok (.bastore, 1) := by decide +kernel
theorem dX11_strikes_20 : decode cX11_strikes 20 = .ok (.iinc 1 1, 3) := by decide +kernel
theorem dX11_strikes_23 : decode cX11_strikes 23 = .ok (.goto (-21), 3) := by decide +kernel
theorem dX11_strikes_26 : decode cX11_strikes 26 = .ok (.aload_n 0, 1) := by decide +kernel
theorem dX11_strikes_27 : decode cX11_strikes 27 = .ok (.getfield 298, 3) := by decide +kernel
theorem dX11_strikes_30 : decode cX11_strikes 30 = .ok (.iconst 1, 1) := by decide +kernel
theorem dX11_strikes_31 : decode cX11_strikes 31 = .ok (.isub, 1) := by decide +kernel
theorem dX11_strikes_32 : decode cX11_strikes 32 = .ok (.istore_n 1, 1) := by decide +kernel
theorem dX11_strikes_33 : decode cX11_strikes 33 = .ok (.iload_n 1, 1) := by decide +kernel
theorem dX11_strikes_34 : decode cX11_strikes 34 = .ok (.ifCond .lt 111, 3) := by decide +kernel
theorem dX11_strikes_37 : decode cX11_strikes 37 = .ok (.aload_n 0, 1) := by decide +kernel
theorem dX11_strikes_38 : decode cX11_strikes 38 = .ok (.iload_n 1, 1) := by decide +kernel
theorem dX11_strikes_39 : decode cX11_strikes 39 = .ok (.invokevirtual 429, 3) := by decide +kernel
theorem dX11_strikes_42 : decode cX11_strikes 42 = .ok (.ifCond .ne 6, 3) := by decide +kernel
theorem dX11_strikes_45 : decode cX11_strikes 45 = .ok (.goto 94, 3) := by decide +kernel
theorem dX11_strikes_48 : decode cX11_strikes 48 = .ok (.bipush 12, 2) := by decide +kernel
theorem dX11_strikes_50 : decode cX11_strikes 50 = .ok (.iload_n 1, 1) := by decide +kernel
theorem dX11_strikes_51 : decode cX11_strikes 51 = .ok (.imul, 1) := by decide +kernel
theorem dX11_strikes_52 : decode cX11_strikes 52 = .ok (.istore_n 2, 1) := by decide +kernel
theorem dX11_strikes_53 : decode cX11_strikes 53 = .ok (.iload_n 2, 1) := by decide +kernel
theorem dX11_strikes_54 : decode cX11_strikes 54 = .ok (.bipush 12, 2) := by decide +kernel
theorem dX11_strikes_56 : decode cX11_strikes 56 = .ok (.iload_n 1, 1) := by decide +kernel
theorem dX11_strikes_57 : decode cX11_strikes 57 = .ok (.imul, 1) := by decide +kernel
theorem dX11_strikes_58 : decode cX11_strikes 58 = .ok (.aload_n 0, 1) := by decide +kernel
theorem dX11_strikes_59 : decode cX11_strikes 59 = .ok (.getfield 85, 3) := by decide +kernel
theorem dX11_strikes_62 : decode cX11_strikes 62 = .ok (.iload_n 1, 1) := by decide +kernel
theorem dX11_strikes_63 : decode cX11_strikes 63 = .ok (.iaload, 1) := by decide +kernel
theorem dX11_strikes_64 : decode cX11_strikes 64 = .ok (.iadd, 1) := by decide +kernel
theorem dX11_strikes_65 : decode cX11_strikes 65 = .ok (.if_icmp .ge 74, 3) := by decide +kernel
theorem dX11_strikes_68 : decode cX11_strikes 68 = .ok (.aload_n 0, 1) := by decide +kernel
theorem dX11_strikes_69 : decode cX11_strikes 69 = .ok (.getfield 88, 3) := by decide +kernel
theorem dX11_strikes_72 : decode cX11_strikes 72 = .ok (.iload_n 2, 1) := by decide +kernel
theorem dX11_strikes_73 : decode cX11_strikes 73 = .ok (.iaload, 1) := by decide +kernel
theorem dX11_strikes_74 : decode cX11_strikes 74 = .ok (.bipush 120, 2) := by decide +kernel
theorem dX11_strikes_76 : decode cX11_strikes 76 = .ok (.if_icmp .ne 57, 3) := by decide +kernel
theorem dX11_strikes_79 : decode cX11_strikes 79 = .ok (.aload_n 0, 1) := by decide +kernel
theorem dX11_strikes_80 : decode cX11_strikes 80 = .ok (.getfield 118, 3) := by decide +kernel
theorem dX11_strikes_83 : decode cX11_strikes 83 = .ok (.iload_n 2, 1) := by decide +kernel
theorem dX11_strikes_84 : decode cX11_strikes 84 = .ok (.baload, 1) := by decide +kernel
theorem dX11_strikes_85 : decode cX11_strikes 85 = .ok (.ifCond .ne 48, 3) := by decide +kernel
theorem dX11_strikes_88 : decode cX11_strikes 88 = .ok (.aload_n 0, 1) := by decide +kernel
theorem dX11_strikes_89 : decode cX11_strikes 89 = .ok (.getfield 91, 3) := by decide +kernel
theorem dX11_strikes_92 : decode cX11_strikes 92 = .ok (.iload_n 2, 1) := by decide +kernel
theorem dX11_strikes_93 : decode cX11_strikes 93 = .ok (.iaload, 1) := by decide +kernel
theorem dX11_strikes_94 : decode cX11_strikes 94 = .ok (.iload_n 1, 1) := by decide +kernel
theorem dX11_strikes_95 : decode cX11_strikes 95 = .ok (.if_icmp .ge 38, 3) := by decide +kernel
theorem dX11_strikes_98 : decode cX11_strikes 98 = .ok (.aload_n 0, 1) := by decide +kernel
theorem dX11_strikes_99 : decode cX11_strikes 99 = .ok (.aload_n 0, 1) := by decide +kernel
theorem dX11_strikes_100 : decode cX11_strikes 100 = .ok (.getfield 91, 3) := by decide +kernel
theorem dX11_strikes_103 : decode cX11_strikes 103 = .ok (.iload_n 2, 1) := by decide +kernel
theorem dX11_strikes_104 : decode cX11_strikes 104 = .ok (.iaload, 1) := by decide +kernel
theorem dX11_strikes_105 : decode cX11_strikes 105 = .ok (.invokevirtual 429, 3) := by decide +kernel
theorem dX11_strikes_108 : decode cX11_strikes 108 = .ok (.ifCond .eq 25, 3) := by decide +kernel
theorem dX11_strikes_111 : decode cX11_strikes 111 = .ok (.aload_n 0, 1) := by decide +kernel
theorem dX11_strikes_112 : decode cX11_strikes 112 = .ok (.getfield 118, 3) := by decide +kernel
theorem dX11_strikes_115 : decode cX11_strikes 115 = .ok (.bipush 12, 2) := by decide +kernel
theorem dX11_strikes_117 : decode cX11_strikes 117 = .ok (.aload_n 0, 1) := by decide +kernel
theorem dX11_strikes_118 : decode cX11_strikes 118 = .ok (.getfield 91, 3) := by decide +kernel
theorem dX11_strikes_121 : decode cX11_strikes 121 = .ok (.iload_n 2, 1) := by decide +kernel
theorem dX11_strikes_122 : decode cX11_strikes 122 = .ok (.iaload, 1) := by decide +kernel
theorem dX11_strikes_123 : decode cX11_strikes 123 = .ok (.imul, 1) := by decide +kernel
theorem dX11_strikes_124 : decode cX11_strikes 124 = .ok (.aload_n 0, 1) := by decide +kernel
theorem dX11_strikes_125 : decode cX11_strikes 125 = .ok (.getfield 94, 3) := by decide +kernel
theorem dX11_strikes_128 : decode cX11_strikes 128 = .ok (.iload_n 2, 1) := by decide +kernel
theorem dX11_strikes_129 : decode cX11_strikes 129 = .ok (.iaload, 1) := by decide +kernel
theorem dX11_strikes_130 : decode cX11_strikes 130 = .ok (.iadd, 1) := by decide +kernel
theorem dX11_strikes_131 : decode cX11_strikes 131 = .ok (.iconst 1, 1) := by decide +kernel
theorem dX11_strikes_132 : decode cX11_strikes 132 = .ok (.bastore, 1) := by decide +kernel
theorem dX11_strikes_133 : decode cX11_strikes 133 = .ok (.iinc 2 1, 3) := by decide +kernel
theorem dX11_strikes_136 : decode cX11_strikes 136 = .ok (.goto (-83), 3) := by decide +kernel
theorem dX11_strikes_139 : decode cX11_strikes 139 = .ok (.iinc 1 (-1), 3) := by decide +kernel
theorem dX11_strikes_142 : decode cX11_strikes 142 = .ok (.goto (-109), 3) := by decide +kernel
theorem dX11_strikes_145 : decode cX11_strikes 145 = .ok (.return_, 1) := by decide +kernel
noncomputable def f11_strikes_j139 (v1_j139 : Int32) (s11_j139 : OS) : Option ((Int32 × OS) ⊕ (OS)) := nm (v1_j139 + (-1 : Int32)) fun n_139 => some (Sum.inl (n_139, s11_j139))
noncomputable def f11_strikes_j133 (v1_j133 : Int32) (v2_j133 : Int32) (s11_j133 : OS) : Option ((Int32 × OS) ⊕ ((Int32 × OS) ⊕ (OS))) := nm (v2_j133 + (1 : Int32)) fun n_133 => some (Sum.inl (n_133, s11_j133))
noncomputable def f11_strikes_l53 (v1_i53 : Int32) : Int32 × OS → Option ((Int32 × OS) ⊕ ((Int32 × OS) ⊕ (OS))) := fun t_53 => chk (inb v1_i53 20) (nm (t_53.2.1 36 v1_i53.toNatClampNeg) fun y_63 => if (((12 : Int32) * v1_i53) + y_63) ≤ t_53.1 then (Option.map Sum.inr (f11_strikes_j139 v1_i53 t_53.2)) else (chk (inb t_53.1 240) (nm (t_53.2.1 37 t_53.1.toNatClampNeg) fun y_73 => if y_73 = (120 : Int32) then (chk (inb t_53.1 240) (nm (t_53.2.1 58 t_53.1.toNatClampNeg) fun y_84 => if y_84 = 0 then (chk (inb t_53.1 240) (nm (t_53.2.1 38 t_53.1.toNatClampNeg) fun y_93 => if v1_i53 ≤ y_93 then (f11_strikes_j133 v1_i53 t_53.1 t_53.2) else (chk (inb t_53.1 240) (nm (t_53.2.1 38 t_53.1.toNatClampNeg) fun y_104 => Option.bind (f11_isInForce y_104 t_53.2) fun q_105 => if q_105 = 0 then (f11_strikes_j133 v1_i53 t_53.1 t_53.2) else (chk (inb t_53.1 240) (nm (t_53.2.1 38 t_53.1.toNatClampNeg) fun y_122 => chk (inb t_53.1 240) (nm (t_53.2.1 39 t_53.1.toNatClampNeg) fun y_129 => chk (inb ((((12 : Int32) * y_122) + y_129)) 240) (nm (wI t_53.2 58 ((((12 : Int32) * y_122) + y_129)).toNatClampNeg (vp_nar .boolean ((1 : Int32)))) fun s11_132 => f11_strikes_j133 v1_i53 t_53.1 s11_132)))))))) else (f11_strikes_j133 v1_i53 t_53.1 t_53.2))) else (f11_strikes_j133 v1_i53 t_53.1 t_53.2))))
noncomputable def f11_strikes_l33  : Int32 × OS → Option ((Int32 × OS) ⊕ (OS)) := fun t_33 => if t_33.1 < 0 then (Option.map Sum.inr (some t_33.2)) else (Option.bind (f11_isInForce t_33.1 t_33.2) fun q_39 => if q_39 = 0 then (f11_strikes_j139 t_33.1 t_33.2) else (nm (((12 : Int32) * t_33.1)) fun n_52 => loop (f11_strikes_l53 t_33.1) (n_52, t_33.2)))
noncomputable def f11_strikes_l2  : Int32 × OS → Option ((Int32 × OS) ⊕ (OS)) := fun t_2 => if ((12 : Int32) * (t_2.2.1 0 6)) ≤ t_2.1 then (Option.map Sum.inr (nm (((t_2.2.1 0 6) - (1 : Int32))) fun n_32 => loop (f11_strikes_l33) (n_32, t_2.2))) else (chk (inb t_2.1 240) (nm (wI t_2.2 58 t_2.1.toNatClampNeg (vp_nar .boolean ((0 : Int32)))) fun s11_19 => nm (t_2.1 + (1 : Int32)) fun n_20 => some (Sum.inl (n_20, s11_19))))
noncomputable def f11_strikes (s11 : OS) : Option (OS) := loop (f11_strikes_l2) ((0 : Int32), s11)
set_option maxHeartbeats 4000000 in
set_option maxRecDepth 100000 in
theorem m11_strikes (l : Launch) (D : va_G) (ad : Nat → Nat) (cy : Nat → ClassId) (sz : Nat) (s11 : OS) (r : OS) (h : f11_strikes s11 = some r) : Met l yX11_strikes (wsOf yX11_strikes cX11_strikes 3 none) (rmL 2) (va_Pc ([.ref (ad 0)] : List Value) (PreG D cy (cellsM ad cy s11) sz NM)) (QcV D ad 66 (cellsM ad cy r) sz) 0 0 (Afr ad 66 sz) := by
  refine metG (own := RX11) (by decide) rfl (Nat.le_of_ble_eq_true rfl) fstM ?_ sz
  intro p e s m below meth c ls C0 hw hl
  obtain ⟨hx, hb, hml, hown, hts, hr, hlk, hK, hN⟩ := C0
  have hl : lv_has ls 3 [(0, .ref (ad 0))] := hl
  generalize hQ : MQ below (QcV D ad 66 (cellsM ad cy r) s.heap.size) ([.ref (ad 0)] : List Value).toArray s 0 0 (Afr ad 66 s.heap.size) = Q
  obtain ⟨H, hH⟩ : ∃ H : Heap, H = s.heap := ⟨_, rfl⟩
  obtain ⟨locs, hlc⟩ : ∃ L : List Loc, L = [] := ⟨_, rfl⟩
  have hw : Wd D (cellsM ad cy s11) (Afr ad 66 s.heap.size) s.heap H locs := by rw [hH, hlc]; exact hw
  suffices h0 : W p l e (rmL 2) s m ([.ref (ad 0)] : List Value).toArray below meth c H locs 0 0 Q (F0 m 0 ls []) by rw [hH, hlc] at h0; exact h0
  clear hH hlc
  unfold f11_strikes at h
  refine lv_iconst (v := 0) hx hb dX11_strikes_0 (by decide) ?_
  refine lv_istore_n (lv' := [(1, .int ((0 : Int32))), (0, .ref (ad 0))]) hx hb dX11_strikes_1 rfl hl (by decide) rfl (fun ls hl => ?_)
  obtain ⟨n_2, hn_2⟩ := loop_e h
  have hL_2 : ∀ (n : Nat) (t_2 : Int32 × OS) (H : Heap) (locs : List Loc) (ls : Array Slot), loopN (f11_strikes_l2) n t_2 = some r → Wd D (cellsM ad cy t_2.2) (Afr ad 66 s.heap.size) s.heap H locs → lv_has ls 3 [(1, .int t_2.1), (0, .ref (ad 0))] → W p l e (rmL 2) s m ([.ref (ad 0)] : List Value).toArray below meth c H locs 0 0 Q (F0 m 2 ls []) := by
    intro n
    induction n with
    | zero => intro t_2 H locs ls hn; cases hn
    | succ n ih_2 =>
      intro t_2 H locs ls hn hw hl
      obtain ⟨x_2, h, hx_2⟩ := loopN_e hn
      unfold f11_strikes_l2 at h
      refine lv_iload_n hx hb dX11_strikes_2 rfl (lv_at hl 0 rfl) ?_
      refine lv_bipush (v := 12) hx hb dX11_strikes_3 (by decide) ?_
      refine lv_aload_n hx hb dX11_strikes_5 rfl (lv_at hl 1 rfl) ?_
      refine gX11_298 hx hb hts hown hK hw dX11_strikes_6 ?_
      refine lv_imul hx hb dX11_strikes_9 ?_
      refine lv_icmp_ge (tgt := 26) hx hb dX11_strikes_10 (by decide) (fun c_10 => ?_) (fun c_10 => ?_)
      · have h := ite_t c_10 h
        have h := nx_m hx_2 h
        refine lv_aload_n hx hb dX11_strikes_26 rfl (lv_at hl 1 rfl) ?_
        refine gX11_298 hx hb hts hown hK hw dX11_strikes_27 ?_
        refine lv_iconst (v := 1) hx hb dX11_strikes_30 (by decide) ?_
        refine lv_isub hx hb dX11_strikes_31 ?_
        obtain ⟨n_32, e_32, h⟩ := nam_e h
        refine topI e_32 ?_
        refine lv_istore_n (lv' := [(1, .int n_32), (0, .ref (ad 0))]) hx hb dX11_strikes_32 rfl hl (by decide) rfl (fun ls hl => ?_)
        obtain ⟨n_33, hn_33⟩ := loop_e h
        have hL_33 : ∀ (n : Nat) (t_33 : Int32 × OS) (H : Heap) (locs : List Loc) (ls : Array Slot), loopN (f11_strikes_l33) n t_33 = some r → Wd D (cellsM ad cy t_33.2) (Afr ad 66 s.heap.size) s.heap H locs → lv_has ls 3 [(1, .int t_33.1), (0, .ref (ad 0))] → W p l e (rmL 2) s m ([.ref (ad 0)] : List Value).toArray below meth c H locs 0 0 Q (F0 m 33 ls []) := by
          intro n
          induction n with
          | zero => intro t_33 H locs ls hn; cases hn
          | succ n ih_33 =>
            intro t_33 H locs ls hn hw hl
            obtain ⟨x_33, h, hx_33⟩ := loopN_e hn
            unfold f11_strikes_l33 at h
            have hJ_139 : ∀ (v1_j139 : Int32) (s11_j139 : OS) (H : Heap) (locs : List Loc) (ls : Array Slot), f11_strikes_j139 v1_j139 s11_j139 = some x_33 → Wd D (cellsM ad cy s11_j139) (Afr ad 66 s.heap.size) s.heap H locs → lv_has ls 3 [(0, .ref (ad 0)), (1, .int v1_j139)] → W p l e (rmL 2) s m ([.ref (ad 0)] : List Value).toArray below meth c H locs 0 0 Q (F0 m 139 ls []) := by
              intro v1_j139 s11_j139 H locs ls h hw hl
              unfold f11_strikes_j139 at h
              obtain ⟨n_139, e_139, h⟩ := nam_e h
              refine lv_iinc (v := n_139) (lv' := [(1, .int n_139), (0, .ref (ad 0))]) hx hb dX11_strikes_139 hl (k := 1) rfl (by rw [e_139]; rfl) (by decide) rfl (fun ls hl => ?_)
              refine lv_goto (tgt := 33) hx hb dX11_strikes_142 (by decide) ?_
              exact ih_33 (n_139, s11_j139) H locs ls (nx_l hx_33 h) hw (lv_sub hl [0, 1] rfl)
            refine lv_iload_n hx hb dX11_strikes_33 rfl (lv_at hl 0 rfl) ?_
            refine lv_if_lt (tgt := 145) hx hb dX11_strikes_34 (by decide) (fun c_34 => ?_) (fun c_34 => ?_)
            · have h := ite_t c_34 h
              have h := nx_m hx_33 h
              have h := Option.some.inj h
              subst h
              rw [← hQ]
              exact retV hx hb hr hlk hw dX11_strikes_145
            · have h := ite_f c_34 h
              refine lv_aload_n hx hb dX11_strikes_37 rfl (lv_at hl 1 rfl) ?_
              refine lv_iload_n hx hb dX11_strikes_38 rfl (lv_at hl 0 rfl) ?_
              obtain ⟨q_39, h_39, h⟩ := bnd_e h
              have pg_39 := preG (av := [.ref (ad 0), .int t_33.1]) hK hw.1 hw.2.1 NM_keep NM_blind
              refine endI (mc := 0) (ms := 0) (va_runV (As := [.int t_33.1]) (rest := []) ⟨hx, hb, hml, hown, hts⟩ (m11_isInForce l D ad cy H.size t_33.2 t_33.1 q_39 h_39) (wX11_429 1 hts ⟨Nat.le_of_ble_eq_true rfl, Nat.le_of_ble_eq_true rfl⟩) ⟨pg_39.1, va_recv hK hw.1 (ci := 11) (q0 := 0) rfl eM_0, pg_39.2⟩ rfl rfl hl.1 rfl (lv_room (Nat.le_of_ble_eq_true rfl)) dX11_strikes_39 ⟨Nat.le_refl _, Nat.le_refl _⟩) hw.2.2 (afr_in hw.2.2) (fun H locs hw => ?_)
              refine lv_if_ne (tgt := 48) hx hb dX11_strikes_42 (by decide) (fun c_42 => ?_) (fun c_42 => ?_)
              · have h := ite_f c_42 h
                refine lv_bipush (v := 12) hx hb dX11_strikes_48 (by decide) ?_
                refine lv_iload_n hx hb dX11_strikes_50 rfl (lv_at hl 0 rfl) ?_
                refine lv_imul hx hb dX11_strikes_51 ?_
                obtain ⟨n_52, e_52, h⟩ := nam_e h
                refine topI e_52 ?_
                refine lv_istore_n (lv' := [(2, .int n_52), (1, .int t_33.1), (0, .ref (ad 0))]) hx hb dX11_strikes_52 rfl hl (by decide) rfl (fun ls hl => ?_)
                obtain ⟨n_53, hn_53⟩ := loop_e h
                have hL_53 : ∀ (n : Nat) (t_53 : Int32 × OS) (H : Heap) (locs : List Loc) (ls : Array Slot), loopN (f11_strikes_l53 t_33.1) n t_53 = some x_33 → Wd D (cellsM ad cy t_53.2) (Afr ad 66 s.heap.size) s.heap H locs → lv_has ls 3 [(2, .int t_53.1), (1, .int t_33.1), (0, .ref (ad 0))] → W p l e (rmL 2) s m ([.ref (ad 0)] : List Value).toArray below meth c H locs 0 0 Q (F0 m 53 ls []) := by
                  intro n
                  induction n with
                  | zero => intro t_53 H locs ls hn; cases hn
                  | succ n ih_53 =>
                    intro t_53 H locs ls hn hw hl
                    obtain ⟨x_53, h, hx_53⟩ := loopN_e hn
                    unfold f11_strikes_l53 at h
                    have hJ_133 : ∀ (v2_j133 : Int32) (s11_j133 : OS) (H : Heap) (locs : List Loc) (ls : Array Slot), f11_strikes_j133 t_33.1 v2_j133 s11_j133 = some x_53 → Wd D (cellsM ad cy s11_j133) (Afr ad 66 s.heap.size) s.heap H locs → lv_has ls 3 [(0, .ref (ad 0)), (1, .int t_33.1), (2, .int v2_j133)] → W p l e (rmL 2) s m ([.ref (ad 0)] : List Value).toArray below meth c H locs 0 0 Q (F0 m 133 ls []) := by
                      intro v2_j133 s11_j133 H locs ls h hw hl
                      unfold f11_strikes_j133 at h
                      obtain ⟨n_133, e_133, h⟩ := nam_e h
                      refine lv_iinc (v := n_133) (lv' := [(2, .int n_133), (0, .ref (ad 0)), (1, .int t_33.1)]) hx hb dX11_strikes_133 hl (k := 2) rfl (by rw [e_133]; rfl) (by decide) rfl (fun ls hl => ?_)
                      refine lv_goto (tgt := 53) hx hb dX11_strikes_136 (by decide) ?_
                      exact ih_53 (n_133, s11_j133) H locs ls (nx_l hx_53 h) hw (lv_sub hl [0, 2, 1] rfl)
                    refine lv_iload_n hx hb dX11_strikes_53 rfl (lv_at hl 0 rfl) ?_
                    refine lv_bipush (v := 12) hx hb dX11_strikes_54 (by decide) ?_
                    refine lv_iload_n hx hb dX11_strikes_56 rfl (lv_at hl 1 rfl) ?_
                    refine lv_imul hx hb dX11_strikes_57 ?_
                    refine lv_aload_n hx hb dX11_strikes_58 rfl (lv_at hl 2 rfl) ?_
                    refine gX11_85 hx hb hts hown hK hw dX11_strikes_59 ?_
                    refine lv_iload_n hx hb dX11_strikes_62 rfl (lv_at hl 1 rfl) ?_
                    obtain ⟨hi_63, h⟩ := chk_e h
                    obtain ⟨y_63, e_63, h⟩ := nam_e h
                    refine lM25 hx hb hK hw hi_63 e_63 dX11_strikes_63 ?_
                    refine lv_iadd hx hb dX11_strikes_64 ?_
                    refine lv_icmp_ge (tgt := 139) hx hb dX11_strikes_65 (by decide) (fun c_65 => ?_) (fun c_65 => ?_)
                    · have h := ite_t c_65 h
                      have h := nx_m hx_53 h
                      exact hJ_139 t_33.1 t_53.2 H locs ls h hw (lv_sub hl [2, 1] rfl)
                    · have h := ite_f c_65 h
                      refine lv_aload_n hx hb dX11_strikes_68 rfl (lv_at hl 2 rfl) ?_
                      refine gX11_88 hx hb hts hown hK hw dX11_strikes_69 ?_
                      refine lv_iload_n hx hb dX11_strikes_72 rfl (lv_at hl 0 rfl) ?_
                      obtain ⟨hi_73, h⟩ := chk_e h
                      obtain ⟨y_73, e_73, h⟩ := nam_e h
                      refine lM26 hx hb hK hw hi_73 e_73 dX11_strikes_73 ?_
                      refine lv_bipush (v := 120) hx hb dX11_strikes_74 (by decide) ?_
                      refine lv_icmp_ne (tgt := 133) hx hb dX11_strikes_76 (by decide) (fun c_76 => ?_) (fun c_76 => ?_)
                      · have h := ite_f c_76 h
                        exact hJ_133 t_53.1 t_53.2 H locs ls h hw (lv_sub hl [2, 1, 0] rfl)
                      · have h := ite_t c_76 h
                        refine lv_aload_n hx hb dX11_strikes_79 rfl (lv_at hl 2 rfl) ?_
                        refine gX11_118 hx hb hts hown hK hw dX11_strikes_80 ?_
                        refine lv_iload_n hx hb dX11_strikes_83 rfl (lv_at hl 0 rfl) ?_
                        obtain ⟨hi_84, h⟩ := chk_e h
                        obtain ⟨y_84, e_84, h⟩ := nam_e h
                        refine lM36 hx hb hK hw hi_84 e_84 dX11_strikes_84 ?_
                        refine lv_if_ne (tgt := 133) hx hb dX11_strikes_85 (by decide) (fun c_85 => ?_) (fun c_85 => ?_)
                        · have h := ite_f c_85 h
                          exact hJ_133 t_53.1 t_53.2 H locs ls h hw (lv_sub hl [2, 1, 0] rfl)
                        · have h := ite_t c_85 h
                          refine lv_aload_n hx hb dX11_strikes_88 rfl (lv_at hl 2 rfl) ?_
                          refine gX11_91 hx hb hts hown hK hw dX11_strikes_89 ?_
                          refine lv_iload_n hx hb dX11_strikes_92 rfl (lv_at hl 0 rfl) ?_
                          obtain ⟨hi_93, h⟩ := chk_e h
                          obtain ⟨y_93, e_93, h⟩ := nam_e h
                          refine lM27 hx hb hK hw hi_93 e_93 dX11_strikes_93 ?_
                          refine lv_iload_n hx hb dX11_strikes_94 rfl (lv_at hl 1 rfl) ?_
                          refine lv_icmp_ge (tgt := 133) hx hb dX11_strikes_95 (by decide) (fun c_95 => ?_) (fun c_95 => ?_)
                          · have h := ite_t c_95 h
                            exact hJ_133 t_53.1 t_53.2 H locs ls h hw (lv_sub hl [2, 1, 0] rfl)
                          · have h := ite_f c_95 h
                            refine lv_aload_n hx hb dX11_strikes_98 rfl (lv_at hl 2 rfl) ?_
                            refine lv_aload_n hx hb dX11_strikes_99 rfl (lv_at hl 2 rfl) ?_
                            refine gX11_91 hx hb hts hown hK hw dX11_strikes_100 ?_
                            refine lv_iload_n hx hb dX11_strikes_103 rfl (lv_at hl 0 rfl) ?_
                            obtain ⟨hi_104, h⟩ := chk_e h
                            obtain ⟨y_104, e_104, h⟩ := nam_e h
                            refine lM27 hx hb hK hw hi_104 e_104 dX11_strikes_104 ?_
                            obtain ⟨q_105, h_105, h⟩ := bnd_e h
                            have pg_105 := preG (av := [.ref (ad 0), .int y_104]) hK hw.1 hw.2.1 NM_keep NM_blind
                            refine endI (mc := 0) (ms := 0) (va_runV (As := [.int y_104]) (rest := []) ⟨hx, hb, hml, hown, hts⟩ (m11_isInForce l D ad cy H.size t_53.2 y_104 q_105 h_105) (wX11_429 1 hts ⟨Nat.le_of_ble_eq_true rfl, Nat.le_of_ble_eq_true rfl⟩) ⟨pg_105.1, va_recv hK hw.1 (ci := 11) (q0 := 0) rfl eM_0, pg_105.2⟩ rfl rfl hl.1 rfl (lv_room (Nat.le_of_ble_eq_true rfl)) dX11_strikes_105 ⟨Nat.le_refl _, Nat.le_refl _⟩) hw.2.2 (afr_in hw.2.2) (fun H locs hw => ?_)
                            refine lv_if_eq (tgt := 133) hx hb dX11_strikes_108 (by decide) (fun c_108 => ?_) (fun c_108 => ?_)
                            · have h := ite_t c_108 h
                              exact hJ_133 t_53.1 t_53.2 H locs ls h hw (lv_sub hl [2, 1, 0] rfl)
                            · have h := ite_f c_108 h
                              refine lv_aload_n hx hb dX11_strikes_111 rfl (lv_at hl 2 rfl) ?_
                              refine gX11_118 hx hb hts hown hK hw dX11_strikes_112 ?_
                              refine lv_bipush (v := 12) hx hb dX11_strikes_115 (by decide) ?_
                              refine lv_aload_n hx hb dX11_strikes_117 rfl (lv_at hl 2 rfl) ?_
                              refine gX11_91 hx hb hts hown hK hw dX11_strikes_118 ?_
                              refine lv_iload_n hx hb dX11_strikes_121 rfl (lv_at hl 0 rfl) ?_
                              obtain ⟨hi_122, h⟩ := chk_e h
                              obtain ⟨y_122, e_122, h⟩ := nam_e h
                              refine lM27 hx hb hK hw hi_122 e_122 dX11_strikes_122 ?_
                              refine lv_imul hx hb dX11_strikes_123 ?_
                              refine lv_aload_n hx hb dX11_strikes_124 rfl (lv_at hl 2 rfl) ?_
                              refine gX11_94 hx hb hts hown hK hw dX11_strikes_125 ?_
                              refine lv_iload_n hx hb dX11_strikes_128 rfl (lv_at hl 0 rfl) ?_
                              obtain ⟨hi_129, h⟩ := chk_e h
                              obtain ⟨y_129, e_129, h⟩ := nam_e h
                              refine lM28 hx hb hK hw hi_129 e_129 dX11_strikes_129 ?_
                              refine lv_iadd hx hb dX11_strikes_130 ?_
                              refine lv_iconst (v := 1) hx hb dX11_strikes_131 (by decide) ?_
                              obtain ⟨hi_132, h⟩ := chk_e h
                              obtain ⟨s11_132, e_132, h⟩ := nam_e h
                              refine aM36 hx hb hK hw hi_132 e_132 dX11_strikes_132 (fun H locs hw => ?_)
                              exact hJ_133 t_53.1 s11_132 H locs ls h hw (lv_sub hl [2, 1, 0] rfl)
                exact hL_53 n_53 (n_52, t_33.2) H locs ls hn_53 hw (lv_sub hl [0, 1, 2] rfl)
              · have h := ite_t c_42 h
                refine lv_goto (tgt := 139) hx hb dX11_strikes_45 (by decide) ?_
                exact hJ_139 t_33.1 t_33.2 H locs ls h hw (lv_sub hl [1, 0] rfl)
        exact hL_33 n_33 (n_32, t_2.2) H locs ls hn_33 hw (lv_sub hl [0, 1] rfl)
      · have h := ite_f c_10 h
        refine lv_aload_n hx hb dX11_strikes_13 rfl (lv_at hl 1 rfl) ?_
        refine gX11_118 hx hb hts hown hK hw dX11_strikes_14 ?_
        refine lv_iload_n hx hb dX11_strikes_17 rfl (lv_at hl 0 rfl) ?_
        refine lv_iconst (v := 0) hx hb dX11_strikes_18 (by decide) ?_
        obtain ⟨hi_19, h⟩ := chk_e h
        obtain ⟨s11_19, e_19, h⟩ := nam_e h
        refine aM36 hx hb hK hw hi_19 e_19 dX11_strikes_19 (fun H locs hw => ?_)
        obtain ⟨n_20, e_20, h⟩ := nam_e h
        refine lv_iinc (v := n_20) (lv' := [(1, .int n_20), (0, .ref (ad 0))]) hx hb dX11_strikes_20 hl (k := 0) rfl (by rw [e_20]; rfl) (by decide) rfl (fun ls hl => ?_)
        refine lv_goto (tgt := 2) hx hb dX11_strikes_23 (by decide) ?_
        exact ih_2 (n_20, s11_19) H locs ls (nx_l hx_2 h) hw (lv_sub hl [0, 1] rfl)
  exact hL_2 n_2 ((0 : Int32), s11) H locs ls hn_2 hw (lv_sub hl [0, 1] rfl)
theorem dX11_lend_0 : decode cX11_lend 0 = .ok (.aload_n 0, 1) := by decide +kernel
theorem dX11_lend_1 : decode cX11_lend 1 = .ok (.getfield 399, 3) := by decide +kernel
theorem dX11_lend_4 : decode cX11_lend 4 = .ok (.bipush 100, 2) := by decide +kernel
theorem dX11_lend_6 : decode cX11_lend 6 = .ok (.if_icmp .eq 27, 3) := by decide +kernel
theorem dX11_lend_9 : decode cX11_lend 9 = .ok (.aload_n 0, 1) := by decide +kernel
theorem dX11_lend_10 : decode cX11_lend 10 = .ok (.iload_n 1, 1) := by decide +kernel
theorem dX11_lend_11 : decode cX11_lend 11 = .ok (.invokevirtual 266, 3) := by decide +kernel
theorem dX11_lend_14 : decode cX11_lend 14 = .ok (.ifCond .eq 19, 3) := by decide +kernel
theorem dX11_lend_17 : decode cX11_lend 17 = .ok (.iload_n 2, 1) := by decide +kernel
theorem dX11_lend_18 : decode cX11_lend 18 = .ok (.i2l, 1) := by decide +kernel
theorem dX11_lend_19 : decode cX11_lend 19 = .ok (.lconst 0, 1) := by decide +kernel
theorem dX11_lend_20 : decode cX11_lend 20 = .ok (.aload_n 0, 1) := by decide +kernel
theorem dX11_lend_21 : decode cX11_lend 21 = .ok (.getfield 282, 3) := by decide +kernel
theorem dX11_lend_24 : decode cX11_lend 24 = .ok (.iconst 1, 1) := by decide +kernel
theorem dX11_lend_25 : decode cX11_lend 25 = .ok (.isub, 1) := by decide +kernel
theorem dX11_lend_26 : decode cX11_lend 26 = .ok (.i2l, 1) := by decide +kernel
theorem dX11_lend_27 : decode cX11_lend 27 = .ok (.invokestatic 215, 3) := by decide +kernel
theorem dX11_lend_30 : decode cX11_lend 30 = .ok (.ifCond .ne 5, 3) := by decide +kernel
theorem dX11_lend_33 : decode cX11_lend 33 = .ok (.iconst (-1), 1) := by decide +kernel
theorem dX11_lend_34 : decode cX11_lend 34 = .ok (.ireturn, 1) := by decide +kernel
theorem dX11_lend_35 : decode cX11_lend 35 = .ok (.aload_n 0, 1) := by decide +kernel
theorem dX11_lend_36 : decode cX11_lend 36 = .ok (.iload_n 1, 1) := by decide +kernel
theorem dX11_lend_37 : decode cX11_lend 37 = .ok (.putfield 402, 3) := by decide +kernel
theorem dX11_lend_40 : decode cX11_lend 40 = .ok (.aload_n 0, 1) := by decide +kernel
theorem dX11_lend_41 : decode cX11_lend 41 = .ok (.iload_n 2, 1) := by decide +kernel
theorem dX11_lend_42 : decode cX11_lend 42 = .ok (.putfield 405, 3) := by decide +kernel
theorem dX11_lend_45 : decode cX11_lend 45 = .ok (.aload_n 0, 1) := by decide +kernel
theorem dX11_lend_46 : decode cX11_lend 46 = .ok (.invokevirtual 435, 3) := by decide +kernel
theorem dX11_lend_49 : decode cX11_lend 49 = .ok (.aload_n 0, 1) := by decide +kernel
theorem dX11_lend_50 : decode cX11_lend 50 = .ok (.bipush 98, 2) := by decide +kernel
theorem dX11_lend_52 : decode cX11_lend 52 = .ok (.invokevirtual 438, 3) := by decide +kernel
theorem dX11_lend_55 : decode cX11_lend 55 = .ok (.iconst (-1), 1) := by decide +kernel
theorem dX11_lend_56 : decode cX11_lend 56 = .ok (.if_icmp .eq 6, 3) := by decide +kernel
theorem dX11_lend_59 : decode cX11_lend 59 = .ok (.bipush (-2), 2) := by decide +kernel
theorem dX11_lend_61 : decode cX11_lend 61 = .ok (.ireturn, 1) := by decide +kernel
theorem dX11_lend_62 : decode cX11_lend 62 = .ok (.aload_n 0, 1) := by decide +kernel
theorem dX11_lend_63 : decode cX11_lend 63 = .ok (.bipush 116, 2) := by decide +kernel
theorem dX11_lend_65 : decode cX11_lend 65 = .ok (.invokevirtual 438, 3) := by decide +kernel
theorem dX11_lend_68 : decode cX11_lend 68 = .ok (.istore_n 3, 1) := by decide +kernel
theorem dX11_lend_69 : decode cX11_lend 69 = .ok (.aload_n 0, 1) := by decide +kernel
theorem dX11_lend_70 : decode cX11_lend 70 = .ok (.getfield 23, 3) := by decide +kernel
theorem dX11_lend_73 : decode cX11_lend 73 = .ok (.iload_n 1, 1) := by decide +kernel
theorem dX11_lend_74 : decode cX11_lend 74 = .ok (.iaload, 1) := by decide +kernel
theorem dX11_lend_75 : decode cX11_lend 75 = .ok (.ifCond .ne 50, 3) := by decide +kernel
theorem dX11_lend_78 : decode cX11_lend 78 = .ok (.iload_n 3, 1) := by decide +kernel
theorem dX11_lend_79 : decode cX11_lend 79 = .ok (.iconst (-1), 1) := by decide +kernel
theorem dX11_lend_80 : decode cX11_lend 80 = .ok (.if_icmp .eq 45, 3) := by decide +kernel
theorem dX11_lend_83 : decode cX11_lend 83 = .ok (.aload_n 0, 1) := by decide +kernel
theorem dX11_lend_84 : decode cX11_lend 84 = .ok (.aload_n 0, 1) := by decide +kernel
theorem dX11_lend_85 : decode cX11_lend 85 = .ok (.getfield 13, 3) := by decide +kernel
theorem dX11_lend_88 : decode cX11_lend 88 = .ok (.iload_n 1, 1) := by decide +kernel
theorem dX11_lend_89 : decode cX11_lend 89 = .ok (.iaload, 1) := by decide +kernel
theorem dX11_lend_90 : decode cX11_lend 90 = .ok (.iconst 1, 1) := by decide +kernel
theorem dX11_lend_91 : decode cX11_lend 91 = .ok (.iload_n 1, 1) := by decide +kernel
theorem dX11_lend_92 : decode cX11_lend 92 = .ok (.invokevirtual 411, 3) := by decide +kernel
theorem dX11_lend_95 : decode cX11_lend 95 = .ok (.ldc2_w 441, 3) := by decide +kernel
theorem dX11_lend_98 : decode cX11_lend 98 = .ok (.lmul, 1) := by decide +kernel
theorem dX11_lend_99 : decode cX11_lend 99 = .ok (.aload_n 0, 1) := by decide +kernel
theorem dX11_lend_100 : decode cX11_lend 100 = .ok (.getfield 91, 3) := by decide +kernel
theorem dX11_lend_103 : decode cX11_lend 103 = .ok (.iload_n 3, 1) := by decide +kernel
theorem dX11_lend_104 : decode cX11_lend 104 = .ok (.iaload, 1) := by decide +kernel
theorem dX11_lend_105 : decode cX11_lend 105 = .ok (.i2l, 1) := by decide +kernel
theorem dX11_lend_106 : decode cX11_lend 106 = .ok (.aload_n 0, 1) := by decide +kernel
theorem dX11_lend_107 : decode cX11_lend 107 = .ok (.getfield 42, 3) := by decide +kernel
theorem dX11_lend_110 : decode cX11_lend 110 = .ok (.aload_n 0, 1) := by decide +kernel
theorem dX11_lend_111 : decode cX11_lend 111 = .ok (.getfield 13, 3) := by decide +kernel
theorem dX11_lend_114 : decode cX11_lend 114 = .ok (.iload_n 1, 1) := by decide +kernel
theorem dX11_lend_115 : decode cX11_lend 115 = .ok (.iaload, 1) := by decide +kernel
theorem dX11_lend_116 : decode cX11_lend 116 = .ok (.laload, 1) := by decide +kernel
theorem dX11_lend_117 : decode cX11_lend 117 = .ok (.lmul, 1) := by decide +kernel
theorem dX11_lend_118 : decode cX11_lend 118 = .ok (.lcmp, 1) := by decide +kernel
theorem dX11_lend_119 : decode cX11_lend 119 = .ok (.ifCond .ge 6, 3) := by decide +kernel
theorem dX11_lend_122 : decode cX11_lend 122 = .ok (.bipush (-3), 2) := by decide +kernel
theorem dX11_lend_124 : decode cX11_lend 124 = .ok (.ireturn, 1) := by decide +kernel
theorem dX11_lend_125 : decode cX11_lend 125 = .ok (.aload_n 0, 1) := by decide +kernel
theorem dX11_lend_126 : decode cX11_lend 126 = .ok (.bipush 100, 2) := by decide +kernel
theorem dX11_lend_128 : decode cX11_lend 128 = .ok (.invokevirtual 438, 3) := by decide +kernel
theorem dX11_lend_131 : decode cX11_lend 131 = .ok (.istore 4, 2) := by decide +kernel
theorem dX11_lend_133 : decode cX11_lend 133 = .ok (.aload_n 0, 1) := by decide +kernel
theorem dX11_lend_134 : decode cX11_lend 134 = .ok (.getfield 225, 3) := by decide +kernel
theorem dX11_lend_137 : decode cX11_lend 137 = .ok (.iload 4, 2) := by decide +kernel
theorem dX11_lend_139 : decode cX11_lend 139 = .ok (.iconst (-1), 1) := by decide +kernel
theorem dX11_lend_140 : decode cX11_lend 140 = .ok (.if_icmp .ne 8, 3) := by decide +kernel
theorem dX11_lend_143 : decode cX11_lend 143 = .ok (.bipush 30, 2) := by decide +kernel
theorem dX11_lend_145 : decode cX11_lend 145 = .ok (.goto 10, 3) := by decide +kernel
theorem dX11_lend_148 : decode cX11_lend 148 = .ok (.aload_n 0, 1) := by decide +kernel
theorem dX11_lend_149 : decode cX11_lend 149 = .ok (.getfield 91, 3) := by decide +kernel
theorem dX11_lend_152 : decode cX11_lend 152 = .ok (.iload 4, 2) := by decide +kernel
theorem dX11_lend_154 : decode cX11_lend 154 = .ok (.iaload, 1) := by decide +kernel
theorem dX11_lend_155 : decode cX11_lend 155 = .ok (.iadd, 1) := by decide +kernel
theorem dX11_lend_156 : decode cX11_lend 156 = .ok (.istore 5, 2) := by decide +kernel
theorem dX11_lend_158 : decode cX11_lend 158 = .ok (.aload_n 0, 1) := by decide +kernel
theorem dX11_lend_159 : decode cX11_lend 159 = .ok (.getfield 121, 3) := by decide +kernel
theorem dX11_lend_162 : decode cX11_lend 162 = .ok (.aload_n 0, 1) := by decide +kernel
theorem dX11_lend_163 : decode cX11_lend 163 = .ok (.getfield 399, 3) := by decide +kernel
theorem dX11_lend_166 : decode cX11_lend 166 = .ok (.iload_n 1, 1) := by decide +kernel
theorem dX11_lend_167 : decode cX11_lend 167 = .ok (.iastore, 1) := by decide +kernel
theorem dX11_lend_168 : decode cX11_lend 168 = .ok (.aload_n 0, 1) := by decide +kernel
theorem dX11_lend_169 : decode cX11_lend 169 = .ok (.getfield 124, 3) := by decide +kernel
theorem dX11_lend_172 : decode cX11_lend 172 = .ok (.aload_n 0, 1) := by decide +kernel
theorem dX11_lend_173 : decode cX11_lend 173 = .ok (.getfield 399, 3) := by decide +kernel
theorem dX11_lend_176 : decode cX11_lend 176 = .ok (.iload_n 2, 1) := by decide +kernel
theorem dX11_lend_177 : decode cX11_lend 177 = .ok (.iastore, 1) := by decide +kernel
theorem dX11_lend_178 : decode cX11_lend 178 = .ok (.aload_n 0, 1) := by decide +kernel
theorem dX11_lend_179 : decode cX11_lend 179 = .ok (.getfield 127, 3) := by decide +kernel
theorem dX11_lend_182 : decode cX11_lend 182 = .ok (.aload_n 0, 1) := by decide +kernel
theorem dX11_lend_183 : decode cX11_lend 183 = .ok (.getfield 399, 3) := by decide +kernel
theorem dX11_lend_186 : decode cX11_lend 186 = .ok (.aload_n 0, 1) := by decide +kernel
theorem dX11_lend_187 : decode cX11_lend 187 = .ok (.getfield 225, 3) := by decide +kernel
theorem dX11_lend_190 : decode cX11_lend 190 = .ok (.iastore, 1) := by decide +kernel
theorem dX11_lend_191 : decode cX11_lend 191 = .ok (.aload_n 0, 1) := by decide +kernel
theorem dX11_lend_192 : decode cX11_lend 192 = .ok (.getfield 130, 3) := by decide +kernel
theorem dX11_lend_195 : decode cX11_lend 195 = .ok (.aload_n 0, 1) := by decide +kernel
theorem dX11_lend_196 : decode cX11_lend 196 = .ok (.getfield 399, 3) := by decide +kernel
theorem dX11_lend_199 : decode cX11_lend 199 = .ok (.iload 5, 2) := by decide +kernel
theorem dX11_lend_201 : decode cX11_lend 201 = .ok (.ldc_w 443, 3) := by decide +kernel
theorem dX11_lend_204 : decode cX11_lend 204 = .ok (.if_icmp .ge 8, 3) := by decide +kernel
theorem dX11_lend_207 : decode cX11_lend 207 = .ok (.iload 5, 2) := by decide +kernel
theorem dX11_lend_209 : decode cX11_lend 209 = .ok (.goto 6, 3) := by decide +kernel
theorem dX11_lend_212 : decode cX11_lend 212 = .ok (.ldc_w 444, 3) := by decide +kernel
theorem dX11_lend_215 : decode cX11_lend 215 = .ok (.iastore, 1) := by decide +kernel
theorem dX11_lend_216 : decode cX11_lend 216 = .ok (.aload_n 0, 1) := by decide +kernel
theorem dX11_lend_217 : decode cX11_lend 217 = .ok (.getfield 133, 3) := by decide +kernel
theorem dX11_lend_220 : decode cX11_lend 220 = .ok (.aload_n 0, 1) := by decide +kernel
theorem dX11_lend_221 : decode cX11_lend 221 = .ok (.getfield 399, 3) := by decide +kernel
theorem dX11_lend_224 : decode cX11_lend 224 = .ok (.iconst (-1), 1) := by decide +kernel
theorem dX11_lend_225 : decode cX11_lend 225 = .ok (.iastore, 1) := by decide +kernel
theorem dX11_lend_226 : decode cX11_lend 226 = .ok (.aload_n 0, 1) := by decide +kernel
theorem dX11_lend_227 : decode cX11_lend 227 = .ok (.getfield 136, 3) := by decide +kernel
theorem dX11_lend_230 : decode cX11_lend 230 = .ok (.aload_n 0, 1) := by decide +kernel
theorem dX11_lend_231 : decode cX11_lend 231 = .ok (.getfield 399, 3) := by decide +kernel
theorem dX11_lend_234 : decode cX11_lend 234 = .ok (.iconst 0, 1) := by decide +kernel
theorem dX11_lend_235 : decode cX11_lend 235 = .ok (.iastore, 1) := by decide +kernel
theorem dX11_lend_236 : decode cX11_lend 236 = .ok (.aload_n 0, 1) := by decide +kernel
theorem dX11_lend_237 : decode cX11_lend 237 = .ok (.dup, 1) := by decide +kernel
theorem dX11_lend_238 : decode cX11_lend 238 = .ok (.getfield 399, 3) := by decide +kernel
theorem dX11_lend_241 : decode cX11_lend 241 = .ok (.iconst 1, 1) := by decide +kernel
theorem dX11_lend_242 : decode cX11_lend 242 = .ok (.iadd, 1) := by decide +kernel
theorem dX11_lend_243 : decode cX11_lend 243 = .ok (.putfield 399, 3) := by decide +kernel
theorem dX11_lend_246 : decode cX11_lend 246 = .ok (.aload_n 0, 1) := by decide +kernel
theorem dX11_lend_247 : decode cX11_lend 247 = .ok (.getfield 26, 3) := by decide +kernel
theorem dX11_lend_250 : decode cX11_lend 250 = .ok (.iload_n 1, 1) := by decide +kernel
theorem dX11_lend_251 : decode cX11_lend 251 = .ok (.bipush 10, 2) := by decide +kernel
theorem dX11_lend_253 : decode cX11_lend 253 = .ok (.iastore, 1) := by decide +kernel
theorem dX11_lend_254 : decode cX11_lend 254 = .ok (.aload_n 0, 1) := by decide +kernel
theorem dX11_lend_255 : decode cX11_lend 255 = .ok (.iload_n 1, 1) := by decide +kernel
theorem dX11_lend_256 : decode cX11_lend 256 = .ok (.invokevirtual 251, 3) := by decide +kernel
theorem dX11_lend_259 : decode cX11_lend 259 = .ok (.aload_n 0, 1) := by decide +kernel
theorem dX11_lend_260 : decode cX11_lend 260 = .ok (.getfield 399, 3) := by decide +kernel
theorem dX11_lend_263 : decode cX11_lend 263 = .ok (.iconst 1, 1) := by decide +kernel
theorem dX11_lend_264 : decode cX11_lend 264 = .ok (.isub, 1) := by decide +kernel
theorem dX11_lend_265 : decode cX11_lend 265 = .ok (.ireturn, 1) := by decide +kernel
noncomputable def f11_lend_j215 (v1_j215 : Int32) (k1_j215 : Int32) (k2_j215 : Int32) (s11_j215 : OS) : Option (Int32 × OS) := chk (inb k1_j215 100) (nm (wI s11_j215 62 k1_j215.toNatClampNeg k2_j215) fun s11_215 => chk (inb ((s11_215.1 0 5)) 100) (nm (wI s11_215 63 ((s11_215.1 0 5)).toNatClampNeg ((-1 : Int32))) fun s11_225 => chk (inb ((s11_225.1 0 5)) 100) (nm (wI s11_225 64 ((s11_225.1 0 5)).toNatClampNeg ((0 : Int32))) fun s11_235 => nm (wI s11_235 0 5 (((s11_235.1 0 5) + (1 : Int32)))) fun s11_243 => chk (inb v1_j215 150) (nm (wI s11_243 16 v1_j215.toNatClampNeg ((10 : Int32))) fun s11_253 => Option.bind (f11_notes v1_j215 s11_253) fun q_256 => some (((q_256.1 0 5) - (1 : Int32)), q_256)))))
noncomputable def f11_lend_j155 (v1_j155 : Int32) (v2_j155 : Int32) (k0_j155 : Int32) (k1_j155 : Int32) (s11_j155 : OS) : Option (Int32 × OS) := nm ((k0_j155 + k1_j155)) fun n_156 => chk (inb ((s11_j155.1 0 5)) 100) (nm (wI s11_j155 59 ((s11_j155.1 0 5)).toNatClampNeg v1_j155) fun s11_167 => chk (inb ((s11_167.1 0 5)) 100) (nm (wI s11_167 60 ((s11_167.1 0 5)).toNatClampNeg v2_j155) fun s11_177 => chk (inb ((s11_177.1 0 5)) 100) (nm (wI s11_177 61 ((s11_177.1 0 5)).toNatClampNeg ((s11_177.1 0 2))) fun s11_190 => if (100000 : Int32) ≤ n_156 then (f11_lend_j215 v1_j155 ((s11_190.1 0 5)) ((99999 : Int32)) s11_190) else (f11_lend_j215 v1_j155 ((s11_190.1 0 5)) n_156 s11_190))))
noncomputable def f11_lend_j125 (v1_j125 : Int32) (v2_j125 : Int32) (s11_j125 : OS) : Option (Int32 × OS) := Option.bind (f11_clauseOf ((100 : Int32)) s11_j125) fun q_128 => if q_128.1 = (-1 : Int32) then (f11_lend_j155 v1_j125 v2_j125 ((q_128.2.1 0 2)) ((30 : Int32)) q_128.2) else (chk (inb q_128.1 240) (nm (q_128.2.1 38 q_128.1.toNatClampNeg) fun y_154 => f11_lend_j155 v1_j125 v2_j125 ((q_128.2.1 0 2)) y_154 q_128.2))
noncomputable def f11_lend_j33 (s11_j33 : OS) : Option (Int32 × OS) := some ((-1 : Int32), s11_j33)
noncomputable def f11_lend (a1 : Int32) (a2 : Int32) (s11 : OS) : Option (Int32 × OS) := if (s11.1 0 5) = (100 : Int32) then (f11_lend_j33 s11) else (Option.bind (f11_isOpen a1 s11) fun q_11 => if q_11 = 0 then (f11_lend_j33 s11) else (Option.bind (f11_lies ((a2).toInt64) ((0 : Int64)) ((((s11.1 0 4) - (1 : Int32))).toInt64)) fun q_27 => if q_27 = 0 then (f11_lend_j33 s11) else (nm (wI s11 0 53 a1) fun s11_37 => nm (wI s11_37 0 54 a2) fun s11_42 => Option.bind (f11_strikes s11_42) fun q_46 => Option.bind (f11_clauseOf ((98 : Int32)) q_46) fun q_52 => if q_52.1 = (-1 : Int32) then (Option.bind (f11_clauseOf ((116 : Int32)) q_52.2) fun q_65 => chk (inb a1 150) (nm (q_65.2.1 15 a1.toNatClampNeg) fun y_74 => if y_74 = 0 then (if q_65.1 = (-1 : Int32) then (f11_lend_j125 a1 a2 q_65.2) else (chk (inb a1 150) (nm (q_65.2.1 12 a1.toNatClampNeg) fun y_89 => Option.bind (f11_inCabinets y_89 ((1 : Int32)) a1 q_65.2) fun q_92 => chk (inb q_65.1 240) (nm (q_65.2.1 38 q_65.1.toNatClampNeg) fun y_104 => chk (inb a1 150) (nm (q_65.2.1 12 a1.toNatClampNeg) fun y_115 => chk (inb y_115 8) (nm (q_65.2.2 21 y_115.toNatClampNeg) fun y_116 => if 0 ≤ (lg_cmp ((q_92 * (1000 : Int64))) (((y_104).toInt64 * y_116))) then (f11_lend_j125 a1 a2 q_65.2) else (some ((-3 : Int32), q_65.2)))))))) else (f11_lend_j125 a1 a2 q_65.2))) else (some ((-2 : Int32), q_52.2)))))
set_option maxHeartbeats 4000000 in
set_option maxRecDepth 100000 in
theorem m11_lend (l : Launch) (D : va_G) (ad : Nat → Nat) (cy : Nat → ClassId) (sz : Nat) (s11 : OS) (a1 : Int32) (a2 : Int32) (r : Int32 × OS) (h : f11_lend a1 a2 s11 = some r) : Met l yX11_lend (wsOf yX11_lend cX11_lend 6 (some .int)) (rmL 4) (va_Pc ([.ref (ad 0), .int a1, .int a2] : List Value) (PreG D cy (cellsM ad cy s11) sz NM)) (QcI D ad 66 (cellsM ad cy r.2) (r.1) sz) 0 0 (Afr ad 66 sz) := by
  refine metG (own := RX11) (by decide) rfl (Nat.le_of_ble_eq_true rfl) fstM ?_ sz
  intro p e s m below meth c ls C0 hw hl
  obtain ⟨hx, hb, hml, hown, hts, hr, hlk, hK, hN⟩ := C0
  have hl : lv_has ls 6 [(0, .ref (ad 0)), (1, .int a1), (2, .int a2)] := hl
  generalize hQ : MQ below (QcI D ad 66 (cellsM ad cy r.2) (r.1) s.heap.size) ([.ref (ad 0), .int a1, .int a2] : List Value).toArray s 0 0 (Afr ad 66 s.heap.size) = Q
  obtain ⟨H, hH⟩ : ∃ H : Heap, H = s.heap := ⟨_, rfl⟩
  obtain ⟨locs, hlc⟩ : ∃ L : List Loc, L = [] := ⟨_, rfl⟩
  have hw : Wd D (cellsM ad cy s11) (Afr ad 66 s.heap.size) s.heap H locs := by rw [hH, hlc]; exact hw
  suffices h0 : W p l e (rmL 4) s m ([.ref (ad 0), .int a1, .int a2] : List Value).toArray below meth c H locs 0 0 Q (F0 m 0 ls []) by rw [hH, hlc] at h0; exact h0
  clear hH hlc
  unfold f11_lend at h
  have hJ_215 : ∀ (v1_j215 : Int32) (k1_j215 : Int32) (k2_j215 : Int32) (s11_j215 : OS) (H : Heap) (locs : List Loc) (ls : Array Slot), f11_lend_j215 v1_j215 k1_j215 k2_j215 s11_j215 = some r → Wd D (cellsM ad cy s11_j215) (Afr ad 66 s.heap.size) s.heap H locs → lv_has ls 6 [(0, .ref (ad 0)), (1, .int v1_j215)] → W p l e (rmL 4) s m ([.ref (ad 0), .int a1, .int a2] : List Value).toArray below meth c H locs 0 0 Q (F0 m 215 ls [.int k2_j215, .int k1_j215, .ref (ad 40)]) := by
    intro v1_j215 k1_j215 k2_j215 s11_j215 H locs ls h hw hl
    unfold f11_lend_j215 at h
    obtain ⟨hi_215, h⟩ := chk_e h
    obtain ⟨s11_215, e_215, h⟩ := nam_e h
    refine aM40 hx hb hK hw hi_215 e_215 dX11_lend_215 (fun H locs hw => ?_)
    refine lv_aload_n hx hb dX11_lend_216 rfl (lv_at hl 0 rfl) ?_
    refine gX11_133 hx hb hts hown hK hw dX11_lend_217 ?_
    refine lv_aload_n hx hb dX11_lend_220 rfl (lv_at hl 0 rfl) ?_
    refine gX11_399 hx hb hts hown hK hw dX11_lend_221 ?_
    refine lv_iconst (v := (-1)) hx hb dX11_lend_224 (by decide) ?_
    obtain ⟨hi_225, h⟩ := chk_e h
    obtain ⟨s11_225, e_225, h⟩ := nam_e h
    refine aM41 hx hb hK hw hi_225 e_225 dX11_lend_225 (fun H locs hw => ?_)
    refine lv_aload_n hx hb dX11_lend_226 rfl (lv_at hl 0 rfl) ?_
    refine gX11_136 hx hb hts hown hK hw dX11_lend_227 ?_
    refine lv_aload_n hx hb dX11_lend_230 rfl (lv_at hl 0 rfl) ?_
    refine gX11_399 hx hb hts hown hK hw dX11_lend_231 ?_
    refine lv_iconst (v := 0) hx hb dX11_lend_234 (by decide) ?_
    obtain ⟨hi_235, h⟩ := chk_e h
    obtain ⟨s11_235, e_235, h⟩ := nam_e h
    refine aM42 hx hb hK hw hi_235 e_235 dX11_lend_235 (fun H locs hw => ?_)
    refine lv_aload_n hx hb dX11_lend_236 rfl (lv_at hl 0 rfl) ?_
    refine lv_dup hx hb dX11_lend_237 rfl ?_
    refine gX11_399 hx hb hts hown hK hw dX11_lend_238 ?_
    refine lv_iconst (v := 1) hx hb dX11_lend_241 (by decide) ?_
    refine lv_iadd hx hb dX11_lend_242 ?_
    obtain ⟨s11_243, e_243, h⟩ := nam_e h
    refine pX11_399 hx hb hts hown hK hw e_243 dX11_lend_243 (fun H locs hw => ?_)
    refine lv_aload_n hx hb dX11_lend_246 rfl (lv_at hl 0 rfl) ?_
    refine gX11_26 hx hb hts hown hK hw dX11_lend_247 ?_
    refine lv_iload_n hx hb dX11_lend_250 rfl (lv_at hl 1 rfl) ?_
    refine lv_bipush (v := 10) hx hb dX11_lend_251 (by decide) ?_
    obtain ⟨hi_253, h⟩ := chk_e h
    obtain ⟨s11_253, e_253, h⟩ := nam_e h
    refine aM6 hx hb hK hw hi_253 e_253 dX11_lend_253 (fun H locs hw => ?_)
    refine lv_aload_n hx hb dX11_lend_254 rfl (lv_at hl 0 rfl) ?_
    refine lv_iload_n hx hb dX11_lend_255 rfl (lv_at hl 1 rfl) ?_
    obtain ⟨q_256, h_256, h⟩ := bnd_e h
    have pg_256 := preG (av := [.ref (ad 0), .int v1_j215]) hK hw.1 hw.2.1 NM_keep NM_blind
    refine endV (mc := 0) (ms := 0) (va_runV (As := [.int v1_j215]) (rest := []) ⟨hx, hb, hml, hown, hts⟩ (m11_notes l D ad cy H.size s11_253 v1_j215 q_256 h_256) (wX11_251 0 hts ⟨Nat.le_of_ble_eq_true rfl, Nat.le_of_ble_eq_true rfl⟩) ⟨pg_256.1, va_recv hK hw.1 (ci := 11) (q0 := 0) rfl eM_0, pg_256.2⟩ rfl rfl hl.1 rfl (lv_room (Nat.le_of_ble_eq_true rfl)) dX11_lend_256 ⟨Nat.le_refl _, Nat.le_refl _⟩) hw.2.2 (afr_in hw.2.2) (fun H locs hw => ?_)
    refine lv_aload_n hx hb dX11_lend_259 rfl (lv_at hl 0 rfl) ?_
    refine gX11_399 hx hb hts hown hK hw dX11_lend_260 ?_
    refine lv_iconst (v := 1) hx hb dX11_lend_263 (by decide) ?_
    refine lv_isub hx hb dX11_lend_264 ?_
    have h := Option.some.inj h
    subst h
    rw [← hQ]
    exact retI hx hb hr hlk hw rfl dX11_lend_265
  have hJ_155 : ∀ (v1_j155 : Int32) (v2_j155 : Int32) (k0_j155 : Int32) (k1_j155 : Int32) (s11_j155 : OS) (H : Heap) (locs : List Loc) (ls : Array Slot), f11_lend_j155 v1_j155 v2_j155 k0_j155 k1_j155 s11_j155 = some r → Wd D (cellsM ad cy s11_j155) (Afr ad 66 s.heap.size) s.heap H locs → lv_has ls 6 [(0, .ref (ad 0)), (1, .int v1_j155), (2, .int v2_j155)] → W p l e (rmL 4) s m ([.ref (ad 0), .int a1, .int a2] : List Value).toArray below meth c H locs 0 0 Q (F0 m 155 ls [.int k1_j155, .int k0_j155]) := by
    intro v1_j155 v2_j155 k0_j155 k1_j155 s11_j155 H locs ls h hw hl
    unfold f11_lend_j155 at h
    refine lv_iadd hx hb dX11_lend_155 ?_
    obtain ⟨n_156, e_156, h⟩ := nam_e h
    refine topI e_156 ?_
    refine lv_istore (lv' := [(5, .int n_156), (0, .ref (ad 0)), (1, .int v1_j155), (2, .int v2_j155)]) hx hb dX11_lend_156 hl (by decide) rfl (fun ls hl => ?_)
    refine lv_aload_n hx hb dX11_lend_158 rfl (lv_at hl 1 rfl) ?_
    refine gX11_121 hx hb hts hown hK hw dX11_lend_159 ?_
    refine lv_aload_n hx hb dX11_lend_162 rfl (lv_at hl 1 rfl) ?_
    refine gX11_399 hx hb hts hown hK hw dX11_lend_163 ?_
    refine lv_iload_n hx hb dX11_lend_166 rfl (lv_at hl 2 rfl) ?_
    obtain ⟨hi_167, h⟩ := chk_e h
    obtain ⟨s11_167, e_167, h⟩ := nam_e h
    refine aM37 hx hb hK hw hi_167 e_167 dX11_lend_167 (fun H locs hw => ?_)
    refine lv_aload_n hx hb dX11_lend_168 rfl (lv_at hl 1 rfl) ?_
    refine gX11_124 hx hb hts hown hK hw dX11_lend_169 ?_
    refine lv_aload_n hx hb dX11_lend_172 rfl (lv_at hl 1 rfl) ?_
    refine gX11_399 hx hb hts hown hK hw dX11_lend_173 ?_
    refine lv_iload_n hx hb dX11_lend_176 rfl (lv_at hl 3 rfl) ?_
    obtain ⟨hi_177, h⟩ := chk_e h
    obtain ⟨s11_177, e_177, h⟩ := nam_e h
    refine aM38 hx hb hK hw hi_177 e_177 dX11_lend_177 (fun H locs hw => ?_)
    refine lv_aload_n hx hb dX11_lend_178 rfl (lv_at hl 1 rfl) ?_
    refine gX11_127 hx hb hts hown hK hw dX11_lend_179 ?_
    refine lv_aload_n hx hb dX11_lend_182 rfl (lv_at hl 1 rfl) ?_
    refine gX11_399 hx hb hts hown hK hw dX11_lend_183 ?_
    refine lv_aload_n hx hb dX11_lend_186 rfl (lv_at hl 1 rfl) ?_
    refine gX11_225 hx hb hts hown hK hw dX11_lend_187 ?_
    obtain ⟨hi_190, h⟩ := chk_e h
    obtain ⟨s11_190, e_190, h⟩ := nam_e h
    refine aM39 hx hb hK hw hi_190 e_190 dX11_lend_190 (fun H locs hw => ?_)
    refine lv_aload_n hx hb dX11_lend_191 rfl (lv_at hl 1 rfl) ?_
    refine gX11_130 hx hb hts hown hK hw dX11_lend_192 ?_
    refine lv_aload_n hx hb dX11_lend_195 rfl (lv_at hl 1 rfl) ?_
    refine gX11_399 hx hb hts hown hK hw dX11_lend_196 ?_
    refine lv_iload hx hb dX11_lend_199 (lv_at hl 0 rfl) ?_
    refine lv_ldcw (v := 100000) hx hb hown (hts _ (wd_8 (w := .constant RX11 443 100000) (i := 71) (by decide +kernel) rfl)) dX11_lend_201 ?_
    refine lv_icmp_ge (tgt := 212) hx hb dX11_lend_204 (by decide) (fun c_204 => ?_) (fun c_204 => ?_)
    · have h := ite_t c_204 h
      refine lv_ldcw (v := 99999) hx hb hown (hts _ (wd_8 (w := .constant RX11 444 99999) (i := 72) (by decide +kernel) rfl)) dX11_lend_212 ?_
      exact hJ_215 v1_j155 ((s11_190.1 0 5)) ((99999 : Int32)) s11_190 H locs ls h hw (lv_sub hl [1, 2] rfl)
    · have h := ite_f c_204 h
      refine lv_iload hx hb dX11_lend_207 (lv_at hl 0 rfl) ?_
      refine lv_goto (tgt := 215) hx hb dX11_lend_209 (by decide) ?_
      exact hJ_215 v1_j155 ((s11_190.1 0 5)) n_156 s11_190 H locs ls h hw (lv_sub hl [1, 2] rfl)
  have hJ_125 : ∀ (v1_j125 : Int32) (v2_j125 : Int32) (s11_j125 : OS) (H : Heap) (locs : List Loc) (ls : Array Slot), f11_lend_j125 v1_j125 v2_j125 s11_j125 = some r → Wd D (cellsM ad cy s11_j125) (Afr ad 66 s.heap.size) s.heap H locs → lv_has ls 6 [(0, .ref (ad 0)), (1, .int v1_j125), (2, .int v2_j125)] → W p l e (rmL 4) s m ([.ref (ad 0), .int a1, .int a2] : List Value).toArray below meth c H locs 0 0 Q (F0 m 125 ls []) := by
    intro v1_j125 v2_j125 s11_j125 H locs ls h hw hl
    unfold f11_lend_j125 at h
    refine lv_aload_n hx hb dX11_lend_125 rfl (lv_at hl 0 rfl) ?_
    refine lv_bipush (v := 100) hx hb dX11_lend_126 (by decide) ?_
    obtain ⟨q_128, h_128, h⟩ := bnd_e h
    have pg_128 := preG (av := [.ref (ad 0), .int ((100 : Int32))]) hK hw.1 hw.2.1 NM_keep NM_blind
    refine endI (mc := 0) (ms := 0) (va_runV (As := [.int ((100 : Int32))]) (rest := []) ⟨hx, hb, hml, hown, hts⟩ (m11_clauseOf l D ad cy H.size s11_j125 ((100 : Int32)) q_128 h_128) (wX11_438 3 hts ⟨Nat.le_of_ble_eq_true rfl, Nat.le_of_ble_eq_true rfl⟩) ⟨pg_128.1, va_recv hK hw.1 (ci := 11) (q0 := 0) rfl eM_0, pg_128.2⟩ rfl rfl hl.1 rfl (lv_room (Nat.le_of_ble_eq_true rfl)) dX11_lend_128 ⟨Nat.le_refl _, Nat.le_refl _⟩) hw.2.2 (afr_in hw.2.2) (fun H locs hw => ?_)
    refine lv_istore (lv' := [(4, .int q_128.1), (0, .ref (ad 0)), (1, .int v1_j125), (2, .int v2_j125)]) hx hb dX11_lend_131 hl (by decide) rfl (fun ls hl => ?_)
    refine lv_aload_n hx hb dX11_lend_133 rfl (lv_at hl 1 rfl) ?_
    refine gX11_225 hx hb hts hown hK hw dX11_lend_134 ?_
    refine lv_iload hx hb dX11_lend_137 (lv_at hl 0 rfl) ?_
    refine lv_iconst (v := (-1)) hx hb dX11_lend_139 (by decide) ?_
    refine lv_icmp_ne (tgt := 148) hx hb dX11_lend_140 (by decide) (fun c_140 => ?_) (fun c_140 => ?_)
    · have h := ite_f c_140 h
      refine lv_aload_n hx hb dX11_lend_148 rfl (lv_at hl 1 rfl) ?_
      refine gX11_91 hx hb hts hown hK hw dX11_lend_149 ?_
      refine lv_iload hx hb dX11_lend_152 (lv_at hl 0 rfl) ?_
      obtain ⟨hi_154, h⟩ := chk_e h
      obtain ⟨y_154, e_154, h⟩ := nam_e h
      refine lM27 hx hb hK hw hi_154 e_154 dX11_lend_154 ?_
      exact hJ_155 v1_j125 v2_j125 ((q_128.2.1 0 2)) y_154 q_128.2 H locs ls h hw (lv_sub hl [1, 2, 3] rfl)
    · have h := ite_t c_140 h
      refine lv_bipush (v := 30) hx hb dX11_lend_143 (by decide) ?_
      refine lv_goto (tgt := 155) hx hb dX11_lend_145 (by decide) ?_
      exact hJ_155 v1_j125 v2_j125 ((q_128.2.1 0 2)) ((30 : Int32)) q_128.2 H locs ls h hw (lv_sub hl [1, 2, 3] rfl)
  have hJ_33 : ∀ (s11_j33 : OS) (H : Heap) (locs : List Loc) (ls : Array Slot), f11_lend_j33 s11_j33 = some r → Wd D (cellsM ad cy s11_j33) (Afr ad 66 s.heap.size) s.heap H locs → lv_has ls 6 [] → W p l e (rmL 4) s m ([.ref (ad 0), .int a1, .int a2] : List Value).toArray below meth c H locs 0 0 Q (F0 m 33 ls []) := by
    intro s11_j33 H locs ls h hw hl
    unfold f11_lend_j33 at h
    refine lv_iconst (v := (-1)) hx hb dX11_lend_33 (by decide) ?_
    have h := Option.some.inj h
    subst h
    rw [← hQ]
    exact retI hx hb hr hlk hw rfl dX11_lend_34
  refine lv_aload_n hx hb dX11_lend_0 rfl (lv_at hl 0 rfl) ?_
  refine gX11_399 hx hb hts hown hK hw dX11_lend_1 ?_
  refine lv_bipush (v := 100) hx hb dX11_lend_4 (by decide) ?_
  refine lv_icmp_eq (tgt := 33) hx hb dX11_lend_6 (by decide) (fun c_6 => ?_) (fun c_6 => ?_)
  · have h := ite_t c_6 h
    exact hJ_33 s11 H locs ls h hw (lv_sub hl [] rfl)
  · have h := ite_f c_6 h
    refine lv_aload_n hx hb dX11_lend_9 rfl (lv_at hl 0 rfl) ?_
    refine lv_iload_n hx hb dX11_lend_10 rfl (lv_at hl 1 rfl) ?_
    obtain ⟨q_11, h_11, h⟩ := bnd_e h
    have pg_11 := preG (av := [.ref (ad 0), .int a1]) hK hw.1 hw.2.1 NM_keep NM_blind
    refine endI (mc := 0) (ms := 0) (va_runV (As := [.int a1]) (rest := []) ⟨hx, hb, hml, hown, hts⟩ (m11_isOpen l D ad cy H.size s11 a1 q_11 h_11) (wX11_266 3 hts ⟨Nat.le_of_ble_eq_true rfl, Nat.le_of_ble_eq_true rfl⟩) ⟨pg_11.1, va_recv hK hw.1 (ci := 11) (q0 := 0) rfl eM_0, pg_11.2⟩ rfl rfl hl.1 rfl (lv_room (Nat.le_of_ble_eq_true rfl)) dX11_lend_11 ⟨Nat.le_refl _, Nat.le_refl _⟩) hw.2.2 (afr_in hw.2.2) (fun H locs hw => ?_)
    refine lv_if_eq (tgt := 33) hx hb dX11_lend_14 (by decide) (fun c_14 => ?_) (fun c_14 => ?_)
    · have h := ite_t c_14 h
      exact hJ_33 s11 H locs ls h hw (lv_sub hl [] rfl)
    · have h := ite_f c_14 h
      refine lv_iload_n hx hb dX11_lend_17 rfl (lv_at hl 2 rfl) ?_
      refine lv_i2l hx hb dX11_lend_18 rfl ?_
      refine lv_lconst (v := 0) hx hb dX11_lend_19 (by decide) ?_
      refine lv_aload_n hx hb dX11_lend_20 rfl (lv_at hl 0 rfl) ?_
      refine gX11_282 hx hb hts hown hK hw dX11_lend_21 ?_
      refine lv_iconst (v := 1) hx hb dX11_lend_24 (by decide) ?_
      refine lv_isub hx hb dX11_lend_25 ?_
      refine lv_i2l hx hb dX11_lend_26 rfl ?_
      obtain ⟨q_27, h_27, h⟩ := bnd_e h
      have pg_27 := preG (av := [.long ((a2).toInt64), .long ((0 : Int64)), .long ((((s11.1 0 4) - (1 : Int32))).toInt64)]) hK hw.1 hw.2.1 NM_keep NM_blind
      refine endI (mc := 0) (ms := 0) (va_runS (As := [.long ((a2).toInt64), .long ((0 : Int64)), .long ((((s11.1 0 4) - (1 : Int32))).toInt64)]) (rest := []) ⟨hx, hb, hml, hown, hts⟩ (m11_lies l D ad cy H.size s11 ((a2).toInt64) ((0 : Int64)) ((((s11.1 0 4) - (1 : Int32))).toInt64) q_27 h_27) (wX11_215 0 hts ⟨Nat.le_of_ble_eq_true rfl, Nat.le_of_ble_eq_true rfl⟩) pg_27 rfl rfl hl.1 rfl (lv_room (Nat.le_of_ble_eq_true rfl)) dX11_lend_27 ⟨Nat.le_refl _, Nat.le_refl _⟩) hw.2.2 (afr_in hw.2.2) (fun H locs hw => ?_)
      refine lv_if_ne (tgt := 35) hx hb dX11_lend_30 (by decide) (fun c_30 => ?_) (fun c_30 => ?_)
      · have h := ite_f c_30 h
        refine lv_aload_n hx hb dX11_lend_35 rfl (lv_at hl 0 rfl) ?_
        refine lv_iload_n hx hb dX11_lend_36 rfl (lv_at hl 1 rfl) ?_
        obtain ⟨s11_37, e_37, h⟩ := nam_e h
        refine pX11_402 hx hb hts hown hK hw e_37 dX11_lend_37 (fun H locs hw => ?_)
        refine lv_aload_n hx hb dX11_lend_40 rfl (lv_at hl 0 rfl) ?_
        refine lv_iload_n hx hb dX11_lend_41 rfl (lv_at hl 2 rfl) ?_
        obtain ⟨s11_42, e_42, h⟩ := nam_e h
        refine pX11_405 hx hb hts hown hK hw e_42 dX11_lend_42 (fun H locs hw => ?_)
        refine lv_aload_n hx hb dX11_lend_45 rfl (lv_at hl 0 rfl) ?_
        obtain ⟨q_46, h_46, h⟩ := bnd_e h
        have pg_46 := preG (av := [.ref (ad 0)]) hK hw.1 hw.2.1 NM_keep NM_blind
        refine endV (mc := 0) (ms := 0) (va_runV (As := []) (rest := []) ⟨hx, hb, hml, hown, hts⟩ (m11_strikes l D ad cy H.size s11_42 q_46 h_46) (wX11_435 2 hts ⟨Nat.le_of_ble_eq_true rfl, Nat.le_of_ble_eq_true rfl⟩) ⟨pg_46.1, va_recv hK hw.1 (ci := 11) (q0 := 0) rfl eM_0, pg_46.2⟩ rfl rfl hl.1 rfl (lv_room (Nat.le_of_ble_eq_true rfl)) dX11_lend_46 ⟨Nat.le_refl _, Nat.le_refl _⟩) hw.2.2 (afr_in hw.2.2) (fun H locs hw => ?_)
        refine lv_aload_n hx hb dX11_lend_49 rfl (lv_at hl 0 rfl) ?_
        refine lv_bipush (v := 98) hx hb dX11_lend_50 (by decide) ?_
        obtain ⟨q_52, h_52, h⟩ := bnd_e h
        have pg_52 := preG (av := [.ref (ad 0), .int ((98 : Int32))]) hK hw.1 hw.2.1 NM_keep NM_blind
        refine endI (mc := 0) (ms := 0) (va_runV (As := [.int ((98 : Int32))]) (rest := []) ⟨hx, hb, hml, hown, hts⟩ (m11_clauseOf l D ad cy H.size q_46 ((98 : Int32)) q_52 h_52) (wX11_438 3 hts ⟨Nat.le_of_ble_eq_true rfl, Nat.le_of_ble_eq_true rfl⟩) ⟨pg_52.1, va_recv hK hw.1 (ci := 11) (q0 := 0) rfl eM_0, pg_52.2⟩ rfl rfl hl.1 rfl (lv_room (Nat.le_of_ble_eq_true rfl)) dX11_lend_52 ⟨Nat.le_refl _, Nat.le_refl _⟩) hw.2.2 (afr_in hw.2.2) (fun H locs hw => ?_)
        refine lv_iconst (v := (-1)) hx hb dX11_lend_55 (by decide) ?_
        refine lv_icmp_eq (tgt := 62) hx hb dX11_lend_56 (by decide) (fun c_56 => ?_) (fun c_56 => ?_)
        · have h := ite_t c_56 h
          refine lv_aload_n hx hb dX11_lend_62 rfl (lv_at hl 0 rfl) ?_
          refine lv_bipush (v := 116) hx hb dX11_lend_63 (by decide) ?_
          obtain ⟨q_65, h_65, h⟩ := bnd_e h
          have pg_65 := preG (av := [.ref (ad 0), .int ((116 : Int32))]) hK hw.1 hw.2.1 NM_keep NM_blind
          refine endI (mc := 0) (ms := 0) (va_runV (As := [.int ((116 : Int32))]) (rest := []) ⟨hx, hb, hml, hown, hts⟩ (m11_clauseOf l D ad cy H.size q_52.2 ((116 : Int32)) q_65 h_65) (wX11_438 3 hts ⟨Nat.le_of_ble_eq_true rfl, Nat.le_of_ble_eq_true rfl⟩) ⟨pg_65.1, va_recv hK hw.1 (ci := 11) (q0 := 0) rfl eM_0, pg_65.2⟩ rfl rfl hl.1 rfl (lv_room (Nat.le_of_ble_eq_true rfl)) dX11_lend_65 ⟨Nat.le_refl _, Nat.le_refl _⟩) hw.2.2 (afr_in hw.2.2) (fun H locs hw => ?_)
          refine lv_istore_n (lv' := [(3, .int q_65.1), (0, .ref (ad 0)), (1, .int a1), (2, .int a2)]) hx hb dX11_lend_68 rfl hl (by decide) rfl (fun ls hl => ?_)
          refine lv_aload_n hx hb dX11_lend_69 rfl (lv_at hl 1 rfl) ?_
          refine gX11_23 hx hb hts hown hK hw dX11_lend_70 ?_
          refine lv_iload_n hx hb dX11_lend_73 rfl (lv_at hl 2 rfl) ?_
          obtain ⟨hi_74, h⟩ := chk_e h
          obtain ⟨y_74, e_74, h⟩ := nam_e h
          refine lM5 hx hb hK hw hi_74 e_74 dX11_lend_74 ?_
          refine lv_if_ne (tgt := 125) hx hb dX11_lend_75 (by decide) (fun c_75 => ?_) (fun c_75 => ?_)
          · have h := ite_f c_75 h
            exact hJ_125 a1 a2 q_65.2 H locs ls h hw (lv_sub hl [1, 2, 3] rfl)
          · have h := ite_t c_75 h
            refine lv_iload_n hx hb dX11_lend_78 rfl (lv_at hl 0 rfl) ?_
            refine lv_iconst (v := (-1)) hx hb dX11_lend_79 (by decide) ?_
            refine lv_icmp_eq (tgt := 125) hx hb dX11_lend_80 (by decide) (fun c_80 => ?_) (fun c_80 => ?_)
            · have h := ite_t c_80 h
              exact hJ_125 a1 a2 q_65.2 H locs ls h hw (lv_sub hl [1, 2, 3] rfl)
            · have h := ite_f c_80 h
              refine lv_aload_n hx hb dX11_lend_83 rfl (lv_at hl 1 rfl) ?_
              refine lv_aload_n hx hb dX11_lend_84 rfl (lv_at hl 1 rfl) ?_
              refine gX11_13 hx hb hts hown hK hw dX11_lend_85 ?_
              refine lv_iload_n hx hb dX11_lend_88 rfl (lv_at hl 2 rfl) ?_
              obtain ⟨hi_89, h⟩ := chk_e h
              obtain ⟨y_89, e_89, h⟩ := nam_e h
              refine lM2 hx hb hK hw hi_89 e_89 dX11_lend_89 ?_
              refine lv_iconst (v := 1) hx hb dX11_lend_90 (by decide) ?_
              refine lv_iload_n hx hb dX11_lend_91 rfl (lv_at hl 2 rfl) ?_
              obtain ⟨q_92, h_92, h⟩ := bnd_e h
              have pg_92 := preG (av := [.ref (ad 0), .int y_89, .int ((1 : Int32)), .int a1]) hK hw.1 hw.2.1 NM_keep NM_blind
              refine endL (mc := 0) (ms := 0) (va_runV (As := [.int y_89, .int ((1 : Int32)), .int a1]) (rest := []) ⟨hx, hb, hml, hown, hts⟩ (m11_inCabinets l D ad cy H.size q_65.2 y_89 ((1 : Int32)) a1 q_92 h_92) (wX11_411 0 hts ⟨Nat.le_of_ble_eq_true rfl, Nat.le_of_ble_eq_true rfl⟩) ⟨pg_92.1, va_recv hK hw.1 (ci := 11) (q0 := 0) rfl eM_0, pg_92.2⟩ rfl rfl hl.1 rfl (lv_room (Nat.le_of_ble_eq_true rfl)) dX11_lend_92 ⟨Nat.le_refl _, Nat.le_refl _⟩) hw.2.2 (afr_in hw.2.2) (fun H locs hw => ?_)
              refine lv_ldc2 (v := 1000) hx hb hown (hts _ (wd_8 (w := .constantLong RX11 441 1000) (i := 70) (by decide +kernel) rfl)) dX11_lend_95 ?_
              refine lv_lmul hx hb dX11_lend_98 ?_
              refine lv_aload_n hx hb dX11_lend_99 rfl (lv_at hl 1 rfl) ?_
              refine gX11_91 hx hb hts hown hK hw dX11_lend_100 ?_
              refine lv_iload_n hx hb dX11_lend_103 rfl (lv_at hl 0 rfl) ?_
              obtain ⟨hi_104, h⟩ := chk_e h
              obtain ⟨y_104, e_104, h⟩ := nam_e h
              refine lM27 hx hb hK hw hi_104 e_104 dX11_lend_104 ?_
              refine lv_i2l hx hb dX11_lend_105 rfl ?_
              refine lv_aload_n hx hb dX11_lend_106 rfl (lv_at hl 1 rfl) ?_
              refine gX11_42 hx hb hts hown hK hw dX11_lend_107 ?_
              refine lv_aload_n hx hb dX11_lend_110 rfl (lv_at hl 1 rfl) ?_
              refine gX11_13 hx hb hts hown hK hw dX11_lend_111 ?_
              refine lv_iload_n hx hb dX11_lend_114 rfl (lv_at hl 2 rfl) ?_
              obtain ⟨hi_115, h⟩ := chk_e h
              obtain ⟨y_115, e_115, h⟩ := nam_e h
              refine lM2 hx hb hK hw hi_115 e_115 dX11_lend_115 ?_
              obtain ⟨hi_116, h⟩ := chk_e h
              obtain ⟨y_116, e_116, h⟩ := nam_e h
              refine lM11 hx hb hK hw hi_116 e_116 dX11_lend_116 ?_
              refine lv_lmul hx hb dX11_lend_117 ?_
              refine W.lcmp hx hb dX11_lend_118 ?_
              refine lv_if_ge (tgt := 125) hx hb dX11_lend_119 (by decide) (fun c_119 => ?_) (fun c_119 => ?_)
              · have h := ite_t c_119 h
                exact hJ_125 a1 a2 q_65.2 H locs ls h hw (lv_sub hl [1, 2, 3] rfl)
              · have h := ite_f c_119 h
                refine lv_bipush (v := (-3)) hx hb dX11_lend_122 (by decide) ?_
                have h := Option.some.inj h
                subst h
                rw [← hQ]
                exact retI hx hb hr hlk hw rfl dX11_lend_124
        · have h := ite_f c_56 h
          refine lv_bipush (v := (-2)) hx hb dX11_lend_59 (by decide) ?_
          have h := Option.some.inj h
          subst h
          rw [← hQ]
          exact retI hx hb hr hlk hw rfl dX11_lend_61
      · have h := ite_t c_30 h
        exact hJ_33 s11 H locs ls h hw (lv_sub hl [] rfl)
theorem dX11_loan_0 : decode cX11_loan 0 = .ok (.iload_n 1, 1) := by decide +kernel
theorem dX11_loan_1 : decode cX11_loan 1 = .ok (.i2l, 1) := by decide +kernel
theorem dX11_loan_2 : decode cX11_loan 2 = .ok (.lconst 0, 1) := by decide +kernel
theorem dX11_loan_3 : decode cX11_loan 3 = .ok (.aload_n 0, 1) := by decide +kernel
theorem dX11_loan_4 : decode cX11_loan 4 = .ok (.getfield 399, 3) := by decide +kernel
theorem dX11_loan_7 : decode cX11_loan 7 = .ok (.iconst 1, 1) := by decide +kernel
theorem dX11_loan_8 : decode cX11_loan 8 = .ok (.isub, 1) := by decide +kernel
theorem dX11_loan_9 : decode cX11_loan 9 = .ok (.i2l, 1) := by decide +kernel
theorem dX11_loan_10 : decode cX11_loan 10 = .ok (.invokestatic 215, 3) := by decide +kernel
theorem dX11_loan_13 : decode cX11_loan 13 = .ok (.ifCond .ne 5, 3) := by decide +kernel
theorem dX11_loan_16 : decode cX11_loan 16 = .ok (.iconst (-1), 1) := by decide +kernel
theorem dX11_loan_17 : decode cX11_loan 17 = .ok (.ireturn, 1) := by decide +kernel
theorem dX11_loan_18 : decode cX11_loan 18 = .ok (.iload_n 2, 1) := by decide +kernel
theorem dX11_loan_19 : decode cX11_loan 19 = .ok (.tableswitch 112 0 6 #[41, 48, 55, 62, 69, 76, 83], 41) := by decide +kernel
theorem dX11_loan_60 : decode cX11_loan 60 = .ok (.aload_n 0, 1) := by decide +kernel
theorem dX11_loan_61 : decode cX11_loan 61 = .ok (.getfield 121, 3) := by decide +kernel
theorem dX11_loan_64 : decode cX11_loan 64 = .ok (.iload_n 1, 1) := by decide +kernel
theorem dX11_loan_65 : decode cX11_loan 65 = .ok (.iaload, 1) := by decide +kernel
theorem dX11_loan_66 : decode cX11_loan 66 = .ok (.ireturn, 1) := by decide +kernel
theorem dX11_loan_67 : decode cX11_loan 67 = .ok (.aload_n 0, 1) := by decide +kernel
theorem dX11_loan_68 : decode cX11_loan 68 = .ok (.getfield 124, 3) := by decide +kernel
theorem dX11_loan_71 : decode cX11_loan 71 = .ok (.iload_n 1, 1) := by decide +kernel
theorem dX11_loan_72 : decode cX11_loan 72 = .ok (.iaload, 1) := by decide +kernel
theorem dX11_loan_73 : decode cX11_loan 73 = .ok (.ireturn, 1) := by decide +kernel
theorem dX11_loan_74 : decode cX11_loan 74 = .ok (.aload_n 0, 1) := by decide +kernel
theorem dX11_loan_75 : decode cX11_loan 75 = .ok (.getfield 127, 3) := by decide +kernel
theorem dX11_loan_78 : decode cX11_loan 78 = .ok (.iload_n 1, 1) := by decide +kernel
theorem dX11_loan_79 : decode cX11_loan 79 = .ok (.iaload, 1) := by decide +kernel
theorem dX11_loan_80 : decode cX11_loan 80 = .ok (.ireturn, 1) := by decide +kernel
theorem dX11_loan_81 : decode cX11_loan 81 = .ok (.aload_n 0, 1) := by decide +kernel
theorem dX11_loan_82 : decode cX11_loan 82 = .ok (.getfield 130, 3) := by decide +kernel
theorem dX11_loan_85 : decode cX11_loan 85 = .ok (.iload_n 1, 1) := by decide +kernel
theorem dX11_loan_86 : decode cX11_loan 86 = .ok (.iaload, 1) := by decide +kernel
theorem dX11_loan_87 : decode cX11_loan 87 = .ok (.ireturn, 1) := by decide +kernel
theorem dX11_loan_88 : decode cX11_loan 88 = .ok (.aload_n 0, 1) := by decide +kernel
theorem dX11_loan_89 : decode cX11_loan 89 = .ok (.getfield 133, 3) := by decide +kernel
theorem dX11_loan_92 : decode cX11_loan 92 = .ok (.iload_n 1, 1) := by decide +kernel
theorem dX11_loan_93 : decode cX11_loan 93 = .ok (.iaload, 1) := by decide +kernel
theorem dX11_loan_94 : decode cX11_loan 94 = .ok (.ireturn, 1) := by decide +kernel
theorem dX11_loan_95 : decode cX11_loan 95 = .ok (.aload_n 0, 1) := by decide +kernel
theorem dX11_loan_96 : decode cX11_loan 96 = .ok (.getfield 136, 3) := by decide +kernel
theorem dX11_loan_99 : decode cX11_loan 99 = .ok (.iload_n 1, 1) := by decide +kernel
theorem dX11_loan_100 : decode cX11_loan 100 = .ok (.iaload, 1) := by decide +kernel
theorem dX11_loan_101 : decode cX11_loan 101 = .ok (.ireturn, 1) := by decide +kernel
theorem dX11_loan_102 : decode cX11_loan 102 = .ok (.aload_n 0, 1) := by decide +kernel
theorem dX11_loan_103 : decode cX11_loan 103 = .ok (.getfield 133, 3) := by decide +kernel
theorem dX11_loan_106 : decode cX11_loan 106 = .ok (.iload_n 1, 1) := by decide +kernel
theorem dX11_loan_107 : decode cX11_loan 107 = .ok (.iaload, 1) := by decide +kernel
theorem dX11_loan_108 : decode cX11_loan 108 = .ok (.iconst (-1), 1) := by decide +kernel
theorem dX11_loan_109 : decode cX11_loan 109 = .ok (.if_icmp .ne 20, 3) := by decide +kernel
theorem dX11_loan_112 : decode cX11_loan 112 = .ok (.aload_n 0, 1) := by decide +kernel
theorem dX11_loan_113 : decode cX11_loan 113 = .ok (.getfield 225, 3) := by decide +kernel
theorem dX11_loan_116 : decode cX11_loan 116 = .ok (.aload_n 0, 1) := by decide +kernel
theorem dX11_loan_117 : decode cX11_loan 117 = .ok (.getfield 130, 3) := by decide +kernel
theorem dX11_loan_120 : decode cX11_loan 120 = .ok (.iload_n 1, 1) := by decide +kernel
theorem dX11_loan_121 : decode cX11_loan 121 = .ok (.iaload, 1) := by decide +kernel
theorem dX11_loan_122 : decode cX11_loan 122 = .ok (.if_icmp .le 7, 3) := by decide +kernel
theorem dX11_loan_125 : decode cX11_loan 125 = .ok (.iconst 1, 1) := by decide +kernel
theorem dX11_loan_126 : decode cX11_loan 126 = .ok (.goto 4, 3) := by decide +kernel
theorem dX11_loan_129 : decode cX11_loan 129 = .ok (.iconst 0, 1) := by decide +kernel
theorem dX11_loan_130 : decode cX11_loan 130 = .ok (.ireturn, 1) := by decide +kernel
theorem dX11_loan_131 : decode cX11_loan 131 = .ok (.iconst (-1), 1) := by decide +kernel
theorem dX11_loan_132 : decode cX11_loan 132 = .ok (.ireturn, 1) := by decide +kernel
def f11_loan_j130 (k0_j130 : Int32) (s11_j130 : OS) : Option (Int32) := some k0_j130
def f11_loan_j129 (s11_j129 : OS) : Option (Int32) := f11_loan_j130 ((0 : Int32)) s11_j129
def f11_loan (a1 : Int32) (a2 : Int32) (s11 : OS) : Option (Int32) := Option.bind (f11_lies ((a1).toInt64) ((0 : Int64)) ((((s11.1 0 5) - (1 : Int32))).toInt64)) fun q_10 => if q_10 = 0 then (some ((-1 : Int32))) else (if a2 = 0 then (chk (inb a1 100) (nm (s11.1 59 a1.toNatClampNeg) fun y_65 => some y_65)) else if a2 = 1 then (chk (inb a1 100) (nm (s11.1 60 a1.toNatClampNeg) fun y_72 => some y_72)) else if a2 = 2 then (chk (inb a1 100) (nm (s11.1 61 a1.toNatClampNeg) fun y_79 => some y_79)) else if a2 = 3 then (chk (inb a1 100) (nm (s11.1 62 a1.toNatClampNeg) fun y_86 => some y_86)) else if a2 = 4 then (chk (inb a1 100) (nm (s11.1 63 a1.toNatClampNeg) fun y_93 => some y_93)) else if a2 = 5 then (chk (inb a1 100) (nm (s11.1 64 a1.toNatClampNeg) fun y_100 => some y_100)) else if a2 = 6 then (chk (inb a1 100) (nm (s11.1 63 a1.toNatClampNeg) fun y_107 => if y_107 = (-1 : Int32) then (chk (inb a1 100) (nm (s11.1 62 a1.toNatClampNeg) fun y_121 => if (s11.1 0 2) ≤ y_121 then (f11_loan_j129 s11) else (f11_loan_j130 ((1 : Int32)) s11))) else (f11_loan_j129 s11))) else (some ((-1 : Int32))))
set_option maxHeartbeats 4000000 in
set_option maxRecDepth 100000 in
theorem m11_loan (l : Launch) (D : va_G) (ad : Nat → Nat) (cy : Nat → ClassId) (sz : Nat) (s11 : OS) (a1 : Int32) (a2 : Int32) (r : Int32) (h : f11_loan a1 a2 s11 = some r) : Met l yX11_loan (wsOf yX11_loan cX11_loan 3 (some .int)) (rmL 1) (va_Pc ([.ref (ad 0), .int a1, .int a2] : List Value) (PreG D cy (cellsM ad cy s11) sz NM)) (QcI D ad 66 (cellsM ad cy s11) (r) sz) 0 0 (Afr ad 66 sz) := by
  refine metG (own := RX11) (by decide) rfl (Nat.le_of_ble_eq_true rfl) fstM ?_ sz
  intro p e s m below meth c ls C0 hw hl
  obtain ⟨hx, hb, hml, hown, hts, hr, hlk, hK, hN⟩ := C0
  have hl : lv_has ls 3 [(0, .ref (ad 0)), (1, .int a1), (2, .int a2)] := hl
  generalize hQ : MQ below (QcI D ad 66 (cellsM ad cy s11) (r) s.heap.size) ([.ref (ad 0), .int a1, .int a2] : List Value).toArray s 0 0 (Afr ad 66 s.heap.size) = Q
  obtain ⟨H, hH⟩ : ∃ H : Heap, H = s.heap := ⟨_, rfl⟩
  obtain ⟨locs, hlc⟩ : ∃ L : List Loc, L = [] := ⟨_, rfl⟩
  have hw : Wd D (cellsM ad cy s11) (Afr ad 66 s.heap.size) s.heap H locs := by rw [hH, hlc]; exact hw
  suffices h0 : W p l e (rmL 1) s m ([.ref (ad 0), .int a1, .int a2] : List Value).toArray below meth c H locs 0 0 Q (F0 m 0 ls []) by rw [hH, hlc] at h0; exact h0
  clear hH hlc
  unfold f11_loan at h
  have hJ_130 : ∀ (k0_j130 : Int32) (H : Heap) (locs : List Loc) (ls : Array Slot), f11_loan_j130 k0_j130 s11 = some r → Wd D (cellsM ad cy s11) (Afr ad 66 s.heap.size) s.heap H locs → lv_has ls 3 [] → W p l e (rmL 1) s m ([.ref (ad 0), .int a1, .int a2] : List Value).toArray below meth c H locs 0 0 Q (F0 m 130 ls [.int k0_j130]) := by
    intro k0_j130 H locs ls h hw hl
    unfold f11_loan_j130 at h
    have h := Option.some.inj h
    subst h
    rw [← hQ]
    exact retI hx hb hr hlk hw rfl dX11_loan_130
  have hJ_129 : ∀  (H : Heap) (locs : List Loc) (ls : Array Slot), f11_loan_j129 s11 = some r → Wd D (cellsM ad cy s11) (Afr ad 66 s.heap.size) s.heap H locs → lv_has ls 3 [] → W p l e (rmL 1) s m ([.ref (ad 0), .int a1, .int a2] : List Value).toArray below meth c H locs 0 0 Q (F0 m 129 ls []) := by
    intro  H locs ls h hw hl
    unfold f11_loan_j129 at h
    refine lv_iconst (v := 0) hx hb dX11_loan_129 (by decide) ?_
    exact hJ_130 ((0 : Int32)) H locs ls h hw (lv_sub hl [] rfl)
  refine lv_iload_n hx hb dX11_loan_0 rfl (lv_at hl 1 rfl) ?_
  refine lv_i2l hx hb dX11_loan_1 rfl ?_
  refine lv_lconst (v := 0) hx hb dX11_loan_2 (by decide) ?_
  refine lv_aload_n hx hb dX11_loan_3 rfl (lv_at hl 0 rfl) ?_
  refine gX11_399 hx hb hts hown hK hw dX11_loan_4 ?_
  refine lv_iconst (v := 1) hx hb dX11_loan_7 (by decide) ?_
  refine lv_isub hx hb dX11_loan_8 ?_
  refine lv_i2l hx hb dX11_loan_9 rfl ?_
  obtain ⟨q_10, h_10, h⟩ := bnd_e h
  have pg_10 := preG (av := [.long ((a1).toInt64), .long ((0 : Int64)), .long ((((s11.1 0 5) - (1 : Int32))).toInt64)]) hK hw.1 hw.2.1 NM_keep NM_blind
  refine endI (mc := 0) (ms := 0) (va_runS (As := [.long ((a1).toInt64), .long ((0 : Int64)), .long ((((s11.1 0 5) - (1 : Int32))).toInt64)]) (rest := []) ⟨hx, hb, hml, hown, hts⟩ (m11_lies l D ad cy H.size s11 ((a1).toInt64) ((0 : Int64)) ((((s11.1 0 5) - (1 : Int32))).toInt64) q_10 h_10) (wX11_215 0 hts ⟨Nat.le_of_ble_eq_true rfl, Nat.le_of_ble_eq_true rfl⟩) pg_10 rfl rfl hl.1 rfl (lv_room (Nat.le_of_ble_eq_true rfl)) dX11_loan_10 ⟨Nat.le_refl _, Nat.le_refl _⟩) hw.2.2 (afr_in hw.2.2) (fun H locs hw => ?_)
  refine lv_if_ne (tgt := 18) hx hb dX11_loan_13 (by decide) (fun c_13 => ?_) (fun c_13 => ?_)
  · have h := ite_f c_13 h
    refine lv_iload_n hx hb dX11_loan_18 rfl (lv_at hl 2 rfl) ?_
    have q_19 : ∀ tgt : Nat, W p l e (rmL 1) s m ([.ref (ad 0), .int a1, .int a2] : List Value).toArray below meth c H locs 0 0 Q (F0 m tgt ls []) → W p l e (rmL 1) s m ([.ref (ad 0), .int a1, .int a2] : List Value).toArray below meth c H locs 0 0 Q (F0 m tgt ls []) := fun _ z => z
    by_cases c_19_0 : a2 = 0
    · have h := ite_t c_19_0 h
      refine lv_tableIn (off := 41) (tgt := 60) hx hb dX11_loan_19 (by rw [c_19_0]; decide) (by rw [c_19_0]; decide) (by rw [c_19_0]; rfl) (by decide) ?_
      refine lv_aload_n hx hb dX11_loan_60 rfl (lv_at hl 0 rfl) ?_
      refine gX11_121 hx hb hts hown hK hw dX11_loan_61 ?_
      refine lv_iload_n hx hb dX11_loan_64 rfl (lv_at hl 1 rfl) ?_
      obtain ⟨hi_65, h⟩ := chk_e h
      obtain ⟨y_65, e_65, h⟩ := nam_e h
      refine lM37 hx hb hK hw hi_65 e_65 dX11_loan_65 ?_
      have h := Option.some.inj h
      subst h
      rw [← hQ]
      exact retI hx hb hr hlk hw rfl dX11_loan_66
    have h := ite_f c_19_0 h
    by_cases c_19_1 : a2 = 1
    · have h := ite_t c_19_1 h
      refine lv_tableIn (off := 48) (tgt := 67) hx hb dX11_loan_19 (by rw [c_19_1]; decide) (by rw [c_19_1]; decide) (by rw [c_19_1]; rfl) (by decide) ?_
      refine lv_aload_n hx hb dX11_loan_67 rfl (lv_at hl 0 rfl) ?_
      refine gX11_124 hx hb hts hown hK hw dX11_loan_68 ?_
      refine lv_iload_n hx hb dX11_loan_71 rfl (lv_at hl 1 rfl) ?_
      obtain ⟨hi_72, h⟩ := chk_e h
      obtain ⟨y_72, e_72, h⟩ := nam_e h
      refine lM38 hx hb hK hw hi_72 e_72 dX11_loan_72 ?_
      have h := Option.some.inj h
      subst h
      rw [← hQ]
      exact retI hx hb hr hlk hw rfl dX11_loan_73
    have h := ite_f c_19_1 h
    by_cases c_19_2 : a2 = 2
    · have h := ite_t c_19_2 h
      refine lv_tableIn (off := 55) (tgt := 74) hx hb dX11_loan_19 (by rw [c_19_2]; decide) (by rw [c_19_2]; decide) (by rw [c_19_2]; rfl) (by decide) ?_
      refine lv_aload_n hx hb dX11_loan_74 rfl (lv_at hl 0 rfl) ?_
      refine gX11_127 hx hb hts hown hK hw dX11_loan_75 ?_
      refine lv_iload_n hx hb dX11_loan_78 rfl (lv_at hl 1 rfl) ?_
      obtain ⟨hi_79, h⟩ := chk_e h
      obtain ⟨y_79, e_79, h⟩ := nam_e h
      refine lM39 hx hb hK hw hi_79 e_79 dX11_loan_79 ?_
      have h := Option.some.inj h
      subst h
      rw [← hQ]
      exact retI hx hb hr hlk hw rfl dX11_loan_80
    have h := ite_f c_19_2 h
    by_cases c_19_3 : a2 = 3
    · have h := ite_t c_19_3 h
      refine lv_tableIn (off := 62) (tgt := 81) hx hb dX11_loan_19 (by rw [c_19_3]; decide) (by rw [c_19_3]; decide) (by rw [c_19_3]; rfl) (by decide) ?_
      refine lv_aload_n hx hb dX11_loan_81 rfl (lv_at hl 0 rfl) ?_
      refine gX11_130 hx hb hts hown hK hw dX11_loan_82 ?_
      refine lv_iload_n hx hb dX11_loan_85 rfl (lv_at hl 1 rfl) ?_
      obtain ⟨hi_86, h⟩ := chk_e h
      obtain ⟨y_86, e_86, h⟩ := nam_e h
      refine lM40 hx hb hK hw hi_86 e_86 dX11_loan_86 ?_
      have h := Option.some.inj h
      subst h
      rw [← hQ]
      exact retI hx hb hr hlk hw rfl dX11_loan_87
    have h := ite_f c_19_3 h
    by_cases c_19_4 : a2 = 4
    · have h := ite_t c_19_4 h
      refine lv_tableIn (off := 69) (tgt := 88) hx hb dX11_loan_19 (by rw [c_19_4]; decide) (by rw [c_19_4]; decide) (by rw [c_19_4]; rfl) (by decide) ?_
      refine lv_aload_n hx hb dX11_loan_88 rfl (lv_at hl 0 rfl) ?_
      refine gX11_133 hx hb hts hown hK hw dX11_loan_89 ?_
      refine lv_iload_n hx hb dX11_loan_92 rfl (lv_at hl 1 rfl) ?_
      obtain ⟨hi_93, h⟩ := chk_e h
      obtain ⟨y_93, e_93, h⟩ := nam_e h
      refine lM41 hx hb hK hw hi_93 e_93 dX11_loan_93 ?_
      have h := Option.some.inj h
      subst h
      rw [← hQ]
      exact retI hx hb hr hlk hw rfl dX11_loan_94
    have h := ite_f c_19_4 h
    by_cases c_19_5 : a2 = 5
    · have h := ite_t c_19_5 h
      refine lv_tableIn (off := 76) (tgt := 95) hx hb dX11_loan_19 (by rw [c_19_5]; decide) (by rw [c_19_5]; decide) (by rw [c_19_5]; rfl) (by decide) ?_
      refine lv_aload_n hx hb dX11_loan_95 rfl (lv_at hl 0 rfl) ?_
      refine gX11_136 hx hb hts hown hK hw dX11_loan_96 ?_
      refine lv_iload_n hx hb dX11_loan_99 rfl (lv_at hl 1 rfl) ?_
      obtain ⟨hi_100, h⟩ := chk_e h
      obtain ⟨y_100, e_100, h⟩ := nam_e h
      refine lM42 hx hb hK hw hi_100 e_100 dX11_loan_100 ?_
      have h := Option.some.inj h
      subst h
      rw [← hQ]
      exact retI hx hb hr hlk hw rfl dX11_loan_101
    have h := ite_f c_19_5 h
    by_cases c_19_6 : a2 = 6
    · have h := ite_t c_19_6 h
      refine lv_tableIn (off := 83) (tgt := 102) hx hb dX11_loan_19 (by rw [c_19_6]; decide) (by rw [c_19_6]; decide) (by rw [c_19_6]; rfl) (by decide) ?_
      refine lv_aload_n hx hb dX11_loan_102 rfl (lv_at hl 0 rfl) ?_
      refine gX11_133 hx hb hts hown hK hw dX11_loan_103 ?_
      refine lv_iload_n hx hb dX11_loan_106 rfl (lv_at hl 1 rfl) ?_
      obtain ⟨hi_107, h⟩ := chk_e h
      obtain ⟨y_107, e_107, h⟩ := nam_e h
      refine lM41 hx hb hK hw hi_107 e_107 dX11_loan_107 ?_
      refine lv_iconst (v := (-1)) hx hb dX11_loan_108 (by decide) ?_
      refine lv_icmp_ne (tgt := 129) hx hb dX11_loan_109 (by decide) (fun c_109 => ?_) (fun c_109 => ?_)
      · have h := ite_f c_109 h
        exact hJ_129  H locs ls h hw (lv_sub hl [] rfl)
      · have h := ite_t c_109 h
        refine lv_aload_n hx hb dX11_loan_112 rfl (lv_at hl 0 rfl) ?_
        refine gX11_225 hx hb hts hown hK hw dX11_loan_113 ?_
        refine lv_aload_n hx hb dX11_loan_116 rfl (lv_at hl 0 rfl) ?_
        refine gX11_130 hx hb hts hown hK hw dX11_loan_117 ?_
        refine lv_iload_n hx hb dX11_loan_120 rfl (lv_at hl 1 rfl) ?_
        obtain ⟨hi_121, h⟩ := chk_e h
        obtain ⟨y_121, e_121, h⟩ := nam_e h
        refine lM40 hx hb hK hw hi_121 e_121 dX11_loan_121 ?_
        refine lv_icmp_le (tgt := 129) hx hb dX11_loan_122 (by decide) (fun c_122 => ?_) (fun c_122 => ?_)
        · have h := ite_t c_122 h
          exact hJ_129  H locs ls h hw (lv_sub hl [] rfl)
        · have h := ite_f c_122 h
          refine lv_iconst (v := 1) hx hb dX11_loan_125 (by decide) ?_
          refine lv_goto (tgt := 130) hx hb dX11_loan_126 (by decide) ?_
          exact hJ_130 ((1 : Int32)) H locs ls h hw (lv_sub hl [] rfl)
    have h := ite_f c_19_6 h
    refine lv_tableOut (tgt := 131) hx hb dX11_loan_19 (by have := lv_neT c_19_0 (a := 0) rfl; have := lv_neT c_19_1 (a := 1) rfl; have := lv_neT c_19_2 (a := 2) rfl; have := lv_neT c_19_3 (a := 3) rfl; have := lv_neT c_19_4 (a := 4) rfl; have := lv_neT c_19_5 (a := 5) rfl; have := lv_neT c_19_6 (a := 6) rfl; omega) (by decide) ?_
    refine lv_iconst (v := (-1)) hx hb dX11_loan_131 (by decide) ?_
    have h := Option.some.inj h
    subst h
    rw [← hQ]
    exact retI hx hb hr hlk hw rfl dX11_loan_132
  · have h := ite_t c_13 h
    refine lv_iconst (v := (-1)) hx hb dX11_loan_16 (by decide) ?_
    have h := Option.some.inj h
    subst h
    rw [← hQ]
    exact retI hx hb hr hlk hw rfl dX11_loan_17
theorem dX11_loss_0 : decode cX11_loss 0 = .ok (.iload_n 1, 1) := by decide +kernel
theorem dX11_loss_1 : decode cX11_loss 1 = .ok (.i2l, 1) := by decide +kernel
theorem dX11_loss_2 : decode cX11_loss 2 = .ok (.lconst 0, 1) := by decide +kernel
theorem dX11_loss_3 : decode cX11_loss 3 = .ok (.ldc2_w 510, 3) := by decide +kernel
theorem dX11_loss_6 : decode cX11_loss 6 = .ok (.invokestatic 215, 3) := by decide +kernel
theorem dX11_loss_9 : decode cX11_loss 9 = .ok (.ifCond .ne 5, 3) := by decide +kernel
theorem dX11_loss_12 : decode cX11_loss 12 = .ok (.iconst 0, 1) := by decide +kernel
theorem dX11_loss_13 : decode cX11_loss 13 = .ok (.ireturn, 1) := by decide +kernel
theorem dX11_loss_14 : decode cX11_loss 14 = .ok (.aload_n 0, 1) := by decide +kernel
theorem dX11_loss_15 : decode cX11_loss 15 = .ok (.iload_n 1, 1) := by decide +kernel
theorem dX11_loss_16 : decode cX11_loss 16 = .ok (.putfield 208, 3) := by decide +kernel
theorem dX11_loss_19 : decode cX11_loss 19 = .ok (.iconst 1, 1) := by decide +kernel
theorem dX11_loss_20 : decode cX11_loss 20 = .ok (.ireturn, 1) := by decide +kernel
def f11_loss (a1 : Int32) (s11 : OS) : Option (Int32 × OS) := Option.bind (f11_lies ((a1).toInt64) ((0 : Int64)) ((1000000 : Int64))) fun q_6 => if q_6 = 0 then (some ((0 : Int32), s11)) else (nm (wI s11 0 89 a1) fun s11_16 => some ((1 : Int32), s11_16))
set_option maxHeartbeats 4000000 in
set_option maxRecDepth 100000 in
theorem m11_loss (l : Launch) (D : va_G) (ad : Nat → Nat) (cy : Nat → ClassId) (sz : Nat) (s11 : OS) (a1 : Int32) (r : Int32 × OS) (h : f11_loss a1 s11 = some r) : Met l yX11_loss (wsOf yX11_loss cX11_loss 2 (some .boolean)) (rmL 1) (va_Pc ([.ref (ad 0), .int a1] : List Value) (PreG D cy (cellsM ad cy s11) sz NM)) (QcI D ad 66 (cellsM ad cy r.2) (r.1) sz) 0 0 (Afr ad 66 sz) := by
  refine metG (own := RX11) (by decide) rfl (Nat.le_of_ble_eq_true rfl) fstM ?_ sz
  intro p e s m below meth c ls C0 hw hl
  obtain ⟨hx, hb, hml, hown, hts, hr, hlk, hK, hN⟩ := C0
  have hl : lv_has ls 2 [(0, .ref (ad 0)), (1, .int a1)] := hl
  generalize hQ : MQ below (QcI D ad 66 (cellsM ad cy r.2) (r.1) s.heap.size) ([.ref (ad 0), .int a1] : List Value).toArray s 0 0 (Afr ad 66 s.heap.size) = Q
  obtain ⟨H, hH⟩ : ∃ H : Heap, H = s.heap := ⟨_, rfl⟩
  obtain ⟨locs, hlc⟩ : ∃ L : List Loc, L = [] := ⟨_, rfl⟩
  have hw : Wd D (cellsM ad cy s11) (Afr ad 66 s.heap.size) s.heap H locs := by rw [hH, hlc]; exact hw
  suffices h0 : W p l e (rmL 1) s m ([.ref (ad 0), .int a1] : List Value).toArray below meth c H locs 0 0 Q (F0 m 0 ls []) by rw [hH, hlc] at h0; exact h0
  clear hH hlc
  unfold f11_loss at h
  refine lv_iload_n hx hb dX11_loss_0 rfl (lv_at hl 1 rfl) ?_
  refine lv_i2l hx hb dX11_loss_1 rfl ?_
  refine lv_lconst (v := 0) hx hb dX11_loss_2 (by decide) ?_
  refine lv_ldc2 (v := 1000000) hx hb hown (hts _ (wd_8 (w := .constantLong RX11 510 1000000) (i := 174) (by decide +kernel) rfl)) dX11_loss_3 ?_
  obtain ⟨q_6, h_6, h⟩ := bnd_e h
  have pg_6 := preG (av := [.long ((a1).toInt64), .long ((0 : Int64)), .long ((1000000 : Int64))]) hK hw.1 hw.2.1 NM_keep NM_blind
  refine endI (mc := 0) (ms := 0) (va_runS (As := [.long ((a1).toInt64), .long ((0 : Int64)), .long ((1000000 : Int64))]) (rest := []) ⟨hx, hb, hml, hown, hts⟩ (m11_lies l D ad cy H.size s11 ((a1).toInt64) ((0 : Int64)) ((1000000 : Int64)) q_6 h_6) (wX11_215 0 hts ⟨Nat.le_of_ble_eq_true rfl, Nat.le_of_ble_eq_true rfl⟩) pg_6 rfl rfl hl.1 rfl (lv_room (Nat.le_of_ble_eq_true rfl)) dX11_loss_6 ⟨Nat.le_refl _, Nat.le_refl _⟩) hw.2.2 (afr_in hw.2.2) (fun H locs hw => ?_)
  refine lv_if_ne (tgt := 14) hx hb dX11_loss_9 (by decide) (fun c_9 => ?_) (fun c_9 => ?_)
  · have h := ite_f c_9 h
    refine lv_aload_n hx hb dX11_loss_14 rfl (lv_at hl 0 rfl) ?_
    refine lv_iload_n hx hb dX11_loss_15 rfl (lv_at hl 1 rfl) ?_
    obtain ⟨s11_16, e_16, h⟩ := nam_e h
    refine pX11_208 hx hb hts hown hK hw e_16 dX11_loss_16 (fun H locs hw => ?_)
    refine lv_iconst (v := 1) hx hb dX11_loss_19 (by decide) ?_
    have h := Option.some.inj h
    subst h
    rw [← hQ]
    exact retI hx hb hr hlk hw (narB (v := (1 : Int32)) (by decide)) dX11_loss_20
  · have h := ite_t c_9 h
    refine lv_iconst (v := 0) hx hb dX11_loss_12 (by decide) ?_
    have h := Option.some.inj h
    subst h
    rw [← hQ]
    exact retI hx hb hr hlk hw (narB (v := (0 : Int32)) (by decide)) dX11_loss_13
theorem dX11_lowest_0 : decode cX11_lowest 0 = .ok (.iconst 0, 1) := by decide +kernel
theorem dX11_lowest_1 : decode cX11_lowest 1 = .ok (.istore_n 3, 1) := by decide +kernel
theorem dX11_lowest_2 : decode cX11_lowest 2 = .ok (.iconst 0, 1) := by decide +kernel
theorem dX11_lowest_3 : decode cX11_lowest 3 = .ok (.istore 4, 2) := by decide +kernel
theorem dX11_lowest_5 : decode cX11_lowest 5 = .ok (.iload 4, 2) := by decide +kernel
theorem dX11_lowest_7 : decode cX11_lowest 7 = .ok (.aload_n 0, 1) := by decide +kernel
theorem dX11_lowest_8 : decode cX11_lowest 8 = .ok (.getfield 235, 3) := by decide +kernel
theorem dX11_lowest_11 : decode cX11_lowest 11 = .ok (.if_icmp .ge 62, 3) := by decide +kernel
theorem dX11_lowest_14 : decode cX11_lowest 14 = .ok (.iconst 0, 1) := by decide +kernel
theorem dX11_lowest_15 : decode cX11_lowest 15 = .ok (.istore 5, 2) := by decide +kernel
theorem dX11_lowest_17 : decode cX11_lowest 17 = .ok (.iload 5, 2) := by decide +kernel
theorem dX11_lowest_19 : decode cX11_lowest 19 = .ok (.aload_n 0, 1) := by decide +kernel
theorem dX11_lowest_20 : decode cX11_lowest 20 = .ok (.getfield 461, 3) := by decide +kernel
theorem dX11_lowest_23 : decode cX11_lowest 23 = .ok (.if_icmp .ge 44, 3) := by decide +kernel
theorem dX11_lowest_26 : decode cX11_lowest 26 = .ok (.iload_n 1, 1) := by decide +kernel
theorem dX11_lowest_27 : decode cX11_lowest 27 = .ok (.iload 5, 2) := by decide +kernel
theorem dX11_lowest_29 : decode cX11_lowest 29 = .ok (.invokestatic 473, 3) := by decide +kernel
theorem dX11_lowest_32 : decode cX11_lowest 32 = .ok (.ifCond .eq 29, 3) := by decide +kernel
theorem dX11_lowest_35 : decode cX11_lowest 35 = .ok (.aload_n 0, 1) := by decide +kernel
theorem dX11_lowest_36 : decode cX11_lowest 36 = .ok (.getfield 151, 3) := by decide +kernel
theorem dX11_lowest_39 : decode cX11_lowest 39 = .ok (.iload 5, 2) := by decide +kernel
theorem dX11_lowest_41 : decode cX11_lowest 41 = .ok (.iaload, 1) := by decide +kernel
theorem dX11_lowest_42 : decode cX11_lowest 42 = .ok (.iload 4, 2) := by decide +kernel
theorem dX11_lowest_44 : decode cX11_lowest 44 = .ok (.if_icmp .eq 6, 3) := by decide +kernel
theorem dX11_lowest_47 : decode cX11_lowest 47 = .ok (.goto 14, 3) := by decide +kernel
theorem dX11_lowest_50 : decode cX11_lowest 50 = .ok (.iload_n 3, 1) := by decide +kernel
theorem dX11_lowest_51 : decode cX11_lowest 51 = .ok (.iload_n 2, 1) := by decide +kernel
theorem dX11_lowest_52 : decode cX11_lowest 52 = .ok (.if_icmp .ne 6, 3) := by decide +kernel
theorem dX11_lowest_55 : decode cX11_lowest 55 = .ok (.iload 4, 2) := by decide +kernel
theorem dX11_lowest_57 : decode cX11_lowest 57 = .ok (.ireturn, 1) := by decide +kernel
theorem dX11_lowest_58 : decode cX11_lowest 58 = .ok (.iinc 3 1, 3) := by decide +kernel
theorem dX11_lowest_61 : decode cX11_lowest 61 = .ok (.iinc 5 1, 3) := by decide +kernel
theorem dX11_lowest_64 : decode cX11_lowest 64 = .ok (.goto (-47), 3) := by decide +kernel
theorem dX11_lowest_67 : decode cX11_lowest 67 = .ok (.iinc 4 1, 3) := by decide +kernel
theorem dX11_lowest_70 : decode cX11_lowest 70 = .ok (.goto (-65), 3) := by decide +kernel
theorem dX11_lowest_73 : decode cX11_lowest 73 = .ok (.iconst (-1), 1) := by decide +kernel
theorem dX11_lowest_74 : decode cX11_lowest 74 = .ok (.ireturn, 1) := by decide +kernel
noncomputable def f11_lowest_j61 (v1_j61 : Int32) (v2_j61 : Int32) (v3_j61 : Int32) (v4_j61 : Int32) (v5_j61 : Int32) (s11_j61 : OS) : Option ((Int32 × Int32) ⊕ ((Int32 × Int32) ⊕ (Int32))) := nm (v5_j61 + (1 : Int32)) fun n_61 => some (Sum.inl (v3_j61, n_61))
noncomputable def f11_lowest_l17 (v1_i17 : Int32) (v2_i17 : Int32) (v4_i17 : Int32) (s11_i17 : OS) : Int32 × Int32 → Option ((Int32 × Int32) ⊕ ((Int32 × Int32) ⊕ (Int32))) := fun t_17 => if (s11_i17.1 0 68) ≤ t_17.2 then (Option.map Sum.inr (nm (v4_i17 + (1 : Int32)) fun n_67 => some (Sum.inl (t_17.1, n_67)))) else (Option.bind (f11_has v1_i17 t_17.2) fun q_29 => if q_29 = 0 then (f11_lowest_j61 v1_i17 v2_i17 t_17.1 v4_i17 t_17.2 s11_i17) else (chk (inb t_17.2 6) (nm (s11_i17.1 71 t_17.2.toNatClampNeg) fun y_41 => if y_41 = v4_i17 then (if t_17.1 = v2_i17 then (Option.map Sum.inr (Option.map Sum.inr (some v4_i17))) else (nm (t_17.1 + (1 : Int32)) fun n_58 => f11_lowest_j61 v1_i17 v2_i17 n_58 v4_i17 t_17.2 s11_i17)) else (f11_lowest_j61 v1_i17 v2_i17 t_17.1 v4_i17 t_17.2 s11_i17))))
noncomputable def f11_lowest_l5 (v1_i5 : Int32) (v2_i5 : Int32) (s11_i5 : OS) : Int32 × Int32 → Option ((Int32 × Int32) ⊕ (Int32)) := fun t_5 => if (s11_i5.1 0 3) ≤ t_5.2 then (Option.map Sum.inr (some ((-1 : Int32)))) else (loop (f11_lowest_l17 v1_i5 v2_i5 t_5.2 s11_i5) (t_5.1, (0 : Int32)))
noncomputable def f11_lowest (a1 : Int32) (a2 : Int32) (s11 : OS) : Option (Int32) := loop (f11_lowest_l5 a1 a2 s11) ((0 : Int32), (0 : Int32))
set_option maxHeartbeats 4000000 in
set_option maxRecDepth 100000 in
theorem m11_lowest (l : Launch) (D : va_G) (ad : Nat → Nat) (cy : Nat → ClassId) (sz : Nat) (s11 : OS) (a1 : Int32) (a2 : Int32) (r : Int32) (h : f11_lowest a1 a2 s11 = some r) : Met l yX11_lowest (wsOf yX11_lowest cX11_lowest 6 (some .int)) (rmL 1) (va_Pc ([.ref (ad 0), .int a1, .int a2] : List Value) (PreG D cy (cellsM ad cy s11) sz NM)) (QcI D ad 66 (cellsM ad cy s11) (r) sz) 0 0 (Afr ad 66 sz) := by
  refine metG (own := RX11) (by decide) rfl (Nat.le_of_ble_eq_true rfl) fstM ?_ sz
  intro p e s m below meth c ls C0 hw hl
  obtain ⟨hx, hb, hml, hown, hts, hr, hlk, hK, hN⟩ := C0
  have hl : lv_has ls 6 [(0, .ref (ad 0)), (1, .int a1), (2, .int a2)] := hl
  generalize hQ : MQ below (QcI D ad 66 (cellsM ad cy s11) (r) s.heap.size) ([.ref (ad 0), .int a1, .int a2] : List Value).toArray s 0 0 (Afr ad 66 s.heap.size) = Q
  obtain ⟨H, hH⟩ : ∃ H : Heap, H = s.heap := ⟨_, rfl⟩
  obtain ⟨locs, hlc⟩ : ∃ L : List Loc, L = [] := ⟨_, rfl⟩
  have hw : Wd D (cellsM ad cy s11) (Afr ad 66 s.heap.size) s.heap H locs := by rw [hH, hlc]; exact hw
  suffices h0 : W p l e (rmL 1) s m ([.ref (ad 0), .int a1, .int a2] : List Value).toArray below meth c H locs 0 0 Q (F0 m 0 ls []) by rw [hH, hlc] at h0; exact h0
  clear hH hlc
  unfold f11_lowest at h
  refine lv_iconst (v := 0) hx hb dX11_lowest_0 (by decide) ?_
  refine lv_istore_n (lv' := [(3, .int ((0 : Int32))), (0, .ref (ad 0)), (1, .int a1), (2, .int a2)]) hx hb dX11_lowest_1 rfl hl (by decide) rfl (fun ls hl => ?_)
  refine lv_iconst (v := 0) hx hb dX11_lowest_2 (by decide) ?_
  refine lv_istore (lv' := [(4, .int ((0 : Int32))), (3, .int ((0 : Int32))), (0, .ref (ad 0)), (1, .int a1), (2, .int a2)]) hx hb dX11_lowest_3 hl (by decide) rfl (fun ls hl => ?_)
  obtain ⟨n_5, hn_5⟩ := loop_e h
  have hL_5 : ∀ (n : Nat) (t_5 : Int32 × Int32) (H : Heap) (locs : List Loc) (ls : Array Slot), loopN (f11_lowest_l5 a1 a2 s11) n t_5 = some r → Wd D (cellsM ad cy s11) (Afr ad 66 s.heap.size) s.heap H locs → lv_has ls 6 [(3, .int t_5.1), (4, .int t_5.2), (1, .int a1), (2, .int a2), (0, .ref (ad 0))] → W p l e (rmL 1) s m ([.ref (ad 0), .int a1, .int a2] : List Value).toArray below meth c H locs 0 0 Q (F0 m 5 ls []) := by
    intro n
    induction n with
    | zero => intro t_5 H locs ls hn; cases hn
    | succ n ih_5 =>
      intro t_5 H locs ls hn hw hl
      obtain ⟨x_5, h, hx_5⟩ := loopN_e hn
      unfold f11_lowest_l5 at h
      refine lv_iload hx hb dX11_lowest_5 (lv_at hl 1 rfl) ?_
      refine lv_aload_n hx hb dX11_lowest_7 rfl (lv_at hl 4 rfl) ?_
      refine gX11_235 hx hb hts hown hK hw dX11_lowest_8 ?_
      refine lv_icmp_ge (tgt := 73) hx hb dX11_lowest_11 (by decide) (fun c_11 => ?_) (fun c_11 => ?_)
      · have h := ite_t c_11 h
        have h := nx_m hx_5 h
        refine lv_iconst (v := (-1)) hx hb dX11_lowest_73 (by decide) ?_
        have h := Option.some.inj h
        subst h
        rw [← hQ]
        exact retI hx hb hr hlk hw rfl dX11_lowest_74
      · have h := ite_f c_11 h
        refine lv_iconst (v := 0) hx hb dX11_lowest_14 (by decide) ?_
        refine lv_istore (lv' := [(5, .int ((0 : Int32))), (3, .int t_5.1), (4, .int t_5.2), (1, .int a1), (2, .int a2), (0, .ref (ad 0))]) hx hb dX11_lowest_15 hl (by decide) rfl (fun ls hl => ?_)
        obtain ⟨n_17, hn_17⟩ := loop_e h
        have hL_17 : ∀ (n : Nat) (t_17 : Int32 × Int32) (H : Heap) (locs : List Loc) (ls : Array Slot), loopN (f11_lowest_l17 a1 a2 t_5.2 s11) n t_17 = some x_5 → Wd D (cellsM ad cy s11) (Afr ad 66 s.heap.size) s.heap H locs → lv_has ls 6 [(3, .int t_17.1), (5, .int t_17.2), (1, .int a1), (2, .int a2), (4, .int t_5.2), (0, .ref (ad 0))] → W p l e (rmL 1) s m ([.ref (ad 0), .int a1, .int a2] : List Value).toArray below meth c H locs 0 0 Q (F0 m 17 ls []) := by
          intro n
          induction n with
          | zero => intro t_17 H locs ls hn; cases hn
          | succ n ih_17 =>
            intro t_17 H locs ls hn hw hl
            obtain ⟨x_17, h, hx_17⟩ := loopN_e hn
            unfold f11_lowest_l17 at h
            have hJ_61 : ∀ (v3_j61 : Int32) (v5_j61 : Int32) (H : Heap) (locs : List Loc) (ls : Array Slot), f11_lowest_j61 a1 a2 v3_j61 t_5.2 v5_j61 s11 = some x_17 → Wd D (cellsM ad cy s11) (Afr ad 66 s.heap.size) s.heap H locs → lv_has ls 6 [(0, .ref (ad 0)), (1, .int a1), (2, .int a2), (3, .int v3_j61), (4, .int t_5.2), (5, .int v5_j61)] → W p l e (rmL 1) s m ([.ref (ad 0), .int a1, .int a2] : List Value).toArray below meth c H locs 0 0 Q (F0 m 61 ls []) := by
              intro v3_j61 v5_j61 H locs ls h hw hl
              unfold f11_lowest_j61 at h
              obtain ⟨n_61, e_61, h⟩ := nam_e h
              refine lv_iinc (v := n_61) (lv' := [(5, .int n_61), (0, .ref (ad 0)), (1, .int a1), (2, .int a2), (3, .int v3_j61), (4, .int t_5.2)]) hx hb dX11_lowest_61 hl (k := 5) rfl (by rw [e_61]; rfl) (by decide) rfl (fun ls hl => ?_)
              refine lv_goto (tgt := 17) hx hb dX11_lowest_64 (by decide) ?_
              exact ih_17 (v3_j61, n_61) H locs ls (nx_l hx_17 h) hw (lv_sub hl [4, 0, 2, 3, 5, 1] rfl)
            refine lv_iload hx hb dX11_lowest_17 (lv_at hl 1 rfl) ?_
            refine lv_aload_n hx hb dX11_lowest_19 rfl (lv_at hl 5 rfl) ?_
            refine gX11_461 hx hb hts hown hK hw dX11_lowest_20 ?_
            refine lv_icmp_ge (tgt := 67) hx hb dX11_lowest_23 (by decide) (fun c_23 => ?_) (fun c_23 => ?_)
            · have h := ite_t c_23 h
              have h := nx_m hx_17 h
              obtain ⟨n_67, e_67, h⟩ := nam_e h
              refine lv_iinc (v := n_67) (lv' := [(4, .int n_67), (3, .int t_17.1), (5, .int t_17.2), (1, .int a1), (2, .int a2), (0, .ref (ad 0))]) hx hb dX11_lowest_67 hl (k := 4) rfl (by rw [e_67]; rfl) (by decide) rfl (fun ls hl => ?_)
              refine lv_goto (tgt := 5) hx hb dX11_lowest_70 (by decide) ?_
              exact ih_5 (t_17.1, n_67) H locs ls (nx_l hx_5 h) hw (lv_sub hl [1, 0, 3, 4, 5] rfl)
            · have h := ite_f c_23 h
              refine lv_iload_n hx hb dX11_lowest_26 rfl (lv_at hl 2 rfl) ?_
              refine lv_iload hx hb dX11_lowest_27 (lv_at hl 1 rfl) ?_
              obtain ⟨q_29, h_29, h⟩ := bnd_e h
              have pg_29 := preG (av := [.int a1, .int t_17.2]) hK hw.1 hw.2.1 NM_keep NM_blind
              refine endI (mc := 0) (ms := 0) (va_runS (As := [.int a1, .int t_17.2]) (rest := []) ⟨hx, hb, hml, hown, hts⟩ (m11_has l D ad cy H.size s11 a1 t_17.2 q_29 h_29) (wX11_473 0 hts ⟨Nat.le_of_ble_eq_true rfl, Nat.le_of_ble_eq_true rfl⟩) pg_29 rfl rfl hl.1 rfl (lv_room (Nat.le_of_ble_eq_true rfl)) dX11_lowest_29 ⟨Nat.le_refl _, Nat.le_refl _⟩) hw.2.2 (afr_in hw.2.2) (fun H locs hw => ?_)
              refine lv_if_eq (tgt := 61) hx hb dX11_lowest_32 (by decide) (fun c_32 => ?_) (fun c_32 => ?_)
              · have h := ite_t c_32 h
                exact hJ_61 t_17.1 t_17.2 H locs ls h hw (lv_sub hl [5, 2, 3, 0, 4, 1] rfl)
              · have h := ite_f c_32 h
                refine lv_aload_n hx hb dX11_lowest_35 rfl (lv_at hl 5 rfl) ?_
                refine gX11_151 hx hb hts hown hK hw dX11_lowest_36 ?_
                refine lv_iload hx hb dX11_lowest_39 (lv_at hl 1 rfl) ?_
                obtain ⟨hi_41, h⟩ := chk_e h
                obtain ⟨y_41, e_41, h⟩ := nam_e h
                refine lM47 hx hb hK hw hi_41 e_41 dX11_lowest_41 ?_
                refine lv_iload hx hb dX11_lowest_42 (lv_at hl 4 rfl) ?_
                refine lv_icmp_eq (tgt := 50) hx hb dX11_lowest_44 (by decide) (fun c_44 => ?_) (fun c_44 => ?_)
                · have h := ite_t c_44 h
                  refine lv_iload_n hx hb dX11_lowest_50 rfl (lv_at hl 0 rfl) ?_
                  refine lv_iload_n hx hb dX11_lowest_51 rfl (lv_at hl 3 rfl) ?_
                  refine lv_icmp_ne (tgt := 58) hx hb dX11_lowest_52 (by decide) (fun c_52 => ?_) (fun c_52 => ?_)
                  · have h := ite_f c_52 h
                    obtain ⟨n_58, e_58, h⟩ := nam_e h
                    refine lv_iinc (v := n_58) (lv' := [(3, .int n_58), (5, .int t_17.2), (1, .int a1), (2, .int a2), (4, .int t_5.2), (0, .ref (ad 0))]) hx hb dX11_lowest_58 hl (k := 0) rfl (by rw [e_58]; rfl) (by decide) rfl (fun ls hl => ?_)
                    exact hJ_61 n_58 t_17.2 H locs ls h hw (lv_sub hl [5, 2, 3, 0, 4, 1] rfl)
                  · have h := ite_t c_52 h
                    have h := nx_m hx_17 h
                    have h := nx_m hx_5 h
                    refine lv_iload hx hb dX11_lowest_55 (lv_at hl 4 rfl) ?_
                    have h := Option.some.inj h
                    subst h
                    rw [← hQ]
                    exact retI hx hb hr hlk hw rfl dX11_lowest_57
                · have h := ite_f c_44 h
                  refine lv_goto (tgt := 61) hx hb dX11_lowest_47 (by decide) ?_
                  exact hJ_61 t_17.1 t_17.2 H locs ls h hw (lv_sub hl [5, 2, 3, 0, 4, 1] rfl)
        exact hL_17 n_17 (t_5.1, (0 : Int32)) H locs ls hn_17 hw (lv_sub hl [1, 0, 3, 4, 2, 5] rfl)
  exact hL_5 n_5 ((0 : Int32), (0 : Int32)) H locs ls hn_5 hw (lv_sub hl [1, 0, 3, 4, 2] rfl)
theorem dX11_measures_0 : decode cX11_measures 0 = .ok (.iconst 0, 1) := by decide +kernel
theorem dX11_measures_1 : decode cX11_measures 1 = .ok (.istore_n 1, 1) := by decide +kernel
theorem dX11_measures_2 : decode cX11_measures 2 = .ok (.iload_n 1, 1) := by decide +kernel
theorem dX11_measures_3 : decode cX11_measures 3 = .ok (.sipush 256, 3) := by decide +kernel
theorem dX11_measures_6 : decode cX11_measures 6 = .ok (.if_icmp .ge 36, 3) := by decide +kernel
theorem dX11_measures_9 : decode cX11_measures 9 = .ok (.aload_n 0, 1) := by decide +kernel
theorem dX11_measures_10 : decode cX11_measures 10 = .ok (.getfield 175, 3) := by decide +kernel
theorem dX11_measures_13 : decode cX11_measures 13 = .ok (.iload_n 1, 1) := by decide +kernel
theorem dX11_measures_14 : decode cX11_measures 14 = .ok (.iload_n 1, 1) := by decide +kernel
theorem dX11_measures_15 : decode cX11_measures 15 = .ok (.bipush 16, 2) := by decide +kernel
theorem dX11_measures_17 : decode cX11_measures 17 = .ok (.irem, 1) := by decide +kernel
theorem dX11_measures_18 : decode cX11_measures 18 = .ok (.iload_n 1, 1) := by decide +kernel
theorem dX11_measures_19 : decode cX11_measures 19 = .ok (.bipush 16, 2) := by decide +kernel
theorem dX11_measures_21 : decode cX11_measures 21 = .ok (.idiv, 1) := by decide +kernel
theorem dX11_measures_22 : decode cX11_measures 22 = .ok (.if_icmp .ne 7, 3) := by decide +kernel
theorem dX11_measures_25 : decode cX11_measures 25 = .ok (.iconst 0, 1) := by decide +kernel
theorem dX11_measures_26 : decode cX11_measures 26 = .ok (.goto 9, 3) := by decide +kernel
theorem dX11_measures_29 : decode cX11_measures 29 = .ok (.aload_n 0, 1) := by decide +kernel
theorem dX11_measures_30 : decode cX11_measures 30 = .ok (.getfield 172, 3) := by decide +kernel
theorem dX11_measures_33 : decode cX11_measures 33 = .ok (.iload_n 1, 1) := by decide +kernel
theorem dX11_measures_34 : decode cX11_measures 34 = .ok (.iaload, 1) := by decide +kernel
theorem dX11_measures_35 : decode cX11_measures 35 = .ok (.iastore, 1) := by decide +kernel
theorem dX11_measures_36 : decode cX11_measures 36 = .ok (.iinc 1 1, 3) := by decide +kernel
theorem dX11_measures_39 : decode cX11_measures 39 = .ok (.goto (-37), 3) := by decide +kernel
theorem dX11_measures_42 : decode cX11_measures 42 = .ok (.iconst 0, 1) := by decide +kernel
theorem dX11_measures_43 : decode cX11_measures 43 = .ok (.istore_n 1, 1) := by decide +kernel
theorem dX11_measures_44 : decode cX11_measures 44 = .ok (.iload_n 1, 1) := by decide +kernel
theorem dX11_measures_45 : decode cX11_measures 45 = .ok (.bipush 16, 2) := by decide +kernel
theorem dX11_measures_47 : decode cX11_measures 47 = .ok (.if_icmp .ge 91, 3) := by decide +kernel
theorem dX11_measures_50 : decode cX11_measures 50 = .ok (.iconst 0, 1) := by decide +kernel
theorem dX11_measures_51 : decode cX11_measures 51 = .ok (.istore_n 2, 1) := by decide +kernel
theorem dX11_measures_52 : decode cX11_measures 52 = .ok (.iload_n 2, 1) := by decide +kernel
theorem dX11_measures_53 : decode cX11_measures 53 = .ok (.bipush 16, 2) := by decide +kernel
theorem dX11_measures_55 : decode cX11_measures 55 = .ok (.if_icmp .ge 77, 3) := by decide +kernel
theorem dX11_measures_58 : decode cX11_measures 58 = .ok (.iconst 0, 1) := by decide +kernel
theorem dX11_measures_59 : decode cX11_measures 59 = .ok (.istore_n 3, 1) := by decide +kernel
theorem dX11_measures_60 : decode cX11_measures 60 = .ok (.iload_n 3, 1) := by decide +kernel
theorem dX11_measures_61 : decode cX11_measures 61 = .ok (.bipush 16, 2) := by decide +kernel
theorem dX11_measures_63 : decode cX11_measures 63 = .ok (.if_icmp .ge 63, 3) := by decide +kernel
theorem dX11_measures_66 : decode cX11_measures 66 = .ok (.aload_n 0, 1) := by decide +kernel
theorem dX11_measures_67 : decode cX11_measures 67 = .ok (.getfield 175, 3) := by decide +kernel
theorem dX11_measures_70 : decode cX11_measures 70 = .ok (.bipush 16, 2) := by decide +kernel
theorem dX11_measures_72 : decode cX11_measures 72 = .ok (.iload_n 2, 1) := by decide +kernel
theorem dX11_measures_73 : decode cX11_measures 73 = .ok (.imul, 1) := by decide +kernel
theorem dX11_measures_74 : decode cX11_measures 74 = .ok (.iload_n 1, 1) := by decide +kernel
theorem dX11_measures_75 : decode cX11_measures 75 = .ok (.iadd, 1) := by decide +kernel
theorem dX11_measures_76 : decode cX11_measures 76 = .ok (.iaload, 1) := by decide +kernel
theorem dX11_measures_77 : decode cX11_measures 77 = .ok (.aload_n 0, 1) := by decide +kernel
theorem dX11_measures_78 : decode cX11_measures 78 = .ok (.getfield 175, 3) := by decide +kernel
theorem dX11_measures_81 : decode cX11_measures 81 = .ok (.bipush 16, 2) := by decide +kernel
theorem dX11_measures_83 : decode cX11_measures 83 = .ok (.iload_n 1, 1) := by decide +kernel
theorem dX11_measures_84 : decode cX11_measures 84 = .ok (.imul, 1) := by decide +kernel
theorem dX11_measures_85 : decode cX11_measures 85 = .ok (.iload_n 3, 1) := by decide +kernel
theorem dX11_measures_86 : decode cX11_measures 86 = .ok (.iadd, 1) := by decide +kernel
theorem dX11_measures_87 : decode cX11_measures 87 = .ok (.iaload, 1) := by decide +kernel
theorem dX11_measures_88 : decode cX11_measures 88 = .ok (.iadd, 1) := by decide +kernel
theorem dX11_measures_89 : decode cX11_measures 89 = .ok (.istore 4, 2) := by decide +kernel
theorem dX11_measures_91 : decode cX11_measures 91 = .ok (.iload 4, 2) := by decide +kernel
theorem dX11_measures_93 : decode cX11_measures 93 = .ok (.aload_n 0, 1) := by decide +kernel
theorem dX11_measures_94 : decode cX11_measures 94 = .ok (.getfield 175, 3) := by decide +kernel
theorem dX11_measures_97 : decode cX11_measures 97 = .ok (.bipush 16, 2) := by decide +kernel
theorem dX11_measures_99 : decode cX11_measures 99 = .ok (.iload_n 2, 1) := by decide +kernel
theorem dX11_measures_100 : decode cX11_measures 100 = .ok (.imul, 1) := by decide +kernel
theorem dX11_measures_101 : decode cX11_measures 101 = .ok (.iload_n 3, 1) := by decide +kernel
theorem dX11_measures_102 : decode cX11_measures 102 = .ok (.iadd, 1) := by decide +kernel
theorem dX11_measures_103 : decode cX11_measures 103 = .ok (.iaload, 1) := by decide +kernel
theorem dX11_measures_104 : decode cX11_measures 104 = .ok (.if_icmp .ge 16, 3) := by decide +kernel
theorem dX11_measures_107 : decode cX11_measures 107 = .ok (.aload_n 0, 1) := by decide +kernel
theorem dX11_measures_108 : decode cX11_measures 108 = .ok (.getfield 175, 3) := by decide +kernel
theorem dX11_measures_111 : decode cX11_measures 111 = .ok (.bipush 16, 2) := by decide +kernel
theorem dX11_measures_113 : decode cX11_measures 113 = .ok (.iload_n 2, 1) := by decide +kernel
theorem dX11_measures_114 : decode cX11_measures 114 = .ok (.imul, 1) := by decide +kernel
theorem dX11_measures_115 : decode cX11_measures 115 = .ok (.iload_n 3, 1) := by decide +kernel
theorem dX11_measures_116 : decode cX11_measures 116 = .ok (.iadd, 1) := by decide +kernel
theorem dX11_measures_117 : decode cX11_measures 117 = .ok (.iload 4, 2) := by decide +kernel
theorem dX11_measures_119 : decode cX11_measures 119 = .ok (.iastore, 1) := by decide +kernel
theorem dX11_measures_120 : decode cX11_measures 120 = .ok (.iinc 3 1, 3) := by decide +kernel
theorem dX11_measures_123 : decode cX11_measures 123 = .ok (.goto (-63), 3) := by decide +kernel
theorem dX11_measures_126 : decode cX11_measures 126 = .ok (.iinc 2 1, 3) := by decide +kernel
theorem dX11_measures_129 : decode cX11_measures 129 = .ok (.goto (-77), 3) := by decide +kernel
theorem dX11_measures_132 : decode cX11_measures 132 = .ok (.iinc 1 1, 3) := by decide +kernel
theorem dX11_measures_135 : decode cX11_measures 135 = .ok (.goto (-91), 3) := by decide +kernel
theorem dX11_measures_138 : decode cX11_measures 138 = .ok (.return_, 1) := by decide +kernel
noncomputable def f11_measures_j35 (v1_j35 : Int32) (k1_j35 : Int32) (k2_j35 : Int32) (s11_j35 : OS) : Option ((Int32 × OS) ⊕ (OS)) := chk (inb k1_j35 256) (nm (wI s11_j35 79 k1_j35.toNatClampNeg k2_j35) fun s11_35 => nm (v1_j35 + (1 : Int32)) fun n_36 => some (Sum.inl (n_36, s11_35)))
noncomputable def f11_measures_j120 (v1_j120 : Int32) (v2_j120 : Int32) (v3_j120 : Int32) (s11_j120 : OS) : Option ((Int32 × OS) ⊕ ((Int32 × OS) ⊕ ((Int32 × OS) ⊕ (OS)))) := nm (v3_j120 + (1 : Int32)) fun n_120 => some (Sum.inl (n_120, s11_j120))
noncomputable def f11_measures_l60 (v1_i60 : Int32) (v2_i60 : Int32) : Int32 × OS → Option ((Int32 × OS) ⊕ ((Int32 × OS) ⊕ ((Int32 × OS) ⊕ (OS)))) := fun t_60 => if (16 : Int32) ≤ t_60.1 then (Option.map Sum.inr (nm (v2_i60 + (1 : Int32)) fun n_126 => some (Sum.inl (n_126, t_60.2)))) else (chk (inb ((((16 : Int32) * v2_i60) + v1_i60)) 256) (nm (t_60.2.1 79 ((((16 : Int32) * v2_i60) + v1_i60)).toNatClampNeg) fun y_76 => chk (inb ((((16 : Int32) * v1_i60) + t_60.1)) 256) (nm (t_60.2.1 79 ((((16 : Int32) * v1_i60) + t_60.1)).toNatClampNeg) fun y_87 => nm ((y_76 + y_87)) fun n_89 => chk (inb ((((16 : Int32) * v2_i60) + t_60.1)) 256) (nm (t_60.2.1 79 ((((16 : Int32) * v2_i60) + t_60.1)).toNatClampNeg) fun y_103 => if y_103 ≤ n_89 then (f11_measures_j120 v1_i60 v2_i60 t_60.1 t_60.2) else (chk (inb ((((16 : Int32) * v2_i60) + t_60.1)) 256) (nm (wI t_60.2 79 ((((16 : Int32) * v2_i60) + t_60.1)).toNatClampNeg n_89) fun s11_119 => f11_measures_j120 v1_i60 v2_i60 t_60.1 s11_119))))))
noncomputable def f11_measures_l52 (v1_i52 : Int32) : Int32 × OS → Option ((Int32 × OS) ⊕ ((Int32 × OS) ⊕ (OS))) := fun t_52 => if (16 : Int32) ≤ t_52.1 then (Option.map Sum.inr (nm (v1_i52 + (1 : Int32)) fun n_132 => some (Sum.inl (n_132, t_52.2)))) else (loop (f11_measures_l60 v1_i52 t_52.1) ((0 : Int32), t_52.2))
noncomputable def f11_measures_l44  : Int32 × OS → Option ((Int32 × OS) ⊕ (OS)) := fun t_44 => if (16 : Int32) ≤ t_44.1 then (Option.map Sum.inr (some t_44.2)) else (loop (f11_measures_l52 t_44.1) ((0 : Int32), t_44.2))
noncomputable def f11_measures_l2  : Int32 × OS → Option ((Int32 × OS) ⊕ (OS)) := fun t_2 => if (256 : Int32) ≤ t_2.1 then (Option.map Sum.inr (loop (f11_measures_l44) ((0 : Int32), t_2.2))) else (if (t_2.1 - t_2.1 / (16 : Int32) * (16 : Int32)) = (t_2.1 / (16 : Int32)) then (f11_measures_j35 t_2.1 t_2.1 ((0 : Int32)) t_2.2) else (chk (inb t_2.1 256) (nm (t_2.2.1 78 t_2.1.toNatClampNeg) fun y_34 => f11_measures_j35 t_2.1 t_2.1 y_34 t_2.2)))
noncomputable def f11_measures (s11 : OS) : Option (OS) := loop (f11_measures_l2) ((0 : Int32), s11)
set_option maxHeartbeats 4000000 in
set_option maxRecDepth 100000 in
theorem m11_measures (l : Launch) (D : va_G) (ad : Nat → Nat) (cy : Nat → ClassId) (sz : Nat) (s11 : OS) (r : OS) (h : f11_measures s11 = some r) : Met l yX11_measures (wsOf yX11_measures cX11_measures 5 none) (rmL 0) (va_Pc ([.ref (ad 0)] : List Value) (PreG D cy (cellsM ad cy s11) sz NM)) (QcV D ad 66 (cellsM ad cy r) sz) 0 0 (Afr ad 66 sz) := by
  refine metG (own := RX11) (by decide) rfl (Nat.le_of_ble_eq_true rfl) fstM ?_ sz
  intro p e s m below meth c ls C0 hw hl
  obtain ⟨hx, hb, hml, hown, hts, hr, hlk, hK, hN⟩ := C0
  have hl : lv_has ls 5 [(0, .ref (ad 0))] := hl
  generalize hQ : MQ below (QcV D ad 66 (cellsM ad cy r) s.heap.size) ([.ref (ad 0)] : List Value).toArray s 0 0 (Afr ad 66 s.heap.size) = Q
  obtain ⟨H, hH⟩ : ∃ H : Heap, H = s.heap := ⟨_, rfl⟩
  obtain ⟨locs, hlc⟩ : ∃ L : List Loc, L = [] := ⟨_, rfl⟩
  have hw : Wd D (cellsM ad cy s11) (Afr ad 66 s.heap.size) s.heap H locs := by rw [hH, hlc]; exact hw
  suffices h0 : W p l e (rmL 0) s m ([.ref (ad 0)] : List Value).toArray below meth c H locs 0 0 Q (F0 m 0 ls []) by rw [hH, hlc] at h0; exact h0
  clear hH hlc
  unfold f11_measures at h
  refine lv_iconst (v := 0) hx hb dX11_measures_0 (by decide) ?_
  refine lv_istore_n (lv' := [(1, .int ((0 : Int32))), (0, .ref (ad 0))]) hx hb dX11_measures_1 rfl hl (by decide) rfl (fun ls hl => ?_)
  obtain ⟨n_2, hn_2⟩ := loop_e h
  have hL_2 : ∀ (n : Nat) (t_2 : Int32 × OS) (H : Heap) (locs : List Loc) (ls : Array Slot), loopN (f11_measures_l2) n t_2 = some r → Wd D (cellsM ad cy t_2.2) (Afr ad 66 s.heap.size) s.heap H locs → lv_has ls 5 [(1, .int t_2.1), (0, .ref (ad 0))] → W p l e (rmL 0) s m ([.ref (ad 0)] : List Value).toArray below meth c H locs 0 0 Q (F0 m 2 ls []) := by
    intro n
    induction n with
    | zero => intro t_2 H locs ls hn; cases hn
    | succ n ih_2 =>
      intro t_2 H locs ls hn hw hl
      obtain ⟨x_2, h, hx_2⟩ := loopN_e hn
      unfold f11_measures_l2 at h
      have hJ_35 : ∀ (v1_j35 : Int32) (k1_j35 : Int32) (k2_j35 : Int32) (s11_j35 : OS) (H : Heap) (locs : List Loc) (ls : Array Slot), f11_measures_j35 v1_j35 k1_j35 k2_j35 s11_j35 = some x_2 → Wd D (cellsM ad cy s11_j35) (Afr ad 66 s.heap.size) s.heap H locs → lv_has ls 5 [(0, .ref (ad 0)), (1, .int v1_j35)] → W p l e (rmL 0) s m ([.ref (ad 0)] : List Value).toArray below meth c H locs 0 0 Q (F0 m 35 ls [.int k2_j35, .int k1_j35, .ref (ad 55)]) := by
        intro v1_j35 k1_j35 k2_j35 s11_j35 H locs ls h hw hl
        unfold f11_measures_j35 at h
        obtain ⟨hi_35, h⟩ := chk_e h
        obtain ⟨s11_35, e_35, h⟩ := nam_e h
        refine aM55 hx hb hK hw hi_35 e_35 dX11_measures_35 (fun H locs hw => ?_)
        obtain ⟨n_36, e_36, h⟩ := nam_e h
        refine lv_iinc (v := n_36) (lv' := [(1, .int n_36), (0, .ref (ad 0))]) hx hb dX11_measures_36 hl (k := 1) rfl (by rw [e_36]; rfl) (by decide) rfl (fun ls hl => ?_)
        refine lv_goto (tgt := 2) hx hb dX11_measures_39 (by decide) ?_
        exact ih_2 (n_36, s11_35) H locs ls (nx_l hx_2 h) hw (lv_sub hl [0, 1] rfl)
      refine lv_iload_n hx hb dX11_measures_2 rfl (lv_at hl 0 rfl) ?_
      refine lv_sipush (v := 256) hx hb dX11_measures_3 (by decide) ?_
      refine lv_icmp_ge (tgt := 42) hx hb dX11_measures_6 (by decide) (fun c_6 => ?_) (fun c_6 => ?_)
      · have h := ite_t c_6 h
        have h := nx_m hx_2 h
        refine lv_iconst (v := 0) hx hb dX11_measures_42 (by decide) ?_
        refine lv_istore_n (lv' := [(1, .int ((0 : Int32))), (0, .ref (ad 0))]) hx hb dX11_measures_43 rfl hl (by decide) rfl (fun ls hl => ?_)
        obtain ⟨n_44, hn_44⟩ := loop_e h
        have hL_44 : ∀ (n : Nat) (t_44 : Int32 × OS) (H : Heap) (locs : List Loc) (ls : Array Slot), loopN (f11_measures_l44) n t_44 = some r → Wd D (cellsM ad cy t_44.2) (Afr ad 66 s.heap.size) s.heap H locs → lv_has ls 5 [(1, .int t_44.1), (0, .ref (ad 0))] → W p l e (rmL 0) s m ([.ref (ad 0)] : List Value).toArray below meth c H locs 0 0 Q (F0 m 44 ls []) := by
          intro n
          induction n with
          | zero => intro t_44 H locs ls hn; cases hn
          | succ n ih_44 =>
            intro t_44 H locs ls hn hw hl
            obtain ⟨x_44, h, hx_44⟩ := loopN_e hn
            unfold f11_measures_l44 at h
            refine lv_iload_n hx hb dX11_measures_44 rfl (lv_at hl 0 rfl) ?_
            refine lv_bipush (v := 16) hx hb dX11_measures_45 (by decide) ?_
            refine lv_icmp_ge (tgt := 138) hx hb dX11_measures_47 (by decide) (fun c_47 => ?_) (fun c_47 => ?_)
            · have h := ite_t c_47 h
              have h := nx_m hx_44 h
              have h := Option.some.inj h
              subst h
              rw [← hQ]
              exact retV hx hb hr hlk hw dX11_measures_138
            · have h := ite_f c_47 h
              refine lv_iconst (v := 0) hx hb dX11_measures_50 (by decide) ?_
              refine lv_istore_n (lv' := [(2, .int ((0 : Int32))), (1, .int t_44.1), (0, .ref (ad 0))]) hx hb dX11_measures_51 rfl hl (by decide) rfl (fun ls hl => ?_)
              obtain ⟨n_52, hn_52⟩ := loop_e h
              have hL_52 : ∀ (n : Nat) (t_52 : Int32 × OS) (H : Heap) (locs : List Loc) (ls : Array Slot), loopN (f11_measures_l52 t_44.1) n t_52 = some x_44 → Wd D (cellsM ad cy t_52.2) (Afr ad 66 s.heap.size) s.heap H locs → lv_has ls 5 [(2, .int t_52.1), (1, .int t_44.1), (0, .ref (ad 0))] → W p l e (rmL 0) s m ([.ref (ad 0)] : List Value).toArray below meth c H locs 0 0 Q (F0 m 52 ls []) := by
                intro n
                induction n with
                | zero => intro t_52 H locs ls hn; cases hn
                | succ n ih_52 =>
                  intro t_52 H locs ls hn hw hl
                  obtain ⟨x_52, h, hx_52⟩ := loopN_e hn
                  unfold f11_measures_l52 at h
                  refine lv_iload_n hx hb dX11_measures_52 rfl (lv_at hl 0 rfl) ?_
                  refine lv_bipush (v := 16) hx hb dX11_measures_53 (by decide) ?_
                  refine lv_icmp_ge (tgt := 132) hx hb dX11_measures_55 (by decide) (fun c_55 => ?_) (fun c_55 => ?_)
                  · have h := ite_t c_55 h
                    have h := nx_m hx_52 h
                    obtain ⟨n_132, e_132, h⟩ := nam_e h
                    refine lv_iinc (v := n_132) (lv' := [(1, .int n_132), (2, .int t_52.1), (0, .ref (ad 0))]) hx hb dX11_measures_132 hl (k := 1) rfl (by rw [e_132]; rfl) (by decide) rfl (fun ls hl => ?_)
                    refine lv_goto (tgt := 44) hx hb dX11_measures_135 (by decide) ?_
                    exact ih_44 (n_132, t_52.2) H locs ls (nx_l hx_44 h) hw (lv_sub hl [0, 2] rfl)
                  · have h := ite_f c_55 h
                    refine lv_iconst (v := 0) hx hb dX11_measures_58 (by decide) ?_
                    refine lv_istore_n (lv' := [(3, .int ((0 : Int32))), (2, .int t_52.1), (1, .int t_44.1), (0, .ref (ad 0))]) hx hb dX11_measures_59 rfl hl (by decide) rfl (fun ls hl => ?_)
                    obtain ⟨n_60, hn_60⟩ := loop_e h
                    have hL_60 : ∀ (n : Nat) (t_60 : Int32 × OS) (H : Heap) (locs : List Loc) (ls : Array Slot), loopN (f11_measures_l60 t_44.1 t_52.1) n t_60 = some x_52 → Wd D (cellsM ad cy t_60.2) (Afr ad 66 s.heap.size) s.heap H locs → lv_has ls 5 [(3, .int t_60.1), (1, .int t_44.1), (2, .int t_52.1), (0, .ref (ad 0))] → W p l e (rmL 0) s m ([.ref (ad 0)] : List Value).toArray below meth c H locs 0 0 Q (F0 m 60 ls []) := by
                      intro n
                      induction n with
                      | zero => intro t_60 H locs ls hn; cases hn
                      | succ n ih_60 =>
                        intro t_60 H locs ls hn hw hl
                        obtain ⟨x_60, h, hx_60⟩ := loopN_e hn
                        unfold f11_measures_l60 at h
                        have hJ_120 : ∀ (v3_j120 : Int32) (s11_j120 : OS) (H : Heap) (locs : List Loc) (ls : Array Slot), f11_measures_j120 t_44.1 t_52.1 v3_j120 s11_j120 = some x_60 → Wd D (cellsM ad cy s11_j120) (Afr ad 66 s.heap.size) s.heap H locs → lv_has ls 5 [(0, .ref (ad 0)), (1, .int t_44.1), (2, .int t_52.1), (3, .int v3_j120)] → W p l e (rmL 0) s m ([.ref (ad 0)] : List Value).toArray below meth c H locs 0 0 Q (F0 m 120 ls []) := by
                          intro v3_j120 s11_j120 H locs ls h hw hl
                          unfold f11_measures_j120 at h
                          obtain ⟨n_120, e_120, h⟩ := nam_e h
                          refine lv_iinc (v := n_120) (lv' := [(3, .int n_120), (0, .ref (ad 0)), (1, .int t_44.1), (2, .int t_52.1)]) hx hb dX11_measures_120 hl (k := 3) rfl (by rw [e_120]; rfl) (by decide) rfl (fun ls hl => ?_)
                          refine lv_goto (tgt := 60) hx hb dX11_measures_123 (by decide) ?_
                          exact ih_60 (n_120, s11_j120) H locs ls (nx_l hx_60 h) hw (lv_sub hl [0, 2, 3, 1] rfl)
                        refine lv_iload_n hx hb dX11_measures_60 rfl (lv_at hl 0 rfl) ?_
                        refine lv_bipush (v := 16) hx hb dX11_measures_61 (by decide) ?_
                        refine lv_icmp_ge (tgt := 126) hx hb dX11_measures_63 (by decide) (fun c_63 => ?_) (fun c_63 => ?_)
                        · have h := ite_t c_63 h
                          have h := nx_m hx_60 h
                          obtain ⟨n_126, e_126, h⟩ := nam_e h
                          refine lv_iinc (v := n_126) (lv' := [(2, .int n_126), (3, .int t_60.1), (1, .int t_44.1), (0, .ref (ad 0))]) hx hb dX11_measures_126 hl (k := 2) rfl (by rw [e_126]; rfl) (by decide) rfl (fun ls hl => ?_)
                          refine lv_goto (tgt := 52) hx hb dX11_measures_129 (by decide) ?_
                          exact ih_52 (n_126, t_60.2) H locs ls (nx_l hx_52 h) hw (lv_sub hl [0, 2, 3] rfl)
                        · have h := ite_f c_63 h
                          refine lv_aload_n hx hb dX11_measures_66 rfl (lv_at hl 3 rfl) ?_
                          refine gX11_175 hx hb hts hown hK hw dX11_measures_67 ?_
                          refine lv_bipush (v := 16) hx hb dX11_measures_70 (by decide) ?_
                          refine lv_iload_n hx hb dX11_measures_72 rfl (lv_at hl 2 rfl) ?_
                          refine lv_imul hx hb dX11_measures_73 ?_
                          refine lv_iload_n hx hb dX11_measures_74 rfl (lv_at hl 1 rfl) ?_
                          refine lv_iadd hx hb dX11_measures_75 ?_
                          obtain ⟨hi_76, h⟩ := chk_e h
                          obtain ⟨y_76, e_76, h⟩ := nam_e h
                          refine lM55 hx hb hK hw hi_76 e_76 dX11_measures_76 ?_
                          refine lv_aload_n hx hb dX11_measures_77 rfl (lv_at hl 3 rfl) ?_
                          refine gX11_175 hx hb hts hown hK hw dX11_measures_78 ?_
                          refine lv_bipush (v := 16) hx hb dX11_measures_81 (by decide) ?_
                          refine lv_iload_n hx hb dX11_measures_83 rfl (lv_at hl 1 rfl) ?_
                          refine lv_imul hx hb dX11_measures_84 ?_
                          refine lv_iload_n hx hb dX11_measures_85 rfl (lv_at hl 0 rfl) ?_
                          refine lv_iadd hx hb dX11_measures_86 ?_
                          obtain ⟨hi_87, h⟩ := chk_e h
                          obtain ⟨y_87, e_87, h⟩ := nam_e h
                          refine lM55 hx hb hK hw hi_87 e_87 dX11_measures_87 ?_
                          refine lv_iadd hx hb dX11_measures_88 ?_
                          obtain ⟨n_89, e_89, h⟩ := nam_e h
                          refine topI e_89 ?_
                          refine lv_istore (lv' := [(4, .int n_89), (3, .int t_60.1), (1, .int t_44.1), (2, .int t_52.1), (0, .ref (ad 0))]) hx hb dX11_measures_89 hl (by decide) rfl (fun ls hl => ?_)
                          refine lv_iload hx hb dX11_measures_91 (lv_at hl 0 rfl) ?_
                          refine lv_aload_n hx hb dX11_measures_93 rfl (lv_at hl 4 rfl) ?_
                          refine gX11_175 hx hb hts hown hK hw dX11_measures_94 ?_
                          refine lv_bipush (v := 16) hx hb dX11_measures_97 (by decide) ?_
                          refine lv_iload_n hx hb dX11_measures_99 rfl (lv_at hl 3 rfl) ?_
                          refine lv_imul hx hb dX11_measures_100 ?_
                          refine lv_iload_n hx hb dX11_measures_101 rfl (lv_at hl 1 rfl) ?_
                          refine lv_iadd hx hb dX11_measures_102 ?_
                          obtain ⟨hi_103, h⟩ := chk_e h
                          obtain ⟨y_103, e_103, h⟩ := nam_e h
                          refine lM55 hx hb hK hw hi_103 e_103 dX11_measures_103 ?_
                          refine lv_icmp_ge (tgt := 120) hx hb dX11_measures_104 (by decide) (fun c_104 => ?_) (fun c_104 => ?_)
                          · have h := ite_t c_104 h
                            exact hJ_120 t_60.1 t_60.2 H locs ls h hw (lv_sub hl [4, 2, 3, 1] rfl)
                          · have h := ite_f c_104 h
                            refine lv_aload_n hx hb dX11_measures_107 rfl (lv_at hl 4 rfl) ?_
                            refine gX11_175 hx hb hts hown hK hw dX11_measures_108 ?_
                            refine lv_bipush (v := 16) hx hb dX11_measures_111 (by decide) ?_
                            refine lv_iload_n hx hb dX11_measures_113 rfl (lv_at hl 3 rfl) ?_
                            refine lv_imul hx hb dX11_measures_114 ?_
                            refine lv_iload_n hx hb dX11_measures_115 rfl (lv_at hl 1 rfl) ?_
                            refine lv_iadd hx hb dX11_measures_116 ?_
                            refine lv_iload hx hb dX11_measures_117 (lv_at hl 0 rfl) ?_
                            obtain ⟨hi_119, h⟩ := chk_e h
                            obtain ⟨s11_119, e_119, h⟩ := nam_e h
                            refine aM55 hx hb hK hw hi_119 e_119 dX11_measures_119 (fun H locs hw => ?_)
                            exact hJ_120 t_60.1 s11_119 H locs ls h hw (lv_sub hl [4, 2, 3, 1] rfl)
                    exact hL_60 n_60 ((0 : Int32), t_52.2) H locs ls hn_60 hw (lv_sub hl [0, 2, 1, 3] rfl)
              exact hL_52 n_52 ((0 : Int32), t_44.2) H locs ls hn_52 hw (lv_sub hl [0, 1, 2] rfl)
        exact hL_44 n_44 ((0 : Int32), t_2.2) H locs ls hn_44 hw (lv_sub hl [0, 1] rfl)
      · have h := ite_f c_6 h
        refine lv_aload_n hx hb dX11_measures_9 rfl (lv_at hl 1 rfl) ?_
        refine gX11_175 hx hb hts hown hK hw dX11_measures_10 ?_
        refine lv_iload_n hx hb dX11_measures_13 rfl (lv_at hl 0 rfl) ?_
        refine lv_iload_n hx hb dX11_measures_14 rfl (lv_at hl 0 rfl) ?_
        refine lv_bipush (v := 16) hx hb dX11_measures_15 (by decide) ?_
        refine lv_irem hx hb dX11_measures_17 (by decide) ?_
        refine lv_iload_n hx hb dX11_measures_18 rfl (lv_at hl 0 rfl) ?_
        refine lv_bipush (v := 16) hx hb dX11_measures_19 (by decide) ?_
        refine lv_idiv hx hb dX11_measures_21 (by decide) ?_
        refine lv_icmp_ne (tgt := 29) hx hb dX11_measures_22 (by decide) (fun c_22 => ?_) (fun c_22 => ?_)
        · have h := ite_f c_22 h
          refine lv_aload_n hx hb dX11_measures_29 rfl (lv_at hl 1 rfl) ?_
          refine gX11_172 hx hb hts hown hK hw dX11_measures_30 ?_
          refine lv_iload_n hx hb dX11_measures_33 rfl (lv_at hl 0 rfl) ?_
          obtain ⟨hi_34, h⟩ := chk_e h
          obtain ⟨y_34, e_34, h⟩ := nam_e h
          refine lM54 hx hb hK hw hi_34 e_34 dX11_measures_34 ?_
          exact hJ_35 t_2.1 t_2.1 y_34 t_2.2 H locs ls h hw (lv_sub hl [1, 0] rfl)
        · have h := ite_t c_22 h
          refine lv_iconst (v := 0) hx hb dX11_measures_25 (by decide) ?_
          refine lv_goto (tgt := 35) hx hb dX11_measures_26 (by decide) ?_
          exact hJ_35 t_2.1 t_2.1 ((0 : Int32)) t_2.2 H locs ls h hw (lv_sub hl [1, 0] rfl)
  exact hL_2 n_2 ((0 : Int32), s11) H locs ls hn_2 hw (lv_sub hl [0, 1] rfl)
theorem dX11_move_0 : decode cX11_move 0 = .ok (.aload_n 0, 1) := by decide +kernel
theorem dX11_move_1 : decode cX11_move 1 = .ok (.iload_n 1, 1) := by decide +kernel
theorem dX11_move_2 : decode cX11_move 2 = .ok (.invokevirtual 263, 3) := by decide +kernel
theorem dX11_move_5 : decode cX11_move 5 = .ok (.ifCond .eq 10, 3) := by decide +kernel
theorem dX11_move_8 : decode cX11_move 8 = .ok (.iload_n 2, 1) := by decide +kernel
theorem dX11_move_9 : decode cX11_move 9 = .ok (.invokestatic 245, 3) := by decide +kernel
theorem dX11_move_12 : decode cX11_move 12 = .ok (.ifCond .ne 5, 3) := by decide +kernel
theorem dX11_move_15 : decode cX11_move 15 = .ok (.iconst 0, 1) := by decide +kernel
theorem dX11_move_16 : decode cX11_move 16 = .ok (.ireturn, 1) := by decide +kernel
theorem dX11_move_17 : decode cX11_move 17 = .ok (.aload_n 0, 1) := by decide +kernel
theorem dX11_move_18 : decode cX11_move 18 = .ok (.getfield 26, 3) := by decide +kernel
theorem dX11_move_21 : decode cX11_move 21 = .ok (.iload_n 1, 1) := by decide +kernel
theorem dX11_move_22 : decode cX11_move 22 = .ok (.iload_n 2, 1) := by decide +kernel
theorem dX11_move_23 : decode cX11_move 23 = .ok (.iastore, 1) := by decide +kernel
theorem dX11_move_24 : decode cX11_move 24 = .ok (.aload_n 0, 1) := by decide +kernel
theorem dX11_move_25 : decode cX11_move 25 = .ok (.getfield 35, 3) := by decide +kernel
theorem dX11_move_28 : decode cX11_move 28 = .ok (.iload_n 1, 1) := by decide +kernel
theorem dX11_move_29 : decode cX11_move 29 = .ok (.baload, 1) := by decide +kernel
theorem dX11_move_30 : decode cX11_move 30 = .ok (.ifCond .ne 18, 3) := by decide +kernel
theorem dX11_move_33 : decode cX11_move 33 = .ok (.aload_n 0, 1) := by decide +kernel
theorem dX11_move_34 : decode cX11_move 34 = .ok (.getfield 23, 3) := by decide +kernel
theorem dX11_move_37 : decode cX11_move 37 = .ok (.iload_n 1, 1) := by decide +kernel
theorem dX11_move_38 : decode cX11_move 38 = .ok (.dup2, 1) := by decide +kernel
theorem dX11_move_39 : decode cX11_move 39 = .ok (.iaload, 1) := by decide +kernel
theorem dX11_move_40 : decode cX11_move 40 = .ok (.aload_n 0, 1) := by decide +kernel
theorem dX11_move_41 : decode cX11_move 41 = .ok (.getfield 39, 3) := by decide +kernel
theorem dX11_move_44 : decode cX11_move 44 = .ok (.iload_n 2, 1) := by decide +kernel
theorem dX11_move_45 : decode cX11_move 45 = .ok (.iaload, 1) := by decide +kernel
theorem dX11_move_46 : decode cX11_move 46 = .ok (.ior, 1) := by decide +kernel
theorem dX11_move_47 : decode cX11_move 47 = .ok (.iastore, 1) := by decide +kernel
theorem dX11_move_48 : decode cX11_move 48 = .ok (.aload_n 0, 1) := by decide +kernel
theorem dX11_move_49 : decode cX11_move 49 = .ok (.iload_n 1, 1) := by decide +kernel
theorem dX11_move_50 : decode cX11_move 50 = .ok (.invokevirtual 251, 3) := by decide +kernel
theorem dX11_move_53 : decode cX11_move 53 = .ok (.iconst 1, 1) := by decide +kernel
theorem dX11_move_54 : decode cX11_move 54 = .ok (.ireturn, 1) := by decide +kernel
def f11_move_j48 (v1_j48 : Int32) (s11_j48 : OS) : Option (Int32 × OS) := Option.bind (f11_notes v1_j48 s11_j48) fun q_50 => some ((1 : Int32), q_50)
def f11_move_j15 (s11_j15 : OS) : Option (Int32 × OS) := some ((0 : Int32), s11_j15)
def f11_move (a1 : Int32) (a2 : Int32) (s11 : OS) : Option (Int32 × OS) := Option.bind (f11_isThere a1 s11) fun q_2 => if q_2 = 0 then (f11_move_j15 s11) else (Option.bind (f11_isCabinet a2) fun q_9 => if q_9 = 0 then (f11_move_j15 s11) else (chk (inb a1 150) (nm (wI s11 16 a1.toNatClampNeg a2) fun s11_23 => chk (inb a1 150) (nm (s11_23.1 19 a1.toNatClampNeg) fun y_29 => if y_29 = 0 then (chk (inb a1 150) (nm (s11_23.1 15 a1.toNatClampNeg) fun y_39 => chk (inb a2 10) (nm (s11_23.1 20 a2.toNatClampNeg) fun y_45 => chk (inb a1 150) (nm (wI s11_23 15 a1.toNatClampNeg ((y_39 ||| y_45))) fun s11_47 => f11_move_j48 a1 s11_47)))) else (f11_move_j48 a1 s11_23)))))
set_option maxHeartbeats 4000000 in
set_option maxRecDepth 100000 in
theorem m11_move (l : Launch) (D : va_G) (ad : Nat → Nat) (cy : Nat → ClassId) (sz : Nat) (s11 : OS) (a1 : Int32) (a2 : Int32) (r : Int32 × OS) (h : f11_move a1 a2 s11 = some r) : Met l yX11_move (wsOf yX11_move cX11_move 3 (some .boolean)) (rmL 3) (va_Pc ([.ref (ad 0), .int a1, .int a2] : List Value) (PreG D cy (cellsM ad cy s11) sz NM)) (QcI D ad 66 (cellsM ad cy r.2) (r.1) sz) 0 0 (Afr ad 66 sz) := by
  refine metG (own := RX11) (by decide) rfl (Nat.le_of_ble_eq_true rfl) fstM ?_ sz
  intro p e s m below meth c ls C0 hw hl
  obtain ⟨hx, hb, hml, hown, hts, hr, hlk, hK, hN⟩ := C0
  have hl : lv_has ls 3 [(0, .ref (ad 0)), (1, .int a1), (2, .int a2)] := hl
  generalize hQ : MQ below (QcI D ad 66 (cellsM ad cy r.2) (r.1) s.heap.size) ([.ref (ad 0), .int a1, .int a2] : List Value).toArray s 0 0 (Afr ad 66 s.heap.size) = Q
  obtain ⟨H, hH⟩ : ∃ H : Heap, H = s.heap := ⟨_, rfl⟩
  obtain ⟨locs, hlc⟩ : ∃ L : List Loc, L = [] := ⟨_, rfl⟩
  have hw : Wd D (cellsM ad cy s11) (Afr ad 66 s.heap.size) s.heap H locs := by rw [hH, hlc]; exact hw
  suffices h0 : W p l e (rmL 3) s m ([.ref (ad 0), .int a1, .int a2] : List Value).toArray below meth c H locs 0 0 Q (F0 m 0 ls []) by rw [hH, hlc] at h0; exact h0
  clear hH hlc
  unfold f11_move at h
  have hJ_48 : ∀ (v1_j48 : Int32) (s11_j48 : OS) (H : Heap) (locs : List Loc) (ls : Array Slot), f11_move_j48 v1_j48 s11_j48 = some r → Wd D (cellsM ad cy s11_j48) (Afr ad 66 s.heap.size) s.heap H locs → lv_has ls 3 [(0, .ref (ad 0)), (1, .int v1_j48)] → W p l e (rmL 3) s m ([.ref (ad 0), .int a1, .int a2] : List Value).toArray below meth c H locs 0 0 Q (F0 m 48 ls []) := by
    intro v1_j48 s11_j48 H locs ls h hw hl
    unfold f11_move_j48 at h
    refine lv_aload_n hx hb dX11_move_48 rfl (lv_at hl 0 rfl) ?_
    refine lv_iload_n hx hb dX11_move_49 rfl (lv_at hl 1 rfl) ?_
    obtain ⟨q_50, h_50, h⟩ := bnd_e h
    have pg_50 := preG (av := [.ref (ad 0), .int v1_j48]) hK hw.1 hw.2.1 NM_keep NM_blind
    refine endV (mc := 0) (ms := 0) (va_runV (As := [.int v1_j48]) (rest := []) ⟨hx, hb, hml, hown, hts⟩ (m11_notes l D ad cy H.size s11_j48 v1_j48 q_50 h_50) (wX11_251 0 hts ⟨Nat.le_of_ble_eq_true rfl, Nat.le_of_ble_eq_true rfl⟩) ⟨pg_50.1, va_recv hK hw.1 (ci := 11) (q0 := 0) rfl eM_0, pg_50.2⟩ rfl rfl hl.1 rfl (lv_room (Nat.le_of_ble_eq_true rfl)) dX11_move_50 ⟨Nat.le_refl _, Nat.le_refl _⟩) hw.2.2 (afr_in hw.2.2) (fun H locs hw => ?_)
    refine lv_iconst (v := 1) hx hb dX11_move_53 (by decide) ?_
    have h := Option.some.inj h
    subst h
    rw [← hQ]
    exact retI hx hb hr hlk hw (narB (v := (1 : Int32)) (by decide)) dX11_move_54
  have hJ_15 : ∀ (s11_j15 : OS) (H : Heap) (locs : List Loc) (ls : Array Slot), f11_move_j15 s11_j15 = some r → Wd D (cellsM ad cy s11_j15) (Afr ad 66 s.heap.size) s.heap H locs → lv_has ls 3 [] → W p l e (rmL 3) s m ([.ref (ad 0), .int a1, .int a2] : List Value).toArray below meth c H locs 0 0 Q (F0 m 15 ls []) := by
    intro s11_j15 H locs ls h hw hl
    unfold f11_move_j15 at h
    refine lv_iconst (v := 0) hx hb dX11_move_15 (by decide) ?_
    have h := Option.some.inj h
    subst h
    rw [← hQ]
    exact retI hx hb hr hlk hw (narB (v := (0 : Int32)) (by decide)) dX11_move_16
  refine lv_aload_n hx hb dX11_move_0 rfl (lv_at hl 0 rfl) ?_
  refine lv_iload_n hx hb dX11_move_1 rfl (lv_at hl 1 rfl) ?_
  obtain ⟨q_2, h_2, h⟩ := bnd_e h
  have pg_2 := preG (av := [.ref (ad 0), .int a1]) hK hw.1 hw.2.1 NM_keep NM_blind
  refine endI (mc := 0) (ms := 0) (va_runV (As := [.int a1]) (rest := []) ⟨hx, hb, hml, hown, hts⟩ (m11_isThere l D ad cy H.size s11 a1 q_2 h_2) (wX11_263 2 hts ⟨Nat.le_of_ble_eq_true rfl, Nat.le_of_ble_eq_true rfl⟩) ⟨pg_2.1, va_recv hK hw.1 (ci := 11) (q0 := 0) rfl eM_0, pg_2.2⟩ rfl rfl hl.1 rfl (lv_room (Nat.le_of_ble_eq_true rfl)) dX11_move_2 ⟨Nat.le_refl _, Nat.le_refl _⟩) hw.2.2 (afr_in hw.2.2) (fun H locs hw => ?_)
  refine lv_if_eq (tgt := 15) hx hb dX11_move_5 (by decide) (fun c_5 => ?_) (fun c_5 => ?_)
  · have h := ite_t c_5 h
    exact hJ_15 s11 H locs ls h hw (lv_sub hl [] rfl)
  · have h := ite_f c_5 h
    refine lv_iload_n hx hb dX11_move_8 rfl (lv_at hl 2 rfl) ?_
    obtain ⟨q_9, h_9, h⟩ := bnd_e h
    have pg_9 := preG (av := [.int a2]) hK hw.1 hw.2.1 NM_keep NM_blind
    refine endI (mc := 0) (ms := 0) (va_runS (As := [.int a2]) (rest := []) ⟨hx, hb, hml, hown, hts⟩ (m11_isCabinet l D ad cy H.size s11 a2 q_9 h_9) (wX11_245 1 hts ⟨Nat.le_of_ble_eq_true rfl, Nat.le_of_ble_eq_true rfl⟩) pg_9 rfl rfl hl.1 rfl (lv_room (Nat.le_of_ble_eq_true rfl)) dX11_move_9 ⟨Nat.le_refl _, Nat.le_refl _⟩) hw.2.2 (afr_in hw.2.2) (fun H locs hw => ?_)
    refine lv_if_ne (tgt := 17) hx hb dX11_move_12 (by decide) (fun c_12 => ?_) (fun c_12 => ?_)
    · have h := ite_f c_12 h
      refine lv_aload_n hx hb dX11_move_17 rfl (lv_at hl 0 rfl) ?_
      refine gX11_26 hx hb hts hown hK hw dX11_move_18 ?_
      refine lv_iload_n hx hb dX11_move_21 rfl (lv_at hl 1 rfl) ?_
      refine lv_iload_n hx hb dX11_move_22 rfl (lv_at hl 2 rfl) ?_
      obtain ⟨hi_23, h⟩ := chk_e h
      obtain ⟨s11_23, e_23, h⟩ := nam_e h
      refine aM6 hx hb hK hw hi_23 e_23 dX11_move_23 (fun H locs hw => ?_)
      refine lv_aload_n hx hb dX11_move_24 rfl (lv_at hl 0 rfl) ?_
      refine gX11_35 hx hb hts hown hK hw dX11_move_25 ?_
      refine lv_iload_n hx hb dX11_move_28 rfl (lv_at hl 1 rfl) ?_
      obtain ⟨hi_29, h⟩ := chk_e h
      obtain ⟨y_29, e_29, h⟩ := nam_e h
      refine lM9 hx hb hK hw hi_29 e_29 dX11_move_29 ?_
      refine lv_if_ne (tgt := 48) hx hb dX11_move_30 (by decide) (fun c_30 => ?_) (fun c_30 => ?_)
      · have h := ite_f c_30 h
        exact hJ_48 a1 s11_23 H locs ls h hw (lv_sub hl [0, 1] rfl)
      · have h := ite_t c_30 h
        refine lv_aload_n hx hb dX11_move_33 rfl (lv_at hl 0 rfl) ?_
        refine gX11_23 hx hb hts hown hK hw dX11_move_34 ?_
        refine lv_iload_n hx hb dX11_move_37 rfl (lv_at hl 1 rfl) ?_
        refine lv_dup2_11 hx hb dX11_move_38 rfl rfl ?_
        obtain ⟨hi_39, h⟩ := chk_e h
        obtain ⟨y_39, e_39, h⟩ := nam_e h
        refine lM5 hx hb hK hw hi_39 e_39 dX11_move_39 ?_
        refine lv_aload_n hx hb dX11_move_40 rfl (lv_at hl 0 rfl) ?_
        refine gX11_39 hx hb hts hown hK hw dX11_move_41 ?_
        refine lv_iload_n hx hb dX11_move_44 rfl (lv_at hl 2 rfl) ?_
        obtain ⟨hi_45, h⟩ := chk_e h
        obtain ⟨y_45, e_45, h⟩ := nam_e h
        refine lM10 hx hb hK hw hi_45 e_45 dX11_move_45 ?_
        refine lv_ior hx hb dX11_move_46 ?_
        obtain ⟨hi_47, h⟩ := chk_e h
        obtain ⟨s11_47, e_47, h⟩ := nam_e h
        refine aM5 hx hb hK hw hi_47 e_47 dX11_move_47 (fun H locs hw => ?_)
        exact hJ_48 a1 s11_47 H locs ls h hw (lv_sub hl [0, 1] rfl)
    · have h := ite_t c_12 h
      exact hJ_15 s11 H locs ls h hw (lv_sub hl [] rfl)
theorem dX11_next_0 : decode cX11_next 0 = .ok (.iload_n 1, 1) := by decide +kernel
theorem dX11_next_1 : decode cX11_next 1 = .ok (.invokestatic 254, 3) := by decide +kernel
theorem dX11_next_4 : decode cX11_next 4 = .ok (.ifCond .eq 22, 3) := by decide +kernel
theorem dX11_next_7 : decode cX11_next 7 = .ok (.iload_n 2, 1) := by decide +kernel
theorem dX11_next_8 : decode cX11_next 8 = .ok (.invokestatic 248, 3) := by decide +kernel
theorem dX11_next_11 : decode cX11_next 11 = .ok (.ifCond .eq 15, 3) := by decide +kernel
theorem dX11_next_14 : decode cX11_next 14 = .ok (.iload_n 3, 1) := by decide +kernel
theorem dX11_next_15 : decode cX11_next 15 = .ok (.i2l, 1) := by decide +kernel
theorem dX11_next_16 : decode cX11_next 16 = .ok (.lconst 1, 1) := by decide +kernel
theorem dX11_next_17 : decode cX11_next 17 = .ok (.ldc2_w 257, 3) := by decide +kernel
theorem dX11_next_20 : decode cX11_next 20 = .ok (.invokestatic 215, 3) := by decide +kernel
theorem dX11_next_23 : decode cX11_next 23 = .ok (.ifCond .ne 5, 3) := by decide +kernel
theorem dX11_next_26 : decode cX11_next 26 = .ok (.iconst (-1), 1) := by decide +kernel
theorem dX11_next_27 : decode cX11_next 27 = .ok (.ireturn, 1) := by decide +kernel
theorem dX11_next_28 : decode cX11_next 28 = .ok (.iconst (-1), 1) := by decide +kernel
theorem dX11_next_29 : decode cX11_next 29 = .ok (.istore 4, 2) := by decide +kernel
theorem dX11_next_31 : decode cX11_next 31 = .ok (.iconst 0, 1) := by decide +kernel
theorem dX11_next_32 : decode cX11_next 32 = .ok (.istore 5, 2) := by decide +kernel
theorem dX11_next_34 : decode cX11_next 34 = .ok (.iload 5, 2) := by decide +kernel
theorem dX11_next_36 : decode cX11_next 36 = .ok (.aload_n 0, 1) := by decide +kernel
theorem dX11_next_37 : decode cX11_next 37 = .ok (.getfield 235, 3) := by decide +kernel
theorem dX11_next_40 : decode cX11_next 40 = .ok (.if_icmp .ge 118, 3) := by decide +kernel
theorem dX11_next_43 : decode cX11_next 43 = .ok (.aload_n 0, 1) := by decide +kernel
theorem dX11_next_44 : decode cX11_next 44 = .ok (.getfield 13, 3) := by decide +kernel
theorem dX11_next_47 : decode cX11_next 47 = .ok (.iload 5, 2) := by decide +kernel
theorem dX11_next_49 : decode cX11_next 49 = .ok (.iaload, 1) := by decide +kernel
theorem dX11_next_50 : decode cX11_next 50 = .ok (.iload_n 1, 1) := by decide +kernel
theorem dX11_next_51 : decode cX11_next 51 = .ok (.if_icmp .ne 101, 3) := by decide +kernel
theorem dX11_next_54 : decode cX11_next 54 = .ok (.aload_n 0, 1) := by decide +kernel
theorem dX11_next_55 : decode cX11_next 55 = .ok (.iload 5, 2) := by decide +kernel
theorem dX11_next_57 : decode cX11_next 57 = .ok (.invokevirtual 266, 3) := by decide +kernel
theorem dX11_next_60 : decode cX11_next 60 = .ok (.ifCond .eq 92, 3) := by decide +kernel
theorem dX11_next_63 : decode cX11_next 63 = .ok (.aload_n 0, 1) := by decide +kernel
theorem dX11_next_64 : decode cX11_next 64 = .ok (.getfield 23, 3) := by decide +kernel
theorem dX11_next_67 : decode cX11_next 67 = .ok (.iload 5, 2) := by decide +kernel
theorem dX11_next_69 : decode cX11_next 69 = .ok (.iaload, 1) := by decide +kernel
theorem dX11_next_70 : decode cX11_next 70 = .ok (.iload_n 2, 1) := by decide +kernel
theorem dX11_next_71 : decode cX11_next 71 = .ok (.iand, 1) := by decide +kernel
theorem dX11_next_72 : decode cX11_next 72 = .ok (.ifCond .ne 80, 3) := by decide +kernel
theorem dX11_next_75 : decode cX11_next 75 = .ok (.aload_n 0, 1) := by decide +kernel
theorem dX11_next_76 : decode cX11_next 76 = .ok (.getfield 20, 3) := by decide +kernel
theorem dX11_next_79 : decode cX11_next 79 = .ok (.iload 5, 2) := by decide +kernel
theorem dX11_next_81 : decode cX11_next 81 = .ok (.iaload, 1) := by decide +kernel
theorem dX11_next_82 : decode cX11_next 82 = .ok (.iload_n 3, 1) := by decide +kernel
theorem dX11_next_83 : decode cX11_next 83 = .ok (.if_icmp .ge 6, 3) := by decide +kernel
theorem dX11_next_86 : decode cX11_next 86 = .ok (.goto 66, 3) := by decide +kernel
theorem dX11_next_89 : decode cX11_next 89 = .ok (.iload 4, 2) := by decide +kernel
theorem dX11_next_91 : decode cX11_next 91 = .ok (.iconst (-1), 1) := by decide +kernel
theorem dX11_next_92 : decode cX11_next 92 = .ok (.if_icmp .eq 56, 3) := by decide +kernel
theorem dX11_next_95 : decode cX11_next 95 = .ok (.aload_n 0, 1) := by decide +kernel
theorem dX11_next_96 : decode cX11_next 96 = .ok (.getfield 23, 3) := by decide +kernel
theorem dX11_next_99 : decode cX11_next 99 = .ok (.iload 5, 2) := by decide +kernel
theorem dX11_next_101 : decode cX11_next 101 = .ok (.iaload, 1) := by decide +kernel
theorem dX11_next_102 : decode cX11_next 102 = .ok (.invokestatic 408, 3) := by decide +kernel
theorem dX11_next_105 : decode cX11_next 105 = .ok (.aload_n 0, 1) := by decide +kernel
theorem dX11_next_106 : decode cX11_next 106 = .ok (.getfield 23, 3) := by decide +kernel
theorem dX11_next_109 : decode cX11_next 109 = .ok (.iload 4, 2) := by decide +kernel
theorem dX11_next_111 : decode cX11_next 111 = .ok (.iaload, 1) := by decide +kernel
theorem dX11_next_112 : decode cX11_next 112 = .ok (.invokestatic 408, 3) := by decide +kernel
theorem dX11_next_115 : decode cX11_next 115 = .ok (.isub, 1) := by decide +kernel
theorem dX11_next_116 : decode cX11_next 116 = .ok (.istore 6, 2) := by decide +kernel
theorem dX11_next_118 : decode cX11_next 118 = .ok (.iload 6, 2) := by decide +kernel
theorem dX11_next_120 : decode cX11_next 120 = .ok (.ifCond .gt 32, 3) := by decide +kernel
theorem dX11_next_123 : decode cX11_next 123 = .ok (.iload 6, 2) := by decide +kernel
theorem dX11_next_125 : decode cX11_next 125 = .ok (.ifCond .ne 23, 3) := by decide +kernel
theorem dX11_next_128 : decode cX11_next 128 = .ok (.aload_n 0, 1) := by decide +kernel
theorem dX11_next_129 : decode cX11_next 129 = .ok (.getfield 20, 3) := by decide +kernel
theorem dX11_next_132 : decode cX11_next 132 = .ok (.iload 5, 2) := by decide +kernel
theorem dX11_next_134 : decode cX11_next 134 = .ok (.iaload, 1) := by decide +kernel
theorem dX11_next_135 : decode cX11_next 135 = .ok (.aload_n 0, 1) := by decide +kernel
theorem dX11_next_136 : decode cX11_next 136 = .ok (.getfield 20, 3) := by decide +kernel
theorem dX11_next_139 : decode cX11_next 139 = .ok (.iload 4, 2) := by decide +kernel
theorem dX11_next_141 : decode cX11_next 141 = .ok (.iaload, 1) := by decide +kernel
theorem dX11_next_142 : decode cX11_next 142 = .ok (.if_icmp .lt 6, 3) := by decide +kernel
theorem dX11_next_145 : decode cX11_next 145 = .ok (.goto 7, 3) := by decide +kernel
theorem dX11_next_148 : decode cX11_next 148 = .ok (.iload 5, 2) := by decide +kernel
theorem dX11_next_150 : decode cX11_next 150 = .ok (.istore 4, 2) := by decide +kernel
theorem dX11_next_152 : decode cX11_next 152 = .ok (.iinc 5 1, 3) := by decide +kernel
theorem dX11_next_155 : decode cX11_next 155 = .ok (.goto (-121), 3) := by decide +kernel
theorem dX11_next_158 : decode cX11_next 158 = .ok (.iload 4, 2) := by decide +kernel
theorem dX11_next_160 : decode cX11_next 160 = .ok (.ireturn, 1) := by decide +kernel
noncomputable def f11_next_j26 (s11_j26 : OS) : Option (Int32) := some ((-1 : Int32))
noncomputable def f11_next_j152 (v1_j152 : Int32) (v2_j152 : Int32) (v3_j152 : Int32) (v4_j152 : Int32) (v5_j152 : Int32) (s11_j152 : OS) : Option ((Int32 × Int32) ⊕ (Int32)) := nm (v5_j152 + (1 : Int32)) fun n_152 => some (Sum.inl (v4_j152, n_152))
noncomputable def f11_next_j148 (v1_j148 : Int32) (v2_j148 : Int32) (v3_j148 : Int32) (v5_j148 : Int32) (s11_j148 : OS) : Option ((Int32 × Int32) ⊕ (Int32)) := f11_next_j152 v1_j148 v2_j148 v3_j148 v5_j148 v5_j148 s11_j148
noncomputable def f11_next_l34 (v1_i34 : Int32) (v2_i34 : Int32) (v3_i34 : Int32) (s11_i34 : OS) : Int32 × Int32 → Option ((Int32 × Int32) ⊕ (Int32)) := fun t_34 => if (s11_i34.1 0 3) ≤ t_34.2 then (Option.map Sum.inr (some t_34.1)) else (chk (inb t_34.2 150) (nm (s11_i34.1 12 t_34.2.toNatClampNeg) fun y_49 => if y_49 = v1_i34 then (Option.bind (f11_isOpen t_34.2 s11_i34) fun q_57 => if q_57 = 0 then (f11_next_j152 v1_i34 v2_i34 v3_i34 t_34.1 t_34.2 s11_i34) else (chk (inb t_34.2 150) (nm (s11_i34.1 15 t_34.2.toNatClampNeg) fun y_69 => if (y_69 &&& v2_i34) = 0 then (chk (inb t_34.2 150) (nm (s11_i34.1 14 t_34.2.toNatClampNeg) fun y_81 => if v3_i34 ≤ y_81 then (if t_34.1 = (-1 : Int32) then (f11_next_j148 v1_i34 v2_i34 v3_i34 t_34.2 s11_i34) else (chk (inb t_34.2 150) (nm (s11_i34.1 15 t_34.2.toNatClampNeg) fun y_101 => Option.bind (f11_sizeOf y_101) fun q_102 => chk (inb t_34.1 150) (nm (s11_i34.1 15 t_34.1.toNatClampNeg) fun y_111 => Option.bind (f11_sizeOf y_111) fun q_112 => nm ((q_102 - q_112)) fun n_116 => if 0 < n_116 then (f11_next_j152 v1_i34 v2_i34 v3_i34 t_34.1 t_34.2 s11_i34) else (if n_116 = 0 then (chk (inb t_34.2 150) (nm (s11_i34.1 14 t_34.2.toNatClampNeg) fun y_134 => chk (inb t_34.1 150) (nm (s11_i34.1 14 t_34.1.toNatClampNeg) fun y_141 => if y_134 < y_141 then (f11_next_j148 v1_i34 v2_i34 v3_i34 t_34.2 s11_i34) else (f11_next_j152 v1_i34 v2_i34 v3_i34 t_34.1 t_34.2 s11_i34)))) else (f11_next_j148 v1_i34 v2_i34 v3_i34 t_34.2 s11_i34)))))) else (f11_next_j152 v1_i34 v2_i34 v3_i34 t_34.1 t_34.2 s11_i34))) else (f11_next_j152 v1_i34 v2_i34 v3_i34 t_34.1 t_34.2 s11_i34)))) else (f11_next_j152 v1_i34 v2_i34 v3_i34 t_34.1 t_34.2 s11_i34)))
noncomputable def f11_next (a1 : Int32) (a2 : Int32) (a3 : Int32) (s11 : OS) : Option (Int32) := Option.bind (f11_isKind a1) fun q_1 => if q_1 = 0 then (f11_next_j26 s11) else (Option.bind (f11_isBits a2) fun q_8 => if q_8 = 0 then (f11_next_j26 s11) else (Option.bind (f11_lies ((a3).toInt64) ((1 : Int64)) ((1000000000 : Int64))) fun q_20 => if q_20 = 0 then (f11_next_j26 s11) else (loop (f11_next_l34 a1 a2 a3 s11) ((-1 : Int32), (0 : Int32)))))
set_option maxHeartbeats 4000000 in
set_option maxRecDepth 100000 in
theorem m11_next (l : Launch) (D : va_G) (ad : Nat → Nat) (cy : Nat → ClassId) (sz : Nat) (s11 : OS) (a1 : Int32) (a2 : Int32) (a3 : Int32) (r : Int32) (h : f11_next a1 a2 a3 s11 = some r) : Met l yX11_next (wsOf yX11_next cX11_next 7 (some .int)) (rmL 4) (va_Pc ([.ref (ad 0), .int a1, .int a2, .int a3] : List Value) (PreG D cy (cellsM ad cy s11) sz NM)) (QcI D ad 66 (cellsM ad cy s11) (r) sz) 0 0 (Afr ad 66 sz) := by
  refine metG (own := RX11) (by decide) rfl (Nat.le_of_ble_eq_true rfl) fstM ?_ sz
  intro p e s m below meth c ls C0 hw hl
  obtain ⟨hx, hb, hml, hown, hts, hr, hlk, hK, hN⟩ := C0
  have hl : lv_has ls 7 [(0, .ref (ad 0)), (1, .int a1), (2, .int a2), (3, .int a3)] := hl
  generalize hQ : MQ below (QcI D ad 66 (cellsM ad cy s11) (r) s.heap.size) ([.ref (ad 0), .int a1, .int a2, .int a3] : List Value).toArray s 0 0 (Afr ad 66 s.heap.size) = Q
  obtain ⟨H, hH⟩ : ∃ H : Heap, H = s.heap := ⟨_, rfl⟩
  obtain ⟨locs, hlc⟩ : ∃ L : List Loc, L = [] := ⟨_, rfl⟩
  have hw : Wd D (cellsM ad cy s11) (Afr ad 66 s.heap.size) s.heap H locs := by rw [hH, hlc]; exact hw
  suffices h0 : W p l e (rmL 4) s m ([.ref (ad 0), .int a1, .int a2, .int a3] : List Value).toArray below meth c H locs 0 0 Q (F0 m 0 ls []) by rw [hH, hlc] at h0; exact h0
  clear hH hlc
  unfold f11_next at h
  have hJ_26 : ∀  (H : Heap) (locs : List Loc) (ls : Array Slot), f11_next_j26 s11 = some r → Wd D (cellsM ad cy s11) (Afr ad 66 s.heap.size) s.heap H locs → lv_has ls 7 [] → W p l e (rmL 4) s m ([.ref (ad 0), .int a1, .int a2, .int a3] : List Value).toArray below meth c H locs 0 0 Q (F0 m 26 ls []) := by
    intro  H locs ls h hw hl
    unfold f11_next_j26 at h
    refine lv_iconst (v := (-1)) hx hb dX11_next_26 (by decide) ?_
    have h := Option.some.inj h
    subst h
    rw [← hQ]
    exact retI hx hb hr hlk hw rfl dX11_next_27
  refine lv_iload_n hx hb dX11_next_0 rfl (lv_at hl 1 rfl) ?_
  obtain ⟨q_1, h_1, h⟩ := bnd_e h
  have pg_1 := preG (av := [.int a1]) hK hw.1 hw.2.1 NM_keep NM_blind
  refine endI (mc := 0) (ms := 0) (va_runS (As := [.int a1]) (rest := []) ⟨hx, hb, hml, hown, hts⟩ (m11_isKind l D ad cy H.size s11 a1 q_1 h_1) (wX11_254 1 hts ⟨Nat.le_of_ble_eq_true rfl, Nat.le_of_ble_eq_true rfl⟩) pg_1 rfl rfl hl.1 rfl (lv_room (Nat.le_of_ble_eq_true rfl)) dX11_next_1 ⟨Nat.le_refl _, Nat.le_refl _⟩) hw.2.2 (afr_in hw.2.2) (fun H locs hw => ?_)
  refine lv_if_eq (tgt := 26) hx hb dX11_next_4 (by decide) (fun c_4 => ?_) (fun c_4 => ?_)
  · have h := ite_t c_4 h
    exact hJ_26  H locs ls h hw (lv_sub hl [] rfl)
  · have h := ite_f c_4 h
    refine lv_iload_n hx hb dX11_next_7 rfl (lv_at hl 2 rfl) ?_
    obtain ⟨q_8, h_8, h⟩ := bnd_e h
    have pg_8 := preG (av := [.int a2]) hK hw.1 hw.2.1 NM_keep NM_blind
    refine endI (mc := 0) (ms := 0) (va_runS (As := [.int a2]) (rest := []) ⟨hx, hb, hml, hown, hts⟩ (m11_isBits l D ad cy H.size s11 a2 q_8 h_8) (wX11_248 1 hts ⟨Nat.le_of_ble_eq_true rfl, Nat.le_of_ble_eq_true rfl⟩) pg_8 rfl rfl hl.1 rfl (lv_room (Nat.le_of_ble_eq_true rfl)) dX11_next_8 ⟨Nat.le_refl _, Nat.le_refl _⟩) hw.2.2 (afr_in hw.2.2) (fun H locs hw => ?_)
    refine lv_if_eq (tgt := 26) hx hb dX11_next_11 (by decide) (fun c_11 => ?_) (fun c_11 => ?_)
    · have h := ite_t c_11 h
      exact hJ_26  H locs ls h hw (lv_sub hl [] rfl)
    · have h := ite_f c_11 h
      refine lv_iload_n hx hb dX11_next_14 rfl (lv_at hl 3 rfl) ?_
      refine lv_i2l hx hb dX11_next_15 rfl ?_
      refine lv_lconst (v := 1) hx hb dX11_next_16 (by decide) ?_
      refine lv_ldc2 (v := 1000000000) hx hb hown (hts _ (wd_7 (w := .constantLong RX11 257 1000000000) (i := 109) (by decide +kernel) rfl)) dX11_next_17 ?_
      obtain ⟨q_20, h_20, h⟩ := bnd_e h
      have pg_20 := preG (av := [.long ((a3).toInt64), .long ((1 : Int64)), .long ((1000000000 : Int64))]) hK hw.1 hw.2.1 NM_keep NM_blind
      refine endI (mc := 0) (ms := 0) (va_runS (As := [.long ((a3).toInt64), .long ((1 : Int64)), .long ((1000000000 : Int64))]) (rest := []) ⟨hx, hb, hml, hown, hts⟩ (m11_lies l D ad cy H.size s11 ((a3).toInt64) ((1 : Int64)) ((1000000000 : Int64)) q_20 h_20) (wX11_215 0 hts ⟨Nat.le_of_ble_eq_true rfl, Nat.le_of_ble_eq_true rfl⟩) pg_20 rfl rfl hl.1 rfl (lv_room (Nat.le_of_ble_eq_true rfl)) dX11_next_20 ⟨Nat.le_refl _, Nat.le_refl _⟩) hw.2.2 (afr_in hw.2.2) (fun H locs hw => ?_)
      refine lv_if_ne (tgt := 28) hx hb dX11_next_23 (by decide) (fun c_23 => ?_) (fun c_23 => ?_)
      · have h := ite_f c_23 h
        refine lv_iconst (v := (-1)) hx hb dX11_next_28 (by decide) ?_
        refine lv_istore (lv' := [(4, .int ((-1 : Int32))), (0, .ref (ad 0)), (1, .int a1), (2, .int a2), (3, .int a3)]) hx hb dX11_next_29 hl (by decide) rfl (fun ls hl => ?_)
        refine lv_iconst (v := 0) hx hb dX11_next_31 (by decide) ?_
        refine lv_istore (lv' := [(5, .int ((0 : Int32))), (4, .int ((-1 : Int32))), (0, .ref (ad 0)), (1, .int a1), (2, .int a2), (3, .int a3)]) hx hb dX11_next_32 hl (by decide) rfl (fun ls hl => ?_)
        obtain ⟨n_34, hn_34⟩ := loop_e h
        have hL_34 : ∀ (n : Nat) (t_34 : Int32 × Int32) (H : Heap) (locs : List Loc) (ls : Array Slot), loopN (f11_next_l34 a1 a2 a3 s11) n t_34 = some r → Wd D (cellsM ad cy s11) (Afr ad 66 s.heap.size) s.heap H locs → lv_has ls 7 [(4, .int t_34.1), (5, .int t_34.2), (1, .int a1), (2, .int a2), (3, .int a3), (0, .ref (ad 0))] → W p l e (rmL 4) s m ([.ref (ad 0), .int a1, .int a2, .int a3] : List Value).toArray below meth c H locs 0 0 Q (F0 m 34 ls []) := by
          intro n
          induction n with
          | zero => intro t_34 H locs ls hn; cases hn
          | succ n ih_34 =>
            intro t_34 H locs ls hn hw hl
            obtain ⟨x_34, h, hx_34⟩ := loopN_e hn
            unfold f11_next_l34 at h
            have hJ_152 : ∀ (v4_j152 : Int32) (v5_j152 : Int32) (H : Heap) (locs : List Loc) (ls : Array Slot), f11_next_j152 a1 a2 a3 v4_j152 v5_j152 s11 = some x_34 → Wd D (cellsM ad cy s11) (Afr ad 66 s.heap.size) s.heap H locs → lv_has ls 7 [(0, .ref (ad 0)), (1, .int a1), (2, .int a2), (3, .int a3), (4, .int v4_j152), (5, .int v5_j152)] → W p l e (rmL 4) s m ([.ref (ad 0), .int a1, .int a2, .int a3] : List Value).toArray below meth c H locs 0 0 Q (F0 m 152 ls []) := by
              intro v4_j152 v5_j152 H locs ls h hw hl
              unfold f11_next_j152 at h
              obtain ⟨n_152, e_152, h⟩ := nam_e h
              refine lv_iinc (v := n_152) (lv' := [(5, .int n_152), (0, .ref (ad 0)), (1, .int a1), (2, .int a2), (3, .int a3), (4, .int v4_j152)]) hx hb dX11_next_152 hl (k := 5) rfl (by rw [e_152]; rfl) (by decide) rfl (fun ls hl => ?_)
              refine lv_goto (tgt := 34) hx hb dX11_next_155 (by decide) ?_
              exact ih_34 (v4_j152, n_152) H locs ls (nx_l hx_34 h) hw (lv_sub hl [5, 0, 2, 3, 4, 1] rfl)
            have hJ_148 : ∀ (v5_j148 : Int32) (H : Heap) (locs : List Loc) (ls : Array Slot), f11_next_j148 a1 a2 a3 v5_j148 s11 = some x_34 → Wd D (cellsM ad cy s11) (Afr ad 66 s.heap.size) s.heap H locs → lv_has ls 7 [(0, .ref (ad 0)), (1, .int a1), (2, .int a2), (3, .int a3), (5, .int v5_j148)] → W p l e (rmL 4) s m ([.ref (ad 0), .int a1, .int a2, .int a3] : List Value).toArray below meth c H locs 0 0 Q (F0 m 148 ls []) := by
              intro v5_j148 H locs ls h hw hl
              unfold f11_next_j148 at h
              refine lv_iload hx hb dX11_next_148 (lv_at hl 4 rfl) ?_
              refine lv_istore (lv' := [(4, .int v5_j148), (0, .ref (ad 0)), (1, .int a1), (2, .int a2), (3, .int a3), (5, .int v5_j148)]) hx hb dX11_next_150 hl (by decide) rfl (fun ls hl => ?_)
              exact hJ_152 v5_j148 v5_j148 H locs ls h hw (lv_sub hl [1, 2, 3, 4, 0, 5] rfl)
            refine lv_iload hx hb dX11_next_34 (lv_at hl 1 rfl) ?_
            refine lv_aload_n hx hb dX11_next_36 rfl (lv_at hl 5 rfl) ?_
            refine gX11_235 hx hb hts hown hK hw dX11_next_37 ?_
            refine lv_icmp_ge (tgt := 158) hx hb dX11_next_40 (by decide) (fun c_40 => ?_) (fun c_40 => ?_)
            · have h := ite_t c_40 h
              have h := nx_m hx_34 h
              refine lv_iload hx hb dX11_next_158 (lv_at hl 0 rfl) ?_
              have h := Option.some.inj h
              subst h
              rw [← hQ]
              exact retI hx hb hr hlk hw rfl dX11_next_160
            · have h := ite_f c_40 h
              refine lv_aload_n hx hb dX11_next_43 rfl (lv_at hl 5 rfl) ?_
              refine gX11_13 hx hb hts hown hK hw dX11_next_44 ?_
              refine lv_iload hx hb dX11_next_47 (lv_at hl 1 rfl) ?_
              obtain ⟨hi_49, h⟩ := chk_e h
              obtain ⟨y_49, e_49, h⟩ := nam_e h
              refine lM2 hx hb hK hw hi_49 e_49 dX11_next_49 ?_
              refine lv_iload_n hx hb dX11_next_50 rfl (lv_at hl 2 rfl) ?_
              refine lv_icmp_ne (tgt := 152) hx hb dX11_next_51 (by decide) (fun c_51 => ?_) (fun c_51 => ?_)
              · have h := ite_f c_51 h
                exact hJ_152 t_34.1 t_34.2 H locs ls h hw (lv_sub hl [5, 2, 3, 4, 0, 1] rfl)
              · have h := ite_t c_51 h
                refine lv_aload_n hx hb dX11_next_54 rfl (lv_at hl 5 rfl) ?_
                refine lv_iload hx hb dX11_next_55 (lv_at hl 1 rfl) ?_
                obtain ⟨q_57, h_57, h⟩ := bnd_e h
                have pg_57 := preG (av := [.ref (ad 0), .int t_34.2]) hK hw.1 hw.2.1 NM_keep NM_blind
                refine endI (mc := 0) (ms := 0) (va_runV (As := [.int t_34.2]) (rest := []) ⟨hx, hb, hml, hown, hts⟩ (m11_isOpen l D ad cy H.size s11 t_34.2 q_57 h_57) (wX11_266 3 hts ⟨Nat.le_of_ble_eq_true rfl, Nat.le_of_ble_eq_true rfl⟩) ⟨pg_57.1, va_recv hK hw.1 (ci := 11) (q0 := 0) rfl eM_0, pg_57.2⟩ rfl rfl hl.1 rfl (lv_room (Nat.le_of_ble_eq_true rfl)) dX11_next_57 ⟨Nat.le_refl _, Nat.le_refl _⟩) hw.2.2 (afr_in hw.2.2) (fun H locs hw => ?_)
                refine lv_if_eq (tgt := 152) hx hb dX11_next_60 (by decide) (fun c_60 => ?_) (fun c_60 => ?_)
                · have h := ite_t c_60 h
                  exact hJ_152 t_34.1 t_34.2 H locs ls h hw (lv_sub hl [5, 2, 3, 4, 0, 1] rfl)
                · have h := ite_f c_60 h
                  refine lv_aload_n hx hb dX11_next_63 rfl (lv_at hl 5 rfl) ?_
                  refine gX11_23 hx hb hts hown hK hw dX11_next_64 ?_
                  refine lv_iload hx hb dX11_next_67 (lv_at hl 1 rfl) ?_
                  obtain ⟨hi_69, h⟩ := chk_e h
                  obtain ⟨y_69, e_69, h⟩ := nam_e h
                  refine lM5 hx hb hK hw hi_69 e_69 dX11_next_69 ?_
                  refine lv_iload_n hx hb dX11_next_70 rfl (lv_at hl 3 rfl) ?_
                  refine lv_iand hx hb dX11_next_71 ?_
                  refine lv_if_ne (tgt := 152) hx hb dX11_next_72 (by decide) (fun c_72 => ?_) (fun c_72 => ?_)
                  · have h := ite_f c_72 h
                    exact hJ_152 t_34.1 t_34.2 H locs ls h hw (lv_sub hl [5, 2, 3, 4, 0, 1] rfl)
                  · have h := ite_t c_72 h
                    refine lv_aload_n hx hb dX11_next_75 rfl (lv_at hl 5 rfl) ?_
                    refine gX11_20 hx hb hts hown hK hw dX11_next_76 ?_
                    refine lv_iload hx hb dX11_next_79 (lv_at hl 1 rfl) ?_
                    obtain ⟨hi_81, h⟩ := chk_e h
                    obtain ⟨y_81, e_81, h⟩ := nam_e h
                    refine lM4 hx hb hK hw hi_81 e_81 dX11_next_81 ?_
                    refine lv_iload_n hx hb dX11_next_82 rfl (lv_at hl 4 rfl) ?_
                    refine lv_icmp_ge (tgt := 89) hx hb dX11_next_83 (by decide) (fun c_83 => ?_) (fun c_83 => ?_)
                    · have h := ite_t c_83 h
                      refine lv_iload hx hb dX11_next_89 (lv_at hl 0 rfl) ?_
                      refine lv_iconst (v := (-1)) hx hb dX11_next_91 (by decide) ?_
                      refine lv_icmp_eq (tgt := 148) hx hb dX11_next_92 (by decide) (fun c_92 => ?_) (fun c_92 => ?_)
                      · have h := ite_t c_92 h
                        exact hJ_148 t_34.2 H locs ls h hw (lv_sub hl [5, 2, 3, 4, 1] rfl)
                      · have h := ite_f c_92 h
                        refine lv_aload_n hx hb dX11_next_95 rfl (lv_at hl 5 rfl) ?_
                        refine gX11_23 hx hb hts hown hK hw dX11_next_96 ?_
                        refine lv_iload hx hb dX11_next_99 (lv_at hl 1 rfl) ?_
                        obtain ⟨hi_101, h⟩ := chk_e h
                        obtain ⟨y_101, e_101, h⟩ := nam_e h
                        refine lM5 hx hb hK hw hi_101 e_101 dX11_next_101 ?_
                        obtain ⟨q_102, h_102, h⟩ := bnd_e h
                        have pg_102 := preG (av := [.int y_101]) hK hw.1 hw.2.1 NM_keep NM_blind
                        refine endI (mc := 0) (ms := 0) (va_runS (As := [.int y_101]) (rest := []) ⟨hx, hb, hml, hown, hts⟩ (m11_sizeOf l D ad cy H.size s11 y_101 q_102 h_102) (wX11_408 0 hts ⟨Nat.le_of_ble_eq_true rfl, Nat.le_of_ble_eq_true rfl⟩) pg_102 rfl rfl hl.1 rfl (lv_room (Nat.le_of_ble_eq_true rfl)) dX11_next_102 ⟨Nat.le_refl _, Nat.le_refl _⟩) hw.2.2 (afr_in hw.2.2) (fun H locs hw => ?_)
                        refine lv_aload_n hx hb dX11_next_105 rfl (lv_at hl 5 rfl) ?_
                        refine gX11_23 hx hb hts hown hK hw dX11_next_106 ?_
                        refine lv_iload hx hb dX11_next_109 (lv_at hl 0 rfl) ?_
                        obtain ⟨hi_111, h⟩ := chk_e h
                        obtain ⟨y_111, e_111, h⟩ := nam_e h
                        refine lM5 hx hb hK hw hi_111 e_111 dX11_next_111 ?_
                        obtain ⟨q_112, h_112, h⟩ := bnd_e h
                        have pg_112 := preG (av := [.int y_111]) hK hw.1 hw.2.1 NM_keep NM_blind
                        refine endI (mc := 0) (ms := 0) (va_runS (As := [.int y_111]) (rest := [.int q_102]) ⟨hx, hb, hml, hown, hts⟩ (m11_sizeOf l D ad cy H.size s11 y_111 q_112 h_112) (wX11_408 0 hts ⟨Nat.le_of_ble_eq_true rfl, Nat.le_of_ble_eq_true rfl⟩) pg_112 rfl rfl hl.1 rfl (lv_room (Nat.le_of_ble_eq_true rfl)) dX11_next_112 ⟨Nat.le_refl _, Nat.le_refl _⟩) hw.2.2 (afr_in hw.2.2) (fun H locs hw => ?_)
                        refine lv_isub hx hb dX11_next_115 ?_
                        obtain ⟨n_116, e_116, h⟩ := nam_e h
                        refine topI e_116 ?_
                        refine lv_istore (lv' := [(6, .int n_116), (4, .int t_34.1), (5, .int t_34.2), (1, .int a1), (2, .int a2), (3, .int a3), (0, .ref (ad 0))]) hx hb dX11_next_116 hl (by decide) rfl (fun ls hl => ?_)
                        refine lv_iload hx hb dX11_next_118 (lv_at hl 0 rfl) ?_
                        refine lv_if_gt (tgt := 152) hx hb dX11_next_120 (by decide) (fun c_120 => ?_) (fun c_120 => ?_)
                        · have h := ite_t c_120 h
                          exact hJ_152 t_34.1 t_34.2 H locs ls h hw (lv_sub hl [6, 3, 4, 5, 1, 2] rfl)
                        · have h := ite_f c_120 h
                          refine lv_iload hx hb dX11_next_123 (lv_at hl 0 rfl) ?_
                          refine lv_if_ne (tgt := 148) hx hb dX11_next_125 (by decide) (fun c_125 => ?_) (fun c_125 => ?_)
                          · have h := ite_f c_125 h
                            exact hJ_148 t_34.2 H locs ls h hw (lv_sub hl [6, 3, 4, 5, 2] rfl)
                          · have h := ite_t c_125 h
                            refine lv_aload_n hx hb dX11_next_128 rfl (lv_at hl 6 rfl) ?_
                            refine gX11_20 hx hb hts hown hK hw dX11_next_129 ?_
                            refine lv_iload hx hb dX11_next_132 (lv_at hl 2 rfl) ?_
                            obtain ⟨hi_134, h⟩ := chk_e h
                            obtain ⟨y_134, e_134, h⟩ := nam_e h
                            refine lM4 hx hb hK hw hi_134 e_134 dX11_next_134 ?_
                            refine lv_aload_n hx hb dX11_next_135 rfl (lv_at hl 6 rfl) ?_
                            refine gX11_20 hx hb hts hown hK hw dX11_next_136 ?_
                            refine lv_iload hx hb dX11_next_139 (lv_at hl 1 rfl) ?_
                            obtain ⟨hi_141, h⟩ := chk_e h
                            obtain ⟨y_141, e_141, h⟩ := nam_e h
                            refine lM4 hx hb hK hw hi_141 e_141 dX11_next_141 ?_
                            refine lv_icmp_lt (tgt := 148) hx hb dX11_next_142 (by decide) (fun c_142 => ?_) (fun c_142 => ?_)
                            · have h := ite_t c_142 h
                              exact hJ_148 t_34.2 H locs ls h hw (lv_sub hl [6, 3, 4, 5, 2] rfl)
                            · have h := ite_f c_142 h
                              refine lv_goto (tgt := 152) hx hb dX11_next_145 (by decide) ?_
                              exact hJ_152 t_34.1 t_34.2 H locs ls h hw (lv_sub hl [6, 3, 4, 5, 1, 2] rfl)
                    · have h := ite_f c_83 h
                      refine lv_goto (tgt := 152) hx hb dX11_next_86 (by decide) ?_
                      exact hJ_152 t_34.1 t_34.2 H locs ls h hw (lv_sub hl [5, 2, 3, 4, 0, 1] rfl)
        exact hL_34 n_34 ((-1 : Int32), (0 : Int32)) H locs ls hn_34 hw (lv_sub hl [1, 0, 3, 4, 5, 2] rfl)
      · have h := ite_t c_23 h
        exact hJ_26  H locs ls h hw (lv_sub hl [] rfl)
theorem dX11_now_0 : decode cX11_now 0 = .ok (.iload_n 1, 1) := by decide +kernel
theorem dX11_now_1 : decode cX11_now 1 = .ok (.i2l, 1) := by decide +kernel
theorem dX11_now_2 : decode cX11_now 2 = .ok (.aload_n 0, 1) := by decide +kernel
theorem dX11_now_3 : decode cX11_now 3 = .ok (.getfield 225, 3) := by decide +kernel
theorem dX11_now_6 : decode cX11_now 6 = .ok (.i2l, 1) := by decide +kernel
theorem dX11_now_7 : decode cX11_now 7 = .ok (.ldc2_w 213, 3) := by decide +kernel
theorem dX11_now_10 : decode cX11_now 10 = .ok (.invokestatic 215, 3) := by decide +kernel
theorem dX11_now_13 : decode cX11_now 13 = .ok (.ifCond .ne 5, 3) := by decide +kernel
theorem dX11_now_16 : decode cX11_now 16 = .ok (.iconst 0, 1) := by decide +kernel
theorem dX11_now_17 : decode cX11_now 17 = .ok (.ireturn, 1) := by decide +kernel
theorem dX11_now_18 : decode cX11_now 18 = .ok (.aload_n 0, 1) := by decide +kernel
theorem dX11_now_19 : decode cX11_now 19 = .ok (.iload_n 1, 1) := by decide +kernel
theorem dX11_now_20 : decode cX11_now 20 = .ok (.putfield 225, 3) := by decide +kernel
theorem dX11_now_23 : decode cX11_now 23 = .ok (.iconst 1, 1) := by decide +kernel
theorem dX11_now_24 : decode cX11_now 24 = .ok (.ireturn, 1) := by decide +kernel
def f11_now (a1 : Int32) (s11 : OS) : Option (Int32 × OS) := Option.bind (f11_lies ((a1).toInt64) (((s11.1 0 2)).toInt64) ((99999 : Int64))) fun q_10 => if q_10 = 0 then (some ((0 : Int32), s11)) else (nm (wI s11 0 2 a1) fun s11_20 => some ((1 : Int32), s11_20))
set_option maxHeartbeats 4000000 in
set_option maxRecDepth 100000 in
theorem m11_now (l : Launch) (D : va_G) (ad : Nat → Nat) (cy : Nat → ClassId) (sz : Nat) (s11 : OS) (a1 : Int32) (r : Int32 × OS) (h : f11_now a1 s11 = some r) : Met l yX11_now (wsOf yX11_now cX11_now 2 (some .boolean)) (rmL 1) (va_Pc ([.ref (ad 0), .int a1] : List Value) (PreG D cy (cellsM ad cy s11) sz NM)) (QcI D ad 66 (cellsM ad cy r.2) (r.1) sz) 0 0 (Afr ad 66 sz) := by
  refine metG (own := RX11) (by decide) rfl (Nat.le_of_ble_eq_true rfl) fstM ?_ sz
  intro p e s m below meth c ls C0 hw hl
  obtain ⟨hx, hb, hml, hown, hts, hr, hlk, hK, hN⟩ := C0
  have hl : lv_has ls 2 [(0, .ref (ad 0)), (1, .int a1)] := hl
  generalize hQ : MQ below (QcI D ad 66 (cellsM ad cy r.2) (r.1) s.heap.size) ([.ref (ad 0), .int a1] : List Value).toArray s 0 0 (Afr ad 66 s.heap.size) = Q
  obtain ⟨H, hH⟩ : ∃ H : Heap, H = s.heap := ⟨_, rfl⟩
  obtain ⟨locs, hlc⟩ : ∃ L : List Loc, L = [] := ⟨_, rfl⟩
  have hw : Wd D (cellsM ad cy s11) (Afr ad 66 s.heap.size) s.heap H locs := by rw [hH, hlc]; exact hw
  suffices h0 : W p l e (rmL 1) s m ([.ref (ad 0), .int a1] : List Value).toArray below meth c H locs 0 0 Q (F0 m 0 ls []) by rw [hH, hlc] at h0; exact h0
  clear hH hlc
  unfold f11_now at h
  refine lv_iload_n hx hb dX11_now_0 rfl (lv_at hl 1 rfl) ?_
  refine lv_i2l hx hb dX11_now_1 rfl ?_
  refine lv_aload_n hx hb dX11_now_2 rfl (lv_at hl 0 rfl) ?_
  refine gX11_225 hx hb hts hown hK hw dX11_now_3 ?_
  refine lv_i2l hx hb dX11_now_6 rfl ?_
  refine lv_ldc2 (v := 99999) hx hb hown (hts _ (wd_7 (w := .constantLong RX11 213 99999) (i := 77) (by decide +kernel) rfl)) dX11_now_7 ?_
  obtain ⟨q_10, h_10, h⟩ := bnd_e h
  have pg_10 := preG (av := [.long ((a1).toInt64), .long (((s11.1 0 2)).toInt64), .long ((99999 : Int64))]) hK hw.1 hw.2.1 NM_keep NM_blind
  refine endI (mc := 0) (ms := 0) (va_runS (As := [.long ((a1).toInt64), .long (((s11.1 0 2)).toInt64), .long ((99999 : Int64))]) (rest := []) ⟨hx, hb, hml, hown, hts⟩ (m11_lies l D ad cy H.size s11 ((a1).toInt64) (((s11.1 0 2)).toInt64) ((99999 : Int64)) q_10 h_10) (wX11_215 0 hts ⟨Nat.le_of_ble_eq_true rfl, Nat.le_of_ble_eq_true rfl⟩) pg_10 rfl rfl hl.1 rfl (lv_room (Nat.le_of_ble_eq_true rfl)) dX11_now_10 ⟨Nat.le_refl _, Nat.le_refl _⟩) hw.2.2 (afr_in hw.2.2) (fun H locs hw => ?_)
  refine lv_if_ne (tgt := 18) hx hb dX11_now_13 (by decide) (fun c_13 => ?_) (fun c_13 => ?_)
  · have h := ite_f c_13 h
    refine lv_aload_n hx hb dX11_now_18 rfl (lv_at hl 0 rfl) ?_
    refine lv_iload_n hx hb dX11_now_19 rfl (lv_at hl 1 rfl) ?_
    obtain ⟨s11_20, e_20, h⟩ := nam_e h
    refine pX11_225 hx hb hts hown hK hw e_20 dX11_now_20 (fun H locs hw => ?_)
    refine lv_iconst (v := 1) hx hb dX11_now_23 (by decide) ?_
    have h := Option.some.inj h
    subst h
    rw [← hQ]
    exact retI hx hb hr hlk hw (narB (v := (1 : Int32)) (by decide)) dX11_now_24
  · have h := ite_t c_13 h
    refine lv_iconst (v := 0) hx hb dX11_now_16 (by decide) ?_
    have h := Option.some.inj h
    subst h
    rw [← hQ]
    exact retI hx hb hr hlk hw (narB (v := (0 : Int32)) (by decide)) dX11_now_17
theorem dX11_open_0 : decode cX11_open 0 = .ok (.aload_n 0, 1) := by decide +kernel
theorem dX11_open_1 : decode cX11_open 1 = .ok (.iload_n 1, 1) := by decide +kernel
theorem dX11_open_2 : decode cX11_open 2 = .ok (.invokevirtual 263, 3) := by decide +kernel
theorem dX11_open_5 : decode cX11_open 5 = .ok (.ifCond .eq 12, 3) := by decide +kernel
theorem dX11_open_8 : decode cX11_open 8 = .ok (.aload_n 0, 1) := by decide +kernel
theorem dX11_open_9 : decode cX11_open 9 = .ok (.getfield 35, 3) := by decide +kernel
theorem dX11_open_12 : decode cX11_open 12 = .ok (.iload_n 1, 1) := by decide +kernel
theorem dX11_open_13 : decode cX11_open 13 = .ok (.baload, 1) := by decide +kernel
theorem dX11_open_14 : decode cX11_open 14 = .ok (.ifCond .ne 5, 3) := by decide +kernel
theorem dX11_open_17 : decode cX11_open 17 = .ok (.iconst 0, 1) := by decide +kernel
theorem dX11_open_18 : decode cX11_open 18 = .ok (.ireturn, 1) := by decide +kernel
theorem dX11_open_19 : decode cX11_open 19 = .ok (.aload_n 0, 1) := by decide +kernel
theorem dX11_open_20 : decode cX11_open 20 = .ok (.getfield 35, 3) := by decide +kernel
theorem dX11_open_23 : decode cX11_open 23 = .ok (.iload_n 1, 1) := by decide +kernel
theorem dX11_open_24 : decode cX11_open 24 = .ok (.iconst 0, 1) := by decide +kernel
theorem dX11_open_25 : decode cX11_open 25 = .ok (.bastore, 1) := by decide +kernel
theorem dX11_open_26 : decode cX11_open 26 = .ok (.aload_n 0, 1) := by decide +kernel
theorem dX11_open_27 : decode cX11_open 27 = .ok (.getfield 23, 3) := by decide +kernel
theorem dX11_open_30 : decode cX11_open 30 = .ok (.iload_n 1, 1) := by decide +kernel
theorem dX11_open_31 : decode cX11_open 31 = .ok (.dup2, 1) := by decide +kernel
theorem dX11_open_32 : decode cX11_open 32 = .ok (.iaload, 1) := by decide +kernel
theorem dX11_open_33 : decode cX11_open 33 = .ok (.aload_n 0, 1) := by decide +kernel
theorem dX11_open_34 : decode cX11_open 34 = .ok (.getfield 39, 3) := by decide +kernel
theorem dX11_open_37 : decode cX11_open 37 = .ok (.aload_n 0, 1) := by decide +kernel
theorem dX11_open_38 : decode cX11_open 38 = .ok (.getfield 26, 3) := by decide +kernel
theorem dX11_open_41 : decode cX11_open 41 = .ok (.iload_n 1, 1) := by decide +kernel
theorem dX11_open_42 : decode cX11_open 42 = .ok (.iaload, 1) := by decide +kernel
theorem dX11_open_43 : decode cX11_open 43 = .ok (.iaload, 1) := by decide +kernel
theorem dX11_open_44 : decode cX11_open 44 = .ok (.ior, 1) := by decide +kernel
theorem dX11_open_45 : decode cX11_open 45 = .ok (.iastore, 1) := by decide +kernel
theorem dX11_open_46 : decode cX11_open 46 = .ok (.aload_n 0, 1) := by decide +kernel
theorem dX11_open_47 : decode cX11_open 47 = .ok (.iload_n 1, 1) := by decide +kernel
theorem dX11_open_48 : decode cX11_open 48 = .ok (.invokevirtual 251, 3) := by decide +kernel
theorem dX11_open_51 : decode cX11_open 51 = .ok (.iconst 1, 1) := by decide +kernel
theorem dX11_open_52 : decode cX11_open 52 = .ok (.ireturn, 1) := by decide +kernel
def f11_open_j17 (s11_j17 : OS) : Option (Int32 × OS) := some ((0 : Int32), s11_j17)
def f11_open (a1 : Int32) (s11 : OS) : Option (Int32 × OS) := Option.bind (f11_isThere a1 s11) fun q_2 => if q_2 = 0 then (f11_open_j17 s11) else (chk (inb a1 150) (nm (s11.1 19 a1.toNatClampNeg) fun y_13 => if y_13 = 0 then (f11_open_j17 s11) else (chk (inb a1 150) (nm (wI s11 19 a1.toNatClampNeg (vp_nar .boolean ((0 : Int32)))) fun s11_25 => chk (inb a1 150) (nm (s11_25.1 15 a1.toNatClampNeg) fun y_32 => chk (inb a1 150) (nm (s11_25.1 16 a1.toNatClampNeg) fun y_42 => chk (inb y_42 10) (nm (s11_25.1 20 y_42.toNatClampNeg) fun y_43 => chk (inb a1 150) (nm (wI s11_25 15 a1.toNatClampNeg ((y_32 ||| y_43))) fun s11_45 => Option.bind (f11_notes a1 s11_45) fun q_48 => some ((1 : Int32), q_48)))))))))
set_option maxHeartbeats 4000000 in
set_option maxRecDepth 100000 in
theorem m11_open (l : Launch) (D : va_G) (ad : Nat → Nat) (cy : Nat → ClassId) (sz : Nat) (s11 : OS) (a1 : Int32) (r : Int32 × OS) (h : f11_open a1 s11 = some r) : Met l yX11_open (wsOf yX11_open cX11_open 2 (some .boolean)) (rmL 3) (va_Pc ([.ref (ad 0), .int a1] : List Value) (PreG D cy (cellsM ad cy s11) sz NM)) (QcI D ad 66 (cellsM ad cy r.2) (r.1) sz) 0 0 (Afr ad 66 sz) := by
  refine metG (own := RX11) (by decide) rfl (Nat.le_of_ble_eq_true rfl) fstM ?_ sz
  intro p e s m below meth c ls C0 hw hl
  obtain ⟨hx, hb, hml, hown, hts, hr, hlk, hK, hN⟩ := C0
  have hl : lv_has ls 2 [(0, .ref (ad 0)), (1, .int a1)] := hl
  generalize hQ : MQ below (QcI D ad 66 (cellsM ad cy r.2) (r.1) s.heap.size) ([.ref (ad 0), .int a1] : List Value).toArray s 0 0 (Afr ad 66 s.heap.size) = Q
  obtain ⟨H, hH⟩ : ∃ H : Heap, H = s.heap := ⟨_, rfl⟩
  obtain ⟨locs, hlc⟩ : ∃ L : List Loc, L = [] := ⟨_, rfl⟩
  have hw : Wd D (cellsM ad cy s11) (Afr ad 66 s.heap.size) s.heap H locs := by rw [hH, hlc]; exact hw
  suffices h0 : W p l e (rmL 3) s m ([.ref (ad 0), .int a1] : List Value).toArray below meth c H locs 0 0 Q (F0 m 0 ls []) by rw [hH, hlc] at h0; exact h0
  clear hH hlc
  unfold f11_open at h
  have hJ_17 : ∀ (s11_j17 : OS) (H : Heap) (locs : List Loc) (ls : Array Slot), f11_open_j17 s11_j17 = some r → Wd D (cellsM ad cy s11_j17) (Afr ad 66 s.heap.size) s.heap H locs → lv_has ls 2 [] → W p l e (rmL 3) s m ([.ref (ad 0), .int a1] : List Value).toArray below meth c H locs 0 0 Q (F0 m 17 ls []) := by
    intro s11_j17 H locs ls h hw hl
    unfold f11_open_j17 at h
    refine lv_iconst (v := 0) hx hb dX11_open_17 (by decide) ?_
    have h := Option.some.inj h
    subst h
    rw [← hQ]
    exact retI hx hb hr hlk hw (narB (v := (0 : Int32)) (by decide)) dX11_open_18
  refine lv_aload_n hx hb dX11_open_0 rfl (lv_at hl 0 rfl) ?_
  refine lv_iload_n hx hb dX11_open_1 rfl (lv_at hl 1 rfl) ?_
  obtain ⟨q_2, h_2, h⟩ := bnd_e h
  have pg_2 := preG (av := [.ref (ad 0), .int a1]) hK hw.1 hw.2.1 NM_keep NM_blind
  refine endI (mc := 0) (ms := 0) (va_runV (As := [.int a1]) (rest := []) ⟨hx, hb, hml, hown, hts⟩ (m11_isThere l D ad cy H.size s11 a1 q_2 h_2) (wX11_263 2 hts ⟨Nat.le_of_ble_eq_true rfl, Nat.le_of_ble_eq_true rfl⟩) ⟨pg_2.1, va_recv hK hw.1 (ci := 11) (q0 := 0) rfl eM_0, pg_2.2⟩ rfl rfl hl.1 rfl (lv_room (Nat.le_of_ble_eq_true rfl)) dX11_open_2 ⟨Nat.le_refl _, Nat.le_refl _⟩) hw.2.2 (afr_in hw.2.2) (fun H locs hw => ?_)
  refine lv_if_eq (tgt := 17) hx hb dX11_open_5 (by decide) (fun c_5 => ?_) (fun c_5 => ?_)
  · have h := ite_t c_5 h
    exact hJ_17 s11 H locs ls h hw (lv_sub hl [] rfl)
  · have h := ite_f c_5 h
    refine lv_aload_n hx hb dX11_open_8 rfl (lv_at hl 0 rfl) ?_
    refine gX11_35 hx hb hts hown hK hw dX11_open_9 ?_
    refine lv_iload_n hx hb dX11_open_12 rfl (lv_at hl 1 rfl) ?_
    obtain ⟨hi_13, h⟩ := chk_e h
    obtain ⟨y_13, e_13, h⟩ := nam_e h
    refine lM9 hx hb hK hw hi_13 e_13 dX11_open_13 ?_
    refine lv_if_ne (tgt := 19) hx hb dX11_open_14 (by decide) (fun c_14 => ?_) (fun c_14 => ?_)
    · have h := ite_f c_14 h
      refine lv_aload_n hx hb dX11_open_19 rfl (lv_at hl 0 rfl) ?_
      refine gX11_35 hx hb hts hown hK hw dX11_open_20 ?_
      refine lv_iload_n hx hb dX11_open_23 rfl (lv_at hl 1 rfl) ?_
      refine lv_iconst (v := 0) hx hb dX11_open_24 (by decide) ?_
      obtain ⟨hi_25, h⟩ := chk_e h
      obtain ⟨s11_25, e_25, h⟩ := nam_e h
      refine aM9 hx hb hK hw hi_25 e_25 dX11_open_25 (fun H locs hw => ?_)
      refine lv_aload_n hx hb dX11_open_26 rfl (lv_at hl 0 rfl) ?_
      refine gX11_23 hx hb hts hown hK hw dX11_open_27 ?_
      refine lv_iload_n hx hb dX11_open_30 rfl (lv_at hl 1 rfl) ?_
      refine lv_dup2_11 hx hb dX11_open_31 rfl rfl ?_
      obtain ⟨hi_32, h⟩ := chk_e h
      obtain ⟨y_32, e_32, h⟩ := nam_e h
      refine lM5 hx hb hK hw hi_32 e_32 dX11_open_32 ?_
      refine lv_aload_n hx hb dX11_open_33 rfl (lv_at hl 0 rfl) ?_
      refine gX11_39 hx hb hts hown hK hw dX11_open_34 ?_
      refine lv_aload_n hx hb dX11_open_37 rfl (lv_at hl 0 rfl) ?_
      refine gX11_26 hx hb hts hown hK hw dX11_open_38 ?_
      refine lv_iload_n hx hb dX11_open_41 rfl (lv_at hl 1 rfl) ?_
      obtain ⟨hi_42, h⟩ := chk_e h
      obtain ⟨y_42, e_42, h⟩ := nam_e h
      refine lM6 hx hb hK hw hi_42 e_42 dX11_open_42 ?_
      obtain ⟨hi_43, h⟩ := chk_e h
      obtain ⟨y_43, e_43, h⟩ := nam_e h
      refine lM10 hx hb hK hw hi_43 e_43 dX11_open_43 ?_
      refine lv_ior hx hb dX11_open_44 ?_
      obtain ⟨hi_45, h⟩ := chk_e h
      obtain ⟨s11_45, e_45, h⟩ := nam_e h
      refine aM5 hx hb hK hw hi_45 e_45 dX11_open_45 (fun H locs hw => ?_)
      refine lv_aload_n hx hb dX11_open_46 rfl (lv_at hl 0 rfl) ?_
      refine lv_iload_n hx hb dX11_open_47 rfl (lv_at hl 1 rfl) ?_
      obtain ⟨q_48, h_48, h⟩ := bnd_e h
      have pg_48 := preG (av := [.ref (ad 0), .int a1]) hK hw.1 hw.2.1 NM_keep NM_blind
      refine endV (mc := 0) (ms := 0) (va_runV (As := [.int a1]) (rest := []) ⟨hx, hb, hml, hown, hts⟩ (m11_notes l D ad cy H.size s11_45 a1 q_48 h_48) (wX11_251 0 hts ⟨Nat.le_of_ble_eq_true rfl, Nat.le_of_ble_eq_true rfl⟩) ⟨pg_48.1, va_recv hK hw.1 (ci := 11) (q0 := 0) rfl eM_0, pg_48.2⟩ rfl rfl hl.1 rfl (lv_room (Nat.le_of_ble_eq_true rfl)) dX11_open_48 ⟨Nat.le_refl _, Nat.le_refl _⟩) hw.2.2 (afr_in hw.2.2) (fun H locs hw => ?_)
      refine lv_iconst (v := 1) hx hb dX11_open_51 (by decide) ?_
      have h := Option.some.inj h
      subst h
      rw [← hQ]
      exact retI hx hb hr hlk hw (narB (v := (1 : Int32)) (by decide)) dX11_open_52
    · have h := ite_t c_14 h
      exact hJ_17 s11 H locs ls h hw (lv_sub hl [] rfl)
theorem dX11_piece_0 : decode cX11_piece 0 = .ok (.aload_n 0, 1) := by decide +kernel
theorem dX11_piece_1 : decode cX11_piece 1 = .ok (.iload_n 1, 1) := by decide +kernel
theorem dX11_piece_2 : decode cX11_piece 2 = .ok (.invokevirtual 238, 3) := by decide +kernel
theorem dX11_piece_5 : decode cX11_piece 5 = .ok (.ifCond .ne 5, 3) := by decide +kernel
theorem dX11_piece_8 : decode cX11_piece 8 = .ok (.iconst (-1), 1) := by decide +kernel
theorem dX11_piece_9 : decode cX11_piece 9 = .ok (.ireturn, 1) := by decide +kernel
theorem dX11_piece_10 : decode cX11_piece 10 = .ok (.iload_n 2, 1) := by decide +kernel
theorem dX11_piece_11 : decode cX11_piece 11 = .ok (.tableswitch 109 0 7 #[45, 52, 59, 66, 73, 80, 87, 94], 45) := by decide +kernel
theorem dX11_piece_56 : decode cX11_piece 56 = .ok (.aload_n 0, 1) := by decide +kernel
theorem dX11_piece_57 : decode cX11_piece 57 = .ok (.getfield 13, 3) := by decide +kernel
theorem dX11_piece_60 : decode cX11_piece 60 = .ok (.iload_n 1, 1) := by decide +kernel
theorem dX11_piece_61 : decode cX11_piece 61 = .ok (.iaload, 1) := by decide +kernel
theorem dX11_piece_62 : decode cX11_piece 62 = .ok (.ireturn, 1) := by decide +kernel
theorem dX11_piece_63 : decode cX11_piece 63 = .ok (.aload_n 0, 1) := by decide +kernel
theorem dX11_piece_64 : decode cX11_piece 64 = .ok (.getfield 17, 3) := by decide +kernel
theorem dX11_piece_67 : decode cX11_piece 67 = .ok (.iload_n 1, 1) := by decide +kernel
theorem dX11_piece_68 : decode cX11_piece 68 = .ok (.iaload, 1) := by decide +kernel
theorem dX11_piece_69 : decode cX11_piece 69 = .ok (.ireturn, 1) := by decide +kernel
theorem dX11_piece_70 : decode cX11_piece 70 = .ok (.aload_n 0, 1) := by decide +kernel
theorem dX11_piece_71 : decode cX11_piece 71 = .ok (.getfield 20, 3) := by decide +kernel
theorem dX11_piece_74 : decode cX11_piece 74 = .ok (.iload_n 1, 1) := by decide +kernel
theorem dX11_piece_75 : decode cX11_piece 75 = .ok (.iaload, 1) := by decide +kernel
theorem dX11_piece_76 : decode cX11_piece 76 = .ok (.ireturn, 1) := by decide +kernel
theorem dX11_piece_77 : decode cX11_piece 77 = .ok (.aload_n 0, 1) := by decide +kernel
theorem dX11_piece_78 : decode cX11_piece 78 = .ok (.getfield 23, 3) := by decide +kernel
theorem dX11_piece_81 : decode cX11_piece 81 = .ok (.iload_n 1, 1) := by decide +kernel
theorem dX11_piece_82 : decode cX11_piece 82 = .ok (.iaload, 1) := by decide +kernel
theorem dX11_piece_83 : decode cX11_piece 83 = .ok (.ireturn, 1) := by decide +kernel
theorem dX11_piece_84 : decode cX11_piece 84 = .ok (.aload_n 0, 1) := by decide +kernel
theorem dX11_piece_85 : decode cX11_piece 85 = .ok (.getfield 26, 3) := by decide +kernel
theorem dX11_piece_88 : decode cX11_piece 88 = .ok (.iload_n 1, 1) := by decide +kernel
theorem dX11_piece_89 : decode cX11_piece 89 = .ok (.iaload, 1) := by decide +kernel
theorem dX11_piece_90 : decode cX11_piece 90 = .ok (.ireturn, 1) := by decide +kernel
theorem dX11_piece_91 : decode cX11_piece 91 = .ok (.aload_n 0, 1) := by decide +kernel
theorem dX11_piece_92 : decode cX11_piece 92 = .ok (.getfield 29, 3) := by decide +kernel
theorem dX11_piece_95 : decode cX11_piece 95 = .ok (.iload_n 1, 1) := by decide +kernel
theorem dX11_piece_96 : decode cX11_piece 96 = .ok (.iaload, 1) := by decide +kernel
theorem dX11_piece_97 : decode cX11_piece 97 = .ok (.ireturn, 1) := by decide +kernel
theorem dX11_piece_98 : decode cX11_piece 98 = .ok (.aload_n 0, 1) := by decide +kernel
theorem dX11_piece_99 : decode cX11_piece 99 = .ok (.getfield 32, 3) := by decide +kernel
theorem dX11_piece_102 : decode cX11_piece 102 = .ok (.iload_n 1, 1) := by decide +kernel
theorem dX11_piece_103 : decode cX11_piece 103 = .ok (.iaload, 1) := by decide +kernel
theorem dX11_piece_104 : decode cX11_piece 104 = .ok (.ireturn, 1) := by decide +kernel
theorem dX11_piece_105 : decode cX11_piece 105 = .ok (.aload_n 0, 1) := by decide +kernel
theorem dX11_piece_106 : decode cX11_piece 106 = .ok (.getfield 35, 3) := by decide +kernel
theorem dX11_piece_109 : decode cX11_piece 109 = .ok (.iload_n 1, 1) := by decide +kernel
theorem dX11_piece_110 : decode cX11_piece 110 = .ok (.baload, 1) := by decide +kernel
theorem dX11_piece_111 : decode cX11_piece 111 = .ok (.ifCond .eq 7, 3) := by decide +kernel
theorem dX11_piece_114 : decode cX11_piece 114 = .ok (.iconst 1, 1) := by decide +kernel
theorem dX11_piece_115 : decode cX11_piece 115 = .ok (.goto 4, 3) := by decide +kernel
theorem dX11_piece_118 : decode cX11_piece 118 = .ok (.iconst 0, 1) := by decide +kernel
theorem dX11_piece_119 : decode cX11_piece 119 = .ok (.ireturn, 1) := by decide +kernel
theorem dX11_piece_120 : decode cX11_piece 120 = .ok (.iconst (-1), 1) := by decide +kernel
theorem dX11_piece_121 : decode cX11_piece 121 = .ok (.ireturn, 1) := by decide +kernel
def f11_piece_j119 (k0_j119 : Int32) (s11_j119 : OS) : Option (Int32) := some k0_j119
def f11_piece (a1 : Int32) (a2 : Int32) (s11 : OS) : Option (Int32) := Option.bind (f11_isPiece a1 s11) fun q_2 => if q_2 = 0 then (some ((-1 : Int32))) else (if a2 = 0 then (chk (inb a1 150) (nm (s11.1 12 a1.toNatClampNeg) fun y_61 => some y_61)) else if a2 = 1 then (chk (inb a1 150) (nm (s11.1 13 a1.toNatClampNeg) fun y_68 => some y_68)) else if a2 = 2 then (chk (inb a1 150) (nm (s11.1 14 a1.toNatClampNeg) fun y_75 => some y_75)) else if a2 = 3 then (chk (inb a1 150) (nm (s11.1 15 a1.toNatClampNeg) fun y_82 => some y_82)) else if a2 = 4 then (chk (inb a1 150) (nm (s11.1 16 a1.toNatClampNeg) fun y_89 => some y_89)) else if a2 = 5 then (chk (inb a1 150) (nm (s11.1 17 a1.toNatClampNeg) fun y_96 => some y_96)) else if a2 = 6 then (chk (inb a1 150) (nm (s11.1 18 a1.toNatClampNeg) fun y_103 => some y_103)) else if a2 = 7 then (chk (inb a1 150) (nm (s11.1 19 a1.toNatClampNeg) fun y_110 => if y_110 = 0 then (f11_piece_j119 ((0 : Int32)) s11) else (f11_piece_j119 ((1 : Int32)) s11))) else (some ((-1 : Int32))))
set_option maxHeartbeats 4000000 in
set_option maxRecDepth 100000 in
theorem m11_piece (l : Launch) (D : va_G) (ad : Nat → Nat) (cy : Nat → ClassId) (sz : Nat) (s11 : OS) (a1 : Int32) (a2 : Int32) (r : Int32) (h : f11_piece a1 a2 s11 = some r) : Met l yX11_piece (wsOf yX11_piece cX11_piece 3 (some .int)) (rmL 2) (va_Pc ([.ref (ad 0), .int a1, .int a2] : List Value) (PreG D cy (cellsM ad cy s11) sz NM)) (QcI D ad 66 (cellsM ad cy s11) (r) sz) 0 0 (Afr ad 66 sz) := by
  refine metG (own := RX11) (by decide) rfl (Nat.le_of_ble_eq_true rfl) fstM ?_ sz
  intro p e s m below meth c ls C0 hw hl
  obtain ⟨hx, hb, hml, hown, hts, hr, hlk, hK, hN⟩ := C0
  have hl : lv_has ls 3 [(0, .ref (ad 0)), (1, .int a1), (2, .int a2)] := hl
  generalize hQ : MQ below (QcI D ad 66 (cellsM ad cy s11) (r) s.heap.size) ([.ref (ad 0), .int a1, .int a2] : List Value).toArray s 0 0 (Afr ad 66 s.heap.size) = Q
  obtain ⟨H, hH⟩ : ∃ H : Heap, H = s.heap := ⟨_, rfl⟩
  obtain ⟨locs, hlc⟩ : ∃ L : List Loc, L = [] := ⟨_, rfl⟩
  have hw : Wd D (cellsM ad cy s11) (Afr ad 66 s.heap.size) s.heap H locs := by rw [hH, hlc]; exact hw
  suffices h0 : W p l e (rmL 2) s m ([.ref (ad 0), .int a1, .int a2] : List Value).toArray below meth c H locs 0 0 Q (F0 m 0 ls []) by rw [hH, hlc] at h0; exact h0
  clear hH hlc
  unfold f11_piece at h
  have hJ_119 : ∀ (k0_j119 : Int32) (H : Heap) (locs : List Loc) (ls : Array Slot), f11_piece_j119 k0_j119 s11 = some r → Wd D (cellsM ad cy s11) (Afr ad 66 s.heap.size) s.heap H locs → lv_has ls 3 [] → W p l e (rmL 2) s m ([.ref (ad 0), .int a1, .int a2] : List Value).toArray below meth c H locs 0 0 Q (F0 m 119 ls [.int k0_j119]) := by
    intro k0_j119 H locs ls h hw hl
    unfold f11_piece_j119 at h
    have h := Option.some.inj h
    subst h
    rw [← hQ]
    exact retI hx hb hr hlk hw rfl dX11_piece_119
  refine lv_aload_n hx hb dX11_piece_0 rfl (lv_at hl 0 rfl) ?_
  refine lv_iload_n hx hb dX11_piece_1 rfl (lv_at hl 1 rfl) ?_
  obtain ⟨q_2, h_2, h⟩ := bnd_e h
  have pg_2 := preG (av := [.ref (ad 0), .int a1]) hK hw.1 hw.2.1 NM_keep NM_blind
  refine endI (mc := 0) (ms := 0) (va_runV (As := [.int a1]) (rest := []) ⟨hx, hb, hml, hown, hts⟩ (m11_isPiece l D ad cy H.size s11 a1 q_2 h_2) (wX11_238 1 hts ⟨Nat.le_of_ble_eq_true rfl, Nat.le_of_ble_eq_true rfl⟩) ⟨pg_2.1, va_recv hK hw.1 (ci := 11) (q0 := 0) rfl eM_0, pg_2.2⟩ rfl rfl hl.1 rfl (lv_room (Nat.le_of_ble_eq_true rfl)) dX11_piece_2 ⟨Nat.le_refl _, Nat.le_refl _⟩) hw.2.2 (afr_in hw.2.2) (fun H locs hw => ?_)
  refine lv_if_ne (tgt := 10) hx hb dX11_piece_5 (by decide) (fun c_5 => ?_) (fun c_5 => ?_)
  · have h := ite_f c_5 h
    refine lv_iload_n hx hb dX11_piece_10 rfl (lv_at hl 2 rfl) ?_
    have q_11 : ∀ tgt : Nat, W p l e (rmL 2) s m ([.ref (ad 0), .int a1, .int a2] : List Value).toArray below meth c H locs 0 0 Q (F0 m tgt ls []) → W p l e (rmL 2) s m ([.ref (ad 0), .int a1, .int a2] : List Value).toArray below meth c H locs 0 0 Q (F0 m tgt ls []) := fun _ z => z
    by_cases c_11_0 : a2 = 0
    · have h := ite_t c_11_0 h
      refine lv_tableIn (off := 45) (tgt := 56) hx hb dX11_piece_11 (by rw [c_11_0]; decide) (by rw [c_11_0]; decide) (by rw [c_11_0]; rfl) (by decide) ?_
      refine lv_aload_n hx hb dX11_piece_56 rfl (lv_at hl 0 rfl) ?_
      refine gX11_13 hx hb hts hown hK hw dX11_piece_57 ?_
      refine lv_iload_n hx hb dX11_piece_60 rfl (lv_at hl 1 rfl) ?_
      obtain ⟨hi_61, h⟩ := chk_e h
      obtain ⟨y_61, e_61, h⟩ := nam_e h
      refine lM2 hx hb hK hw hi_61 e_61 dX11_piece_61 ?_
      have h := Option.some.inj h
      subst h
      rw [← hQ]
      exact retI hx hb hr hlk hw rfl dX11_piece_62
    have h := ite_f c_11_0 h
    by_cases c_11_1 : a2 = 1
    · have h := ite_t c_11_1 h
      refine lv_tableIn (off := 52) (tgt := 63) hx hb dX11_piece_11 (by rw [c_11_1]; decide) (by rw [c_11_1]; decide) (by rw [c_11_1]; rfl) (by decide) ?_
      refine lv_aload_n hx hb dX11_piece_63 rfl (lv_at hl 0 rfl) ?_
      refine gX11_17 hx hb hts hown hK hw dX11_piece_64 ?_
      refine lv_iload_n hx hb dX11_piece_67 rfl (lv_at hl 1 rfl) ?_
      obtain ⟨hi_68, h⟩ := chk_e h
      obtain ⟨y_68, e_68, h⟩ := nam_e h
      refine lM3 hx hb hK hw hi_68 e_68 dX11_piece_68 ?_
      have h := Option.some.inj h
      subst h
      rw [← hQ]
      exact retI hx hb hr hlk hw rfl dX11_piece_69
    have h := ite_f c_11_1 h
    by_cases c_11_2 : a2 = 2
    · have h := ite_t c_11_2 h
      refine lv_tableIn (off := 59) (tgt := 70) hx hb dX11_piece_11 (by rw [c_11_2]; decide) (by rw [c_11_2]; decide) (by rw [c_11_2]; rfl) (by decide) ?_
      refine lv_aload_n hx hb dX11_piece_70 rfl (lv_at hl 0 rfl) ?_
      refine gX11_20 hx hb hts hown hK hw dX11_piece_71 ?_
      refine lv_iload_n hx hb dX11_piece_74 rfl (lv_at hl 1 rfl) ?_
      obtain ⟨hi_75, h⟩ := chk_e h
      obtain ⟨y_75, e_75, h⟩ := nam_e h
      refine lM4 hx hb hK hw hi_75 e_75 dX11_piece_75 ?_
      have h := Option.some.inj h
      subst h
      rw [← hQ]
      exact retI hx hb hr hlk hw rfl dX11_piece_76
    have h := ite_f c_11_2 h
    by_cases c_11_3 : a2 = 3
    · have h := ite_t c_11_3 h
      refine lv_tableIn (off := 66) (tgt := 77) hx hb dX11_piece_11 (by rw [c_11_3]; decide) (by rw [c_11_3]; decide) (by rw [c_11_3]; rfl) (by decide) ?_
      refine lv_aload_n hx hb dX11_piece_77 rfl (lv_at hl 0 rfl) ?_
      refine gX11_23 hx hb hts hown hK hw dX11_piece_78 ?_
      refine lv_iload_n hx hb dX11_piece_81 rfl (lv_at hl 1 rfl) ?_
      obtain ⟨hi_82, h⟩ := chk_e h
      obtain ⟨y_82, e_82, h⟩ := nam_e h
      refine lM5 hx hb hK hw hi_82 e_82 dX11_piece_82 ?_
      have h := Option.some.inj h
      subst h
      rw [← hQ]
      exact retI hx hb hr hlk hw rfl dX11_piece_83
    have h := ite_f c_11_3 h
    by_cases c_11_4 : a2 = 4
    · have h := ite_t c_11_4 h
      refine lv_tableIn (off := 73) (tgt := 84) hx hb dX11_piece_11 (by rw [c_11_4]; decide) (by rw [c_11_4]; decide) (by rw [c_11_4]; rfl) (by decide) ?_
      refine lv_aload_n hx hb dX11_piece_84 rfl (lv_at hl 0 rfl) ?_
      refine gX11_26 hx hb hts hown hK hw dX11_piece_85 ?_
      refine lv_iload_n hx hb dX11_piece_88 rfl (lv_at hl 1 rfl) ?_
      obtain ⟨hi_89, h⟩ := chk_e h
      obtain ⟨y_89, e_89, h⟩ := nam_e h
      refine lM6 hx hb hK hw hi_89 e_89 dX11_piece_89 ?_
      have h := Option.some.inj h
      subst h
      rw [← hQ]
      exact retI hx hb hr hlk hw rfl dX11_piece_90
    have h := ite_f c_11_4 h
    by_cases c_11_5 : a2 = 5
    · have h := ite_t c_11_5 h
      refine lv_tableIn (off := 80) (tgt := 91) hx hb dX11_piece_11 (by rw [c_11_5]; decide) (by rw [c_11_5]; decide) (by rw [c_11_5]; rfl) (by decide) ?_
      refine lv_aload_n hx hb dX11_piece_91 rfl (lv_at hl 0 rfl) ?_
      refine gX11_29 hx hb hts hown hK hw dX11_piece_92 ?_
      refine lv_iload_n hx hb dX11_piece_95 rfl (lv_at hl 1 rfl) ?_
      obtain ⟨hi_96, h⟩ := chk_e h
      obtain ⟨y_96, e_96, h⟩ := nam_e h
      refine lM7 hx hb hK hw hi_96 e_96 dX11_piece_96 ?_
      have h := Option.some.inj h
      subst h
      rw [← hQ]
      exact retI hx hb hr hlk hw rfl dX11_piece_97
    have h := ite_f c_11_5 h
    by_cases c_11_6 : a2 = 6
    · have h := ite_t c_11_6 h
      refine lv_tableIn (off := 87) (tgt := 98) hx hb dX11_piece_11 (by rw [c_11_6]; decide) (by rw [c_11_6]; decide) (by rw [c_11_6]; rfl) (by decide) ?_
      refine lv_aload_n hx hb dX11_piece_98 rfl (lv_at hl 0 rfl) ?_
      refine gX11_32 hx hb hts hown hK hw dX11_piece_99 ?_
      refine lv_iload_n hx hb dX11_piece_102 rfl (lv_at hl 1 rfl) ?_
      obtain ⟨hi_103, h⟩ := chk_e h
      obtain ⟨y_103, e_103, h⟩ := nam_e h
      refine lM8 hx hb hK hw hi_103 e_103 dX11_piece_103 ?_
      have h := Option.some.inj h
      subst h
      rw [← hQ]
      exact retI hx hb hr hlk hw rfl dX11_piece_104
    have h := ite_f c_11_6 h
    by_cases c_11_7 : a2 = 7
    · have h := ite_t c_11_7 h
      refine lv_tableIn (off := 94) (tgt := 105) hx hb dX11_piece_11 (by rw [c_11_7]; decide) (by rw [c_11_7]; decide) (by rw [c_11_7]; rfl) (by decide) ?_
      refine lv_aload_n hx hb dX11_piece_105 rfl (lv_at hl 0 rfl) ?_
      refine gX11_35 hx hb hts hown hK hw dX11_piece_106 ?_
      refine lv_iload_n hx hb dX11_piece_109 rfl (lv_at hl 1 rfl) ?_
      obtain ⟨hi_110, h⟩ := chk_e h
      obtain ⟨y_110, e_110, h⟩ := nam_e h
      refine lM9 hx hb hK hw hi_110 e_110 dX11_piece_110 ?_
      refine lv_if_eq (tgt := 118) hx hb dX11_piece_111 (by decide) (fun c_111 => ?_) (fun c_111 => ?_)
      · have h := ite_t c_111 h
        refine lv_iconst (v := 0) hx hb dX11_piece_118 (by decide) ?_
        exact hJ_119 ((0 : Int32)) H locs ls h hw (lv_sub hl [] rfl)
      · have h := ite_f c_111 h
        refine lv_iconst (v := 1) hx hb dX11_piece_114 (by decide) ?_
        refine lv_goto (tgt := 119) hx hb dX11_piece_115 (by decide) ?_
        exact hJ_119 ((1 : Int32)) H locs ls h hw (lv_sub hl [] rfl)
    have h := ite_f c_11_7 h
    refine lv_tableOut (tgt := 120) hx hb dX11_piece_11 (by have := lv_neT c_11_0 (a := 0) rfl; have := lv_neT c_11_1 (a := 1) rfl; have := lv_neT c_11_2 (a := 2) rfl; have := lv_neT c_11_3 (a := 3) rfl; have := lv_neT c_11_4 (a := 4) rfl; have := lv_neT c_11_5 (a := 5) rfl; have := lv_neT c_11_6 (a := 6) rfl; have := lv_neT c_11_7 (a := 7) rfl; omega) (by decide) ?_
    refine lv_iconst (v := (-1)) hx hb dX11_piece_120 (by decide) ?_
    have h := Option.some.inj h
    subst h
    rw [← hQ]
    exact retI hx hb hr hlk hw rfl dX11_piece_121
  · have h := ite_t c_5 h
    refine lv_iconst (v := (-1)) hx hb dX11_piece_8 (by decide) ?_
    have h := Option.some.inj h
    subst h
    rw [← hQ]
    exact retI hx hb hr hlk hw rfl dX11_piece_9
theorem dX11_placeOf_0 : decode cX11_placeOf 0 = .ok (.iconst 0, 1) := by decide +kernel
theorem dX11_placeOf_1 : decode cX11_placeOf 1 = .ok (.istore_n 1, 1) := by decide +kernel
theorem dX11_placeOf_2 : decode cX11_placeOf 2 = .ok (.iload_n 0, 1) := by decide +kernel
theorem dX11_placeOf_3 : decode cX11_placeOf 3 = .ok (.iload_n 1, 1) := by decide +kernel
theorem dX11_placeOf_4 : decode cX11_placeOf 4 = .ok (.invokestatic 473, 3) := by decide +kernel
theorem dX11_placeOf_7 : decode cX11_placeOf 7 = .ok (.ifCond .ne 9, 3) := by decide +kernel
theorem dX11_placeOf_10 : decode cX11_placeOf 10 = .ok (.iinc 1 1, 3) := by decide +kernel
theorem dX11_placeOf_13 : decode cX11_placeOf 13 = .ok (.goto (-11), 3) := by decide +kernel
theorem dX11_placeOf_16 : decode cX11_placeOf 16 = .ok (.iload_n 1, 1) := by decide +kernel
theorem dX11_placeOf_17 : decode cX11_placeOf 17 = .ok (.ireturn, 1) := by decide +kernel
noncomputable def f11_placeOf_l2 (v0_i2 : Int32) : Int32 → Option ((Int32) ⊕ (Int32)) := fun t_2 => Option.bind (f11_has v0_i2 t_2) fun q_4 => if q_4 = 0 then (nm (t_2 + (1 : Int32)) fun n_10 => some (Sum.inl n_10)) else (Option.map Sum.inr (some t_2))
noncomputable def f11_placeOf (a0 : Int32) : Option (Int32) := loop (f11_placeOf_l2 a0) (0 : Int32)
set_option maxHeartbeats 4000000 in
set_option maxRecDepth 100000 in
theorem m11_placeOf (l : Launch) (D : va_G) (ad : Nat → Nat) (cy : Nat → ClassId) (sz : Nat) (s11 : OS) (a0 : Int32) (r : Int32) (h : f11_placeOf a0 = some r) : Met l yX11_placeOf (wsOf yX11_placeOf cX11_placeOf 2 (some .int)) (rmL 1) (va_Pc ([.int a0] : List Value) (PreG D cy (cellsM ad cy s11) sz NM)) (QcI D ad 66 (cellsM ad cy s11) (r) sz) 0 0 (Afr ad 66 sz) := by
  refine metG (own := RX11) (by decide) rfl (Nat.le_of_ble_eq_true rfl) fstM ?_ sz
  intro p e s m below meth c ls C0 hw hl
  obtain ⟨hx, hb, hml, hown, hts, hr, hlk, hK, hN⟩ := C0
  have hl : lv_has ls 2 [(0, .int a0)] := hl
  generalize hQ : MQ below (QcI D ad 66 (cellsM ad cy s11) (r) s.heap.size) ([.int a0] : List Value).toArray s 0 0 (Afr ad 66 s.heap.size) = Q
  obtain ⟨H, hH⟩ : ∃ H : Heap, H = s.heap := ⟨_, rfl⟩
  obtain ⟨locs, hlc⟩ : ∃ L : List Loc, L = [] := ⟨_, rfl⟩
  have hw : Wd D (cellsM ad cy s11) (Afr ad 66 s.heap.size) s.heap H locs := by rw [hH, hlc]; exact hw
  suffices h0 : W p l e (rmL 1) s m ([.int a0] : List Value).toArray below meth c H locs 0 0 Q (F0 m 0 ls []) by rw [hH, hlc] at h0; exact h0
  clear hH hlc
  unfold f11_placeOf at h
  refine lv_iconst (v := 0) hx hb dX11_placeOf_0 (by decide) ?_
  refine lv_istore_n (lv' := [(1, .int ((0 : Int32))), (0, .int a0)]) hx hb dX11_placeOf_1 rfl hl (by decide) rfl (fun ls hl => ?_)
  obtain ⟨n_2, hn_2⟩ := loop_e h
  have hL_2 : ∀ (n : Nat) (t_2 : Int32) (H : Heap) (locs : List Loc) (ls : Array Slot), loopN (f11_placeOf_l2 a0) n t_2 = some r → Wd D (cellsM ad cy s11) (Afr ad 66 s.heap.size) s.heap H locs → lv_has ls 2 [(1, .int t_2), (0, .int a0)] → W p l e (rmL 1) s m ([.int a0] : List Value).toArray below meth c H locs 0 0 Q (F0 m 2 ls []) := by
    intro n
    induction n with
    | zero => intro t_2 H locs ls hn; cases hn
    | succ n ih_2 =>
      intro t_2 H locs ls hn hw hl
      obtain ⟨x_2, h, hx_2⟩ := loopN_e hn
      unfold f11_placeOf_l2 at h
      refine lv_iload_n hx hb dX11_placeOf_2 rfl (lv_at hl 1 rfl) ?_
      refine lv_iload_n hx hb dX11_placeOf_3 rfl (lv_at hl 0 rfl) ?_
      obtain ⟨q_4, h_4, h⟩ := bnd_e h
      have pg_4 := preG (av := [.int a0, .int t_2]) hK hw.1 hw.2.1 NM_keep NM_blind
      refine endI (mc := 0) (ms := 0) (va_runS (As := [.int a0, .int t_2]) (rest := []) ⟨hx, hb, hml, hown, hts⟩ (m11_has l D ad cy H.size s11 a0 t_2 q_4 h_4) (wX11_473 0 hts ⟨Nat.le_of_ble_eq_true rfl, Nat.le_of_ble_eq_true rfl⟩) pg_4 rfl rfl hl.1 rfl (lv_room (Nat.le_of_ble_eq_true rfl)) dX11_placeOf_4 ⟨Nat.le_refl _, Nat.le_refl _⟩) hw.2.2 (afr_in hw.2.2) (fun H locs hw => ?_)
      refine lv_if_ne (tgt := 16) hx hb dX11_placeOf_7 (by decide) (fun c_7 => ?_) (fun c_7 => ?_)
      · have h := ite_f c_7 h
        have h := nx_m hx_2 h
        refine lv_iload_n hx hb dX11_placeOf_16 rfl (lv_at hl 0 rfl) ?_
        have h := Option.some.inj h
        subst h
        rw [← hQ]
        exact retI hx hb hr hlk hw rfl dX11_placeOf_17
      · have h := ite_t c_7 h
        obtain ⟨n_10, e_10, h⟩ := nam_e h
        refine lv_iinc (v := n_10) (lv' := [(1, .int n_10), (0, .int a0)]) hx hb dX11_placeOf_10 hl (k := 0) rfl (by rw [e_10]; rfl) (by decide) rfl (fun ls hl => ?_)
        refine lv_goto (tgt := 2) hx hb dX11_placeOf_13 (by decide) ?_
        exact ih_2 n_10 H locs ls (nx_l hx_2 h) hw (lv_sub hl [0, 1] rfl)
  exact hL_2 n_2 (0 : Int32) H locs ls hn_2 hw (lv_sub hl [0, 1] rfl)
theorem dX11_rules_0 : decode cX11_rules 0 = .ok (.aload_n 0, 1) := by decide +kernel
theorem dX11_rules_1 : decode cX11_rules 1 = .ok (.getfield 298, 3) := by decide +kernel
theorem dX11_rules_4 : decode cX11_rules 4 = .ok (.bipush 20, 2) := by decide +kernel
theorem dX11_rules_6 : decode cX11_rules 6 = .ok (.if_icmp .eq 42, 3) := by decide +kernel
theorem dX11_rules_9 : decode cX11_rules 9 = .ok (.iload_n 1, 1) := by decide +kernel
theorem dX11_rules_10 : decode cX11_rules 10 = .ok (.invokestatic 391, 3) := by decide +kernel
theorem dX11_rules_13 : decode cX11_rules 13 = .ok (.ifCond .eq 35, 3) := by decide +kernel
theorem dX11_rules_16 : decode cX11_rules 16 = .ok (.iload_n 2, 1) := by decide +kernel
theorem dX11_rules_17 : decode cX11_rules 17 = .ok (.invokestatic 391, 3) := by decide +kernel
theorem dX11_rules_20 : decode cX11_rules 20 = .ok (.ifCond .eq 28, 3) := by decide +kernel
theorem dX11_rules_23 : decode cX11_rules 23 = .ok (.iload_n 2, 1) := by decide +kernel
theorem dX11_rules_24 : decode cX11_rules 24 = .ok (.iload_n 1, 1) := by decide +kernel
theorem dX11_rules_25 : decode cX11_rules 25 = .ok (.if_icmp .lt 23, 3) := by decide +kernel
theorem dX11_rules_28 : decode cX11_rules 28 = .ok (.iload_n 3, 1) := by decide +kernel
theorem dX11_rules_29 : decode cX11_rules 29 = .ok (.i2l, 1) := by decide +kernel
theorem dX11_rules_30 : decode cX11_rules 30 = .ok (.lconst 1, 1) := by decide +kernel
theorem dX11_rules_31 : decode cX11_rules 31 = .ok (.ldc2_w 394, 3) := by decide +kernel
theorem dX11_rules_34 : decode cX11_rules 34 = .ok (.invokestatic 215, 3) := by decide +kernel
theorem dX11_rules_37 : decode cX11_rules 37 = .ok (.ifCond .eq 11, 3) := by decide +kernel
theorem dX11_rules_40 : decode cX11_rules 40 = .ok (.iload_n 3, 1) := by decide +kernel
theorem dX11_rules_41 : decode cX11_rules 41 = .ok (.aload_n 0, 1) := by decide +kernel
theorem dX11_rules_42 : decode cX11_rules 42 = .ok (.getfield 228, 3) := by decide +kernel
theorem dX11_rules_45 : decode cX11_rules 45 = .ok (.if_icmp .le 5, 3) := by decide +kernel
theorem dX11_rules_48 : decode cX11_rules 48 = .ok (.iconst (-1), 1) := by decide +kernel
theorem dX11_rules_49 : decode cX11_rules 49 = .ok (.ireturn, 1) := by decide +kernel
theorem dX11_rules_50 : decode cX11_rules 50 = .ok (.aload_n 0, 1) := by decide +kernel
theorem dX11_rules_51 : decode cX11_rules 51 = .ok (.iconst 0, 1) := by decide +kernel
theorem dX11_rules_52 : decode cX11_rules 52 = .ok (.putfield 228, 3) := by decide +kernel
theorem dX11_rules_55 : decode cX11_rules 55 = .ok (.aload_n 0, 1) := by decide +kernel
theorem dX11_rules_56 : decode cX11_rules 56 = .ok (.iconst 0, 1) := by decide +kernel
theorem dX11_rules_57 : decode cX11_rules 57 = .ok (.putfield 285, 3) := by decide +kernel
theorem dX11_rules_60 : decode cX11_rules 60 = .ok (.aload_n 0, 1) := by decide +kernel
theorem dX11_rules_61 : decode cX11_rules 61 = .ok (.iload_n 3, 1) := by decide +kernel
theorem dX11_rules_62 : decode cX11_rules 62 = .ok (.putfield 288, 3) := by decide +kernel
theorem dX11_rules_65 : decode cX11_rules 65 = .ok (.aload_n 0, 1) := by decide +kernel
theorem dX11_rules_66 : decode cX11_rules 66 = .ok (.iconst 0, 1) := by decide +kernel
theorem dX11_rules_67 : decode cX11_rules 67 = .ok (.putfield 291, 3) := by decide +kernel
theorem dX11_rules_70 : decode cX11_rules 70 = .ok (.aload_n 0, 1) := by decide +kernel
theorem dX11_rules_71 : decode cX11_rules 71 = .ok (.iconst 0, 1) := by decide +kernel
theorem dX11_rules_72 : decode cX11_rules 72 = .ok (.putfield 382, 3) := by decide +kernel
theorem dX11_rules_75 : decode cX11_rules 75 = .ok (.aload_n 0, 1) := by decide +kernel
theorem dX11_rules_76 : decode cX11_rules 76 = .ok (.iconst 0, 1) := by decide +kernel
theorem dX11_rules_77 : decode cX11_rules 77 = .ok (.putfield 301, 3) := by decide +kernel
theorem dX11_rules_80 : decode cX11_rules 80 = .ok (.iconst 1, 1) := by decide +kernel
theorem dX11_rules_81 : decode cX11_rules 81 = .ok (.istore 4, 2) := by decide +kernel
theorem dX11_rules_83 : decode cX11_rules 83 = .ok (.iload 4, 2) := by decide +kernel
theorem dX11_rules_85 : decode cX11_rules 85 = .ok (.ifCond .eq 53, 3) := by decide +kernel
theorem dX11_rules_88 : decode cX11_rules 88 = .ok (.aload_n 0, 1) := by decide +kernel
theorem dX11_rules_89 : decode cX11_rules 89 = .ok (.invokevirtual 294, 3) := by decide +kernel
theorem dX11_rules_92 : decode cX11_rules 92 = .ok (.ifCond .eq 46, 3) := by decide +kernel
theorem dX11_rules_95 : decode cX11_rules 95 = .ok (.aload_n 0, 1) := by decide +kernel
theorem dX11_rules_96 : decode cX11_rules 96 = .ok (.invokevirtual 396, 3) := by decide +kernel
theorem dX11_rules_99 : decode cX11_rules 99 = .ok (.aload_n 0, 1) := by decide +kernel
theorem dX11_rules_100 : decode cX11_rules 100 = .ok (.invokevirtual 294, 3) := by decide +kernel
theorem dX11_rules_103 : decode cX11_rules 103 = .ok (.ifCond .eq 18, 3) := by decide +kernel
theorem dX11_rules_106 : decode cX11_rules 106 = .ok (.aload_n 0, 1) := by decide +kernel
theorem dX11_rules_107 : decode cX11_rules 107 = .ok (.getfield 285, 3) := by decide +kernel
theorem dX11_rules_110 : decode cX11_rules 110 = .ok (.aload_n 0, 1) := by decide +kernel
theorem dX11_rules_111 : decode cX11_rules 111 = .ok (.getfield 288, 3) := by decide +kernel
theorem dX11_rules_114 : decode cX11_rules 114 = .ok (.if_icmp .ge 7, 3) := by decide +kernel
theorem dX11_rules_117 : decode cX11_rules 117 = .ok (.iconst 1, 1) := by decide +kernel
theorem dX11_rules_118 : decode cX11_rules 118 = .ok (.goto 4, 3) := by decide +kernel
theorem dX11_rules_121 : decode cX11_rules 121 = .ok (.iconst 0, 1) := by decide +kernel
theorem dX11_rules_122 : decode cX11_rules 122 = .ok (.istore 4, 2) := by decide +kernel
theorem dX11_rules_124 : decode cX11_rules 124 = .ok (.iload 4, 2) := by decide +kernel
theorem dX11_rules_126 : decode cX11_rules 126 = .ok (.ifCond .eq (-43), 3) := by decide +kernel
theorem dX11_rules_129 : decode cX11_rules 129 = .ok (.aload_n 0, 1) := by decide +kernel
theorem dX11_rules_130 : decode cX11_rules 130 = .ok (.bipush 59, 2) := by decide +kernel
theorem dX11_rules_132 : decode cX11_rules 132 = .ok (.invokevirtual 385, 3) := by decide +kernel
theorem dX11_rules_135 : decode cX11_rules 135 = .ok (.goto (-52), 3) := by decide +kernel
theorem dX11_rules_138 : decode cX11_rules 138 = .ok (.aload_n 0, 1) := by decide +kernel
theorem dX11_rules_139 : decode cX11_rules 139 = .ok (.getfield 291, 3) := by decide +kernel
theorem dX11_rules_142 : decode cX11_rules 142 = .ok (.ifCond .ge 8, 3) := by decide +kernel
theorem dX11_rules_145 : decode cX11_rules 145 = .ok (.aload_n 0, 1) := by decide +kernel
theorem dX11_rules_146 : decode cX11_rules 146 = .ok (.getfield 291, 3) := by decide +kernel
theorem dX11_rules_149 : decode cX11_rules 149 = .ok (.ireturn, 1) := by decide +kernel
theorem dX11_rules_150 : decode cX11_rules 150 = .ok (.aload_n 0, 1) := by decide +kernel
theorem dX11_rules_151 : decode cX11_rules 151 = .ok (.getfield 79, 3) := by decide +kernel
theorem dX11_rules_154 : decode cX11_rules 154 = .ok (.aload_n 0, 1) := by decide +kernel
theorem dX11_rules_155 : decode cX11_rules 155 = .ok (.getfield 298, 3) := by decide +kernel
theorem dX11_rules_158 : decode cX11_rules 158 = .ok (.iload_n 1, 1) := by decide +kernel
theorem dX11_rules_159 : decode cX11_rules 159 = .ok (.iastore, 1) := by decide +kernel
theorem dX11_rules_160 : decode cX11_rules 160 = .ok (.aload_n 0, 1) := by decide +kernel
theorem dX11_rules_161 : decode cX11_rules 161 = .ok (.getfield 82, 3) := by decide +kernel
theorem dX11_rules_164 : decode cX11_rules 164 = .ok (.aload_n 0, 1) := by decide +kernel
theorem dX11_rules_165 : decode cX11_rules 165 = .ok (.getfield 298, 3) := by decide +kernel
theorem dX11_rules_168 : decode cX11_rules 168 = .ok (.iload_n 2, 1) := by decide +kernel
theorem dX11_rules_169 : decode cX11_rules 169 = .ok (.iastore, 1) := by decide +kernel
theorem dX11_rules_170 : decode cX11_rules 170 = .ok (.aload_n 0, 1) := by decide +kernel
theorem dX11_rules_171 : decode cX11_rules 171 = .ok (.getfield 85, 3) := by decide +kernel
theorem dX11_rules_174 : decode cX11_rules 174 = .ok (.aload_n 0, 1) := by decide +kernel
theorem dX11_rules_175 : decode cX11_rules 175 = .ok (.getfield 298, 3) := by decide +kernel
theorem dX11_rules_178 : decode cX11_rules 178 = .ok (.aload_n 0, 1) := by decide +kernel
theorem dX11_rules_179 : decode cX11_rules 179 = .ok (.getfield 382, 3) := by decide +kernel
theorem dX11_rules_182 : decode cX11_rules 182 = .ok (.iastore, 1) := by decide +kernel
theorem dX11_rules_183 : decode cX11_rules 183 = .ok (.aload_n 0, 1) := by decide +kernel
theorem dX11_rules_184 : decode cX11_rules 184 = .ok (.dup, 1) := by decide +kernel
theorem dX11_rules_185 : decode cX11_rules 185 = .ok (.getfield 298, 3) := by decide +kernel
theorem dX11_rules_188 : decode cX11_rules 188 = .ok (.iconst 1, 1) := by decide +kernel
theorem dX11_rules_189 : decode cX11_rules 189 = .ok (.iadd, 1) := by decide +kernel
theorem dX11_rules_190 : decode cX11_rules 190 = .ok (.putfield 298, 3) := by decide +kernel
theorem dX11_rules_193 : decode cX11_rules 193 = .ok (.aload_n 0, 1) := by decide +kernel
theorem dX11_rules_194 : decode cX11_rules 194 = .ok (.getfield 298, 3) := by decide +kernel
theorem dX11_rules_197 : decode cX11_rules 197 = .ok (.iconst 1, 1) := by decide +kernel
theorem dX11_rules_198 : decode cX11_rules 198 = .ok (.isub, 1) := by decide +kernel
theorem dX11_rules_199 : decode cX11_rules 199 = .ok (.ireturn, 1) := by decide +kernel
noncomputable def f11_rules_j138 (v1_j138 : Int32) (v2_j138 : Int32) (s11_j138 : OS) : Option (Int32 × OS) := if 0 ≤ (s11_j138.1 0 45) then (chk (inb ((s11_j138.1 0 6)) 20) (nm (wI s11_j138 34 ((s11_j138.1 0 6)).toNatClampNeg v1_j138) fun s11_159 => chk (inb ((s11_159.1 0 6)) 20) (nm (wI s11_159 35 ((s11_159.1 0 6)).toNatClampNeg v2_j138) fun s11_169 => chk (inb ((s11_169.1 0 6)) 20) (nm (wI s11_169 36 ((s11_169.1 0 6)).toNatClampNeg ((s11_169.1 0 46))) fun s11_182 => nm (wI s11_182 0 6 (((s11_182.1 0 6) + (1 : Int32)))) fun s11_190 => some (((s11_190.1 0 6) - (1 : Int32)), s11_190))))) else (some ((s11_j138.1 0 45), s11_j138))
noncomputable def f11_rules_j48 (s11_j48 : OS) : Option (Int32 × OS) := some ((-1 : Int32), s11_j48)
noncomputable def f11_rules_j122 (v1_j122 : Int32) (v2_j122 : Int32) (k0_j122 : Int32) (s11_j122 : OS) : Option ((Int32 × OS) ⊕ (Int32 × OS)) := if k0_j122 = 0 then (some (Sum.inl (k0_j122, s11_j122))) else (Option.bind (f11_must ((59 : Int32)) s11_j122) fun q_132 => some (Sum.inl (k0_j122, q_132)))
noncomputable def f11_rules_j121 (v1_j121 : Int32) (v2_j121 : Int32) (s11_j121 : OS) : Option ((Int32 × OS) ⊕ (Int32 × OS)) := f11_rules_j122 v1_j121 v2_j121 ((0 : Int32)) s11_j121
noncomputable def f11_rules_l83 (v1_i83 : Int32) (v2_i83 : Int32) : Int32 × OS → Option ((Int32 × OS) ⊕ (Int32 × OS)) := fun t_83 => if t_83.1 = 0 then (Option.map Sum.inr (f11_rules_j138 v1_i83 v2_i83 t_83.2)) else (Option.bind (f11_isGood t_83.2) fun q_89 => if q_89 = 0 then (Option.map Sum.inr (f11_rules_j138 v1_i83 v2_i83 t_83.2)) else (Option.bind (f11_clause t_83.2) fun q_96 => Option.bind (f11_isGood q_96) fun q_100 => if q_100 = 0 then (f11_rules_j121 v1_i83 v2_i83 q_96) else (if (q_96.1 0 44) ≤ (q_96.1 0 43) then (f11_rules_j121 v1_i83 v2_i83 q_96) else (f11_rules_j122 v1_i83 v2_i83 ((1 : Int32)) q_96))))
noncomputable def f11_rules (a1 : Int32) (a2 : Int32) (a3 : Int32) (s11 : OS) : Option (Int32 × OS) := if (s11.1 0 6) = (20 : Int32) then (f11_rules_j48 s11) else (Option.bind (f11_isDay a1) fun q_10 => if q_10 = 0 then (f11_rules_j48 s11) else (Option.bind (f11_isDay a2) fun q_17 => if q_17 = 0 then (f11_rules_j48 s11) else (if a2 < a1 then (f11_rules_j48 s11) else (Option.bind (f11_lies ((a3).toInt64) ((1 : Int64)) ((160 : Int64))) fun q_34 => if q_34 = 0 then (f11_rules_j48 s11) else (if a3 ≤ (s11.1 0 1) then (nm (wI s11 0 1 ((0 : Int32))) fun s11_52 => nm (wI s11_52 0 43 ((0 : Int32))) fun s11_57 => nm (wI s11_57 0 44 a3) fun s11_62 => nm (wI s11_62 0 45 ((0 : Int32))) fun s11_67 => nm (wI s11_67 0 46 ((0 : Int32))) fun s11_72 => nm (wI s11_72 0 47 ((0 : Int32))) fun s11_77 => loop (f11_rules_l83 a1 a2) ((1 : Int32), s11_77)) else (f11_rules_j48 s11))))))
set_option maxHeartbeats 4000000 in
set_option maxRecDepth 100000 in
theorem m11_rules (l : Launch) (D : va_G) (ad : Nat → Nat) (cy : Nat → ClassId) (sz : Nat) (s11 : OS) (a1 : Int32) (a2 : Int32) (a3 : Int32) (r : Int32 × OS) (h : f11_rules a1 a2 a3 s11 = some r) : Met l yX11_rules (wsOf yX11_rules cX11_rules 5 (some .int)) (rmL 7) (va_Pc ([.ref (ad 0), .int a1, .int a2, .int a3] : List Value) (PreG D cy (cellsM ad cy s11) sz NM)) (QcI D ad 66 (cellsM ad cy r.2) (r.1) sz) 0 0 (Afr ad 66 sz) := by
  refine metG (own := RX11) (by decide) rfl (Nat.le_of_ble_eq_true rfl) fstM ?_ sz
  intro p e s m below meth c ls C0 hw hl
  obtain ⟨hx, hb, hml, hown, hts, hr, hlk, hK, hN⟩ := C0
  have hl : lv_has ls 5 [(0, .ref (ad 0)), (1, .int a1), (2, .int a2), (3, .int a3)] := hl
  generalize hQ : MQ below (QcI D ad 66 (cellsM ad cy r.2) (r.1) s.heap.size) ([.ref (ad 0), .int a1, .int a2, .int a3] : List Value).toArray s 0 0 (Afr ad 66 s.heap.size) = Q
  obtain ⟨H, hH⟩ : ∃ H : Heap, H = s.heap := ⟨_, rfl⟩
  obtain ⟨locs, hlc⟩ : ∃ L : List Loc, L = [] := ⟨_, rfl⟩
  have hw : Wd D (cellsM ad cy s11) (Afr ad 66 s.heap.size) s.heap H locs := by rw [hH, hlc]; exact hw
  suffices h0 : W p l e (rmL 7) s m ([.ref (ad 0), .int a1, .int a2, .int a3] : List Value).toArray below meth c H locs 0 0 Q (F0 m 0 ls []) by rw [hH, hlc] at h0; exact h0
  clear hH hlc
  unfold f11_rules at h
  have hJ_138 : ∀ (v1_j138 : Int32) (v2_j138 : Int32) (s11_j138 : OS) (H : Heap) (locs : List Loc) (ls : Array Slot), f11_rules_j138 v1_j138 v2_j138 s11_j138 = some r → Wd D (cellsM ad cy s11_j138) (Afr ad 66 s.heap.size) s.heap H locs → lv_has ls 5 [(0, .ref (ad 0)), (1, .int v1_j138), (2, .int v2_j138)] → W p l e (rmL 7) s m ([.ref (ad 0), .int a1, .int a2, .int a3] : List Value).toArray below meth c H locs 0 0 Q (F0 m 138 ls []) := by
    intro v1_j138 v2_j138 s11_j138 H locs ls h hw hl
    unfold f11_rules_j138 at h
    refine lv_aload_n hx hb dX11_rules_138 rfl (lv_at hl 0 rfl) ?_
    refine gX11_291 hx hb hts hown hK hw dX11_rules_139 ?_
    refine lv_if_ge (tgt := 150) hx hb dX11_rules_142 (by decide) (fun c_142 => ?_) (fun c_142 => ?_)
    · have h := ite_t c_142 h
      refine lv_aload_n hx hb dX11_rules_150 rfl (lv_at hl 0 rfl) ?_
      refine gX11_79 hx hb hts hown hK hw dX11_rules_151 ?_
      refine lv_aload_n hx hb dX11_rules_154 rfl (lv_at hl 0 rfl) ?_
      refine gX11_298 hx hb hts hown hK hw dX11_rules_155 ?_
      refine lv_iload_n hx hb dX11_rules_158 rfl (lv_at hl 1 rfl) ?_
      obtain ⟨hi_159, h⟩ := chk_e h
      obtain ⟨s11_159, e_159, h⟩ := nam_e h
      refine aM23 hx hb hK hw hi_159 e_159 dX11_rules_159 (fun H locs hw => ?_)
      refine lv_aload_n hx hb dX11_rules_160 rfl (lv_at hl 0 rfl) ?_
      refine gX11_82 hx hb hts hown hK hw dX11_rules_161 ?_
      refine lv_aload_n hx hb dX11_rules_164 rfl (lv_at hl 0 rfl) ?_
      refine gX11_298 hx hb hts hown hK hw dX11_rules_165 ?_
      refine lv_iload_n hx hb dX11_rules_168 rfl (lv_at hl 2 rfl) ?_
      obtain ⟨hi_169, h⟩ := chk_e h
      obtain ⟨s11_169, e_169, h⟩ := nam_e h
      refine aM24 hx hb hK hw hi_169 e_169 dX11_rules_169 (fun H locs hw => ?_)
      refine lv_aload_n hx hb dX11_rules_170 rfl (lv_at hl 0 rfl) ?_
      refine gX11_85 hx hb hts hown hK hw dX11_rules_171 ?_
      refine lv_aload_n hx hb dX11_rules_174 rfl (lv_at hl 0 rfl) ?_
      refine gX11_298 hx hb hts hown hK hw dX11_rules_175 ?_
      refine lv_aload_n hx hb dX11_rules_178 rfl (lv_at hl 0 rfl) ?_
      refine gX11_382 hx hb hts hown hK hw dX11_rules_179 ?_
      obtain ⟨hi_182, h⟩ := chk_e h
      obtain ⟨s11_182, e_182, h⟩ := nam_e h
      refine aM25 hx hb hK hw hi_182 e_182 dX11_rules_182 (fun H locs hw => ?_)
      refine lv_aload_n hx hb dX11_rules_183 rfl (lv_at hl 0 rfl) ?_
      refine lv_dup hx hb dX11_rules_184 rfl ?_
      refine gX11_298 hx hb hts hown hK hw dX11_rules_185 ?_
      refine lv_iconst (v := 1) hx hb dX11_rules_188 (by decide) ?_
      refine lv_iadd hx hb dX11_rules_189 ?_
      obtain ⟨s11_190, e_190, h⟩ := nam_e h
      refine pX11_298 hx hb hts hown hK hw e_190 dX11_rules_190 (fun H locs hw => ?_)
      refine lv_aload_n hx hb dX11_rules_193 rfl (lv_at hl 0 rfl) ?_
      refine gX11_298 hx hb hts hown hK hw dX11_rules_194 ?_
      refine lv_iconst (v := 1) hx hb dX11_rules_197 (by decide) ?_
      refine lv_isub hx hb dX11_rules_198 ?_
      have h := Option.some.inj h
      subst h
      rw [← hQ]
      exact retI hx hb hr hlk hw rfl dX11_rules_199
    · have h := ite_f c_142 h
      refine lv_aload_n hx hb dX11_rules_145 rfl (lv_at hl 0 rfl) ?_
      refine gX11_291 hx hb hts hown hK hw dX11_rules_146 ?_
      have h := Option.some.inj h
      subst h
      rw [← hQ]
      exact retI hx hb hr hlk hw rfl dX11_rules_149
  have hJ_48 : ∀ (s11_j48 : OS) (H : Heap) (locs : List Loc) (ls : Array Slot), f11_rules_j48 s11_j48 = some r → Wd D (cellsM ad cy s11_j48) (Afr ad 66 s.heap.size) s.heap H locs → lv_has ls 5 [] → W p l e (rmL 7) s m ([.ref (ad 0), .int a1, .int a2, .int a3] : List Value).toArray below meth c H locs 0 0 Q (F0 m 48 ls []) := by
    intro s11_j48 H locs ls h hw hl
    unfold f11_rules_j48 at h
    refine lv_iconst (v := (-1)) hx hb dX11_rules_48 (by decide) ?_
    have h := Option.some.inj h
    subst h
    rw [← hQ]
    exact retI hx hb hr hlk hw rfl dX11_rules_49
  refine lv_aload_n hx hb dX11_rules_0 rfl (lv_at hl 0 rfl) ?_
  refine gX11_298 hx hb hts hown hK hw dX11_rules_1 ?_
  refine lv_bipush (v := 20) hx hb dX11_rules_4 (by decide) ?_
  refine lv_icmp_eq (tgt := 48) hx hb dX11_rules_6 (by decide) (fun c_6 => ?_) (fun c_6 => ?_)
  · have h := ite_t c_6 h
    exact hJ_48 s11 H locs ls h hw (lv_sub hl [] rfl)
  · have h := ite_f c_6 h
    refine lv_iload_n hx hb dX11_rules_9 rfl (lv_at hl 1 rfl) ?_
    obtain ⟨q_10, h_10, h⟩ := bnd_e h
    have pg_10 := preG (av := [.int a1]) hK hw.1 hw.2.1 NM_keep NM_blind
    refine endI (mc := 0) (ms := 0) (va_runS (As := [.int a1]) (rest := []) ⟨hx, hb, hml, hown, hts⟩ (m11_isDay l D ad cy H.size s11 a1 q_10 h_10) (wX11_391 1 hts ⟨Nat.le_of_ble_eq_true rfl, Nat.le_of_ble_eq_true rfl⟩) pg_10 rfl rfl hl.1 rfl (lv_room (Nat.le_of_ble_eq_true rfl)) dX11_rules_10 ⟨Nat.le_refl _, Nat.le_refl _⟩) hw.2.2 (afr_in hw.2.2) (fun H locs hw => ?_)
    refine lv_if_eq (tgt := 48) hx hb dX11_rules_13 (by decide) (fun c_13 => ?_) (fun c_13 => ?_)
    · have h := ite_t c_13 h
      exact hJ_48 s11 H locs ls h hw (lv_sub hl [] rfl)
    · have h := ite_f c_13 h
      refine lv_iload_n hx hb dX11_rules_16 rfl (lv_at hl 2 rfl) ?_
      obtain ⟨q_17, h_17, h⟩ := bnd_e h
      have pg_17 := preG (av := [.int a2]) hK hw.1 hw.2.1 NM_keep NM_blind
      refine endI (mc := 0) (ms := 0) (va_runS (As := [.int a2]) (rest := []) ⟨hx, hb, hml, hown, hts⟩ (m11_isDay l D ad cy H.size s11 a2 q_17 h_17) (wX11_391 1 hts ⟨Nat.le_of_ble_eq_true rfl, Nat.le_of_ble_eq_true rfl⟩) pg_17 rfl rfl hl.1 rfl (lv_room (Nat.le_of_ble_eq_true rfl)) dX11_rules_17 ⟨Nat.le_refl _, Nat.le_refl _⟩) hw.2.2 (afr_in hw.2.2) (fun H locs hw => ?_)
      refine lv_if_eq (tgt := 48) hx hb dX11_rules_20 (by decide) (fun c_20 => ?_) (fun c_20 => ?_)
      · have h := ite_t c_20 h
        exact hJ_48 s11 H locs ls h hw (lv_sub hl [] rfl)
      · have h := ite_f c_20 h
        refine lv_iload_n hx hb dX11_rules_23 rfl (lv_at hl 2 rfl) ?_
        refine lv_iload_n hx hb dX11_rules_24 rfl (lv_at hl 1 rfl) ?_
        refine lv_icmp_lt (tgt := 48) hx hb dX11_rules_25 (by decide) (fun c_25 => ?_) (fun c_25 => ?_)
        · have h := ite_t c_25 h
          exact hJ_48 s11 H locs ls h hw (lv_sub hl [] rfl)
        · have h := ite_f c_25 h
          refine lv_iload_n hx hb dX11_rules_28 rfl (lv_at hl 3 rfl) ?_
          refine lv_i2l hx hb dX11_rules_29 rfl ?_
          refine lv_lconst (v := 1) hx hb dX11_rules_30 (by decide) ?_
          refine lv_ldc2 (v := 160) hx hb hown (hts _ (wd_7 (w := .constantLong RX11 394 160) (i := 176) (by decide +kernel) rfl)) dX11_rules_31 ?_
          obtain ⟨q_34, h_34, h⟩ := bnd_e h
          have pg_34 := preG (av := [.long ((a3).toInt64), .long ((1 : Int64)), .long ((160 : Int64))]) hK hw.1 hw.2.1 NM_keep NM_blind
          refine endI (mc := 0) (ms := 0) (va_runS (As := [.long ((a3).toInt64), .long ((1 : Int64)), .long ((160 : Int64))]) (rest := []) ⟨hx, hb, hml, hown, hts⟩ (m11_lies l D ad cy H.size s11 ((a3).toInt64) ((1 : Int64)) ((160 : Int64)) q_34 h_34) (wX11_215 0 hts ⟨Nat.le_of_ble_eq_true rfl, Nat.le_of_ble_eq_true rfl⟩) pg_34 rfl rfl hl.1 rfl (lv_room (Nat.le_of_ble_eq_true rfl)) dX11_rules_34 ⟨Nat.le_refl _, Nat.le_refl _⟩) hw.2.2 (afr_in hw.2.2) (fun H locs hw => ?_)
          refine lv_if_eq (tgt := 48) hx hb dX11_rules_37 (by decide) (fun c_37 => ?_) (fun c_37 => ?_)
          · have h := ite_t c_37 h
            exact hJ_48 s11 H locs ls h hw (lv_sub hl [] rfl)
          · have h := ite_f c_37 h
            refine lv_iload_n hx hb dX11_rules_40 rfl (lv_at hl 3 rfl) ?_
            refine lv_aload_n hx hb dX11_rules_41 rfl (lv_at hl 0 rfl) ?_
            refine gX11_228 hx hb hts hown hK hw dX11_rules_42 ?_
            refine lv_icmp_le (tgt := 50) hx hb dX11_rules_45 (by decide) (fun c_45 => ?_) (fun c_45 => ?_)
            · have h := ite_t c_45 h
              refine lv_aload_n hx hb dX11_rules_50 rfl (lv_at hl 0 rfl) ?_
              refine lv_iconst (v := 0) hx hb dX11_rules_51 (by decide) ?_
              obtain ⟨s11_52, e_52, h⟩ := nam_e h
              refine pX11_228 hx hb hts hown hK hw e_52 dX11_rules_52 (fun H locs hw => ?_)
              refine lv_aload_n hx hb dX11_rules_55 rfl (lv_at hl 0 rfl) ?_
              refine lv_iconst (v := 0) hx hb dX11_rules_56 (by decide) ?_
              obtain ⟨s11_57, e_57, h⟩ := nam_e h
              refine pX11_285 hx hb hts hown hK hw e_57 dX11_rules_57 (fun H locs hw => ?_)
              refine lv_aload_n hx hb dX11_rules_60 rfl (lv_at hl 0 rfl) ?_
              refine lv_iload_n hx hb dX11_rules_61 rfl (lv_at hl 3 rfl) ?_
              obtain ⟨s11_62, e_62, h⟩ := nam_e h
              refine pX11_288 hx hb hts hown hK hw e_62 dX11_rules_62 (fun H locs hw => ?_)
              refine lv_aload_n hx hb dX11_rules_65 rfl (lv_at hl 0 rfl) ?_
              refine lv_iconst (v := 0) hx hb dX11_rules_66 (by decide) ?_
              obtain ⟨s11_67, e_67, h⟩ := nam_e h
              refine pX11_291 hx hb hts hown hK hw e_67 dX11_rules_67 (fun H locs hw => ?_)
              refine lv_aload_n hx hb dX11_rules_70 rfl (lv_at hl 0 rfl) ?_
              refine lv_iconst (v := 0) hx hb dX11_rules_71 (by decide) ?_
              obtain ⟨s11_72, e_72, h⟩ := nam_e h
              refine pX11_382 hx hb hts hown hK hw e_72 dX11_rules_72 (fun H locs hw => ?_)
              refine lv_aload_n hx hb dX11_rules_75 rfl (lv_at hl 0 rfl) ?_
              refine lv_iconst (v := 0) hx hb dX11_rules_76 (by decide) ?_
              obtain ⟨s11_77, e_77, h⟩ := nam_e h
              refine pX11_301 hx hb hts hown hK hw e_77 dX11_rules_77 (fun H locs hw => ?_)
              refine lv_iconst (v := 1) hx hb dX11_rules_80 (by decide) ?_
              refine lv_istore (lv' := [(4, .int ((1 : Int32))), (0, .ref (ad 0)), (1, .int a1), (2, .int a2), (3, .int a3)]) hx hb dX11_rules_81 hl (by decide) rfl (fun ls hl => ?_)
              obtain ⟨n_83, hn_83⟩ := loop_e h
              have hL_83 : ∀ (n : Nat) (t_83 : Int32 × OS) (H : Heap) (locs : List Loc) (ls : Array Slot), loopN (f11_rules_l83 a1 a2) n t_83 = some r → Wd D (cellsM ad cy t_83.2) (Afr ad 66 s.heap.size) s.heap H locs → lv_has ls 5 [(4, .int t_83.1), (1, .int a1), (2, .int a2), (0, .ref (ad 0))] → W p l e (rmL 7) s m ([.ref (ad 0), .int a1, .int a2, .int a3] : List Value).toArray below meth c H locs 0 0 Q (F0 m 83 ls []) := by
                intro n
                induction n with
                | zero => intro t_83 H locs ls hn; cases hn
                | succ n ih_83 =>
                  intro t_83 H locs ls hn hw hl
                  obtain ⟨x_83, h, hx_83⟩ := loopN_e hn
                  unfold f11_rules_l83 at h
                  have hJ_122 : ∀ (k0_j122 : Int32) (s11_j122 : OS) (H : Heap) (locs : List Loc) (ls : Array Slot), f11_rules_j122 a1 a2 k0_j122 s11_j122 = some x_83 → Wd D (cellsM ad cy s11_j122) (Afr ad 66 s.heap.size) s.heap H locs → lv_has ls 5 [(0, .ref (ad 0)), (1, .int a1), (2, .int a2)] → W p l e (rmL 7) s m ([.ref (ad 0), .int a1, .int a2, .int a3] : List Value).toArray below meth c H locs 0 0 Q (F0 m 122 ls [.int k0_j122]) := by
                    intro k0_j122 s11_j122 H locs ls h hw hl
                    unfold f11_rules_j122 at h
                    refine lv_istore (lv' := [(4, .int k0_j122), (0, .ref (ad 0)), (1, .int a1), (2, .int a2)]) hx hb dX11_rules_122 hl (by decide) rfl (fun ls hl => ?_)
                    refine lv_iload hx hb dX11_rules_124 (lv_at hl 0 rfl) ?_
                    refine lv_if_eq (tgt := 83) hx hb dX11_rules_126 (by decide) (fun c_126 => ?_) (fun c_126 => ?_)
                    · have h := ite_t c_126 h
                      exact ih_83 (k0_j122, s11_j122) H locs ls (nx_l hx_83 h) hw (lv_sub hl [0, 2, 3, 1] rfl)
                    · have h := ite_f c_126 h
                      refine lv_aload_n hx hb dX11_rules_129 rfl (lv_at hl 1 rfl) ?_
                      refine lv_bipush (v := 59) hx hb dX11_rules_130 (by decide) ?_
                      obtain ⟨q_132, h_132, h⟩ := bnd_e h
                      have pg_132 := preG (av := [.ref (ad 0), .int ((59 : Int32))]) hK hw.1 hw.2.1 NM_keep NM_blind
                      refine endV (mc := 0) (ms := 0) (va_runV (As := [.int ((59 : Int32))]) (rest := []) ⟨hx, hb, hml, hown, hts⟩ (m11_must l D ad cy H.size s11_j122 ((59 : Int32)) q_132 h_132) (wX11_385 1 hts ⟨Nat.le_of_ble_eq_true rfl, Nat.le_of_ble_eq_true rfl⟩) ⟨pg_132.1, va_recv hK hw.1 (ci := 11) (q0 := 0) rfl eM_0, pg_132.2⟩ rfl rfl hl.1 rfl (lv_room (Nat.le_of_ble_eq_true rfl)) dX11_rules_132 ⟨Nat.le_refl _, Nat.le_refl _⟩) hw.2.2 (afr_in hw.2.2) (fun H locs hw => ?_)
                      refine lv_goto (tgt := 83) hx hb dX11_rules_135 (by decide) ?_
                      exact ih_83 (k0_j122, q_132) H locs ls (nx_l hx_83 h) hw (lv_sub hl [0, 2, 3, 1] rfl)
                  have hJ_121 : ∀ (s11_j121 : OS) (H : Heap) (locs : List Loc) (ls : Array Slot), f11_rules_j121 a1 a2 s11_j121 = some x_83 → Wd D (cellsM ad cy s11_j121) (Afr ad 66 s.heap.size) s.heap H locs → lv_has ls 5 [(0, .ref (ad 0)), (1, .int a1), (2, .int a2)] → W p l e (rmL 7) s m ([.ref (ad 0), .int a1, .int a2, .int a3] : List Value).toArray below meth c H locs 0 0 Q (F0 m 121 ls []) := by
                    intro s11_j121 H locs ls h hw hl
                    unfold f11_rules_j121 at h
                    refine lv_iconst (v := 0) hx hb dX11_rules_121 (by decide) ?_
                    exact hJ_122 ((0 : Int32)) s11_j121 H locs ls h hw (lv_sub hl [0, 1, 2] rfl)
                  refine lv_iload hx hb dX11_rules_83 (lv_at hl 0 rfl) ?_
                  refine lv_if_eq (tgt := 138) hx hb dX11_rules_85 (by decide) (fun c_85 => ?_) (fun c_85 => ?_)
                  · have h := ite_t c_85 h
                    have h := nx_m hx_83 h
                    exact hJ_138 a1 a2 t_83.2 H locs ls h hw (lv_sub hl [3, 1, 2] rfl)
                  · have h := ite_f c_85 h
                    refine lv_aload_n hx hb dX11_rules_88 rfl (lv_at hl 3 rfl) ?_
                    obtain ⟨q_89, h_89, h⟩ := bnd_e h
                    have pg_89 := preG (av := [.ref (ad 0)]) hK hw.1 hw.2.1 NM_keep NM_blind
                    refine endI (mc := 0) (ms := 0) (va_runV (As := []) (rest := []) ⟨hx, hb, hml, hown, hts⟩ (m11_isGood l D ad cy H.size t_83.2 q_89 h_89) (wX11_294 0 hts ⟨Nat.le_of_ble_eq_true rfl, Nat.le_of_ble_eq_true rfl⟩) ⟨pg_89.1, va_recv hK hw.1 (ci := 11) (q0 := 0) rfl eM_0, pg_89.2⟩ rfl rfl hl.1 rfl (lv_room (Nat.le_of_ble_eq_true rfl)) dX11_rules_89 ⟨Nat.le_refl _, Nat.le_refl _⟩) hw.2.2 (afr_in hw.2.2) (fun H locs hw => ?_)
                    refine lv_if_eq (tgt := 138) hx hb dX11_rules_92 (by decide) (fun c_92 => ?_) (fun c_92 => ?_)
                    · have h := ite_t c_92 h
                      have h := nx_m hx_83 h
                      exact hJ_138 a1 a2 t_83.2 H locs ls h hw (lv_sub hl [3, 1, 2] rfl)
                    · have h := ite_f c_92 h
                      refine lv_aload_n hx hb dX11_rules_95 rfl (lv_at hl 3 rfl) ?_
                      obtain ⟨q_96, h_96, h⟩ := bnd_e h
                      have pg_96 := preG (av := [.ref (ad 0)]) hK hw.1 hw.2.1 NM_keep NM_blind
                      refine endV (mc := 0) (ms := 0) (va_runV (As := []) (rest := []) ⟨hx, hb, hml, hown, hts⟩ (m11_clause l D ad cy H.size t_83.2 q_96 h_96) (wX11_396 6 hts ⟨Nat.le_of_ble_eq_true rfl, Nat.le_of_ble_eq_true rfl⟩) ⟨pg_96.1, va_recv hK hw.1 (ci := 11) (q0 := 0) rfl eM_0, pg_96.2⟩ rfl rfl hl.1 rfl (lv_room (Nat.le_of_ble_eq_true rfl)) dX11_rules_96 ⟨Nat.le_refl _, Nat.le_refl _⟩) hw.2.2 (afr_in hw.2.2) (fun H locs hw => ?_)
                      refine lv_aload_n hx hb dX11_rules_99 rfl (lv_at hl 3 rfl) ?_
                      obtain ⟨q_100, h_100, h⟩ := bnd_e h
                      have pg_100 := preG (av := [.ref (ad 0)]) hK hw.1 hw.2.1 NM_keep NM_blind
                      refine endI (mc := 0) (ms := 0) (va_runV (As := []) (rest := []) ⟨hx, hb, hml, hown, hts⟩ (m11_isGood l D ad cy H.size q_96 q_100 h_100) (wX11_294 0 hts ⟨Nat.le_of_ble_eq_true rfl, Nat.le_of_ble_eq_true rfl⟩) ⟨pg_100.1, va_recv hK hw.1 (ci := 11) (q0 := 0) rfl eM_0, pg_100.2⟩ rfl rfl hl.1 rfl (lv_room (Nat.le_of_ble_eq_true rfl)) dX11_rules_100 ⟨Nat.le_refl _, Nat.le_refl _⟩) hw.2.2 (afr_in hw.2.2) (fun H locs hw => ?_)
                      refine lv_if_eq (tgt := 121) hx hb dX11_rules_103 (by decide) (fun c_103 => ?_) (fun c_103 => ?_)
                      · have h := ite_t c_103 h
                        exact hJ_121 q_96 H locs ls h hw (lv_sub hl [3, 1, 2] rfl)
                      · have h := ite_f c_103 h
                        refine lv_aload_n hx hb dX11_rules_106 rfl (lv_at hl 3 rfl) ?_
                        refine gX11_285 hx hb hts hown hK hw dX11_rules_107 ?_
                        refine lv_aload_n hx hb dX11_rules_110 rfl (lv_at hl 3 rfl) ?_
                        refine gX11_288 hx hb hts hown hK hw dX11_rules_111 ?_
                        refine lv_icmp_ge (tgt := 121) hx hb dX11_rules_114 (by decide) (fun c_114 => ?_) (fun c_114 => ?_)
                        · have h := ite_t c_114 h
                          exact hJ_121 q_96 H locs ls h hw (lv_sub hl [3, 1, 2] rfl)
                        · have h := ite_f c_114 h
                          refine lv_iconst (v := 1) hx hb dX11_rules_117 (by decide) ?_
                          refine lv_goto (tgt := 122) hx hb dX11_rules_118 (by decide) ?_
                          exact hJ_122 ((1 : Int32)) q_96 H locs ls h hw (lv_sub hl [3, 1, 2] rfl)
              exact hL_83 n_83 ((1 : Int32), s11_77) H locs ls hn_83 hw (lv_sub hl [0, 2, 3, 1] rfl)
            · have h := ite_f c_45 h
              exact hJ_48 s11 H locs ls h hw (lv_sub hl [] rfl)
theorem dX11_sight_0 : decode cX11_sight 0 = .ok (.aload_n 0, 1) := by decide +kernel
theorem dX11_sight_1 : decode cX11_sight 1 = .ok (.getfield 488, 3) := by decide +kernel
theorem dX11_sight_4 : decode cX11_sight 4 = .ok (.bipush 100, 2) := by decide +kernel
theorem dX11_sight_6 : decode cX11_sight 6 = .ok (.if_icmp .eq 38, 3) := by decide +kernel
theorem dX11_sight_9 : decode cX11_sight 9 = .ok (.aload_n 0, 1) := by decide +kernel
theorem dX11_sight_10 : decode cX11_sight 10 = .ok (.iload_n 1, 1) := by decide +kernel
theorem dX11_sight_11 : decode cX11_sight 11 = .ok (.invokevirtual 491, 3) := by decide +kernel
theorem dX11_sight_14 : decode cX11_sight 14 = .ok (.ifCond .eq 30, 3) := by decide +kernel
theorem dX11_sight_17 : decode cX11_sight 17 = .ok (.iload_n 2, 1) := by decide +kernel
theorem dX11_sight_18 : decode cX11_sight 18 = .ok (.invokestatic 480, 3) := by decide +kernel
theorem dX11_sight_21 : decode cX11_sight 21 = .ok (.ifCond .eq 23, 3) := by decide +kernel
theorem dX11_sight_24 : decode cX11_sight 24 = .ok (.iload_n 3, 1) := by decide +kernel
theorem dX11_sight_25 : decode cX11_sight 25 = .ok (.i2l, 1) := by decide +kernel
theorem dX11_sight_26 : decode cX11_sight 26 = .ok (.aload_n 0, 1) := by decide +kernel
theorem dX11_sight_27 : decode cX11_sight 27 = .ok (.getfield 178, 3) := by decide +kernel
theorem dX11_sight_30 : decode cX11_sight 30 = .ok (.iload_n 1, 1) := by decide +kernel
theorem dX11_sight_31 : decode cX11_sight 31 = .ok (.iaload, 1) := by decide +kernel
theorem dX11_sight_32 : decode cX11_sight 32 = .ok (.i2l, 1) := by decide +kernel
theorem dX11_sight_33 : decode cX11_sight 33 = .ok (.aload_n 0, 1) := by decide +kernel
theorem dX11_sight_34 : decode cX11_sight 34 = .ok (.getfield 225, 3) := by decide +kernel
theorem dX11_sight_37 : decode cX11_sight 37 = .ok (.i2l, 1) := by decide +kernel
theorem dX11_sight_38 : decode cX11_sight 38 = .ok (.invokestatic 215, 3) := by decide +kernel
theorem dX11_sight_41 : decode cX11_sight 41 = .ok (.ifCond .ne 5, 3) := by decide +kernel
theorem dX11_sight_44 : decode cX11_sight 44 = .ok (.iconst 0, 1) := by decide +kernel
theorem dX11_sight_45 : decode cX11_sight 45 = .ok (.ireturn, 1) := by decide +kernel
theorem dX11_sight_46 : decode cX11_sight 46 = .ok (.aload_n 0, 1) := by decide +kernel
theorem dX11_sight_47 : decode cX11_sight 47 = .ok (.getfield 184, 3) := by decide +kernel
theorem dX11_sight_50 : decode cX11_sight 50 = .ok (.aload_n 0, 1) := by decide +kernel
theorem dX11_sight_51 : decode cX11_sight 51 = .ok (.getfield 488, 3) := by decide +kernel
theorem dX11_sight_54 : decode cX11_sight 54 = .ok (.iload_n 1, 1) := by decide +kernel
theorem dX11_sight_55 : decode cX11_sight 55 = .ok (.iastore, 1) := by decide +kernel
theorem dX11_sight_56 : decode cX11_sight 56 = .ok (.aload_n 0, 1) := by decide +kernel
theorem dX11_sight_57 : decode cX11_sight 57 = .ok (.getfield 187, 3) := by decide +kernel
theorem dX11_sight_60 : decode cX11_sight 60 = .ok (.aload_n 0, 1) := by decide +kernel
theorem dX11_sight_61 : decode cX11_sight 61 = .ok (.getfield 488, 3) := by decide +kernel
theorem dX11_sight_64 : decode cX11_sight 64 = .ok (.iload_n 2, 1) := by decide +kernel
theorem dX11_sight_65 : decode cX11_sight 65 = .ok (.iastore, 1) := by decide +kernel
theorem dX11_sight_66 : decode cX11_sight 66 = .ok (.aload_n 0, 1) := by decide +kernel
theorem dX11_sight_67 : decode cX11_sight 67 = .ok (.getfield 190, 3) := by decide +kernel
theorem dX11_sight_70 : decode cX11_sight 70 = .ok (.aload_n 0, 1) := by decide +kernel
theorem dX11_sight_71 : decode cX11_sight 71 = .ok (.getfield 488, 3) := by decide +kernel
theorem dX11_sight_74 : decode cX11_sight 74 = .ok (.iload_n 3, 1) := by decide +kernel
theorem dX11_sight_75 : decode cX11_sight 75 = .ok (.iastore, 1) := by decide +kernel
theorem dX11_sight_76 : decode cX11_sight 76 = .ok (.aload_n 0, 1) := by decide +kernel
theorem dX11_sight_77 : decode cX11_sight 77 = .ok (.dup, 1) := by decide +kernel
theorem dX11_sight_78 : decode cX11_sight 78 = .ok (.getfield 488, 3) := by decide +kernel
theorem dX11_sight_81 : decode cX11_sight 81 = .ok (.iconst 1, 1) := by decide +kernel
theorem dX11_sight_82 : decode cX11_sight 82 = .ok (.iadd, 1) := by decide +kernel
theorem dX11_sight_83 : decode cX11_sight 83 = .ok (.putfield 488, 3) := by decide +kernel
theorem dX11_sight_86 : decode cX11_sight 86 = .ok (.iconst 1, 1) := by decide +kernel
theorem dX11_sight_87 : decode cX11_sight 87 = .ok (.ireturn, 1) := by decide +kernel
def f11_sight_j44 (s11_j44 : OS) : Option (Int32 × OS) := some ((0 : Int32), s11_j44)
def f11_sight (a1 : Int32) (a2 : Int32) (a3 : Int32) (s11 : OS) : Option (Int32 × OS) := if (s11.1 0 9) = (100 : Int32) then (f11_sight_j44 s11) else (Option.bind (f11_isGift a1 s11) fun q_11 => if q_11 = 0 then (f11_sight_j44 s11) else (Option.bind (f11_isPlace a2) fun q_18 => if q_18 = 0 then (f11_sight_j44 s11) else (chk (inb a1 40) (nm (s11.1 80 a1.toNatClampNeg) fun y_31 => Option.bind (f11_lies ((a3).toInt64) ((y_31).toInt64) (((s11.1 0 2)).toInt64)) fun q_38 => if q_38 = 0 then (f11_sight_j44 s11) else (chk (inb ((s11.1 0 9)) 100) (nm (wI s11 82 ((s11.1 0 9)).toNatClampNeg a1) fun s11_55 => chk (inb ((s11_55.1 0 9)) 100) (nm (wI s11_55 83 ((s11_55.1 0 9)).toNatClampNeg a2) fun s11_65 => chk (inb ((s11_65.1 0 9)) 100) (nm (wI s11_65 84 ((s11_65.1 0 9)).toNatClampNeg a3) fun s11_75 => nm (wI s11_75 0 9 (((s11_75.1 0 9) + (1 : Int32)))) fun s11_83 => some ((1 : Int32), s11_83)))))))))
set_option maxHeartbeats 4000000 in
set_option maxRecDepth 100000 in
theorem m11_sight (l : Launch) (D : va_G) (ad : Nat → Nat) (cy : Nat → ClassId) (sz : Nat) (s11 : OS) (a1 : Int32) (a2 : Int32) (a3 : Int32) (r : Int32 × OS) (h : f11_sight a1 a2 a3 s11 = some r) : Met l yX11_sight (wsOf yX11_sight cX11_sight 4 (some .boolean)) (rmL 2) (va_Pc ([.ref (ad 0), .int a1, .int a2, .int a3] : List Value) (PreG D cy (cellsM ad cy s11) sz NM)) (QcI D ad 66 (cellsM ad cy r.2) (r.1) sz) 0 0 (Afr ad 66 sz) := by
  refine metG (own := RX11) (by decide) rfl (Nat.le_of_ble_eq_true rfl) fstM ?_ sz
  intro p e s m below meth c ls C0 hw hl
  obtain ⟨hx, hb, hml, hown, hts, hr, hlk, hK, hN⟩ := C0
  have hl : lv_has ls 4 [(0, .ref (ad 0)), (1, .int a1), (2, .int a2), (3, .int a3)] := hl
  generalize hQ : MQ below (QcI D ad 66 (cellsM ad cy r.2) (r.1) s.heap.size) ([.ref (ad 0), .int a1, .int a2, .int a3] : List Value).toArray s 0 0 (Afr ad 66 s.heap.size) = Q
  obtain ⟨H, hH⟩ : ∃ H : Heap, H = s.heap := ⟨_, rfl⟩
  obtain ⟨locs, hlc⟩ : ∃ L : List Loc, L = [] := ⟨_, rfl⟩
  have hw : Wd D (cellsM ad cy s11) (Afr ad 66 s.heap.size) s.heap H locs := by rw [hH, hlc]; exact hw
  suffices h0 : W p l e (rmL 2) s m ([.ref (ad 0), .int a1, .int a2, .int a3] : List Value).toArray below meth c H locs 0 0 Q (F0 m 0 ls []) by rw [hH, hlc] at h0; exact h0
  clear hH hlc
  unfold f11_sight at h
  have hJ_44 : ∀ (s11_j44 : OS) (H : Heap) (locs : List Loc) (ls : Array Slot), f11_sight_j44 s11_j44 = some r → Wd D (cellsM ad cy s11_j44) (Afr ad 66 s.heap.size) s.heap H locs → lv_has ls 4 [] → W p l e (rmL 2) s m ([.ref (ad 0), .int a1, .int a2, .int a3] : List Value).toArray below meth c H locs 0 0 Q (F0 m 44 ls []) := by
    intro s11_j44 H locs ls h hw hl
    unfold f11_sight_j44 at h
    refine lv_iconst (v := 0) hx hb dX11_sight_44 (by decide) ?_
    have h := Option.some.inj h
    subst h
    rw [← hQ]
    exact retI hx hb hr hlk hw (narB (v := (0 : Int32)) (by decide)) dX11_sight_45
  refine lv_aload_n hx hb dX11_sight_0 rfl (lv_at hl 0 rfl) ?_
  refine gX11_488 hx hb hts hown hK hw dX11_sight_1 ?_
  refine lv_bipush (v := 100) hx hb dX11_sight_4 (by decide) ?_
  refine lv_icmp_eq (tgt := 44) hx hb dX11_sight_6 (by decide) (fun c_6 => ?_) (fun c_6 => ?_)
  · have h := ite_t c_6 h
    exact hJ_44 s11 H locs ls h hw (lv_sub hl [] rfl)
  · have h := ite_f c_6 h
    refine lv_aload_n hx hb dX11_sight_9 rfl (lv_at hl 0 rfl) ?_
    refine lv_iload_n hx hb dX11_sight_10 rfl (lv_at hl 1 rfl) ?_
    obtain ⟨q_11, h_11, h⟩ := bnd_e h
    have pg_11 := preG (av := [.ref (ad 0), .int a1]) hK hw.1 hw.2.1 NM_keep NM_blind
    refine endI (mc := 0) (ms := 0) (va_runV (As := [.int a1]) (rest := []) ⟨hx, hb, hml, hown, hts⟩ (m11_isGift l D ad cy H.size s11 a1 q_11 h_11) (wX11_491 1 hts ⟨Nat.le_of_ble_eq_true rfl, Nat.le_of_ble_eq_true rfl⟩) ⟨pg_11.1, va_recv hK hw.1 (ci := 11) (q0 := 0) rfl eM_0, pg_11.2⟩ rfl rfl hl.1 rfl (lv_room (Nat.le_of_ble_eq_true rfl)) dX11_sight_11 ⟨Nat.le_refl _, Nat.le_refl _⟩) hw.2.2 (afr_in hw.2.2) (fun H locs hw => ?_)
    refine lv_if_eq (tgt := 44) hx hb dX11_sight_14 (by decide) (fun c_14 => ?_) (fun c_14 => ?_)
    · have h := ite_t c_14 h
      exact hJ_44 s11 H locs ls h hw (lv_sub hl [] rfl)
    · have h := ite_f c_14 h
      refine lv_iload_n hx hb dX11_sight_17 rfl (lv_at hl 2 rfl) ?_
      obtain ⟨q_18, h_18, h⟩ := bnd_e h
      have pg_18 := preG (av := [.int a2]) hK hw.1 hw.2.1 NM_keep NM_blind
      refine endI (mc := 0) (ms := 0) (va_runS (As := [.int a2]) (rest := []) ⟨hx, hb, hml, hown, hts⟩ (m11_isPlace l D ad cy H.size s11 a2 q_18 h_18) (wX11_480 1 hts ⟨Nat.le_of_ble_eq_true rfl, Nat.le_of_ble_eq_true rfl⟩) pg_18 rfl rfl hl.1 rfl (lv_room (Nat.le_of_ble_eq_true rfl)) dX11_sight_18 ⟨Nat.le_refl _, Nat.le_refl _⟩) hw.2.2 (afr_in hw.2.2) (fun H locs hw => ?_)
      refine lv_if_eq (tgt := 44) hx hb dX11_sight_21 (by decide) (fun c_21 => ?_) (fun c_21 => ?_)
      · have h := ite_t c_21 h
        exact hJ_44 s11 H locs ls h hw (lv_sub hl [] rfl)
      · have h := ite_f c_21 h
        refine lv_iload_n hx hb dX11_sight_24 rfl (lv_at hl 3 rfl) ?_
        refine lv_i2l hx hb dX11_sight_25 rfl ?_
        refine lv_aload_n hx hb dX11_sight_26 rfl (lv_at hl 0 rfl) ?_
        refine gX11_178 hx hb hts hown hK hw dX11_sight_27 ?_
        refine lv_iload_n hx hb dX11_sight_30 rfl (lv_at hl 1 rfl) ?_
        obtain ⟨hi_31, h⟩ := chk_e h
        obtain ⟨y_31, e_31, h⟩ := nam_e h
        refine lM56 hx hb hK hw hi_31 e_31 dX11_sight_31 ?_
        refine lv_i2l hx hb dX11_sight_32 rfl ?_
        refine lv_aload_n hx hb dX11_sight_33 rfl (lv_at hl 0 rfl) ?_
        refine gX11_225 hx hb hts hown hK hw dX11_sight_34 ?_
        refine lv_i2l hx hb dX11_sight_37 rfl ?_
        obtain ⟨q_38, h_38, h⟩ := bnd_e h
        have pg_38 := preG (av := [.long ((a3).toInt64), .long ((y_31).toInt64), .long (((s11.1 0 2)).toInt64)]) hK hw.1 hw.2.1 NM_keep NM_blind
        refine endI (mc := 0) (ms := 0) (va_runS (As := [.long ((a3).toInt64), .long ((y_31).toInt64), .long (((s11.1 0 2)).toInt64)]) (rest := []) ⟨hx, hb, hml, hown, hts⟩ (m11_lies l D ad cy H.size s11 ((a3).toInt64) ((y_31).toInt64) (((s11.1 0 2)).toInt64) q_38 h_38) (wX11_215 0 hts ⟨Nat.le_of_ble_eq_true rfl, Nat.le_of_ble_eq_true rfl⟩) pg_38 rfl rfl hl.1 rfl (lv_room (Nat.le_of_ble_eq_true rfl)) dX11_sight_38 ⟨Nat.le_refl _, Nat.le_refl _⟩) hw.2.2 (afr_in hw.2.2) (fun H locs hw => ?_)
        refine lv_if_ne (tgt := 46) hx hb dX11_sight_41 (by decide) (fun c_41 => ?_) (fun c_41 => ?_)
        · have h := ite_f c_41 h
          refine lv_aload_n hx hb dX11_sight_46 rfl (lv_at hl 0 rfl) ?_
          refine gX11_184 hx hb hts hown hK hw dX11_sight_47 ?_
          refine lv_aload_n hx hb dX11_sight_50 rfl (lv_at hl 0 rfl) ?_
          refine gX11_488 hx hb hts hown hK hw dX11_sight_51 ?_
          refine lv_iload_n hx hb dX11_sight_54 rfl (lv_at hl 1 rfl) ?_
          obtain ⟨hi_55, h⟩ := chk_e h
          obtain ⟨s11_55, e_55, h⟩ := nam_e h
          refine aM58 hx hb hK hw hi_55 e_55 dX11_sight_55 (fun H locs hw => ?_)
          refine lv_aload_n hx hb dX11_sight_56 rfl (lv_at hl 0 rfl) ?_
          refine gX11_187 hx hb hts hown hK hw dX11_sight_57 ?_
          refine lv_aload_n hx hb dX11_sight_60 rfl (lv_at hl 0 rfl) ?_
          refine gX11_488 hx hb hts hown hK hw dX11_sight_61 ?_
          refine lv_iload_n hx hb dX11_sight_64 rfl (lv_at hl 2 rfl) ?_
          obtain ⟨hi_65, h⟩ := chk_e h
          obtain ⟨s11_65, e_65, h⟩ := nam_e h
          refine aM59 hx hb hK hw hi_65 e_65 dX11_sight_65 (fun H locs hw => ?_)
          refine lv_aload_n hx hb dX11_sight_66 rfl (lv_at hl 0 rfl) ?_
          refine gX11_190 hx hb hts hown hK hw dX11_sight_67 ?_
          refine lv_aload_n hx hb dX11_sight_70 rfl (lv_at hl 0 rfl) ?_
          refine gX11_488 hx hb hts hown hK hw dX11_sight_71 ?_
          refine lv_iload_n hx hb dX11_sight_74 rfl (lv_at hl 3 rfl) ?_
          obtain ⟨hi_75, h⟩ := chk_e h
          obtain ⟨s11_75, e_75, h⟩ := nam_e h
          refine aM60 hx hb hK hw hi_75 e_75 dX11_sight_75 (fun H locs hw => ?_)
          refine lv_aload_n hx hb dX11_sight_76 rfl (lv_at hl 0 rfl) ?_
          refine lv_dup hx hb dX11_sight_77 rfl ?_
          refine gX11_488 hx hb hts hown hK hw dX11_sight_78 ?_
          refine lv_iconst (v := 1) hx hb dX11_sight_81 (by decide) ?_
          refine lv_iadd hx hb dX11_sight_82 ?_
          obtain ⟨s11_83, e_83, h⟩ := nam_e h
          refine pX11_488 hx hb hts hown hK hw e_83 dX11_sight_83 (fun H locs hw => ?_)
          refine lv_iconst (v := 1) hx hb dX11_sight_86 (by decide) ?_
          have h := Option.some.inj h
          subst h
          rw [← hQ]
          exact retI hx hb hr hlk hw (narB (v := (1 : Int32)) (by decide)) dX11_sight_87
        · have h := ite_t c_41 h
          exact hJ_44 s11 H locs ls h hw (lv_sub hl [] rfl)
theorem dX11_stone_0 : decode cX11_stone 0 = .ok (.aload_n 0, 1) := by decide +kernel
theorem dX11_stone_1 : decode cX11_stone 1 = .ok (.getfield 235, 3) := by decide +kernel
theorem dX11_stone_4 : decode cX11_stone 4 = .ok (.sipush 150, 3) := by decide +kernel
theorem dX11_stone_7 : decode cX11_stone 7 = .ok (.if_icmp .eq 42, 3) := by decide +kernel
theorem dX11_stone_10 : decode cX11_stone 10 = .ok (.iload_n 1, 1) := by decide +kernel
theorem dX11_stone_11 : decode cX11_stone 11 = .ok (.invokestatic 254, 3) := by decide +kernel
theorem dX11_stone_14 : decode cX11_stone 14 = .ok (.ifCond .eq 35, 3) := by decide +kernel
theorem dX11_stone_17 : decode cX11_stone 17 = .ok (.iload_n 2, 1) := by decide +kernel
theorem dX11_stone_18 : decode cX11_stone 18 = .ok (.i2l, 1) := by decide +kernel
theorem dX11_stone_19 : decode cX11_stone 19 = .ok (.lconst 0, 1) := by decide +kernel
theorem dX11_stone_20 : decode cX11_stone 20 = .ok (.ldc2_w 221, 3) := by decide +kernel
theorem dX11_stone_23 : decode cX11_stone 23 = .ok (.invokestatic 215, 3) := by decide +kernel
theorem dX11_stone_26 : decode cX11_stone 26 = .ok (.ifCond .eq 23, 3) := by decide +kernel
theorem dX11_stone_29 : decode cX11_stone 29 = .ok (.iload_n 3, 1) := by decide +kernel
theorem dX11_stone_30 : decode cX11_stone 30 = .ok (.i2l, 1) := by decide +kernel
theorem dX11_stone_31 : decode cX11_stone 31 = .ok (.lconst 1, 1) := by decide +kernel
theorem dX11_stone_32 : decode cX11_stone 32 = .ok (.ldc2_w 257, 3) := by decide +kernel
theorem dX11_stone_35 : decode cX11_stone 35 = .ok (.invokestatic 215, 3) := by decide +kernel
theorem dX11_stone_38 : decode cX11_stone 38 = .ok (.ifCond .eq 11, 3) := by decide +kernel
theorem dX11_stone_41 : decode cX11_stone 41 = .ok (.iload 4, 2) := by decide +kernel
theorem dX11_stone_43 : decode cX11_stone 43 = .ok (.invokestatic 245, 3) := by decide +kernel
theorem dX11_stone_46 : decode cX11_stone 46 = .ok (.ifCond .ne 5, 3) := by decide +kernel
theorem dX11_stone_49 : decode cX11_stone 49 = .ok (.iconst (-1), 1) := by decide +kernel
theorem dX11_stone_50 : decode cX11_stone 50 = .ok (.ireturn, 1) := by decide +kernel
theorem dX11_stone_51 : decode cX11_stone 51 = .ok (.aload_n 0, 1) := by decide +kernel
theorem dX11_stone_52 : decode cX11_stone 52 = .ok (.iload_n 1, 1) := by decide +kernel
theorem dX11_stone_53 : decode cX11_stone 53 = .ok (.iload_n 2, 1) := by decide +kernel
theorem dX11_stone_54 : decode cX11_stone 54 = .ok (.iload_n 3, 1) := by decide +kernel
theorem dX11_stone_55 : decode cX11_stone 55 = .ok (.iconst 0, 1) := by decide +kernel
theorem dX11_stone_56 : decode cX11_stone 56 = .ok (.iload 4, 2) := by decide +kernel
theorem dX11_stone_58 : decode cX11_stone 58 = .ok (.iconst (-1), 1) := by decide +kernel
theorem dX11_stone_59 : decode cX11_stone 59 = .ok (.invokevirtual 259, 3) := by decide +kernel
theorem dX11_stone_62 : decode cX11_stone 62 = .ok (.istore 6, 2) := by decide +kernel
theorem dX11_stone_64 : decode cX11_stone 64 = .ok (.aload_n 0, 1) := by decide +kernel
theorem dX11_stone_65 : decode cX11_stone 65 = .ok (.getfield 35, 3) := by decide +kernel
theorem dX11_stone_68 : decode cX11_stone 68 = .ok (.iload 6, 2) := by decide +kernel
theorem dX11_stone_70 : decode cX11_stone 70 = .ok (.iload 5, 2) := by decide +kernel
theorem dX11_stone_72 : decode cX11_stone 72 = .ok (.bastore, 1) := by decide +kernel
theorem dX11_stone_73 : decode cX11_stone 73 = .ok (.aload_n 0, 1) := by decide +kernel
theorem dX11_stone_74 : decode cX11_stone 74 = .ok (.getfield 42, 3) := by decide +kernel
theorem dX11_stone_77 : decode cX11_stone 77 = .ok (.iload_n 1, 1) := by decide +kernel
theorem dX11_stone_78 : decode cX11_stone 78 = .ok (.dup2, 1) := by decide +kernel
theorem dX11_stone_79 : decode cX11_stone 79 = .ok (.laload, 1) := by decide +kernel
theorem dX11_stone_80 : decode cX11_stone 80 = .ok (.iload_n 3, 1) := by decide +kernel
theorem dX11_stone_81 : decode cX11_stone 81 = .ok (.i2l, 1) := by decide +kernel
theorem dX11_stone_82 : decode cX11_stone 82 = .ok (.ladd, 1) := by decide +kernel
theorem dX11_stone_83 : decode cX11_stone 83 = .ok (.lastore, 1) := by decide +kernel
theorem dX11_stone_84 : decode cX11_stone 84 = .ok (.iload 6, 2) := by decide +kernel
theorem dX11_stone_86 : decode cX11_stone 86 = .ok (.ireturn, 1) := by decide +kernel
def f11_stone_j49 (s11_j49 : OS) : Option (Int32 × OS) := some ((-1 : Int32), s11_j49)
def f11_stone (a1 : Int32) (a2 : Int32) (a3 : Int32) (a4 : Int32) (a5 : Int32) (s11 : OS) : Option (Int32 × OS) := if (s11.1 0 3) = (150 : Int32) then (f11_stone_j49 s11) else (Option.bind (f11_isKind a1) fun q_11 => if q_11 = 0 then (f11_stone_j49 s11) else (Option.bind (f11_lies ((a2).toInt64) ((0 : Int64)) ((9 : Int64))) fun q_23 => if q_23 = 0 then (f11_stone_j49 s11) else (Option.bind (f11_lies ((a3).toInt64) ((1 : Int64)) ((1000000000 : Int64))) fun q_35 => if q_35 = 0 then (f11_stone_j49 s11) else (Option.bind (f11_isCabinet a4) fun q_43 => if q_43 = 0 then (f11_stone_j49 s11) else (Option.bind (f11_comes a1 a2 a3 ((0 : Int32)) a4 ((-1 : Int32)) s11) fun q_59 => chk (inb q_59.1 150) (nm (wI q_59.2 19 q_59.1.toNatClampNeg (vp_nar .boolean a5)) fun s11_72 => chk (inb a1 8) (nm (s11_72.2 21 a1.toNatClampNeg) fun y_79 => chk (inb a1 8) (nm (wL s11_72 21 a1.toNatClampNeg ((y_79 + (a3).toInt64))) fun s11_83 => some (q_59.1, s11_83)))))))))
set_option maxHeartbeats 4000000 in
set_option maxRecDepth 100000 in
theorem m11_stone (l : Launch) (D : va_G) (ad : Nat → Nat) (cy : Nat → ClassId) (sz : Nat) (s11 : OS) (a1 : Int32) (a2 : Int32) (a3 : Int32) (a4 : Int32) (a5 : Int32) (r : Int32 × OS) (h : f11_stone a1 a2 a3 a4 a5 s11 = some r) : Met l yX11_stone (wsOf yX11_stone cX11_stone 7 (some .int)) (rmL 2) (va_Pc ([.ref (ad 0), .int a1, .int a2, .int a3, .int a4, .int a5] : List Value) (PreG D cy (cellsM ad cy s11) sz NM)) (QcI D ad 66 (cellsM ad cy r.2) (r.1) sz) 0 0 (Afr ad 66 sz) := by
  refine metG (own := RX11) (by decide) rfl (Nat.le_of_ble_eq_true rfl) fstM ?_ sz
  intro p e s m below meth c ls C0 hw hl
  obtain ⟨hx, hb, hml, hown, hts, hr, hlk, hK, hN⟩ := C0
  have hl : lv_has ls 7 [(0, .ref (ad 0)), (1, .int a1), (2, .int a2), (3, .int a3), (4, .int a4), (5, .int a5)] := hl
  generalize hQ : MQ below (QcI D ad 66 (cellsM ad cy r.2) (r.1) s.heap.size) ([.ref (ad 0), .int a1, .int a2, .int a3, .int a4, .int a5] : List Value).toArray s 0 0 (Afr ad 66 s.heap.size) = Q
  obtain ⟨H, hH⟩ : ∃ H : Heap, H = s.heap := ⟨_, rfl⟩
  obtain ⟨locs, hlc⟩ : ∃ L : List Loc, L = [] := ⟨_, rfl⟩
  have hw : Wd D (cellsM ad cy s11) (Afr ad 66 s.heap.size) s.heap H locs := by rw [hH, hlc]; exact hw
  suffices h0 : W p l e (rmL 2) s m ([.ref (ad 0), .int a1, .int a2, .int a3, .int a4, .int a5] : List Value).toArray below meth c H locs 0 0 Q (F0 m 0 ls []) by rw [hH, hlc] at h0; exact h0
  clear hH hlc
  unfold f11_stone at h
  have hJ_49 : ∀ (s11_j49 : OS) (H : Heap) (locs : List Loc) (ls : Array Slot), f11_stone_j49 s11_j49 = some r → Wd D (cellsM ad cy s11_j49) (Afr ad 66 s.heap.size) s.heap H locs → lv_has ls 7 [] → W p l e (rmL 2) s m ([.ref (ad 0), .int a1, .int a2, .int a3, .int a4, .int a5] : List Value).toArray below meth c H locs 0 0 Q (F0 m 49 ls []) := by
    intro s11_j49 H locs ls h hw hl
    unfold f11_stone_j49 at h
    refine lv_iconst (v := (-1)) hx hb dX11_stone_49 (by decide) ?_
    have h := Option.some.inj h
    subst h
    rw [← hQ]
    exact retI hx hb hr hlk hw rfl dX11_stone_50
  refine lv_aload_n hx hb dX11_stone_0 rfl (lv_at hl 0 rfl) ?_
  refine gX11_235 hx hb hts hown hK hw dX11_stone_1 ?_
  refine lv_sipush (v := 150) hx hb dX11_stone_4 (by decide) ?_
  refine lv_icmp_eq (tgt := 49) hx hb dX11_stone_7 (by decide) (fun c_7 => ?_) (fun c_7 => ?_)
  · have h := ite_t c_7 h
    exact hJ_49 s11 H locs ls h hw (lv_sub hl [] rfl)
  · have h := ite_f c_7 h
    refine lv_iload_n hx hb dX11_stone_10 rfl (lv_at hl 1 rfl) ?_
    obtain ⟨q_11, h_11, h⟩ := bnd_e h
    have pg_11 := preG (av := [.int a1]) hK hw.1 hw.2.1 NM_keep NM_blind
    refine endI (mc := 0) (ms := 0) (va_runS (As := [.int a1]) (rest := []) ⟨hx, hb, hml, hown, hts⟩ (m11_isKind l D ad cy H.size s11 a1 q_11 h_11) (wX11_254 1 hts ⟨Nat.le_of_ble_eq_true rfl, Nat.le_of_ble_eq_true rfl⟩) pg_11 rfl rfl hl.1 rfl (lv_room (Nat.le_of_ble_eq_true rfl)) dX11_stone_11 ⟨Nat.le_refl _, Nat.le_refl _⟩) hw.2.2 (afr_in hw.2.2) (fun H locs hw => ?_)
    refine lv_if_eq (tgt := 49) hx hb dX11_stone_14 (by decide) (fun c_14 => ?_) (fun c_14 => ?_)
    · have h := ite_t c_14 h
      exact hJ_49 s11 H locs ls h hw (lv_sub hl [] rfl)
    · have h := ite_f c_14 h
      refine lv_iload_n hx hb dX11_stone_17 rfl (lv_at hl 2 rfl) ?_
      refine lv_i2l hx hb dX11_stone_18 rfl ?_
      refine lv_lconst (v := 0) hx hb dX11_stone_19 (by decide) ?_
      refine lv_ldc2 (v := 9) hx hb hown (hts _ (wd_7 (w := .constantLong RX11 221 9) (i := 96) (by decide +kernel) rfl)) dX11_stone_20 ?_
      obtain ⟨q_23, h_23, h⟩ := bnd_e h
      have pg_23 := preG (av := [.long ((a2).toInt64), .long ((0 : Int64)), .long ((9 : Int64))]) hK hw.1 hw.2.1 NM_keep NM_blind
      refine endI (mc := 0) (ms := 0) (va_runS (As := [.long ((a2).toInt64), .long ((0 : Int64)), .long ((9 : Int64))]) (rest := []) ⟨hx, hb, hml, hown, hts⟩ (m11_lies l D ad cy H.size s11 ((a2).toInt64) ((0 : Int64)) ((9 : Int64)) q_23 h_23) (wX11_215 0 hts ⟨Nat.le_of_ble_eq_true rfl, Nat.le_of_ble_eq_true rfl⟩) pg_23 rfl rfl hl.1 rfl (lv_room (Nat.le_of_ble_eq_true rfl)) dX11_stone_23 ⟨Nat.le_refl _, Nat.le_refl _⟩) hw.2.2 (afr_in hw.2.2) (fun H locs hw => ?_)
      refine lv_if_eq (tgt := 49) hx hb dX11_stone_26 (by decide) (fun c_26 => ?_) (fun c_26 => ?_)
      · have h := ite_t c_26 h
        exact hJ_49 s11 H locs ls h hw (lv_sub hl [] rfl)
      · have h := ite_f c_26 h
        refine lv_iload_n hx hb dX11_stone_29 rfl (lv_at hl 3 rfl) ?_
        refine lv_i2l hx hb dX11_stone_30 rfl ?_
        refine lv_lconst (v := 1) hx hb dX11_stone_31 (by decide) ?_
        refine lv_ldc2 (v := 1000000000) hx hb hown (hts _ (wd_7 (w := .constantLong RX11 257 1000000000) (i := 109) (by decide +kernel) rfl)) dX11_stone_32 ?_
        obtain ⟨q_35, h_35, h⟩ := bnd_e h
        have pg_35 := preG (av := [.long ((a3).toInt64), .long ((1 : Int64)), .long ((1000000000 : Int64))]) hK hw.1 hw.2.1 NM_keep NM_blind
        refine endI (mc := 0) (ms := 0) (va_runS (As := [.long ((a3).toInt64), .long ((1 : Int64)), .long ((1000000000 : Int64))]) (rest := []) ⟨hx, hb, hml, hown, hts⟩ (m11_lies l D ad cy H.size s11 ((a3).toInt64) ((1 : Int64)) ((1000000000 : Int64)) q_35 h_35) (wX11_215 0 hts ⟨Nat.le_of_ble_eq_true rfl, Nat.le_of_ble_eq_true rfl⟩) pg_35 rfl rfl hl.1 rfl (lv_room (Nat.le_of_ble_eq_true rfl)) dX11_stone_35 ⟨Nat.le_refl _, Nat.le_refl _⟩) hw.2.2 (afr_in hw.2.2) (fun H locs hw => ?_)
        refine lv_if_eq (tgt := 49) hx hb dX11_stone_38 (by decide) (fun c_38 => ?_) (fun c_38 => ?_)
        · have h := ite_t c_38 h
          exact hJ_49 s11 H locs ls h hw (lv_sub hl [] rfl)
        · have h := ite_f c_38 h
          refine lv_iload hx hb dX11_stone_41 (lv_at hl 4 rfl) ?_
          obtain ⟨q_43, h_43, h⟩ := bnd_e h
          have pg_43 := preG (av := [.int a4]) hK hw.1 hw.2.1 NM_keep NM_blind
          refine endI (mc := 0) (ms := 0) (va_runS (As := [.int a4]) (rest := []) ⟨hx, hb, hml, hown, hts⟩ (m11_isCabinet l D ad cy H.size s11 a4 q_43 h_43) (wX11_245 1 hts ⟨Nat.le_of_ble_eq_true rfl, Nat.le_of_ble_eq_true rfl⟩) pg_43 rfl rfl hl.1 rfl (lv_room (Nat.le_of_ble_eq_true rfl)) dX11_stone_43 ⟨Nat.le_refl _, Nat.le_refl _⟩) hw.2.2 (afr_in hw.2.2) (fun H locs hw => ?_)
          refine lv_if_ne (tgt := 51) hx hb dX11_stone_46 (by decide) (fun c_46 => ?_) (fun c_46 => ?_)
          · have h := ite_f c_46 h
            refine lv_aload_n hx hb dX11_stone_51 rfl (lv_at hl 0 rfl) ?_
            refine lv_iload_n hx hb dX11_stone_52 rfl (lv_at hl 1 rfl) ?_
            refine lv_iload_n hx hb dX11_stone_53 rfl (lv_at hl 2 rfl) ?_
            refine lv_iload_n hx hb dX11_stone_54 rfl (lv_at hl 3 rfl) ?_
            refine lv_iconst (v := 0) hx hb dX11_stone_55 (by decide) ?_
            refine lv_iload hx hb dX11_stone_56 (lv_at hl 4 rfl) ?_
            refine lv_iconst (v := (-1)) hx hb dX11_stone_58 (by decide) ?_
            obtain ⟨q_59, h_59, h⟩ := bnd_e h
            have pg_59 := preG (av := [.ref (ad 0), .int a1, .int a2, .int a3, .int ((0 : Int32)), .int a4, .int ((-1 : Int32))]) hK hw.1 hw.2.1 NM_keep NM_blind
            refine endI (mc := 0) (ms := 0) (va_runV (As := [.int a1, .int a2, .int a3, .int ((0 : Int32)), .int a4, .int ((-1 : Int32))]) (rest := []) ⟨hx, hb, hml, hown, hts⟩ (m11_comes l D ad cy H.size s11 a1 a2 a3 ((0 : Int32)) a4 ((-1 : Int32)) q_59 h_59) (wX11_259 1 hts ⟨Nat.le_of_ble_eq_true rfl, Nat.le_of_ble_eq_true rfl⟩) ⟨pg_59.1, va_recv hK hw.1 (ci := 11) (q0 := 0) rfl eM_0, pg_59.2⟩ rfl rfl hl.1 rfl (lv_room (Nat.le_of_ble_eq_true rfl)) dX11_stone_59 ⟨Nat.le_refl _, Nat.le_refl _⟩) hw.2.2 (afr_in hw.2.2) (fun H locs hw => ?_)
            refine lv_istore (lv' := [(6, .int q_59.1), (0, .ref (ad 0)), (1, .int a1), (2, .int a2), (3, .int a3), (4, .int a4), (5, .int a5)]) hx hb dX11_stone_62 hl (by decide) rfl (fun ls hl => ?_)
            refine lv_aload_n hx hb dX11_stone_64 rfl (lv_at hl 1 rfl) ?_
            refine gX11_35 hx hb hts hown hK hw dX11_stone_65 ?_
            refine lv_iload hx hb dX11_stone_68 (lv_at hl 0 rfl) ?_
            refine lv_iload hx hb dX11_stone_70 (lv_at hl 6 rfl) ?_
            obtain ⟨hi_72, h⟩ := chk_e h
            obtain ⟨s11_72, e_72, h⟩ := nam_e h
            refine aM9 hx hb hK hw hi_72 e_72 dX11_stone_72 (fun H locs hw => ?_)
            refine lv_aload_n hx hb dX11_stone_73 rfl (lv_at hl 1 rfl) ?_
            refine gX11_42 hx hb hts hown hK hw dX11_stone_74 ?_
            refine lv_iload_n hx hb dX11_stone_77 rfl (lv_at hl 2 rfl) ?_
            refine lv_dup2_11 hx hb dX11_stone_78 rfl rfl ?_
            obtain ⟨hi_79, h⟩ := chk_e h
            obtain ⟨y_79, e_79, h⟩ := nam_e h
            refine lM11 hx hb hK hw hi_79 e_79 dX11_stone_79 ?_
            refine lv_iload_n hx hb dX11_stone_80 rfl (lv_at hl 4 rfl) ?_
            refine lv_i2l hx hb dX11_stone_81 rfl ?_
            refine lv_ladd hx hb dX11_stone_82 ?_
            obtain ⟨hi_83, h⟩ := chk_e h
            obtain ⟨s11_83, e_83, h⟩ := nam_e h
            refine aM11 hx hb hK hw hi_83 e_83 dX11_stone_83 (fun H locs hw => ?_)
            refine lv_iload hx hb dX11_stone_84 (lv_at hl 0 rfl) ?_
            have h := Option.some.inj h
            subst h
            rw [← hQ]
            exact retI hx hb hr hlk hw rfl dX11_stone_86
          · have h := ite_t c_46 h
            exact hJ_49 s11 H locs ls h hw (lv_sub hl [] rfl)
theorem dX11_weightsAt_0 : decode cX11_weightsAt 0 = .ok (.lconst 0, 1) := by decide +kernel
theorem dX11_weightsAt_1 : decode cX11_weightsAt 1 = .ok (.lstore_n 3, 1) := by decide +kernel
theorem dX11_weightsAt_2 : decode cX11_weightsAt 2 = .ok (.iconst 0, 1) := by decide +kernel
theorem dX11_weightsAt_3 : decode cX11_weightsAt 3 = .ok (.istore 5, 2) := by decide +kernel
theorem dX11_weightsAt_5 : decode cX11_weightsAt 5 = .ok (.iload 5, 2) := by decide +kernel
theorem dX11_weightsAt_7 : decode cX11_weightsAt 7 = .ok (.aload_n 0, 1) := by decide +kernel
theorem dX11_weightsAt_8 : decode cX11_weightsAt 8 = .ok (.getfield 235, 3) := by decide +kernel
theorem dX11_weightsAt_11 : decode cX11_weightsAt 11 = .ok (.if_icmp .ge 46, 3) := by decide +kernel
theorem dX11_weightsAt_14 : decode cX11_weightsAt 14 = .ok (.lload_n 3, 1) := by decide +kernel
theorem dX11_weightsAt_15 : decode cX11_weightsAt 15 = .ok (.aload_n 0, 1) := by decide +kernel
theorem dX11_weightsAt_16 : decode cX11_weightsAt 16 = .ok (.getfield 13, 3) := by decide +kernel
theorem dX11_weightsAt_19 : decode cX11_weightsAt 19 = .ok (.iload 5, 2) := by decide +kernel
theorem dX11_weightsAt_21 : decode cX11_weightsAt 21 = .ok (.iaload, 1) := by decide +kernel
theorem dX11_weightsAt_22 : decode cX11_weightsAt 22 = .ok (.iload_n 1, 1) := by decide +kernel
theorem dX11_weightsAt_23 : decode cX11_weightsAt 23 = .ok (.if_icmp .ne 25, 3) := by decide +kernel
theorem dX11_weightsAt_26 : decode cX11_weightsAt 26 = .ok (.aload_n 0, 1) := by decide +kernel
theorem dX11_weightsAt_27 : decode cX11_weightsAt 27 = .ok (.getfield 26, 3) := by decide +kernel
theorem dX11_weightsAt_30 : decode cX11_weightsAt 30 = .ok (.iload 5, 2) := by decide +kernel
theorem dX11_weightsAt_32 : decode cX11_weightsAt 32 = .ok (.iaload, 1) := by decide +kernel
theorem dX11_weightsAt_33 : decode cX11_weightsAt 33 = .ok (.iload_n 2, 1) := by decide +kernel
theorem dX11_weightsAt_34 : decode cX11_weightsAt 34 = .ok (.if_icmp .ne 14, 3) := by decide +kernel
theorem dX11_weightsAt_37 : decode cX11_weightsAt 37 = .ok (.aload_n 0, 1) := by decide +kernel
theorem dX11_weightsAt_38 : decode cX11_weightsAt 38 = .ok (.getfield 20, 3) := by decide +kernel
theorem dX11_weightsAt_41 : decode cX11_weightsAt 41 = .ok (.iload 5, 2) := by decide +kernel
theorem dX11_weightsAt_43 : decode cX11_weightsAt 43 = .ok (.iaload, 1) := by decide +kernel
theorem dX11_weightsAt_44 : decode cX11_weightsAt 44 = .ok (.i2l, 1) := by decide +kernel
theorem dX11_weightsAt_45 : decode cX11_weightsAt 45 = .ok (.goto 4, 3) := by decide +kernel
theorem dX11_weightsAt_48 : decode cX11_weightsAt 48 = .ok (.lconst 0, 1) := by decide +kernel
theorem dX11_weightsAt_49 : decode cX11_weightsAt 49 = .ok (.ladd, 1) := by decide +kernel
theorem dX11_weightsAt_50 : decode cX11_weightsAt 50 = .ok (.lstore_n 3, 1) := by decide +kernel
theorem dX11_weightsAt_51 : decode cX11_weightsAt 51 = .ok (.iinc 5 1, 3) := by decide +kernel
theorem dX11_weightsAt_54 : decode cX11_weightsAt 54 = .ok (.goto (-49), 3) := by decide +kernel
theorem dX11_weightsAt_57 : decode cX11_weightsAt 57 = .ok (.lload_n 3, 1) := by decide +kernel
theorem dX11_weightsAt_58 : decode cX11_weightsAt 58 = .ok (.lreturn, 1) := by decide +kernel
noncomputable def f11_weightsAt_j49 (v1_j49 : Int32) (v2_j49 : Int32) (v5_j49 : Int32) (k0_j49 : Int64) (k1_j49 : Int64) (s11_j49 : OS) : Option ((Int64 × Int32) ⊕ (Int64)) := nm ((k0_j49 + k1_j49)) fun n_50 => nm (v5_j49 + (1 : Int32)) fun n_51 => some (Sum.inl (n_50, n_51))
noncomputable def f11_weightsAt_j48 (v1_j48 : Int32) (v2_j48 : Int32) (v5_j48 : Int32) (k0_j48 : Int64) (s11_j48 : OS) : Option ((Int64 × Int32) ⊕ (Int64)) := f11_weightsAt_j49 v1_j48 v2_j48 v5_j48 k0_j48 ((0 : Int64)) s11_j48
noncomputable def f11_weightsAt_l5 (v1_i5 : Int32) (v2_i5 : Int32) (s11_i5 : OS) : Int64 × Int32 → Option ((Int64 × Int32) ⊕ (Int64)) := fun t_5 => if (s11_i5.1 0 3) ≤ t_5.2 then (Option.map Sum.inr (some t_5.1)) else (chk (inb t_5.2 150) (nm (s11_i5.1 12 t_5.2.toNatClampNeg) fun y_21 => if y_21 = v1_i5 then (chk (inb t_5.2 150) (nm (s11_i5.1 16 t_5.2.toNatClampNeg) fun y_32 => if y_32 = v2_i5 then (chk (inb t_5.2 150) (nm (s11_i5.1 14 t_5.2.toNatClampNeg) fun y_43 => f11_weightsAt_j49 v1_i5 v2_i5 t_5.2 t_5.1 ((y_43).toInt64) s11_i5)) else (f11_weightsAt_j48 v1_i5 v2_i5 t_5.2 t_5.1 s11_i5))) else (f11_weightsAt_j48 v1_i5 v2_i5 t_5.2 t_5.1 s11_i5)))
noncomputable def f11_weightsAt (a1 : Int32) (a2 : Int32) (s11 : OS) : Option (Int64) := loop (f11_weightsAt_l5 a1 a2 s11) ((0 : Int64), (0 : Int32))
set_option maxHeartbeats 4000000 in
set_option maxRecDepth 100000 in
theorem m11_weightsAt (l : Launch) (D : va_G) (ad : Nat → Nat) (cy : Nat → ClassId) (sz : Nat) (s11 : OS) (a1 : Int32) (a2 : Int32) (r : Int64) (h : f11_weightsAt a1 a2 s11 = some r) : Met l yX11_weightsAt (wsOf yX11_weightsAt cX11_weightsAt 6 (some .long)) (rmL 0) (va_Pc ([.ref (ad 0), .int a1, .int a2] : List Value) (PreG D cy (cellsM ad cy s11) sz NM)) (QcL D ad 66 (cellsM ad cy s11) (r) sz) 0 0 (Afr ad 66 sz) := by
  refine metG (own := RX11) (by decide) rfl (Nat.le_of_ble_eq_true rfl) fstM ?_ sz
  intro p e s m below meth c ls C0 hw hl
  obtain ⟨hx, hb, hml, hown, hts, hr, hlk, hK, hN⟩ := C0
  have hl : lv_has ls 6 [(0, .ref (ad 0)), (1, .int a1), (2, .int a2)] := hl
  generalize hQ : MQ below (QcL D ad 66 (cellsM ad cy s11) (r) s.heap.size) ([.ref (ad 0), .int a1, .int a2] : List Value).toArray s 0 0 (Afr ad 66 s.heap.size) = Q
  obtain ⟨H, hH⟩ : ∃ H : Heap, H = s.heap := ⟨_, rfl⟩
  obtain ⟨locs, hlc⟩ : ∃ L : List Loc, L = [] := ⟨_, rfl⟩
  have hw : Wd D (cellsM ad cy s11) (Afr ad 66 s.heap.size) s.heap H locs := by rw [hH, hlc]; exact hw
  suffices h0 : W p l e (rmL 0) s m ([.ref (ad 0), .int a1, .int a2] : List Value).toArray below meth c H locs 0 0 Q (F0 m 0 ls []) by rw [hH, hlc] at h0; exact h0
  clear hH hlc
  unfold f11_weightsAt at h
  refine lv_lconst (v := 0) hx hb dX11_weightsAt_0 (by decide) ?_
  refine lv_lstore_n (lv' := [(3, .long ((0 : Int64))), (0, .ref (ad 0)), (1, .int a1), (2, .int a2)]) hx hb dX11_weightsAt_1 rfl hl (by decide) rfl (fun ls hl => ?_)
  refine lv_iconst (v := 0) hx hb dX11_weightsAt_2 (by decide) ?_
  refine lv_istore (lv' := [(5, .int ((0 : Int32))), (3, .long ((0 : Int64))), (0, .ref (ad 0)), (1, .int a1), (2, .int a2)]) hx hb dX11_weightsAt_3 hl (by decide) rfl (fun ls hl => ?_)
  obtain ⟨n_5, hn_5⟩ := loop_e h
  have hL_5 : ∀ (n : Nat) (t_5 : Int64 × Int32) (H : Heap) (locs : List Loc) (ls : Array Slot), loopN (f11_weightsAt_l5 a1 a2 s11) n t_5 = some r → Wd D (cellsM ad cy s11) (Afr ad 66 s.heap.size) s.heap H locs → lv_has ls 6 [(3, .long t_5.1), (5, .int t_5.2), (1, .int a1), (2, .int a2), (0, .ref (ad 0))] → W p l e (rmL 0) s m ([.ref (ad 0), .int a1, .int a2] : List Value).toArray below meth c H locs 0 0 Q (F0 m 5 ls []) := by
    intro n
    induction n with
    | zero => intro t_5 H locs ls hn; cases hn
    | succ n ih_5 =>
      intro t_5 H locs ls hn hw hl
      obtain ⟨x_5, h, hx_5⟩ := loopN_e hn
      unfold f11_weightsAt_l5 at h
      have hJ_49 : ∀ (v5_j49 : Int32) (k0_j49 : Int64) (k1_j49 : Int64) (H : Heap) (locs : List Loc) (ls : Array Slot), f11_weightsAt_j49 a1 a2 v5_j49 k0_j49 k1_j49 s11 = some x_5 → Wd D (cellsM ad cy s11) (Afr ad 66 s.heap.size) s.heap H locs → lv_has ls 6 [(0, .ref (ad 0)), (1, .int a1), (2, .int a2), (5, .int v5_j49)] → W p l e (rmL 0) s m ([.ref (ad 0), .int a1, .int a2] : List Value).toArray below meth c H locs 0 0 Q (F0 m 49 ls [.long k1_j49, .long k0_j49]) := by
        intro v5_j49 k0_j49 k1_j49 H locs ls h hw hl
        unfold f11_weightsAt_j49 at h
        refine lv_ladd hx hb dX11_weightsAt_49 ?_
        obtain ⟨n_50, e_50, h⟩ := nam_e h
        refine topL e_50 ?_
        refine lv_lstore_n (lv' := [(3, .long n_50), (0, .ref (ad 0)), (1, .int a1), (2, .int a2), (5, .int v5_j49)]) hx hb dX11_weightsAt_50 rfl hl (by decide) rfl (fun ls hl => ?_)
        obtain ⟨n_51, e_51, h⟩ := nam_e h
        refine lv_iinc (v := n_51) (lv' := [(5, .int n_51), (3, .long n_50), (0, .ref (ad 0)), (1, .int a1), (2, .int a2)]) hx hb dX11_weightsAt_51 hl (k := 4) rfl (by rw [e_51]; rfl) (by decide) rfl (fun ls hl => ?_)
        refine lv_goto (tgt := 5) hx hb dX11_weightsAt_54 (by decide) ?_
        exact ih_5 (n_50, n_51) H locs ls (nx_l hx_5 h) hw (lv_sub hl [1, 0, 3, 4, 2] rfl)
      have hJ_48 : ∀ (v5_j48 : Int32) (k0_j48 : Int64) (H : Heap) (locs : List Loc) (ls : Array Slot), f11_weightsAt_j48 a1 a2 v5_j48 k0_j48 s11 = some x_5 → Wd D (cellsM ad cy s11) (Afr ad 66 s.heap.size) s.heap H locs → lv_has ls 6 [(0, .ref (ad 0)), (1, .int a1), (2, .int a2), (5, .int v5_j48)] → W p l e (rmL 0) s m ([.ref (ad 0), .int a1, .int a2] : List Value).toArray below meth c H locs 0 0 Q (F0 m 48 ls [.long k0_j48]) := by
        intro v5_j48 k0_j48 H locs ls h hw hl
        unfold f11_weightsAt_j48 at h
        refine lv_lconst (v := 0) hx hb dX11_weightsAt_48 (by decide) ?_
        exact hJ_49 v5_j48 k0_j48 ((0 : Int64)) H locs ls h hw (lv_sub hl [0, 1, 2, 3] rfl)
      refine lv_iload hx hb dX11_weightsAt_5 (lv_at hl 1 rfl) ?_
      refine lv_aload_n hx hb dX11_weightsAt_7 rfl (lv_at hl 4 rfl) ?_
      refine gX11_235 hx hb hts hown hK hw dX11_weightsAt_8 ?_
      refine lv_icmp_ge (tgt := 57) hx hb dX11_weightsAt_11 (by decide) (fun c_11 => ?_) (fun c_11 => ?_)
      · have h := ite_t c_11 h
        have h := nx_m hx_5 h
        refine lv_lload_n hx hb dX11_weightsAt_57 rfl (lv_at hl 0 rfl) ?_
        have h := Option.some.inj h
        subst h
        rw [← hQ]
        exact retL hx hb hr hlk hw dX11_weightsAt_58
      · have h := ite_f c_11 h
        refine lv_lload_n hx hb dX11_weightsAt_14 rfl (lv_at hl 0 rfl) ?_
        refine lv_aload_n hx hb dX11_weightsAt_15 rfl (lv_at hl 4 rfl) ?_
        refine gX11_13 hx hb hts hown hK hw dX11_weightsAt_16 ?_
        refine lv_iload hx hb dX11_weightsAt_19 (lv_at hl 1 rfl) ?_
        obtain ⟨hi_21, h⟩ := chk_e h
        obtain ⟨y_21, e_21, h⟩ := nam_e h
        refine lM2 hx hb hK hw hi_21 e_21 dX11_weightsAt_21 ?_
        refine lv_iload_n hx hb dX11_weightsAt_22 rfl (lv_at hl 2 rfl) ?_
        refine lv_icmp_ne (tgt := 48) hx hb dX11_weightsAt_23 (by decide) (fun c_23 => ?_) (fun c_23 => ?_)
        · have h := ite_f c_23 h
          exact hJ_48 t_5.2 t_5.1 H locs ls h hw (lv_sub hl [4, 2, 3, 1] rfl)
        · have h := ite_t c_23 h
          refine lv_aload_n hx hb dX11_weightsAt_26 rfl (lv_at hl 4 rfl) ?_
          refine gX11_26 hx hb hts hown hK hw dX11_weightsAt_27 ?_
          refine lv_iload hx hb dX11_weightsAt_30 (lv_at hl 1 rfl) ?_
          obtain ⟨hi_32, h⟩ := chk_e h
          obtain ⟨y_32, e_32, h⟩ := nam_e h
          refine lM6 hx hb hK hw hi_32 e_32 dX11_weightsAt_32 ?_
          refine lv_iload_n hx hb dX11_weightsAt_33 rfl (lv_at hl 3 rfl) ?_
          refine lv_icmp_ne (tgt := 48) hx hb dX11_weightsAt_34 (by decide) (fun c_34 => ?_) (fun c_34 => ?_)
          · have h := ite_f c_34 h
            exact hJ_48 t_5.2 t_5.1 H locs ls h hw (lv_sub hl [4, 2, 3, 1] rfl)
          · have h := ite_t c_34 h
            refine lv_aload_n hx hb dX11_weightsAt_37 rfl (lv_at hl 4 rfl) ?_
            refine gX11_20 hx hb hts hown hK hw dX11_weightsAt_38 ?_
            refine lv_iload hx hb dX11_weightsAt_41 (lv_at hl 1 rfl) ?_
            obtain ⟨hi_43, h⟩ := chk_e h
            obtain ⟨y_43, e_43, h⟩ := nam_e h
            refine lM4 hx hb hK hw hi_43 e_43 dX11_weightsAt_43 ?_
            refine lv_i2l hx hb dX11_weightsAt_44 rfl ?_
            refine lv_goto (tgt := 49) hx hb dX11_weightsAt_45 (by decide) ?_
            exact hJ_49 t_5.2 t_5.1 ((y_43).toInt64) H locs ls h hw (lv_sub hl [4, 2, 3, 1] rfl)
  exact hL_5 n_5 ((0 : Int64), (0 : Int32)) H locs ls hn_5 hw (lv_sub hl [1, 0, 3, 4, 2] rfl)
theorem dX11_sumOf_0 : decode cX11_sumOf 0 = .ok (.iload_n 2, 1) := by decide +kernel
theorem dX11_sumOf_1 : decode cX11_sumOf 1 = .ok (.tableswitch 95 0 6 #[43, 50, 58, 66, 74, 81, 88], 43) := by decide +kernel
theorem dX11_sumOf_44 : decode cX11_sumOf 44 = .ok (.aload_n 0, 1) := by decide +kernel
theorem dX11_sumOf_45 : decode cX11_sumOf 45 = .ok (.getfield 42, 3) := by decide +kernel
theorem dX11_sumOf_48 : decode cX11_sumOf 48 = .ok (.iload_n 1, 1) := by decide +kernel
theorem dX11_sumOf_49 : decode cX11_sumOf 49 = .ok (.laload, 1) := by decide +kernel
theorem dX11_sumOf_50 : decode cX11_sumOf 50 = .ok (.lreturn, 1) := by decide +kernel
theorem dX11_sumOf_51 : decode cX11_sumOf 51 = .ok (.aload_n 0, 1) := by decide +kernel
theorem dX11_sumOf_52 : decode cX11_sumOf 52 = .ok (.iload_n 1, 1) := by decide +kernel
theorem dX11_sumOf_53 : decode cX11_sumOf 53 = .ok (.iconst 0, 1) := by decide +kernel
theorem dX11_sumOf_54 : decode cX11_sumOf 54 = .ok (.iconst (-1), 1) := by decide +kernel
theorem dX11_sumOf_55 : decode cX11_sumOf 55 = .ok (.invokevirtual 411, 3) := by decide +kernel
theorem dX11_sumOf_58 : decode cX11_sumOf 58 = .ok (.lreturn, 1) := by decide +kernel
theorem dX11_sumOf_59 : decode cX11_sumOf 59 = .ok (.aload_n 0, 1) := by decide +kernel
theorem dX11_sumOf_60 : decode cX11_sumOf 60 = .ok (.iload_n 1, 1) := by decide +kernel
theorem dX11_sumOf_61 : decode cX11_sumOf 61 = .ok (.bipush 10, 2) := by decide +kernel
theorem dX11_sumOf_63 : decode cX11_sumOf 63 = .ok (.invokevirtual 542, 3) := by decide +kernel
theorem dX11_sumOf_66 : decode cX11_sumOf 66 = .ok (.lreturn, 1) := by decide +kernel
theorem dX11_sumOf_67 : decode cX11_sumOf 67 = .ok (.aload_n 0, 1) := by decide +kernel
theorem dX11_sumOf_68 : decode cX11_sumOf 68 = .ok (.iload_n 1, 1) := by decide +kernel
theorem dX11_sumOf_69 : decode cX11_sumOf 69 = .ok (.bipush 11, 2) := by decide +kernel
theorem dX11_sumOf_71 : decode cX11_sumOf 71 = .ok (.invokevirtual 542, 3) := by decide +kernel
theorem dX11_sumOf_74 : decode cX11_sumOf 74 = .ok (.lreturn, 1) := by decide +kernel
theorem dX11_sumOf_75 : decode cX11_sumOf 75 = .ok (.aload_n 0, 1) := by decide +kernel
theorem dX11_sumOf_76 : decode cX11_sumOf 76 = .ok (.getfield 46, 3) := by decide +kernel
theorem dX11_sumOf_79 : decode cX11_sumOf 79 = .ok (.iload_n 1, 1) := by decide +kernel
theorem dX11_sumOf_80 : decode cX11_sumOf 80 = .ok (.laload, 1) := by decide +kernel
theorem dX11_sumOf_81 : decode cX11_sumOf 81 = .ok (.lreturn, 1) := by decide +kernel
theorem dX11_sumOf_82 : decode cX11_sumOf 82 = .ok (.aload_n 0, 1) := by decide +kernel
theorem dX11_sumOf_83 : decode cX11_sumOf 83 = .ok (.getfield 49, 3) := by decide +kernel
theorem dX11_sumOf_86 : decode cX11_sumOf 86 = .ok (.iload_n 1, 1) := by decide +kernel
theorem dX11_sumOf_87 : decode cX11_sumOf 87 = .ok (.laload, 1) := by decide +kernel
theorem dX11_sumOf_88 : decode cX11_sumOf 88 = .ok (.lreturn, 1) := by decide +kernel
theorem dX11_sumOf_89 : decode cX11_sumOf 89 = .ok (.aload_n 0, 1) := by decide +kernel
theorem dX11_sumOf_90 : decode cX11_sumOf 90 = .ok (.getfield 52, 3) := by decide +kernel
theorem dX11_sumOf_93 : decode cX11_sumOf 93 = .ok (.iload_n 1, 1) := by decide +kernel
theorem dX11_sumOf_94 : decode cX11_sumOf 94 = .ok (.laload, 1) := by decide +kernel
theorem dX11_sumOf_95 : decode cX11_sumOf 95 = .ok (.lreturn, 1) := by decide +kernel
theorem dX11_sumOf_96 : decode cX11_sumOf 96 = .ok (.aload_n 0, 1) := by decide +kernel
theorem dX11_sumOf_97 : decode cX11_sumOf 97 = .ok (.iload_n 1, 1) := by decide +kernel
theorem dX11_sumOf_98 : decode cX11_sumOf 98 = .ok (.iconst 1, 1) := by decide +kernel
theorem dX11_sumOf_99 : decode cX11_sumOf 99 = .ok (.iconst (-1), 1) := by decide +kernel
theorem dX11_sumOf_100 : decode cX11_sumOf 100 = .ok (.invokevirtual 411, 3) := by decide +kernel
theorem dX11_sumOf_103 : decode cX11_sumOf 103 = .ok (.lreturn, 1) := by decide +kernel
noncomputable def f11_sumOf (a1 : Int32) (a2 : Int32) (s11 : OS) : Option (Int64) := if a2 = 0 then (chk (inb a1 8) (nm (s11.2 21 a1.toNatClampNeg) fun y_49 => some y_49)) else if a2 = 1 then (Option.bind (f11_inCabinets a1 ((0 : Int32)) ((-1 : Int32)) s11) fun q_55 => some q_55) else if a2 = 2 then (Option.bind (f11_weightsAt a1 ((10 : Int32)) s11) fun q_63 => some q_63) else if a2 = 3 then (Option.bind (f11_weightsAt a1 ((11 : Int32)) s11) fun q_71 => some q_71) else if a2 = 4 then (chk (inb a1 8) (nm (s11.2 22 a1.toNatClampNeg) fun y_80 => some y_80)) else if a2 = 5 then (chk (inb a1 8) (nm (s11.2 23 a1.toNatClampNeg) fun y_87 => some y_87)) else if a2 = 6 then (chk (inb a1 8) (nm (s11.2 24 a1.toNatClampNeg) fun y_94 => some y_94)) else (Option.bind (f11_inCabinets a1 ((1 : Int32)) ((-1 : Int32)) s11) fun q_100 => some q_100)
set_option maxHeartbeats 4000000 in
set_option maxRecDepth 100000 in
theorem m11_sumOf (l : Launch) (D : va_G) (ad : Nat → Nat) (cy : Nat → ClassId) (sz : Nat) (s11 : OS) (a1 : Int32) (a2 : Int32) (r : Int64) (h : f11_sumOf a1 a2 s11 = some r) : Met l yX11_sumOf (wsOf yX11_sumOf cX11_sumOf 3 (some .long)) (rmL 1) (va_Pc ([.ref (ad 0), .int a1, .int a2] : List Value) (PreG D cy (cellsM ad cy s11) sz NM)) (QcL D ad 66 (cellsM ad cy s11) (r) sz) 0 0 (Afr ad 66 sz) := by
  refine metG (own := RX11) (by decide) rfl (Nat.le_of_ble_eq_true rfl) fstM ?_ sz
  intro p e s m below meth c ls C0 hw hl
  obtain ⟨hx, hb, hml, hown, hts, hr, hlk, hK, hN⟩ := C0
  have hl : lv_has ls 3 [(0, .ref (ad 0)), (1, .int a1), (2, .int a2)] := hl
  generalize hQ : MQ below (QcL D ad 66 (cellsM ad cy s11) (r) s.heap.size) ([.ref (ad 0), .int a1, .int a2] : List Value).toArray s 0 0 (Afr ad 66 s.heap.size) = Q
  obtain ⟨H, hH⟩ : ∃ H : Heap, H = s.heap := ⟨_, rfl⟩
  obtain ⟨locs, hlc⟩ : ∃ L : List Loc, L = [] := ⟨_, rfl⟩
  have hw : Wd D (cellsM ad cy s11) (Afr ad 66 s.heap.size) s.heap H locs := by rw [hH, hlc]; exact hw
  suffices h0 : W p l e (rmL 1) s m ([.ref (ad 0), .int a1, .int a2] : List Value).toArray below meth c H locs 0 0 Q (F0 m 0 ls []) by rw [hH, hlc] at h0; exact h0
  clear hH hlc
  unfold f11_sumOf at h
  refine lv_iload_n hx hb dX11_sumOf_0 rfl (lv_at hl 2 rfl) ?_
  have q_1 : ∀ tgt : Nat, W p l e (rmL 1) s m ([.ref (ad 0), .int a1, .int a2] : List Value).toArray below meth c H locs 0 0 Q (F0 m tgt ls []) → W p l e (rmL 1) s m ([.ref (ad 0), .int a1, .int a2] : List Value).toArray below meth c H locs 0 0 Q (F0 m tgt ls []) := fun _ z => z
  by_cases c_1_0 : a2 = 0
  · have h := ite_t c_1_0 h
    refine lv_tableIn (off := 43) (tgt := 44) hx hb dX11_sumOf_1 (by rw [c_1_0]; decide) (by rw [c_1_0]; decide) (by rw [c_1_0]; rfl) (by decide) ?_
    refine lv_aload_n hx hb dX11_sumOf_44 rfl (lv_at hl 0 rfl) ?_
    refine gX11_42 hx hb hts hown hK hw dX11_sumOf_45 ?_
    refine lv_iload_n hx hb dX11_sumOf_48 rfl (lv_at hl 1 rfl) ?_
    obtain ⟨hi_49, h⟩ := chk_e h
    obtain ⟨y_49, e_49, h⟩ := nam_e h
    refine lM11 hx hb hK hw hi_49 e_49 dX11_sumOf_49 ?_
    have h := Option.some.inj h
    subst h
    rw [← hQ]
    exact retL hx hb hr hlk hw dX11_sumOf_50
  have h := ite_f c_1_0 h
  by_cases c_1_1 : a2 = 1
  · have h := ite_t c_1_1 h
    refine lv_tableIn (off := 50) (tgt := 51) hx hb dX11_sumOf_1 (by rw [c_1_1]; decide) (by rw [c_1_1]; decide) (by rw [c_1_1]; rfl) (by decide) ?_
    refine lv_aload_n hx hb dX11_sumOf_51 rfl (lv_at hl 0 rfl) ?_
    refine lv_iload_n hx hb dX11_sumOf_52 rfl (lv_at hl 1 rfl) ?_
    refine lv_iconst (v := 0) hx hb dX11_sumOf_53 (by decide) ?_
    refine lv_iconst (v := (-1)) hx hb dX11_sumOf_54 (by decide) ?_
    obtain ⟨q_55, h_55, h⟩ := bnd_e h
    have pg_55 := preG (av := [.ref (ad 0), .int a1, .int ((0 : Int32)), .int ((-1 : Int32))]) hK hw.1 hw.2.1 NM_keep NM_blind
    refine endL (mc := 0) (ms := 0) (va_runV (As := [.int a1, .int ((0 : Int32)), .int ((-1 : Int32))]) (rest := []) ⟨hx, hb, hml, hown, hts⟩ (m11_inCabinets l D ad cy H.size s11 a1 ((0 : Int32)) ((-1 : Int32)) q_55 h_55) (wX11_411 0 hts ⟨Nat.le_of_ble_eq_true rfl, Nat.le_of_ble_eq_true rfl⟩) ⟨pg_55.1, va_recv hK hw.1 (ci := 11) (q0 := 0) rfl eM_0, pg_55.2⟩ rfl rfl hl.1 rfl (lv_room (Nat.le_of_ble_eq_true rfl)) dX11_sumOf_55 ⟨Nat.le_refl _, Nat.le_refl _⟩) hw.2.2 (afr_in hw.2.2) (fun H locs hw => ?_)
    have h := Option.some.inj h
    subst h
    rw [← hQ]
    exact retL hx hb hr hlk hw dX11_sumOf_58
  have h := ite_f c_1_1 h
  by_cases c_1_2 : a2 = 2
  · have h := ite_t c_1_2 h
    refine lv_tableIn (off := 58) (tgt := 59) hx hb dX11_sumOf_1 (by rw [c_1_2]; decide) (by rw [c_1_2]; decide) (by rw [c_1_2]; rfl) (by decide) ?_
    refine lv_aload_n hx hb dX11_sumOf_59 rfl (lv_at hl 0 rfl) ?_
    refine lv_iload_n hx hb dX11_sumOf_60 rfl (lv_at hl 1 rfl) ?_
    refine lv_bipush (v := 10) hx hb dX11_sumOf_61 (by decide) ?_
    obtain ⟨q_63, h_63, h⟩ := bnd_e h
    have pg_63 := preG (av := [.ref (ad 0), .int a1, .int ((10 : Int32))]) hK hw.1 hw.2.1 NM_keep NM_blind
    refine endL (mc := 0) (ms := 0) (va_runV (As := [.int a1, .int ((10 : Int32))]) (rest := []) ⟨hx, hb, hml, hown, hts⟩ (m11_weightsAt l D ad cy H.size s11 a1 ((10 : Int32)) q_63 h_63) (wX11_542 0 hts ⟨Nat.le_of_ble_eq_true rfl, Nat.le_of_ble_eq_true rfl⟩) ⟨pg_63.1, va_recv hK hw.1 (ci := 11) (q0 := 0) rfl eM_0, pg_63.2⟩ rfl rfl hl.1 rfl (lv_room (Nat.le_of_ble_eq_true rfl)) dX11_sumOf_63 ⟨Nat.le_refl _, Nat.le_refl _⟩) hw.2.2 (afr_in hw.2.2) (fun H locs hw => ?_)
    have h := Option.some.inj h
    subst h
    rw [← hQ]
    exact retL hx hb hr hlk hw dX11_sumOf_66
  have h := ite_f c_1_2 h
  by_cases c_1_3 : a2 = 3
  · have h := ite_t c_1_3 h
    refine lv_tableIn (off := 66) (tgt := 67) hx hb dX11_sumOf_1 (by rw [c_1_3]; decide) (by rw [c_1_3]; decide) (by rw [c_1_3]; rfl) (by decide) ?_
    refine lv_aload_n hx hb dX11_sumOf_67 rfl (lv_at hl 0 rfl) ?_
    refine lv_iload_n hx hb dX11_sumOf_68 rfl (lv_at hl 1 rfl) ?_
    refine lv_bipush (v := 11) hx hb dX11_sumOf_69 (by decide) ?_
    obtain ⟨q_71, h_71, h⟩ := bnd_e h
    have pg_71 := preG (av := [.ref (ad 0), .int a1, .int ((11 : Int32))]) hK hw.1 hw.2.1 NM_keep NM_blind
    refine endL (mc := 0) (ms := 0) (va_runV (As := [.int a1, .int ((11 : Int32))]) (rest := []) ⟨hx, hb, hml, hown, hts⟩ (m11_weightsAt l D ad cy H.size s11 a1 ((11 : Int32)) q_71 h_71) (wX11_542 0 hts ⟨Nat.le_of_ble_eq_true rfl, Nat.le_of_ble_eq_true rfl⟩) ⟨pg_71.1, va_recv hK hw.1 (ci := 11) (q0 := 0) rfl eM_0, pg_71.2⟩ rfl rfl hl.1 rfl (lv_room (Nat.le_of_ble_eq_true rfl)) dX11_sumOf_71 ⟨Nat.le_refl _, Nat.le_refl _⟩) hw.2.2 (afr_in hw.2.2) (fun H locs hw => ?_)
    have h := Option.some.inj h
    subst h
    rw [← hQ]
    exact retL hx hb hr hlk hw dX11_sumOf_74
  have h := ite_f c_1_3 h
  by_cases c_1_4 : a2 = 4
  · have h := ite_t c_1_4 h
    refine lv_tableIn (off := 74) (tgt := 75) hx hb dX11_sumOf_1 (by rw [c_1_4]; decide) (by rw [c_1_4]; decide) (by rw [c_1_4]; rfl) (by decide) ?_
    refine lv_aload_n hx hb dX11_sumOf_75 rfl (lv_at hl 0 rfl) ?_
    refine gX11_46 hx hb hts hown hK hw dX11_sumOf_76 ?_
    refine lv_iload_n hx hb dX11_sumOf_79 rfl (lv_at hl 1 rfl) ?_
    obtain ⟨hi_80, h⟩ := chk_e h
    obtain ⟨y_80, e_80, h⟩ := nam_e h
    refine lM12 hx hb hK hw hi_80 e_80 dX11_sumOf_80 ?_
    have h := Option.some.inj h
    subst h
    rw [← hQ]
    exact retL hx hb hr hlk hw dX11_sumOf_81
  have h := ite_f c_1_4 h
  by_cases c_1_5 : a2 = 5
  · have h := ite_t c_1_5 h
    refine lv_tableIn (off := 81) (tgt := 82) hx hb dX11_sumOf_1 (by rw [c_1_5]; decide) (by rw [c_1_5]; decide) (by rw [c_1_5]; rfl) (by decide) ?_
    refine lv_aload_n hx hb dX11_sumOf_82 rfl (lv_at hl 0 rfl) ?_
    refine gX11_49 hx hb hts hown hK hw dX11_sumOf_83 ?_
    refine lv_iload_n hx hb dX11_sumOf_86 rfl (lv_at hl 1 rfl) ?_
    obtain ⟨hi_87, h⟩ := chk_e h
    obtain ⟨y_87, e_87, h⟩ := nam_e h
    refine lM13 hx hb hK hw hi_87 e_87 dX11_sumOf_87 ?_
    have h := Option.some.inj h
    subst h
    rw [← hQ]
    exact retL hx hb hr hlk hw dX11_sumOf_88
  have h := ite_f c_1_5 h
  by_cases c_1_6 : a2 = 6
  · have h := ite_t c_1_6 h
    refine lv_tableIn (off := 88) (tgt := 89) hx hb dX11_sumOf_1 (by rw [c_1_6]; decide) (by rw [c_1_6]; decide) (by rw [c_1_6]; rfl) (by decide) ?_
    refine lv_aload_n hx hb dX11_sumOf_89 rfl (lv_at hl 0 rfl) ?_
    refine gX11_52 hx hb hts hown hK hw dX11_sumOf_90 ?_
    refine lv_iload_n hx hb dX11_sumOf_93 rfl (lv_at hl 1 rfl) ?_
    obtain ⟨hi_94, h⟩ := chk_e h
    obtain ⟨y_94, e_94, h⟩ := nam_e h
    refine lM14 hx hb hK hw hi_94 e_94 dX11_sumOf_94 ?_
    have h := Option.some.inj h
    subst h
    rw [← hQ]
    exact retL hx hb hr hlk hw dX11_sumOf_95
  have h := ite_f c_1_6 h
  refine lv_tableOut (tgt := 96) hx hb dX11_sumOf_1 (by have := lv_neT c_1_0 (a := 0) rfl; have := lv_neT c_1_1 (a := 1) rfl; have := lv_neT c_1_2 (a := 2) rfl; have := lv_neT c_1_3 (a := 3) rfl; have := lv_neT c_1_4 (a := 4) rfl; have := lv_neT c_1_5 (a := 5) rfl; have := lv_neT c_1_6 (a := 6) rfl; omega) (by decide) ?_
  refine lv_aload_n hx hb dX11_sumOf_96 rfl (lv_at hl 0 rfl) ?_
  refine lv_iload_n hx hb dX11_sumOf_97 rfl (lv_at hl 1 rfl) ?_
  refine lv_iconst (v := 1) hx hb dX11_sumOf_98 (by decide) ?_
  refine lv_iconst (v := (-1)) hx hb dX11_sumOf_99 (by decide) ?_
  obtain ⟨q_100, h_100, h⟩ := bnd_e h
  have pg_100 := preG (av := [.ref (ad 0), .int a1, .int ((1 : Int32)), .int ((-1 : Int32))]) hK hw.1 hw.2.1 NM_keep NM_blind
  refine endL (mc := 0) (ms := 0) (va_runV (As := [.int a1, .int ((1 : Int32)), .int ((-1 : Int32))]) (rest := []) ⟨hx, hb, hml, hown, hts⟩ (m11_inCabinets l D ad cy H.size s11 a1 ((1 : Int32)) ((-1 : Int32)) q_100 h_100) (wX11_411 0 hts ⟨Nat.le_of_ble_eq_true rfl, Nat.le_of_ble_eq_true rfl⟩) ⟨pg_100.1, va_recv hK hw.1 (ci := 11) (q0 := 0) rfl eM_0, pg_100.2⟩ rfl rfl hl.1 rfl (lv_room (Nat.le_of_ble_eq_true rfl)) dX11_sumOf_100 ⟨Nat.le_refl _, Nat.le_refl _⟩) hw.2.2 (afr_in hw.2.2) (fun H locs hw => ?_)
  have h := Option.some.inj h
  subst h
  rw [← hQ]
  exact retL hx hb hr hlk hw dX11_sumOf_103
theorem dX11_sum_0 : decode cX11_sum 0 = .ok (.iload_n 1, 1) := by decide +kernel
theorem dX11_sum_1 : decode cX11_sum 1 = .ok (.i2l, 1) := by decide +kernel
theorem dX11_sum_2 : decode cX11_sum 2 = .ok (.ldc2_w 537, 3) := by decide +kernel
theorem dX11_sum_5 : decode cX11_sum 5 = .ok (.ldc2_w 223, 3) := by decide +kernel
theorem dX11_sum_8 : decode cX11_sum 8 = .ok (.invokestatic 215, 3) := by decide +kernel
theorem dX11_sum_11 : decode cX11_sum 11 = .ok (.ifCond .eq 15, 3) := by decide +kernel
theorem dX11_sum_14 : decode cX11_sum 14 = .ok (.iload_n 2, 1) := by decide +kernel
theorem dX11_sum_15 : decode cX11_sum 15 = .ok (.i2l, 1) := by decide +kernel
theorem dX11_sum_16 : decode cX11_sum 16 = .ok (.lconst 0, 1) := by decide +kernel
theorem dX11_sum_17 : decode cX11_sum 17 = .ok (.ldc2_w 223, 3) := by decide +kernel
theorem dX11_sum_20 : decode cX11_sum 20 = .ok (.invokestatic 215, 3) := by decide +kernel
theorem dX11_sum_23 : decode cX11_sum 23 = .ok (.ifCond .ne 7, 3) := by decide +kernel
theorem dX11_sum_26 : decode cX11_sum 26 = .ok (.ldc2_w 537, 3) := by decide +kernel
theorem dX11_sum_29 : decode cX11_sum 29 = .ok (.lreturn, 1) := by decide +kernel
theorem dX11_sum_30 : decode cX11_sum 30 = .ok (.iload_n 1, 1) := by decide +kernel
theorem dX11_sum_31 : decode cX11_sum 31 = .ok (.iconst (-1), 1) := by decide +kernel
theorem dX11_sum_32 : decode cX11_sum 32 = .ok (.if_icmp .eq 10, 3) := by decide +kernel
theorem dX11_sum_35 : decode cX11_sum 35 = .ok (.aload_n 0, 1) := by decide +kernel
theorem dX11_sum_36 : decode cX11_sum 36 = .ok (.iload_n 1, 1) := by decide +kernel
theorem dX11_sum_37 : decode cX11_sum 37 = .ok (.iload_n 2, 1) := by decide +kernel
theorem dX11_sum_38 : decode cX11_sum 38 = .ok (.invokevirtual 546, 3) := by decide +kernel
theorem dX11_sum_41 : decode cX11_sum 41 = .ok (.lreturn, 1) := by decide +kernel
theorem dX11_sum_42 : decode cX11_sum 42 = .ok (.lconst 0, 1) := by decide +kernel
theorem dX11_sum_43 : decode cX11_sum 43 = .ok (.lstore_n 3, 1) := by decide +kernel
theorem dX11_sum_44 : decode cX11_sum 44 = .ok (.iconst 0, 1) := by decide +kernel
theorem dX11_sum_45 : decode cX11_sum 45 = .ok (.istore 5, 2) := by decide +kernel
theorem dX11_sum_47 : decode cX11_sum 47 = .ok (.iload 5, 2) := by decide +kernel
theorem dX11_sum_49 : decode cX11_sum 49 = .ok (.bipush 8, 2) := by decide +kernel
theorem dX11_sum_51 : decode cX11_sum 51 = .ok (.if_icmp .ge 19, 3) := by decide +kernel
theorem dX11_sum_54 : decode cX11_sum 54 = .ok (.lload_n 3, 1) := by decide +kernel
theorem dX11_sum_55 : decode cX11_sum 55 = .ok (.aload_n 0, 1) := by decide +kernel
theorem dX11_sum_56 : decode cX11_sum 56 = .ok (.iload 5, 2) := by decide +kernel
theorem dX11_sum_58 : decode cX11_sum 58 = .ok (.iload_n 2, 1) := by decide +kernel
theorem dX11_sum_59 : decode cX11_sum 59 = .ok (.invokevirtual 546, 3) := by decide +kernel
theorem dX11_sum_62 : decode cX11_sum 62 = .ok (.ladd, 1) := by decide +kernel
theorem dX11_sum_63 : decode cX11_sum 63 = .ok (.lstore_n 3, 1) := by decide +kernel
theorem dX11_sum_64 : decode cX11_sum 64 = .ok (.iinc 5 1, 3) := by decide +kernel
theorem dX11_sum_67 : decode cX11_sum 67 = .ok (.goto (-20), 3) := by decide +kernel
theorem dX11_sum_70 : decode cX11_sum 70 = .ok (.lload_n 3, 1) := by decide +kernel
theorem dX11_sum_71 : decode cX11_sum 71 = .ok (.lreturn, 1) := by decide +kernel
noncomputable def f11_sum_j26 (s11_j26 : OS) : Option (Int64) := some ((-1 : Int64))
noncomputable def f11_sum_l47 (v2_i47 : Int32) (s11_i47 : OS) : Int64 × Int32 → Option ((Int64 × Int32) ⊕ (Int64)) := fun t_47 => if (8 : Int32) ≤ t_47.2 then (Option.map Sum.inr (some t_47.1)) else (Option.bind (f11_sumOf t_47.2 v2_i47 s11_i47) fun q_59 => nm ((t_47.1 + q_59)) fun n_63 => nm (t_47.2 + (1 : Int32)) fun n_64 => some (Sum.inl (n_63, n_64)))
noncomputable def f11_sum (a1 : Int32) (a2 : Int32) (s11 : OS) : Option (Int64) := Option.bind (f11_lies ((a1).toInt64) ((-1 : Int64)) ((7 : Int64))) fun q_8 => if q_8 = 0 then (f11_sum_j26 s11) else (Option.bind (f11_lies ((a2).toInt64) ((0 : Int64)) ((7 : Int64))) fun q_20 => if q_20 = 0 then (f11_sum_j26 s11) else (if a1 = (-1 : Int32) then (loop (f11_sum_l47 a2 s11) ((0 : Int64), (0 : Int32))) else (Option.bind (f11_sumOf a1 a2 s11) fun q_38 => some q_38)))
set_option maxHeartbeats 4000000 in
set_option maxRecDepth 100000 in
theorem m11_sum (l : Launch) (D : va_G) (ad : Nat → Nat) (cy : Nat → ClassId) (sz : Nat) (s11 : OS) (a1 : Int32) (a2 : Int32) (r : Int64) (h : f11_sum a1 a2 s11 = some r) : Met l yX11_sum (wsOf yX11_sum cX11_sum 6 (some .long)) (rmL 2) (va_Pc ([.ref (ad 0), .int a1, .int a2] : List Value) (PreG D cy (cellsM ad cy s11) sz NM)) (QcL D ad 66 (cellsM ad cy s11) (r) sz) 0 0 (Afr ad 66 sz) := by
  refine metG (own := RX11) (by decide) rfl (Nat.le_of_ble_eq_true rfl) fstM ?_ sz
  intro p e s m below meth c ls C0 hw hl
  obtain ⟨hx, hb, hml, hown, hts, hr, hlk, hK, hN⟩ := C0
  have hl : lv_has ls 6 [(0, .ref (ad 0)), (1, .int a1), (2, .int a2)] := hl
  generalize hQ : MQ below (QcL D ad 66 (cellsM ad cy s11) (r) s.heap.size) ([.ref (ad 0), .int a1, .int a2] : List Value).toArray s 0 0 (Afr ad 66 s.heap.size) = Q
  obtain ⟨H, hH⟩ : ∃ H : Heap, H = s.heap := ⟨_, rfl⟩
  obtain ⟨locs, hlc⟩ : ∃ L : List Loc, L = [] := ⟨_, rfl⟩
  have hw : Wd D (cellsM ad cy s11) (Afr ad 66 s.heap.size) s.heap H locs := by rw [hH, hlc]; exact hw
  suffices h0 : W p l e (rmL 2) s m ([.ref (ad 0), .int a1, .int a2] : List Value).toArray below meth c H locs 0 0 Q (F0 m 0 ls []) by rw [hH, hlc] at h0; exact h0
  clear hH hlc
  unfold f11_sum at h
  have hJ_26 : ∀  (H : Heap) (locs : List Loc) (ls : Array Slot), f11_sum_j26 s11 = some r → Wd D (cellsM ad cy s11) (Afr ad 66 s.heap.size) s.heap H locs → lv_has ls 6 [] → W p l e (rmL 2) s m ([.ref (ad 0), .int a1, .int a2] : List Value).toArray below meth c H locs 0 0 Q (F0 m 26 ls []) := by
    intro  H locs ls h hw hl
    unfold f11_sum_j26 at h
    refine lv_ldc2 (v := (-1)) hx hb hown (hts _ (wd_8 (w := .constantLong RX11 537 (-1)) (i := 179) (by decide +kernel) rfl)) dX11_sum_26 ?_
    have h := Option.some.inj h
    subst h
    rw [← hQ]
    exact retL hx hb hr hlk hw dX11_sum_29
  refine lv_iload_n hx hb dX11_sum_0 rfl (lv_at hl 1 rfl) ?_
  refine lv_i2l hx hb dX11_sum_1 rfl ?_
  refine lv_ldc2 (v := (-1)) hx hb hown (hts _ (wd_8 (w := .constantLong RX11 537 (-1)) (i := 179) (by decide +kernel) rfl)) dX11_sum_2 ?_
  refine lv_ldc2 (v := 7) hx hb hown (hts _ (wd_7 (w := .constantLong RX11 223 7) (i := 108) (by decide +kernel) rfl)) dX11_sum_5 ?_
  obtain ⟨q_8, h_8, h⟩ := bnd_e h
  have pg_8 := preG (av := [.long ((a1).toInt64), .long ((-1 : Int64)), .long ((7 : Int64))]) hK hw.1 hw.2.1 NM_keep NM_blind
  refine endI (mc := 0) (ms := 0) (va_runS (As := [.long ((a1).toInt64), .long ((-1 : Int64)), .long ((7 : Int64))]) (rest := []) ⟨hx, hb, hml, hown, hts⟩ (m11_lies l D ad cy H.size s11 ((a1).toInt64) ((-1 : Int64)) ((7 : Int64)) q_8 h_8) (wX11_215 0 hts ⟨Nat.le_of_ble_eq_true rfl, Nat.le_of_ble_eq_true rfl⟩) pg_8 rfl rfl hl.1 rfl (lv_room (Nat.le_of_ble_eq_true rfl)) dX11_sum_8 ⟨Nat.le_refl _, Nat.le_refl _⟩) hw.2.2 (afr_in hw.2.2) (fun H locs hw => ?_)
  refine lv_if_eq (tgt := 26) hx hb dX11_sum_11 (by decide) (fun c_11 => ?_) (fun c_11 => ?_)
  · have h := ite_t c_11 h
    exact hJ_26  H locs ls h hw (lv_sub hl [] rfl)
  · have h := ite_f c_11 h
    refine lv_iload_n hx hb dX11_sum_14 rfl (lv_at hl 2 rfl) ?_
    refine lv_i2l hx hb dX11_sum_15 rfl ?_
    refine lv_lconst (v := 0) hx hb dX11_sum_16 (by decide) ?_
    refine lv_ldc2 (v := 7) hx hb hown (hts _ (wd_7 (w := .constantLong RX11 223 7) (i := 108) (by decide +kernel) rfl)) dX11_sum_17 ?_
    obtain ⟨q_20, h_20, h⟩ := bnd_e h
    have pg_20 := preG (av := [.long ((a2).toInt64), .long ((0 : Int64)), .long ((7 : Int64))]) hK hw.1 hw.2.1 NM_keep NM_blind
    refine endI (mc := 0) (ms := 0) (va_runS (As := [.long ((a2).toInt64), .long ((0 : Int64)), .long ((7 : Int64))]) (rest := []) ⟨hx, hb, hml, hown, hts⟩ (m11_lies l D ad cy H.size s11 ((a2).toInt64) ((0 : Int64)) ((7 : Int64)) q_20 h_20) (wX11_215 0 hts ⟨Nat.le_of_ble_eq_true rfl, Nat.le_of_ble_eq_true rfl⟩) pg_20 rfl rfl hl.1 rfl (lv_room (Nat.le_of_ble_eq_true rfl)) dX11_sum_20 ⟨Nat.le_refl _, Nat.le_refl _⟩) hw.2.2 (afr_in hw.2.2) (fun H locs hw => ?_)
    refine lv_if_ne (tgt := 30) hx hb dX11_sum_23 (by decide) (fun c_23 => ?_) (fun c_23 => ?_)
    · have h := ite_f c_23 h
      refine lv_iload_n hx hb dX11_sum_30 rfl (lv_at hl 1 rfl) ?_
      refine lv_iconst (v := (-1)) hx hb dX11_sum_31 (by decide) ?_
      refine lv_icmp_eq (tgt := 42) hx hb dX11_sum_32 (by decide) (fun c_32 => ?_) (fun c_32 => ?_)
      · have h := ite_t c_32 h
        refine lv_lconst (v := 0) hx hb dX11_sum_42 (by decide) ?_
        refine lv_lstore_n (lv' := [(3, .long ((0 : Int64))), (0, .ref (ad 0)), (1, .int a1), (2, .int a2)]) hx hb dX11_sum_43 rfl hl (by decide) rfl (fun ls hl => ?_)
        refine lv_iconst (v := 0) hx hb dX11_sum_44 (by decide) ?_
        refine lv_istore (lv' := [(5, .int ((0 : Int32))), (3, .long ((0 : Int64))), (0, .ref (ad 0)), (1, .int a1), (2, .int a2)]) hx hb dX11_sum_45 hl (by decide) rfl (fun ls hl => ?_)
        obtain ⟨n_47, hn_47⟩ := loop_e h
        have hL_47 : ∀ (n : Nat) (t_47 : Int64 × Int32) (H : Heap) (locs : List Loc) (ls : Array Slot), loopN (f11_sum_l47 a2 s11) n t_47 = some r → Wd D (cellsM ad cy s11) (Afr ad 66 s.heap.size) s.heap H locs → lv_has ls 6 [(3, .long t_47.1), (5, .int t_47.2), (2, .int a2), (0, .ref (ad 0))] → W p l e (rmL 2) s m ([.ref (ad 0), .int a1, .int a2] : List Value).toArray below meth c H locs 0 0 Q (F0 m 47 ls []) := by
          intro n
          induction n with
          | zero => intro t_47 H locs ls hn; cases hn
          | succ n ih_47 =>
            intro t_47 H locs ls hn hw hl
            obtain ⟨x_47, h, hx_47⟩ := loopN_e hn
            unfold f11_sum_l47 at h
            refine lv_iload hx hb dX11_sum_47 (lv_at hl 1 rfl) ?_
            refine lv_bipush (v := 8) hx hb dX11_sum_49 (by decide) ?_
            refine lv_icmp_ge (tgt := 70) hx hb dX11_sum_51 (by decide) (fun c_51 => ?_) (fun c_51 => ?_)
            · have h := ite_t c_51 h
              have h := nx_m hx_47 h
              refine lv_lload_n hx hb dX11_sum_70 rfl (lv_at hl 0 rfl) ?_
              have h := Option.some.inj h
              subst h
              rw [← hQ]
              exact retL hx hb hr hlk hw dX11_sum_71
            · have h := ite_f c_51 h
              refine lv_lload_n hx hb dX11_sum_54 rfl (lv_at hl 0 rfl) ?_
              refine lv_aload_n hx hb dX11_sum_55 rfl (lv_at hl 3 rfl) ?_
              refine lv_iload hx hb dX11_sum_56 (lv_at hl 1 rfl) ?_
              refine lv_iload_n hx hb dX11_sum_58 rfl (lv_at hl 2 rfl) ?_
              obtain ⟨q_59, h_59, h⟩ := bnd_e h
              have pg_59 := preG (av := [.ref (ad 0), .int t_47.2, .int a2]) hK hw.1 hw.2.1 NM_keep NM_blind
              refine endL (mc := 0) (ms := 0) (va_runV (As := [.int t_47.2, .int a2]) (rest := [.long t_47.1]) ⟨hx, hb, hml, hown, hts⟩ (m11_sumOf l D ad cy H.size s11 t_47.2 a2 q_59 h_59) (wX11_546 1 hts ⟨Nat.le_of_ble_eq_true rfl, Nat.le_of_ble_eq_true rfl⟩) ⟨pg_59.1, va_recv hK hw.1 (ci := 11) (q0 := 0) rfl eM_0, pg_59.2⟩ rfl rfl hl.1 rfl (lv_room (Nat.le_of_ble_eq_true rfl)) dX11_sum_59 ⟨Nat.le_refl _, Nat.le_refl _⟩) hw.2.2 (afr_in hw.2.2) (fun H locs hw => ?_)
              refine lv_ladd hx hb dX11_sum_62 ?_
              obtain ⟨n_63, e_63, h⟩ := nam_e h
              refine topL e_63 ?_
              refine lv_lstore_n (lv' := [(3, .long n_63), (5, .int t_47.2), (2, .int a2), (0, .ref (ad 0))]) hx hb dX11_sum_63 rfl hl (by decide) rfl (fun ls hl => ?_)
              obtain ⟨n_64, e_64, h⟩ := nam_e h
              refine lv_iinc (v := n_64) (lv' := [(5, .int n_64), (3, .long n_63), (2, .int a2), (0, .ref (ad 0))]) hx hb dX11_sum_64 hl (k := 1) rfl (by rw [e_64]; rfl) (by decide) rfl (fun ls hl => ?_)
              refine lv_goto (tgt := 47) hx hb dX11_sum_67 (by decide) ?_
              exact ih_47 (n_63, n_64) H locs ls (nx_l hx_47 h) hw (lv_sub hl [1, 0, 2, 3] rfl)
        exact hL_47 n_47 ((0 : Int64), (0 : Int32)) H locs ls hn_47 hw (lv_sub hl [1, 0, 4, 2] rfl)
      · have h := ite_f c_32 h
        refine lv_aload_n hx hb dX11_sum_35 rfl (lv_at hl 0 rfl) ?_
        refine lv_iload_n hx hb dX11_sum_36 rfl (lv_at hl 1 rfl) ?_
        refine lv_iload_n hx hb dX11_sum_37 rfl (lv_at hl 2 rfl) ?_
        obtain ⟨q_38, h_38, h⟩ := bnd_e h
        have pg_38 := preG (av := [.ref (ad 0), .int a1, .int a2]) hK hw.1 hw.2.1 NM_keep NM_blind
        refine endL (mc := 0) (ms := 0) (va_runV (As := [.int a1, .int a2]) (rest := []) ⟨hx, hb, hml, hown, hts⟩ (m11_sumOf l D ad cy H.size s11 a1 a2 q_38 h_38) (wX11_546 1 hts ⟨Nat.le_of_ble_eq_true rfl, Nat.le_of_ble_eq_true rfl⟩) ⟨pg_38.1, va_recv hK hw.1 (ci := 11) (q0 := 0) rfl eM_0, pg_38.2⟩ rfl rfl hl.1 rfl (lv_room (Nat.le_of_ble_eq_true rfl)) dX11_sum_38 ⟨Nat.le_refl _, Nat.le_refl _⟩) hw.2.2 (afr_in hw.2.2) (fun H locs hw => ?_)
        have h := Option.some.inj h
        subst h
        rw [← hQ]
        exact retL hx hb hr hlk hw dX11_sum_41
    · have h := ite_t c_23 h
      exact hJ_26  H locs ls h hw (lv_sub hl [] rfl)
theorem dX11_thing_0 : decode cX11_thing 0 = .ok (.iload_n 1, 1) := by decide +kernel
theorem dX11_thing_1 : decode cX11_thing 1 = .ok (.i2l, 1) := by decide +kernel
theorem dX11_thing_2 : decode cX11_thing 2 = .ok (.lconst 0, 1) := by decide +kernel
theorem dX11_thing_3 : decode cX11_thing 3 = .ok (.aload_n 0, 1) := by decide +kernel
theorem dX11_thing_4 : decode cX11_thing 4 = .ok (.getfield 461, 3) := by decide +kernel
theorem dX11_thing_7 : decode cX11_thing 7 = .ok (.iconst 1, 1) := by decide +kernel
theorem dX11_thing_8 : decode cX11_thing 8 = .ok (.isub, 1) := by decide +kernel
theorem dX11_thing_9 : decode cX11_thing 9 = .ok (.i2l, 1) := by decide +kernel
theorem dX11_thing_10 : decode cX11_thing 10 = .ok (.invokestatic 215, 3) := by decide +kernel
theorem dX11_thing_13 : decode cX11_thing 13 = .ok (.ifCond .eq 7, 3) := by decide +kernel
theorem dX11_thing_16 : decode cX11_thing 16 = .ok (.iload_n 2, 1) := by decide +kernel
theorem dX11_thing_17 : decode cX11_thing 17 = .ok (.ifCond .ge 5, 3) := by decide +kernel
theorem dX11_thing_20 : decode cX11_thing 20 = .ok (.iconst (-1), 1) := by decide +kernel
theorem dX11_thing_21 : decode cX11_thing 21 = .ok (.ireturn, 1) := by decide +kernel
theorem dX11_thing_22 : decode cX11_thing 22 = .ok (.iload_n 2, 1) := by decide +kernel
theorem dX11_thing_23 : decode cX11_thing 23 = .ok (.iconst 1, 1) := by decide +kernel
theorem dX11_thing_24 : decode cX11_thing 24 = .ok (.if_icmp .ne 13, 3) := by decide +kernel
theorem dX11_thing_27 : decode cX11_thing 27 = .ok (.aload_n 0, 1) := by decide +kernel
theorem dX11_thing_28 : decode cX11_thing 28 = .ok (.getfield 166, 3) := by decide +kernel
theorem dX11_thing_31 : decode cX11_thing 31 = .ok (.iload_n 1, 1) := by decide +kernel
theorem dX11_thing_32 : decode cX11_thing 32 = .ok (.iaload, 1) := by decide +kernel
theorem dX11_thing_33 : decode cX11_thing 33 = .ok (.invokestatic 408, 3) := by decide +kernel
theorem dX11_thing_36 : decode cX11_thing 36 = .ok (.ireturn, 1) := by decide +kernel
theorem dX11_thing_37 : decode cX11_thing 37 = .ok (.iload_n 2, 1) := by decide +kernel
theorem dX11_thing_38 : decode cX11_thing 38 = .ok (.ifCond .ne 26, 3) := by decide +kernel
theorem dX11_thing_41 : decode cX11_thing 41 = .ok (.aload_n 0, 1) := by decide +kernel
theorem dX11_thing_42 : decode cX11_thing 42 = .ok (.getfield 464, 3) := by decide +kernel
theorem dX11_thing_45 : decode cX11_thing 45 = .ok (.ifCond .le 17, 3) := by decide +kernel
theorem dX11_thing_48 : decode cX11_thing 48 = .ok (.aload_n 0, 1) := by decide +kernel
theorem dX11_thing_49 : decode cX11_thing 49 = .ok (.aload_n 0, 1) := by decide +kernel
theorem dX11_thing_50 : decode cX11_thing 50 = .ok (.getfield 169, 3) := by decide +kernel
theorem dX11_thing_53 : decode cX11_thing 53 = .ok (.iload_n 1, 1) := by decide +kernel
theorem dX11_thing_54 : decode cX11_thing 54 = .ok (.iaload, 1) := by decide +kernel
theorem dX11_thing_55 : decode cX11_thing 55 = .ok (.iconst 0, 1) := by decide +kernel
theorem dX11_thing_56 : decode cX11_thing 56 = .ok (.invokevirtual 476, 3) := by decide +kernel
theorem dX11_thing_59 : decode cX11_thing 59 = .ok (.goto 4, 3) := by decide +kernel
theorem dX11_thing_62 : decode cX11_thing 62 = .ok (.iconst (-1), 1) := by decide +kernel
theorem dX11_thing_63 : decode cX11_thing 63 = .ok (.ireturn, 1) := by decide +kernel
theorem dX11_thing_64 : decode cX11_thing 64 = .ok (.aload_n 0, 1) := by decide +kernel
theorem dX11_thing_65 : decode cX11_thing 65 = .ok (.aload_n 0, 1) := by decide +kernel
theorem dX11_thing_66 : decode cX11_thing 66 = .ok (.getfield 166, 3) := by decide +kernel
theorem dX11_thing_69 : decode cX11_thing 69 = .ok (.iload_n 1, 1) := by decide +kernel
theorem dX11_thing_70 : decode cX11_thing 70 = .ok (.iaload, 1) := by decide +kernel
theorem dX11_thing_71 : decode cX11_thing 71 = .ok (.iload_n 2, 1) := by decide +kernel
theorem dX11_thing_72 : decode cX11_thing 72 = .ok (.iconst 2, 1) := by decide +kernel
theorem dX11_thing_73 : decode cX11_thing 73 = .ok (.isub, 1) := by decide +kernel
theorem dX11_thing_74 : decode cX11_thing 74 = .ok (.invokevirtual 476, 3) := by decide +kernel
theorem dX11_thing_77 : decode cX11_thing 77 = .ok (.ireturn, 1) := by decide +kernel
noncomputable def f11_thing_j63 (k0_j63 : Int32) (s11_j63 : OS) : Option (Int32) := some k0_j63
noncomputable def f11_thing_j20 (s11_j20 : OS) : Option (Int32) := some ((-1 : Int32))
noncomputable def f11_thing (a1 : Int32) (a2 : Int32) (s11 : OS) : Option (Int32) := Option.bind (f11_lies ((a1).toInt64) ((0 : Int64)) ((((s11.1 0 68) - (1 : Int32))).toInt64)) fun q_10 => if q_10 = 0 then (f11_thing_j20 s11) else (if 0 ≤ a2 then (if a2 = (1 : Int32) then (chk (inb a1 6) (nm (s11.1 76 a1.toNatClampNeg) fun y_32 => Option.bind (f11_sizeOf y_32) fun q_33 => some q_33)) else (if a2 = 0 then (if (s11.1 0 69) ≤ 0 then (f11_thing_j63 ((-1 : Int32)) s11) else (chk (inb a1 6) (nm (s11.1 77 a1.toNatClampNeg) fun y_54 => Option.bind (f11_lowest y_54 ((0 : Int32)) s11) fun q_56 => f11_thing_j63 q_56 s11))) else (chk (inb a1 6) (nm (s11.1 76 a1.toNatClampNeg) fun y_70 => Option.bind (f11_lowest y_70 ((a2 - (2 : Int32))) s11) fun q_74 => some q_74)))) else (f11_thing_j20 s11))
set_option maxHeartbeats 4000000 in
set_option maxRecDepth 100000 in
theorem m11_thing (l : Launch) (D : va_G) (ad : Nat → Nat) (cy : Nat → ClassId) (sz : Nat) (s11 : OS) (a1 : Int32) (a2 : Int32) (r : Int32) (h : f11_thing a1 a2 s11 = some r) : Met l yX11_thing (wsOf yX11_thing cX11_thing 3 (some .int)) (rmL 2) (va_Pc ([.ref (ad 0), .int a1, .int a2] : List Value) (PreG D cy (cellsM ad cy s11) sz NM)) (QcI D ad 66 (cellsM ad cy s11) (r) sz) 0 0 (Afr ad 66 sz) := by
  refine metG (own := RX11) (by decide) rfl (Nat.le_of_ble_eq_true rfl) fstM ?_ sz
  intro p e s m below meth c ls C0 hw hl
  obtain ⟨hx, hb, hml, hown, hts, hr, hlk, hK, hN⟩ := C0
  have hl : lv_has ls 3 [(0, .ref (ad 0)), (1, .int a1), (2, .int a2)] := hl
  generalize hQ : MQ below (QcI D ad 66 (cellsM ad cy s11) (r) s.heap.size) ([.ref (ad 0), .int a1, .int a2] : List Value).toArray s 0 0 (Afr ad 66 s.heap.size) = Q
  obtain ⟨H, hH⟩ : ∃ H : Heap, H = s.heap := ⟨_, rfl⟩
  obtain ⟨locs, hlc⟩ : ∃ L : List Loc, L = [] := ⟨_, rfl⟩
  have hw : Wd D (cellsM ad cy s11) (Afr ad 66 s.heap.size) s.heap H locs := by rw [hH, hlc]; exact hw
  suffices h0 : W p l e (rmL 2) s m ([.ref (ad 0), .int a1, .int a2] : List Value).toArray below meth c H locs 0 0 Q (F0 m 0 ls []) by rw [hH, hlc] at h0; exact h0
  clear hH hlc
  unfold f11_thing at h
  have hJ_63 : ∀ (k0_j63 : Int32) (H : Heap) (locs : List Loc) (ls : Array Slot), f11_thing_j63 k0_j63 s11 = some r → Wd D (cellsM ad cy s11) (Afr ad 66 s.heap.size) s.heap H locs → lv_has ls 3 [] → W p l e (rmL 2) s m ([.ref (ad 0), .int a1, .int a2] : List Value).toArray below meth c H locs 0 0 Q (F0 m 63 ls [.int k0_j63]) := by
    intro k0_j63 H locs ls h hw hl
    unfold f11_thing_j63 at h
    have h := Option.some.inj h
    subst h
    rw [← hQ]
    exact retI hx hb hr hlk hw rfl dX11_thing_63
  have hJ_20 : ∀  (H : Heap) (locs : List Loc) (ls : Array Slot), f11_thing_j20 s11 = some r → Wd D (cellsM ad cy s11) (Afr ad 66 s.heap.size) s.heap H locs → lv_has ls 3 [] → W p l e (rmL 2) s m ([.ref (ad 0), .int a1, .int a2] : List Value).toArray below meth c H locs 0 0 Q (F0 m 20 ls []) := by
    intro  H locs ls h hw hl
    unfold f11_thing_j20 at h
    refine lv_iconst (v := (-1)) hx hb dX11_thing_20 (by decide) ?_
    have h := Option.some.inj h
    subst h
    rw [← hQ]
    exact retI hx hb hr hlk hw rfl dX11_thing_21
  refine lv_iload_n hx hb dX11_thing_0 rfl (lv_at hl 1 rfl) ?_
  refine lv_i2l hx hb dX11_thing_1 rfl ?_
  refine lv_lconst (v := 0) hx hb dX11_thing_2 (by decide) ?_
  refine lv_aload_n hx hb dX11_thing_3 rfl (lv_at hl 0 rfl) ?_
  refine gX11_461 hx hb hts hown hK hw dX11_thing_4 ?_
  refine lv_iconst (v := 1) hx hb dX11_thing_7 (by decide) ?_
  refine lv_isub hx hb dX11_thing_8 ?_
  refine lv_i2l hx hb dX11_thing_9 rfl ?_
  obtain ⟨q_10, h_10, h⟩ := bnd_e h
  have pg_10 := preG (av := [.long ((a1).toInt64), .long ((0 : Int64)), .long ((((s11.1 0 68) - (1 : Int32))).toInt64)]) hK hw.1 hw.2.1 NM_keep NM_blind
  refine endI (mc := 0) (ms := 0) (va_runS (As := [.long ((a1).toInt64), .long ((0 : Int64)), .long ((((s11.1 0 68) - (1 : Int32))).toInt64)]) (rest := []) ⟨hx, hb, hml, hown, hts⟩ (m11_lies l D ad cy H.size s11 ((a1).toInt64) ((0 : Int64)) ((((s11.1 0 68) - (1 : Int32))).toInt64) q_10 h_10) (wX11_215 0 hts ⟨Nat.le_of_ble_eq_true rfl, Nat.le_of_ble_eq_true rfl⟩) pg_10 rfl rfl hl.1 rfl (lv_room (Nat.le_of_ble_eq_true rfl)) dX11_thing_10 ⟨Nat.le_refl _, Nat.le_refl _⟩) hw.2.2 (afr_in hw.2.2) (fun H locs hw => ?_)
  refine lv_if_eq (tgt := 20) hx hb dX11_thing_13 (by decide) (fun c_13 => ?_) (fun c_13 => ?_)
  · have h := ite_t c_13 h
    exact hJ_20  H locs ls h hw (lv_sub hl [] rfl)
  · have h := ite_f c_13 h
    refine lv_iload_n hx hb dX11_thing_16 rfl (lv_at hl 2 rfl) ?_
    refine lv_if_ge (tgt := 22) hx hb dX11_thing_17 (by decide) (fun c_17 => ?_) (fun c_17 => ?_)
    · have h := ite_t c_17 h
      refine lv_iload_n hx hb dX11_thing_22 rfl (lv_at hl 2 rfl) ?_
      refine lv_iconst (v := 1) hx hb dX11_thing_23 (by decide) ?_
      refine lv_icmp_ne (tgt := 37) hx hb dX11_thing_24 (by decide) (fun c_24 => ?_) (fun c_24 => ?_)
      · have h := ite_f c_24 h
        refine lv_iload_n hx hb dX11_thing_37 rfl (lv_at hl 2 rfl) ?_
        refine lv_if_ne (tgt := 64) hx hb dX11_thing_38 (by decide) (fun c_38 => ?_) (fun c_38 => ?_)
        · have h := ite_f c_38 h
          refine lv_aload_n hx hb dX11_thing_64 rfl (lv_at hl 0 rfl) ?_
          refine lv_aload_n hx hb dX11_thing_65 rfl (lv_at hl 0 rfl) ?_
          refine gX11_166 hx hb hts hown hK hw dX11_thing_66 ?_
          refine lv_iload_n hx hb dX11_thing_69 rfl (lv_at hl 1 rfl) ?_
          obtain ⟨hi_70, h⟩ := chk_e h
          obtain ⟨y_70, e_70, h⟩ := nam_e h
          refine lM52 hx hb hK hw hi_70 e_70 dX11_thing_70 ?_
          refine lv_iload_n hx hb dX11_thing_71 rfl (lv_at hl 2 rfl) ?_
          refine lv_iconst (v := 2) hx hb dX11_thing_72 (by decide) ?_
          refine lv_isub hx hb dX11_thing_73 ?_
          obtain ⟨q_74, h_74, h⟩ := bnd_e h
          have pg_74 := preG (av := [.ref (ad 0), .int y_70, .int ((a2 - (2 : Int32)))]) hK hw.1 hw.2.1 NM_keep NM_blind
          refine endI (mc := 0) (ms := 0) (va_runV (As := [.int y_70, .int ((a2 - (2 : Int32)))]) (rest := []) ⟨hx, hb, hml, hown, hts⟩ (m11_lowest l D ad cy H.size s11 y_70 ((a2 - (2 : Int32))) q_74 h_74) (wX11_476 1 hts ⟨Nat.le_of_ble_eq_true rfl, Nat.le_of_ble_eq_true rfl⟩) ⟨pg_74.1, va_recv hK hw.1 (ci := 11) (q0 := 0) rfl eM_0, pg_74.2⟩ rfl rfl hl.1 rfl (lv_room (Nat.le_of_ble_eq_true rfl)) dX11_thing_74 ⟨Nat.le_refl _, Nat.le_refl _⟩) hw.2.2 (afr_in hw.2.2) (fun H locs hw => ?_)
          have h := Option.some.inj h
          subst h
          rw [← hQ]
          exact retI hx hb hr hlk hw rfl dX11_thing_77
        · have h := ite_t c_38 h
          refine lv_aload_n hx hb dX11_thing_41 rfl (lv_at hl 0 rfl) ?_
          refine gX11_464 hx hb hts hown hK hw dX11_thing_42 ?_
          refine lv_if_le (tgt := 62) hx hb dX11_thing_45 (by decide) (fun c_45 => ?_) (fun c_45 => ?_)
          · have h := ite_t c_45 h
            refine lv_iconst (v := (-1)) hx hb dX11_thing_62 (by decide) ?_
            exact hJ_63 ((-1 : Int32)) H locs ls h hw (lv_sub hl [] rfl)
          · have h := ite_f c_45 h
            refine lv_aload_n hx hb dX11_thing_48 rfl (lv_at hl 0 rfl) ?_
            refine lv_aload_n hx hb dX11_thing_49 rfl (lv_at hl 0 rfl) ?_
            refine gX11_169 hx hb hts hown hK hw dX11_thing_50 ?_
            refine lv_iload_n hx hb dX11_thing_53 rfl (lv_at hl 1 rfl) ?_
            obtain ⟨hi_54, h⟩ := chk_e h
            obtain ⟨y_54, e_54, h⟩ := nam_e h
            refine lM53 hx hb hK hw hi_54 e_54 dX11_thing_54 ?_
            refine lv_iconst (v := 0) hx hb dX11_thing_55 (by decide) ?_
            obtain ⟨q_56, h_56, h⟩ := bnd_e h
            have pg_56 := preG (av := [.ref (ad 0), .int y_54, .int ((0 : Int32))]) hK hw.1 hw.2.1 NM_keep NM_blind
            refine endI (mc := 0) (ms := 0) (va_runV (As := [.int y_54, .int ((0 : Int32))]) (rest := []) ⟨hx, hb, hml, hown, hts⟩ (m11_lowest l D ad cy H.size s11 y_54 ((0 : Int32)) q_56 h_56) (wX11_476 1 hts ⟨Nat.le_of_ble_eq_true rfl, Nat.le_of_ble_eq_true rfl⟩) ⟨pg_56.1, va_recv hK hw.1 (ci := 11) (q0 := 0) rfl eM_0, pg_56.2⟩ rfl rfl hl.1 rfl (lv_room (Nat.le_of_ble_eq_true rfl)) dX11_thing_56 ⟨Nat.le_refl _, Nat.le_refl _⟩) hw.2.2 (afr_in hw.2.2) (fun H locs hw => ?_)
            refine lv_goto (tgt := 63) hx hb dX11_thing_59 (by decide) ?_
            exact hJ_63 q_56 H locs ls h hw (lv_sub hl [] rfl)
      · have h := ite_t c_24 h
        refine lv_aload_n hx hb dX11_thing_27 rfl (lv_at hl 0 rfl) ?_
        refine gX11_166 hx hb hts hown hK hw dX11_thing_28 ?_
        refine lv_iload_n hx hb dX11_thing_31 rfl (lv_at hl 1 rfl) ?_
        obtain ⟨hi_32, h⟩ := chk_e h
        obtain ⟨y_32, e_32, h⟩ := nam_e h
        refine lM52 hx hb hK hw hi_32 e_32 dX11_thing_32 ?_
        obtain ⟨q_33, h_33, h⟩ := bnd_e h
        have pg_33 := preG (av := [.int y_32]) hK hw.1 hw.2.1 NM_keep NM_blind
        refine endI (mc := 0) (ms := 0) (va_runS (As := [.int y_32]) (rest := []) ⟨hx, hb, hml, hown, hts⟩ (m11_sizeOf l D ad cy H.size s11 y_32 q_33 h_33) (wX11_408 0 hts ⟨Nat.le_of_ble_eq_true rfl, Nat.le_of_ble_eq_true rfl⟩) pg_33 rfl rfl hl.1 rfl (lv_room (Nat.le_of_ble_eq_true rfl)) dX11_thing_33 ⟨Nat.le_refl _, Nat.le_refl _⟩) hw.2.2 (afr_in hw.2.2) (fun H locs hw => ?_)
        have h := Option.some.inj h
        subst h
        rw [← hQ]
        exact retI hx hb hr hlk hw rfl dX11_thing_36
    · have h := ite_f c_17 h
      exact hJ_20  H locs ls h hw (lv_sub hl [] rfl)
theorem dX11_toldDay_0 : decode cX11_toldDay 0 = .ok (.iload_n 3, 1) := by decide +kernel
theorem dX11_toldDay_1 : decode cX11_toldDay 1 = .ok (.ifCond .eq 12, 3) := by decide +kernel
theorem dX11_toldDay_4 : decode cX11_toldDay 4 = .ok (.aload_n 0, 1) := by decide +kernel
theorem dX11_toldDay_5 : decode cX11_toldDay 5 = .ok (.getfield 178, 3) := by decide +kernel
theorem dX11_toldDay_8 : decode cX11_toldDay 8 = .ok (.iload_n 1, 1) := by decide +kernel
theorem dX11_toldDay_9 : decode cX11_toldDay 9 = .ok (.iaload, 1) := by decide +kernel
theorem dX11_toldDay_10 : decode cX11_toldDay 10 = .ok (.goto 4, 3) := by decide +kernel
theorem dX11_toldDay_13 : decode cX11_toldDay 13 = .ok (.iconst (-1), 1) := by decide +kernel
theorem dX11_toldDay_14 : decode cX11_toldDay 14 = .ok (.istore 4, 2) := by decide +kernel
theorem dX11_toldDay_16 : decode cX11_toldDay 16 = .ok (.iconst 0, 1) := by decide +kernel
theorem dX11_toldDay_17 : decode cX11_toldDay 17 = .ok (.istore 5, 2) := by decide +kernel
theorem dX11_toldDay_19 : decode cX11_toldDay 19 = .ok (.iload 5, 2) := by decide +kernel
theorem dX11_toldDay_21 : decode cX11_toldDay 21 = .ok (.aload_n 0, 1) := by decide +kernel
theorem dX11_toldDay_22 : decode cX11_toldDay 22 = .ok (.getfield 488, 3) := by decide +kernel
theorem dX11_toldDay_25 : decode cX11_toldDay 25 = .ok (.if_icmp .ge 103, 3) := by decide +kernel
theorem dX11_toldDay_28 : decode cX11_toldDay 28 = .ok (.aload_n 0, 1) := by decide +kernel
theorem dX11_toldDay_29 : decode cX11_toldDay 29 = .ok (.getfield 184, 3) := by decide +kernel
theorem dX11_toldDay_32 : decode cX11_toldDay 32 = .ok (.iload 5, 2) := by decide +kernel
theorem dX11_toldDay_34 : decode cX11_toldDay 34 = .ok (.iaload, 1) := by decide +kernel
theorem dX11_toldDay_35 : decode cX11_toldDay 35 = .ok (.iload_n 1, 1) := by decide +kernel
theorem dX11_toldDay_36 : decode cX11_toldDay 36 = .ok (.if_icmp .ne 86, 3) := by decide +kernel
theorem dX11_toldDay_39 : decode cX11_toldDay 39 = .ok (.iload_n 3, 1) := by decide +kernel
theorem dX11_toldDay_40 : decode cX11_toldDay 40 = .ok (.ifCond .eq 17, 3) := by decide +kernel
theorem dX11_toldDay_43 : decode cX11_toldDay 43 = .ok (.aload_n 0, 1) := by decide +kernel
theorem dX11_toldDay_44 : decode cX11_toldDay 44 = .ok (.getfield 190, 3) := by decide +kernel
theorem dX11_toldDay_47 : decode cX11_toldDay 47 = .ok (.iload 5, 2) := by decide +kernel
theorem dX11_toldDay_49 : decode cX11_toldDay 49 = .ok (.iaload, 1) := by decide +kernel
theorem dX11_toldDay_50 : decode cX11_toldDay 50 = .ok (.iload_n 2, 1) := by decide +kernel
theorem dX11_toldDay_51 : decode cX11_toldDay 51 = .ok (.if_icmp .lt 20, 3) := by decide +kernel
theorem dX11_toldDay_54 : decode cX11_toldDay 54 = .ok (.goto 68, 3) := by decide +kernel
theorem dX11_toldDay_57 : decode cX11_toldDay 57 = .ok (.aload_n 0, 1) := by decide +kernel
theorem dX11_toldDay_58 : decode cX11_toldDay 58 = .ok (.getfield 190, 3) := by decide +kernel
theorem dX11_toldDay_61 : decode cX11_toldDay 61 = .ok (.iload 5, 2) := by decide +kernel
theorem dX11_toldDay_63 : decode cX11_toldDay 63 = .ok (.iaload, 1) := by decide +kernel
theorem dX11_toldDay_64 : decode cX11_toldDay 64 = .ok (.iload_n 2, 1) := by decide +kernel
theorem dX11_toldDay_65 : decode cX11_toldDay 65 = .ok (.if_icmp .gt 6, 3) := by decide +kernel
theorem dX11_toldDay_68 : decode cX11_toldDay 68 = .ok (.goto 54, 3) := by decide +kernel
theorem dX11_toldDay_71 : decode cX11_toldDay 71 = .ok (.iload 4, 2) := by decide +kernel
theorem dX11_toldDay_73 : decode cX11_toldDay 73 = .ok (.iconst (-1), 1) := by decide +kernel
theorem dX11_toldDay_74 : decode cX11_toldDay 74 = .ok (.if_icmp .eq 34, 3) := by decide +kernel
theorem dX11_toldDay_77 : decode cX11_toldDay 77 = .ok (.iload_n 3, 1) := by decide +kernel
theorem dX11_toldDay_78 : decode cX11_toldDay 78 = .ok (.ifCond .eq 18, 3) := by decide +kernel
theorem dX11_toldDay_81 : decode cX11_toldDay 81 = .ok (.aload_n 0, 1) := by decide +kernel
theorem dX11_toldDay_82 : decode cX11_toldDay 82 = .ok (.getfield 190, 3) := by decide +kernel
theorem dX11_toldDay_85 : decode cX11_toldDay 85 = .ok (.iload 5, 2) := by decide +kernel
theorem dX11_toldDay_87 : decode cX11_toldDay 87 = .ok (.iaload, 1) := by decide +kernel
theorem dX11_toldDay_88 : decode cX11_toldDay 88 = .ok (.iload 4, 2) := by decide +kernel
theorem dX11_toldDay_90 : decode cX11_toldDay 90 = .ok (.if_icmp .le 28, 3) := by decide +kernel
theorem dX11_toldDay_93 : decode cX11_toldDay 93 = .ok (.goto 15, 3) := by decide +kernel
theorem dX11_toldDay_96 : decode cX11_toldDay 96 = .ok (.aload_n 0, 1) := by decide +kernel
theorem dX11_toldDay_97 : decode cX11_toldDay 97 = .ok (.getfield 190, 3) := by decide +kernel
theorem dX11_toldDay_100 : decode cX11_toldDay 100 = .ok (.iload 5, 2) := by decide +kernel
theorem dX11_toldDay_102 : decode cX11_toldDay 102 = .ok (.iaload, 1) := by decide +kernel
theorem dX11_toldDay_103 : decode cX11_toldDay 103 = .ok (.iload 4, 2) := by decide +kernel
theorem dX11_toldDay_105 : decode cX11_toldDay 105 = .ok (.if_icmp .ge 13, 3) := by decide +kernel
theorem dX11_toldDay_108 : decode cX11_toldDay 108 = .ok (.aload_n 0, 1) := by decide +kernel
theorem dX11_toldDay_109 : decode cX11_toldDay 109 = .ok (.getfield 190, 3) := by decide +kernel
theorem dX11_toldDay_112 : decode cX11_toldDay 112 = .ok (.iload 5, 2) := by decide +kernel
theorem dX11_toldDay_114 : decode cX11_toldDay 114 = .ok (.iaload, 1) := by decide +kernel
theorem dX11_toldDay_115 : decode cX11_toldDay 115 = .ok (.goto 5, 3) := by decide +kernel
theorem dX11_toldDay_118 : decode cX11_toldDay 118 = .ok (.iload 4, 2) := by decide +kernel
theorem dX11_toldDay_120 : decode cX11_toldDay 120 = .ok (.istore 4, 2) := by decide +kernel
theorem dX11_toldDay_122 : decode cX11_toldDay 122 = .ok (.iinc 5 1, 3) := by decide +kernel
theorem dX11_toldDay_125 : decode cX11_toldDay 125 = .ok (.goto (-106), 3) := by decide +kernel
theorem dX11_toldDay_128 : decode cX11_toldDay 128 = .ok (.iload 4, 2) := by decide +kernel
theorem dX11_toldDay_130 : decode cX11_toldDay 130 = .ok (.ireturn, 1) := by decide +kernel
noncomputable def f11_toldDay_j122 (v1_j122 : Int32) (v2_j122 : Int32) (v3_j122 : Int32) (v4_j122 : Int32) (v5_j122 : Int32) (s11_j122 : OS) : Option ((Int32 × Int32) ⊕ (Int32)) := nm (v5_j122 + (1 : Int32)) fun n_122 => some (Sum.inl (v4_j122, n_122))
noncomputable def f11_toldDay_j120 (v1_j120 : Int32) (v2_j120 : Int32) (v3_j120 : Int32) (v5_j120 : Int32) (k0_j120 : Int32) (s11_j120 : OS) : Option ((Int32 × Int32) ⊕ (Int32)) := f11_toldDay_j122 v1_j120 v2_j120 v3_j120 k0_j120 v5_j120 s11_j120
noncomputable def f11_toldDay_j118 (v1_j118 : Int32) (v2_j118 : Int32) (v3_j118 : Int32) (v4_j118 : Int32) (v5_j118 : Int32) (s11_j118 : OS) : Option ((Int32 × Int32) ⊕ (Int32)) := f11_toldDay_j120 v1_j118 v2_j118 v3_j118 v5_j118 v4_j118 s11_j118
noncomputable def f11_toldDay_j108 (v1_j108 : Int32) (v2_j108 : Int32) (v3_j108 : Int32) (v5_j108 : Int32) (s11_j108 : OS) : Option ((Int32 × Int32) ⊕ (Int32)) := chk (inb v5_j108 100) (nm (s11_j108.1 84 v5_j108.toNatClampNeg) fun y_114 => f11_toldDay_j120 v1_j108 v2_j108 v3_j108 v5_j108 y_114 s11_j108)
noncomputable def f11_toldDay_j71 (v1_j71 : Int32) (v2_j71 : Int32) (v3_j71 : Int32) (v4_j71 : Int32) (v5_j71 : Int32) (s11_j71 : OS) : Option ((Int32 × Int32) ⊕ (Int32)) := if v4_j71 = (-1 : Int32) then (f11_toldDay_j108 v1_j71 v2_j71 v3_j71 v5_j71 s11_j71) else (if v3_j71 = 0 then (chk (inb v5_j71 100) (nm (s11_j71.1 84 v5_j71.toNatClampNeg) fun y_102 => if v4_j71 ≤ y_102 then (f11_toldDay_j118 v1_j71 v2_j71 v3_j71 v4_j71 v5_j71 s11_j71) else (f11_toldDay_j108 v1_j71 v2_j71 v3_j71 v5_j71 s11_j71))) else (chk (inb v5_j71 100) (nm (s11_j71.1 84 v5_j71.toNatClampNeg) fun y_87 => if y_87 ≤ v4_j71 then (f11_toldDay_j118 v1_j71 v2_j71 v3_j71 v4_j71 v5_j71 s11_j71) else (f11_toldDay_j108 v1_j71 v2_j71 v3_j71 v5_j71 s11_j71))))
noncomputable def f11_toldDay_l19 (v1_i19 : Int32) (v2_i19 : Int32) (v3_i19 : Int32) (s11_i19 : OS) : Int32 × Int32 → Option ((Int32 × Int32) ⊕ (Int32)) := fun t_19 => if (s11_i19.1 0 9) ≤ t_19.2 then (Option.map Sum.inr (some t_19.1)) else (chk (inb t_19.2 100) (nm (s11_i19.1 82 t_19.2.toNatClampNeg) fun y_34 => if y_34 = v1_i19 then (if v3_i19 = 0 then (chk (inb t_19.2 100) (nm (s11_i19.1 84 t_19.2.toNatClampNeg) fun y_63 => if v2_i19 < y_63 then (f11_toldDay_j71 v1_i19 v2_i19 v3_i19 t_19.1 t_19.2 s11_i19) else (f11_toldDay_j122 v1_i19 v2_i19 v3_i19 t_19.1 t_19.2 s11_i19))) else (chk (inb t_19.2 100) (nm (s11_i19.1 84 t_19.2.toNatClampNeg) fun y_49 => if y_49 < v2_i19 then (f11_toldDay_j71 v1_i19 v2_i19 v3_i19 t_19.1 t_19.2 s11_i19) else (f11_toldDay_j122 v1_i19 v2_i19 v3_i19 t_19.1 t_19.2 s11_i19)))) else (f11_toldDay_j122 v1_i19 v2_i19 v3_i19 t_19.1 t_19.2 s11_i19)))
noncomputable def f11_toldDay_j14 (v1_j14 : Int32) (v2_j14 : Int32) (v3_j14 : Int32) (k0_j14 : Int32) (s11_j14 : OS) : Option (Int32) := loop (f11_toldDay_l19 v1_j14 v2_j14 v3_j14 s11_j14) (k0_j14, (0 : Int32))
noncomputable def f11_toldDay (a1 : Int32) (a2 : Int32) (a3 : Int32) (s11 : OS) : Option (Int32) := if a3 = 0 then (f11_toldDay_j14 a1 a2 a3 ((-1 : Int32)) s11) else (chk (inb a1 40) (nm (s11.1 80 a1.toNatClampNeg) fun y_9 => f11_toldDay_j14 a1 a2 a3 y_9 s11))
set_option maxHeartbeats 4000000 in
set_option maxRecDepth 100000 in
theorem m11_toldDay (l : Launch) (D : va_G) (ad : Nat → Nat) (cy : Nat → ClassId) (sz : Nat) (s11 : OS) (a1 : Int32) (a2 : Int32) (a3 : Int32) (r : Int32) (h : f11_toldDay a1 a2 a3 s11 = some r) : Met l yX11_toldDay (wsOf yX11_toldDay cX11_toldDay 6 (some .int)) (rmL 0) (va_Pc ([.ref (ad 0), .int a1, .int a2, .int a3] : List Value) (PreG D cy (cellsM ad cy s11) sz NM)) (QcI D ad 66 (cellsM ad cy s11) (r) sz) 0 0 (Afr ad 66 sz) := by
  refine metG (own := RX11) (by decide) rfl (Nat.le_of_ble_eq_true rfl) fstM ?_ sz
  intro p e s m below meth c ls C0 hw hl
  obtain ⟨hx, hb, hml, hown, hts, hr, hlk, hK, hN⟩ := C0
  have hl : lv_has ls 6 [(0, .ref (ad 0)), (1, .int a1), (2, .int a2), (3, .int a3)] := hl
  generalize hQ : MQ below (QcI D ad 66 (cellsM ad cy s11) (r) s.heap.size) ([.ref (ad 0), .int a1, .int a2, .int a3] : List Value).toArray s 0 0 (Afr ad 66 s.heap.size) = Q
  obtain ⟨H, hH⟩ : ∃ H : Heap, H = s.heap := ⟨_, rfl⟩
  obtain ⟨locs, hlc⟩ : ∃ L : List Loc, L = [] := ⟨_, rfl⟩
  have hw : Wd D (cellsM ad cy s11) (Afr ad 66 s.heap.size) s.heap H locs := by rw [hH, hlc]; exact hw
  suffices h0 : W p l e (rmL 0) s m ([.ref (ad 0), .int a1, .int a2, .int a3] : List Value).toArray below meth c H locs 0 0 Q (F0 m 0 ls []) by rw [hH, hlc] at h0; exact h0
  clear hH hlc
  unfold f11_toldDay at h
  have hJ_14 : ∀ (v1_j14 : Int32) (v2_j14 : Int32) (v3_j14 : Int32) (k0_j14 : Int32) (H : Heap) (locs : List Loc) (ls : Array Slot), f11_toldDay_j14 v1_j14 v2_j14 v3_j14 k0_j14 s11 = some r → Wd D (cellsM ad cy s11) (Afr ad 66 s.heap.size) s.heap H locs → lv_has ls 6 [(0, .ref (ad 0)), (1, .int v1_j14), (2, .int v2_j14), (3, .int v3_j14)] → W p l e (rmL 0) s m ([.ref (ad 0), .int a1, .int a2, .int a3] : List Value).toArray below meth c H locs 0 0 Q (F0 m 14 ls [.int k0_j14]) := by
    intro v1_j14 v2_j14 v3_j14 k0_j14 H locs ls h hw hl
    unfold f11_toldDay_j14 at h
    refine lv_istore (lv' := [(4, .int k0_j14), (0, .ref (ad 0)), (1, .int v1_j14), (2, .int v2_j14), (3, .int v3_j14)]) hx hb dX11_toldDay_14 hl (by decide) rfl (fun ls hl => ?_)
    refine lv_iconst (v := 0) hx hb dX11_toldDay_16 (by decide) ?_
    refine lv_istore (lv' := [(5, .int ((0 : Int32))), (4, .int k0_j14), (0, .ref (ad 0)), (1, .int v1_j14), (2, .int v2_j14), (3, .int v3_j14)]) hx hb dX11_toldDay_17 hl (by decide) rfl (fun ls hl => ?_)
    obtain ⟨n_19, hn_19⟩ := loop_e h
    have hL_19 : ∀ (n : Nat) (t_19 : Int32 × Int32) (H : Heap) (locs : List Loc) (ls : Array Slot), loopN (f11_toldDay_l19 v1_j14 v2_j14 v3_j14 s11) n t_19 = some r → Wd D (cellsM ad cy s11) (Afr ad 66 s.heap.size) s.heap H locs → lv_has ls 6 [(4, .int t_19.1), (5, .int t_19.2), (1, .int v1_j14), (2, .int v2_j14), (3, .int v3_j14), (0, .ref (ad 0))] → W p l e (rmL 0) s m ([.ref (ad 0), .int a1, .int a2, .int a3] : List Value).toArray below meth c H locs 0 0 Q (F0 m 19 ls []) := by
      intro n
      induction n with
      | zero => intro t_19 H locs ls hn; cases hn
      | succ n ih_19 =>
        intro t_19 H locs ls hn hw hl
        obtain ⟨x_19, h, hx_19⟩ := loopN_e hn
        unfold f11_toldDay_l19 at h
        have hJ_122 : ∀ (v4_j122 : Int32) (v5_j122 : Int32) (H : Heap) (locs : List Loc) (ls : Array Slot), f11_toldDay_j122 v1_j14 v2_j14 v3_j14 v4_j122 v5_j122 s11 = some x_19 → Wd D (cellsM ad cy s11) (Afr ad 66 s.heap.size) s.heap H locs → lv_has ls 6 [(0, .ref (ad 0)), (1, .int v1_j14), (2, .int v2_j14), (3, .int v3_j14), (4, .int v4_j122), (5, .int v5_j122)] → W p l e (rmL 0) s m ([.ref (ad 0), .int a1, .int a2, .int a3] : List Value).toArray below meth c H locs 0 0 Q (F0 m 122 ls []) := by
          intro v4_j122 v5_j122 H locs ls h hw hl
          unfold f11_toldDay_j122 at h
          obtain ⟨n_122, e_122, h⟩ := nam_e h
          refine lv_iinc (v := n_122) (lv' := [(5, .int n_122), (0, .ref (ad 0)), (1, .int v1_j14), (2, .int v2_j14), (3, .int v3_j14), (4, .int v4_j122)]) hx hb dX11_toldDay_122 hl (k := 5) rfl (by rw [e_122]; rfl) (by decide) rfl (fun ls hl => ?_)
          refine lv_goto (tgt := 19) hx hb dX11_toldDay_125 (by decide) ?_
          exact ih_19 (v4_j122, n_122) H locs ls (nx_l hx_19 h) hw (lv_sub hl [5, 0, 2, 3, 4, 1] rfl)
        have hJ_120 : ∀ (v5_j120 : Int32) (k0_j120 : Int32) (H : Heap) (locs : List Loc) (ls : Array Slot), f11_toldDay_j120 v1_j14 v2_j14 v3_j14 v5_j120 k0_j120 s11 = some x_19 → Wd D (cellsM ad cy s11) (Afr ad 66 s.heap.size) s.heap H locs → lv_has ls 6 [(0, .ref (ad 0)), (1, .int v1_j14), (2, .int v2_j14), (3, .int v3_j14), (5, .int v5_j120)] → W p l e (rmL 0) s m ([.ref (ad 0), .int a1, .int a2, .int a3] : List Value).toArray below meth c H locs 0 0 Q (F0 m 120 ls [.int k0_j120]) := by
          intro v5_j120 k0_j120 H locs ls h hw hl
          unfold f11_toldDay_j120 at h
          refine lv_istore (lv' := [(4, .int k0_j120), (0, .ref (ad 0)), (1, .int v1_j14), (2, .int v2_j14), (3, .int v3_j14), (5, .int v5_j120)]) hx hb dX11_toldDay_120 hl (by decide) rfl (fun ls hl => ?_)
          exact hJ_122 k0_j120 v5_j120 H locs ls h hw (lv_sub hl [1, 2, 3, 4, 0, 5] rfl)
        have hJ_118 : ∀ (v4_j118 : Int32) (v5_j118 : Int32) (H : Heap) (locs : List Loc) (ls : Array Slot), f11_toldDay_j118 v1_j14 v2_j14 v3_j14 v4_j118 v5_j118 s11 = some x_19 → Wd D (cellsM ad cy s11) (Afr ad 66 s.heap.size) s.heap H locs → lv_has ls 6 [(0, .ref (ad 0)), (1, .int v1_j14), (2, .int v2_j14), (3, .int v3_j14), (4, .int v4_j118), (5, .int v5_j118)] → W p l e (rmL 0) s m ([.ref (ad 0), .int a1, .int a2, .int a3] : List Value).toArray below meth c H locs 0 0 Q (F0 m 118 ls []) := by
          intro v4_j118 v5_j118 H locs ls h hw hl
          unfold f11_toldDay_j118 at h
          refine lv_iload hx hb dX11_toldDay_118 (lv_at hl 4 rfl) ?_
          exact hJ_120 v5_j118 v4_j118 H locs ls h hw (lv_sub hl [0, 1, 2, 3, 5] rfl)
        have hJ_108 : ∀ (v5_j108 : Int32) (H : Heap) (locs : List Loc) (ls : Array Slot), f11_toldDay_j108 v1_j14 v2_j14 v3_j14 v5_j108 s11 = some x_19 → Wd D (cellsM ad cy s11) (Afr ad 66 s.heap.size) s.heap H locs → lv_has ls 6 [(0, .ref (ad 0)), (1, .int v1_j14), (2, .int v2_j14), (3, .int v3_j14), (5, .int v5_j108)] → W p l e (rmL 0) s m ([.ref (ad 0), .int a1, .int a2, .int a3] : List Value).toArray below meth c H locs 0 0 Q (F0 m 108 ls []) := by
          intro v5_j108 H locs ls h hw hl
          unfold f11_toldDay_j108 at h
          refine lv_aload_n hx hb dX11_toldDay_108 rfl (lv_at hl 0 rfl) ?_
          refine gX11_190 hx hb hts hown hK hw dX11_toldDay_109 ?_
          refine lv_iload hx hb dX11_toldDay_112 (lv_at hl 4 rfl) ?_
          obtain ⟨hi_114, h⟩ := chk_e h
          obtain ⟨y_114, e_114, h⟩ := nam_e h
          refine lM60 hx hb hK hw hi_114 e_114 dX11_toldDay_114 ?_
          refine lv_goto (tgt := 120) hx hb dX11_toldDay_115 (by decide) ?_
          exact hJ_120 v5_j108 y_114 H locs ls h hw (lv_sub hl [0, 1, 2, 3, 4] rfl)
        have hJ_71 : ∀ (v4_j71 : Int32) (v5_j71 : Int32) (H : Heap) (locs : List Loc) (ls : Array Slot), f11_toldDay_j71 v1_j14 v2_j14 v3_j14 v4_j71 v5_j71 s11 = some x_19 → Wd D (cellsM ad cy s11) (Afr ad 66 s.heap.size) s.heap H locs → lv_has ls 6 [(0, .ref (ad 0)), (1, .int v1_j14), (2, .int v2_j14), (3, .int v3_j14), (4, .int v4_j71), (5, .int v5_j71)] → W p l e (rmL 0) s m ([.ref (ad 0), .int a1, .int a2, .int a3] : List Value).toArray below meth c H locs 0 0 Q (F0 m 71 ls []) := by
          intro v4_j71 v5_j71 H locs ls h hw hl
          unfold f11_toldDay_j71 at h
          refine lv_iload hx hb dX11_toldDay_71 (lv_at hl 4 rfl) ?_
          refine lv_iconst (v := (-1)) hx hb dX11_toldDay_73 (by decide) ?_
          refine lv_icmp_eq (tgt := 108) hx hb dX11_toldDay_74 (by decide) (fun c_74 => ?_) (fun c_74 => ?_)
          · have h := ite_t c_74 h
            exact hJ_108 v5_j71 H locs ls h hw (lv_sub hl [0, 1, 2, 3, 5] rfl)
          · have h := ite_f c_74 h
            refine lv_iload_n hx hb dX11_toldDay_77 rfl (lv_at hl 3 rfl) ?_
            refine lv_if_eq (tgt := 96) hx hb dX11_toldDay_78 (by decide) (fun c_78 => ?_) (fun c_78 => ?_)
            · have h := ite_t c_78 h
              refine lv_aload_n hx hb dX11_toldDay_96 rfl (lv_at hl 0 rfl) ?_
              refine gX11_190 hx hb hts hown hK hw dX11_toldDay_97 ?_
              refine lv_iload hx hb dX11_toldDay_100 (lv_at hl 5 rfl) ?_
              obtain ⟨hi_102, h⟩ := chk_e h
              obtain ⟨y_102, e_102, h⟩ := nam_e h
              refine lM60 hx hb hK hw hi_102 e_102 dX11_toldDay_102 ?_
              refine lv_iload hx hb dX11_toldDay_103 (lv_at hl 4 rfl) ?_
              refine lv_icmp_ge (tgt := 118) hx hb dX11_toldDay_105 (by decide) (fun c_105 => ?_) (fun c_105 => ?_)
              · have h := ite_t c_105 h
                exact hJ_118 v4_j71 v5_j71 H locs ls h hw (lv_sub hl [0, 1, 2, 3, 4, 5] rfl)
              · have h := ite_f c_105 h
                exact hJ_108 v5_j71 H locs ls h hw (lv_sub hl [0, 1, 2, 3, 5] rfl)
            · have h := ite_f c_78 h
              refine lv_aload_n hx hb dX11_toldDay_81 rfl (lv_at hl 0 rfl) ?_
              refine gX11_190 hx hb hts hown hK hw dX11_toldDay_82 ?_
              refine lv_iload hx hb dX11_toldDay_85 (lv_at hl 5 rfl) ?_
              obtain ⟨hi_87, h⟩ := chk_e h
              obtain ⟨y_87, e_87, h⟩ := nam_e h
              refine lM60 hx hb hK hw hi_87 e_87 dX11_toldDay_87 ?_
              refine lv_iload hx hb dX11_toldDay_88 (lv_at hl 4 rfl) ?_
              refine lv_icmp_le (tgt := 118) hx hb dX11_toldDay_90 (by decide) (fun c_90 => ?_) (fun c_90 => ?_)
              · have h := ite_t c_90 h
                exact hJ_118 v4_j71 v5_j71 H locs ls h hw (lv_sub hl [0, 1, 2, 3, 4, 5] rfl)
              · have h := ite_f c_90 h
                refine lv_goto (tgt := 108) hx hb dX11_toldDay_93 (by decide) ?_
                exact hJ_108 v5_j71 H locs ls h hw (lv_sub hl [0, 1, 2, 3, 5] rfl)
        refine lv_iload hx hb dX11_toldDay_19 (lv_at hl 1 rfl) ?_
        refine lv_aload_n hx hb dX11_toldDay_21 rfl (lv_at hl 5 rfl) ?_
        refine gX11_488 hx hb hts hown hK hw dX11_toldDay_22 ?_
        refine lv_icmp_ge (tgt := 128) hx hb dX11_toldDay_25 (by decide) (fun c_25 => ?_) (fun c_25 => ?_)
        · have h := ite_t c_25 h
          have h := nx_m hx_19 h
          refine lv_iload hx hb dX11_toldDay_128 (lv_at hl 0 rfl) ?_
          have h := Option.some.inj h
          subst h
          rw [← hQ]
          exact retI hx hb hr hlk hw rfl dX11_toldDay_130
        · have h := ite_f c_25 h
          refine lv_aload_n hx hb dX11_toldDay_28 rfl (lv_at hl 5 rfl) ?_
          refine gX11_184 hx hb hts hown hK hw dX11_toldDay_29 ?_
          refine lv_iload hx hb dX11_toldDay_32 (lv_at hl 1 rfl) ?_
          obtain ⟨hi_34, h⟩ := chk_e h
          obtain ⟨y_34, e_34, h⟩ := nam_e h
          refine lM58 hx hb hK hw hi_34 e_34 dX11_toldDay_34 ?_
          refine lv_iload_n hx hb dX11_toldDay_35 rfl (lv_at hl 2 rfl) ?_
          refine lv_icmp_ne (tgt := 122) hx hb dX11_toldDay_36 (by decide) (fun c_36 => ?_) (fun c_36 => ?_)
          · have h := ite_f c_36 h
            exact hJ_122 t_19.1 t_19.2 H locs ls h hw (lv_sub hl [5, 2, 3, 4, 0, 1] rfl)
          · have h := ite_t c_36 h
            refine lv_iload_n hx hb dX11_toldDay_39 rfl (lv_at hl 4 rfl) ?_
            refine lv_if_eq (tgt := 57) hx hb dX11_toldDay_40 (by decide) (fun c_40 => ?_) (fun c_40 => ?_)
            · have h := ite_t c_40 h
              refine lv_aload_n hx hb dX11_toldDay_57 rfl (lv_at hl 5 rfl) ?_
              refine gX11_190 hx hb hts hown hK hw dX11_toldDay_58 ?_
              refine lv_iload hx hb dX11_toldDay_61 (lv_at hl 1 rfl) ?_
              obtain ⟨hi_63, h⟩ := chk_e h
              obtain ⟨y_63, e_63, h⟩ := nam_e h
              refine lM60 hx hb hK hw hi_63 e_63 dX11_toldDay_63 ?_
              refine lv_iload_n hx hb dX11_toldDay_64 rfl (lv_at hl 3 rfl) ?_
              refine lv_icmp_gt (tgt := 71) hx hb dX11_toldDay_65 (by decide) (fun c_65 => ?_) (fun c_65 => ?_)
              · have h := ite_t c_65 h
                exact hJ_71 t_19.1 t_19.2 H locs ls h hw (lv_sub hl [5, 2, 3, 4, 0, 1] rfl)
              · have h := ite_f c_65 h
                refine lv_goto (tgt := 122) hx hb dX11_toldDay_68 (by decide) ?_
                exact hJ_122 t_19.1 t_19.2 H locs ls h hw (lv_sub hl [5, 2, 3, 4, 0, 1] rfl)
            · have h := ite_f c_40 h
              refine lv_aload_n hx hb dX11_toldDay_43 rfl (lv_at hl 5 rfl) ?_
              refine gX11_190 hx hb hts hown hK hw dX11_toldDay_44 ?_
              refine lv_iload hx hb dX11_toldDay_47 (lv_at hl 1 rfl) ?_
              obtain ⟨hi_49, h⟩ := chk_e h
              obtain ⟨y_49, e_49, h⟩ := nam_e h
              refine lM60 hx hb hK hw hi_49 e_49 dX11_toldDay_49 ?_
              refine lv_iload_n hx hb dX11_toldDay_50 rfl (lv_at hl 3 rfl) ?_
              refine lv_icmp_lt (tgt := 71) hx hb dX11_toldDay_51 (by decide) (fun c_51 => ?_) (fun c_51 => ?_)
              · have h := ite_t c_51 h
                exact hJ_71 t_19.1 t_19.2 H locs ls h hw (lv_sub hl [5, 2, 3, 4, 0, 1] rfl)
              · have h := ite_f c_51 h
                refine lv_goto (tgt := 122) hx hb dX11_toldDay_54 (by decide) ?_
                exact hJ_122 t_19.1 t_19.2 H locs ls h hw (lv_sub hl [5, 2, 3, 4, 0, 1] rfl)
    exact hL_19 n_19 (k0_j14, (0 : Int32)) H locs ls hn_19 hw (lv_sub hl [1, 0, 3, 4, 5, 2] rfl)
  refine lv_iload_n hx hb dX11_toldDay_0 rfl (lv_at hl 3 rfl) ?_
  refine lv_if_eq (tgt := 13) hx hb dX11_toldDay_1 (by decide) (fun c_1 => ?_) (fun c_1 => ?_)
  · have h := ite_t c_1 h
    refine lv_iconst (v := (-1)) hx hb dX11_toldDay_13 (by decide) ?_
    exact hJ_14 a1 a2 a3 ((-1 : Int32)) H locs ls h hw (lv_sub hl [0, 1, 2, 3] rfl)
  · have h := ite_f c_1 h
    refine lv_aload_n hx hb dX11_toldDay_4 rfl (lv_at hl 0 rfl) ?_
    refine gX11_178 hx hb hts hown hK hw dX11_toldDay_5 ?_
    refine lv_iload_n hx hb dX11_toldDay_8 rfl (lv_at hl 1 rfl) ?_
    obtain ⟨hi_9, h⟩ := chk_e h
    obtain ⟨y_9, e_9, h⟩ := nam_e h
    refine lM56 hx hb hK hw hi_9 e_9 dX11_toldDay_9 ?_
    refine lv_goto (tgt := 14) hx hb dX11_toldDay_10 (by decide) ?_
    exact hJ_14 a1 a2 a3 y_9 H locs ls h hw (lv_sub hl [0, 1, 2, 3] rfl)
theorem dX11_toldOn_0 : decode cX11_toldOn 0 = .ok (.aload_n 0, 1) := by decide +kernel
theorem dX11_toldOn_1 : decode cX11_toldOn 1 = .ok (.getfield 178, 3) := by decide +kernel
theorem dX11_toldOn_4 : decode cX11_toldOn 4 = .ok (.iload_n 1, 1) := by decide +kernel
theorem dX11_toldOn_5 : decode cX11_toldOn 5 = .ok (.iaload, 1) := by decide +kernel
theorem dX11_toldOn_6 : decode cX11_toldOn 6 = .ok (.iload_n 2, 1) := by decide +kernel
theorem dX11_toldOn_7 : decode cX11_toldOn 7 = .ok (.if_icmp .ne 14, 3) := by decide +kernel
theorem dX11_toldOn_10 : decode cX11_toldOn 10 = .ok (.iconst 1, 1) := by decide +kernel
theorem dX11_toldOn_11 : decode cX11_toldOn 11 = .ok (.aload_n 0, 1) := by decide +kernel
theorem dX11_toldOn_12 : decode cX11_toldOn 12 = .ok (.getfield 181, 3) := by decide +kernel
theorem dX11_toldOn_15 : decode cX11_toldOn 15 = .ok (.iload_n 1, 1) := by decide +kernel
theorem dX11_toldOn_16 : decode cX11_toldOn 16 = .ok (.iaload, 1) := by decide +kernel
theorem dX11_toldOn_17 : decode cX11_toldOn 17 = .ok (.ishl, 1) := by decide +kernel
theorem dX11_toldOn_18 : decode cX11_toldOn 18 = .ok (.goto 4, 3) := by decide +kernel
theorem dX11_toldOn_21 : decode cX11_toldOn 21 = .ok (.iconst 0, 1) := by decide +kernel
theorem dX11_toldOn_22 : decode cX11_toldOn 22 = .ok (.istore_n 3, 1) := by decide +kernel
theorem dX11_toldOn_23 : decode cX11_toldOn 23 = .ok (.iconst 0, 1) := by decide +kernel
theorem dX11_toldOn_24 : decode cX11_toldOn 24 = .ok (.istore 4, 2) := by decide +kernel
theorem dX11_toldOn_26 : decode cX11_toldOn 26 = .ok (.iload 4, 2) := by decide +kernel
theorem dX11_toldOn_28 : decode cX11_toldOn 28 = .ok (.aload_n 0, 1) := by decide +kernel
theorem dX11_toldOn_29 : decode cX11_toldOn 29 = .ok (.getfield 488, 3) := by decide +kernel
theorem dX11_toldOn_32 : decode cX11_toldOn 32 = .ok (.if_icmp .ge 43, 3) := by decide +kernel
theorem dX11_toldOn_35 : decode cX11_toldOn 35 = .ok (.aload_n 0, 1) := by decide +kernel
theorem dX11_toldOn_36 : decode cX11_toldOn 36 = .ok (.getfield 184, 3) := by decide +kernel
theorem dX11_toldOn_39 : decode cX11_toldOn 39 = .ok (.iload 4, 2) := by decide +kernel
theorem dX11_toldOn_41 : decode cX11_toldOn 41 = .ok (.iaload, 1) := by decide +kernel
theorem dX11_toldOn_42 : decode cX11_toldOn 42 = .ok (.iload_n 1, 1) := by decide +kernel
theorem dX11_toldOn_43 : decode cX11_toldOn 43 = .ok (.if_icmp .ne 26, 3) := by decide +kernel
theorem dX11_toldOn_46 : decode cX11_toldOn 46 = .ok (.aload_n 0, 1) := by decide +kernel
theorem dX11_toldOn_47 : decode cX11_toldOn 47 = .ok (.getfield 190, 3) := by decide +kernel
theorem dX11_toldOn_50 : decode cX11_toldOn 50 = .ok (.iload 4, 2) := by decide +kernel
theorem dX11_toldOn_52 : decode cX11_toldOn 52 = .ok (.iaload, 1) := by decide +kernel
theorem dX11_toldOn_53 : decode cX11_toldOn 53 = .ok (.iload_n 2, 1) := by decide +kernel
theorem dX11_toldOn_54 : decode cX11_toldOn 54 = .ok (.if_icmp .ne 15, 3) := by decide +kernel
theorem dX11_toldOn_57 : decode cX11_toldOn 57 = .ok (.iload_n 3, 1) := by decide +kernel
theorem dX11_toldOn_58 : decode cX11_toldOn 58 = .ok (.iconst 1, 1) := by decide +kernel
theorem dX11_toldOn_59 : decode cX11_toldOn 59 = .ok (.aload_n 0, 1) := by decide +kernel
theorem dX11_toldOn_60 : decode cX11_toldOn 60 = .ok (.getfield 187, 3) := by decide +kernel
theorem dX11_toldOn_63 : decode cX11_toldOn 63 = .ok (.iload 4, 2) := by decide +kernel
theorem dX11_toldOn_65 : decode cX11_toldOn 65 = .ok (.iaload, 1) := by decide +kernel
theorem dX11_toldOn_66 : decode cX11_toldOn 66 = .ok (.ishl, 1) := by decide +kernel
theorem dX11_toldOn_67 : decode cX11_toldOn 67 = .ok (.ior, 1) := by decide +kernel
theorem dX11_toldOn_68 : decode cX11_toldOn 68 = .ok (.istore_n 3, 1) := by decide +kernel
theorem dX11_toldOn_69 : decode cX11_toldOn 69 = .ok (.iinc 4 1, 3) := by decide +kernel
theorem dX11_toldOn_72 : decode cX11_toldOn 72 = .ok (.goto (-46), 3) := by decide +kernel
theorem dX11_toldOn_75 : decode cX11_toldOn 75 = .ok (.iload_n 3, 1) := by decide +kernel
theorem dX11_toldOn_76 : decode cX11_toldOn 76 = .ok (.ireturn, 1) := by decide +kernel
noncomputable def f11_toldOn_j69 (v1_j69 : Int32) (v2_j69 : Int32) (v3_j69 : Int32) (v4_j69 : Int32) (s11_j69 : OS) : Option ((Int32 × Int32) ⊕ (Int32)) := nm (v4_j69 + (1 : Int32)) fun n_69 => some (Sum.inl (v3_j69, n_69))
noncomputable def f11_toldOn_l26 (v1_i26 : Int32) (v2_i26 : Int32) (s11_i26 : OS) : Int32 × Int32 → Option ((Int32 × Int32) ⊕ (Int32)) := fun t_26 => if (s11_i26.1 0 9) ≤ t_26.2 then (Option.map Sum.inr (some t_26.1)) else (chk (inb t_26.2 100) (nm (s11_i26.1 82 t_26.2.toNatClampNeg) fun y_41 => if y_41 = v1_i26 then (chk (inb t_26.2 100) (nm (s11_i26.1 84 t_26.2.toNatClampNeg) fun y_52 => if y_52 = v2_i26 then (chk (inb t_26.2 100) (nm (s11_i26.1 83 t_26.2.toNatClampNeg) fun y_65 => nm ((t_26.1 ||| ((1 : Int32) <<< (y_65 &&& 31)))) fun n_68 => f11_toldOn_j69 v1_i26 v2_i26 n_68 t_26.2 s11_i26)) else (f11_toldOn_j69 v1_i26 v2_i26 t_26.1 t_26.2 s11_i26))) else (f11_toldOn_j69 v1_i26 v2_i26 t_26.1 t_26.2 s11_i26)))
noncomputable def f11_toldOn_j22 (v1_j22 : Int32) (v2_j22 : Int32) (k0_j22 : Int32) (s11_j22 : OS) : Option (Int32) := loop (f11_toldOn_l26 v1_j22 v2_j22 s11_j22) (k0_j22, (0 : Int32))
noncomputable def f11_toldOn (a1 : Int32) (a2 : Int32) (s11 : OS) : Option (Int32) := chk (inb a1 40) (nm (s11.1 80 a1.toNatClampNeg) fun y_5 => if y_5 = a2 then (chk (inb a1 40) (nm (s11.1 81 a1.toNatClampNeg) fun y_16 => f11_toldOn_j22 a1 a2 (((1 : Int32) <<< (y_16 &&& 31))) s11)) else (f11_toldOn_j22 a1 a2 ((0 : Int32)) s11))
set_option maxHeartbeats 4000000 in
set_option maxRecDepth 100000 in
theorem m11_toldOn (l : Launch) (D : va_G) (ad : Nat → Nat) (cy : Nat → ClassId) (sz : Nat) (s11 : OS) (a1 : Int32) (a2 : Int32) (r : Int32) (h : f11_toldOn a1 a2 s11 = some r) : Met l yX11_toldOn (wsOf yX11_toldOn cX11_toldOn 5 (some .int)) (rmL 0) (va_Pc ([.ref (ad 0), .int a1, .int a2] : List Value) (PreG D cy (cellsM ad cy s11) sz NM)) (QcI D ad 66 (cellsM ad cy s11) (r) sz) 0 0 (Afr ad 66 sz) := by
  refine metG (own := RX11) (by decide) rfl (Nat.le_of_ble_eq_true rfl) fstM ?_ sz
  intro p e s m below meth c ls C0 hw hl
  obtain ⟨hx, hb, hml, hown, hts, hr, hlk, hK, hN⟩ := C0
  have hl : lv_has ls 5 [(0, .ref (ad 0)), (1, .int a1), (2, .int a2)] := hl
  generalize hQ : MQ below (QcI D ad 66 (cellsM ad cy s11) (r) s.heap.size) ([.ref (ad 0), .int a1, .int a2] : List Value).toArray s 0 0 (Afr ad 66 s.heap.size) = Q
  obtain ⟨H, hH⟩ : ∃ H : Heap, H = s.heap := ⟨_, rfl⟩
  obtain ⟨locs, hlc⟩ : ∃ L : List Loc, L = [] := ⟨_, rfl⟩
  have hw : Wd D (cellsM ad cy s11) (Afr ad 66 s.heap.size) s.heap H locs := by rw [hH, hlc]; exact hw
  suffices h0 : W p l e (rmL 0) s m ([.ref (ad 0), .int a1, .int a2] : List Value).toArray below meth c H locs 0 0 Q (F0 m 0 ls []) by rw [hH, hlc] at h0; exact h0
  clear hH hlc
  unfold f11_toldOn at h
  have hJ_22 : ∀ (v1_j22 : Int32) (v2_j22 : Int32) (k0_j22 : Int32) (H : Heap) (locs : List Loc) (ls : Array Slot), f11_toldOn_j22 v1_j22 v2_j22 k0_j22 s11 = some r → Wd D (cellsM ad cy s11) (Afr ad 66 s.heap.size) s.heap H locs → lv_has ls 5 [(0, .ref (ad 0)), (1, .int v1_j22), (2, .int v2_j22)] → W p l e (rmL 0) s m ([.ref (ad 0), .int a1, .int a2] : List Value).toArray below meth c H locs 0 0 Q (F0 m 22 ls [.int k0_j22]) := by
    intro v1_j22 v2_j22 k0_j22 H locs ls h hw hl
    unfold f11_toldOn_j22 at h
    refine lv_istore_n (lv' := [(3, .int k0_j22), (0, .ref (ad 0)), (1, .int v1_j22), (2, .int v2_j22)]) hx hb dX11_toldOn_22 rfl hl (by decide) rfl (fun ls hl => ?_)
    refine lv_iconst (v := 0) hx hb dX11_toldOn_23 (by decide) ?_
    refine lv_istore (lv' := [(4, .int ((0 : Int32))), (3, .int k0_j22), (0, .ref (ad 0)), (1, .int v1_j22), (2, .int v2_j22)]) hx hb dX11_toldOn_24 hl (by decide) rfl (fun ls hl => ?_)
    obtain ⟨n_26, hn_26⟩ := loop_e h
    have hL_26 : ∀ (n : Nat) (t_26 : Int32 × Int32) (H : Heap) (locs : List Loc) (ls : Array Slot), loopN (f11_toldOn_l26 v1_j22 v2_j22 s11) n t_26 = some r → Wd D (cellsM ad cy s11) (Afr ad 66 s.heap.size) s.heap H locs → lv_has ls 5 [(3, .int t_26.1), (4, .int t_26.2), (1, .int v1_j22), (2, .int v2_j22), (0, .ref (ad 0))] → W p l e (rmL 0) s m ([.ref (ad 0), .int a1, .int a2] : List Value).toArray below meth c H locs 0 0 Q (F0 m 26 ls []) := by
      intro n
      induction n with
      | zero => intro t_26 H locs ls hn; cases hn
      | succ n ih_26 =>
        intro t_26 H locs ls hn hw hl
        obtain ⟨x_26, h, hx_26⟩ := loopN_e hn
        unfold f11_toldOn_l26 at h
        have hJ_69 : ∀ (v3_j69 : Int32) (v4_j69 : Int32) (H : Heap) (locs : List Loc) (ls : Array Slot), f11_toldOn_j69 v1_j22 v2_j22 v3_j69 v4_j69 s11 = some x_26 → Wd D (cellsM ad cy s11) (Afr ad 66 s.heap.size) s.heap H locs → lv_has ls 5 [(0, .ref (ad 0)), (1, .int v1_j22), (2, .int v2_j22), (3, .int v3_j69), (4, .int v4_j69)] → W p l e (rmL 0) s m ([.ref (ad 0), .int a1, .int a2] : List Value).toArray below meth c H locs 0 0 Q (F0 m 69 ls []) := by
          intro v3_j69 v4_j69 H locs ls h hw hl
          unfold f11_toldOn_j69 at h
          obtain ⟨n_69, e_69, h⟩ := nam_e h
          refine lv_iinc (v := n_69) (lv' := [(4, .int n_69), (0, .ref (ad 0)), (1, .int v1_j22), (2, .int v2_j22), (3, .int v3_j69)]) hx hb dX11_toldOn_69 hl (k := 4) rfl (by rw [e_69]; rfl) (by decide) rfl (fun ls hl => ?_)
          refine lv_goto (tgt := 26) hx hb dX11_toldOn_72 (by decide) ?_
          exact ih_26 (v3_j69, n_69) H locs ls (nx_l hx_26 h) hw (lv_sub hl [4, 0, 2, 3, 1] rfl)
        refine lv_iload hx hb dX11_toldOn_26 (lv_at hl 1 rfl) ?_
        refine lv_aload_n hx hb dX11_toldOn_28 rfl (lv_at hl 4 rfl) ?_
        refine gX11_488 hx hb hts hown hK hw dX11_toldOn_29 ?_
        refine lv_icmp_ge (tgt := 75) hx hb dX11_toldOn_32 (by decide) (fun c_32 => ?_) (fun c_32 => ?_)
        · have h := ite_t c_32 h
          have h := nx_m hx_26 h
          refine lv_iload_n hx hb dX11_toldOn_75 rfl (lv_at hl 0 rfl) ?_
          have h := Option.some.inj h
          subst h
          rw [← hQ]
          exact retI hx hb hr hlk hw rfl dX11_toldOn_76
        · have h := ite_f c_32 h
          refine lv_aload_n hx hb dX11_toldOn_35 rfl (lv_at hl 4 rfl) ?_
          refine gX11_184 hx hb hts hown hK hw dX11_toldOn_36 ?_
          refine lv_iload hx hb dX11_toldOn_39 (lv_at hl 1 rfl) ?_
          obtain ⟨hi_41, h⟩ := chk_e h
          obtain ⟨y_41, e_41, h⟩ := nam_e h
          refine lM58 hx hb hK hw hi_41 e_41 dX11_toldOn_41 ?_
          refine lv_iload_n hx hb dX11_toldOn_42 rfl (lv_at hl 2 rfl) ?_
          refine lv_icmp_ne (tgt := 69) hx hb dX11_toldOn_43 (by decide) (fun c_43 => ?_) (fun c_43 => ?_)
          · have h := ite_f c_43 h
            exact hJ_69 t_26.1 t_26.2 H locs ls h hw (lv_sub hl [4, 2, 3, 0, 1] rfl)
          · have h := ite_t c_43 h
            refine lv_aload_n hx hb dX11_toldOn_46 rfl (lv_at hl 4 rfl) ?_
            refine gX11_190 hx hb hts hown hK hw dX11_toldOn_47 ?_
            refine lv_iload hx hb dX11_toldOn_50 (lv_at hl 1 rfl) ?_
            obtain ⟨hi_52, h⟩ := chk_e h
            obtain ⟨y_52, e_52, h⟩ := nam_e h
            refine lM60 hx hb hK hw hi_52 e_52 dX11_toldOn_52 ?_
            refine lv_iload_n hx hb dX11_toldOn_53 rfl (lv_at hl 3 rfl) ?_
            refine lv_icmp_ne (tgt := 69) hx hb dX11_toldOn_54 (by decide) (fun c_54 => ?_) (fun c_54 => ?_)
            · have h := ite_f c_54 h
              exact hJ_69 t_26.1 t_26.2 H locs ls h hw (lv_sub hl [4, 2, 3, 0, 1] rfl)
            · have h := ite_t c_54 h
              refine lv_iload_n hx hb dX11_toldOn_57 rfl (lv_at hl 0 rfl) ?_
              refine lv_iconst (v := 1) hx hb dX11_toldOn_58 (by decide) ?_
              refine lv_aload_n hx hb dX11_toldOn_59 rfl (lv_at hl 4 rfl) ?_
              refine gX11_187 hx hb hts hown hK hw dX11_toldOn_60 ?_
              refine lv_iload hx hb dX11_toldOn_63 (lv_at hl 1 rfl) ?_
              obtain ⟨hi_65, h⟩ := chk_e h
              obtain ⟨y_65, e_65, h⟩ := nam_e h
              refine lM59 hx hb hK hw hi_65 e_65 dX11_toldOn_65 ?_
              refine lv_ishl hx hb dX11_toldOn_66 ?_
              refine lv_ior hx hb dX11_toldOn_67 ?_
              obtain ⟨n_68, e_68, h⟩ := nam_e h
              refine topI e_68 ?_
              refine lv_istore_n (lv' := [(3, .int n_68), (4, .int t_26.2), (1, .int v1_j22), (2, .int v2_j22), (0, .ref (ad 0))]) hx hb dX11_toldOn_68 rfl hl (by decide) rfl (fun ls hl => ?_)
              exact hJ_69 n_68 t_26.2 H locs ls h hw (lv_sub hl [4, 2, 3, 0, 1] rfl)
    exact hL_26 n_26 (k0_j22, (0 : Int32)) H locs ls hn_26 hw (lv_sub hl [1, 0, 3, 4, 2] rfl)
  refine lv_aload_n hx hb dX11_toldOn_0 rfl (lv_at hl 0 rfl) ?_
  refine gX11_178 hx hb hts hown hK hw dX11_toldOn_1 ?_
  refine lv_iload_n hx hb dX11_toldOn_4 rfl (lv_at hl 1 rfl) ?_
  obtain ⟨hi_5, h⟩ := chk_e h
  obtain ⟨y_5, e_5, h⟩ := nam_e h
  refine lM56 hx hb hK hw hi_5 e_5 dX11_toldOn_5 ?_
  refine lv_iload_n hx hb dX11_toldOn_6 rfl (lv_at hl 2 rfl) ?_
  refine lv_icmp_ne (tgt := 21) hx hb dX11_toldOn_7 (by decide) (fun c_7 => ?_) (fun c_7 => ?_)
  · have h := ite_f c_7 h
    refine lv_iconst (v := 0) hx hb dX11_toldOn_21 (by decide) ?_
    exact hJ_22 a1 a2 ((0 : Int32)) H locs ls h hw (lv_sub hl [0, 1, 2] rfl)
  · have h := ite_t c_7 h
    refine lv_iconst (v := 1) hx hb dX11_toldOn_10 (by decide) ?_
    refine lv_aload_n hx hb dX11_toldOn_11 rfl (lv_at hl 0 rfl) ?_
    refine gX11_181 hx hb hts hown hK hw dX11_toldOn_12 ?_
    refine lv_iload_n hx hb dX11_toldOn_15 rfl (lv_at hl 1 rfl) ?_
    obtain ⟨hi_16, h⟩ := chk_e h
    obtain ⟨y_16, e_16, h⟩ := nam_e h
    refine lM57 hx hb hK hw hi_16 e_16 dX11_toldOn_16 ?_
    refine lv_ishl hx hb dX11_toldOn_17 ?_
    refine lv_goto (tgt := 22) hx hb dX11_toldOn_18 (by decide) ?_
    exact hJ_22 a1 a2 (((1 : Int32) <<< (y_16 &&& 31))) H locs ls h hw (lv_sub hl [0, 1, 2] rfl)
theorem dX11_trial_0 : decode cX11_trial 0 = .ok (.aload_n 0, 1) := by decide +kernel
theorem dX11_trial_1 : decode cX11_trial 1 = .ok (.iload_n 1, 1) := by decide +kernel
theorem dX11_trial_2 : decode cX11_trial 2 = .ok (.invokevirtual 266, 3) := by decide +kernel
theorem dX11_trial_5 : decode cX11_trial 5 = .ok (.ifCond .eq 26, 3) := by decide +kernel
theorem dX11_trial_8 : decode cX11_trial 8 = .ok (.iload_n 2, 1) := by decide +kernel
theorem dX11_trial_9 : decode cX11_trial 9 = .ok (.i2l, 1) := by decide +kernel
theorem dX11_trial_10 : decode cX11_trial 10 = .ok (.lconst 0, 1) := by decide +kernel
theorem dX11_trial_11 : decode cX11_trial 11 = .ok (.aload_n 0, 1) := by decide +kernel
theorem dX11_trial_12 : decode cX11_trial 12 = .ok (.getfield 20, 3) := by decide +kernel
theorem dX11_trial_15 : decode cX11_trial 15 = .ok (.iload_n 1, 1) := by decide +kernel
theorem dX11_trial_16 : decode cX11_trial 16 = .ok (.iaload, 1) := by decide +kernel
theorem dX11_trial_17 : decode cX11_trial 17 = .ok (.i2l, 1) := by decide +kernel
theorem dX11_trial_18 : decode cX11_trial 18 = .ok (.invokestatic 215, 3) := by decide +kernel
theorem dX11_trial_21 : decode cX11_trial 21 = .ok (.ifCond .eq 10, 3) := by decide +kernel
theorem dX11_trial_24 : decode cX11_trial 24 = .ok (.iload_n 3, 1) := by decide +kernel
theorem dX11_trial_25 : decode cX11_trial 25 = .ok (.invokestatic 248, 3) := by decide +kernel
theorem dX11_trial_28 : decode cX11_trial 28 = .ok (.ifCond .ne 5, 3) := by decide +kernel
theorem dX11_trial_31 : decode cX11_trial 31 = .ok (.iconst (-1), 1) := by decide +kernel
theorem dX11_trial_32 : decode cX11_trial 32 = .ok (.ireturn, 1) := by decide +kernel
theorem dX11_trial_33 : decode cX11_trial 33 = .ok (.aload_n 0, 1) := by decide +kernel
theorem dX11_trial_34 : decode cX11_trial 34 = .ok (.getfield 20, 3) := by decide +kernel
theorem dX11_trial_37 : decode cX11_trial 37 = .ok (.iload_n 1, 1) := by decide +kernel
theorem dX11_trial_38 : decode cX11_trial 38 = .ok (.dup2, 1) := by decide +kernel
theorem dX11_trial_39 : decode cX11_trial 39 = .ok (.iaload, 1) := by decide +kernel
theorem dX11_trial_40 : decode cX11_trial 40 = .ok (.iload_n 2, 1) := by decide +kernel
theorem dX11_trial_41 : decode cX11_trial 41 = .ok (.isub, 1) := by decide +kernel
theorem dX11_trial_42 : decode cX11_trial 42 = .ok (.iastore, 1) := by decide +kernel
theorem dX11_trial_43 : decode cX11_trial 43 = .ok (.aload_n 0, 1) := by decide +kernel
theorem dX11_trial_44 : decode cX11_trial 44 = .ok (.getfield 23, 3) := by decide +kernel
theorem dX11_trial_47 : decode cX11_trial 47 = .ok (.iload_n 1, 1) := by decide +kernel
theorem dX11_trial_48 : decode cX11_trial 48 = .ok (.dup2, 1) := by decide +kernel
theorem dX11_trial_49 : decode cX11_trial 49 = .ok (.iaload, 1) := by decide +kernel
theorem dX11_trial_50 : decode cX11_trial 50 = .ok (.iload_n 3, 1) := by decide +kernel
theorem dX11_trial_51 : decode cX11_trial 51 = .ok (.ior, 1) := by decide +kernel
theorem dX11_trial_52 : decode cX11_trial 52 = .ok (.iastore, 1) := by decide +kernel
theorem dX11_trial_53 : decode cX11_trial 53 = .ok (.aload_n 0, 1) := by decide +kernel
theorem dX11_trial_54 : decode cX11_trial 54 = .ok (.getfield 49, 3) := by decide +kernel
theorem dX11_trial_57 : decode cX11_trial 57 = .ok (.aload_n 0, 1) := by decide +kernel
theorem dX11_trial_58 : decode cX11_trial 58 = .ok (.getfield 13, 3) := by decide +kernel
theorem dX11_trial_61 : decode cX11_trial 61 = .ok (.iload_n 1, 1) := by decide +kernel
theorem dX11_trial_62 : decode cX11_trial 62 = .ok (.iaload, 1) := by decide +kernel
theorem dX11_trial_63 : decode cX11_trial 63 = .ok (.dup2, 1) := by decide +kernel
theorem dX11_trial_64 : decode cX11_trial 64 = .ok (.laload, 1) := by decide +kernel
theorem dX11_trial_65 : decode cX11_trial 65 = .ok (.iload_n 2, 1) := by decide +kernel
theorem dX11_trial_66 : decode cX11_trial 66 = .ok (.i2l, 1) := by decide +kernel
theorem dX11_trial_67 : decode cX11_trial 67 = .ok (.ladd, 1) := by decide +kernel
theorem dX11_trial_68 : decode cX11_trial 68 = .ok (.lastore, 1) := by decide +kernel
theorem dX11_trial_69 : decode cX11_trial 69 = .ok (.aload_n 0, 1) := by decide +kernel
theorem dX11_trial_70 : decode cX11_trial 70 = .ok (.getfield 20, 3) := by decide +kernel
theorem dX11_trial_73 : decode cX11_trial 73 = .ok (.iload_n 1, 1) := by decide +kernel
theorem dX11_trial_74 : decode cX11_trial 74 = .ok (.iaload, 1) := by decide +kernel
theorem dX11_trial_75 : decode cX11_trial 75 = .ok (.ifCond .ne 8, 3) := by decide +kernel
theorem dX11_trial_78 : decode cX11_trial 78 = .ok (.aload_n 0, 1) := by decide +kernel
theorem dX11_trial_79 : decode cX11_trial 79 = .ok (.iload_n 1, 1) := by decide +kernel
theorem dX11_trial_80 : decode cX11_trial 80 = .ok (.invokevirtual 279, 3) := by decide +kernel
theorem dX11_trial_83 : decode cX11_trial 83 = .ok (.aload_n 0, 1) := by decide +kernel
theorem dX11_trial_84 : decode cX11_trial 84 = .ok (.iload_n 1, 1) := by decide +kernel
theorem dX11_trial_85 : decode cX11_trial 85 = .ok (.invokevirtual 251, 3) := by decide +kernel
theorem dX11_trial_88 : decode cX11_trial 88 = .ok (.aload_n 0, 1) := by decide +kernel
theorem dX11_trial_89 : decode cX11_trial 89 = .ok (.getfield 20, 3) := by decide +kernel
theorem dX11_trial_92 : decode cX11_trial 92 = .ok (.iload_n 1, 1) := by decide +kernel
theorem dX11_trial_93 : decode cX11_trial 93 = .ok (.iaload, 1) := by decide +kernel
theorem dX11_trial_94 : decode cX11_trial 94 = .ok (.ireturn, 1) := by decide +kernel
def f11_trial_j83 (v1_j83 : Int32) (s11_j83 : OS) : Option (Int32 × OS) := Option.bind (f11_notes v1_j83 s11_j83) fun q_85 => chk (inb v1_j83 150) (nm (q_85.1 14 v1_j83.toNatClampNeg) fun y_93 => some (y_93, q_85))
def f11_trial_j31 (s11_j31 : OS) : Option (Int32 × OS) := some ((-1 : Int32), s11_j31)
def f11_trial (a1 : Int32) (a2 : Int32) (a3 : Int32) (s11 : OS) : Option (Int32 × OS) := Option.bind (f11_isOpen a1 s11) fun q_2 => if q_2 = 0 then (f11_trial_j31 s11) else (chk (inb a1 150) (nm (s11.1 14 a1.toNatClampNeg) fun y_16 => Option.bind (f11_lies ((a2).toInt64) ((0 : Int64)) ((y_16).toInt64)) fun q_18 => if q_18 = 0 then (f11_trial_j31 s11) else (Option.bind (f11_isBits a3) fun q_25 => if q_25 = 0 then (f11_trial_j31 s11) else (chk (inb a1 150) (nm (s11.1 14 a1.toNatClampNeg) fun y_39 => chk (inb a1 150) (nm (wI s11 14 a1.toNatClampNeg ((y_39 - a2))) fun s11_42 => chk (inb a1 150) (nm (s11_42.1 15 a1.toNatClampNeg) fun y_49 => chk (inb a1 150) (nm (wI s11_42 15 a1.toNatClampNeg ((y_49 ||| a3))) fun s11_52 => chk (inb a1 150) (nm (s11_52.1 12 a1.toNatClampNeg) fun y_62 => chk (inb y_62 8) (nm (s11_52.2 23 y_62.toNatClampNeg) fun y_64 => chk (inb y_62 8) (nm (wL s11_52 23 y_62.toNatClampNeg ((y_64 + (a2).toInt64))) fun s11_68 => chk (inb a1 150) (nm (s11_68.1 14 a1.toNatClampNeg) fun y_74 => if y_74 = 0 then (Option.bind (f11_isDone a1 s11_68) fun q_80 => f11_trial_j83 a1 q_80) else (f11_trial_j83 a1 s11_68)))))))))))))
set_option maxHeartbeats 4000000 in
set_option maxRecDepth 100000 in
theorem m11_trial (l : Launch) (D : va_G) (ad : Nat → Nat) (cy : Nat → ClassId) (sz : Nat) (s11 : OS) (a1 : Int32) (a2 : Int32) (a3 : Int32) (r : Int32 × OS) (h : f11_trial a1 a2 a3 s11 = some r) : Met l yX11_trial (wsOf yX11_trial cX11_trial 4 (some .int)) (rmL 4) (va_Pc ([.ref (ad 0), .int a1, .int a2, .int a3] : List Value) (PreG D cy (cellsM ad cy s11) sz NM)) (QcI D ad 66 (cellsM ad cy r.2) (r.1) sz) 0 0 (Afr ad 66 sz) := by
  refine metG (own := RX11) (by decide) rfl (Nat.le_of_ble_eq_true rfl) fstM ?_ sz
  intro p e s m below meth c ls C0 hw hl
  obtain ⟨hx, hb, hml, hown, hts, hr, hlk, hK, hN⟩ := C0
  have hl : lv_has ls 4 [(0, .ref (ad 0)), (1, .int a1), (2, .int a2), (3, .int a3)] := hl
  generalize hQ : MQ below (QcI D ad 66 (cellsM ad cy r.2) (r.1) s.heap.size) ([.ref (ad 0), .int a1, .int a2, .int a3] : List Value).toArray s 0 0 (Afr ad 66 s.heap.size) = Q
  obtain ⟨H, hH⟩ : ∃ H : Heap, H = s.heap := ⟨_, rfl⟩
  obtain ⟨locs, hlc⟩ : ∃ L : List Loc, L = [] := ⟨_, rfl⟩
  have hw : Wd D (cellsM ad cy s11) (Afr ad 66 s.heap.size) s.heap H locs := by rw [hH, hlc]; exact hw
  suffices h0 : W p l e (rmL 4) s m ([.ref (ad 0), .int a1, .int a2, .int a3] : List Value).toArray below meth c H locs 0 0 Q (F0 m 0 ls []) by rw [hH, hlc] at h0; exact h0
  clear hH hlc
  unfold f11_trial at h
  have hJ_83 : ∀ (v1_j83 : Int32) (s11_j83 : OS) (H : Heap) (locs : List Loc) (ls : Array Slot), f11_trial_j83 v1_j83 s11_j83 = some r → Wd D (cellsM ad cy s11_j83) (Afr ad 66 s.heap.size) s.heap H locs → lv_has ls 4 [(0, .ref (ad 0)), (1, .int v1_j83)] → W p l e (rmL 4) s m ([.ref (ad 0), .int a1, .int a2, .int a3] : List Value).toArray below meth c H locs 0 0 Q (F0 m 83 ls []) := by
    intro v1_j83 s11_j83 H locs ls h hw hl
    unfold f11_trial_j83 at h
    refine lv_aload_n hx hb dX11_trial_83 rfl (lv_at hl 0 rfl) ?_
    refine lv_iload_n hx hb dX11_trial_84 rfl (lv_at hl 1 rfl) ?_
    obtain ⟨q_85, h_85, h⟩ := bnd_e h
    have pg_85 := preG (av := [.ref (ad 0), .int v1_j83]) hK hw.1 hw.2.1 NM_keep NM_blind
    refine endV (mc := 0) (ms := 0) (va_runV (As := [.int v1_j83]) (rest := []) ⟨hx, hb, hml, hown, hts⟩ (m11_notes l D ad cy H.size s11_j83 v1_j83 q_85 h_85) (wX11_251 0 hts ⟨Nat.le_of_ble_eq_true rfl, Nat.le_of_ble_eq_true rfl⟩) ⟨pg_85.1, va_recv hK hw.1 (ci := 11) (q0 := 0) rfl eM_0, pg_85.2⟩ rfl rfl hl.1 rfl (lv_room (Nat.le_of_ble_eq_true rfl)) dX11_trial_85 ⟨Nat.le_refl _, Nat.le_refl _⟩) hw.2.2 (afr_in hw.2.2) (fun H locs hw => ?_)
    refine lv_aload_n hx hb dX11_trial_88 rfl (lv_at hl 0 rfl) ?_
    refine gX11_20 hx hb hts hown hK hw dX11_trial_89 ?_
    refine lv_iload_n hx hb dX11_trial_92 rfl (lv_at hl 1 rfl) ?_
    obtain ⟨hi_93, h⟩ := chk_e h
    obtain ⟨y_93, e_93, h⟩ := nam_e h
    refine lM4 hx hb hK hw hi_93 e_93 dX11_trial_93 ?_
    have h := Option.some.inj h
    subst h
    rw [← hQ]
    exact retI hx hb hr hlk hw rfl dX11_trial_94
  have hJ_31 : ∀ (s11_j31 : OS) (H : Heap) (locs : List Loc) (ls : Array Slot), f11_trial_j31 s11_j31 = some r → Wd D (cellsM ad cy s11_j31) (Afr ad 66 s.heap.size) s.heap H locs → lv_has ls 4 [] → W p l e (rmL 4) s m ([.ref (ad 0), .int a1, .int a2, .int a3] : List Value).toArray below meth c H locs 0 0 Q (F0 m 31 ls []) := by
    intro s11_j31 H locs ls h hw hl
    unfold f11_trial_j31 at h
    refine lv_iconst (v := (-1)) hx hb dX11_trial_31 (by decide) ?_
    have h := Option.some.inj h
    subst h
    rw [← hQ]
    exact retI hx hb hr hlk hw rfl dX11_trial_32
  refine lv_aload_n hx hb dX11_trial_0 rfl (lv_at hl 0 rfl) ?_
  refine lv_iload_n hx hb dX11_trial_1 rfl (lv_at hl 1 rfl) ?_
  obtain ⟨q_2, h_2, h⟩ := bnd_e h
  have pg_2 := preG (av := [.ref (ad 0), .int a1]) hK hw.1 hw.2.1 NM_keep NM_blind
  refine endI (mc := 0) (ms := 0) (va_runV (As := [.int a1]) (rest := []) ⟨hx, hb, hml, hown, hts⟩ (m11_isOpen l D ad cy H.size s11 a1 q_2 h_2) (wX11_266 3 hts ⟨Nat.le_of_ble_eq_true rfl, Nat.le_of_ble_eq_true rfl⟩) ⟨pg_2.1, va_recv hK hw.1 (ci := 11) (q0 := 0) rfl eM_0, pg_2.2⟩ rfl rfl hl.1 rfl (lv_room (Nat.le_of_ble_eq_true rfl)) dX11_trial_2 ⟨Nat.le_refl _, Nat.le_refl _⟩) hw.2.2 (afr_in hw.2.2) (fun H locs hw => ?_)
  refine lv_if_eq (tgt := 31) hx hb dX11_trial_5 (by decide) (fun c_5 => ?_) (fun c_5 => ?_)
  · have h := ite_t c_5 h
    exact hJ_31 s11 H locs ls h hw (lv_sub hl [] rfl)
  · have h := ite_f c_5 h
    refine lv_iload_n hx hb dX11_trial_8 rfl (lv_at hl 2 rfl) ?_
    refine lv_i2l hx hb dX11_trial_9 rfl ?_
    refine lv_lconst (v := 0) hx hb dX11_trial_10 (by decide) ?_
    refine lv_aload_n hx hb dX11_trial_11 rfl (lv_at hl 0 rfl) ?_
    refine gX11_20 hx hb hts hown hK hw dX11_trial_12 ?_
    refine lv_iload_n hx hb dX11_trial_15 rfl (lv_at hl 1 rfl) ?_
    obtain ⟨hi_16, h⟩ := chk_e h
    obtain ⟨y_16, e_16, h⟩ := nam_e h
    refine lM4 hx hb hK hw hi_16 e_16 dX11_trial_16 ?_
    refine lv_i2l hx hb dX11_trial_17 rfl ?_
    obtain ⟨q_18, h_18, h⟩ := bnd_e h
    have pg_18 := preG (av := [.long ((a2).toInt64), .long ((0 : Int64)), .long ((y_16).toInt64)]) hK hw.1 hw.2.1 NM_keep NM_blind
    refine endI (mc := 0) (ms := 0) (va_runS (As := [.long ((a2).toInt64), .long ((0 : Int64)), .long ((y_16).toInt64)]) (rest := []) ⟨hx, hb, hml, hown, hts⟩ (m11_lies l D ad cy H.size s11 ((a2).toInt64) ((0 : Int64)) ((y_16).toInt64) q_18 h_18) (wX11_215 0 hts ⟨Nat.le_of_ble_eq_true rfl, Nat.le_of_ble_eq_true rfl⟩) pg_18 rfl rfl hl.1 rfl (lv_room (Nat.le_of_ble_eq_true rfl)) dX11_trial_18 ⟨Nat.le_refl _, Nat.le_refl _⟩) hw.2.2 (afr_in hw.2.2) (fun H locs hw => ?_)
    refine lv_if_eq (tgt := 31) hx hb dX11_trial_21 (by decide) (fun c_21 => ?_) (fun c_21 => ?_)
    · have h := ite_t c_21 h
      exact hJ_31 s11 H locs ls h hw (lv_sub hl [] rfl)
    · have h := ite_f c_21 h
      refine lv_iload_n hx hb dX11_trial_24 rfl (lv_at hl 3 rfl) ?_
      obtain ⟨q_25, h_25, h⟩ := bnd_e h
      have pg_25 := preG (av := [.int a3]) hK hw.1 hw.2.1 NM_keep NM_blind
      refine endI (mc := 0) (ms := 0) (va_runS (As := [.int a3]) (rest := []) ⟨hx, hb, hml, hown, hts⟩ (m11_isBits l D ad cy H.size s11 a3 q_25 h_25) (wX11_248 1 hts ⟨Nat.le_of_ble_eq_true rfl, Nat.le_of_ble_eq_true rfl⟩) pg_25 rfl rfl hl.1 rfl (lv_room (Nat.le_of_ble_eq_true rfl)) dX11_trial_25 ⟨Nat.le_refl _, Nat.le_refl _⟩) hw.2.2 (afr_in hw.2.2) (fun H locs hw => ?_)
      refine lv_if_ne (tgt := 33) hx hb dX11_trial_28 (by decide) (fun c_28 => ?_) (fun c_28 => ?_)
      · have h := ite_f c_28 h
        refine lv_aload_n hx hb dX11_trial_33 rfl (lv_at hl 0 rfl) ?_
        refine gX11_20 hx hb hts hown hK hw dX11_trial_34 ?_
        refine lv_iload_n hx hb dX11_trial_37 rfl (lv_at hl 1 rfl) ?_
        refine lv_dup2_11 hx hb dX11_trial_38 rfl rfl ?_
        obtain ⟨hi_39, h⟩ := chk_e h
        obtain ⟨y_39, e_39, h⟩ := nam_e h
        refine lM4 hx hb hK hw hi_39 e_39 dX11_trial_39 ?_
        refine lv_iload_n hx hb dX11_trial_40 rfl (lv_at hl 2 rfl) ?_
        refine lv_isub hx hb dX11_trial_41 ?_
        obtain ⟨hi_42, h⟩ := chk_e h
        obtain ⟨s11_42, e_42, h⟩ := nam_e h
        refine aM4 hx hb hK hw hi_42 e_42 dX11_trial_42 (fun H locs hw => ?_)
        refine lv_aload_n hx hb dX11_trial_43 rfl (lv_at hl 0 rfl) ?_
        refine gX11_23 hx hb hts hown hK hw dX11_trial_44 ?_
        refine lv_iload_n hx hb dX11_trial_47 rfl (lv_at hl 1 rfl) ?_
        refine lv_dup2_11 hx hb dX11_trial_48 rfl rfl ?_
        obtain ⟨hi_49, h⟩ := chk_e h
        obtain ⟨y_49, e_49, h⟩ := nam_e h
        refine lM5 hx hb hK hw hi_49 e_49 dX11_trial_49 ?_
        refine lv_iload_n hx hb dX11_trial_50 rfl (lv_at hl 3 rfl) ?_
        refine lv_ior hx hb dX11_trial_51 ?_
        obtain ⟨hi_52, h⟩ := chk_e h
        obtain ⟨s11_52, e_52, h⟩ := nam_e h
        refine aM5 hx hb hK hw hi_52 e_52 dX11_trial_52 (fun H locs hw => ?_)
        refine lv_aload_n hx hb dX11_trial_53 rfl (lv_at hl 0 rfl) ?_
        refine gX11_49 hx hb hts hown hK hw dX11_trial_54 ?_
        refine lv_aload_n hx hb dX11_trial_57 rfl (lv_at hl 0 rfl) ?_
        refine gX11_13 hx hb hts hown hK hw dX11_trial_58 ?_
        refine lv_iload_n hx hb dX11_trial_61 rfl (lv_at hl 1 rfl) ?_
        obtain ⟨hi_62, h⟩ := chk_e h
        obtain ⟨y_62, e_62, h⟩ := nam_e h
        refine lM2 hx hb hK hw hi_62 e_62 dX11_trial_62 ?_
        refine lv_dup2_11 hx hb dX11_trial_63 rfl rfl ?_
        obtain ⟨hi_64, h⟩ := chk_e h
        obtain ⟨y_64, e_64, h⟩ := nam_e h
        refine lM13 hx hb hK hw hi_64 e_64 dX11_trial_64 ?_
        refine lv_iload_n hx hb dX11_trial_65 rfl (lv_at hl 2 rfl) ?_
        refine lv_i2l hx hb dX11_trial_66 rfl ?_
        refine lv_ladd hx hb dX11_trial_67 ?_
        obtain ⟨hi_68, h⟩ := chk_e h
        obtain ⟨s11_68, e_68, h⟩ := nam_e h
        refine aM13 hx hb hK hw hi_68 e_68 dX11_trial_68 (fun H locs hw => ?_)
        refine lv_aload_n hx hb dX11_trial_69 rfl (lv_at hl 0 rfl) ?_
        refine gX11_20 hx hb hts hown hK hw dX11_trial_70 ?_
        refine lv_iload_n hx hb dX11_trial_73 rfl (lv_at hl 1 rfl) ?_
        obtain ⟨hi_74, h⟩ := chk_e h
        obtain ⟨y_74, e_74, h⟩ := nam_e h
        refine lM4 hx hb hK hw hi_74 e_74 dX11_trial_74 ?_
        refine lv_if_ne (tgt := 83) hx hb dX11_trial_75 (by decide) (fun c_75 => ?_) (fun c_75 => ?_)
        · have h := ite_f c_75 h
          exact hJ_83 a1 s11_68 H locs ls h hw (lv_sub hl [0, 1] rfl)
        · have h := ite_t c_75 h
          refine lv_aload_n hx hb dX11_trial_78 rfl (lv_at hl 0 rfl) ?_
          refine lv_iload_n hx hb dX11_trial_79 rfl (lv_at hl 1 rfl) ?_
          obtain ⟨q_80, h_80, h⟩ := bnd_e h
          have pg_80 := preG (av := [.ref (ad 0), .int a1]) hK hw.1 hw.2.1 NM_keep NM_blind
          refine endV (mc := 0) (ms := 0) (va_runV (As := [.int a1]) (rest := []) ⟨hx, hb, hml, hown, hts⟩ (m11_isDone l D ad cy H.size s11_68 a1 q_80 h_80) (wX11_279 0 hts ⟨Nat.le_of_ble_eq_true rfl, Nat.le_of_ble_eq_true rfl⟩) ⟨pg_80.1, va_recv hK hw.1 (ci := 11) (q0 := 0) rfl eM_0, pg_80.2⟩ rfl rfl hl.1 rfl (lv_room (Nat.le_of_ble_eq_true rfl)) dX11_trial_80 ⟨Nat.le_refl _, Nat.le_refl _⟩) hw.2.2 (afr_in hw.2.2) (fun H locs hw => ?_)
          exact hJ_83 a1 q_80 H locs ls h hw (lv_sub hl [0, 1] rfl)
      · have h := ite_t c_28 h
        exact hJ_31 s11 H locs ls h hw (lv_sub hl [] rfl)
theorem dX11_was_0 : decode cX11_was 0 = .ok (.aload_n 0, 1) := by decide +kernel
theorem dX11_was_1 : decode cX11_was 1 = .ok (.iload_n 1, 1) := by decide +kernel
theorem dX11_was_2 : decode cX11_was 2 = .ok (.invokevirtual 238, 3) := by decide +kernel
theorem dX11_was_5 : decode cX11_was 5 = .ok (.ifCond .eq 17, 3) := by decide +kernel
theorem dX11_was_8 : decode cX11_was 8 = .ok (.iload_n 2, 1) := by decide +kernel
theorem dX11_was_9 : decode cX11_was 9 = .ok (.i2l, 1) := by decide +kernel
theorem dX11_was_10 : decode cX11_was 10 = .ok (.lconst 0, 1) := by decide +kernel
theorem dX11_was_11 : decode cX11_was 11 = .ok (.aload_n 0, 1) := by decide +kernel
theorem dX11_was_12 : decode cX11_was 12 = .ok (.getfield 225, 3) := by decide +kernel
theorem dX11_was_15 : decode cX11_was 15 = .ok (.i2l, 1) := by decide +kernel
theorem dX11_was_16 : decode cX11_was 16 = .ok (.invokestatic 215, 3) := by decide +kernel
theorem dX11_was_19 : decode cX11_was 19 = .ok (.ifCond .ne 5, 3) := by decide +kernel
theorem dX11_was_22 : decode cX11_was 22 = .ok (.iconst (-1), 1) := by decide +kernel
theorem dX11_was_23 : decode cX11_was 23 = .ok (.ireturn, 1) := by decide +kernel
theorem dX11_was_24 : decode cX11_was 24 = .ok (.iconst (-1), 1) := by decide +kernel
theorem dX11_was_25 : decode cX11_was 25 = .ok (.istore 4, 2) := by decide +kernel
theorem dX11_was_27 : decode cX11_was 27 = .ok (.iconst 0, 1) := by decide +kernel
theorem dX11_was_28 : decode cX11_was 28 = .ok (.istore 5, 2) := by decide +kernel
theorem dX11_was_30 : decode cX11_was 30 = .ok (.iload 5, 2) := by decide +kernel
theorem dX11_was_32 : decode cX11_was 32 = .ok (.aload_n 0, 1) := by decide +kernel
theorem dX11_was_33 : decode cX11_was 33 = .ok (.getfield 242, 3) := by decide +kernel
theorem dX11_was_36 : decode cX11_was 36 = .ok (.if_icmp .ge 40, 3) := by decide +kernel
theorem dX11_was_39 : decode cX11_was 39 = .ok (.aload_n 0, 1) := by decide +kernel
theorem dX11_was_40 : decode cX11_was 40 = .ok (.getfield 55, 3) := by decide +kernel
theorem dX11_was_43 : decode cX11_was 43 = .ok (.iload 5, 2) := by decide +kernel
theorem dX11_was_45 : decode cX11_was 45 = .ok (.iaload, 1) := by decide +kernel
theorem dX11_was_46 : decode cX11_was 46 = .ok (.iload_n 1, 1) := by decide +kernel
theorem dX11_was_47 : decode cX11_was 47 = .ok (.if_icmp .ne 19, 3) := by decide +kernel
theorem dX11_was_50 : decode cX11_was 50 = .ok (.aload_n 0, 1) := by decide +kernel
theorem dX11_was_51 : decode cX11_was 51 = .ok (.getfield 58, 3) := by decide +kernel
theorem dX11_was_54 : decode cX11_was 54 = .ok (.iload 5, 2) := by decide +kernel
theorem dX11_was_56 : decode cX11_was 56 = .ok (.iaload, 1) := by decide +kernel
theorem dX11_was_57 : decode cX11_was 57 = .ok (.iload_n 2, 1) := by decide +kernel
theorem dX11_was_58 : decode cX11_was 58 = .ok (.if_icmp .gt 8, 3) := by decide +kernel
theorem dX11_was_61 : decode cX11_was 61 = .ok (.iload 5, 2) := by decide +kernel
theorem dX11_was_63 : decode cX11_was 63 = .ok (.goto 5, 3) := by decide +kernel
theorem dX11_was_66 : decode cX11_was 66 = .ok (.iload 4, 2) := by decide +kernel
theorem dX11_was_68 : decode cX11_was 68 = .ok (.istore 4, 2) := by decide +kernel
theorem dX11_was_70 : decode cX11_was 70 = .ok (.iinc 5 1, 3) := by decide +kernel
theorem dX11_was_73 : decode cX11_was 73 = .ok (.goto (-43), 3) := by decide +kernel
theorem dX11_was_76 : decode cX11_was 76 = .ok (.iload 4, 2) := by decide +kernel
theorem dX11_was_78 : decode cX11_was 78 = .ok (.iconst (-1), 1) := by decide +kernel
theorem dX11_was_79 : decode cX11_was 79 = .ok (.if_icmp .ne 5, 3) := by decide +kernel
theorem dX11_was_82 : decode cX11_was 82 = .ok (.iconst (-1), 1) := by decide +kernel
theorem dX11_was_83 : decode cX11_was 83 = .ok (.ireturn, 1) := by decide +kernel
theorem dX11_was_84 : decode cX11_was 84 = .ok (.iload_n 3, 1) := by decide +kernel
theorem dX11_was_85 : decode cX11_was 85 = .ok (.iconst 2, 1) := by decide +kernel
theorem dX11_was_86 : decode cX11_was 86 = .ok (.if_icmp .ne 13, 3) := by decide +kernel
theorem dX11_was_89 : decode cX11_was 89 = .ok (.aload_n 0, 1) := by decide +kernel
theorem dX11_was_90 : decode cX11_was 90 = .ok (.getfield 61, 3) := by decide +kernel
theorem dX11_was_93 : decode cX11_was 93 = .ok (.iload 4, 2) := by decide +kernel
theorem dX11_was_95 : decode cX11_was 95 = .ok (.iaload, 1) := by decide +kernel
theorem dX11_was_96 : decode cX11_was 96 = .ok (.goto 34, 3) := by decide +kernel
theorem dX11_was_99 : decode cX11_was 99 = .ok (.iload_n 3, 1) := by decide +kernel
theorem dX11_was_100 : decode cX11_was 100 = .ok (.iconst 3, 1) := by decide +kernel
theorem dX11_was_101 : decode cX11_was 101 = .ok (.if_icmp .ne 13, 3) := by decide +kernel
theorem dX11_was_104 : decode cX11_was 104 = .ok (.aload_n 0, 1) := by decide +kernel
theorem dX11_was_105 : decode cX11_was 105 = .ok (.getfield 64, 3) := by decide +kernel
theorem dX11_was_108 : decode cX11_was 108 = .ok (.iload 4, 2) := by decide +kernel
theorem dX11_was_110 : decode cX11_was 110 = .ok (.iaload, 1) := by decide +kernel
theorem dX11_was_111 : decode cX11_was 111 = .ok (.goto 19, 3) := by decide +kernel
theorem dX11_was_114 : decode cX11_was 114 = .ok (.iload_n 3, 1) := by decide +kernel
theorem dX11_was_115 : decode cX11_was 115 = .ok (.iconst 4, 1) := by decide +kernel
theorem dX11_was_116 : decode cX11_was 116 = .ok (.if_icmp .ne 13, 3) := by decide +kernel
theorem dX11_was_119 : decode cX11_was 119 = .ok (.aload_n 0, 1) := by decide +kernel
theorem dX11_was_120 : decode cX11_was 120 = .ok (.getfield 67, 3) := by decide +kernel
theorem dX11_was_123 : decode cX11_was 123 = .ok (.iload 4, 2) := by decide +kernel
theorem dX11_was_125 : decode cX11_was 125 = .ok (.iaload, 1) := by decide +kernel
theorem dX11_was_126 : decode cX11_was 126 = .ok (.goto 4, 3) := by decide +kernel
theorem dX11_was_129 : decode cX11_was 129 = .ok (.iconst (-1), 1) := by decide +kernel
theorem dX11_was_130 : decode cX11_was 130 = .ok (.ireturn, 1) := by decide +kernel
noncomputable def f11_was_j130 (k0_j130 : Int32) (s11_j130 : OS) : Option (Int32) := some k0_j130
noncomputable def f11_was_j22 (s11_j22 : OS) : Option (Int32) := some ((-1 : Int32))
noncomputable def f11_was_j68 (v1_j68 : Int32) (v2_j68 : Int32) (v3_j68 : Int32) (v5_j68 : Int32) (k0_j68 : Int32) (s11_j68 : OS) : Option ((Int32 × Int32) ⊕ (Int32)) := nm (v5_j68 + (1 : Int32)) fun n_70 => some (Sum.inl (k0_j68, n_70))
noncomputable def f11_was_j66 (v1_j66 : Int32) (v2_j66 : Int32) (v3_j66 : Int32) (v4_j66 : Int32) (v5_j66 : Int32) (s11_j66 : OS) : Option ((Int32 × Int32) ⊕ (Int32)) := f11_was_j68 v1_j66 v2_j66 v3_j66 v5_j66 v4_j66 s11_j66
noncomputable def f11_was_l30 (v1_i30 : Int32) (v2_i30 : Int32) (v3_i30 : Int32) (s11_i30 : OS) : Int32 × Int32 → Option ((Int32 × Int32) ⊕ (Int32)) := fun t_30 => if (s11_i30.1 0 24) ≤ t_30.2 then (Option.map Sum.inr (if t_30.1 = (-1 : Int32) then (some ((-1 : Int32))) else (if v3_i30 = (2 : Int32) then (chk (inb t_30.1 4800) (nm (s11_i30.1 28 t_30.1.toNatClampNeg) fun y_95 => f11_was_j130 y_95 s11_i30)) else (if v3_i30 = (3 : Int32) then (chk (inb t_30.1 4800) (nm (s11_i30.1 29 t_30.1.toNatClampNeg) fun y_110 => f11_was_j130 y_110 s11_i30)) else (if v3_i30 = (4 : Int32) then (chk (inb t_30.1 4800) (nm (s11_i30.1 30 t_30.1.toNatClampNeg) fun y_125 => f11_was_j130 y_125 s11_i30)) else (f11_was_j130 ((-1 : Int32)) s11_i30)))))) else (chk (inb t_30.2 4800) (nm (s11_i30.1 26 t_30.2.toNatClampNeg) fun y_45 => if y_45 = v1_i30 then (chk (inb t_30.2 4800) (nm (s11_i30.1 27 t_30.2.toNatClampNeg) fun y_56 => if v2_i30 < y_56 then (f11_was_j66 v1_i30 v2_i30 v3_i30 t_30.1 t_30.2 s11_i30) else (f11_was_j68 v1_i30 v2_i30 v3_i30 t_30.2 t_30.2 s11_i30))) else (f11_was_j66 v1_i30 v2_i30 v3_i30 t_30.1 t_30.2 s11_i30)))
noncomputable def f11_was (a1 : Int32) (a2 : Int32) (a3 : Int32) (s11 : OS) : Option (Int32) := Option.bind (f11_isPiece a1 s11) fun q_2 => if q_2 = 0 then (f11_was_j22 s11) else (Option.bind (f11_lies ((a2).toInt64) ((0 : Int64)) (((s11.1 0 2)).toInt64)) fun q_16 => if q_16 = 0 then (f11_was_j22 s11) else (loop (f11_was_l30 a1 a2 a3 s11) ((-1 : Int32), (0 : Int32))))
set_option maxHeartbeats 4000000 in
set_option maxRecDepth 100000 in
theorem m11_was (l : Launch) (D : va_G) (ad : Nat → Nat) (cy : Nat → ClassId) (sz : Nat) (s11 : OS) (a1 : Int32) (a2 : Int32) (a3 : Int32) (r : Int32) (h : f11_was a1 a2 a3 s11 = some r) : Met l yX11_was (wsOf yX11_was cX11_was 6 (some .int)) (rmL 2) (va_Pc ([.ref (ad 0), .int a1, .int a2, .int a3] : List Value) (PreG D cy (cellsM ad cy s11) sz NM)) (QcI D ad 66 (cellsM ad cy s11) (r) sz) 0 0 (Afr ad 66 sz) := by
  refine metG (own := RX11) (by decide) rfl (Nat.le_of_ble_eq_true rfl) fstM ?_ sz
  intro p e s m below meth c ls C0 hw hl
  obtain ⟨hx, hb, hml, hown, hts, hr, hlk, hK, hN⟩ := C0
  have hl : lv_has ls 6 [(0, .ref (ad 0)), (1, .int a1), (2, .int a2), (3, .int a3)] := hl
  generalize hQ : MQ below (QcI D ad 66 (cellsM ad cy s11) (r) s.heap.size) ([.ref (ad 0), .int a1, .int a2, .int a3] : List Value).toArray s 0 0 (Afr ad 66 s.heap.size) = Q
  obtain ⟨H, hH⟩ : ∃ H : Heap, H = s.heap := ⟨_, rfl⟩
  obtain ⟨locs, hlc⟩ : ∃ L : List Loc, L = [] := ⟨_, rfl⟩
  have hw : Wd D (cellsM ad cy s11) (Afr ad 66 s.heap.size) s.heap H locs := by rw [hH, hlc]; exact hw
  suffices h0 : W p l e (rmL 2) s m ([.ref (ad 0), .int a1, .int a2, .int a3] : List Value).toArray below meth c H locs 0 0 Q (F0 m 0 ls []) by rw [hH, hlc] at h0; exact h0
  clear hH hlc
  unfold f11_was at h
  have hJ_130 : ∀ (k0_j130 : Int32) (H : Heap) (locs : List Loc) (ls : Array Slot), f11_was_j130 k0_j130 s11 = some r → Wd D (cellsM ad cy s11) (Afr ad 66 s.heap.size) s.heap H locs → lv_has ls 6 [] → W p l e (rmL 2) s m ([.ref (ad 0), .int a1, .int a2, .int a3] : List Value).toArray below meth c H locs 0 0 Q (F0 m 130 ls [.int k0_j130]) := by
    intro k0_j130 H locs ls h hw hl
    unfold f11_was_j130 at h
    have h := Option.some.inj h
    subst h
    rw [← hQ]
    exact retI hx hb hr hlk hw rfl dX11_was_130
  have hJ_22 : ∀  (H : Heap) (locs : List Loc) (ls : Array Slot), f11_was_j22 s11 = some r → Wd D (cellsM ad cy s11) (Afr ad 66 s.heap.size) s.heap H locs → lv_has ls 6 [] → W p l e (rmL 2) s m ([.ref (ad 0), .int a1, .int a2, .int a3] : List Value).toArray below meth c H locs 0 0 Q (F0 m 22 ls []) := by
    intro  H locs ls h hw hl
    unfold f11_was_j22 at h
    refine lv_iconst (v := (-1)) hx hb dX11_was_22 (by decide) ?_
    have h := Option.some.inj h
    subst h
    rw [← hQ]
    exact retI hx hb hr hlk hw rfl dX11_was_23
  refine lv_aload_n hx hb dX11_was_0 rfl (lv_at hl 0 rfl) ?_
  refine lv_iload_n hx hb dX11_was_1 rfl (lv_at hl 1 rfl) ?_
  obtain ⟨q_2, h_2, h⟩ := bnd_e h
  have pg_2 := preG (av := [.ref (ad 0), .int a1]) hK hw.1 hw.2.1 NM_keep NM_blind
  refine endI (mc := 0) (ms := 0) (va_runV (As := [.int a1]) (rest := []) ⟨hx, hb, hml, hown, hts⟩ (m11_isPiece l D ad cy H.size s11 a1 q_2 h_2) (wX11_238 1 hts ⟨Nat.le_of_ble_eq_true rfl, Nat.le_of_ble_eq_true rfl⟩) ⟨pg_2.1, va_recv hK hw.1 (ci := 11) (q0 := 0) rfl eM_0, pg_2.2⟩ rfl rfl hl.1 rfl (lv_room (Nat.le_of_ble_eq_true rfl)) dX11_was_2 ⟨Nat.le_refl _, Nat.le_refl _⟩) hw.2.2 (afr_in hw.2.2) (fun H locs hw => ?_)
  refine lv_if_eq (tgt := 22) hx hb dX11_was_5 (by decide) (fun c_5 => ?_) (fun c_5 => ?_)
  · have h := ite_t c_5 h
    exact hJ_22  H locs ls h hw (lv_sub hl [] rfl)
  · have h := ite_f c_5 h
    refine lv_iload_n hx hb dX11_was_8 rfl (lv_at hl 2 rfl) ?_
    refine lv_i2l hx hb dX11_was_9 rfl ?_
    refine lv_lconst (v := 0) hx hb dX11_was_10 (by decide) ?_
    refine lv_aload_n hx hb dX11_was_11 rfl (lv_at hl 0 rfl) ?_
    refine gX11_225 hx hb hts hown hK hw dX11_was_12 ?_
    refine lv_i2l hx hb dX11_was_15 rfl ?_
    obtain ⟨q_16, h_16, h⟩ := bnd_e h
    have pg_16 := preG (av := [.long ((a2).toInt64), .long ((0 : Int64)), .long (((s11.1 0 2)).toInt64)]) hK hw.1 hw.2.1 NM_keep NM_blind
    refine endI (mc := 0) (ms := 0) (va_runS (As := [.long ((a2).toInt64), .long ((0 : Int64)), .long (((s11.1 0 2)).toInt64)]) (rest := []) ⟨hx, hb, hml, hown, hts⟩ (m11_lies l D ad cy H.size s11 ((a2).toInt64) ((0 : Int64)) (((s11.1 0 2)).toInt64) q_16 h_16) (wX11_215 0 hts ⟨Nat.le_of_ble_eq_true rfl, Nat.le_of_ble_eq_true rfl⟩) pg_16 rfl rfl hl.1 rfl (lv_room (Nat.le_of_ble_eq_true rfl)) dX11_was_16 ⟨Nat.le_refl _, Nat.le_refl _⟩) hw.2.2 (afr_in hw.2.2) (fun H locs hw => ?_)
    refine lv_if_ne (tgt := 24) hx hb dX11_was_19 (by decide) (fun c_19 => ?_) (fun c_19 => ?_)
    · have h := ite_f c_19 h
      refine lv_iconst (v := (-1)) hx hb dX11_was_24 (by decide) ?_
      refine lv_istore (lv' := [(4, .int ((-1 : Int32))), (0, .ref (ad 0)), (1, .int a1), (2, .int a2), (3, .int a3)]) hx hb dX11_was_25 hl (by decide) rfl (fun ls hl => ?_)
      refine lv_iconst (v := 0) hx hb dX11_was_27 (by decide) ?_
      refine lv_istore (lv' := [(5, .int ((0 : Int32))), (4, .int ((-1 : Int32))), (0, .ref (ad 0)), (1, .int a1), (2, .int a2), (3, .int a3)]) hx hb dX11_was_28 hl (by decide) rfl (fun ls hl => ?_)
      obtain ⟨n_30, hn_30⟩ := loop_e h
      have hL_30 : ∀ (n : Nat) (t_30 : Int32 × Int32) (H : Heap) (locs : List Loc) (ls : Array Slot), loopN (f11_was_l30 a1 a2 a3 s11) n t_30 = some r → Wd D (cellsM ad cy s11) (Afr ad 66 s.heap.size) s.heap H locs → lv_has ls 6 [(4, .int t_30.1), (5, .int t_30.2), (1, .int a1), (2, .int a2), (3, .int a3), (0, .ref (ad 0))] → W p l e (rmL 2) s m ([.ref (ad 0), .int a1, .int a2, .int a3] : List Value).toArray below meth c H locs 0 0 Q (F0 m 30 ls []) := by
        intro n
        induction n with
        | zero => intro t_30 H locs ls hn; cases hn
        | succ n ih_30 =>
          intro t_30 H locs ls hn hw hl
          obtain ⟨x_30, h, hx_30⟩ := loopN_e hn
          unfold f11_was_l30 at h
          have hJ_68 : ∀ (v5_j68 : Int32) (k0_j68 : Int32) (H : Heap) (locs : List Loc) (ls : Array Slot), f11_was_j68 a1 a2 a3 v5_j68 k0_j68 s11 = some x_30 → Wd D (cellsM ad cy s11) (Afr ad 66 s.heap.size) s.heap H locs → lv_has ls 6 [(0, .ref (ad 0)), (1, .int a1), (2, .int a2), (3, .int a3), (5, .int v5_j68)] → W p l e (rmL 2) s m ([.ref (ad 0), .int a1, .int a2, .int a3] : List Value).toArray below meth c H locs 0 0 Q (F0 m 68 ls [.int k0_j68]) := by
            intro v5_j68 k0_j68 H locs ls h hw hl
            unfold f11_was_j68 at h
            refine lv_istore (lv' := [(4, .int k0_j68), (0, .ref (ad 0)), (1, .int a1), (2, .int a2), (3, .int a3), (5, .int v5_j68)]) hx hb dX11_was_68 hl (by decide) rfl (fun ls hl => ?_)
            obtain ⟨n_70, e_70, h⟩ := nam_e h
            refine lv_iinc (v := n_70) (lv' := [(5, .int n_70), (4, .int k0_j68), (0, .ref (ad 0)), (1, .int a1), (2, .int a2), (3, .int a3)]) hx hb dX11_was_70 hl (k := 5) rfl (by rw [e_70]; rfl) (by decide) rfl (fun ls hl => ?_)
            refine lv_goto (tgt := 30) hx hb dX11_was_73 (by decide) ?_
            exact ih_30 (k0_j68, n_70) H locs ls (nx_l hx_30 h) hw (lv_sub hl [1, 0, 3, 4, 5, 2] rfl)
          have hJ_66 : ∀ (v4_j66 : Int32) (v5_j66 : Int32) (H : Heap) (locs : List Loc) (ls : Array Slot), f11_was_j66 a1 a2 a3 v4_j66 v5_j66 s11 = some x_30 → Wd D (cellsM ad cy s11) (Afr ad 66 s.heap.size) s.heap H locs → lv_has ls 6 [(0, .ref (ad 0)), (1, .int a1), (2, .int a2), (3, .int a3), (4, .int v4_j66), (5, .int v5_j66)] → W p l e (rmL 2) s m ([.ref (ad 0), .int a1, .int a2, .int a3] : List Value).toArray below meth c H locs 0 0 Q (F0 m 66 ls []) := by
            intro v4_j66 v5_j66 H locs ls h hw hl
            unfold f11_was_j66 at h
            refine lv_iload hx hb dX11_was_66 (lv_at hl 4 rfl) ?_
            exact hJ_68 v5_j66 v4_j66 H locs ls h hw (lv_sub hl [0, 1, 2, 3, 5] rfl)
          refine lv_iload hx hb dX11_was_30 (lv_at hl 1 rfl) ?_
          refine lv_aload_n hx hb dX11_was_32 rfl (lv_at hl 5 rfl) ?_
          refine gX11_242 hx hb hts hown hK hw dX11_was_33 ?_
          refine lv_icmp_ge (tgt := 76) hx hb dX11_was_36 (by decide) (fun c_36 => ?_) (fun c_36 => ?_)
          · have h := ite_t c_36 h
            have h := nx_m hx_30 h
            refine lv_iload hx hb dX11_was_76 (lv_at hl 0 rfl) ?_
            refine lv_iconst (v := (-1)) hx hb dX11_was_78 (by decide) ?_
            refine lv_icmp_ne (tgt := 84) hx hb dX11_was_79 (by decide) (fun c_79 => ?_) (fun c_79 => ?_)
            · have h := ite_f c_79 h
              refine lv_iload_n hx hb dX11_was_84 rfl (lv_at hl 4 rfl) ?_
              refine lv_iconst (v := 2) hx hb dX11_was_85 (by decide) ?_
              refine lv_icmp_ne (tgt := 99) hx hb dX11_was_86 (by decide) (fun c_86 => ?_) (fun c_86 => ?_)
              · have h := ite_f c_86 h
                refine lv_iload_n hx hb dX11_was_99 rfl (lv_at hl 4 rfl) ?_
                refine lv_iconst (v := 3) hx hb dX11_was_100 (by decide) ?_
                refine lv_icmp_ne (tgt := 114) hx hb dX11_was_101 (by decide) (fun c_101 => ?_) (fun c_101 => ?_)
                · have h := ite_f c_101 h
                  refine lv_iload_n hx hb dX11_was_114 rfl (lv_at hl 4 rfl) ?_
                  refine lv_iconst (v := 4) hx hb dX11_was_115 (by decide) ?_
                  refine lv_icmp_ne (tgt := 129) hx hb dX11_was_116 (by decide) (fun c_116 => ?_) (fun c_116 => ?_)
                  · have h := ite_f c_116 h
                    refine lv_iconst (v := (-1)) hx hb dX11_was_129 (by decide) ?_
                    exact hJ_130 ((-1 : Int32)) H locs ls h hw (lv_sub hl [] rfl)
                  · have h := ite_t c_116 h
                    refine lv_aload_n hx hb dX11_was_119 rfl (lv_at hl 5 rfl) ?_
                    refine gX11_67 hx hb hts hown hK hw dX11_was_120 ?_
                    refine lv_iload hx hb dX11_was_123 (lv_at hl 0 rfl) ?_
                    obtain ⟨hi_125, h⟩ := chk_e h
                    obtain ⟨y_125, e_125, h⟩ := nam_e h
                    refine lM19 hx hb hK hw hi_125 e_125 dX11_was_125 ?_
                    refine lv_goto (tgt := 130) hx hb dX11_was_126 (by decide) ?_
                    exact hJ_130 y_125 H locs ls h hw (lv_sub hl [] rfl)
                · have h := ite_t c_101 h
                  refine lv_aload_n hx hb dX11_was_104 rfl (lv_at hl 5 rfl) ?_
                  refine gX11_64 hx hb hts hown hK hw dX11_was_105 ?_
                  refine lv_iload hx hb dX11_was_108 (lv_at hl 0 rfl) ?_
                  obtain ⟨hi_110, h⟩ := chk_e h
                  obtain ⟨y_110, e_110, h⟩ := nam_e h
                  refine lM18 hx hb hK hw hi_110 e_110 dX11_was_110 ?_
                  refine lv_goto (tgt := 130) hx hb dX11_was_111 (by decide) ?_
                  exact hJ_130 y_110 H locs ls h hw (lv_sub hl [] rfl)
              · have h := ite_t c_86 h
                refine lv_aload_n hx hb dX11_was_89 rfl (lv_at hl 5 rfl) ?_
                refine gX11_61 hx hb hts hown hK hw dX11_was_90 ?_
                refine lv_iload hx hb dX11_was_93 (lv_at hl 0 rfl) ?_
                obtain ⟨hi_95, h⟩ := chk_e h
                obtain ⟨y_95, e_95, h⟩ := nam_e h
                refine lM17 hx hb hK hw hi_95 e_95 dX11_was_95 ?_
                refine lv_goto (tgt := 130) hx hb dX11_was_96 (by decide) ?_
                exact hJ_130 y_95 H locs ls h hw (lv_sub hl [] rfl)
            · have h := ite_t c_79 h
              refine lv_iconst (v := (-1)) hx hb dX11_was_82 (by decide) ?_
              have h := Option.some.inj h
              subst h
              rw [← hQ]
              exact retI hx hb hr hlk hw rfl dX11_was_83
          · have h := ite_f c_36 h
            refine lv_aload_n hx hb dX11_was_39 rfl (lv_at hl 5 rfl) ?_
            refine gX11_55 hx hb hts hown hK hw dX11_was_40 ?_
            refine lv_iload hx hb dX11_was_43 (lv_at hl 1 rfl) ?_
            obtain ⟨hi_45, h⟩ := chk_e h
            obtain ⟨y_45, e_45, h⟩ := nam_e h
            refine lM15 hx hb hK hw hi_45 e_45 dX11_was_45 ?_
            refine lv_iload_n hx hb dX11_was_46 rfl (lv_at hl 2 rfl) ?_
            refine lv_icmp_ne (tgt := 66) hx hb dX11_was_47 (by decide) (fun c_47 => ?_) (fun c_47 => ?_)
            · have h := ite_f c_47 h
              exact hJ_66 t_30.1 t_30.2 H locs ls h hw (lv_sub hl [5, 2, 3, 4, 0, 1] rfl)
            · have h := ite_t c_47 h
              refine lv_aload_n hx hb dX11_was_50 rfl (lv_at hl 5 rfl) ?_
              refine gX11_58 hx hb hts hown hK hw dX11_was_51 ?_
              refine lv_iload hx hb dX11_was_54 (lv_at hl 1 rfl) ?_
              obtain ⟨hi_56, h⟩ := chk_e h
              obtain ⟨y_56, e_56, h⟩ := nam_e h
              refine lM16 hx hb hK hw hi_56 e_56 dX11_was_56 ?_
              refine lv_iload_n hx hb dX11_was_57 rfl (lv_at hl 3 rfl) ?_
              refine lv_icmp_gt (tgt := 66) hx hb dX11_was_58 (by decide) (fun c_58 => ?_) (fun c_58 => ?_)
              · have h := ite_t c_58 h
                exact hJ_66 t_30.1 t_30.2 H locs ls h hw (lv_sub hl [5, 2, 3, 4, 0, 1] rfl)
              · have h := ite_f c_58 h
                refine lv_iload hx hb dX11_was_61 (lv_at hl 1 rfl) ?_
                refine lv_goto (tgt := 68) hx hb dX11_was_63 (by decide) ?_
                exact hJ_68 t_30.2 t_30.2 H locs ls h hw (lv_sub hl [5, 2, 3, 4, 1] rfl)
      exact hL_30 n_30 ((-1 : Int32), (0 : Int32)) H locs ls hn_30 hw (lv_sub hl [1, 0, 3, 4, 5, 2] rfl)
    · have h := ite_t c_19 h
      exact hJ_22  H locs ls h hw (lv_sub hl [] rfl)
theorem dX11_way_0 : decode cX11_way 0 = .ok (.iload_n 1, 1) := by decide +kernel
theorem dX11_way_1 : decode cX11_way 1 = .ok (.invokestatic 480, 3) := by decide +kernel
theorem dX11_way_4 : decode cX11_way 4 = .ok (.ifCond .eq 27, 3) := by decide +kernel
theorem dX11_way_7 : decode cX11_way 7 = .ok (.iload_n 2, 1) := by decide +kernel
theorem dX11_way_8 : decode cX11_way 8 = .ok (.invokestatic 480, 3) := by decide +kernel
theorem dX11_way_11 : decode cX11_way 11 = .ok (.ifCond .eq 20, 3) := by decide +kernel
theorem dX11_way_14 : decode cX11_way 14 = .ok (.iload_n 1, 1) := by decide +kernel
theorem dX11_way_15 : decode cX11_way 15 = .ok (.iload_n 2, 1) := by decide +kernel
theorem dX11_way_16 : decode cX11_way 16 = .ok (.if_icmp .eq 15, 3) := by decide +kernel
theorem dX11_way_19 : decode cX11_way 19 = .ok (.iload_n 3, 1) := by decide +kernel
theorem dX11_way_20 : decode cX11_way 20 = .ok (.i2l, 1) := by decide +kernel
theorem dX11_way_21 : decode cX11_way 21 = .ok (.lconst 1, 1) := by decide +kernel
theorem dX11_way_22 : decode cX11_way 22 = .ok (.ldc2_w 441, 3) := by decide +kernel
theorem dX11_way_25 : decode cX11_way 25 = .ok (.invokestatic 215, 3) := by decide +kernel
theorem dX11_way_28 : decode cX11_way 28 = .ok (.ifCond .ne 5, 3) := by decide +kernel
theorem dX11_way_31 : decode cX11_way 31 = .ok (.iconst 0, 1) := by decide +kernel
theorem dX11_way_32 : decode cX11_way 32 = .ok (.ireturn, 1) := by decide +kernel
theorem dX11_way_33 : decode cX11_way 33 = .ok (.aload_n 0, 1) := by decide +kernel
theorem dX11_way_34 : decode cX11_way 34 = .ok (.getfield 172, 3) := by decide +kernel
theorem dX11_way_37 : decode cX11_way 37 = .ok (.bipush 16, 2) := by decide +kernel
theorem dX11_way_39 : decode cX11_way 39 = .ok (.iload_n 1, 1) := by decide +kernel
theorem dX11_way_40 : decode cX11_way 40 = .ok (.imul, 1) := by decide +kernel
theorem dX11_way_41 : decode cX11_way 41 = .ok (.iload_n 2, 1) := by decide +kernel
theorem dX11_way_42 : decode cX11_way 42 = .ok (.iadd, 1) := by decide +kernel
theorem dX11_way_43 : decode cX11_way 43 = .ok (.iload_n 3, 1) := by decide +kernel
theorem dX11_way_44 : decode cX11_way 44 = .ok (.iastore, 1) := by decide +kernel
theorem dX11_way_45 : decode cX11_way 45 = .ok (.aload_n 0, 1) := by decide +kernel
theorem dX11_way_46 : decode cX11_way 46 = .ok (.getfield 172, 3) := by decide +kernel
theorem dX11_way_49 : decode cX11_way 49 = .ok (.bipush 16, 2) := by decide +kernel
theorem dX11_way_51 : decode cX11_way 51 = .ok (.iload_n 2, 1) := by decide +kernel
theorem dX11_way_52 : decode cX11_way 52 = .ok (.imul, 1) := by decide +kernel
theorem dX11_way_53 : decode cX11_way 53 = .ok (.iload_n 1, 1) := by decide +kernel
theorem dX11_way_54 : decode cX11_way 54 = .ok (.iadd, 1) := by decide +kernel
theorem dX11_way_55 : decode cX11_way 55 = .ok (.iload_n 3, 1) := by decide +kernel
theorem dX11_way_56 : decode cX11_way 56 = .ok (.iastore, 1) := by decide +kernel
theorem dX11_way_57 : decode cX11_way 57 = .ok (.iconst 1, 1) := by decide +kernel
theorem dX11_way_58 : decode cX11_way 58 = .ok (.ireturn, 1) := by decide +kernel
def f11_way_j31 (s11_j31 : OS) : Option (Int32 × OS) := some ((0 : Int32), s11_j31)
def f11_way (a1 : Int32) (a2 : Int32) (a3 : Int32) (s11 : OS) : Option (Int32 × OS) := Option.bind (f11_isPlace a1) fun q_1 => if q_1 = 0 then (f11_way_j31 s11) else (Option.bind (f11_isPlace a2) fun q_8 => if q_8 = 0 then (f11_way_j31 s11) else (if a1 = a2 then (f11_way_j31 s11) else (Option.bind (f11_lies ((a3).toInt64) ((1 : Int64)) ((1000 : Int64))) fun q_25 => if q_25 = 0 then (f11_way_j31 s11) else (chk (inb ((((16 : Int32) * a1) + a2)) 256) (nm (wI s11 78 ((((16 : Int32) * a1) + a2)).toNatClampNeg a3) fun s11_44 => chk (inb ((((16 : Int32) * a2) + a1)) 256) (nm (wI s11_44 78 ((((16 : Int32) * a2) + a1)).toNatClampNeg a3) fun s11_56 => some ((1 : Int32), s11_56)))))))
set_option maxHeartbeats 4000000 in
set_option maxRecDepth 100000 in
theorem m11_way (l : Launch) (D : va_G) (ad : Nat → Nat) (cy : Nat → ClassId) (sz : Nat) (s11 : OS) (a1 : Int32) (a2 : Int32) (a3 : Int32) (r : Int32 × OS) (h : f11_way a1 a2 a3 s11 = some r) : Met l yX11_way (wsOf yX11_way cX11_way 4 (some .boolean)) (rmL 2) (va_Pc ([.ref (ad 0), .int a1, .int a2, .int a3] : List Value) (PreG D cy (cellsM ad cy s11) sz NM)) (QcI D ad 66 (cellsM ad cy r.2) (r.1) sz) 0 0 (Afr ad 66 sz) := by
  refine metG (own := RX11) (by decide) rfl (Nat.le_of_ble_eq_true rfl) fstM ?_ sz
  intro p e s m below meth c ls C0 hw hl
  obtain ⟨hx, hb, hml, hown, hts, hr, hlk, hK, hN⟩ := C0
  have hl : lv_has ls 4 [(0, .ref (ad 0)), (1, .int a1), (2, .int a2), (3, .int a3)] := hl
  generalize hQ : MQ below (QcI D ad 66 (cellsM ad cy r.2) (r.1) s.heap.size) ([.ref (ad 0), .int a1, .int a2, .int a3] : List Value).toArray s 0 0 (Afr ad 66 s.heap.size) = Q
  obtain ⟨H, hH⟩ : ∃ H : Heap, H = s.heap := ⟨_, rfl⟩
  obtain ⟨locs, hlc⟩ : ∃ L : List Loc, L = [] := ⟨_, rfl⟩
  have hw : Wd D (cellsM ad cy s11) (Afr ad 66 s.heap.size) s.heap H locs := by rw [hH, hlc]; exact hw
  suffices h0 : W p l e (rmL 2) s m ([.ref (ad 0), .int a1, .int a2, .int a3] : List Value).toArray below meth c H locs 0 0 Q (F0 m 0 ls []) by rw [hH, hlc] at h0; exact h0
  clear hH hlc
  unfold f11_way at h
  have hJ_31 : ∀ (s11_j31 : OS) (H : Heap) (locs : List Loc) (ls : Array Slot), f11_way_j31 s11_j31 = some r → Wd D (cellsM ad cy s11_j31) (Afr ad 66 s.heap.size) s.heap H locs → lv_has ls 4 [] → W p l e (rmL 2) s m ([.ref (ad 0), .int a1, .int a2, .int a3] : List Value).toArray below meth c H locs 0 0 Q (F0 m 31 ls []) := by
    intro s11_j31 H locs ls h hw hl
    unfold f11_way_j31 at h
    refine lv_iconst (v := 0) hx hb dX11_way_31 (by decide) ?_
    have h := Option.some.inj h
    subst h
    rw [← hQ]
    exact retI hx hb hr hlk hw (narB (v := (0 : Int32)) (by decide)) dX11_way_32
  refine lv_iload_n hx hb dX11_way_0 rfl (lv_at hl 1 rfl) ?_
  obtain ⟨q_1, h_1, h⟩ := bnd_e h
  have pg_1 := preG (av := [.int a1]) hK hw.1 hw.2.1 NM_keep NM_blind
  refine endI (mc := 0) (ms := 0) (va_runS (As := [.int a1]) (rest := []) ⟨hx, hb, hml, hown, hts⟩ (m11_isPlace l D ad cy H.size s11 a1 q_1 h_1) (wX11_480 1 hts ⟨Nat.le_of_ble_eq_true rfl, Nat.le_of_ble_eq_true rfl⟩) pg_1 rfl rfl hl.1 rfl (lv_room (Nat.le_of_ble_eq_true rfl)) dX11_way_1 ⟨Nat.le_refl _, Nat.le_refl _⟩) hw.2.2 (afr_in hw.2.2) (fun H locs hw => ?_)
  refine lv_if_eq (tgt := 31) hx hb dX11_way_4 (by decide) (fun c_4 => ?_) (fun c_4 => ?_)
  · have h := ite_t c_4 h
    exact hJ_31 s11 H locs ls h hw (lv_sub hl [] rfl)
  · have h := ite_f c_4 h
    refine lv_iload_n hx hb dX11_way_7 rfl (lv_at hl 2 rfl) ?_
    obtain ⟨q_8, h_8, h⟩ := bnd_e h
    have pg_8 := preG (av := [.int a2]) hK hw.1 hw.2.1 NM_keep NM_blind
    refine endI (mc := 0) (ms := 0) (va_runS (As := [.int a2]) (rest := []) ⟨hx, hb, hml, hown, hts⟩ (m11_isPlace l D ad cy H.size s11 a2 q_8 h_8) (wX11_480 1 hts ⟨Nat.le_of_ble_eq_true rfl, Nat.le_of_ble_eq_true rfl⟩) pg_8 rfl rfl hl.1 rfl (lv_room (Nat.le_of_ble_eq_true rfl)) dX11_way_8 ⟨Nat.le_refl _, Nat.le_refl _⟩) hw.2.2 (afr_in hw.2.2) (fun H locs hw => ?_)
    refine lv_if_eq (tgt := 31) hx hb dX11_way_11 (by decide) (fun c_11 => ?_) (fun c_11 => ?_)
    · have h := ite_t c_11 h
      exact hJ_31 s11 H locs ls h hw (lv_sub hl [] rfl)
    · have h := ite_f c_11 h
      refine lv_iload_n hx hb dX11_way_14 rfl (lv_at hl 1 rfl) ?_
      refine lv_iload_n hx hb dX11_way_15 rfl (lv_at hl 2 rfl) ?_
      refine lv_icmp_eq (tgt := 31) hx hb dX11_way_16 (by decide) (fun c_16 => ?_) (fun c_16 => ?_)
      · have h := ite_t c_16 h
        exact hJ_31 s11 H locs ls h hw (lv_sub hl [] rfl)
      · have h := ite_f c_16 h
        refine lv_iload_n hx hb dX11_way_19 rfl (lv_at hl 3 rfl) ?_
        refine lv_i2l hx hb dX11_way_20 rfl ?_
        refine lv_lconst (v := 1) hx hb dX11_way_21 (by decide) ?_
        refine lv_ldc2 (v := 1000) hx hb hown (hts _ (wd_8 (w := .constantLong RX11 441 1000) (i := 70) (by decide +kernel) rfl)) dX11_way_22 ?_
        obtain ⟨q_25, h_25, h⟩ := bnd_e h
        have pg_25 := preG (av := [.long ((a3).toInt64), .long ((1 : Int64)), .long ((1000 : Int64))]) hK hw.1 hw.2.1 NM_keep NM_blind
        refine endI (mc := 0) (ms := 0) (va_runS (As := [.long ((a3).toInt64), .long ((1 : Int64)), .long ((1000 : Int64))]) (rest := []) ⟨hx, hb, hml, hown, hts⟩ (m11_lies l D ad cy H.size s11 ((a3).toInt64) ((1 : Int64)) ((1000 : Int64)) q_25 h_25) (wX11_215 0 hts ⟨Nat.le_of_ble_eq_true rfl, Nat.le_of_ble_eq_true rfl⟩) pg_25 rfl rfl hl.1 rfl (lv_room (Nat.le_of_ble_eq_true rfl)) dX11_way_25 ⟨Nat.le_refl _, Nat.le_refl _⟩) hw.2.2 (afr_in hw.2.2) (fun H locs hw => ?_)
        refine lv_if_ne (tgt := 33) hx hb dX11_way_28 (by decide) (fun c_28 => ?_) (fun c_28 => ?_)
        · have h := ite_f c_28 h
          refine lv_aload_n hx hb dX11_way_33 rfl (lv_at hl 0 rfl) ?_
          refine gX11_172 hx hb hts hown hK hw dX11_way_34 ?_
          refine lv_bipush (v := 16) hx hb dX11_way_37 (by decide) ?_
          refine lv_iload_n hx hb dX11_way_39 rfl (lv_at hl 1 rfl) ?_
          refine lv_imul hx hb dX11_way_40 ?_
          refine lv_iload_n hx hb dX11_way_41 rfl (lv_at hl 2 rfl) ?_
          refine lv_iadd hx hb dX11_way_42 ?_
          refine lv_iload_n hx hb dX11_way_43 rfl (lv_at hl 3 rfl) ?_
          obtain ⟨hi_44, h⟩ := chk_e h
          obtain ⟨s11_44, e_44, h⟩ := nam_e h
          refine aM54 hx hb hK hw hi_44 e_44 dX11_way_44 (fun H locs hw => ?_)
          refine lv_aload_n hx hb dX11_way_45 rfl (lv_at hl 0 rfl) ?_
          refine gX11_172 hx hb hts hown hK hw dX11_way_46 ?_
          refine lv_bipush (v := 16) hx hb dX11_way_49 (by decide) ?_
          refine lv_iload_n hx hb dX11_way_51 rfl (lv_at hl 2 rfl) ?_
          refine lv_imul hx hb dX11_way_52 ?_
          refine lv_iload_n hx hb dX11_way_53 rfl (lv_at hl 1 rfl) ?_
          refine lv_iadd hx hb dX11_way_54 ?_
          refine lv_iload_n hx hb dX11_way_55 rfl (lv_at hl 3 rfl) ?_
          obtain ⟨hi_56, h⟩ := chk_e h
          obtain ⟨s11_56, e_56, h⟩ := nam_e h
          refine aM54 hx hb hK hw hi_56 e_56 dX11_way_56 (fun H locs hw => ?_)
          refine lv_iconst (v := 1) hx hb dX11_way_57 (by decide) ?_
          have h := Option.some.inj h
          subst h
          rw [← hQ]
          exact retI hx hb hr hlk hw (narB (v := (1 : Int32)) (by decide)) dX11_way_58
        · have h := ite_t c_28 h
          exact hJ_31 s11 H locs ls h hw (lv_sub hl [] rfl)
theorem dX11_weigh_0 : decode cX11_weigh 0 = .ok (.aload_n 0, 1) := by decide +kernel
theorem dX11_weigh_1 : decode cX11_weigh 1 = .ok (.getfield 445, 3) := by decide +kernel
theorem dX11_weigh_4 : decode cX11_weigh 4 = .ok (.sipush 200, 3) := by decide +kernel
theorem dX11_weigh_7 : decode cX11_weigh 7 = .ok (.if_icmp .eq 48, 3) := by decide +kernel
theorem dX11_weigh_10 : decode cX11_weigh 10 = .ok (.aload_n 0, 1) := by decide +kernel
theorem dX11_weigh_11 : decode cX11_weigh 11 = .ok (.iload_n 1, 1) := by decide +kernel
theorem dX11_weigh_12 : decode cX11_weigh 12 = .ok (.invokevirtual 263, 3) := by decide +kernel
theorem dX11_weigh_15 : decode cX11_weigh 15 = .ok (.ifCond .eq 40, 3) := by decide +kernel
theorem dX11_weigh_18 : decode cX11_weigh 18 = .ok (.iload_n 2, 1) := by decide +kernel
theorem dX11_weigh_19 : decode cX11_weigh 19 = .ok (.i2l, 1) := by decide +kernel
theorem dX11_weigh_20 : decode cX11_weigh 20 = .ok (.lconst 0, 1) := by decide +kernel
theorem dX11_weigh_21 : decode cX11_weigh 21 = .ok (.ldc2_w 448, 3) := by decide +kernel
theorem dX11_weigh_24 : decode cX11_weigh 24 = .ok (.invokestatic 215, 3) := by decide +kernel
theorem dX11_weigh_27 : decode cX11_weigh 27 = .ok (.ifCond .eq 28, 3) := by decide +kernel
theorem dX11_weigh_30 : decode cX11_weigh 30 = .ok (.iload_n 3, 1) := by decide +kernel
theorem dX11_weigh_31 : decode cX11_weigh 31 = .ok (.i2l, 1) := by decide +kernel
theorem dX11_weigh_32 : decode cX11_weigh 32 = .ok (.lconst 0, 1) := by decide +kernel
theorem dX11_weigh_33 : decode cX11_weigh 33 = .ok (.ldc2_w 450, 3) := by decide +kernel
theorem dX11_weigh_36 : decode cX11_weigh 36 = .ok (.invokestatic 215, 3) := by decide +kernel
theorem dX11_weigh_39 : decode cX11_weigh 39 = .ok (.ifCond .eq 16, 3) := by decide +kernel
theorem dX11_weigh_42 : decode cX11_weigh 42 = .ok (.iload 4, 2) := by decide +kernel
theorem dX11_weigh_44 : decode cX11_weigh 44 = .ok (.i2l, 1) := by decide +kernel
theorem dX11_weigh_45 : decode cX11_weigh 45 = .ok (.lconst 0, 1) := by decide +kernel
theorem dX11_weigh_46 : decode cX11_weigh 46 = .ok (.ldc2_w 441, 3) := by decide +kernel
theorem dX11_weigh_49 : decode cX11_weigh 49 = .ok (.invokestatic 215, 3) := by decide +kernel
theorem dX11_weigh_52 : decode cX11_weigh 52 = .ok (.ifCond .ne 5, 3) := by decide +kernel
theorem dX11_weigh_55 : decode cX11_weigh 55 = .ok (.iconst 0, 1) := by decide +kernel
theorem dX11_weigh_56 : decode cX11_weigh 56 = .ok (.ireturn, 1) := by decide +kernel
theorem dX11_weigh_57 : decode cX11_weigh 57 = .ok (.aload_n 0, 1) := by decide +kernel
theorem dX11_weigh_58 : decode cX11_weigh 58 = .ok (.getfield 139, 3) := by decide +kernel
theorem dX11_weigh_61 : decode cX11_weigh 61 = .ok (.aload_n 0, 1) := by decide +kernel
theorem dX11_weigh_62 : decode cX11_weigh 62 = .ok (.getfield 445, 3) := by decide +kernel
theorem dX11_weigh_65 : decode cX11_weigh 65 = .ok (.iload_n 2, 1) := by decide +kernel
theorem dX11_weigh_66 : decode cX11_weigh 66 = .ok (.iastore, 1) := by decide +kernel
theorem dX11_weigh_67 : decode cX11_weigh 67 = .ok (.aload_n 0, 1) := by decide +kernel
theorem dX11_weigh_68 : decode cX11_weigh 68 = .ok (.getfield 142, 3) := by decide +kernel
theorem dX11_weigh_71 : decode cX11_weigh 71 = .ok (.aload_n 0, 1) := by decide +kernel
theorem dX11_weigh_72 : decode cX11_weigh 72 = .ok (.getfield 445, 3) := by decide +kernel
theorem dX11_weigh_75 : decode cX11_weigh 75 = .ok (.aload_n 0, 1) := by decide +kernel
theorem dX11_weigh_76 : decode cX11_weigh 76 = .ok (.getfield 225, 3) := by decide +kernel
theorem dX11_weigh_79 : decode cX11_weigh 79 = .ok (.iastore, 1) := by decide +kernel
theorem dX11_weigh_80 : decode cX11_weigh 80 = .ok (.aload_n 0, 1) := by decide +kernel
theorem dX11_weigh_81 : decode cX11_weigh 81 = .ok (.getfield 145, 3) := by decide +kernel
theorem dX11_weigh_84 : decode cX11_weigh 84 = .ok (.aload_n 0, 1) := by decide +kernel
theorem dX11_weigh_85 : decode cX11_weigh 85 = .ok (.getfield 445, 3) := by decide +kernel
theorem dX11_weigh_88 : decode cX11_weigh 88 = .ok (.iload_n 3, 1) := by decide +kernel
theorem dX11_weigh_89 : decode cX11_weigh 89 = .ok (.aload_n 0, 1) := by decide +kernel
theorem dX11_weigh_90 : decode cX11_weigh 90 = .ok (.getfield 20, 3) := by decide +kernel
theorem dX11_weigh_93 : decode cX11_weigh 93 = .ok (.iload_n 1, 1) := by decide +kernel
theorem dX11_weigh_94 : decode cX11_weigh 94 = .ok (.iaload, 1) := by decide +kernel
theorem dX11_weigh_95 : decode cX11_weigh 95 = .ok (.isub, 1) := by decide +kernel
theorem dX11_weigh_96 : decode cX11_weigh 96 = .ok (.iastore, 1) := by decide +kernel
theorem dX11_weigh_97 : decode cX11_weigh 97 = .ok (.aload_n 0, 1) := by decide +kernel
theorem dX11_weigh_98 : decode cX11_weigh 98 = .ok (.getfield 148, 3) := by decide +kernel
theorem dX11_weigh_101 : decode cX11_weigh 101 = .ok (.aload_n 0, 1) := by decide +kernel
theorem dX11_weigh_102 : decode cX11_weigh 102 = .ok (.getfield 445, 3) := by decide +kernel
theorem dX11_weigh_105 : decode cX11_weigh 105 = .ok (.iload 4, 2) := by decide +kernel
theorem dX11_weigh_107 : decode cX11_weigh 107 = .ok (.iastore, 1) := by decide +kernel
theorem dX11_weigh_108 : decode cX11_weigh 108 = .ok (.aload_n 0, 1) := by decide +kernel
theorem dX11_weigh_109 : decode cX11_weigh 109 = .ok (.dup, 1) := by decide +kernel
theorem dX11_weigh_110 : decode cX11_weigh 110 = .ok (.getfield 445, 3) := by decide +kernel
theorem dX11_weigh_113 : decode cX11_weigh 113 = .ok (.iconst 1, 1) := by decide +kernel
theorem dX11_weigh_114 : decode cX11_weigh 114 = .ok (.iadd, 1) := by decide +kernel
theorem dX11_weigh_115 : decode cX11_weigh 115 = .ok (.putfield 445, 3) := by decide +kernel
theorem dX11_weigh_118 : decode cX11_weigh 118 = .ok (.iconst 1, 1) := by decide +kernel
theorem dX11_weigh_119 : decode cX11_weigh 119 = .ok (.ireturn, 1) := by decide +kernel
def f11_weigh_j55 (s11_j55 : OS) : Option (Int32 × OS) := some ((0 : Int32), s11_j55)
def f11_weigh (a1 : Int32) (a2 : Int32) (a3 : Int32) (a4 : Int32) (s11 : OS) : Option (Int32 × OS) := if (s11.1 0 7) = (200 : Int32) then (f11_weigh_j55 s11) else (Option.bind (f11_isThere a1 s11) fun q_12 => if q_12 = 0 then (f11_weigh_j55 s11) else (Option.bind (f11_lies ((a2).toInt64) ((0 : Int64)) ((3 : Int64))) fun q_24 => if q_24 = 0 then (f11_weigh_j55 s11) else (Option.bind (f11_lies ((a3).toInt64) ((0 : Int64)) ((1000001000 : Int64))) fun q_36 => if q_36 = 0 then (f11_weigh_j55 s11) else (Option.bind (f11_lies ((a4).toInt64) ((0 : Int64)) ((1000 : Int64))) fun q_49 => if q_49 = 0 then (f11_weigh_j55 s11) else (chk (inb ((s11.1 0 7)) 200) (nm (wI s11 65 ((s11.1 0 7)).toNatClampNeg a2) fun s11_66 => chk (inb ((s11_66.1 0 7)) 200) (nm (wI s11_66 66 ((s11_66.1 0 7)).toNatClampNeg ((s11_66.1 0 2))) fun s11_79 => chk (inb a1 150) (nm (s11_79.1 14 a1.toNatClampNeg) fun y_94 => chk (inb ((s11_79.1 0 7)) 200) (nm (wI s11_79 67 ((s11_79.1 0 7)).toNatClampNeg ((a3 - y_94))) fun s11_96 => chk (inb ((s11_96.1 0 7)) 200) (nm (wI s11_96 68 ((s11_96.1 0 7)).toNatClampNeg a4) fun s11_107 => nm (wI s11_107 0 7 (((s11_107.1 0 7) + (1 : Int32)))) fun s11_115 => some ((1 : Int32), s11_115)))))))))))
set_option maxHeartbeats 4000000 in
set_option maxRecDepth 100000 in
theorem m11_weigh (l : Launch) (D : va_G) (ad : Nat → Nat) (cy : Nat → ClassId) (sz : Nat) (s11 : OS) (a1 : Int32) (a2 : Int32) (a3 : Int32) (a4 : Int32) (r : Int32 × OS) (h : f11_weigh a1 a2 a3 a4 s11 = some r) : Met l yX11_weigh (wsOf yX11_weigh cX11_weigh 5 (some .boolean)) (rmL 3) (va_Pc ([.ref (ad 0), .int a1, .int a2, .int a3, .int a4] : List Value) (PreG D cy (cellsM ad cy s11) sz NM)) (QcI D ad 66 (cellsM ad cy r.2) (r.1) sz) 0 0 (Afr ad 66 sz) := by
  refine metG (own := RX11) (by decide) rfl (Nat.le_of_ble_eq_true rfl) fstM ?_ sz
  intro p e s m below meth c ls C0 hw hl
  obtain ⟨hx, hb, hml, hown, hts, hr, hlk, hK, hN⟩ := C0
  have hl : lv_has ls 5 [(0, .ref (ad 0)), (1, .int a1), (2, .int a2), (3, .int a3), (4, .int a4)] := hl
  generalize hQ : MQ below (QcI D ad 66 (cellsM ad cy r.2) (r.1) s.heap.size) ([.ref (ad 0), .int a1, .int a2, .int a3, .int a4] : List Value).toArray s 0 0 (Afr ad 66 s.heap.size) = Q
  obtain ⟨H, hH⟩ : ∃ H : Heap, H = s.heap := ⟨_, rfl⟩
  obtain ⟨locs, hlc⟩ : ∃ L : List Loc, L = [] := ⟨_, rfl⟩
  have hw : Wd D (cellsM ad cy s11) (Afr ad 66 s.heap.size) s.heap H locs := by rw [hH, hlc]; exact hw
  suffices h0 : W p l e (rmL 3) s m ([.ref (ad 0), .int a1, .int a2, .int a3, .int a4] : List Value).toArray below meth c H locs 0 0 Q (F0 m 0 ls []) by rw [hH, hlc] at h0; exact h0
  clear hH hlc
  unfold f11_weigh at h
  have hJ_55 : ∀ (s11_j55 : OS) (H : Heap) (locs : List Loc) (ls : Array Slot), f11_weigh_j55 s11_j55 = some r → Wd D (cellsM ad cy s11_j55) (Afr ad 66 s.heap.size) s.heap H locs → lv_has ls 5 [] → W p l e (rmL 3) s m ([.ref (ad 0), .int a1, .int a2, .int a3, .int a4] : List Value).toArray below meth c H locs 0 0 Q (F0 m 55 ls []) := by
    intro s11_j55 H locs ls h hw hl
    unfold f11_weigh_j55 at h
    refine lv_iconst (v := 0) hx hb dX11_weigh_55 (by decide) ?_
    have h := Option.some.inj h
    subst h
    rw [← hQ]
    exact retI hx hb hr hlk hw (narB (v := (0 : Int32)) (by decide)) dX11_weigh_56
  refine lv_aload_n hx hb dX11_weigh_0 rfl (lv_at hl 0 rfl) ?_
  refine gX11_445 hx hb hts hown hK hw dX11_weigh_1 ?_
  refine lv_sipush (v := 200) hx hb dX11_weigh_4 (by decide) ?_
  refine lv_icmp_eq (tgt := 55) hx hb dX11_weigh_7 (by decide) (fun c_7 => ?_) (fun c_7 => ?_)
  · have h := ite_t c_7 h
    exact hJ_55 s11 H locs ls h hw (lv_sub hl [] rfl)
  · have h := ite_f c_7 h
    refine lv_aload_n hx hb dX11_weigh_10 rfl (lv_at hl 0 rfl) ?_
    refine lv_iload_n hx hb dX11_weigh_11 rfl (lv_at hl 1 rfl) ?_
    obtain ⟨q_12, h_12, h⟩ := bnd_e h
    have pg_12 := preG (av := [.ref (ad 0), .int a1]) hK hw.1 hw.2.1 NM_keep NM_blind
    refine endI (mc := 0) (ms := 0) (va_runV (As := [.int a1]) (rest := []) ⟨hx, hb, hml, hown, hts⟩ (m11_isThere l D ad cy H.size s11 a1 q_12 h_12) (wX11_263 2 hts ⟨Nat.le_of_ble_eq_true rfl, Nat.le_of_ble_eq_true rfl⟩) ⟨pg_12.1, va_recv hK hw.1 (ci := 11) (q0 := 0) rfl eM_0, pg_12.2⟩ rfl rfl hl.1 rfl (lv_room (Nat.le_of_ble_eq_true rfl)) dX11_weigh_12 ⟨Nat.le_refl _, Nat.le_refl _⟩) hw.2.2 (afr_in hw.2.2) (fun H locs hw => ?_)
    refine lv_if_eq (tgt := 55) hx hb dX11_weigh_15 (by decide) (fun c_15 => ?_) (fun c_15 => ?_)
    · have h := ite_t c_15 h
      exact hJ_55 s11 H locs ls h hw (lv_sub hl [] rfl)
    · have h := ite_f c_15 h
      refine lv_iload_n hx hb dX11_weigh_18 rfl (lv_at hl 2 rfl) ?_
      refine lv_i2l hx hb dX11_weigh_19 rfl ?_
      refine lv_lconst (v := 0) hx hb dX11_weigh_20 (by decide) ?_
      refine lv_ldc2 (v := 3) hx hb hown (hts _ (wd_8 (w := .constantLong RX11 448 3) (i := 85) (by decide +kernel) rfl)) dX11_weigh_21 ?_
      obtain ⟨q_24, h_24, h⟩ := bnd_e h
      have pg_24 := preG (av := [.long ((a2).toInt64), .long ((0 : Int64)), .long ((3 : Int64))]) hK hw.1 hw.2.1 NM_keep NM_blind
      refine endI (mc := 0) (ms := 0) (va_runS (As := [.long ((a2).toInt64), .long ((0 : Int64)), .long ((3 : Int64))]) (rest := []) ⟨hx, hb, hml, hown, hts⟩ (m11_lies l D ad cy H.size s11 ((a2).toInt64) ((0 : Int64)) ((3 : Int64)) q_24 h_24) (wX11_215 0 hts ⟨Nat.le_of_ble_eq_true rfl, Nat.le_of_ble_eq_true rfl⟩) pg_24 rfl rfl hl.1 rfl (lv_room (Nat.le_of_ble_eq_true rfl)) dX11_weigh_24 ⟨Nat.le_refl _, Nat.le_refl _⟩) hw.2.2 (afr_in hw.2.2) (fun H locs hw => ?_)
      refine lv_if_eq (tgt := 55) hx hb dX11_weigh_27 (by decide) (fun c_27 => ?_) (fun c_27 => ?_)
      · have h := ite_t c_27 h
        exact hJ_55 s11 H locs ls h hw (lv_sub hl [] rfl)
      · have h := ite_f c_27 h
        refine lv_iload_n hx hb dX11_weigh_30 rfl (lv_at hl 3 rfl) ?_
        refine lv_i2l hx hb dX11_weigh_31 rfl ?_
        refine lv_lconst (v := 0) hx hb dX11_weigh_32 (by decide) ?_
        refine lv_ldc2 (v := 1000001000) hx hb hown (hts _ (wd_8 (w := .constantLong RX11 450 1000001000) (i := 86) (by decide +kernel) rfl)) dX11_weigh_33 ?_
        obtain ⟨q_36, h_36, h⟩ := bnd_e h
        have pg_36 := preG (av := [.long ((a3).toInt64), .long ((0 : Int64)), .long ((1000001000 : Int64))]) hK hw.1 hw.2.1 NM_keep NM_blind
        refine endI (mc := 0) (ms := 0) (va_runS (As := [.long ((a3).toInt64), .long ((0 : Int64)), .long ((1000001000 : Int64))]) (rest := []) ⟨hx, hb, hml, hown, hts⟩ (m11_lies l D ad cy H.size s11 ((a3).toInt64) ((0 : Int64)) ((1000001000 : Int64)) q_36 h_36) (wX11_215 0 hts ⟨Nat.le_of_ble_eq_true rfl, Nat.le_of_ble_eq_true rfl⟩) pg_36 rfl rfl hl.1 rfl (lv_room (Nat.le_of_ble_eq_true rfl)) dX11_weigh_36 ⟨Nat.le_refl _, Nat.le_refl _⟩) hw.2.2 (afr_in hw.2.2) (fun H locs hw => ?_)
        refine lv_if_eq (tgt := 55) hx hb dX11_weigh_39 (by decide) (fun c_39 => ?_) (fun c_39 => ?_)
        · have h := ite_t c_39 h
          exact hJ_55 s11 H locs ls h hw (lv_sub hl [] rfl)
        · have h := ite_f c_39 h
          refine lv_iload hx hb dX11_weigh_42 (lv_at hl 4 rfl) ?_
          refine lv_i2l hx hb dX11_weigh_44 rfl ?_
          refine lv_lconst (v := 0) hx hb dX11_weigh_45 (by decide) ?_
          refine lv_ldc2 (v := 1000) hx hb hown (hts _ (wd_8 (w := .constantLong RX11 441 1000) (i := 70) (by decide +kernel) rfl)) dX11_weigh_46 ?_
          obtain ⟨q_49, h_49, h⟩ := bnd_e h
          have pg_49 := preG (av := [.long ((a4).toInt64), .long ((0 : Int64)), .long ((1000 : Int64))]) hK hw.1 hw.2.1 NM_keep NM_blind
          refine endI (mc := 0) (ms := 0) (va_runS (As := [.long ((a4).toInt64), .long ((0 : Int64)), .long ((1000 : Int64))]) (rest := []) ⟨hx, hb, hml, hown, hts⟩ (m11_lies l D ad cy H.size s11 ((a4).toInt64) ((0 : Int64)) ((1000 : Int64)) q_49 h_49) (wX11_215 0 hts ⟨Nat.le_of_ble_eq_true rfl, Nat.le_of_ble_eq_true rfl⟩) pg_49 rfl rfl hl.1 rfl (lv_room (Nat.le_of_ble_eq_true rfl)) dX11_weigh_49 ⟨Nat.le_refl _, Nat.le_refl _⟩) hw.2.2 (afr_in hw.2.2) (fun H locs hw => ?_)
          refine lv_if_ne (tgt := 57) hx hb dX11_weigh_52 (by decide) (fun c_52 => ?_) (fun c_52 => ?_)
          · have h := ite_f c_52 h
            refine lv_aload_n hx hb dX11_weigh_57 rfl (lv_at hl 0 rfl) ?_
            refine gX11_139 hx hb hts hown hK hw dX11_weigh_58 ?_
            refine lv_aload_n hx hb dX11_weigh_61 rfl (lv_at hl 0 rfl) ?_
            refine gX11_445 hx hb hts hown hK hw dX11_weigh_62 ?_
            refine lv_iload_n hx hb dX11_weigh_65 rfl (lv_at hl 2 rfl) ?_
            obtain ⟨hi_66, h⟩ := chk_e h
            obtain ⟨s11_66, e_66, h⟩ := nam_e h
            refine aM43 hx hb hK hw hi_66 e_66 dX11_weigh_66 (fun H locs hw => ?_)
            refine lv_aload_n hx hb dX11_weigh_67 rfl (lv_at hl 0 rfl) ?_
            refine gX11_142 hx hb hts hown hK hw dX11_weigh_68 ?_
            refine lv_aload_n hx hb dX11_weigh_71 rfl (lv_at hl 0 rfl) ?_
            refine gX11_445 hx hb hts hown hK hw dX11_weigh_72 ?_
            refine lv_aload_n hx hb dX11_weigh_75 rfl (lv_at hl 0 rfl) ?_
            refine gX11_225 hx hb hts hown hK hw dX11_weigh_76 ?_
            obtain ⟨hi_79, h⟩ := chk_e h
            obtain ⟨s11_79, e_79, h⟩ := nam_e h
            refine aM44 hx hb hK hw hi_79 e_79 dX11_weigh_79 (fun H locs hw => ?_)
            refine lv_aload_n hx hb dX11_weigh_80 rfl (lv_at hl 0 rfl) ?_
            refine gX11_145 hx hb hts hown hK hw dX11_weigh_81 ?_
            refine lv_aload_n hx hb dX11_weigh_84 rfl (lv_at hl 0 rfl) ?_
            refine gX11_445 hx hb hts hown hK hw dX11_weigh_85 ?_
            refine lv_iload_n hx hb dX11_weigh_88 rfl (lv_at hl 3 rfl) ?_
            refine lv_aload_n hx hb dX11_weigh_89 rfl (lv_at hl 0 rfl) ?_
            refine gX11_20 hx hb hts hown hK hw dX11_weigh_90 ?_
            refine lv_iload_n hx hb dX11_weigh_93 rfl (lv_at hl 1 rfl) ?_
            obtain ⟨hi_94, h⟩ := chk_e h
            obtain ⟨y_94, e_94, h⟩ := nam_e h
            refine lM4 hx hb hK hw hi_94 e_94 dX11_weigh_94 ?_
            refine lv_isub hx hb dX11_weigh_95 ?_
            obtain ⟨hi_96, h⟩ := chk_e h
            obtain ⟨s11_96, e_96, h⟩ := nam_e h
            refine aM45 hx hb hK hw hi_96 e_96 dX11_weigh_96 (fun H locs hw => ?_)
            refine lv_aload_n hx hb dX11_weigh_97 rfl (lv_at hl 0 rfl) ?_
            refine gX11_148 hx hb hts hown hK hw dX11_weigh_98 ?_
            refine lv_aload_n hx hb dX11_weigh_101 rfl (lv_at hl 0 rfl) ?_
            refine gX11_445 hx hb hts hown hK hw dX11_weigh_102 ?_
            refine lv_iload hx hb dX11_weigh_105 (lv_at hl 4 rfl) ?_
            obtain ⟨hi_107, h⟩ := chk_e h
            obtain ⟨s11_107, e_107, h⟩ := nam_e h
            refine aM46 hx hb hK hw hi_107 e_107 dX11_weigh_107 (fun H locs hw => ?_)
            refine lv_aload_n hx hb dX11_weigh_108 rfl (lv_at hl 0 rfl) ?_
            refine lv_dup hx hb dX11_weigh_109 rfl ?_
            refine gX11_445 hx hb hts hown hK hw dX11_weigh_110 ?_
            refine lv_iconst (v := 1) hx hb dX11_weigh_113 (by decide) ?_
            refine lv_iadd hx hb dX11_weigh_114 ?_
            obtain ⟨s11_115, e_115, h⟩ := nam_e h
            refine pX11_445 hx hb hts hown hK hw e_115 dX11_weigh_115 (fun H locs hw => ?_)
            refine lv_iconst (v := 1) hx hb dX11_weigh_118 (by decide) ?_
            have h := Option.some.inj h
            subst h
            rw [← hQ]
            exact retI hx hb hr hlk hw (narB (v := (1 : Int32)) (by decide)) dX11_weigh_119
          · have h := ite_t c_52 h
            exact hJ_55 s11 H locs ls h hw (lv_sub hl [] rfl)
theorem dX11_where_0 : decode cX11_where 0 = .ok (.aload_n 0, 1) := by decide +kernel
theorem dX11_where_1 : decode cX11_where 1 = .ok (.iload_n 1, 1) := by decide +kernel
theorem dX11_where_2 : decode cX11_where 2 = .ok (.invokevirtual 491, 3) := by decide +kernel
theorem dX11_where_5 : decode cX11_where 5 = .ok (.ifCond .eq 23, 3) := by decide +kernel
theorem dX11_where_8 : decode cX11_where 8 = .ok (.iload_n 2, 1) := by decide +kernel
theorem dX11_where_9 : decode cX11_where 9 = .ok (.i2l, 1) := by decide +kernel
theorem dX11_where_10 : decode cX11_where 10 = .ok (.aload_n 0, 1) := by decide +kernel
theorem dX11_where_11 : decode cX11_where 11 = .ok (.getfield 178, 3) := by decide +kernel
theorem dX11_where_14 : decode cX11_where 14 = .ok (.iload_n 1, 1) := by decide +kernel
theorem dX11_where_15 : decode cX11_where 15 = .ok (.iaload, 1) := by decide +kernel
theorem dX11_where_16 : decode cX11_where 16 = .ok (.i2l, 1) := by decide +kernel
theorem dX11_where_17 : decode cX11_where 17 = .ok (.aload_n 0, 1) := by decide +kernel
theorem dX11_where_18 : decode cX11_where 18 = .ok (.getfield 225, 3) := by decide +kernel
theorem dX11_where_21 : decode cX11_where 21 = .ok (.i2l, 1) := by decide +kernel
theorem dX11_where_22 : decode cX11_where 22 = .ok (.invokestatic 215, 3) := by decide +kernel
theorem dX11_where_25 : decode cX11_where 25 = .ok (.ifCond .ne 5, 3) := by decide +kernel
theorem dX11_where_28 : decode cX11_where 28 = .ok (.iconst (-1), 1) := by decide +kernel
theorem dX11_where_29 : decode cX11_where 29 = .ok (.ireturn, 1) := by decide +kernel
theorem dX11_where_30 : decode cX11_where 30 = .ok (.aload_n 0, 1) := by decide +kernel
theorem dX11_where_31 : decode cX11_where 31 = .ok (.iload_n 1, 1) := by decide +kernel
theorem dX11_where_32 : decode cX11_where 32 = .ok (.iload_n 2, 1) := by decide +kernel
theorem dX11_where_33 : decode cX11_where 33 = .ok (.invokevirtual 494, 3) := by decide +kernel
theorem dX11_where_36 : decode cX11_where 36 = .ok (.istore_n 3, 1) := by decide +kernel
theorem dX11_where_37 : decode cX11_where 37 = .ok (.iload_n 3, 1) := by decide +kernel
theorem dX11_where_38 : decode cX11_where 38 = .ok (.ifCond .eq 17, 3) := by decide +kernel
theorem dX11_where_41 : decode cX11_where 41 = .ok (.iload_n 3, 1) := by decide +kernel
theorem dX11_where_42 : decode cX11_where 42 = .ok (.invokestatic 408, 3) := by decide +kernel
theorem dX11_where_45 : decode cX11_where 45 = .ok (.iconst 1, 1) := by decide +kernel
theorem dX11_where_46 : decode cX11_where 46 = .ok (.if_icmp .ne 7, 3) := by decide +kernel
theorem dX11_where_49 : decode cX11_where 49 = .ok (.iload_n 3, 1) := by decide +kernel
theorem dX11_where_50 : decode cX11_where 50 = .ok (.goto 4, 3) := by decide +kernel
theorem dX11_where_53 : decode cX11_where 53 = .ok (.iconst 0, 1) := by decide +kernel
theorem dX11_where_54 : decode cX11_where 54 = .ok (.ireturn, 1) := by decide +kernel
theorem dX11_where_55 : decode cX11_where 55 = .ok (.aload_n 0, 1) := by decide +kernel
theorem dX11_where_56 : decode cX11_where 56 = .ok (.iload_n 1, 1) := by decide +kernel
theorem dX11_where_57 : decode cX11_where 57 = .ok (.iload_n 2, 1) := by decide +kernel
theorem dX11_where_58 : decode cX11_where 58 = .ok (.iconst 1, 1) := by decide +kernel
theorem dX11_where_59 : decode cX11_where 59 = .ok (.invokevirtual 497, 3) := by decide +kernel
theorem dX11_where_62 : decode cX11_where 62 = .ok (.istore 4, 2) := by decide +kernel
theorem dX11_where_64 : decode cX11_where 64 = .ok (.aload_n 0, 1) := by decide +kernel
theorem dX11_where_65 : decode cX11_where 65 = .ok (.iload_n 1, 1) := by decide +kernel
theorem dX11_where_66 : decode cX11_where 66 = .ok (.iload_n 2, 1) := by decide +kernel
theorem dX11_where_67 : decode cX11_where 67 = .ok (.iconst 0, 1) := by decide +kernel
theorem dX11_where_68 : decode cX11_where 68 = .ok (.invokevirtual 497, 3) := by decide +kernel
theorem dX11_where_71 : decode cX11_where 71 = .ok (.istore 5, 2) := by decide +kernel
theorem dX11_where_73 : decode cX11_where 73 = .ok (.aload_n 0, 1) := by decide +kernel
theorem dX11_where_74 : decode cX11_where 74 = .ok (.iload_n 1, 1) := by decide +kernel
theorem dX11_where_75 : decode cX11_where 75 = .ok (.iload 4, 2) := by decide +kernel
theorem dX11_where_77 : decode cX11_where 77 = .ok (.invokevirtual 494, 3) := by decide +kernel
theorem dX11_where_80 : decode cX11_where 80 = .ok (.istore 6, 2) := by decide +kernel
theorem dX11_where_82 : decode cX11_where 82 = .ok (.iload 5, 2) := by decide +kernel
theorem dX11_where_84 : decode cX11_where 84 = .ok (.iconst (-1), 1) := by decide +kernel
theorem dX11_where_85 : decode cX11_where 85 = .ok (.if_icmp .ne 7, 3) := by decide +kernel
theorem dX11_where_88 : decode cX11_where 88 = .ok (.iconst 0, 1) := by decide +kernel
theorem dX11_where_89 : decode cX11_where 89 = .ok (.goto 10, 3) := by decide +kernel
theorem dX11_where_92 : decode cX11_where 92 = .ok (.aload_n 0, 1) := by decide +kernel
theorem dX11_where_93 : decode cX11_where 93 = .ok (.iload_n 1, 1) := by decide +kernel
theorem dX11_where_94 : decode cX11_where 94 = .ok (.iload 5, 2) := by decide +kernel
theorem dX11_where_96 : decode cX11_where 96 = .ok (.invokevirtual 494, 3) := by decide +kernel
theorem dX11_where_99 : decode cX11_where 99 = .ok (.istore 7, 2) := by decide +kernel
theorem dX11_where_101 : decode cX11_where 101 = .ok (.iload 6, 2) := by decide +kernel
theorem dX11_where_103 : decode cX11_where 103 = .ok (.invokestatic 408, 3) := by decide +kernel
theorem dX11_where_106 : decode cX11_where 106 = .ok (.iconst 1, 1) := by decide +kernel
theorem dX11_where_107 : decode cX11_where 107 = .ok (.if_icmp .ne 18, 3) := by decide +kernel
theorem dX11_where_110 : decode cX11_where 110 = .ok (.iload 5, 2) := by decide +kernel
theorem dX11_where_112 : decode cX11_where 112 = .ok (.iconst (-1), 1) := by decide +kernel
theorem dX11_where_113 : decode cX11_where 113 = .ok (.if_icmp .eq 14, 3) := by decide +kernel
theorem dX11_where_116 : decode cX11_where 116 = .ok (.iload 7, 2) := by decide +kernel
theorem dX11_where_118 : decode cX11_where 118 = .ok (.invokestatic 408, 3) := by decide +kernel
theorem dX11_where_121 : decode cX11_where 121 = .ok (.iconst 1, 1) := by decide +kernel
theorem dX11_where_122 : decode cX11_where 122 = .ok (.if_icmp .eq 5, 3) := by decide +kernel
theorem dX11_where_125 : decode cX11_where 125 = .ok (.iconst 0, 1) := by decide +kernel
theorem dX11_where_126 : decode cX11_where 126 = .ok (.ireturn, 1) := by decide +kernel
theorem dX11_where_127 : decode cX11_where 127 = .ok (.aload_n 0, 1) := by decide +kernel
theorem dX11_where_128 : decode cX11_where 128 = .ok (.invokevirtual 501, 3) := by decide +kernel
theorem dX11_where_131 : decode cX11_where 131 = .ok (.iconst 0, 1) := by decide +kernel
theorem dX11_where_132 : decode cX11_where 132 = .ok (.istore 8, 2) := by decide +kernel
theorem dX11_where_134 : decode cX11_where 134 = .ok (.iconst 0, 1) := by decide +kernel
theorem dX11_where_135 : decode cX11_where 135 = .ok (.istore 9, 2) := by decide +kernel
theorem dX11_where_137 : decode cX11_where 137 = .ok (.iload 9, 2) := by decide +kernel
theorem dX11_where_139 : decode cX11_where 139 = .ok (.bipush 16, 2) := by decide +kernel
theorem dX11_where_141 : decode cX11_where 141 = .ok (.if_icmp .ge 98, 3) := by decide +kernel
theorem dX11_where_144 : decode cX11_where 144 = .ok (.aload_n 0, 1) := by decide +kernel
theorem dX11_where_145 : decode cX11_where 145 = .ok (.getfield 175, 3) := by decide +kernel
theorem dX11_where_148 : decode cX11_where 148 = .ok (.bipush 16, 2) := by decide +kernel
theorem dX11_where_150 : decode cX11_where 150 = .ok (.iload 6, 2) := by decide +kernel
theorem dX11_where_152 : decode cX11_where 152 = .ok (.invokestatic 504, 3) := by decide +kernel
theorem dX11_where_155 : decode cX11_where 155 = .ok (.imul, 1) := by decide +kernel
theorem dX11_where_156 : decode cX11_where 156 = .ok (.iload 9, 2) := by decide +kernel
theorem dX11_where_158 : decode cX11_where 158 = .ok (.iadd, 1) := by decide +kernel
theorem dX11_where_159 : decode cX11_where 159 = .ok (.iaload, 1) := by decide +kernel
theorem dX11_where_160 : decode cX11_where 160 = .ok (.iload_n 2, 1) := by decide +kernel
theorem dX11_where_161 : decode cX11_where 161 = .ok (.iload 4, 2) := by decide +kernel
theorem dX11_where_163 : decode cX11_where 163 = .ok (.isub, 1) := by decide +kernel
theorem dX11_where_164 : decode cX11_where 164 = .ok (.if_icmp .gt 7, 3) := by decide +kernel
theorem dX11_where_167 : decode cX11_where 167 = .ok (.iconst 1, 1) := by decide +kernel
theorem dX11_where_168 : decode cX11_where 168 = .ok (.goto 4, 3) := by decide +kernel
theorem dX11_where_171 : decode cX11_where 171 = .ok (.iconst 0, 1) := by decide +kernel
theorem dX11_where_172 : decode cX11_where 172 = .ok (.istore 10, 2) := by decide +kernel
theorem dX11_where_174 : decode cX11_where 174 = .ok (.iload 5, 2) := by decide +kernel
theorem dX11_where_176 : decode cX11_where 176 = .ok (.iconst (-1), 1) := by decide +kernel
theorem dX11_where_177 : decode cX11_where 177 = .ok (.if_icmp .eq 38, 3) := by decide +kernel
theorem dX11_where_180 : decode cX11_where 180 = .ok (.iload 10, 2) := by decide +kernel
theorem dX11_where_182 : decode cX11_where 182 = .ok (.ifCond .eq 30, 3) := by decide +kernel
theorem dX11_where_185 : decode cX11_where 185 = .ok (.aload_n 0, 1) := by decide +kernel
theorem dX11_where_186 : decode cX11_where 186 = .ok (.getfield 175, 3) := by decide +kernel
theorem dX11_where_189 : decode cX11_where 189 = .ok (.bipush 16, 2) := by decide +kernel
theorem dX11_where_191 : decode cX11_where 191 = .ok (.iload 9, 2) := by decide +kernel
theorem dX11_where_193 : decode cX11_where 193 = .ok (.imul, 1) := by decide +kernel
theorem dX11_where_194 : decode cX11_where 194 = .ok (.iload 7, 2) := by decide +kernel
theorem dX11_where_196 : decode cX11_where 196 = .ok (.invokestatic 504, 3) := by decide +kernel
theorem dX11_where_199 : decode cX11_where 199 = .ok (.iadd, 1) := by decide +kernel
theorem dX11_where_200 : decode cX11_where 200 = .ok (.iaload, 1) := by decide +kernel
theorem dX11_where_201 : decode cX11_where 201 = .ok (.iload 5, 2) := by decide +kernel
theorem dX11_where_203 : decode cX11_where 203 = .ok (.iload_n 2, 1) := by decide +kernel
theorem dX11_where_204 : decode cX11_where 204 = .ok (.isub, 1) := by decide +kernel
theorem dX11_where_205 : decode cX11_where 205 = .ok (.if_icmp .gt 7, 3) := by decide +kernel
theorem dX11_where_208 : decode cX11_where 208 = .ok (.iconst 1, 1) := by decide +kernel
theorem dX11_where_209 : decode cX11_where 209 = .ok (.goto 4, 3) := by decide +kernel
theorem dX11_where_212 : decode cX11_where 212 = .ok (.iconst 0, 1) := by decide +kernel
theorem dX11_where_213 : decode cX11_where 213 = .ok (.istore 10, 2) := by decide +kernel
theorem dX11_where_215 : decode cX11_where 215 = .ok (.iload 8, 2) := by decide +kernel
theorem dX11_where_217 : decode cX11_where 217 = .ok (.iload 10, 2) := by decide +kernel
theorem dX11_where_219 : decode cX11_where 219 = .ok (.ifCond .eq 10, 3) := by decide +kernel
theorem dX11_where_222 : decode cX11_where 222 = .ok (.iconst 1, 1) := by decide +kernel
theorem dX11_where_223 : decode cX11_where 223 = .ok (.iload 9, 2) := by decide +kernel
theorem dX11_where_225 : decode cX11_where 225 = .ok (.ishl, 1) := by decide +kernel
theorem dX11_where_226 : decode cX11_where 226 = .ok (.goto 4, 3) := by decide +kernel
theorem dX11_where_229 : decode cX11_where 229 = .ok (.iconst 0, 1) := by decide +kernel
theorem dX11_where_230 : decode cX11_where 230 = .ok (.ior, 1) := by decide +kernel
theorem dX11_where_231 : decode cX11_where 231 = .ok (.istore 8, 2) := by decide +kernel
theorem dX11_where_233 : decode cX11_where 233 = .ok (.iinc 9 1, 3) := by decide +kernel
theorem dX11_where_236 : decode cX11_where 236 = .ok (.goto (-99), 3) := by decide +kernel
theorem dX11_where_239 : decode cX11_where 239 = .ok (.iload 8, 2) := by decide +kernel
theorem dX11_where_241 : decode cX11_where 241 = .ok (.ireturn, 1) := by decide +kernel
noncomputable def f11_where_j230 (v2_j230 : Int32) (v4_j230 : Int32) (v5_j230 : Int32) (v6_j230 : Int32) (v7_j230 : Int32) (v9_j230 : Int32) (k0_j230 : Int32) (k1_j230 : Int32) (s11_j230 : OS) : Option ((Int32 × Int32) ⊕ (Int32 × OS)) := nm ((k0_j230 ||| k1_j230)) fun n_231 => nm (v9_j230 + (1 : Int32)) fun n_233 => some (Sum.inl (n_231, n_233))
noncomputable def f11_where_j215 (v2_j215 : Int32) (v4_j215 : Int32) (v5_j215 : Int32) (v6_j215 : Int32) (v7_j215 : Int32) (v8_j215 : Int32) (v9_j215 : Int32) (v10_j215 : Int32) (s11_j215 : OS) : Option ((Int32 × Int32) ⊕ (Int32 × OS)) := if v10_j215 = 0 then (f11_where_j230 v2_j215 v4_j215 v5_j215 v6_j215 v7_j215 v9_j215 v8_j215 ((0 : Int32)) s11_j215) else (f11_where_j230 v2_j215 v4_j215 v5_j215 v6_j215 v7_j215 v9_j215 v8_j215 (((1 : Int32) <<< (v9_j215 &&& 31))) s11_j215)
noncomputable def f11_where_j213 (v2_j213 : Int32) (v4_j213 : Int32) (v5_j213 : Int32) (v6_j213 : Int32) (v7_j213 : Int32) (v8_j213 : Int32) (v9_j213 : Int32) (k0_j213 : Int32) (s11_j213 : OS) : Option ((Int32 × Int32) ⊕ (Int32 × OS)) := f11_where_j215 v2_j213 v4_j213 v5_j213 v6_j213 v7_j213 v8_j213 v9_j213 k0_j213 s11_j213
noncomputable def f11_where_j212 (v2_j212 : Int32) (v4_j212 : Int32) (v5_j212 : Int32) (v6_j212 : Int32) (v7_j212 : Int32) (v8_j212 : Int32) (v9_j212 : Int32) (s11_j212 : OS) : Option ((Int32 × Int32) ⊕ (Int32 × OS)) := f11_where_j213 v2_j212 v4_j212 v5_j212 v6_j212 v7_j212 v8_j212 v9_j212 ((0 : Int32)) s11_j212
noncomputable def f11_where_j172 (v2_j172 : Int32) (v4_j172 : Int32) (v5_j172 : Int32) (v6_j172 : Int32) (v7_j172 : Int32) (v8_j172 : Int32) (v9_j172 : Int32) (k0_j172 : Int32) (s11_j172 : OS) : Option ((Int32 × Int32) ⊕ (Int32 × OS)) := if v5_j172 = (-1 : Int32) then (f11_where_j215 v2_j172 v4_j172 v5_j172 v6_j172 v7_j172 v8_j172 v9_j172 k0_j172 s11_j172) else (if k0_j172 = 0 then (f11_where_j212 v2_j172 v4_j172 v5_j172 v6_j172 v7_j172 v8_j172 v9_j172 s11_j172) else (Option.bind (f11_placeOf v7_j172) fun q_196 => chk (inb ((((16 : Int32) * v9_j172) + q_196)) 256) (nm (s11_j172.1 79 ((((16 : Int32) * v9_j172) + q_196)).toNatClampNeg) fun y_200 => if (v5_j172 - v2_j172) < y_200 then (f11_where_j212 v2_j172 v4_j172 v5_j172 v6_j172 v7_j172 v8_j172 v9_j172 s11_j172) else (f11_where_j213 v2_j172 v4_j172 v5_j172 v6_j172 v7_j172 v8_j172 v9_j172 ((1 : Int32)) s11_j172))))
noncomputable def f11_where_l137 (v2_i137 : Int32) (v4_i137 : Int32) (v5_i137 : Int32) (v6_i137 : Int32) (v7_i137 : Int32) (s11_i137 : OS) : Int32 × Int32 → Option ((Int32 × Int32) ⊕ (Int32 × OS)) := fun t_137 => if (16 : Int32) ≤ t_137.2 then (Option.map Sum.inr (some (t_137.1, s11_i137))) else (Option.bind (f11_placeOf v6_i137) fun q_152 => chk (inb ((((16 : Int32) * q_152) + t_137.2)) 256) (nm (s11_i137.1 79 ((((16 : Int32) * q_152) + t_137.2)).toNatClampNeg) fun y_159 => if (v2_i137 - v4_i137) < y_159 then (f11_where_j172 v2_i137 v4_i137 v5_i137 v6_i137 v7_i137 t_137.1 t_137.2 ((0 : Int32)) s11_i137) else (f11_where_j172 v2_i137 v4_i137 v5_i137 v6_i137 v7_i137 t_137.1 t_137.2 ((1 : Int32)) s11_i137)))
noncomputable def f11_where_j127 (v2_j127 : Int32) (v4_j127 : Int32) (v5_j127 : Int32) (v6_j127 : Int32) (v7_j127 : Int32) (s11_j127 : OS) : Option (Int32 × OS) := Option.bind (f11_measures s11_j127) fun q_128 => loop (f11_where_l137 v2_j127 v4_j127 v5_j127 v6_j127 v7_j127 q_128) ((0 : Int32), (0 : Int32))
noncomputable def f11_where_j125 (s11_j125 : OS) : Option (Int32 × OS) := some ((0 : Int32), s11_j125)
noncomputable def f11_where_j99 (v2_j99 : Int32) (v4_j99 : Int32) (v5_j99 : Int32) (v6_j99 : Int32) (k0_j99 : Int32) (s11_j99 : OS) : Option (Int32 × OS) := Option.bind (f11_sizeOf v6_j99) fun q_103 => if q_103 = (1 : Int32) then (if v5_j99 = (-1 : Int32) then (f11_where_j127 v2_j99 v4_j99 v5_j99 v6_j99 k0_j99 s11_j99) else (Option.bind (f11_sizeOf k0_j99) fun q_118 => if q_118 = (1 : Int32) then (f11_where_j127 v2_j99 v4_j99 v5_j99 v6_j99 k0_j99 s11_j99) else (f11_where_j125 s11_j99))) else (f11_where_j125 s11_j99)
noncomputable def f11_where_j54 (k0_j54 : Int32) (s11_j54 : OS) : Option (Int32 × OS) := some (k0_j54, s11_j54)
noncomputable def f11_where_j28 (s11_j28 : OS) : Option (Int32 × OS) := some ((-1 : Int32), s11_j28)
noncomputable def f11_where (a1 : Int32) (a2 : Int32) (s11 : OS) : Option (Int32 × OS) := Option.bind (f11_isGift a1 s11) fun q_2 => if q_2 = 0 then (f11_where_j28 s11) else (chk (inb a1 40) (nm (s11.1 80 a1.toNatClampNeg) fun y_15 => Option.bind (f11_lies ((a2).toInt64) ((y_15).toInt64) (((s11.1 0 2)).toInt64)) fun q_22 => if q_22 = 0 then (f11_where_j28 s11) else (Option.bind (f11_toldOn a1 a2 s11) fun q_33 => if q_33 = 0 then (Option.bind (f11_toldDay a1 a2 ((1 : Int32)) s11) fun q_59 => Option.bind (f11_toldDay a1 a2 ((0 : Int32)) s11) fun q_68 => Option.bind (f11_toldOn a1 q_59 s11) fun q_77 => if q_68 = (-1 : Int32) then (f11_where_j99 a2 q_59 q_68 q_77 ((0 : Int32)) s11) else (Option.bind (f11_toldOn a1 q_68 s11) fun q_96 => f11_where_j99 a2 q_59 q_68 q_77 q_96 s11)) else (Option.bind (f11_sizeOf q_33) fun q_42 => if q_42 = (1 : Int32) then (f11_where_j54 q_33 s11) else (f11_where_j54 ((0 : Int32)) s11)))))
set_option maxHeartbeats 4000000 in
set_option maxRecDepth 100000 in
theorem m11_where (l : Launch) (D : va_G) (ad : Nat → Nat) (cy : Nat → ClassId) (sz : Nat) (s11 : OS) (a1 : Int32) (a2 : Int32) (r : Int32 × OS) (h : f11_where a1 a2 s11 = some r) : Met l yX11_where (wsOf yX11_where cX11_where 11 (some .int)) (rmL 2) (va_Pc ([.ref (ad 0), .int a1, .int a2] : List Value) (PreG D cy (cellsM ad cy s11) sz NM)) (QcI D ad 66 (cellsM ad cy r.2) (r.1) sz) 0 0 (Afr ad 66 sz) := by
  refine metG (own := RX11) (by decide) rfl (Nat.le_of_ble_eq_true rfl) fstM ?_ sz
  intro p e s m below meth c ls C0 hw hl
  obtain ⟨hx, hb, hml, hown, hts, hr, hlk, hK, hN⟩ := C0
  have hl : lv_has ls 11 [(0, .ref (ad 0)), (1, .int a1), (2, .int a2)] := hl
  generalize hQ : MQ below (QcI D ad 66 (cellsM ad cy r.2) (r.1) s.heap.size) ([.ref (ad 0), .int a1, .int a2] : List Value).toArray s 0 0 (Afr ad 66 s.heap.size) = Q
  obtain ⟨H, hH⟩ : ∃ H : Heap, H = s.heap := ⟨_, rfl⟩
  obtain ⟨locs, hlc⟩ : ∃ L : List Loc, L = [] := ⟨_, rfl⟩
  have hw : Wd D (cellsM ad cy s11) (Afr ad 66 s.heap.size) s.heap H locs := by rw [hH, hlc]; exact hw
  suffices h0 : W p l e (rmL 2) s m ([.ref (ad 0), .int a1, .int a2] : List Value).toArray below meth c H locs 0 0 Q (F0 m 0 ls []) by rw [hH, hlc] at h0; exact h0
  clear hH hlc
  unfold f11_where at h
  have hJ_127 : ∀ (v2_j127 : Int32) (v4_j127 : Int32) (v5_j127 : Int32) (v6_j127 : Int32) (v7_j127 : Int32) (s11_j127 : OS) (H : Heap) (locs : List Loc) (ls : Array Slot), f11_where_j127 v2_j127 v4_j127 v5_j127 v6_j127 v7_j127 s11_j127 = some r → Wd D (cellsM ad cy s11_j127) (Afr ad 66 s.heap.size) s.heap H locs → lv_has ls 11 [(0, .ref (ad 0)), (2, .int v2_j127), (4, .int v4_j127), (5, .int v5_j127), (6, .int v6_j127), (7, .int v7_j127)] → W p l e (rmL 2) s m ([.ref (ad 0), .int a1, .int a2] : List Value).toArray below meth c H locs 0 0 Q (F0 m 127 ls []) := by
    intro v2_j127 v4_j127 v5_j127 v6_j127 v7_j127 s11_j127 H locs ls h hw hl
    unfold f11_where_j127 at h
    refine lv_aload_n hx hb dX11_where_127 rfl (lv_at hl 0 rfl) ?_
    obtain ⟨q_128, h_128, h⟩ := bnd_e h
    have pg_128 := preG (av := [.ref (ad 0)]) hK hw.1 hw.2.1 NM_keep NM_blind
    refine endV (mc := 0) (ms := 0) (va_runV (As := []) (rest := []) ⟨hx, hb, hml, hown, hts⟩ (m11_measures l D ad cy H.size s11_j127 q_128 h_128) (wX11_501 0 hts ⟨Nat.le_of_ble_eq_true rfl, Nat.le_of_ble_eq_true rfl⟩) ⟨pg_128.1, va_recv hK hw.1 (ci := 11) (q0 := 0) rfl eM_0, pg_128.2⟩ rfl rfl hl.1 rfl (lv_room (Nat.le_of_ble_eq_true rfl)) dX11_where_128 ⟨Nat.le_refl _, Nat.le_refl _⟩) hw.2.2 (afr_in hw.2.2) (fun H locs hw => ?_)
    refine lv_iconst (v := 0) hx hb dX11_where_131 (by decide) ?_
    refine lv_istore (lv' := [(8, .int ((0 : Int32))), (0, .ref (ad 0)), (2, .int v2_j127), (4, .int v4_j127), (5, .int v5_j127), (6, .int v6_j127), (7, .int v7_j127)]) hx hb dX11_where_132 hl (by decide) rfl (fun ls hl => ?_)
    refine lv_iconst (v := 0) hx hb dX11_where_134 (by decide) ?_
    refine lv_istore (lv' := [(9, .int ((0 : Int32))), (8, .int ((0 : Int32))), (0, .ref (ad 0)), (2, .int v2_j127), (4, .int v4_j127), (5, .int v5_j127), (6, .int v6_j127), (7, .int v7_j127)]) hx hb dX11_where_135 hl (by decide) rfl (fun ls hl => ?_)
    obtain ⟨n_137, hn_137⟩ := loop_e h
    have hL_137 : ∀ (n : Nat) (t_137 : Int32 × Int32) (H : Heap) (locs : List Loc) (ls : Array Slot), loopN (f11_where_l137 v2_j127 v4_j127 v5_j127 v6_j127 v7_j127 q_128) n t_137 = some r → Wd D (cellsM ad cy q_128) (Afr ad 66 s.heap.size) s.heap H locs → lv_has ls 11 [(8, .int t_137.1), (9, .int t_137.2), (2, .int v2_j127), (4, .int v4_j127), (5, .int v5_j127), (6, .int v6_j127), (7, .int v7_j127), (0, .ref (ad 0))] → W p l e (rmL 2) s m ([.ref (ad 0), .int a1, .int a2] : List Value).toArray below meth c H locs 0 0 Q (F0 m 137 ls []) := by
      intro n
      induction n with
      | zero => intro t_137 H locs ls hn; cases hn
      | succ n ih_137 =>
        intro t_137 H locs ls hn hw hl
        obtain ⟨x_137, h, hx_137⟩ := loopN_e hn
        unfold f11_where_l137 at h
        have hJ_230 : ∀ (v9_j230 : Int32) (k0_j230 : Int32) (k1_j230 : Int32) (H : Heap) (locs : List Loc) (ls : Array Slot), f11_where_j230 v2_j127 v4_j127 v5_j127 v6_j127 v7_j127 v9_j230 k0_j230 k1_j230 q_128 = some x_137 → Wd D (cellsM ad cy q_128) (Afr ad 66 s.heap.size) s.heap H locs → lv_has ls 11 [(0, .ref (ad 0)), (2, .int v2_j127), (4, .int v4_j127), (5, .int v5_j127), (6, .int v6_j127), (7, .int v7_j127), (9, .int v9_j230)] → W p l e (rmL 2) s m ([.ref (ad 0), .int a1, .int a2] : List Value).toArray below meth c H locs 0 0 Q (F0 m 230 ls [.int k1_j230, .int k0_j230]) := by
          intro v9_j230 k0_j230 k1_j230 H locs ls h hw hl
          unfold f11_where_j230 at h
          refine lv_ior hx hb dX11_where_230 ?_
          obtain ⟨n_231, e_231, h⟩ := nam_e h
          refine topI e_231 ?_
          refine lv_istore (lv' := [(8, .int n_231), (0, .ref (ad 0)), (2, .int v2_j127), (4, .int v4_j127), (5, .int v5_j127), (6, .int v6_j127), (7, .int v7_j127), (9, .int v9_j230)]) hx hb dX11_where_231 hl (by decide) rfl (fun ls hl => ?_)
          obtain ⟨n_233, e_233, h⟩ := nam_e h
          refine lv_iinc (v := n_233) (lv' := [(9, .int n_233), (8, .int n_231), (0, .ref (ad 0)), (2, .int v2_j127), (4, .int v4_j127), (5, .int v5_j127), (6, .int v6_j127), (7, .int v7_j127)]) hx hb dX11_where_233 hl (k := 7) rfl (by rw [e_233]; rfl) (by decide) rfl (fun ls hl => ?_)
          refine lv_goto (tgt := 137) hx hb dX11_where_236 (by decide) ?_
          exact ih_137 (n_231, n_233) H locs ls (nx_l hx_137 h) hw (lv_sub hl [1, 0, 3, 4, 5, 6, 7, 2] rfl)
        have hJ_215 : ∀ (v8_j215 : Int32) (v9_j215 : Int32) (v10_j215 : Int32) (H : Heap) (locs : List Loc) (ls : Array Slot), f11_where_j215 v2_j127 v4_j127 v5_j127 v6_j127 v7_j127 v8_j215 v9_j215 v10_j215 q_128 = some x_137 → Wd D (cellsM ad cy q_128) (Afr ad 66 s.heap.size) s.heap H locs → lv_has ls 11 [(0, .ref (ad 0)), (2, .int v2_j127), (4, .int v4_j127), (5, .int v5_j127), (6, .int v6_j127), (7, .int v7_j127), (8, .int v8_j215), (9, .int v9_j215), (10, .int v10_j215)] → W p l e (rmL 2) s m ([.ref (ad 0), .int a1, .int a2] : List Value).toArray below meth c H locs 0 0 Q (F0 m 215 ls []) := by
          intro v8_j215 v9_j215 v10_j215 H locs ls h hw hl
          unfold f11_where_j215 at h
          refine lv_iload hx hb dX11_where_215 (lv_at hl 6 rfl) ?_
          refine lv_iload hx hb dX11_where_217 (lv_at hl 8 rfl) ?_
          refine lv_if_eq (tgt := 229) hx hb dX11_where_219 (by decide) (fun c_219 => ?_) (fun c_219 => ?_)
          · have h := ite_t c_219 h
            refine lv_iconst (v := 0) hx hb dX11_where_229 (by decide) ?_
            exact hJ_230 v9_j215 v8_j215 ((0 : Int32)) H locs ls h hw (lv_sub hl [0, 1, 2, 3, 4, 5, 7] rfl)
          · have h := ite_f c_219 h
            refine lv_iconst (v := 1) hx hb dX11_where_222 (by decide) ?_
            refine lv_iload hx hb dX11_where_223 (lv_at hl 7 rfl) ?_
            refine lv_ishl hx hb dX11_where_225 ?_
            refine lv_goto (tgt := 230) hx hb dX11_where_226 (by decide) ?_
            exact hJ_230 v9_j215 v8_j215 (((1 : Int32) <<< (v9_j215 &&& 31))) H locs ls h hw (lv_sub hl [0, 1, 2, 3, 4, 5, 7] rfl)
        have hJ_213 : ∀ (v8_j213 : Int32) (v9_j213 : Int32) (k0_j213 : Int32) (H : Heap) (locs : List Loc) (ls : Array Slot), f11_where_j213 v2_j127 v4_j127 v5_j127 v6_j127 v7_j127 v8_j213 v9_j213 k0_j213 q_128 = some x_137 → Wd D (cellsM ad cy q_128) (Afr ad 66 s.heap.size) s.heap H locs → lv_has ls 11 [(0, .ref (ad 0)), (2, .int v2_j127), (4, .int v4_j127), (5, .int v5_j127), (6, .int v6_j127), (7, .int v7_j127), (8, .int v8_j213), (9, .int v9_j213)] → W p l e (rmL 2) s m ([.ref (ad 0), .int a1, .int a2] : List Value).toArray below meth c H locs 0 0 Q (F0 m 213 ls [.int k0_j213]) := by
          intro v8_j213 v9_j213 k0_j213 H locs ls h hw hl
          unfold f11_where_j213 at h
          refine lv_istore (lv' := [(10, .int k0_j213), (0, .ref (ad 0)), (2, .int v2_j127), (4, .int v4_j127), (5, .int v5_j127), (6, .int v6_j127), (7, .int v7_j127), (8, .int v8_j213), (9, .int v9_j213)]) hx hb dX11_where_213 hl (by decide) rfl (fun ls hl => ?_)
          exact hJ_215 v8_j213 v9_j213 k0_j213 H locs ls h hw (lv_sub hl [1, 2, 3, 4, 5, 6, 7, 8, 0] rfl)
        have hJ_212 : ∀ (v8_j212 : Int32) (v9_j212 : Int32) (H : Heap) (locs : List Loc) (ls : Array Slot), f11_where_j212 v2_j127 v4_j127 v5_j127 v6_j127 v7_j127 v8_j212 v9_j212 q_128 = some x_137 → Wd D (cellsM ad cy q_128) (Afr ad 66 s.heap.size) s.heap H locs → lv_has ls 11 [(0, .ref (ad 0)), (2, .int v2_j127), (4, .int v4_j127), (5, .int v5_j127), (6, .int v6_j127), (7, .int v7_j127), (8, .int v8_j212), (9, .int v9_j212)] → W p l e (rmL 2) s m ([.ref (ad 0), .int a1, .int a2] : List Value).toArray below meth c H locs 0 0 Q (F0 m 212 ls []) := by
          intro v8_j212 v9_j212 H locs ls h hw hl
          unfold f11_where_j212 at h
          refine lv_iconst (v := 0) hx hb dX11_where_212 (by decide) ?_
          exact hJ_213 v8_j212 v9_j212 ((0 : Int32)) H locs ls h hw (lv_sub hl [0, 1, 2, 3, 4, 5, 6, 7] rfl)
        have hJ_172 : ∀ (v8_j172 : Int32) (v9_j172 : Int32) (k0_j172 : Int32) (H : Heap) (locs : List Loc) (ls : Array Slot), f11_where_j172 v2_j127 v4_j127 v5_j127 v6_j127 v7_j127 v8_j172 v9_j172 k0_j172 q_128 = some x_137 → Wd D (cellsM ad cy q_128) (Afr ad 66 s.heap.size) s.heap H locs → lv_has ls 11 [(0, .ref (ad 0)), (2, .int v2_j127), (4, .int v4_j127), (5, .int v5_j127), (6, .int v6_j127), (7, .int v7_j127), (8, .int v8_j172), (9, .int v9_j172)] → W p l e (rmL 2) s m ([.ref (ad 0), .int a1, .int a2] : List Value).toArray below meth c H locs 0 0 Q (F0 m 172 ls [.int k0_j172]) := by
          intro v8_j172 v9_j172 k0_j172 H locs ls h hw hl
          unfold f11_where_j172 at h
          refine lv_istore (lv' := [(10, .int k0_j172), (0, .ref (ad 0)), (2, .int v2_j127), (4, .int v4_j127), (5, .int v5_j127), (6, .int v6_j127), (7, .int v7_j127), (8, .int v8_j172), (9, .int v9_j172)]) hx hb dX11_where_172 hl (by decide) rfl (fun ls hl => ?_)
          refine lv_iload hx hb dX11_where_174 (lv_at hl 4 rfl) ?_
          refine lv_iconst (v := (-1)) hx hb dX11_where_176 (by decide) ?_
          refine lv_icmp_eq (tgt := 215) hx hb dX11_where_177 (by decide) (fun c_177 => ?_) (fun c_177 => ?_)
          · have h := ite_t c_177 h
            exact hJ_215 v8_j172 v9_j172 k0_j172 H locs ls h hw (lv_sub hl [1, 2, 3, 4, 5, 6, 7, 8, 0] rfl)
          · have h := ite_f c_177 h
            refine lv_iload hx hb dX11_where_180 (lv_at hl 0 rfl) ?_
            refine lv_if_eq (tgt := 212) hx hb dX11_where_182 (by decide) (fun c_182 => ?_) (fun c_182 => ?_)
            · have h := ite_t c_182 h
              exact hJ_212 v8_j172 v9_j172 H locs ls h hw (lv_sub hl [1, 2, 3, 4, 5, 6, 7, 8] rfl)
            · have h := ite_f c_182 h
              refine lv_aload_n hx hb dX11_where_185 rfl (lv_at hl 1 rfl) ?_
              refine gX11_175 hx hb hts hown hK hw dX11_where_186 ?_
              refine lv_bipush (v := 16) hx hb dX11_where_189 (by decide) ?_
              refine lv_iload hx hb dX11_where_191 (lv_at hl 8 rfl) ?_
              refine lv_imul hx hb dX11_where_193 ?_
              refine lv_iload hx hb dX11_where_194 (lv_at hl 6 rfl) ?_
              obtain ⟨q_196, h_196, h⟩ := bnd_e h
              have pg_196 := preG (av := [.int v7_j127]) hK hw.1 hw.2.1 NM_keep NM_blind
              refine endI (mc := 0) (ms := 0) (va_runS (As := [.int v7_j127]) (rest := [.int (((16 : Int32) * v9_j172)), .ref (ad 55)]) ⟨hx, hb, hml, hown, hts⟩ (m11_placeOf l D ad cy H.size q_128 v7_j127 q_196 h_196) (wX11_504 1 hts ⟨Nat.le_of_ble_eq_true rfl, Nat.le_of_ble_eq_true rfl⟩) pg_196 rfl rfl hl.1 rfl (lv_room (Nat.le_of_ble_eq_true rfl)) dX11_where_196 ⟨Nat.le_refl _, Nat.le_refl _⟩) hw.2.2 (afr_in hw.2.2) (fun H locs hw => ?_)
              refine lv_iadd hx hb dX11_where_199 ?_
              obtain ⟨hi_200, h⟩ := chk_e h
              obtain ⟨y_200, e_200, h⟩ := nam_e h
              refine lM55 hx hb hK hw hi_200 e_200 dX11_where_200 ?_
              refine lv_iload hx hb dX11_where_201 (lv_at hl 4 rfl) ?_
              refine lv_iload_n hx hb dX11_where_203 rfl (lv_at hl 2 rfl) ?_
              refine lv_isub hx hb dX11_where_204 ?_
              refine lv_icmp_gt (tgt := 212) hx hb dX11_where_205 (by decide) (fun c_205 => ?_) (fun c_205 => ?_)
              · have h := ite_t c_205 h
                exact hJ_212 v8_j172 v9_j172 H locs ls h hw (lv_sub hl [1, 2, 3, 4, 5, 6, 7, 8] rfl)
              · have h := ite_f c_205 h
                refine lv_iconst (v := 1) hx hb dX11_where_208 (by decide) ?_
                refine lv_goto (tgt := 213) hx hb dX11_where_209 (by decide) ?_
                exact hJ_213 v8_j172 v9_j172 ((1 : Int32)) H locs ls h hw (lv_sub hl [1, 2, 3, 4, 5, 6, 7, 8] rfl)
        refine lv_iload hx hb dX11_where_137 (lv_at hl 1 rfl) ?_
        refine lv_bipush (v := 16) hx hb dX11_where_139 (by decide) ?_
        refine lv_icmp_ge (tgt := 239) hx hb dX11_where_141 (by decide) (fun c_141 => ?_) (fun c_141 => ?_)
        · have h := ite_t c_141 h
          have h := nx_m hx_137 h
          refine lv_iload hx hb dX11_where_239 (lv_at hl 0 rfl) ?_
          have h := Option.some.inj h
          subst h
          rw [← hQ]
          exact retI hx hb hr hlk hw rfl dX11_where_241
        · have h := ite_f c_141 h
          refine lv_aload_n hx hb dX11_where_144 rfl (lv_at hl 7 rfl) ?_
          refine gX11_175 hx hb hts hown hK hw dX11_where_145 ?_
          refine lv_bipush (v := 16) hx hb dX11_where_148 (by decide) ?_
          refine lv_iload hx hb dX11_where_150 (lv_at hl 5 rfl) ?_
          obtain ⟨q_152, h_152, h⟩ := bnd_e h
          have pg_152 := preG (av := [.int v6_j127]) hK hw.1 hw.2.1 NM_keep NM_blind
          refine endI (mc := 0) (ms := 0) (va_runS (As := [.int v6_j127]) (rest := [.int ((16 : Int32)), .ref (ad 55)]) ⟨hx, hb, hml, hown, hts⟩ (m11_placeOf l D ad cy H.size q_128 v6_j127 q_152 h_152) (wX11_504 1 hts ⟨Nat.le_of_ble_eq_true rfl, Nat.le_of_ble_eq_true rfl⟩) pg_152 rfl rfl hl.1 rfl (lv_room (Nat.le_of_ble_eq_true rfl)) dX11_where_152 ⟨Nat.le_refl _, Nat.le_refl _⟩) hw.2.2 (afr_in hw.2.2) (fun H locs hw => ?_)
          refine lv_imul hx hb dX11_where_155 ?_
          refine lv_iload hx hb dX11_where_156 (lv_at hl 1 rfl) ?_
          refine lv_iadd hx hb dX11_where_158 ?_
          obtain ⟨hi_159, h⟩ := chk_e h
          obtain ⟨y_159, e_159, h⟩ := nam_e h
          refine lM55 hx hb hK hw hi_159 e_159 dX11_where_159 ?_
          refine lv_iload_n hx hb dX11_where_160 rfl (lv_at hl 2 rfl) ?_
          refine lv_iload hx hb dX11_where_161 (lv_at hl 3 rfl) ?_
          refine lv_isub hx hb dX11_where_163 ?_
          refine lv_icmp_gt (tgt := 171) hx hb dX11_where_164 (by decide) (fun c_164 => ?_) (fun c_164 => ?_)
          · have h := ite_t c_164 h
            refine lv_iconst (v := 0) hx hb dX11_where_171 (by decide) ?_
            exact hJ_172 t_137.1 t_137.2 ((0 : Int32)) H locs ls h hw (lv_sub hl [7, 2, 3, 4, 5, 6, 0, 1] rfl)
          · have h := ite_f c_164 h
            refine lv_iconst (v := 1) hx hb dX11_where_167 (by decide) ?_
            refine lv_goto (tgt := 172) hx hb dX11_where_168 (by decide) ?_
            exact hJ_172 t_137.1 t_137.2 ((1 : Int32)) H locs ls h hw (lv_sub hl [7, 2, 3, 4, 5, 6, 0, 1] rfl)
    exact hL_137 n_137 ((0 : Int32), (0 : Int32)) H locs ls hn_137 hw (lv_sub hl [1, 0, 3, 4, 5, 6, 7, 2] rfl)
  have hJ_125 : ∀ (s11_j125 : OS) (H : Heap) (locs : List Loc) (ls : Array Slot), f11_where_j125 s11_j125 = some r → Wd D (cellsM ad cy s11_j125) (Afr ad 66 s.heap.size) s.heap H locs → lv_has ls 11 [] → W p l e (rmL 2) s m ([.ref (ad 0), .int a1, .int a2] : List Value).toArray below meth c H locs 0 0 Q (F0 m 125 ls []) := by
    intro s11_j125 H locs ls h hw hl
    unfold f11_where_j125 at h
    refine lv_iconst (v := 0) hx hb dX11_where_125 (by decide) ?_
    have h := Option.some.inj h
    subst h
    rw [← hQ]
    exact retI hx hb hr hlk hw rfl dX11_where_126
  have hJ_99 : ∀ (v2_j99 : Int32) (v4_j99 : Int32) (v5_j99 : Int32) (v6_j99 : Int32) (k0_j99 : Int32) (s11_j99 : OS) (H : Heap) (locs : List Loc) (ls : Array Slot), f11_where_j99 v2_j99 v4_j99 v5_j99 v6_j99 k0_j99 s11_j99 = some r → Wd D (cellsM ad cy s11_j99) (Afr ad 66 s.heap.size) s.heap H locs → lv_has ls 11 [(0, .ref (ad 0)), (2, .int v2_j99), (4, .int v4_j99), (5, .int v5_j99), (6, .int v6_j99)] → W p l e (rmL 2) s m ([.ref (ad 0), .int a1, .int a2] : List Value).toArray below meth c H locs 0 0 Q (F0 m 99 ls [.int k0_j99]) := by
    intro v2_j99 v4_j99 v5_j99 v6_j99 k0_j99 s11_j99 H locs ls h hw hl
    unfold f11_where_j99 at h
    refine lv_istore (lv' := [(7, .int k0_j99), (0, .ref (ad 0)), (2, .int v2_j99), (4, .int v4_j99), (5, .int v5_j99), (6, .int v6_j99)]) hx hb dX11_where_99 hl (by decide) rfl (fun ls hl => ?_)
    refine lv_iload hx hb dX11_where_101 (lv_at hl 5 rfl) ?_
    obtain ⟨q_103, h_103, h⟩ := bnd_e h
    have pg_103 := preG (av := [.int v6_j99]) hK hw.1 hw.2.1 NM_keep NM_blind
    refine endI (mc := 0) (ms := 0) (va_runS (As := [.int v6_j99]) (rest := []) ⟨hx, hb, hml, hown, hts⟩ (m11_sizeOf l D ad cy H.size s11_j99 v6_j99 q_103 h_103) (wX11_408 0 hts ⟨Nat.le_of_ble_eq_true rfl, Nat.le_of_ble_eq_true rfl⟩) pg_103 rfl rfl hl.1 rfl (lv_room (Nat.le_of_ble_eq_true rfl)) dX11_where_103 ⟨Nat.le_refl _, Nat.le_refl _⟩) hw.2.2 (afr_in hw.2.2) (fun H locs hw => ?_)
    refine lv_iconst (v := 1) hx hb dX11_where_106 (by decide) ?_
    refine lv_icmp_ne (tgt := 125) hx hb dX11_where_107 (by decide) (fun c_107 => ?_) (fun c_107 => ?_)
    · have h := ite_f c_107 h
      exact hJ_125 s11_j99 H locs ls h hw (lv_sub hl [] rfl)
    · have h := ite_t c_107 h
      refine lv_iload hx hb dX11_where_110 (lv_at hl 4 rfl) ?_
      refine lv_iconst (v := (-1)) hx hb dX11_where_112 (by decide) ?_
      refine lv_icmp_eq (tgt := 127) hx hb dX11_where_113 (by decide) (fun c_113 => ?_) (fun c_113 => ?_)
      · have h := ite_t c_113 h
        exact hJ_127 v2_j99 v4_j99 v5_j99 v6_j99 k0_j99 s11_j99 H locs ls h hw (lv_sub hl [1, 2, 3, 4, 5, 0] rfl)
      · have h := ite_f c_113 h
        refine lv_iload hx hb dX11_where_116 (lv_at hl 0 rfl) ?_
        obtain ⟨q_118, h_118, h⟩ := bnd_e h
        have pg_118 := preG (av := [.int k0_j99]) hK hw.1 hw.2.1 NM_keep NM_blind
        refine endI (mc := 0) (ms := 0) (va_runS (As := [.int k0_j99]) (rest := []) ⟨hx, hb, hml, hown, hts⟩ (m11_sizeOf l D ad cy H.size s11_j99 k0_j99 q_118 h_118) (wX11_408 0 hts ⟨Nat.le_of_ble_eq_true rfl, Nat.le_of_ble_eq_true rfl⟩) pg_118 rfl rfl hl.1 rfl (lv_room (Nat.le_of_ble_eq_true rfl)) dX11_where_118 ⟨Nat.le_refl _, Nat.le_refl _⟩) hw.2.2 (afr_in hw.2.2) (fun H locs hw => ?_)
        refine lv_iconst (v := 1) hx hb dX11_where_121 (by decide) ?_
        refine lv_icmp_eq (tgt := 127) hx hb dX11_where_122 (by decide) (fun c_122 => ?_) (fun c_122 => ?_)
        · have h := ite_t c_122 h
          exact hJ_127 v2_j99 v4_j99 v5_j99 v6_j99 k0_j99 s11_j99 H locs ls h hw (lv_sub hl [1, 2, 3, 4, 5, 0] rfl)
        · have h := ite_f c_122 h
          exact hJ_125 s11_j99 H locs ls h hw (lv_sub hl [] rfl)
  have hJ_54 : ∀ (k0_j54 : Int32) (s11_j54 : OS) (H : Heap) (locs : List Loc) (ls : Array Slot), f11_where_j54 k0_j54 s11_j54 = some r → Wd D (cellsM ad cy s11_j54) (Afr ad 66 s.heap.size) s.heap H locs → lv_has ls 11 [] → W p l e (rmL 2) s m ([.ref (ad 0), .int a1, .int a2] : List Value).toArray below meth c H locs 0 0 Q (F0 m 54 ls [.int k0_j54]) := by
    intro k0_j54 s11_j54 H locs ls h hw hl
    unfold f11_where_j54 at h
    have h := Option.some.inj h
    subst h
    rw [← hQ]
    exact retI hx hb hr hlk hw rfl dX11_where_54
  have hJ_28 : ∀ (s11_j28 : OS) (H : Heap) (locs : List Loc) (ls : Array Slot), f11_where_j28 s11_j28 = some r → Wd D (cellsM ad cy s11_j28) (Afr ad 66 s.heap.size) s.heap H locs → lv_has ls 11 [] → W p l e (rmL 2) s m ([.ref (ad 0), .int a1, .int a2] : List Value).toArray below meth c H locs 0 0 Q (F0 m 28 ls []) := by
    intro s11_j28 H locs ls h hw hl
    unfold f11_where_j28 at h
    refine lv_iconst (v := (-1)) hx hb dX11_where_28 (by decide) ?_
    have h := Option.some.inj h
    subst h
    rw [← hQ]
    exact retI hx hb hr hlk hw rfl dX11_where_29
  refine lv_aload_n hx hb dX11_where_0 rfl (lv_at hl 0 rfl) ?_
  refine lv_iload_n hx hb dX11_where_1 rfl (lv_at hl 1 rfl) ?_
  obtain ⟨q_2, h_2, h⟩ := bnd_e h
  have pg_2 := preG (av := [.ref (ad 0), .int a1]) hK hw.1 hw.2.1 NM_keep NM_blind
  refine endI (mc := 0) (ms := 0) (va_runV (As := [.int a1]) (rest := []) ⟨hx, hb, hml, hown, hts⟩ (m11_isGift l D ad cy H.size s11 a1 q_2 h_2) (wX11_491 1 hts ⟨Nat.le_of_ble_eq_true rfl, Nat.le_of_ble_eq_true rfl⟩) ⟨pg_2.1, va_recv hK hw.1 (ci := 11) (q0 := 0) rfl eM_0, pg_2.2⟩ rfl rfl hl.1 rfl (lv_room (Nat.le_of_ble_eq_true rfl)) dX11_where_2 ⟨Nat.le_refl _, Nat.le_refl _⟩) hw.2.2 (afr_in hw.2.2) (fun H locs hw => ?_)
  refine lv_if_eq (tgt := 28) hx hb dX11_where_5 (by decide) (fun c_5 => ?_) (fun c_5 => ?_)
  · have h := ite_t c_5 h
    exact hJ_28 s11 H locs ls h hw (lv_sub hl [] rfl)
  · have h := ite_f c_5 h
    refine lv_iload_n hx hb dX11_where_8 rfl (lv_at hl 2 rfl) ?_
    refine lv_i2l hx hb dX11_where_9 rfl ?_
    refine lv_aload_n hx hb dX11_where_10 rfl (lv_at hl 0 rfl) ?_
    refine gX11_178 hx hb hts hown hK hw dX11_where_11 ?_
    refine lv_iload_n hx hb dX11_where_14 rfl (lv_at hl 1 rfl) ?_
    obtain ⟨hi_15, h⟩ := chk_e h
    obtain ⟨y_15, e_15, h⟩ := nam_e h
    refine lM56 hx hb hK hw hi_15 e_15 dX11_where_15 ?_
    refine lv_i2l hx hb dX11_where_16 rfl ?_
    refine lv_aload_n hx hb dX11_where_17 rfl (lv_at hl 0 rfl) ?_
    refine gX11_225 hx hb hts hown hK hw dX11_where_18 ?_
    refine lv_i2l hx hb dX11_where_21 rfl ?_
    obtain ⟨q_22, h_22, h⟩ := bnd_e h
    have pg_22 := preG (av := [.long ((a2).toInt64), .long ((y_15).toInt64), .long (((s11.1 0 2)).toInt64)]) hK hw.1 hw.2.1 NM_keep NM_blind
    refine endI (mc := 0) (ms := 0) (va_runS (As := [.long ((a2).toInt64), .long ((y_15).toInt64), .long (((s11.1 0 2)).toInt64)]) (rest := []) ⟨hx, hb, hml, hown, hts⟩ (m11_lies l D ad cy H.size s11 ((a2).toInt64) ((y_15).toInt64) (((s11.1 0 2)).toInt64) q_22 h_22) (wX11_215 0 hts ⟨Nat.le_of_ble_eq_true rfl, Nat.le_of_ble_eq_true rfl⟩) pg_22 rfl rfl hl.1 rfl (lv_room (Nat.le_of_ble_eq_true rfl)) dX11_where_22 ⟨Nat.le_refl _, Nat.le_refl _⟩) hw.2.2 (afr_in hw.2.2) (fun H locs hw => ?_)
    refine lv_if_ne (tgt := 30) hx hb dX11_where_25 (by decide) (fun c_25 => ?_) (fun c_25 => ?_)
    · have h := ite_f c_25 h
      refine lv_aload_n hx hb dX11_where_30 rfl (lv_at hl 0 rfl) ?_
      refine lv_iload_n hx hb dX11_where_31 rfl (lv_at hl 1 rfl) ?_
      refine lv_iload_n hx hb dX11_where_32 rfl (lv_at hl 2 rfl) ?_
      obtain ⟨q_33, h_33, h⟩ := bnd_e h
      have pg_33 := preG (av := [.ref (ad 0), .int a1, .int a2]) hK hw.1 hw.2.1 NM_keep NM_blind
      refine endI (mc := 0) (ms := 0) (va_runV (As := [.int a1, .int a2]) (rest := []) ⟨hx, hb, hml, hown, hts⟩ (m11_toldOn l D ad cy H.size s11 a1 a2 q_33 h_33) (wX11_494 0 hts ⟨Nat.le_of_ble_eq_true rfl, Nat.le_of_ble_eq_true rfl⟩) ⟨pg_33.1, va_recv hK hw.1 (ci := 11) (q0 := 0) rfl eM_0, pg_33.2⟩ rfl rfl hl.1 rfl (lv_room (Nat.le_of_ble_eq_true rfl)) dX11_where_33 ⟨Nat.le_refl _, Nat.le_refl _⟩) hw.2.2 (afr_in hw.2.2) (fun H locs hw => ?_)
      refine lv_istore_n (lv' := [(3, .int q_33), (0, .ref (ad 0)), (1, .int a1), (2, .int a2)]) hx hb dX11_where_36 rfl hl (by decide) rfl (fun ls hl => ?_)
      refine lv_iload_n hx hb dX11_where_37 rfl (lv_at hl 0 rfl) ?_
      refine lv_if_eq (tgt := 55) hx hb dX11_where_38 (by decide) (fun c_38 => ?_) (fun c_38 => ?_)
      · have h := ite_t c_38 h
        refine lv_aload_n hx hb dX11_where_55 rfl (lv_at hl 1 rfl) ?_
        refine lv_iload_n hx hb dX11_where_56 rfl (lv_at hl 2 rfl) ?_
        refine lv_iload_n hx hb dX11_where_57 rfl (lv_at hl 3 rfl) ?_
        refine lv_iconst (v := 1) hx hb dX11_where_58 (by decide) ?_
        obtain ⟨q_59, h_59, h⟩ := bnd_e h
        have pg_59 := preG (av := [.ref (ad 0), .int a1, .int a2, .int ((1 : Int32))]) hK hw.1 hw.2.1 NM_keep NM_blind
        refine endI (mc := 0) (ms := 0) (va_runV (As := [.int a1, .int a2, .int ((1 : Int32))]) (rest := []) ⟨hx, hb, hml, hown, hts⟩ (m11_toldDay l D ad cy H.size s11 a1 a2 ((1 : Int32)) q_59 h_59) (wX11_497 0 hts ⟨Nat.le_of_ble_eq_true rfl, Nat.le_of_ble_eq_true rfl⟩) ⟨pg_59.1, va_recv hK hw.1 (ci := 11) (q0 := 0) rfl eM_0, pg_59.2⟩ rfl rfl hl.1 rfl (lv_room (Nat.le_of_ble_eq_true rfl)) dX11_where_59 ⟨Nat.le_refl _, Nat.le_refl _⟩) hw.2.2 (afr_in hw.2.2) (fun H locs hw => ?_)
        refine lv_istore (lv' := [(4, .int q_59), (3, .int q_33), (0, .ref (ad 0)), (1, .int a1), (2, .int a2)]) hx hb dX11_where_62 hl (by decide) rfl (fun ls hl => ?_)
        refine lv_aload_n hx hb dX11_where_64 rfl (lv_at hl 2 rfl) ?_
        refine lv_iload_n hx hb dX11_where_65 rfl (lv_at hl 3 rfl) ?_
        refine lv_iload_n hx hb dX11_where_66 rfl (lv_at hl 4 rfl) ?_
        refine lv_iconst (v := 0) hx hb dX11_where_67 (by decide) ?_
        obtain ⟨q_68, h_68, h⟩ := bnd_e h
        have pg_68 := preG (av := [.ref (ad 0), .int a1, .int a2, .int ((0 : Int32))]) hK hw.1 hw.2.1 NM_keep NM_blind
        refine endI (mc := 0) (ms := 0) (va_runV (As := [.int a1, .int a2, .int ((0 : Int32))]) (rest := []) ⟨hx, hb, hml, hown, hts⟩ (m11_toldDay l D ad cy H.size s11 a1 a2 ((0 : Int32)) q_68 h_68) (wX11_497 0 hts ⟨Nat.le_of_ble_eq_true rfl, Nat.le_of_ble_eq_true rfl⟩) ⟨pg_68.1, va_recv hK hw.1 (ci := 11) (q0 := 0) rfl eM_0, pg_68.2⟩ rfl rfl hl.1 rfl (lv_room (Nat.le_of_ble_eq_true rfl)) dX11_where_68 ⟨Nat.le_refl _, Nat.le_refl _⟩) hw.2.2 (afr_in hw.2.2) (fun H locs hw => ?_)
        refine lv_istore (lv' := [(5, .int q_68), (4, .int q_59), (3, .int q_33), (0, .ref (ad 0)), (1, .int a1), (2, .int a2)]) hx hb dX11_where_71 hl (by decide) rfl (fun ls hl => ?_)
        refine lv_aload_n hx hb dX11_where_73 rfl (lv_at hl 3 rfl) ?_
        refine lv_iload_n hx hb dX11_where_74 rfl (lv_at hl 4 rfl) ?_
        refine lv_iload hx hb dX11_where_75 (lv_at hl 1 rfl) ?_
        obtain ⟨q_77, h_77, h⟩ := bnd_e h
        have pg_77 := preG (av := [.ref (ad 0), .int a1, .int q_59]) hK hw.1 hw.2.1 NM_keep NM_blind
        refine endI (mc := 0) (ms := 0) (va_runV (As := [.int a1, .int q_59]) (rest := []) ⟨hx, hb, hml, hown, hts⟩ (m11_toldOn l D ad cy H.size s11 a1 q_59 q_77 h_77) (wX11_494 0 hts ⟨Nat.le_of_ble_eq_true rfl, Nat.le_of_ble_eq_true rfl⟩) ⟨pg_77.1, va_recv hK hw.1 (ci := 11) (q0 := 0) rfl eM_0, pg_77.2⟩ rfl rfl hl.1 rfl (lv_room (Nat.le_of_ble_eq_true rfl)) dX11_where_77 ⟨Nat.le_refl _, Nat.le_refl _⟩) hw.2.2 (afr_in hw.2.2) (fun H locs hw => ?_)
        refine lv_istore (lv' := [(6, .int q_77), (5, .int q_68), (4, .int q_59), (3, .int q_33), (0, .ref (ad 0)), (1, .int a1), (2, .int a2)]) hx hb dX11_where_80 hl (by decide) rfl (fun ls hl => ?_)
        refine lv_iload hx hb dX11_where_82 (lv_at hl 1 rfl) ?_
        refine lv_iconst (v := (-1)) hx hb dX11_where_84 (by decide) ?_
        refine lv_icmp_ne (tgt := 92) hx hb dX11_where_85 (by decide) (fun c_85 => ?_) (fun c_85 => ?_)
        · have h := ite_f c_85 h
          refine lv_aload_n hx hb dX11_where_92 rfl (lv_at hl 4 rfl) ?_
          refine lv_iload_n hx hb dX11_where_93 rfl (lv_at hl 5 rfl) ?_
          refine lv_iload hx hb dX11_where_94 (lv_at hl 1 rfl) ?_
          obtain ⟨q_96, h_96, h⟩ := bnd_e h
          have pg_96 := preG (av := [.ref (ad 0), .int a1, .int q_68]) hK hw.1 hw.2.1 NM_keep NM_blind
          refine endI (mc := 0) (ms := 0) (va_runV (As := [.int a1, .int q_68]) (rest := []) ⟨hx, hb, hml, hown, hts⟩ (m11_toldOn l D ad cy H.size s11 a1 q_68 q_96 h_96) (wX11_494 0 hts ⟨Nat.le_of_ble_eq_true rfl, Nat.le_of_ble_eq_true rfl⟩) ⟨pg_96.1, va_recv hK hw.1 (ci := 11) (q0 := 0) rfl eM_0, pg_96.2⟩ rfl rfl hl.1 rfl (lv_room (Nat.le_of_ble_eq_true rfl)) dX11_where_96 ⟨Nat.le_refl _, Nat.le_refl _⟩) hw.2.2 (afr_in hw.2.2) (fun H locs hw => ?_)
          exact hJ_99 a2 q_59 q_68 q_77 q_96 s11 H locs ls h hw (lv_sub hl [4, 6, 2, 1, 0] rfl)
        · have h := ite_t c_85 h
          refine lv_iconst (v := 0) hx hb dX11_where_88 (by decide) ?_
          refine lv_goto (tgt := 99) hx hb dX11_where_89 (by decide) ?_
          exact hJ_99 a2 q_59 q_68 q_77 ((0 : Int32)) s11 H locs ls h hw (lv_sub hl [4, 6, 2, 1, 0] rfl)
      · have h := ite_f c_38 h
        refine lv_iload_n hx hb dX11_where_41 rfl (lv_at hl 0 rfl) ?_
        obtain ⟨q_42, h_42, h⟩ := bnd_e h
        have pg_42 := preG (av := [.int q_33]) hK hw.1 hw.2.1 NM_keep NM_blind
        refine endI (mc := 0) (ms := 0) (va_runS (As := [.int q_33]) (rest := []) ⟨hx, hb, hml, hown, hts⟩ (m11_sizeOf l D ad cy H.size s11 q_33 q_42 h_42) (wX11_408 0 hts ⟨Nat.le_of_ble_eq_true rfl, Nat.le_of_ble_eq_true rfl⟩) pg_42 rfl rfl hl.1 rfl (lv_room (Nat.le_of_ble_eq_true rfl)) dX11_where_42 ⟨Nat.le_refl _, Nat.le_refl _⟩) hw.2.2 (afr_in hw.2.2) (fun H locs hw => ?_)
        refine lv_iconst (v := 1) hx hb dX11_where_45 (by decide) ?_
        refine lv_icmp_ne (tgt := 53) hx hb dX11_where_46 (by decide) (fun c_46 => ?_) (fun c_46 => ?_)
        · have h := ite_f c_46 h
          refine lv_iconst (v := 0) hx hb dX11_where_53 (by decide) ?_
          exact hJ_54 ((0 : Int32)) s11 H locs ls h hw (lv_sub hl [] rfl)
        · have h := ite_t c_46 h
          refine lv_iload_n hx hb dX11_where_49 rfl (lv_at hl 0 rfl) ?_
          refine lv_goto (tgt := 54) hx hb dX11_where_50 (by decide) ?_
          exact hJ_54 q_33 s11 H locs ls h hw (lv_sub hl [] rfl)
    · have h := ite_t c_25 h
      exact hJ_28 s11 H locs ls h hw (lv_sub hl [] rfl)
