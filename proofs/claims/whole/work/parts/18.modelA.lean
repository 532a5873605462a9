theorem dX11_lies_0 : decode cX11_lies 0 = .ok (.lload_n 0, 1) := by decide +kernel
theorem dX11_lies_1 : decode cX11_lies 1 = .ok (.lload_n 2, 1) := by decide +kernel
theorem dX11_lies_2 : decode cX11_lies 2 = .ok (.lcmp, 1) := by decide +kernel
theorem dX11_lies_3 : decode cX11_lies 3 = .ok (.ifCond .lt 14, 3) := by decide +kernel
theorem dX11_lies_6 : decode cX11_lies 6 = .ok (.lload_n 0, 1) := by decide +kernel
theorem dX11_lies_7 : decode cX11_lies 7 = .ok (.lload 4, 2) := by decide +kernel
theorem dX11_lies_9 : decode cX11_lies 9 = .ok (.lcmp, 1) := by decide +kernel
theorem dX11_lies_10 : decode cX11_lies 10 = .ok (.ifCond .gt 7, 3) := by decide +kernel
theorem dX11_lies_13 : decode cX11_lies 13 = .ok (.iconst 1, 1) := by decide +kernel
theorem dX11_lies_14 : decode cX11_lies 14 = .ok (.goto 4, 3) := by decide +kernel
theorem dX11_lies_17 : decode cX11_lies 17 = .ok (.iconst 0, 1) := by decide +kernel
theorem dX11_lies_18 : decode cX11_lies 18 = .ok (.ireturn, 1) := by decide +kernel
def f11_lies_j18 (k0_j18 : Int32) : Option (Int32) := chk (isB k0_j18) (some k0_j18)
def f11_lies_j17  : Option (Int32) := f11_lies_j18 ((0 : Int32))
def f11_lies (a0 : Int64) (a2 : Int64) (a4 : Int64) : Option (Int32) := if (lg_cmp a0 a2) < 0 then f11_lies_j17 else (if 0 < (lg_cmp a0 a4) then f11_lies_j17 else (f11_lies_j18 ((1 : Int32))))
set_option maxHeartbeats 4000000 in
set_option maxRecDepth 100000 in
theorem m11_lies (l : Launch) (D : va_G) (ad : Nat → Nat) (cy : Nat → ClassId) (sz : Nat) (s11 : OS) (a0 : Int64) (a2 : Int64) (a4 : Int64) (r : Int32) (h : f11_lies a0 a2 a4 = some r) : Met l yX11_lies (wsOf yX11_lies cX11_lies 6 (some .boolean)) (rmL 0) (va_Pc ([.long a0, .long a2, .long a4] : List Value) (PreG D cy (cellsM ad cy s11) sz NM)) (QcI D ad 66 (cellsM ad cy s11) (r) sz) 0 0 (Afr ad 66 sz) := by
  refine metG (own := RX11) (by decide) rfl (Nat.le_of_ble_eq_true rfl) fstM ?_ sz
  intro p e s m below meth c ls C0 hw hl
  obtain ⟨hx, hb, hml, hown, hts, hr, hlk, hK, hN⟩ := C0
  have hl : lv_has ls 6 [(0, .long a0), (2, .long a2), (4, .long a4)] := hl
  generalize hQ : MQ below (QcI D ad 66 (cellsM ad cy s11) (r) s.heap.size) ([.long a0, .long a2, .long a4] : List Value).toArray s 0 0 (Afr ad 66 s.heap.size) = Q
  obtain ⟨H, hH⟩ : ∃ H : Heap, H = s.heap := ⟨_, rfl⟩
  obtain ⟨locs, hlc⟩ : ∃ L : List Loc, L = [] := ⟨_, rfl⟩
  have hw : Wd D (cellsM ad cy s11) (Afr ad 66 s.heap.size) s.heap H locs := by rw [hH, hlc]; exact hw
  suffices h0 : W p l e (rmL 0) s m ([.long a0, .long a2, .long a4] : List Value).toArray below meth c H locs 0 0 Q (F0 m 0 ls []) by rw [hH, hlc] at h0; exact h0
  clear hH hlc
  unfold f11_lies at h
  have hJ_18 : ∀ (k0_j18 : Int32) (H : Heap) (locs : List Loc) (ls : Array Slot), f11_lies_j18 k0_j18 = some r → Wd D (cellsM ad cy s11) (Afr ad 66 s.heap.size) s.heap H locs → lv_has ls 6 [] → W p l e (rmL 0) s m ([.long a0, .long a2, .long a4] : List Value).toArray below meth c H locs 0 0 Q (F0 m 18 ls [.int k0_j18]) := by
    intro k0_j18 H locs ls h hw hl
    unfold f11_lies_j18 at h
    obtain ⟨hz_18, h⟩ := chk_e h
    have h := Option.some.inj h
    subst h
    rw [← hQ]
    exact retI hx hb hr hlk hw (narB hz_18) dX11_lies_18
  have hJ_17 : ∀  (H : Heap) (locs : List Loc) (ls : Array Slot), f11_lies_j17 = some r → Wd D (cellsM ad cy s11) (Afr ad 66 s.heap.size) s.heap H locs → lv_has ls 6 [] → W p l e (rmL 0) s m ([.long a0, .long a2, .long a4] : List Value).toArray below meth c H locs 0 0 Q (F0 m 17 ls []) := by
    intro  H locs ls h hw hl
    unfold f11_lies_j17 at h
    refine lv_iconst (v := 0) hx hb dX11_lies_17 (by decide) ?_
    exact hJ_18 ((0 : Int32)) H locs ls h hw (lv_sub hl [] rfl)
  refine lv_lload_n hx hb dX11_lies_0 rfl (lv_at hl 0 rfl) ?_
  refine lv_lload_n hx hb dX11_lies_1 rfl (lv_at hl 1 rfl) ?_
  refine W.lcmp hx hb dX11_lies_2 ?_
  refine lv_if_lt (tgt := 17) hx hb dX11_lies_3 (by decide) (fun c_3 => ?_) (fun c_3 => ?_)
  · have h := ite_t c_3 h
    exact hJ_17  H locs ls h hw (lv_sub hl [] rfl)
  · have h := ite_f c_3 h
    refine lv_lload_n hx hb dX11_lies_6 rfl (lv_at hl 0 rfl) ?_
    refine lv_lload hx hb dX11_lies_7 (lv_at hl 2 rfl) ?_
    refine W.lcmp hx hb dX11_lies_9 ?_
    refine lv_if_gt (tgt := 17) hx hb dX11_lies_10 (by decide) (fun c_10 => ?_) (fun c_10 => ?_)
    · have h := ite_t c_10 h
      exact hJ_17  H locs ls h hw (lv_sub hl [] rfl)
    · have h := ite_f c_10 h
      refine lv_iconst (v := 1) hx hb dX11_lies_13 (by decide) ?_
      refine lv_goto (tgt := 18) hx hb dX11_lies_14 (by decide) ?_
      exact hJ_18 ((1 : Int32)) H locs ls h hw (lv_sub hl [] rfl)
theorem dX11_isBits_0 : decode cX11_isBits 0 = .ok (.iload_n 0, 1) := by decide +kernel
theorem dX11_isBits_1 : decode cX11_isBits 1 = .ok (.i2l, 1) := by decide +kernel
theorem dX11_isBits_2 : decode cX11_isBits 2 = .ok (.lconst 0, 1) := by decide +kernel
theorem dX11_isBits_3 : decode cX11_isBits 3 = .ok (.ldc2_w 219, 3) := by decide +kernel
theorem dX11_isBits_6 : decode cX11_isBits 6 = .ok (.invokestatic 215, 3) := by decide +kernel
theorem dX11_isBits_9 : decode cX11_isBits 9 = .ok (.ireturn, 1) := by decide +kernel
def f11_isBits (a0 : Int32) : Option (Int32) := Option.bind (f11_lies ((a0).toInt64) ((0 : Int64)) ((65535 : Int64))) fun q_6 => chk (isB q_6) (some q_6)
set_option maxHeartbeats 4000000 in
set_option maxRecDepth 100000 in
theorem m11_isBits (l : Launch) (D : va_G) (ad : Nat → Nat) (cy : Nat → ClassId) (sz : Nat) (s11 : OS) (a0 : Int32) (r : Int32) (h : f11_isBits a0 = some r) : Met l yX11_isBits (wsOf yX11_isBits cX11_isBits 1 (some .boolean)) (rmL 1) (va_Pc ([.int a0] : List Value) (PreG D cy (cellsM ad cy s11) sz NM)) (QcI D ad 66 (cellsM ad cy s11) (r) sz) 0 0 (Afr ad 66 sz) := by
  refine metG (own := RX11) (by decide) rfl (Nat.le_of_ble_eq_true rfl) fstM ?_ sz
  intro p e s m below meth c ls C0 hw hl
  obtain ⟨hx, hb, hml, hown, hts, hr, hlk, hK, hN⟩ := C0
  have hl : lv_has ls 1 [(0, .int a0)] := hl
  generalize hQ : MQ below (QcI D ad 66 (cellsM ad cy s11) (r) s.heap.size) ([.int a0] : List Value).toArray s 0 0 (Afr ad 66 s.heap.size) = Q
  obtain ⟨H, hH⟩ : ∃ H : Heap, H = s.heap := ⟨_, rfl⟩
  obtain ⟨locs, hlc⟩ : ∃ L : List Loc, L = [] := ⟨_, rfl⟩
  have hw : Wd D (cellsM ad cy s11) (Afr ad 66 s.heap.size) s.heap H locs := by rw [hH, hlc]; exact hw
  suffices h0 : W p l e (rmL 1) s m ([.int a0] : List Value).toArray below meth c H locs 0 0 Q (F0 m 0 ls []) by rw [hH, hlc] at h0; exact h0
  clear hH hlc
  unfold f11_isBits at h
  refine lv_iload_n hx hb dX11_isBits_0 rfl (lv_at hl 0 rfl) ?_
  refine lv_i2l hx hb dX11_isBits_1 rfl ?_
  refine lv_lconst (v := 0) hx hb dX11_isBits_2 (by decide) ?_
  refine lv_ldc2 (v := 65535) hx hb hown (hts _ (wd_7 (w := .constantLong RX11 219 65535) (i := 100) (by decide +kernel) rfl)) dX11_isBits_3 ?_
  obtain ⟨q_6, h_6, h⟩ := bnd_e h
  have pg_6 := preG (av := [.long ((a0).toInt64), .long ((0 : Int64)), .long ((65535 : Int64))]) hK hw.1 hw.2.1 NM_keep NM_blind
  refine endI (mc := 0) (ms := 0) (va_runS (As := [.long ((a0).toInt64), .long ((0 : Int64)), .long ((65535 : Int64))]) (rest := []) ⟨hx, hb, hml, hown, hts⟩ (m11_lies l D ad cy H.size s11 ((a0).toInt64) ((0 : Int64)) ((65535 : Int64)) q_6 h_6) (wX11_215 0 hts ⟨Nat.le_of_ble_eq_true rfl, Nat.le_of_ble_eq_true rfl⟩) pg_6 rfl rfl hl.1 rfl (lv_room (Nat.le_of_ble_eq_true rfl)) dX11_isBits_6 ⟨Nat.le_refl _, Nat.le_refl _⟩) hw.2.2 (afr_in hw.2.2) (fun H locs hw => ?_)
  obtain ⟨hz_9, h⟩ := chk_e h
  have h := Option.some.inj h
  subst h
  rw [← hQ]
  exact retI hx hb hr hlk hw (narB hz_9) dX11_isBits_9
theorem dX11_ask_0 : decode cX11_ask 0 = .ok (.aload_n 0, 1) := by decide +kernel
theorem dX11_ask_1 : decode cX11_ask 1 = .ok (.getfield 507, 3) := by decide +kernel
theorem dX11_ask_4 : decode cX11_ask 4 = .ok (.bipush 6, 2) := by decide +kernel
theorem dX11_ask_6 : decode cX11_ask 6 = .ok (.if_icmp .eq 34, 3) := by decide +kernel
theorem dX11_ask_9 : decode cX11_ask 9 = .ok (.iload_n 1, 1) := by decide +kernel
theorem dX11_ask_10 : decode cX11_ask 10 = .ok (.i2l, 1) := by decide +kernel
theorem dX11_ask_11 : decode cX11_ask 11 = .ok (.lconst 1, 1) := by decide +kernel
theorem dX11_ask_12 : decode cX11_ask 12 = .ok (.ldc2_w 257, 3) := by decide +kernel
theorem dX11_ask_15 : decode cX11_ask 15 = .ok (.invokestatic 215, 3) := by decide +kernel
theorem dX11_ask_18 : decode cX11_ask 18 = .ok (.ifCond .eq 22, 3) := by decide +kernel
theorem dX11_ask_21 : decode cX11_ask 21 = .ok (.iload_n 2, 1) := by decide +kernel
theorem dX11_ask_22 : decode cX11_ask 22 = .ok (.i2l, 1) := by decide +kernel
theorem dX11_ask_23 : decode cX11_ask 23 = .ok (.lconst 1, 1) := by decide +kernel
theorem dX11_ask_24 : decode cX11_ask 24 = .ok (.ldc2_w 441, 3) := by decide +kernel
theorem dX11_ask_27 : decode cX11_ask 27 = .ok (.invokestatic 215, 3) := by decide +kernel
theorem dX11_ask_30 : decode cX11_ask 30 = .ok (.ifCond .eq 10, 3) := by decide +kernel
theorem dX11_ask_33 : decode cX11_ask 33 = .ok (.iload_n 3, 1) := by decide +kernel
theorem dX11_ask_34 : decode cX11_ask 34 = .ok (.invokestatic 248, 3) := by decide +kernel
theorem dX11_ask_37 : decode cX11_ask 37 = .ok (.ifCond .ne 5, 3) := by decide +kernel
theorem dX11_ask_40 : decode cX11_ask 40 = .ok (.iconst (-1), 1) := by decide +kernel
theorem dX11_ask_41 : decode cX11_ask 41 = .ok (.ireturn, 1) := by decide +kernel
theorem dX11_ask_42 : decode cX11_ask 42 = .ok (.aload_n 0, 1) := by decide +kernel
theorem dX11_ask_43 : decode cX11_ask 43 = .ok (.getfield 193, 3) := by decide +kernel
theorem dX11_ask_46 : decode cX11_ask 46 = .ok (.aload_n 0, 1) := by decide +kernel
theorem dX11_ask_47 : decode cX11_ask 47 = .ok (.getfield 507, 3) := by decide +kernel
theorem dX11_ask_50 : decode cX11_ask 50 = .ok (.iload_n 1, 1) := by decide +kernel
theorem dX11_ask_51 : decode cX11_ask 51 = .ok (.iastore, 1) := by decide +kernel
theorem dX11_ask_52 : decode cX11_ask 52 = .ok (.aload_n 0, 1) := by decide +kernel
theorem dX11_ask_53 : decode cX11_ask 53 = .ok (.getfield 196, 3) := by decide +kernel
theorem dX11_ask_56 : decode cX11_ask 56 = .ok (.aload_n 0, 1) := by decide +kernel
theorem dX11_ask_57 : decode cX11_ask 57 = .ok (.getfield 507, 3) := by decide +kernel
theorem dX11_ask_60 : decode cX11_ask 60 = .ok (.iload_n 2, 1) := by decide +kernel
theorem dX11_ask_61 : decode cX11_ask 61 = .ok (.iastore, 1) := by decide +kernel
theorem dX11_ask_62 : decode cX11_ask 62 = .ok (.aload_n 0, 1) := by decide +kernel
theorem dX11_ask_63 : decode cX11_ask 63 = .ok (.getfield 199, 3) := by decide +kernel
theorem dX11_ask_66 : decode cX11_ask 66 = .ok (.aload_n 0, 1) := by decide +kernel
theorem dX11_ask_67 : decode cX11_ask 67 = .ok (.getfield 507, 3) := by decide +kernel
theorem dX11_ask_70 : decode cX11_ask 70 = .ok (.iload_n 3, 1) := by decide +kernel
theorem dX11_ask_71 : decode cX11_ask 71 = .ok (.iastore, 1) := by decide +kernel
theorem dX11_ask_72 : decode cX11_ask 72 = .ok (.aload_n 0, 1) := by decide +kernel
theorem dX11_ask_73 : decode cX11_ask 73 = .ok (.dup, 1) := by decide +kernel
theorem dX11_ask_74 : decode cX11_ask 74 = .ok (.getfield 507, 3) := by decide +kernel
theorem dX11_ask_77 : decode cX11_ask 77 = .ok (.iconst 1, 1) := by decide +kernel
theorem dX11_ask_78 : decode cX11_ask 78 = .ok (.iadd, 1) := by decide +kernel
theorem dX11_ask_79 : decode cX11_ask 79 = .ok (.putfield 507, 3) := by decide +kernel
theorem dX11_ask_82 : decode cX11_ask 82 = .ok (.aload_n 0, 1) := by decide +kernel
theorem dX11_ask_83 : decode cX11_ask 83 = .ok (.getfield 507, 3) := by decide +kernel
theorem dX11_ask_86 : decode cX11_ask 86 = .ok (.iconst 1, 1) := by decide +kernel
theorem dX11_ask_87 : decode cX11_ask 87 = .ok (.isub, 1) := by decide +kernel
theorem dX11_ask_88 : decode cX11_ask 88 = .ok (.ireturn, 1) := by decide +kernel
def f11_ask_j40 (s11_j40 : OS) : Option (Int32 × OS) := some ((-1 : Int32), s11_j40)
def f11_ask (a1 : Int32) (a2 : Int32) (a3 : Int32) (s11 : OS) : Option (Int32 × OS) := if (s11.1 0 10) = (6 : Int32) then (f11_ask_j40 s11) else (Option.bind (f11_lies ((a1).toInt64) ((1 : Int64)) ((1000000000 : Int64))) fun q_15 => if q_15 = 0 then (f11_ask_j40 s11) else (Option.bind (f11_lies ((a2).toInt64) ((1 : Int64)) ((1000 : Int64))) fun q_27 => if q_27 = 0 then (f11_ask_j40 s11) else (Option.bind (f11_isBits a3) fun q_34 => if q_34 = 0 then (f11_ask_j40 s11) else (chk (inb ((s11.1 0 10)) 6) (nm (wI s11 85 ((s11.1 0 10)).toNatClampNeg a1) fun s11_51 => chk (inb ((s11_51.1 0 10)) 6) (nm (wI s11_51 86 ((s11_51.1 0 10)).toNatClampNeg a2) fun s11_61 => chk (inb ((s11_61.1 0 10)) 6) (nm (wI s11_61 87 ((s11_61.1 0 10)).toNatClampNeg a3) fun s11_71 => nm (wI s11_71 0 10 (((s11_71.1 0 10) + (1 : Int32)))) fun s11_79 => some (((s11_79.1 0 10) - (1 : Int32)), s11_79))))))))
set_option maxHeartbeats 4000000 in
set_option maxRecDepth 100000 in
theorem m11_ask (l : Launch) (D : va_G) (ad : Nat → Nat) (cy : Nat → ClassId) (sz : Nat) (s11 : OS) (a1 : Int32) (a2 : Int32) (a3 : Int32) (r : Int32 × OS) (h : f11_ask a1 a2 a3 s11 = some r) : Met l yX11_ask (wsOf yX11_ask cX11_ask 4 (some .int)) (rmL 2) (va_Pc ([.ref (ad 0), .int a1, .int a2, .int a3] : List Value) (PreG D cy (cellsM ad cy s11) sz NM)) (QcI D ad 66 (cellsM ad cy r.2) (r.1) sz) 0 0 (Afr ad 66 sz) := by
  refine metG (own := RX11) (by decide) rfl (Nat.le_of_ble_eq_true rfl) fstM ?_ sz
  intro p e s m below meth c ls C0 hw hl
  obtain ⟨hx, hb, hml, hown, hts, hr, hlk, hK, hN⟩ := C0
  have hl : lv_has ls 4 [(0, .ref (ad 0)), (1, .int a1), (2, .int a2), (3, .int a3)] := hl
  generalize hQ : MQ below (QcI D ad 66 (cellsM ad cy r.2) (r.1) s.heap.size) ([.ref (ad 0), .int a1, .int a2, .int a3] : List Value).toArray s 0 0 (Afr ad 66 s.heap.size) = Q
  obtain ⟨H, hH⟩ : ∃ H : Heap, H = s.heap := ⟨_, rfl⟩
  obtain ⟨locs, hlc⟩ : ∃ L : List Loc, L = [] := ⟨_, rfl⟩
  have hw : Wd D (cellsM ad cy s11) (Afr ad 66 s.heap.size) s.heap H locs := by rw [hH, hlc]; exact hw
  suffices h0 : W p l e (rmL 2) s m ([.ref (ad 0), .int a1, .int a2, .int a3] : List Value).toArray below meth c H locs 0 0 Q (F0 m 0 ls []) by rw [hH, hlc] at h0; exact h0
  clear hH hlc
  unfold f11_ask at h
  have hJ_40 : ∀ (s11_j40 : OS) (H : Heap) (locs : List Loc) (ls : Array Slot), f11_ask_j40 s11_j40 = some r → Wd D (cellsM ad cy s11_j40) (Afr ad 66 s.heap.size) s.heap H locs → lv_has ls 4 [] → W p l e (rmL 2) s m ([.ref (ad 0), .int a1, .int a2, .int a3] : List Value).toArray below meth c H locs 0 0 Q (F0 m 40 ls []) := by
    intro s11_j40 H locs ls h hw hl
    unfold f11_ask_j40 at h
    refine lv_iconst (v := (-1)) hx hb dX11_ask_40 (by decide) ?_
    have h := Option.some.inj h
    subst h
    rw [← hQ]
    exact retI hx hb hr hlk hw rfl dX11_ask_41
  refine lv_aload_n hx hb dX11_ask_0 rfl (lv_at hl 0 rfl) ?_
  refine gX11_507 hx hb hts hown hK hw dX11_ask_1 ?_
  refine lv_bipush (v := 6) hx hb dX11_ask_4 (by decide) ?_
  refine lv_icmp_eq (tgt := 40) hx hb dX11_ask_6 (by decide) (fun c_6 => ?_) (fun c_6 => ?_)
  · have h := ite_t c_6 h
    exact hJ_40 s11 H locs ls h hw (lv_sub hl [] rfl)
  · have h := ite_f c_6 h
    refine lv_iload_n hx hb dX11_ask_9 rfl (lv_at hl 1 rfl) ?_
    refine lv_i2l hx hb dX11_ask_10 rfl ?_
    refine lv_lconst (v := 1) hx hb dX11_ask_11 (by decide) ?_
    refine lv_ldc2 (v := 1000000000) hx hb hown (hts _ (wd_7 (w := .constantLong RX11 257 1000000000) (i := 109) (by decide +kernel) rfl)) dX11_ask_12 ?_
    obtain ⟨q_15, h_15, h⟩ := bnd_e h
    have pg_15 := preG (av := [.long ((a1).toInt64), .long ((1 : Int64)), .long ((1000000000 : Int64))]) hK hw.1 hw.2.1 NM_keep NM_blind
    refine endI (mc := 0) (ms := 0) (va_runS (As := [.long ((a1).toInt64), .long ((1 : Int64)), .long ((1000000000 : Int64))]) (rest := []) ⟨hx, hb, hml, hown, hts⟩ (m11_lies l D ad cy H.size s11 ((a1).toInt64) ((1 : Int64)) ((1000000000 : Int64)) q_15 h_15) (wX11_215 0 hts ⟨Nat.le_of_ble_eq_true rfl, Nat.le_of_ble_eq_true rfl⟩) pg_15 rfl rfl hl.1 rfl (lv_room (Nat.le_of_ble_eq_true rfl)) dX11_ask_15 ⟨Nat.le_refl _, Nat.le_refl _⟩) hw.2.2 (afr_in hw.2.2) (fun H locs hw => ?_)
    refine lv_if_eq (tgt := 40) hx hb dX11_ask_18 (by decide) (fun c_18 => ?_) (fun c_18 => ?_)
    · have h := ite_t c_18 h
      exact hJ_40 s11 H locs ls h hw (lv_sub hl [] rfl)
    · have h := ite_f c_18 h
      refine lv_iload_n hx hb dX11_ask_21 rfl (lv_at hl 2 rfl) ?_
      refine lv_i2l hx hb dX11_ask_22 rfl ?_
      refine lv_lconst (v := 1) hx hb dX11_ask_23 (by decide) ?_
      refine lv_ldc2 (v := 1000) hx hb hown (hts _ (wd_8 (w := .constantLong RX11 441 1000) (i := 70) (by decide +kernel) rfl)) dX11_ask_24 ?_
      obtain ⟨q_27, h_27, h⟩ := bnd_e h
      have pg_27 := preG (av := [.long ((a2).toInt64), .long ((1 : Int64)), .long ((1000 : Int64))]) hK hw.1 hw.2.1 NM_keep NM_blind
      refine endI (mc := 0) (ms := 0) (va_runS (As := [.long ((a2).toInt64), .long ((1 : Int64)), .long ((1000 : Int64))]) (rest := []) ⟨hx, hb, hml, hown, hts⟩ (m11_lies l D ad cy H.size s11 ((a2).toInt64) ((1 : Int64)) ((1000 : Int64)) q_27 h_27) (wX11_215 0 hts ⟨Nat.le_of_ble_eq_true rfl, Nat.le_of_ble_eq_true rfl⟩) pg_27 rfl rfl hl.1 rfl (lv_room (Nat.le_of_ble_eq_true rfl)) dX11_ask_27 ⟨Nat.le_refl _, Nat.le_refl _⟩) hw.2.2 (afr_in hw.2.2) (fun H locs hw => ?_)
      refine lv_if_eq (tgt := 40) hx hb dX11_ask_30 (by decide) (fun c_30 => ?_) (fun c_30 => ?_)
      · have h := ite_t c_30 h
        exact hJ_40 s11 H locs ls h hw (lv_sub hl [] rfl)
      · have h := ite_f c_30 h
        refine lv_iload_n hx hb dX11_ask_33 rfl (lv_at hl 3 rfl) ?_
        obtain ⟨q_34, h_34, h⟩ := bnd_e h
        have pg_34 := preG (av := [.int a3]) hK hw.1 hw.2.1 NM_keep NM_blind
        refine endI (mc := 0) (ms := 0) (va_runS (As := [.int a3]) (rest := []) ⟨hx, hb, hml, hown, hts⟩ (m11_isBits l D ad cy H.size s11 a3 q_34 h_34) (wX11_248 1 hts ⟨Nat.le_of_ble_eq_true rfl, Nat.le_of_ble_eq_true rfl⟩) pg_34 rfl rfl hl.1 rfl (lv_room (Nat.le_of_ble_eq_true rfl)) dX11_ask_34 ⟨Nat.le_refl _, Nat.le_refl _⟩) hw.2.2 (afr_in hw.2.2) (fun H locs hw => ?_)
        refine lv_if_ne (tgt := 42) hx hb dX11_ask_37 (by decide) (fun c_37 => ?_) (fun c_37 => ?_)
        · have h := ite_f c_37 h
          refine lv_aload_n hx hb dX11_ask_42 rfl (lv_at hl 0 rfl) ?_
          refine gX11_193 hx hb hts hown hK hw dX11_ask_43 ?_
          refine lv_aload_n hx hb dX11_ask_46 rfl (lv_at hl 0 rfl) ?_
          refine gX11_507 hx hb hts hown hK hw dX11_ask_47 ?_
          refine lv_iload_n hx hb dX11_ask_50 rfl (lv_at hl 1 rfl) ?_
          obtain ⟨hi_51, h⟩ := chk_e h
          obtain ⟨s11_51, e_51, h⟩ := nam_e h
          refine aM61 hx hb hK hw hi_51 e_51 dX11_ask_51 (fun H locs hw => ?_)
          refine lv_aload_n hx hb dX11_ask_52 rfl (lv_at hl 0 rfl) ?_
          refine gX11_196 hx hb hts hown hK hw dX11_ask_53 ?_
          refine lv_aload_n hx hb dX11_ask_56 rfl (lv_at hl 0 rfl) ?_
          refine gX11_507 hx hb hts hown hK hw dX11_ask_57 ?_
          refine lv_iload_n hx hb dX11_ask_60 rfl (lv_at hl 2 rfl) ?_
          obtain ⟨hi_61, h⟩ := chk_e h
          obtain ⟨s11_61, e_61, h⟩ := nam_e h
          refine aM62 hx hb hK hw hi_61 e_61 dX11_ask_61 (fun H locs hw => ?_)
          refine lv_aload_n hx hb dX11_ask_62 rfl (lv_at hl 0 rfl) ?_
          refine gX11_199 hx hb hts hown hK hw dX11_ask_63 ?_
          refine lv_aload_n hx hb dX11_ask_66 rfl (lv_at hl 0 rfl) ?_
          refine gX11_507 hx hb hts hown hK hw dX11_ask_67 ?_
          refine lv_iload_n hx hb dX11_ask_70 rfl (lv_at hl 3 rfl) ?_
          obtain ⟨hi_71, h⟩ := chk_e h
          obtain ⟨s11_71, e_71, h⟩ := nam_e h
          refine aM63 hx hb hK hw hi_71 e_71 dX11_ask_71 (fun H locs hw => ?_)
          refine lv_aload_n hx hb dX11_ask_72 rfl (lv_at hl 0 rfl) ?_
          refine lv_dup hx hb dX11_ask_73 rfl ?_
          refine gX11_507 hx hb hts hown hK hw dX11_ask_74 ?_
          refine lv_iconst (v := 1) hx hb dX11_ask_77 (by decide) ?_
          refine lv_iadd hx hb dX11_ask_78 ?_
          obtain ⟨s11_79, e_79, h⟩ := nam_e h
          refine pX11_507 hx hb hts hown hK hw e_79 dX11_ask_79 (fun H locs hw => ?_)
          refine lv_aload_n hx hb dX11_ask_82 rfl (lv_at hl 0 rfl) ?_
          refine gX11_507 hx hb hts hown hK hw dX11_ask_83 ?_
          refine lv_iconst (v := 1) hx hb dX11_ask_86 (by decide) ?_
          refine lv_isub hx hb dX11_ask_87 ?_
          have h := Option.some.inj h
          subst h
          rw [← hQ]
          exact retI hx hb hr hlk hw rfl dX11_ask_88
        · have h := ite_t c_37 h
          exact hJ_40 s11 H locs ls h hw (lv_sub hl [] rfl)
theorem dX11_asker_0 : decode cX11_asker 0 = .ok (.aload_n 0, 1) := by decide +kernel
theorem dX11_asker_1 : decode cX11_asker 1 = .ok (.getfield 282, 3) := by decide +kernel
theorem dX11_asker_4 : decode cX11_asker 4 = .ok (.bipush 20, 2) := by decide +kernel
theorem dX11_asker_6 : decode cX11_asker 6 = .ok (.if_icmp .eq 27, 3) := by decide +kernel
theorem dX11_asker_9 : decode cX11_asker 9 = .ok (.iload_n 1, 1) := by decide +kernel
theorem dX11_asker_10 : decode cX11_asker 10 = .ok (.i2l, 1) := by decide +kernel
theorem dX11_asker_11 : decode cX11_asker 11 = .ok (.lconst 0, 1) := by decide +kernel
theorem dX11_asker_12 : decode cX11_asker 12 = .ok (.ldc2_w 221, 3) := by decide +kernel
theorem dX11_asker_15 : decode cX11_asker 15 = .ok (.invokestatic 215, 3) := by decide +kernel
theorem dX11_asker_18 : decode cX11_asker 18 = .ok (.ifCond .eq 15, 3) := by decide +kernel
theorem dX11_asker_21 : decode cX11_asker 21 = .ok (.iload_n 2, 1) := by decide +kernel
theorem dX11_asker_22 : decode cX11_asker 22 = .ok (.i2l, 1) := by decide +kernel
theorem dX11_asker_23 : decode cX11_asker 23 = .ok (.lconst 0, 1) := by decide +kernel
theorem dX11_asker_24 : decode cX11_asker 24 = .ok (.ldc2_w 223, 3) := by decide +kernel
theorem dX11_asker_27 : decode cX11_asker 27 = .ok (.invokestatic 215, 3) := by decide +kernel
theorem dX11_asker_30 : decode cX11_asker 30 = .ok (.ifCond .ne 5, 3) := by decide +kernel
theorem dX11_asker_33 : decode cX11_asker 33 = .ok (.iconst (-1), 1) := by decide +kernel
theorem dX11_asker_34 : decode cX11_asker 34 = .ok (.ireturn, 1) := by decide +kernel
theorem dX11_asker_35 : decode cX11_asker 35 = .ok (.aload_n 0, 1) := by decide +kernel
theorem dX11_asker_36 : decode cX11_asker 36 = .ok (.getfield 70, 3) := by decide +kernel
theorem dX11_asker_39 : decode cX11_asker 39 = .ok (.aload_n 0, 1) := by decide +kernel
theorem dX11_asker_40 : decode cX11_asker 40 = .ok (.getfield 282, 3) := by decide +kernel
theorem dX11_asker_43 : decode cX11_asker 43 = .ok (.iload_n 1, 1) := by decide +kernel
theorem dX11_asker_44 : decode cX11_asker 44 = .ok (.iastore, 1) := by decide +kernel
theorem dX11_asker_45 : decode cX11_asker 45 = .ok (.aload_n 0, 1) := by decide +kernel
theorem dX11_asker_46 : decode cX11_asker 46 = .ok (.getfield 73, 3) := by decide +kernel
theorem dX11_asker_49 : decode cX11_asker 49 = .ok (.aload_n 0, 1) := by decide +kernel
theorem dX11_asker_50 : decode cX11_asker 50 = .ok (.getfield 282, 3) := by decide +kernel
theorem dX11_asker_53 : decode cX11_asker 53 = .ok (.iload_n 2, 1) := by decide +kernel
theorem dX11_asker_54 : decode cX11_asker 54 = .ok (.iastore, 1) := by decide +kernel
theorem dX11_asker_55 : decode cX11_asker 55 = .ok (.aload_n 0, 1) := by decide +kernel
theorem dX11_asker_56 : decode cX11_asker 56 = .ok (.dup, 1) := by decide +kernel
theorem dX11_asker_57 : decode cX11_asker 57 = .ok (.getfield 282, 3) := by decide +kernel
theorem dX11_asker_60 : decode cX11_asker 60 = .ok (.iconst 1, 1) := by decide +kernel
theorem dX11_asker_61 : decode cX11_asker 61 = .ok (.iadd, 1) := by decide +kernel
theorem dX11_asker_62 : decode cX11_asker 62 = .ok (.putfield 282, 3) := by decide +kernel
theorem dX11_asker_65 : decode cX11_asker 65 = .ok (.aload_n 0, 1) := by decide +kernel
theorem dX11_asker_66 : decode cX11_asker 66 = .ok (.getfield 282, 3) := by decide +kernel
theorem dX11_asker_69 : decode cX11_asker 69 = .ok (.iconst 1, 1) := by decide +kernel
theorem dX11_asker_70 : decode cX11_asker 70 = .ok (.isub, 1) := by decide +kernel
theorem dX11_asker_71 : decode cX11_asker 71 = .ok (.ireturn, 1) := by decide +kernel
def f11_asker_j33 (s11_j33 : OS) : Option (Int32 × OS) := some ((-1 : Int32), s11_j33)
def f11_asker (a1 : Int32) (a2 : Int32) (s11 : OS) : Option (Int32 × OS) := if (s11.1 0 4) = (20 : Int32) then (f11_asker_j33 s11) else (Option.bind (f11_lies ((a1).toInt64) ((0 : Int64)) ((9 : Int64))) fun q_15 => if q_15 = 0 then (f11_asker_j33 s11) else (Option.bind (f11_lies ((a2).toInt64) ((0 : Int64)) ((7 : Int64))) fun q_27 => if q_27 = 0 then (f11_asker_j33 s11) else (chk (inb ((s11.1 0 4)) 20) (nm (wI s11 31 ((s11.1 0 4)).toNatClampNeg a1) fun s11_44 => chk (inb ((s11_44.1 0 4)) 20) (nm (wI s11_44 32 ((s11_44.1 0 4)).toNatClampNeg a2) fun s11_54 => nm (wI s11_54 0 4 (((s11_54.1 0 4) + (1 : Int32)))) fun s11_62 => some (((s11_62.1 0 4) - (1 : Int32)), s11_62))))))
set_option maxHeartbeats 4000000 in
set_option maxRecDepth 100000 in
theorem m11_asker (l : Launch) (D : va_G) (ad : Nat → Nat) (cy : Nat → ClassId) (sz : Nat) (s11 : OS) (a1 : Int32) (a2 : Int32) (r : Int32 × OS) (h : f11_asker a1 a2 s11 = some r) : Met l yX11_asker (wsOf yX11_asker cX11_asker 3 (some .int)) (rmL 1) (va_Pc ([.ref (ad 0), .int a1, .int a2] : List Value) (PreG D cy (cellsM ad cy s11) sz NM)) (QcI D ad 66 (cellsM ad cy r.2) (r.1) sz) 0 0 (Afr ad 66 sz) := by
  refine metG (own := RX11) (by decide) rfl (Nat.le_of_ble_eq_true rfl) fstM ?_ sz
  intro p e s m below meth c ls C0 hw hl
  obtain ⟨hx, hb, hml, hown, hts, hr, hlk, hK, hN⟩ := C0
  have hl : lv_has ls 3 [(0, .ref (ad 0)), (1, .int a1), (2, .int a2)] := hl
  generalize hQ : MQ below (QcI D ad 66 (cellsM ad cy r.2) (r.1) s.heap.size) ([.ref (ad 0), .int a1, .int a2] : List Value).toArray s 0 0 (Afr ad 66 s.heap.size) = Q
  obtain ⟨H, hH⟩ : ∃ H : Heap, H = s.heap := ⟨_, rfl⟩
  obtain ⟨locs, hlc⟩ : ∃ L : List Loc, L = [] := ⟨_, rfl⟩
  have hw : Wd D (cellsM ad cy s11) (Afr ad 66 s.heap.size) s.heap H locs := by rw [hH, hlc]; exact hw
  suffices h0 : W p l e (rmL 1) s m ([.ref (ad 0), .int a1, .int a2] : List Value).toArray below meth c H locs 0 0 Q (F0 m 0 ls []) by rw [hH, hlc] at h0; exact h0
  clear hH hlc
  unfold f11_asker at h
  have hJ_33 : ∀ (s11_j33 : OS) (H : Heap) (locs : List Loc) (ls : Array Slot), f11_asker_j33 s11_j33 = some r → Wd D (cellsM ad cy s11_j33) (Afr ad 66 s.heap.size) s.heap H locs → lv_has ls 3 [] → W p l e (rmL 1) s m ([.ref (ad 0), .int a1, .int a2] : List Value).toArray below meth c H locs 0 0 Q (F0 m 33 ls []) := by
    intro s11_j33 H locs ls h hw hl
    unfold f11_asker_j33 at h
    refine lv_iconst (v := (-1)) hx hb dX11_asker_33 (by decide) ?_
    have h := Option.some.inj h
    subst h
    rw [← hQ]
    exact retI hx hb hr hlk hw rfl dX11_asker_34
  refine lv_aload_n hx hb dX11_asker_0 rfl (lv_at hl 0 rfl) ?_
  refine gX11_282 hx hb hts hown hK hw dX11_asker_1 ?_
  refine lv_bipush (v := 20) hx hb dX11_asker_4 (by decide) ?_
  refine lv_icmp_eq (tgt := 33) hx hb dX11_asker_6 (by decide) (fun c_6 => ?_) (fun c_6 => ?_)
  · have h := ite_t c_6 h
    exact hJ_33 s11 H locs ls h hw (lv_sub hl [] rfl)
  · have h := ite_f c_6 h
    refine lv_iload_n hx hb dX11_asker_9 rfl (lv_at hl 1 rfl) ?_
    refine lv_i2l hx hb dX11_asker_10 rfl ?_
    refine lv_lconst (v := 0) hx hb dX11_asker_11 (by decide) ?_
    refine lv_ldc2 (v := 9) hx hb hown (hts _ (wd_7 (w := .constantLong RX11 221 9) (i := 96) (by decide +kernel) rfl)) dX11_asker_12 ?_
    obtain ⟨q_15, h_15, h⟩ := bnd_e h
    have pg_15 := preG (av := [.long ((a1).toInt64), .long ((0 : Int64)), .long ((9 : Int64))]) hK hw.1 hw.2.1 NM_keep NM_blind
    refine endI (mc := 0) (ms := 0) (va_runS (As := [.long ((a1).toInt64), .long ((0 : Int64)), .long ((9 : Int64))]) (rest := []) ⟨hx, hb, hml, hown, hts⟩ (m11_lies l D ad cy H.size s11 ((a1).toInt64) ((0 : Int64)) ((9 : Int64)) q_15 h_15) (wX11_215 0 hts ⟨Nat.le_of_ble_eq_true rfl, Nat.le_of_ble_eq_true rfl⟩) pg_15 rfl rfl hl.1 rfl (lv_room (Nat.le_of_ble_eq_true rfl)) dX11_asker_15 ⟨Nat.le_refl _, Nat.le_refl _⟩) hw.2.2 (afr_in hw.2.2) (fun H locs hw => ?_)
    refine lv_if_eq (tgt := 33) hx hb dX11_asker_18 (by decide) (fun c_18 => ?_) (fun c_18 => ?_)
    · have h := ite_t c_18 h
      exact hJ_33 s11 H locs ls h hw (lv_sub hl [] rfl)
    · have h := ite_f c_18 h
      refine lv_iload_n hx hb dX11_asker_21 rfl (lv_at hl 2 rfl) ?_
      refine lv_i2l hx hb dX11_asker_22 rfl ?_
      refine lv_lconst (v := 0) hx hb dX11_asker_23 (by decide) ?_
      refine lv_ldc2 (v := 7) hx hb hown (hts _ (wd_7 (w := .constantLong RX11 223 7) (i := 108) (by decide +kernel) rfl)) dX11_asker_24 ?_
      obtain ⟨q_27, h_27, h⟩ := bnd_e h
      have pg_27 := preG (av := [.long ((a2).toInt64), .long ((0 : Int64)), .long ((7 : Int64))]) hK hw.1 hw.2.1 NM_keep NM_blind
      refine endI (mc := 0) (ms := 0) (va_runS (As := [.long ((a2).toInt64), .long ((0 : Int64)), .long ((7 : Int64))]) (rest := []) ⟨hx, hb, hml, hown, hts⟩ (m11_lies l D ad cy H.size s11 ((a2).toInt64) ((0 : Int64)) ((7 : Int64)) q_27 h_27) (wX11_215 0 hts ⟨Nat.le_of_ble_eq_true rfl, Nat.le_of_ble_eq_true rfl⟩) pg_27 rfl rfl hl.1 rfl (lv_room (Nat.le_of_ble_eq_true rfl)) dX11_asker_27 ⟨Nat.le_refl _, Nat.le_refl _⟩) hw.2.2 (afr_in hw.2.2) (fun H locs hw => ?_)
      refine lv_if_ne (tgt := 35) hx hb dX11_asker_30 (by decide) (fun c_30 => ?_) (fun c_30 => ?_)
      · have h := ite_f c_30 h
        refine lv_aload_n hx hb dX11_asker_35 rfl (lv_at hl 0 rfl) ?_
        refine gX11_70 hx hb hts hown hK hw dX11_asker_36 ?_
        refine lv_aload_n hx hb dX11_asker_39 rfl (lv_at hl 0 rfl) ?_
        refine gX11_282 hx hb hts hown hK hw dX11_asker_40 ?_
        refine lv_iload_n hx hb dX11_asker_43 rfl (lv_at hl 1 rfl) ?_
        obtain ⟨hi_44, h⟩ := chk_e h
        obtain ⟨s11_44, e_44, h⟩ := nam_e h
        refine aM20 hx hb hK hw hi_44 e_44 dX11_asker_44 (fun H locs hw => ?_)
        refine lv_aload_n hx hb dX11_asker_45 rfl (lv_at hl 0 rfl) ?_
        refine gX11_73 hx hb hts hown hK hw dX11_asker_46 ?_
        refine lv_aload_n hx hb dX11_asker_49 rfl (lv_at hl 0 rfl) ?_
        refine gX11_282 hx hb hts hown hK hw dX11_asker_50 ?_
        refine lv_iload_n hx hb dX11_asker_53 rfl (lv_at hl 2 rfl) ?_
        obtain ⟨hi_54, h⟩ := chk_e h
        obtain ⟨s11_54, e_54, h⟩ := nam_e h
        refine aM21 hx hb hK hw hi_54 e_54 dX11_asker_54 (fun H locs hw => ?_)
        refine lv_aload_n hx hb dX11_asker_55 rfl (lv_at hl 0 rfl) ?_
        refine lv_dup hx hb dX11_asker_56 rfl ?_
        refine gX11_282 hx hb hts hown hK hw dX11_asker_57 ?_
        refine lv_iconst (v := 1) hx hb dX11_asker_60 (by decide) ?_
        refine lv_iadd hx hb dX11_asker_61 ?_
        obtain ⟨s11_62, e_62, h⟩ := nam_e h
        refine pX11_282 hx hb hts hown hK hw e_62 dX11_asker_62 (fun H locs hw => ?_)
        refine lv_aload_n hx hb dX11_asker_65 rfl (lv_at hl 0 rfl) ?_
        refine gX11_282 hx hb hts hown hK hw dX11_asker_66 ?_
        refine lv_iconst (v := 1) hx hb dX11_asker_69 (by decide) ?_
        refine lv_isub hx hb dX11_asker_70 ?_
        have h := Option.some.inj h
        subst h
        rw [← hQ]
        exact retI hx hb hr hlk hw rfl dX11_asker_71
      · have h := ite_t c_30 h
        exact hJ_33 s11 H locs ls h hw (lv_sub hl [] rfl)
theorem dX11_isCabinet_0 : decode cX11_isCabinet 0 = .ok (.iload_n 0, 1) := by decide +kernel
theorem dX11_isCabinet_1 : decode cX11_isCabinet 1 = .ok (.i2l, 1) := by decide +kernel
theorem dX11_isCabinet_2 : decode cX11_isCabinet 2 = .ok (.lconst 0, 1) := by decide +kernel
theorem dX11_isCabinet_3 : decode cX11_isCabinet 3 = .ok (.ldc2_w 221, 3) := by decide +kernel
theorem dX11_isCabinet_6 : decode cX11_isCabinet 6 = .ok (.invokestatic 215, 3) := by decide +kernel
theorem dX11_isCabinet_9 : decode cX11_isCabinet 9 = .ok (.ireturn, 1) := by decide +kernel
def f11_isCabinet (a0 : Int32) : Option (Int32) := Option.bind (f11_lies ((a0).toInt64) ((0 : Int64)) ((9 : Int64))) fun q_6 => chk (isB q_6) (some q_6)
set_option maxHeartbeats 4000000 in
set_option maxRecDepth 100000 in
theorem m11_isCabinet (l : Launch) (D : va_G) (ad : Nat → Nat) (cy : Nat → ClassId) (sz : Nat) (s11 : OS) (a0 : Int32) (r : Int32) (h : f11_isCabinet a0 = some r) : Met l yX11_isCabinet (wsOf yX11_isCabinet cX11_isCabinet 1 (some .boolean)) (rmL 1) (va_Pc ([.int a0] : List Value) (PreG D cy (cellsM ad cy s11) sz NM)) (QcI D ad 66 (cellsM ad cy s11) (r) sz) 0 0 (Afr ad 66 sz) := by
  refine metG (own := RX11) (by decide) rfl (Nat.le_of_ble_eq_true rfl) fstM ?_ sz
  intro p e s m below meth c ls C0 hw hl
  obtain ⟨hx, hb, hml, hown, hts, hr, hlk, hK, hN⟩ := C0
  have hl : lv_has ls 1 [(0, .int a0)] := hl
  generalize hQ : MQ below (QcI D ad 66 (cellsM ad cy s11) (r) s.heap.size) ([.int a0] : List Value).toArray s 0 0 (Afr ad 66 s.heap.size) = Q
  obtain ⟨H, hH⟩ : ∃ H : Heap, H = s.heap := ⟨_, rfl⟩
  obtain ⟨locs, hlc⟩ : ∃ L : List Loc, L = [] := ⟨_, rfl⟩
  have hw : Wd D (cellsM ad cy s11) (Afr ad 66 s.heap.size) s.heap H locs := by rw [hH, hlc]; exact hw
  suffices h0 : W p l e (rmL 1) s m ([.int a0] : List Value).toArray below meth c H locs 0 0 Q (F0 m 0 ls []) by rw [hH, hlc] at h0; exact h0
  clear hH hlc
  unfold f11_isCabinet at h
  refine lv_iload_n hx hb dX11_isCabinet_0 rfl (lv_at hl 0 rfl) ?_
  refine lv_i2l hx hb dX11_isCabinet_1 rfl ?_
  refine lv_lconst (v := 0) hx hb dX11_isCabinet_2 (by decide) ?_
  refine lv_ldc2 (v := 9) hx hb hown (hts _ (wd_7 (w := .constantLong RX11 221 9) (i := 96) (by decide +kernel) rfl)) dX11_isCabinet_3 ?_
  obtain ⟨q_6, h_6, h⟩ := bnd_e h
  have pg_6 := preG (av := [.long ((a0).toInt64), .long ((0 : Int64)), .long ((9 : Int64))]) hK hw.1 hw.2.1 NM_keep NM_blind
  refine endI (mc := 0) (ms := 0) (va_runS (As := [.long ((a0).toInt64), .long ((0 : Int64)), .long ((9 : Int64))]) (rest := []) ⟨hx, hb, hml, hown, hts⟩ (m11_lies l D ad cy H.size s11 ((a0).toInt64) ((0 : Int64)) ((9 : Int64)) q_6 h_6) (wX11_215 0 hts ⟨Nat.le_of_ble_eq_true rfl, Nat.le_of_ble_eq_true rfl⟩) pg_6 rfl rfl hl.1 rfl (lv_room (Nat.le_of_ble_eq_true rfl)) dX11_isCabinet_6 ⟨Nat.le_refl _, Nat.le_refl _⟩) hw.2.2 (afr_in hw.2.2) (fun H locs hw => ?_)
  obtain ⟨hz_9, h⟩ := chk_e h
  have h := Option.some.inj h
  subst h
  rw [← hQ]
  exact retI hx hb hr hlk hw (narB hz_9) dX11_isCabinet_9
theorem dX11_isDone_0 : decode cX11_isDone 0 = .ok (.aload_n 0, 1) := by decide +kernel
theorem dX11_isDone_1 : decode cX11_isDone 1 = .ok (.getfield 20, 3) := by decide +kernel
theorem dX11_isDone_4 : decode cX11_isDone 4 = .ok (.iload_n 1, 1) := by decide +kernel
theorem dX11_isDone_5 : decode cX11_isDone 5 = .ok (.iconst 0, 1) := by decide +kernel
theorem dX11_isDone_6 : decode cX11_isDone 6 = .ok (.iastore, 1) := by decide +kernel
theorem dX11_isDone_7 : decode cX11_isDone 7 = .ok (.aload_n 0, 1) := by decide +kernel
theorem dX11_isDone_8 : decode cX11_isDone 8 = .ok (.getfield 26, 3) := by decide +kernel
theorem dX11_isDone_11 : decode cX11_isDone 11 = .ok (.iload_n 1, 1) := by decide +kernel
theorem dX11_isDone_12 : decode cX11_isDone 12 = .ok (.bipush 12, 2) := by decide +kernel
theorem dX11_isDone_14 : decode cX11_isDone 14 = .ok (.iastore, 1) := by decide +kernel
theorem dX11_isDone_15 : decode cX11_isDone 15 = .ok (.return_, 1) := by decide +kernel
def f11_isDone (a1 : Int32) (s11 : OS) : Option (OS) := chk (inb a1 150) (nm (wI s11 14 a1.toNatClampNeg ((0 : Int32))) fun s11_6 => chk (inb a1 150) (nm (wI s11_6 16 a1.toNatClampNeg ((12 : Int32))) fun s11_14 => some s11_14))
set_option maxHeartbeats 4000000 in
set_option maxRecDepth 100000 in
theorem m11_isDone (l : Launch) (D : va_G) (ad : Nat → Nat) (cy : Nat → ClassId) (sz : Nat) (s11 : OS) (a1 : Int32) (r : OS) (h : f11_isDone a1 s11 = some r) : Met l yX11_isDone (wsOf yX11_isDone cX11_isDone 2 none) (rmL 0) (va_Pc ([.ref (ad 0), .int a1] : List Value) (PreG D cy (cellsM ad cy s11) sz NM)) (QcV D ad 66 (cellsM ad cy r) sz) 0 0 (Afr ad 66 sz) := by
  refine metG (own := RX11) (by decide) rfl (Nat.le_of_ble_eq_true rfl) fstM ?_ sz
  intro p e s m below meth c ls C0 hw hl
  obtain ⟨hx, hb, hml, hown, hts, hr, hlk, hK, hN⟩ := C0
  have hl : lv_has ls 2 [(0, .ref (ad 0)), (1, .int a1)] := hl
  generalize hQ : MQ below (QcV D ad 66 (cellsM ad cy r) s.heap.size) ([.ref (ad 0), .int a1] : List Value).toArray s 0 0 (Afr ad 66 s.heap.size) = Q
  obtain ⟨H, hH⟩ : ∃ H : Heap, H = s.heap := ⟨_, rfl⟩
  obtain ⟨locs, hlc⟩ : ∃ L : List Loc, L = [] := ⟨_, rfl⟩
  have hw : Wd D (cellsM ad cy s11) (Afr ad 66 s.heap.size) s.heap H locs := by rw [hH, hlc]; exact hw
  suffices h0 : W p l e (rmL 0) s m ([.ref (ad 0), .int a1] : List Value).toArray below meth c H locs 0 0 Q (F0 m 0 ls []) by rw [hH, hlc] at h0; exact h0
  clear hH hlc
  unfold f11_isDone at h
  refine lv_aload_n hx hb dX11_isDone_0 rfl (lv_at hl 0 rfl) ?_
  refine gX11_20 hx hb hts hown hK hw dX11_isDone_1 ?_
  refine lv_iload_n hx hb dX11_isDone_4 rfl (lv_at hl 1 rfl) ?_
  refine lv_iconst (v := 0) hx hb dX11_isDone_5 (by decide) ?_
  obtain ⟨hi_6, h⟩ := chk_e h
  obtain ⟨s11_6, e_6, h⟩ := nam_e h
  refine aM4 hx hb hK hw hi_6 e_6 dX11_isDone_6 (fun H locs hw => ?_)
  refine lv_aload_n hx hb dX11_isDone_7 rfl (lv_at hl 0 rfl) ?_
  refine gX11_26 hx hb hts hown hK hw dX11_isDone_8 ?_
  refine lv_iload_n hx hb dX11_isDone_11 rfl (lv_at hl 1 rfl) ?_
  refine lv_bipush (v := 12) hx hb dX11_isDone_12 (by decide) ?_
  obtain ⟨hi_14, h⟩ := chk_e h
  obtain ⟨s11_14, e_14, h⟩ := nam_e h
  refine aM6 hx hb hK hw hi_14 e_14 dX11_isDone_14 (fun H locs hw => ?_)
  have h := Option.some.inj h
  subst h
  rw [← hQ]
  exact retV hx hb hr hlk hw dX11_isDone_15
theorem dX11_notes_0 : decode cX11_notes 0 = .ok (.aload_n 0, 1) := by decide +kernel
theorem dX11_notes_1 : decode cX11_notes 1 = .ok (.getfield 55, 3) := by decide +kernel
theorem dX11_notes_4 : decode cX11_notes 4 = .ok (.aload_n 0, 1) := by decide +kernel
theorem dX11_notes_5 : decode cX11_notes 5 = .ok (.getfield 242, 3) := by decide +kernel
theorem dX11_notes_8 : decode cX11_notes 8 = .ok (.iload_n 1, 1) := by decide +kernel
theorem dX11_notes_9 : decode cX11_notes 9 = .ok (.iastore, 1) := by decide +kernel
theorem dX11_notes_10 : decode cX11_notes 10 = .ok (.aload_n 0, 1) := by decide +kernel
theorem dX11_notes_11 : decode cX11_notes 11 = .ok (.getfield 58, 3) := by decide +kernel
theorem dX11_notes_14 : decode cX11_notes 14 = .ok (.aload_n 0, 1) := by decide +kernel
theorem dX11_notes_15 : decode cX11_notes 15 = .ok (.getfield 242, 3) := by decide +kernel
theorem dX11_notes_18 : decode cX11_notes 18 = .ok (.aload_n 0, 1) := by decide +kernel
theorem dX11_notes_19 : decode cX11_notes 19 = .ok (.getfield 225, 3) := by decide +kernel
theorem dX11_notes_22 : decode cX11_notes 22 = .ok (.iastore, 1) := by decide +kernel
theorem dX11_notes_23 : decode cX11_notes 23 = .ok (.aload_n 0, 1) := by decide +kernel
theorem dX11_notes_24 : decode cX11_notes 24 = .ok (.getfield 61, 3) := by decide +kernel
theorem dX11_notes_27 : decode cX11_notes 27 = .ok (.aload_n 0, 1) := by decide +kernel
theorem dX11_notes_28 : decode cX11_notes 28 = .ok (.getfield 242, 3) := by decide +kernel
theorem dX11_notes_31 : decode cX11_notes 31 = .ok (.aload_n 0, 1) := by decide +kernel
theorem dX11_notes_32 : decode cX11_notes 32 = .ok (.getfield 20, 3) := by decide +kernel
theorem dX11_notes_35 : decode cX11_notes 35 = .ok (.iload_n 1, 1) := by decide +kernel
theorem dX11_notes_36 : decode cX11_notes 36 = .ok (.iaload, 1) := by decide +kernel
theorem dX11_notes_37 : decode cX11_notes 37 = .ok (.iastore, 1) := by decide +kernel
theorem dX11_notes_38 : decode cX11_notes 38 = .ok (.aload_n 0, 1) := by decide +kernel
theorem dX11_notes_39 : decode cX11_notes 39 = .ok (.getfield 64, 3) := by decide +kernel
theorem dX11_notes_42 : decode cX11_notes 42 = .ok (.aload_n 0, 1) := by decide +kernel
theorem dX11_notes_43 : decode cX11_notes 43 = .ok (.getfield 242, 3) := by decide +kernel
theorem dX11_notes_46 : decode cX11_notes 46 = .ok (.aload_n 0, 1) := by decide +kernel
theorem dX11_notes_47 : decode cX11_notes 47 = .ok (.getfield 23, 3) := by decide +kernel
theorem dX11_notes_50 : decode cX11_notes 50 = .ok (.iload_n 1, 1) := by decide +kernel
theorem dX11_notes_51 : decode cX11_notes 51 = .ok (.iaload, 1) := by decide +kernel
theorem dX11_notes_52 : decode cX11_notes 52 = .ok (.iastore, 1) := by decide +kernel
theorem dX11_notes_53 : decode cX11_notes 53 = .ok (.aload_n 0, 1) := by decide +kernel
theorem dX11_notes_54 : decode cX11_notes 54 = .ok (.getfield 67, 3) := by decide +kernel
theorem dX11_notes_57 : decode cX11_notes 57 = .ok (.aload_n 0, 1) := by decide +kernel
theorem dX11_notes_58 : decode cX11_notes 58 = .ok (.getfield 242, 3) := by decide +kernel
theorem dX11_notes_61 : decode cX11_notes 61 = .ok (.aload_n 0, 1) := by decide +kernel
theorem dX11_notes_62 : decode cX11_notes 62 = .ok (.getfield 26, 3) := by decide +kernel
theorem dX11_notes_65 : decode cX11_notes 65 = .ok (.iload_n 1, 1) := by decide +kernel
theorem dX11_notes_66 : decode cX11_notes 66 = .ok (.iaload, 1) := by decide +kernel
theorem dX11_notes_67 : decode cX11_notes 67 = .ok (.iastore, 1) := by decide +kernel
theorem dX11_notes_68 : decode cX11_notes 68 = .ok (.aload_n 0, 1) := by decide +kernel
theorem dX11_notes_69 : decode cX11_notes 69 = .ok (.dup, 1) := by decide +kernel
theorem dX11_notes_70 : decode cX11_notes 70 = .ok (.getfield 242, 3) := by decide +kernel
theorem dX11_notes_73 : decode cX11_notes 73 = .ok (.iconst 1, 1) := by decide +kernel
theorem dX11_notes_74 : decode cX11_notes 74 = .ok (.iadd, 1) := by decide +kernel
theorem dX11_notes_75 : decode cX11_notes 75 = .ok (.putfield 242, 3) := by decide +kernel
theorem dX11_notes_78 : decode cX11_notes 78 = .ok (.return_, 1) := by decide +kernel
def f11_notes (a1 : Int32) (s11 : OS) : Option (OS) := chk (inb ((s11.1 0 24)) 4800) (nm (wI s11 26 ((s11.1 0 24)).toNatClampNeg a1) fun s11_9 => chk (inb ((s11_9.1 0 24)) 4800) (nm (wI s11_9 27 ((s11_9.1 0 24)).toNatClampNeg ((s11_9.1 0 2))) fun s11_22 => chk (inb a1 150) (nm (s11_22.1 14 a1.toNatClampNeg) fun y_36 => chk (inb ((s11_22.1 0 24)) 4800) (nm (wI s11_22 28 ((s11_22.1 0 24)).toNatClampNeg y_36) fun s11_37 => chk (inb a1 150) (nm (s11_37.1 15 a1.toNatClampNeg) fun y_51 => chk (inb ((s11_37.1 0 24)) 4800) (nm (wI s11_37 29 ((s11_37.1 0 24)).toNatClampNeg y_51) fun s11_52 => chk (inb a1 150) (nm (s11_52.1 16 a1.toNatClampNeg) fun y_66 => chk (inb ((s11_52.1 0 24)) 4800) (nm (wI s11_52 30 ((s11_52.1 0 24)).toNatClampNeg y_66) fun s11_67 => nm (wI s11_67 0 24 (((s11_67.1 0 24) + (1 : Int32)))) fun s11_75 => some s11_75))))))))
set_option maxHeartbeats 4000000 in
set_option maxRecDepth 100000 in
theorem m11_notes (l : Launch) (D : va_G) (ad : Nat → Nat) (cy : Nat → ClassId) (sz : Nat) (s11 : OS) (a1 : Int32) (r : OS) (h : f11_notes a1 s11 = some r) : Met l yX11_notes (wsOf yX11_notes cX11_notes 2 none) (rmL 0) (va_Pc ([.ref (ad 0), .int a1] : List Value) (PreG D cy (cellsM ad cy s11) sz NM)) (QcV D ad 66 (cellsM ad cy r) sz) 0 0 (Afr ad 66 sz) := by
  refine metG (own := RX11) (by decide) rfl (Nat.le_of_ble_eq_true rfl) fstM ?_ sz
  intro p e s m below meth c ls C0 hw hl
  obtain ⟨hx, hb, hml, hown, hts, hr, hlk, hK, hN⟩ := C0
  have hl : lv_has ls 2 [(0, .ref (ad 0)), (1, .int a1)] := hl
  generalize hQ : MQ below (QcV D ad 66 (cellsM ad cy r) s.heap.size) ([.ref (ad 0), .int a1] : List Value).toArray s 0 0 (Afr ad 66 s.heap.size) = Q
  obtain ⟨H, hH⟩ : ∃ H : Heap, H = s.heap := ⟨_, rfl⟩
  obtain ⟨locs, hlc⟩ : ∃ L : List Loc, L = [] := ⟨_, rfl⟩
  have hw : Wd D (cellsM ad cy s11) (Afr ad 66 s.heap.size) s.heap H locs := by rw [hH, hlc]; exact hw
  suffices h0 : W p l e (rmL 0) s m ([.ref (ad 0), .int a1] : List Value).toArray below meth c H locs 0 0 Q (F0 m 0 ls []) by rw [hH, hlc] at h0; exact h0
  clear hH hlc
  unfold f11_notes at h
  refine lv_aload_n hx hb dX11_notes_0 rfl (lv_at hl 0 rfl) ?_
  refine gX11_55 hx hb hts hown hK hw dX11_notes_1 ?_
  refine lv_aload_n hx hb dX11_notes_4 rfl (lv_at hl 0 rfl) ?_
  refine gX11_242 hx hb hts hown hK hw dX11_notes_5 ?_
  refine lv_iload_n hx hb dX11_notes_8 rfl (lv_at hl 1 rfl) ?_
  obtain ⟨hi_9, h⟩ := chk_e h
  obtain ⟨s11_9, e_9, h⟩ := nam_e h
  refine aM15 hx hb hK hw hi_9 e_9 dX11_notes_9 (fun H locs hw => ?_)
  refine lv_aload_n hx hb dX11_notes_10 rfl (lv_at hl 0 rfl) ?_
  refine gX11_58 hx hb hts hown hK hw dX11_notes_11 ?_
  refine lv_aload_n hx hb dX11_notes_14 rfl (lv_at hl 0 rfl) ?_
  refine gX11_242 hx hb hts hown hK hw dX11_notes_15 ?_
  refine lv_aload_n hx hb dX11_notes_18 rfl (lv_at hl 0 rfl) ?_
  refine gX11_225 hx hb hts hown hK hw dX11_notes_19 ?_
  obtain ⟨hi_22, h⟩ := chk_e h
  obtain ⟨s11_22, e_22, h⟩ := nam_e h
  refine aM16 hx hb hK hw hi_22 e_22 dX11_notes_22 (fun H locs hw => ?_)
  refine lv_aload_n hx hb dX11_notes_23 rfl (lv_at hl 0 rfl) ?_
  refine gX11_61 hx hb hts hown hK hw dX11_notes_24 ?_
  refine lv_aload_n hx hb dX11_notes_27 rfl (lv_at hl 0 rfl) ?_
  refine gX11_242 hx hb hts hown hK hw dX11_notes_28 ?_
  refine lv_aload_n hx hb dX11_notes_31 rfl (lv_at hl 0 rfl) ?_
  refine gX11_20 hx hb hts hown hK hw dX11_notes_32 ?_
  refine lv_iload_n hx hb dX11_notes_35 rfl (lv_at hl 1 rfl) ?_
  obtain ⟨hi_36, h⟩ := chk_e h
  obtain ⟨y_36, e_36, h⟩ := nam_e h
  refine lM4 hx hb hK hw hi_36 e_36 dX11_notes_36 ?_
  obtain ⟨hi_37, h⟩ := chk_e h
  obtain ⟨s11_37, e_37, h⟩ := nam_e h
  refine aM17 hx hb hK hw hi_37 e_37 dX11_notes_37 (fun H locs hw => ?_)
  refine lv_aload_n hx hb dX11_notes_38 rfl (lv_at hl 0 rfl) ?_
  refine gX11_64 hx hb hts hown hK hw dX11_notes_39 ?_
  refine lv_aload_n hx hb dX11_notes_42 rfl (lv_at hl 0 rfl) ?_
  refine gX11_242 hx hb hts hown hK hw dX11_notes_43 ?_
  refine lv_aload_n hx hb dX11_notes_46 rfl (lv_at hl 0 rfl) ?_
  refine gX11_23 hx hb hts hown hK hw dX11_notes_47 ?_
  refine lv_iload_n hx hb dX11_notes_50 rfl (lv_at hl 1 rfl) ?_
  obtain ⟨hi_51, h⟩ := chk_e h
  obtain ⟨y_51, e_51, h⟩ := nam_e h
  refine lM5 hx hb hK hw hi_51 e_51 dX11_notes_51 ?_
  obtain ⟨hi_52, h⟩ := chk_e h
  obtain ⟨s11_52, e_52, h⟩ := nam_e h
  refine aM18 hx hb hK hw hi_52 e_52 dX11_notes_52 (fun H locs hw => ?_)
  refine lv_aload_n hx hb dX11_notes_53 rfl (lv_at hl 0 rfl) ?_
  refine gX11_67 hx hb hts hown hK hw dX11_notes_54 ?_
  refine lv_aload_n hx hb dX11_notes_57 rfl (lv_at hl 0 rfl) ?_
  refine gX11_242 hx hb hts hown hK hw dX11_notes_58 ?_
  refine lv_aload_n hx hb dX11_notes_61 rfl (lv_at hl 0 rfl) ?_
  refine gX11_26 hx hb hts hown hK hw dX11_notes_62 ?_
  refine lv_iload_n hx hb dX11_notes_65 rfl (lv_at hl 1 rfl) ?_
  obtain ⟨hi_66, h⟩ := chk_e h
  obtain ⟨y_66, e_66, h⟩ := nam_e h
  refine lM6 hx hb hK hw hi_66 e_66 dX11_notes_66 ?_
  obtain ⟨hi_67, h⟩ := chk_e h
  obtain ⟨s11_67, e_67, h⟩ := nam_e h
  refine aM19 hx hb hK hw hi_67 e_67 dX11_notes_67 (fun H locs hw => ?_)
  refine lv_aload_n hx hb dX11_notes_68 rfl (lv_at hl 0 rfl) ?_
  refine lv_dup hx hb dX11_notes_69 rfl ?_
  refine gX11_242 hx hb hts hown hK hw dX11_notes_70 ?_
  refine lv_iconst (v := 1) hx hb dX11_notes_73 (by decide) ?_
  refine lv_iadd hx hb dX11_notes_74 ?_
  obtain ⟨s11_75, e_75, h⟩ := nam_e h
  refine pX11_242 hx hb hts hown hK hw e_75 dX11_notes_75 (fun H locs hw => ?_)
  have h := Option.some.inj h
  subst h
  rw [← hQ]
  exact retV hx hb hr hlk hw dX11_notes_78
theorem dX11_back_0 : decode cX11_back 0 = .ok (.iload_n 1, 1) := by decide +kernel
theorem dX11_back_1 : decode cX11_back 1 = .ok (.i2l, 1) := by decide +kernel
theorem dX11_back_2 : decode cX11_back 2 = .ok (.lconst 0, 1) := by decide +kernel
theorem dX11_back_3 : decode cX11_back 3 = .ok (.aload_n 0, 1) := by decide +kernel
theorem dX11_back_4 : decode cX11_back 4 = .ok (.getfield 399, 3) := by decide +kernel
theorem dX11_back_7 : decode cX11_back 7 = .ok (.iconst 1, 1) := by decide +kernel
theorem dX11_back_8 : decode cX11_back 8 = .ok (.isub, 1) := by decide +kernel
theorem dX11_back_9 : decode cX11_back 9 = .ok (.i2l, 1) := by decide +kernel
theorem dX11_back_10 : decode cX11_back 10 = .ok (.invokestatic 215, 3) := by decide +kernel
theorem dX11_back_13 : decode cX11_back 13 = .ok (.ifCond .eq 29, 3) := by decide +kernel
theorem dX11_back_16 : decode cX11_back 16 = .ok (.aload_n 0, 1) := by decide +kernel
theorem dX11_back_17 : decode cX11_back 17 = .ok (.getfield 133, 3) := by decide +kernel
theorem dX11_back_20 : decode cX11_back 20 = .ok (.iload_n 1, 1) := by decide +kernel
theorem dX11_back_21 : decode cX11_back 21 = .ok (.iaload, 1) := by decide +kernel
theorem dX11_back_22 : decode cX11_back 22 = .ok (.iconst (-1), 1) := by decide +kernel
theorem dX11_back_23 : decode cX11_back 23 = .ok (.if_icmp .ne 19, 3) := by decide +kernel
theorem dX11_back_26 : decode cX11_back 26 = .ok (.iload 4, 2) := by decide +kernel
theorem dX11_back_28 : decode cX11_back 28 = .ok (.invokestatic 248, 3) := by decide +kernel
theorem dX11_back_31 : decode cX11_back 31 = .ok (.ifCond .eq 11, 3) := by decide +kernel
theorem dX11_back_34 : decode cX11_back 34 = .ok (.iload 5, 2) := by decide +kernel
theorem dX11_back_36 : decode cX11_back 36 = .ok (.invokestatic 245, 3) := by decide +kernel
theorem dX11_back_39 : decode cX11_back 39 = .ok (.ifCond .ne 5, 3) := by decide +kernel
theorem dX11_back_42 : decode cX11_back 42 = .ok (.iconst (-1), 1) := by decide +kernel
theorem dX11_back_43 : decode cX11_back 43 = .ok (.ireturn, 1) := by decide +kernel
theorem dX11_back_44 : decode cX11_back 44 = .ok (.aload_n 0, 1) := by decide +kernel
theorem dX11_back_45 : decode cX11_back 45 = .ok (.getfield 121, 3) := by decide +kernel
theorem dX11_back_48 : decode cX11_back 48 = .ok (.iload_n 1, 1) := by decide +kernel
theorem dX11_back_49 : decode cX11_back 49 = .ok (.iaload, 1) := by decide +kernel
theorem dX11_back_50 : decode cX11_back 50 = .ok (.istore 6, 2) := by decide +kernel
theorem dX11_back_52 : decode cX11_back 52 = .ok (.iload_n 2, 1) := by decide +kernel
theorem dX11_back_53 : decode cX11_back 53 = .ok (.i2l, 1) := by decide +kernel
theorem dX11_back_54 : decode cX11_back 54 = .ok (.lconst 0, 1) := by decide +kernel
theorem dX11_back_55 : decode cX11_back 55 = .ok (.aload_n 0, 1) := by decide +kernel
theorem dX11_back_56 : decode cX11_back 56 = .ok (.getfield 20, 3) := by decide +kernel
theorem dX11_back_59 : decode cX11_back 59 = .ok (.iload 6, 2) := by decide +kernel
theorem dX11_back_61 : decode cX11_back 61 = .ok (.iaload, 1) := by decide +kernel
theorem dX11_back_62 : decode cX11_back 62 = .ok (.i2l, 1) := by decide +kernel
theorem dX11_back_63 : decode cX11_back 63 = .ok (.invokestatic 215, 3) := by decide +kernel
theorem dX11_back_66 : decode cX11_back 66 = .ok (.ifCond .eq 22, 3) := by decide +kernel
theorem dX11_back_69 : decode cX11_back 69 = .ok (.iload_n 3, 1) := by decide +kernel
theorem dX11_back_70 : decode cX11_back 70 = .ok (.i2l, 1) := by decide +kernel
theorem dX11_back_71 : decode cX11_back 71 = .ok (.lconst 0, 1) := by decide +kernel
theorem dX11_back_72 : decode cX11_back 72 = .ok (.aload_n 0, 1) := by decide +kernel
theorem dX11_back_73 : decode cX11_back 73 = .ok (.getfield 20, 3) := by decide +kernel
theorem dX11_back_76 : decode cX11_back 76 = .ok (.iload 6, 2) := by decide +kernel
theorem dX11_back_78 : decode cX11_back 78 = .ok (.iaload, 1) := by decide +kernel
theorem dX11_back_79 : decode cX11_back 79 = .ok (.iload_n 2, 1) := by decide +kernel
theorem dX11_back_80 : decode cX11_back 80 = .ok (.isub, 1) := by decide +kernel
theorem dX11_back_81 : decode cX11_back 81 = .ok (.i2l, 1) := by decide +kernel
theorem dX11_back_82 : decode cX11_back 82 = .ok (.invokestatic 215, 3) := by decide +kernel
theorem dX11_back_85 : decode cX11_back 85 = .ok (.ifCond .ne 5, 3) := by decide +kernel
theorem dX11_back_88 : decode cX11_back 88 = .ok (.iconst (-1), 1) := by decide +kernel
theorem dX11_back_89 : decode cX11_back 89 = .ok (.ireturn, 1) := by decide +kernel
theorem dX11_back_90 : decode cX11_back 90 = .ok (.aload_n 0, 1) := by decide +kernel
theorem dX11_back_91 : decode cX11_back 91 = .ok (.getfield 20, 3) := by decide +kernel
theorem dX11_back_94 : decode cX11_back 94 = .ok (.iload 6, 2) := by decide +kernel
theorem dX11_back_96 : decode cX11_back 96 = .ok (.iaload, 1) := by decide +kernel
theorem dX11_back_97 : decode cX11_back 97 = .ok (.iload_n 2, 1) := by decide +kernel
theorem dX11_back_98 : decode cX11_back 98 = .ok (.isub, 1) := by decide +kernel
theorem dX11_back_99 : decode cX11_back 99 = .ok (.iload_n 3, 1) := by decide +kernel
theorem dX11_back_100 : decode cX11_back 100 = .ok (.isub, 1) := by decide +kernel
theorem dX11_back_101 : decode cX11_back 101 = .ok (.istore 7, 2) := by decide +kernel
theorem dX11_back_103 : decode cX11_back 103 = .ok (.aload_n 0, 1) := by decide +kernel
theorem dX11_back_104 : decode cX11_back 104 = .ok (.getfield 20, 3) := by decide +kernel
theorem dX11_back_107 : decode cX11_back 107 = .ok (.iload 6, 2) := by decide +kernel
theorem dX11_back_109 : decode cX11_back 109 = .ok (.iload_n 2, 1) := by decide +kernel
theorem dX11_back_110 : decode cX11_back 110 = .ok (.iastore, 1) := by decide +kernel
theorem dX11_back_111 : decode cX11_back 111 = .ok (.aload_n 0, 1) := by decide +kernel
theorem dX11_back_112 : decode cX11_back 112 = .ok (.getfield 23, 3) := by decide +kernel
theorem dX11_back_115 : decode cX11_back 115 = .ok (.iload 6, 2) := by decide +kernel
theorem dX11_back_117 : decode cX11_back 117 = .ok (.dup2, 1) := by decide +kernel
theorem dX11_back_118 : decode cX11_back 118 = .ok (.iaload, 1) := by decide +kernel
theorem dX11_back_119 : decode cX11_back 119 = .ok (.iload 4, 2) := by decide +kernel
theorem dX11_back_121 : decode cX11_back 121 = .ok (.ior, 1) := by decide +kernel
theorem dX11_back_122 : decode cX11_back 122 = .ok (.iastore, 1) := by decide +kernel
theorem dX11_back_123 : decode cX11_back 123 = .ok (.aload_n 0, 1) := by decide +kernel
theorem dX11_back_124 : decode cX11_back 124 = .ok (.getfield 26, 3) := by decide +kernel
theorem dX11_back_127 : decode cX11_back 127 = .ok (.iload 6, 2) := by decide +kernel
theorem dX11_back_129 : decode cX11_back 129 = .ok (.iload 5, 2) := by decide +kernel
theorem dX11_back_131 : decode cX11_back 131 = .ok (.iastore, 1) := by decide +kernel
theorem dX11_back_132 : decode cX11_back 132 = .ok (.iload_n 2, 1) := by decide +kernel
theorem dX11_back_133 : decode cX11_back 133 = .ok (.ifCond .ne 9, 3) := by decide +kernel
theorem dX11_back_136 : decode cX11_back 136 = .ok (.aload_n 0, 1) := by decide +kernel
theorem dX11_back_137 : decode cX11_back 137 = .ok (.iload 6, 2) := by decide +kernel
theorem dX11_back_139 : decode cX11_back 139 = .ok (.invokevirtual 279, 3) := by decide +kernel
theorem dX11_back_142 : decode cX11_back 142 = .ok (.aload_n 0, 1) := by decide +kernel
theorem dX11_back_143 : decode cX11_back 143 = .ok (.iload 6, 2) := by decide +kernel
theorem dX11_back_145 : decode cX11_back 145 = .ok (.invokevirtual 251, 3) := by decide +kernel
theorem dX11_back_148 : decode cX11_back 148 = .ok (.aload_n 0, 1) := by decide +kernel
theorem dX11_back_149 : decode cX11_back 149 = .ok (.getfield 49, 3) := by decide +kernel
theorem dX11_back_152 : decode cX11_back 152 = .ok (.aload_n 0, 1) := by decide +kernel
theorem dX11_back_153 : decode cX11_back 153 = .ok (.getfield 13, 3) := by decide +kernel
theorem dX11_back_156 : decode cX11_back 156 = .ok (.iload 6, 2) := by decide +kernel
theorem dX11_back_158 : decode cX11_back 158 = .ok (.iaload, 1) := by decide +kernel
theorem dX11_back_159 : decode cX11_back 159 = .ok (.dup2, 1) := by decide +kernel
theorem dX11_back_160 : decode cX11_back 160 = .ok (.laload, 1) := by decide +kernel
theorem dX11_back_161 : decode cX11_back 161 = .ok (.iload_n 3, 1) := by decide +kernel
theorem dX11_back_162 : decode cX11_back 162 = .ok (.i2l, 1) := by decide +kernel
theorem dX11_back_163 : decode cX11_back 163 = .ok (.ladd, 1) := by decide +kernel
theorem dX11_back_164 : decode cX11_back 164 = .ok (.lastore, 1) := by decide +kernel
theorem dX11_back_165 : decode cX11_back 165 = .ok (.aload_n 0, 1) := by decide +kernel
theorem dX11_back_166 : decode cX11_back 166 = .ok (.getfield 52, 3) := by decide +kernel
theorem dX11_back_169 : decode cX11_back 169 = .ok (.aload_n 0, 1) := by decide +kernel
theorem dX11_back_170 : decode cX11_back 170 = .ok (.getfield 13, 3) := by decide +kernel
theorem dX11_back_173 : decode cX11_back 173 = .ok (.iload 6, 2) := by decide +kernel
theorem dX11_back_175 : decode cX11_back 175 = .ok (.iaload, 1) := by decide +kernel
theorem dX11_back_176 : decode cX11_back 176 = .ok (.dup2, 1) := by decide +kernel
theorem dX11_back_177 : decode cX11_back 177 = .ok (.laload, 1) := by decide +kernel
theorem dX11_back_178 : decode cX11_back 178 = .ok (.iload 7, 2) := by decide +kernel
theorem dX11_back_180 : decode cX11_back 180 = .ok (.i2l, 1) := by decide +kernel
theorem dX11_back_181 : decode cX11_back 181 = .ok (.ladd, 1) := by decide +kernel
theorem dX11_back_182 : decode cX11_back 182 = .ok (.lastore, 1) := by decide +kernel
theorem dX11_back_183 : decode cX11_back 183 = .ok (.aload_n 0, 1) := by decide +kernel
theorem dX11_back_184 : decode cX11_back 184 = .ok (.getfield 76, 3) := by decide +kernel
theorem dX11_back_187 : decode cX11_back 187 = .ok (.aload_n 0, 1) := by decide +kernel
theorem dX11_back_188 : decode cX11_back 188 = .ok (.getfield 124, 3) := by decide +kernel
theorem dX11_back_191 : decode cX11_back 191 = .ok (.iload_n 1, 1) := by decide +kernel
theorem dX11_back_192 : decode cX11_back 192 = .ok (.iaload, 1) := by decide +kernel
theorem dX11_back_193 : decode cX11_back 193 = .ok (.dup2, 1) := by decide +kernel
theorem dX11_back_194 : decode cX11_back 194 = .ok (.laload, 1) := by decide +kernel
theorem dX11_back_195 : decode cX11_back 195 = .ok (.iload 7, 2) := by decide +kernel
theorem dX11_back_197 : decode cX11_back 197 = .ok (.i2l, 1) := by decide +kernel
theorem dX11_back_198 : decode cX11_back 198 = .ok (.ladd, 1) := by decide +kernel
theorem dX11_back_199 : decode cX11_back 199 = .ok (.lastore, 1) := by decide +kernel
theorem dX11_back_200 : decode cX11_back 200 = .ok (.aload_n 0, 1) := by decide +kernel
theorem dX11_back_201 : decode cX11_back 201 = .ok (.getfield 136, 3) := by decide +kernel
theorem dX11_back_204 : decode cX11_back 204 = .ok (.iload_n 1, 1) := by decide +kernel
theorem dX11_back_205 : decode cX11_back 205 = .ok (.iload 7, 2) := by decide +kernel
theorem dX11_back_207 : decode cX11_back 207 = .ok (.iastore, 1) := by decide +kernel
theorem dX11_back_208 : decode cX11_back 208 = .ok (.aload_n 0, 1) := by decide +kernel
theorem dX11_back_209 : decode cX11_back 209 = .ok (.getfield 133, 3) := by decide +kernel
theorem dX11_back_212 : decode cX11_back 212 = .ok (.iload_n 1, 1) := by decide +kernel
theorem dX11_back_213 : decode cX11_back 213 = .ok (.aload_n 0, 1) := by decide +kernel
theorem dX11_back_214 : decode cX11_back 214 = .ok (.getfield 225, 3) := by decide +kernel
theorem dX11_back_217 : decode cX11_back 217 = .ok (.iastore, 1) := by decide +kernel
theorem dX11_back_218 : decode cX11_back 218 = .ok (.iload 7, 2) := by decide +kernel
theorem dX11_back_220 : decode cX11_back 220 = .ok (.ireturn, 1) := by decide +kernel
def f11_back_j142 (v1_j142 : Int32) (v3_j142 : Int32) (v6_j142 : Int32) (v7_j142 : Int32) (s11_j142 : OS) : Option (Int32 × OS) := Option.bind (f11_notes v6_j142 s11_j142) fun q_145 => chk (inb v6_j142 150) (nm (q_145.1 12 v6_j142.toNatClampNeg) fun y_158 => chk (inb y_158 8) (nm (q_145.2 23 y_158.toNatClampNeg) fun y_160 => chk (inb y_158 8) (nm (wL q_145 23 y_158.toNatClampNeg ((y_160 + (v3_j142).toInt64))) fun s11_164 => chk (inb v6_j142 150) (nm (s11_164.1 12 v6_j142.toNatClampNeg) fun y_175 => chk (inb y_175 8) (nm (s11_164.2 24 y_175.toNatClampNeg) fun y_177 => chk (inb y_175 8) (nm (wL s11_164 24 y_175.toNatClampNeg ((y_177 + (v7_j142).toInt64))) fun s11_182 => chk (inb v1_j142 100) (nm (s11_182.1 60 v1_j142.toNatClampNeg) fun y_192 => chk (inb y_192 20) (nm (s11_182.2 33 y_192.toNatClampNeg) fun y_194 => chk (inb y_192 20) (nm (wL s11_182 33 y_192.toNatClampNeg ((y_194 + (v7_j142).toInt64))) fun s11_199 => chk (inb v1_j142 100) (nm (wI s11_199 64 v1_j142.toNatClampNeg v7_j142) fun s11_207 => chk (inb v1_j142 100) (nm (wI s11_207 63 v1_j142.toNatClampNeg ((s11_207.1 0 2))) fun s11_217 => some (v7_j142, s11_217))))))))))))
def f11_back_j88 (s11_j88 : OS) : Option (Int32 × OS) := some ((-1 : Int32), s11_j88)
def f11_back_j42 (s11_j42 : OS) : Option (Int32 × OS) := some ((-1 : Int32), s11_j42)
def f11_back (a1 : Int32) (a2 : Int32) (a3 : Int32) (a4 : Int32) (a5 : Int32) (s11 : OS) : Option (Int32 × OS) := Option.bind (f11_lies ((a1).toInt64) ((0 : Int64)) ((((s11.1 0 5) - (1 : Int32))).toInt64)) fun q_10 => if q_10 = 0 then (f11_back_j42 s11) else (chk (inb a1 100) (nm (s11.1 63 a1.toNatClampNeg) fun y_21 => if y_21 = (-1 : Int32) then (Option.bind (f11_isBits a4) fun q_28 => if q_28 = 0 then (f11_back_j42 s11) else (Option.bind (f11_isCabinet a5) fun q_36 => if q_36 = 0 then (f11_back_j42 s11) else (chk (inb a1 100) (nm (s11.1 59 a1.toNatClampNeg) fun y_49 => chk (inb y_49 150) (nm (s11.1 14 y_49.toNatClampNeg) fun y_61 => Option.bind (f11_lies ((a2).toInt64) ((0 : Int64)) ((y_61).toInt64)) fun q_63 => if q_63 = 0 then (f11_back_j88 s11) else (chk (inb y_49 150) (nm (s11.1 14 y_49.toNatClampNeg) fun y_78 => Option.bind (f11_lies ((a3).toInt64) ((0 : Int64)) (((y_78 - a2)).toInt64)) fun q_82 => if q_82 = 0 then (f11_back_j88 s11) else (chk (inb y_49 150) (nm (s11.1 14 y_49.toNatClampNeg) fun y_96 => nm (((y_96 - a2) - a3)) fun n_101 => chk (inb y_49 150) (nm (wI s11 14 y_49.toNatClampNeg a2) fun s11_110 => chk (inb y_49 150) (nm (s11_110.1 15 y_49.toNatClampNeg) fun y_118 => chk (inb y_49 150) (nm (wI s11_110 15 y_49.toNatClampNeg ((y_118 ||| a4))) fun s11_122 => chk (inb y_49 150) (nm (wI s11_122 16 y_49.toNatClampNeg a5) fun s11_131 => if a2 = 0 then (Option.bind (f11_isDone y_49 s11_131) fun q_139 => f11_back_j142 a1 a3 y_49 n_101 q_139) else (f11_back_j142 a1 a3 y_49 n_101 s11_131)))))))))))))) else (f11_back_j42 s11)))
set_option maxHeartbeats 4000000 in
set_option maxRecDepth 100000 in
theorem m11_back (l : Launch) (D : va_G) (ad : Nat → Nat) (cy : Nat → ClassId) (sz : Nat) (s11 : OS) (a1 : Int32) (a2 : Int32) (a3 : Int32) (a4 : Int32) (a5 : Int32) (r : Int32 × OS) (h : f11_back a1 a2 a3 a4 a5 s11 = some r) : Met l yX11_back (wsOf yX11_back cX11_back 8 (some .int)) (rmL 2) (va_Pc ([.ref (ad 0), .int a1, .int a2, .int a3, .int a4, .int a5] : List Value) (PreG D cy (cellsM ad cy s11) sz NM)) (QcI D ad 66 (cellsM ad cy r.2) (r.1) sz) 0 0 (Afr ad 66 sz) := by
  refine metG (own := RX11) (by decide) rfl (Nat.le_of_ble_eq_true rfl) fstM ?_ sz
  intro p e s m below meth c ls C0 hw hl
  obtain ⟨hx, hb, hml, hown, hts, hr, hlk, hK, hN⟩ := C0
  have hl : lv_has ls 8 [(0, .ref (ad 0)), (1, .int a1), (2, .int a2), (3, .int a3), (4, .int a4), (5, .int a5)] := hl
  generalize hQ : MQ below (QcI D ad 66 (cellsM ad cy r.2) (r.1) s.heap.size) ([.ref (ad 0), .int a1, .int a2, .int a3, .int a4, .int a5] : List Value).toArray s 0 0 (Afr ad 66 s.heap.size) = Q
  obtain ⟨H, hH⟩ : ∃ H : Heap, H = s.heap := ⟨_, rfl⟩
  obtain ⟨locs, hlc⟩ : ∃ L : List Loc, L = [] := ⟨_, rfl⟩
  have hw : Wd D (cellsM ad cy s11) (Afr ad 66 s.heap.size) s.heap H locs := by rw [hH, hlc]; exact hw
  suffices h0 : W p l e (rmL 2) s m ([.ref (ad 0), .int a1, .int a2, .int a3, .int a4, .int a5] : List Value).toArray below meth c H locs 0 0 Q (F0 m 0 ls []) by rw [hH, hlc] at h0; exact h0
  clear hH hlc
  unfold f11_back at h
  have hJ_142 : ∀ (v1_j142 : Int32) (v3_j142 : Int32) (v6_j142 : Int32) (v7_j142 : Int32) (s11_j142 : OS) (H : Heap) (locs : List Loc) (ls : Array Slot), f11_back_j142 v1_j142 v3_j142 v6_j142 v7_j142 s11_j142 = some r → Wd D (cellsM ad cy s11_j142) (Afr ad 66 s.heap.size) s.heap H locs → lv_has ls 8 [(0, .ref (ad 0)), (1, .int v1_j142), (3, .int v3_j142), (6, .int v6_j142), (7, .int v7_j142)] → W p l e (rmL 2) s m ([.ref (ad 0), .int a1, .int a2, .int a3, .int a4, .int a5] : List Value).toArray below meth c H locs 0 0 Q (F0 m 142 ls []) := by
    intro v1_j142 v3_j142 v6_j142 v7_j142 s11_j142 H locs ls h hw hl
    unfold f11_back_j142 at h
    refine lv_aload_n hx hb dX11_back_142 rfl (lv_at hl 0 rfl) ?_
    refine lv_iload hx hb dX11_back_143 (lv_at hl 3 rfl) ?_
    obtain ⟨q_145, h_145, h⟩ := bnd_e h
    have pg_145 := preG (av := [.ref (ad 0), .int v6_j142]) hK hw.1 hw.2.1 NM_keep NM_blind
    refine endV (mc := 0) (ms := 0) (va_runV (As := [.int v6_j142]) (rest := []) ⟨hx, hb, hml, hown, hts⟩ (m11_notes l D ad cy H.size s11_j142 v6_j142 q_145 h_145) (wX11_251 0 hts ⟨Nat.le_of_ble_eq_true rfl, Nat.le_of_ble_eq_true rfl⟩) ⟨pg_145.1, va_recv hK hw.1 (ci := 11) (q0 := 0) rfl eM_0, pg_145.2⟩ rfl rfl hl.1 rfl (lv_room (Nat.le_of_ble_eq_true rfl)) dX11_back_145 ⟨Nat.le_refl _, Nat.le_refl _⟩) hw.2.2 (afr_in hw.2.2) (fun H locs hw => ?_)
    refine lv_aload_n hx hb dX11_back_148 rfl (lv_at hl 0 rfl) ?_
    refine gX11_49 hx hb hts hown hK hw dX11_back_149 ?_
    refine lv_aload_n hx hb dX11_back_152 rfl (lv_at hl 0 rfl) ?_
    refine gX11_13 hx hb hts hown hK hw dX11_back_153 ?_
    refine lv_iload hx hb dX11_back_156 (lv_at hl 3 rfl) ?_
    obtain ⟨hi_158, h⟩ := chk_e h
    obtain ⟨y_158, e_158, h⟩ := nam_e h
    refine lM2 hx hb hK hw hi_158 e_158 dX11_back_158 ?_
    refine lv_dup2_11 hx hb dX11_back_159 rfl rfl ?_
    obtain ⟨hi_160, h⟩ := chk_e h
    obtain ⟨y_160, e_160, h⟩ := nam_e h
    refine lM13 hx hb hK hw hi_160 e_160 dX11_back_160 ?_
    refine lv_iload_n hx hb dX11_back_161 rfl (lv_at hl 2 rfl) ?_
    refine lv_i2l hx hb dX11_back_162 rfl ?_
    refine lv_ladd hx hb dX11_back_163 ?_
    obtain ⟨hi_164, h⟩ := chk_e h
    obtain ⟨s11_164, e_164, h⟩ := nam_e h
    refine aM13 hx hb hK hw hi_164 e_164 dX11_back_164 (fun H locs hw => ?_)
    refine lv_aload_n hx hb dX11_back_165 rfl (lv_at hl 0 rfl) ?_
    refine gX11_52 hx hb hts hown hK hw dX11_back_166 ?_
    refine lv_aload_n hx hb dX11_back_169 rfl (lv_at hl 0 rfl) ?_
    refine gX11_13 hx hb hts hown hK hw dX11_back_170 ?_
    refine lv_iload hx hb dX11_back_173 (lv_at hl 3 rfl) ?_
    obtain ⟨hi_175, h⟩ := chk_e h
    obtain ⟨y_175, e_175, h⟩ := nam_e h
    refine lM2 hx hb hK hw hi_175 e_175 dX11_back_175 ?_
    refine lv_dup2_11 hx hb dX11_back_176 rfl rfl ?_
    obtain ⟨hi_177, h⟩ := chk_e h
    obtain ⟨y_177, e_177, h⟩ := nam_e h
    refine lM14 hx hb hK hw hi_177 e_177 dX11_back_177 ?_
    refine lv_iload hx hb dX11_back_178 (lv_at hl 4 rfl) ?_
    refine lv_i2l hx hb dX11_back_180 rfl ?_
    refine lv_ladd hx hb dX11_back_181 ?_
    obtain ⟨hi_182, h⟩ := chk_e h
    obtain ⟨s11_182, e_182, h⟩ := nam_e h
    refine aM14 hx hb hK hw hi_182 e_182 dX11_back_182 (fun H locs hw => ?_)
    refine lv_aload_n hx hb dX11_back_183 rfl (lv_at hl 0 rfl) ?_
    refine gX11_76 hx hb hts hown hK hw dX11_back_184 ?_
    refine lv_aload_n hx hb dX11_back_187 rfl (lv_at hl 0 rfl) ?_
    refine gX11_124 hx hb hts hown hK hw dX11_back_188 ?_
    refine lv_iload_n hx hb dX11_back_191 rfl (lv_at hl 1 rfl) ?_
    obtain ⟨hi_192, h⟩ := chk_e h
    obtain ⟨y_192, e_192, h⟩ := nam_e h
    refine lM38 hx hb hK hw hi_192 e_192 dX11_back_192 ?_
    refine lv_dup2_11 hx hb dX11_back_193 rfl rfl ?_
    obtain ⟨hi_194, h⟩ := chk_e h
    obtain ⟨y_194, e_194, h⟩ := nam_e h
    refine lM22 hx hb hK hw hi_194 e_194 dX11_back_194 ?_
    refine lv_iload hx hb dX11_back_195 (lv_at hl 4 rfl) ?_
    refine lv_i2l hx hb dX11_back_197 rfl ?_
    refine lv_ladd hx hb dX11_back_198 ?_
    obtain ⟨hi_199, h⟩ := chk_e h
    obtain ⟨s11_199, e_199, h⟩ := nam_e h
    refine aM22 hx hb hK hw hi_199 e_199 dX11_back_199 (fun H locs hw => ?_)
    refine lv_aload_n hx hb dX11_back_200 rfl (lv_at hl 0 rfl) ?_
    refine gX11_136 hx hb hts hown hK hw dX11_back_201 ?_
    refine lv_iload_n hx hb dX11_back_204 rfl (lv_at hl 1 rfl) ?_
    refine lv_iload hx hb dX11_back_205 (lv_at hl 4 rfl) ?_
    obtain ⟨hi_207, h⟩ := chk_e h
    obtain ⟨s11_207, e_207, h⟩ := nam_e h
    refine aM42 hx hb hK hw hi_207 e_207 dX11_back_207 (fun H locs hw => ?_)
    refine lv_aload_n hx hb dX11_back_208 rfl (lv_at hl 0 rfl) ?_
    refine gX11_133 hx hb hts hown hK hw dX11_back_209 ?_
    refine lv_iload_n hx hb dX11_back_212 rfl (lv_at hl 1 rfl) ?_
    refine lv_aload_n hx hb dX11_back_213 rfl (lv_at hl 0 rfl) ?_
    refine gX11_225 hx hb hts hown hK hw dX11_back_214 ?_
    obtain ⟨hi_217, h⟩ := chk_e h
    obtain ⟨s11_217, e_217, h⟩ := nam_e h
    refine aM41 hx hb hK hw hi_217 e_217 dX11_back_217 (fun H locs hw => ?_)
    refine lv_iload hx hb dX11_back_218 (lv_at hl 4 rfl) ?_
    have h := Option.some.inj h
    subst h
    rw [← hQ]
    exact retI hx hb hr hlk hw rfl dX11_back_220
  have hJ_88 : ∀ (s11_j88 : OS) (H : Heap) (locs : List Loc) (ls : Array Slot), f11_back_j88 s11_j88 = some r → Wd D (cellsM ad cy s11_j88) (Afr ad 66 s.heap.size) s.heap H locs → lv_has ls 8 [] → W p l e (rmL 2) s m ([.ref (ad 0), .int a1, .int a2, .int a3, .int a4, .int a5] : List Value).toArray below meth c H locs 0 0 Q (F0 m 88 ls []) := by
    intro s11_j88 H locs ls h hw hl
    unfold f11_back_j88 at h
    refine lv_iconst (v := (-1)) hx hb dX11_back_88 (by decide) ?_
    have h := Option.some.inj h
    subst h
    rw [← hQ]
    exact retI hx hb hr hlk hw rfl dX11_back_89
  have hJ_42 : ∀ (s11_j42 : OS) (H : Heap) (locs : List Loc) (ls : Array Slot), f11_back_j42 s11_j42 = some r → Wd D (cellsM ad cy s11_j42) (Afr ad 66 s.heap.size) s.heap H locs → lv_has ls 8 [] → W p l e (rmL 2) s m ([.ref (ad 0), .int a1, .int a2, .int a3, .int a4, .int a5] : List Value).toArray below meth c H locs 0 0 Q (F0 m 42 ls []) := by
    intro s11_j42 H locs ls h hw hl
    unfold f11_back_j42 at h
    refine lv_iconst (v := (-1)) hx hb dX11_back_42 (by decide) ?_
    have h := Option.some.inj h
    subst h
    rw [← hQ]
    exact retI hx hb hr hlk hw rfl dX11_back_43
  refine lv_iload_n hx hb dX11_back_0 rfl (lv_at hl 1 rfl) ?_
  refine lv_i2l hx hb dX11_back_1 rfl ?_
  refine lv_lconst (v := 0) hx hb dX11_back_2 (by decide) ?_
  refine lv_aload_n hx hb dX11_back_3 rfl (lv_at hl 0 rfl) ?_
  refine gX11_399 hx hb hts hown hK hw dX11_back_4 ?_
  refine lv_iconst (v := 1) hx hb dX11_back_7 (by decide) ?_
  refine lv_isub hx hb dX11_back_8 ?_
  refine lv_i2l hx hb dX11_back_9 rfl ?_
  obtain ⟨q_10, h_10, h⟩ := bnd_e h
  have pg_10 := preG (av := [.long ((a1).toInt64), .long ((0 : Int64)), .long ((((s11.1 0 5) - (1 : Int32))).toInt64)]) hK hw.1 hw.2.1 NM_keep NM_blind
  refine endI (mc := 0) (ms := 0) (va_runS (As := [.long ((a1).toInt64), .long ((0 : Int64)), .long ((((s11.1 0 5) - (1 : Int32))).toInt64)]) (rest := []) ⟨hx, hb, hml, hown, hts⟩ (m11_lies l D ad cy H.size s11 ((a1).toInt64) ((0 : Int64)) ((((s11.1 0 5) - (1 : Int32))).toInt64) q_10 h_10) (wX11_215 0 hts ⟨Nat.le_of_ble_eq_true rfl, Nat.le_of_ble_eq_true rfl⟩) pg_10 rfl rfl hl.1 rfl (lv_room (Nat.le_of_ble_eq_true rfl)) dX11_back_10 ⟨Nat.le_refl _, Nat.le_refl _⟩) hw.2.2 (afr_in hw.2.2) (fun H locs hw => ?_)
  refine lv_if_eq (tgt := 42) hx hb dX11_back_13 (by decide) (fun c_13 => ?_) (fun c_13 => ?_)
  · have h := ite_t c_13 h
    exact hJ_42 s11 H locs ls h hw (lv_sub hl [] rfl)
  · have h := ite_f c_13 h
    refine lv_aload_n hx hb dX11_back_16 rfl (lv_at hl 0 rfl) ?_
    refine gX11_133 hx hb hts hown hK hw dX11_back_17 ?_
    refine lv_iload_n hx hb dX11_back_20 rfl (lv_at hl 1 rfl) ?_
    obtain ⟨hi_21, h⟩ := chk_e h
    obtain ⟨y_21, e_21, h⟩ := nam_e h
    refine lM41 hx hb hK hw hi_21 e_21 dX11_back_21 ?_
    refine lv_iconst (v := (-1)) hx hb dX11_back_22 (by decide) ?_
    refine lv_icmp_ne (tgt := 42) hx hb dX11_back_23 (by decide) (fun c_23 => ?_) (fun c_23 => ?_)
    · have h := ite_f c_23 h
      exact hJ_42 s11 H locs ls h hw (lv_sub hl [] rfl)
    · have h := ite_t c_23 h
      refine lv_iload hx hb dX11_back_26 (lv_at hl 4 rfl) ?_
      obtain ⟨q_28, h_28, h⟩ := bnd_e h
      have pg_28 := preG (av := [.int a4]) hK hw.1 hw.2.1 NM_keep NM_blind
      refine endI (mc := 0) (ms := 0) (va_runS (As := [.int a4]) (rest := []) ⟨hx, hb, hml, hown, hts⟩ (m11_isBits l D ad cy H.size s11 a4 q_28 h_28) (wX11_248 1 hts ⟨Nat.le_of_ble_eq_true rfl, Nat.le_of_ble_eq_true rfl⟩) pg_28 rfl rfl hl.1 rfl (lv_room (Nat.le_of_ble_eq_true rfl)) dX11_back_28 ⟨Nat.le_refl _, Nat.le_refl _⟩) hw.2.2 (afr_in hw.2.2) (fun H locs hw => ?_)
      refine lv_if_eq (tgt := 42) hx hb dX11_back_31 (by decide) (fun c_31 => ?_) (fun c_31 => ?_)
      · have h := ite_t c_31 h
        exact hJ_42 s11 H locs ls h hw (lv_sub hl [] rfl)
      · have h := ite_f c_31 h
        refine lv_iload hx hb dX11_back_34 (lv_at hl 5 rfl) ?_
        obtain ⟨q_36, h_36, h⟩ := bnd_e h
        have pg_36 := preG (av := [.int a5]) hK hw.1 hw.2.1 NM_keep NM_blind
        refine endI (mc := 0) (ms := 0) (va_runS (As := [.int a5]) (rest := []) ⟨hx, hb, hml, hown, hts⟩ (m11_isCabinet l D ad cy H.size s11 a5 q_36 h_36) (wX11_245 1 hts ⟨Nat.le_of_ble_eq_true rfl, Nat.le_of_ble_eq_true rfl⟩) pg_36 rfl rfl hl.1 rfl (lv_room (Nat.le_of_ble_eq_true rfl)) dX11_back_36 ⟨Nat.le_refl _, Nat.le_refl _⟩) hw.2.2 (afr_in hw.2.2) (fun H locs hw => ?_)
        refine lv_if_ne (tgt := 44) hx hb dX11_back_39 (by decide) (fun c_39 => ?_) (fun c_39 => ?_)
        · have h := ite_f c_39 h
          refine lv_aload_n hx hb dX11_back_44 rfl (lv_at hl 0 rfl) ?_
          refine gX11_121 hx hb hts hown hK hw dX11_back_45 ?_
          refine lv_iload_n hx hb dX11_back_48 rfl (lv_at hl 1 rfl) ?_
          obtain ⟨hi_49, h⟩ := chk_e h
          obtain ⟨y_49, e_49, h⟩ := nam_e h
          refine lM37 hx hb hK hw hi_49 e_49 dX11_back_49 ?_
          refine lv_istore (lv' := [(6, .int y_49), (0, .ref (ad 0)), (1, .int a1), (2, .int a2), (3, .int a3), (4, .int a4), (5, .int a5)]) hx hb dX11_back_50 hl (by decide) rfl (fun ls hl => ?_)
          refine lv_iload_n hx hb dX11_back_52 rfl (lv_at hl 3 rfl) ?_
          refine lv_i2l hx hb dX11_back_53 rfl ?_
          refine lv_lconst (v := 0) hx hb dX11_back_54 (by decide) ?_
          refine lv_aload_n hx hb dX11_back_55 rfl (lv_at hl 1 rfl) ?_
          refine gX11_20 hx hb hts hown hK hw dX11_back_56 ?_
          refine lv_iload hx hb dX11_back_59 (lv_at hl 0 rfl) ?_
          obtain ⟨hi_61, h⟩ := chk_e h
          obtain ⟨y_61, e_61, h⟩ := nam_e h
          refine lM4 hx hb hK hw hi_61 e_61 dX11_back_61 ?_
          refine lv_i2l hx hb dX11_back_62 rfl ?_
          obtain ⟨q_63, h_63, h⟩ := bnd_e h
          have pg_63 := preG (av := [.long ((a2).toInt64), .long ((0 : Int64)), .long ((y_61).toInt64)]) hK hw.1 hw.2.1 NM_keep NM_blind
          refine endI (mc := 0) (ms := 0) (va_runS (As := [.long ((a2).toInt64), .long ((0 : Int64)), .long ((y_61).toInt64)]) (rest := []) ⟨hx, hb, hml, hown, hts⟩ (m11_lies l D ad cy H.size s11 ((a2).toInt64) ((0 : Int64)) ((y_61).toInt64) q_63 h_63) (wX11_215 0 hts ⟨Nat.le_of_ble_eq_true rfl, Nat.le_of_ble_eq_true rfl⟩) pg_63 rfl rfl hl.1 rfl (lv_room (Nat.le_of_ble_eq_true rfl)) dX11_back_63 ⟨Nat.le_refl _, Nat.le_refl _⟩) hw.2.2 (afr_in hw.2.2) (fun H locs hw => ?_)
          refine lv_if_eq (tgt := 88) hx hb dX11_back_66 (by decide) (fun c_66 => ?_) (fun c_66 => ?_)
          · have h := ite_t c_66 h
            exact hJ_88 s11 H locs ls h hw (lv_sub hl [] rfl)
          · have h := ite_f c_66 h
            refine lv_iload_n hx hb dX11_back_69 rfl (lv_at hl 4 rfl) ?_
            refine lv_i2l hx hb dX11_back_70 rfl ?_
            refine lv_lconst (v := 0) hx hb dX11_back_71 (by decide) ?_
            refine lv_aload_n hx hb dX11_back_72 rfl (lv_at hl 1 rfl) ?_
            refine gX11_20 hx hb hts hown hK hw dX11_back_73 ?_
            refine lv_iload hx hb dX11_back_76 (lv_at hl 0 rfl) ?_
            obtain ⟨hi_78, h⟩ := chk_e h
            obtain ⟨y_78, e_78, h⟩ := nam_e h
            refine lM4 hx hb hK hw hi_78 e_78 dX11_back_78 ?_
            refine lv_iload_n hx hb dX11_back_79 rfl (lv_at hl 3 rfl) ?_
            refine lv_isub hx hb dX11_back_80 ?_
            refine lv_i2l hx hb dX11_back_81 rfl ?_
            obtain ⟨q_82, h_82, h⟩ := bnd_e h
            have pg_82 := preG (av := [.long ((a3).toInt64), .long ((0 : Int64)), .long (((y_78 - a2)).toInt64)]) hK hw.1 hw.2.1 NM_keep NM_blind
            refine endI (mc := 0) (ms := 0) (va_runS (As := [.long ((a3).toInt64), .long ((0 : Int64)), .long (((y_78 - a2)).toInt64)]) (rest := []) ⟨hx, hb, hml, hown, hts⟩ (m11_lies l D ad cy H.size s11 ((a3).toInt64) ((0 : Int64)) (((y_78 - a2)).toInt64) q_82 h_82) (wX11_215 0 hts ⟨Nat.le_of_ble_eq_true rfl, Nat.le_of_ble_eq_true rfl⟩) pg_82 rfl rfl hl.1 rfl (lv_room (Nat.le_of_ble_eq_true rfl)) dX11_back_82 ⟨Nat.le_refl _, Nat.le_refl _⟩) hw.2.2 (afr_in hw.2.2) (fun H locs hw => ?_)
            refine lv_if_ne (tgt := 90) hx hb dX11_back_85 (by decide) (fun c_85 => ?_) (fun c_85 => ?_)
            · have h := ite_f c_85 h
              refine lv_aload_n hx hb dX11_back_90 rfl (lv_at hl 1 rfl) ?_
              refine gX11_20 hx hb hts hown hK hw dX11_back_91 ?_
              refine lv_iload hx hb dX11_back_94 (lv_at hl 0 rfl) ?_
              obtain ⟨hi_96, h⟩ := chk_e h
              obtain ⟨y_96, e_96, h⟩ := nam_e h
              refine lM4 hx hb hK hw hi_96 e_96 dX11_back_96 ?_
              refine lv_iload_n hx hb dX11_back_97 rfl (lv_at hl 3 rfl) ?_
              refine lv_isub hx hb dX11_back_98 ?_
              refine lv_iload_n hx hb dX11_back_99 rfl (lv_at hl 4 rfl) ?_
              refine lv_isub hx hb dX11_back_100 ?_
              obtain ⟨n_101, e_101, h⟩ := nam_e h
              refine topI e_101 ?_
              refine lv_istore (lv' := [(7, .int n_101), (6, .int y_49), (0, .ref (ad 0)), (1, .int a1), (2, .int a2), (3, .int a3), (4, .int a4), (5, .int a5)]) hx hb dX11_back_101 hl (by decide) rfl (fun ls hl => ?_)
              refine lv_aload_n hx hb dX11_back_103 rfl (lv_at hl 2 rfl) ?_
              refine gX11_20 hx hb hts hown hK hw dX11_back_104 ?_
              refine lv_iload hx hb dX11_back_107 (lv_at hl 1 rfl) ?_
              refine lv_iload_n hx hb dX11_back_109 rfl (lv_at hl 4 rfl) ?_
              obtain ⟨hi_110, h⟩ := chk_e h
              obtain ⟨s11_110, e_110, h⟩ := nam_e h
              refine aM4 hx hb hK hw hi_110 e_110 dX11_back_110 (fun H locs hw => ?_)
              refine lv_aload_n hx hb dX11_back_111 rfl (lv_at hl 2 rfl) ?_
              refine gX11_23 hx hb hts hown hK hw dX11_back_112 ?_
              refine lv_iload hx hb dX11_back_115 (lv_at hl 1 rfl) ?_
              refine lv_dup2_11 hx hb dX11_back_117 rfl rfl ?_
              obtain ⟨hi_118, h⟩ := chk_e h
              obtain ⟨y_118, e_118, h⟩ := nam_e h
              refine lM5 hx hb hK hw hi_118 e_118 dX11_back_118 ?_
              refine lv_iload hx hb dX11_back_119 (lv_at hl 6 rfl) ?_
              refine lv_ior hx hb dX11_back_121 ?_
              obtain ⟨hi_122, h⟩ := chk_e h
              obtain ⟨s11_122, e_122, h⟩ := nam_e h
              refine aM5 hx hb hK hw hi_122 e_122 dX11_back_122 (fun H locs hw => ?_)
              refine lv_aload_n hx hb dX11_back_123 rfl (lv_at hl 2 rfl) ?_
              refine gX11_26 hx hb hts hown hK hw dX11_back_124 ?_
              refine lv_iload hx hb dX11_back_127 (lv_at hl 1 rfl) ?_
              refine lv_iload hx hb dX11_back_129 (lv_at hl 7 rfl) ?_
              obtain ⟨hi_131, h⟩ := chk_e h
              obtain ⟨s11_131, e_131, h⟩ := nam_e h
              refine aM6 hx hb hK hw hi_131 e_131 dX11_back_131 (fun H locs hw => ?_)
              refine lv_iload_n hx hb dX11_back_132 rfl (lv_at hl 4 rfl) ?_
              refine lv_if_ne (tgt := 142) hx hb dX11_back_133 (by decide) (fun c_133 => ?_) (fun c_133 => ?_)
              · have h := ite_f c_133 h
                exact hJ_142 a1 a3 y_49 n_101 s11_131 H locs ls h hw (lv_sub hl [2, 3, 5, 1, 0] rfl)
              · have h := ite_t c_133 h
                refine lv_aload_n hx hb dX11_back_136 rfl (lv_at hl 2 rfl) ?_
                refine lv_iload hx hb dX11_back_137 (lv_at hl 1 rfl) ?_
                obtain ⟨q_139, h_139, h⟩ := bnd_e h
                have pg_139 := preG (av := [.ref (ad 0), .int y_49]) hK hw.1 hw.2.1 NM_keep NM_blind
                refine endV (mc := 0) (ms := 0) (va_runV (As := [.int y_49]) (rest := []) ⟨hx, hb, hml, hown, hts⟩ (m11_isDone l D ad cy H.size s11_131 y_49 q_139 h_139) (wX11_279 0 hts ⟨Nat.le_of_ble_eq_true rfl, Nat.le_of_ble_eq_true rfl⟩) ⟨pg_139.1, va_recv hK hw.1 (ci := 11) (q0 := 0) rfl eM_0, pg_139.2⟩ rfl rfl hl.1 rfl (lv_room (Nat.le_of_ble_eq_true rfl)) dX11_back_139 ⟨Nat.le_refl _, Nat.le_refl _⟩) hw.2.2 (afr_in hw.2.2) (fun H locs hw => ?_)
                exact hJ_142 a1 a3 y_49 n_101 q_139 H locs ls h hw (lv_sub hl [2, 3, 5, 1, 0] rfl)
            · have h := ite_t c_85 h
              exact hJ_88 s11 H locs ls h hw (lv_sub hl [] rfl)
        · have h := ite_t c_39 h
          exact hJ_42 s11 H locs ls h hw (lv_sub hl [] rfl)
theorem dX11_rowsOf_0 : decode cX11_rowsOf 0 = .ok (.iconst 1, 1) := by decide +kernel
theorem dX11_rowsOf_1 : decode cX11_rowsOf 1 = .ok (.istore_n 2, 1) := by decide +kernel
theorem dX11_rowsOf_2 : decode cX11_rowsOf 2 = .ok (.iconst 0, 1) := by decide +kernel
theorem dX11_rowsOf_3 : decode cX11_rowsOf 3 = .ok (.istore_n 3, 1) := by decide +kernel
theorem dX11_rowsOf_4 : decode cX11_rowsOf 4 = .ok (.iload_n 3, 1) := by decide +kernel
theorem dX11_rowsOf_5 : decode cX11_rowsOf 5 = .ok (.iload_n 1, 1) := by decide +kernel
theorem dX11_rowsOf_6 : decode cX11_rowsOf 6 = .ok (.if_icmp .ge 13, 3) := by decide +kernel
theorem dX11_rowsOf_9 : decode cX11_rowsOf 9 = .ok (.iload_n 2, 1) := by decide +kernel
theorem dX11_rowsOf_10 : decode cX11_rowsOf 10 = .ok (.iconst 5, 1) := by decide +kernel
theorem dX11_rowsOf_11 : decode cX11_rowsOf 11 = .ok (.imul, 1) := by decide +kernel
theorem dX11_rowsOf_12 : decode cX11_rowsOf 12 = .ok (.istore_n 2, 1) := by decide +kernel
theorem dX11_rowsOf_13 : decode cX11_rowsOf 13 = .ok (.iinc 3 1, 3) := by decide +kernel
theorem dX11_rowsOf_16 : decode cX11_rowsOf 16 = .ok (.goto (-12), 3) := by decide +kernel
theorem dX11_rowsOf_19 : decode cX11_rowsOf 19 = .ok (.iload_n 2, 1) := by decide +kernel
theorem dX11_rowsOf_20 : decode cX11_rowsOf 20 = .ok (.ireturn, 1) := by decide +kernel
noncomputable def f11_rowsOf_l4 (v1_i4 : Int32) : Int32 × Int32 → Option ((Int32 × Int32) ⊕ (Int32)) := fun t_4 => if v1_i4 ≤ t_4.2 then (Option.map Sum.inr (some t_4.1)) else (nm ((t_4.1 * (5 : Int32))) fun n_12 => nm (t_4.2 + (1 : Int32)) fun n_13 => some (Sum.inl (n_12, n_13)))
noncomputable def f11_rowsOf (a1 : Int32) : Option (Int32) := loop (f11_rowsOf_l4 a1) ((1 : Int32), (0 : Int32))
set_option maxHeartbeats 4000000 in
set_option maxRecDepth 100000 in
theorem m11_rowsOf (l : Launch) (D : va_G) (ad : Nat → Nat) (cy : Nat → ClassId) (sz : Nat) (s11 : OS) (a1 : Int32) (r : Int32) (h : f11_rowsOf a1 = some r) : Met l yX11_rowsOf (wsOf yX11_rowsOf cX11_rowsOf 4 (some .int)) (rmL 0) (va_Pc ([.ref (ad 0), .int a1] : List Value) (PreG D cy (cellsM ad cy s11) sz NM)) (QcI D ad 66 (cellsM ad cy s11) (r) sz) 0 0 (Afr ad 66 sz) := by
  refine metG (own := RX11) (by decide) rfl (Nat.le_of_ble_eq_true rfl) fstM ?_ sz
  intro p e s m below meth c ls C0 hw hl
  obtain ⟨hx, hb, hml, hown, hts, hr, hlk, hK, hN⟩ := C0
  have hl : lv_has ls 4 [(0, .ref (ad 0)), (1, .int a1)] := hl
  generalize hQ : MQ below (QcI D ad 66 (cellsM ad cy s11) (r) s.heap.size) ([.ref (ad 0), .int a1] : List Value).toArray s 0 0 (Afr ad 66 s.heap.size) = Q
  obtain ⟨H, hH⟩ : ∃ H : Heap, H = s.heap := ⟨_, rfl⟩
  obtain ⟨locs, hlc⟩ : ∃ L : List Loc, L = [] := ⟨_, rfl⟩
  have hw : Wd D (cellsM ad cy s11) (Afr ad 66 s.heap.size) s.heap H locs := by rw [hH, hlc]; exact hw
  suffices h0 : W p l e (rmL 0) s m ([.ref (ad 0), .int a1] : List Value).toArray below meth c H locs 0 0 Q (F0 m 0 ls []) by rw [hH, hlc] at h0; exact h0
  clear hH hlc
  unfold f11_rowsOf at h
  refine lv_iconst (v := 1) hx hb dX11_rowsOf_0 (by decide) ?_
  refine lv_istore_n (lv' := [(2, .int ((1 : Int32))), (0, .ref (ad 0)), (1, .int a1)]) hx hb dX11_rowsOf_1 rfl hl (by decide) rfl (fun ls hl => ?_)
  refine lv_iconst (v := 0) hx hb dX11_rowsOf_2 (by decide) ?_
  refine lv_istore_n (lv' := [(3, .int ((0 : Int32))), (2, .int ((1 : Int32))), (0, .ref (ad 0)), (1, .int a1)]) hx hb dX11_rowsOf_3 rfl hl (by decide) rfl (fun ls hl => ?_)
  obtain ⟨n_4, hn_4⟩ := loop_e h
  have hL_4 : ∀ (n : Nat) (t_4 : Int32 × Int32) (H : Heap) (locs : List Loc) (ls : Array Slot), loopN (f11_rowsOf_l4 a1) n t_4 = some r → Wd D (cellsM ad cy s11) (Afr ad 66 s.heap.size) s.heap H locs → lv_has ls 4 [(2, .int t_4.1), (3, .int t_4.2), (1, .int a1)] → W p l e (rmL 0) s m ([.ref (ad 0), .int a1] : List Value).toArray below meth c H locs 0 0 Q (F0 m 4 ls []) := by
    intro n
    induction n with
    | zero => intro t_4 H locs ls hn; cases hn
    | succ n ih_4 =>
      intro t_4 H locs ls hn hw hl
      obtain ⟨x_4, h, hx_4⟩ := loopN_e hn
      unfold f11_rowsOf_l4 at h
      refine lv_iload_n hx hb dX11_rowsOf_4 rfl (lv_at hl 1 rfl) ?_
      refine lv_iload_n hx hb dX11_rowsOf_5 rfl (lv_at hl 2 rfl) ?_
      refine lv_icmp_ge (tgt := 19) hx hb dX11_rowsOf_6 (by decide) (fun c_6 => ?_) (fun c_6 => ?_)
      · have h := ite_t c_6 h
        have h := nx_m hx_4 h
        refine lv_iload_n hx hb dX11_rowsOf_19 rfl (lv_at hl 0 rfl) ?_
        have h := Option.some.inj h
        subst h
        rw [← hQ]
        exact retI hx hb hr hlk hw rfl dX11_rowsOf_20
      · have h := ite_f c_6 h
        refine lv_iload_n hx hb dX11_rowsOf_9 rfl (lv_at hl 0 rfl) ?_
        refine lv_iconst (v := 5) hx hb dX11_rowsOf_10 (by decide) ?_
        refine lv_imul hx hb dX11_rowsOf_11 ?_
        obtain ⟨n_12, e_12, h⟩ := nam_e h
        refine topI e_12 ?_
        refine lv_istore_n (lv' := [(2, .int n_12), (3, .int t_4.2), (1, .int a1)]) hx hb dX11_rowsOf_12 rfl hl (by decide) rfl (fun ls hl => ?_)
        obtain ⟨n_13, e_13, h⟩ := nam_e h
        refine lv_iinc (v := n_13) (lv' := [(3, .int n_13), (2, .int n_12), (1, .int a1)]) hx hb dX11_rowsOf_13 hl (k := 1) rfl (by rw [e_13]; rfl) (by decide) rfl (fun ls hl => ?_)
        refine lv_goto (tgt := 4) hx hb dX11_rowsOf_16 (by decide) ?_
        exact ih_4 (n_12, n_13) H locs ls (nx_l hx_4 h) hw (lv_sub hl [1, 0, 2] rfl)
  exact hL_4 n_4 ((1 : Int32), (0 : Int32)) H locs ls hn_4 hw (lv_sub hl [1, 0, 3] rfl)
theorem dX11_isPiece_0 : decode cX11_isPiece 0 = .ok (.iload_n 1, 1) := by decide +kernel
theorem dX11_isPiece_1 : decode cX11_isPiece 1 = .ok (.i2l, 1) := by decide +kernel
theorem dX11_isPiece_2 : decode cX11_isPiece 2 = .ok (.lconst 0, 1) := by decide +kernel
theorem dX11_isPiece_3 : decode cX11_isPiece 3 = .ok (.aload_n 0, 1) := by decide +kernel
theorem dX11_isPiece_4 : decode cX11_isPiece 4 = .ok (.getfield 235, 3) := by decide +kernel
theorem dX11_isPiece_7 : decode cX11_isPiece 7 = .ok (.iconst 1, 1) := by decide +kernel
theorem dX11_isPiece_8 : decode cX11_isPiece 8 = .ok (.isub, 1) := by decide +kernel
theorem dX11_isPiece_9 : decode cX11_isPiece 9 = .ok (.i2l, 1) := by decide +kernel
theorem dX11_isPiece_10 : decode cX11_isPiece 10 = .ok (.invokestatic 215, 3) := by decide +kernel
theorem dX11_isPiece_13 : decode cX11_isPiece 13 = .ok (.ireturn, 1) := by decide +kernel
def f11_isPiece (a1 : Int32) (s11 : OS) : Option (Int32) := Option.bind (f11_lies ((a1).toInt64) ((0 : Int64)) ((((s11.1 0 3) - (1 : Int32))).toInt64)) fun q_10 => chk (isB q_10) (some q_10)
set_option maxHeartbeats 4000000 in
set_option maxRecDepth 100000 in
theorem m11_isPiece (l : Launch) (D : va_G) (ad : Nat → Nat) (cy : Nat → ClassId) (sz : Nat) (s11 : OS) (a1 : Int32) (r : Int32) (h : f11_isPiece a1 s11 = some r) : Met l yX11_isPiece (wsOf yX11_isPiece cX11_isPiece 2 (some .boolean)) (rmL 1) (va_Pc ([.ref (ad 0), .int a1] : List Value) (PreG D cy (cellsM ad cy s11) sz NM)) (QcI D ad 66 (cellsM ad cy s11) (r) sz) 0 0 (Afr ad 66 sz) := by
  refine metG (own := RX11) (by decide) rfl (Nat.le_of_ble_eq_true rfl) fstM ?_ sz
  intro p e s m below meth c ls C0 hw hl
  obtain ⟨hx, hb, hml, hown, hts, hr, hlk, hK, hN⟩ := C0
  have hl : lv_has ls 2 [(0, .ref (ad 0)), (1, .int a1)] := hl
  generalize hQ : MQ below (QcI D ad 66 (cellsM ad cy s11) (r) s.heap.size) ([.ref (ad 0), .int a1] : List Value).toArray s 0 0 (Afr ad 66 s.heap.size) = Q
  obtain ⟨H, hH⟩ : ∃ H : Heap, H = s.heap := ⟨_, rfl⟩
  obtain ⟨locs, hlc⟩ : ∃ L : List Loc, L = [] := ⟨_, rfl⟩
  have hw : Wd D (cellsM ad cy s11) (Afr ad 66 s.heap.size) s.heap H locs := by rw [hH, hlc]; exact hw
  suffices h0 : W p l e (rmL 1) s m ([.ref (ad 0), .int a1] : List Value).toArray below meth c H locs 0 0 Q (F0 m 0 ls []) by rw [hH, hlc] at h0; exact h0
  clear hH hlc
  unfold f11_isPiece at h
  refine lv_iload_n hx hb dX11_isPiece_0 rfl (lv_at hl 1 rfl) ?_
  refine lv_i2l hx hb dX11_isPiece_1 rfl ?_
  refine lv_lconst (v := 0) hx hb dX11_isPiece_2 (by decide) ?_
  refine lv_aload_n hx hb dX11_isPiece_3 rfl (lv_at hl 0 rfl) ?_
  refine gX11_235 hx hb hts hown hK hw dX11_isPiece_4 ?_
  refine lv_iconst (v := 1) hx hb dX11_isPiece_7 (by decide) ?_
  refine lv_isub hx hb dX11_isPiece_8 ?_
  refine lv_i2l hx hb dX11_isPiece_9 rfl ?_
  obtain ⟨q_10, h_10, h⟩ := bnd_e h
  have pg_10 := preG (av := [.long ((a1).toInt64), .long ((0 : Int64)), .long ((((s11.1 0 3) - (1 : Int32))).toInt64)]) hK hw.1 hw.2.1 NM_keep NM_blind
  refine endI (mc := 0) (ms := 0) (va_runS (As := [.long ((a1).toInt64), .long ((0 : Int64)), .long ((((s11.1 0 3) - (1 : Int32))).toInt64)]) (rest := []) ⟨hx, hb, hml, hown, hts⟩ (m11_lies l D ad cy H.size s11 ((a1).toInt64) ((0 : Int64)) ((((s11.1 0 3) - (1 : Int32))).toInt64) q_10 h_10) (wX11_215 0 hts ⟨Nat.le_of_ble_eq_true rfl, Nat.le_of_ble_eq_true rfl⟩) pg_10 rfl rfl hl.1 rfl (lv_room (Nat.le_of_ble_eq_true rfl)) dX11_isPiece_10 ⟨Nat.le_refl _, Nat.le_refl _⟩) hw.2.2 (afr_in hw.2.2) (fun H locs hw => ?_)
  obtain ⟨hz_13, h⟩ := chk_e h
  have h := Option.some.inj h
  subst h
  rw [← hQ]
  exact retI hx hb hr hlk hw (narB hz_13) dX11_isPiece_13
theorem dX11_isThere_0 : decode cX11_isThere 0 = .ok (.aload_n 0, 1) := by decide +kernel
theorem dX11_isThere_1 : decode cX11_isThere 1 = .ok (.iload_n 1, 1) := by decide +kernel
theorem dX11_isThere_2 : decode cX11_isThere 2 = .ok (.invokevirtual 238, 3) := by decide +kernel
theorem dX11_isThere_5 : decode cX11_isThere 5 = .ok (.ifCond .eq 18, 3) := by decide +kernel
theorem dX11_isThere_8 : decode cX11_isThere 8 = .ok (.aload_n 0, 1) := by decide +kernel
theorem dX11_isThere_9 : decode cX11_isThere 9 = .ok (.getfield 26, 3) := by decide +kernel
theorem dX11_isThere_12 : decode cX11_isThere 12 = .ok (.iload_n 1, 1) := by decide +kernel
theorem dX11_isThere_13 : decode cX11_isThere 13 = .ok (.iaload, 1) := by decide +kernel
theorem dX11_isThere_14 : decode cX11_isThere 14 = .ok (.bipush 10, 2) := by decide +kernel
theorem dX11_isThere_16 : decode cX11_isThere 16 = .ok (.if_icmp .ge 7, 3) := by decide +kernel
theorem dX11_isThere_19 : decode cX11_isThere 19 = .ok (.iconst 1, 1) := by decide +kernel
theorem dX11_isThere_20 : decode cX11_isThere 20 = .ok (.goto 4, 3) := by decide +kernel
theorem dX11_isThere_23 : decode cX11_isThere 23 = .ok (.iconst 0, 1) := by decide +kernel
theorem dX11_isThere_24 : decode cX11_isThere 24 = .ok (.ireturn, 1) := by decide +kernel
def f11_isThere_j24 (k0_j24 : Int32) (s11_j24 : OS) : Option (Int32) := chk (isB k0_j24) (some k0_j24)
def f11_isThere_j23 (s11_j23 : OS) : Option (Int32) := f11_isThere_j24 ((0 : Int32)) s11_j23
def f11_isThere (a1 : Int32) (s11 : OS) : Option (Int32) := Option.bind (f11_isPiece a1 s11) fun q_2 => if q_2 = 0 then (f11_isThere_j23 s11) else (chk (inb a1 150) (nm (s11.1 16 a1.toNatClampNeg) fun y_13 => if (10 : Int32) ≤ y_13 then (f11_isThere_j23 s11) else (f11_isThere_j24 ((1 : Int32)) s11)))
set_option maxHeartbeats 4000000 in
set_option maxRecDepth 100000 in
theorem m11_isThere (l : Launch) (D : va_G) (ad : Nat → Nat) (cy : Nat → ClassId) (sz : Nat) (s11 : OS) (a1 : Int32) (r : Int32) (h : f11_isThere a1 s11 = some r) : Met l yX11_isThere (wsOf yX11_isThere cX11_isThere 2 (some .boolean)) (rmL 2) (va_Pc ([.ref (ad 0), .int a1] : List Value) (PreG D cy (cellsM ad cy s11) sz NM)) (QcI D ad 66 (cellsM ad cy s11) (r) sz) 0 0 (Afr ad 66 sz) := by
  refine metG (own := RX11) (by decide) rfl (Nat.le_of_ble_eq_true rfl) fstM ?_ sz
  intro p e s m below meth c ls C0 hw hl
  obtain ⟨hx, hb, hml, hown, hts, hr, hlk, hK, hN⟩ := C0
  have hl : lv_has ls 2 [(0, .ref (ad 0)), (1, .int a1)] := hl
  generalize hQ : MQ below (QcI D ad 66 (cellsM ad cy s11) (r) s.heap.size) ([.ref (ad 0), .int a1] : List Value).toArray s 0 0 (Afr ad 66 s.heap.size) = Q
  obtain ⟨H, hH⟩ : ∃ H : Heap, H = s.heap := ⟨_, rfl⟩
  obtain ⟨locs, hlc⟩ : ∃ L : List Loc, L = [] := ⟨_, rfl⟩
  have hw : Wd D (cellsM ad cy s11) (Afr ad 66 s.heap.size) s.heap H locs := by rw [hH, hlc]; exact hw
  suffices h0 : W p l e (rmL 2) s m ([.ref (ad 0), .int a1] : List Value).toArray below meth c H locs 0 0 Q (F0 m 0 ls []) by rw [hH, hlc] at h0; exact h0
  clear hH hlc
  unfold f11_isThere at h
  have hJ_24 : ∀ (k0_j24 : Int32) (H : Heap) (locs : List Loc) (ls : Array Slot), f11_isThere_j24 k0_j24 s11 = some r → Wd D (cellsM ad cy s11) (Afr ad 66 s.heap.size) s.heap H locs → lv_has ls 2 [] → W p l e (rmL 2) s m ([.ref (ad 0), .int a1] : List Value).toArray below meth c H locs 0 0 Q (F0 m 24 ls [.int k0_j24]) := by
    intro k0_j24 H locs ls h hw hl
    unfold f11_isThere_j24 at h
    obtain ⟨hz_24, h⟩ := chk_e h
    have h := Option.some.inj h
    subst h
    rw [← hQ]
    exact retI hx hb hr hlk hw (narB hz_24) dX11_isThere_24
  have hJ_23 : ∀  (H : Heap) (locs : List Loc) (ls : Array Slot), f11_isThere_j23 s11 = some r → Wd D (cellsM ad cy s11) (Afr ad 66 s.heap.size) s.heap H locs → lv_has ls 2 [] → W p l e (rmL 2) s m ([.ref (ad 0), .int a1] : List Value).toArray below meth c H locs 0 0 Q (F0 m 23 ls []) := by
    intro  H locs ls h hw hl
    unfold f11_isThere_j23 at h
    refine lv_iconst (v := 0) hx hb dX11_isThere_23 (by decide) ?_
    exact hJ_24 ((0 : Int32)) H locs ls h hw (lv_sub hl [] rfl)
  refine lv_aload_n hx hb dX11_isThere_0 rfl (lv_at hl 0 rfl) ?_
  refine lv_iload_n hx hb dX11_isThere_1 rfl (lv_at hl 1 rfl) ?_
  obtain ⟨q_2, h_2, h⟩ := bnd_e h
  have pg_2 := preG (av := [.ref (ad 0), .int a1]) hK hw.1 hw.2.1 NM_keep NM_blind
  refine endI (mc := 0) (ms := 0) (va_runV (As := [.int a1]) (rest := []) ⟨hx, hb, hml, hown, hts⟩ (m11_isPiece l D ad cy H.size s11 a1 q_2 h_2) (wX11_238 1 hts ⟨Nat.le_of_ble_eq_true rfl, Nat.le_of_ble_eq_true rfl⟩) ⟨pg_2.1, va_recv hK hw.1 (ci := 11) (q0 := 0) rfl eM_0, pg_2.2⟩ rfl rfl hl.1 rfl (lv_room (Nat.le_of_ble_eq_true rfl)) dX11_isThere_2 ⟨Nat.le_refl _, Nat.le_refl _⟩) hw.2.2 (afr_in hw.2.2) (fun H locs hw => ?_)
  refine lv_if_eq (tgt := 23) hx hb dX11_isThere_5 (by decide) (fun c_5 => ?_) (fun c_5 => ?_)
  · have h := ite_t c_5 h
    exact hJ_23  H locs ls h hw (lv_sub hl [] rfl)
  · have h := ite_f c_5 h
    refine lv_aload_n hx hb dX11_isThere_8 rfl (lv_at hl 0 rfl) ?_
    refine gX11_26 hx hb hts hown hK hw dX11_isThere_9 ?_
    refine lv_iload_n hx hb dX11_isThere_12 rfl (lv_at hl 1 rfl) ?_
    obtain ⟨hi_13, h⟩ := chk_e h
    obtain ⟨y_13, e_13, h⟩ := nam_e h
    refine lM6 hx hb hK hw hi_13 e_13 dX11_isThere_13 ?_
    refine lv_bipush (v := 10) hx hb dX11_isThere_14 (by decide) ?_
    refine lv_icmp_ge (tgt := 23) hx hb dX11_isThere_16 (by decide) (fun c_16 => ?_) (fun c_16 => ?_)
    · have h := ite_t c_16 h
      exact hJ_23  H locs ls h hw (lv_sub hl [] rfl)
    · have h := ite_f c_16 h
      refine lv_iconst (v := 1) hx hb dX11_isThere_19 (by decide) ?_
      refine lv_goto (tgt := 24) hx hb dX11_isThere_20 (by decide) ?_
      exact hJ_24 ((1 : Int32)) H locs ls h hw (lv_sub hl [] rfl)
theorem dX11_isOpen_0 : decode cX11_isOpen 0 = .ok (.aload_n 0, 1) := by decide +kernel
theorem dX11_isOpen_1 : decode cX11_isOpen 1 = .ok (.iload_n 1, 1) := by decide +kernel
theorem dX11_isOpen_2 : decode cX11_isOpen 2 = .ok (.invokevirtual 263, 3) := by decide +kernel
theorem dX11_isOpen_5 : decode cX11_isOpen 5 = .ok (.ifCond .eq 16, 3) := by decide +kernel
theorem dX11_isOpen_8 : decode cX11_isOpen 8 = .ok (.aload_n 0, 1) := by decide +kernel
theorem dX11_isOpen_9 : decode cX11_isOpen 9 = .ok (.getfield 35, 3) := by decide +kernel
theorem dX11_isOpen_12 : decode cX11_isOpen 12 = .ok (.iload_n 1, 1) := by decide +kernel
theorem dX11_isOpen_13 : decode cX11_isOpen 13 = .ok (.baload, 1) := by decide +kernel
theorem dX11_isOpen_14 : decode cX11_isOpen 14 = .ok (.ifCond .ne 7, 3) := by decide +kernel
theorem dX11_isOpen_17 : decode cX11_isOpen 17 = .ok (.iconst 1, 1) := by decide +kernel
theorem dX11_isOpen_18 : decode cX11_isOpen 18 = .ok (.goto 4, 3) := by decide +kernel
theorem dX11_isOpen_21 : decode cX11_isOpen 21 = .ok (.iconst 0, 1) := by decide +kernel
theorem dX11_isOpen_22 : decode cX11_isOpen 22 = .ok (.ireturn, 1) := by decide +kernel
def f11_isOpen_j22 (k0_j22 : Int32) (s11_j22 : OS) : Option (Int32) := chk (isB k0_j22) (some k0_j22)
def f11_isOpen_j21 (s11_j21 : OS) : Option (Int32) := f11_isOpen_j22 ((0 : Int32)) s11_j21
def f11_isOpen (a1 : Int32) (s11 : OS) : Option (Int32) := Option.bind (f11_isThere a1 s11) fun q_2 => if q_2 = 0 then (f11_isOpen_j21 s11) else (chk (inb a1 150) (nm (s11.1 19 a1.toNatClampNeg) fun y_13 => if y_13 = 0 then (f11_isOpen_j22 ((1 : Int32)) s11) else (f11_isOpen_j21 s11)))
set_option maxHeartbeats 4000000 in
set_option maxRecDepth 100000 in
theorem m11_isOpen (l : Launch) (D : va_G) (ad : Nat → Nat) (cy : Nat → ClassId) (sz : Nat) (s11 : OS) (a1 : Int32) (r : Int32) (h : f11_isOpen a1 s11 = some r) : Met l yX11_isOpen (wsOf yX11_isOpen cX11_isOpen 2 (some .boolean)) (rmL 3) (va_Pc ([.ref (ad 0), .int a1] : List Value) (PreG D cy (cellsM ad cy s11) sz NM)) (QcI D ad 66 (cellsM ad cy s11) (r) sz) 0 0 (Afr ad 66 sz) := by
  refine metG (own := RX11) (by decide) rfl (Nat.le_of_ble_eq_true rfl) fstM ?_ sz
  intro p e s m below meth c ls C0 hw hl
  obtain ⟨hx, hb, hml, hown, hts, hr, hlk, hK, hN⟩ := C0
  have hl : lv_has ls 2 [(0, .ref (ad 0)), (1, .int a1)] := hl
  generalize hQ : MQ below (QcI D ad 66 (cellsM ad cy s11) (r) s.heap.size) ([.ref (ad 0), .int a1] : List Value).toArray s 0 0 (Afr ad 66 s.heap.size) = Q
  obtain ⟨H, hH⟩ : ∃ H : Heap, H = s.heap := ⟨_, rfl⟩
  obtain ⟨locs, hlc⟩ : ∃ L : List Loc, L = [] := ⟨_, rfl⟩
  have hw : Wd D (cellsM ad cy s11) (Afr ad 66 s.heap.size) s.heap H locs := by rw [hH, hlc]; exact hw
  suffices h0 : W p l e (rmL 3) s m ([.ref (ad 0), .int a1] : List Value).toArray below meth c H locs 0 0 Q (F0 m 0 ls []) by rw [hH, hlc] at h0; exact h0
  clear hH hlc
  unfold f11_isOpen at h
  have hJ_22 : ∀ (k0_j22 : Int32) (H : Heap) (locs : List Loc) (ls : Array Slot), f11_isOpen_j22 k0_j22 s11 = some r → Wd D (cellsM ad cy s11) (Afr ad 66 s.heap.size) s.heap H locs → lv_has ls 2 [] → W p l e (rmL 3) s m ([.ref (ad 0), .int a1] : List Value).toArray below meth c H locs 0 0 Q (F0 m 22 ls [.int k0_j22]) := by
    intro k0_j22 H locs ls h hw hl
    unfold f11_isOpen_j22 at h
    obtain ⟨hz_22, h⟩ := chk_e h
    have h := Option.some.inj h
    subst h
    rw [← hQ]
    exact retI hx hb hr hlk hw (narB hz_22) dX11_isOpen_22
  have hJ_21 : ∀  (H : Heap) (locs : List Loc) (ls : Array Slot), f11_isOpen_j21 s11 = some r → Wd D (cellsM ad cy s11) (Afr ad 66 s.heap.size) s.heap H locs → lv_has ls 2 [] → W p l e (rmL 3) s m ([.ref (ad 0), .int a1] : List Value).toArray below meth c H locs 0 0 Q (F0 m 21 ls []) := by
    intro  H locs ls h hw hl
    unfold f11_isOpen_j21 at h
    refine lv_iconst (v := 0) hx hb dX11_isOpen_21 (by decide) ?_
    exact hJ_22 ((0 : Int32)) H locs ls h hw (lv_sub hl [] rfl)
  refine lv_aload_n hx hb dX11_isOpen_0 rfl (lv_at hl 0 rfl) ?_
  refine lv_iload_n hx hb dX11_isOpen_1 rfl (lv_at hl 1 rfl) ?_
  obtain ⟨q_2, h_2, h⟩ := bnd_e h
  have pg_2 := preG (av := [.ref (ad 0), .int a1]) hK hw.1 hw.2.1 NM_keep NM_blind
  refine endI (mc := 0) (ms := 0) (va_runV (As := [.int a1]) (rest := []) ⟨hx, hb, hml, hown, hts⟩ (m11_isThere l D ad cy H.size s11 a1 q_2 h_2) (wX11_263 2 hts ⟨Nat.le_of_ble_eq_true rfl, Nat.le_of_ble_eq_true rfl⟩) ⟨pg_2.1, va_recv hK hw.1 (ci := 11) (q0 := 0) rfl eM_0, pg_2.2⟩ rfl rfl hl.1 rfl (lv_room (Nat.le_of_ble_eq_true rfl)) dX11_isOpen_2 ⟨Nat.le_refl _, Nat.le_refl _⟩) hw.2.2 (afr_in hw.2.2) (fun H locs hw => ?_)
  refine lv_if_eq (tgt := 21) hx hb dX11_isOpen_5 (by decide) (fun c_5 => ?_) (fun c_5 => ?_)
  · have h := ite_t c_5 h
    exact hJ_21  H locs ls h hw (lv_sub hl [] rfl)
  · have h := ite_f c_5 h
    refine lv_aload_n hx hb dX11_isOpen_8 rfl (lv_at hl 0 rfl) ?_
    refine gX11_35 hx hb hts hown hK hw dX11_isOpen_9 ?_
    refine lv_iload_n hx hb dX11_isOpen_12 rfl (lv_at hl 1 rfl) ?_
    obtain ⟨hi_13, h⟩ := chk_e h
    obtain ⟨y_13, e_13, h⟩ := nam_e h
    refine lM9 hx hb hK hw hi_13 e_13 dX11_isOpen_13 ?_
    refine lv_if_ne (tgt := 21) hx hb dX11_isOpen_14 (by decide) (fun c_14 => ?_) (fun c_14 => ?_)
    · have h := ite_f c_14 h
      exact hJ_21  H locs ls h hw (lv_sub hl [] rfl)
    · have h := ite_t c_14 h
      refine lv_iconst (v := 1) hx hb dX11_isOpen_17 (by decide) ?_
      refine lv_goto (tgt := 22) hx hb dX11_isOpen_18 (by decide) ?_
      exact hJ_22 ((1 : Int32)) H locs ls h hw (lv_sub hl [] rfl)
theorem dX11_stocks_0 : decode cX11_stocks 0 = .ok (.aload_n 0, 1) := by decide +kernel
theorem dX11_stocks_1 : decode cX11_stocks 1 = .ok (.iconst 0, 1) := by decide +kernel
theorem dX11_stocks_2 : decode cX11_stocks 2 = .ok (.putfield 512, 3) := by decide +kernel
theorem dX11_stocks_5 : decode cX11_stocks 5 = .ok (.iconst 0, 1) := by decide +kernel
theorem dX11_stocks_6 : decode cX11_stocks 6 = .ok (.istore_n 2, 1) := by decide +kernel
theorem dX11_stocks_7 : decode cX11_stocks 7 = .ok (.iload_n 2, 1) := by decide +kernel
theorem dX11_stocks_8 : decode cX11_stocks 8 = .ok (.aload_n 0, 1) := by decide +kernel
theorem dX11_stocks_9 : decode cX11_stocks 9 = .ok (.getfield 235, 3) := by decide +kernel
theorem dX11_stocks_12 : decode cX11_stocks 12 = .ok (.if_icmp .ge 58, 3) := by decide +kernel
theorem dX11_stocks_15 : decode cX11_stocks 15 = .ok (.aload_n 0, 1) := by decide +kernel
theorem dX11_stocks_16 : decode cX11_stocks 16 = .ok (.getfield 512, 3) := by decide +kernel
theorem dX11_stocks_19 : decode cX11_stocks 19 = .ok (.iconst 4, 1) := by decide +kernel
theorem dX11_stocks_20 : decode cX11_stocks 20 = .ok (.if_icmp .ge 50, 3) := by decide +kernel
theorem dX11_stocks_23 : decode cX11_stocks 23 = .ok (.aload_n 0, 1) := by decide +kernel
theorem dX11_stocks_24 : decode cX11_stocks 24 = .ok (.getfield 13, 3) := by decide +kernel
theorem dX11_stocks_27 : decode cX11_stocks 27 = .ok (.iload_n 2, 1) := by decide +kernel
theorem dX11_stocks_28 : decode cX11_stocks 28 = .ok (.iaload, 1) := by decide +kernel
theorem dX11_stocks_29 : decode cX11_stocks 29 = .ok (.iload_n 1, 1) := by decide +kernel
theorem dX11_stocks_30 : decode cX11_stocks 30 = .ok (.if_icmp .ne 34, 3) := by decide +kernel
theorem dX11_stocks_33 : decode cX11_stocks 33 = .ok (.aload_n 0, 1) := by decide +kernel
theorem dX11_stocks_34 : decode cX11_stocks 34 = .ok (.iload_n 2, 1) := by decide +kernel
theorem dX11_stocks_35 : decode cX11_stocks 35 = .ok (.invokevirtual 266, 3) := by decide +kernel
theorem dX11_stocks_38 : decode cX11_stocks 38 = .ok (.ifCond .ne 6, 3) := by decide +kernel
theorem dX11_stocks_41 : decode cX11_stocks 41 = .ok (.goto 23, 3) := by decide +kernel
theorem dX11_stocks_44 : decode cX11_stocks 44 = .ok (.aload_n 0, 1) := by decide +kernel
theorem dX11_stocks_45 : decode cX11_stocks 45 = .ok (.getfield 202, 3) := by decide +kernel
theorem dX11_stocks_48 : decode cX11_stocks 48 = .ok (.aload_n 0, 1) := by decide +kernel
theorem dX11_stocks_49 : decode cX11_stocks 49 = .ok (.getfield 512, 3) := by decide +kernel
theorem dX11_stocks_52 : decode cX11_stocks 52 = .ok (.iload_n 2, 1) := by decide +kernel
theorem dX11_stocks_53 : decode cX11_stocks 53 = .ok (.iastore, 1) := by decide +kernel
theorem dX11_stocks_54 : decode cX11_stocks 54 = .ok (.aload_n 0, 1) := by decide +kernel
theorem dX11_stocks_55 : decode cX11_stocks 55 = .ok (.dup, 1) := by decide +kernel
theorem dX11_stocks_56 : decode cX11_stocks 56 = .ok (.getfield 512, 3) := by decide +kernel
theorem dX11_stocks_59 : decode cX11_stocks 59 = .ok (.iconst 1, 1) := by decide +kernel
theorem dX11_stocks_60 : decode cX11_stocks 60 = .ok (.iadd, 1) := by decide +kernel
theorem dX11_stocks_61 : decode cX11_stocks 61 = .ok (.putfield 512, 3) := by decide +kernel
theorem dX11_stocks_64 : decode cX11_stocks 64 = .ok (.iinc 2 1, 3) := by decide +kernel
theorem dX11_stocks_67 : decode cX11_stocks 67 = .ok (.goto (-60), 3) := by decide +kernel
theorem dX11_stocks_70 : decode cX11_stocks 70 = .ok (.return_, 1) := by decide +kernel
noncomputable def f11_stocks_j70 (s11_j70 : OS) : Option (OS) := some s11_j70
noncomputable def f11_stocks_j64 (v1_j64 : Int32) (v2_j64 : Int32) (s11_j64 : OS) : Option ((Int32 × OS) ⊕ (OS)) := nm (v2_j64 + (1 : Int32)) fun n_64 => some (Sum.inl (n_64, s11_j64))
noncomputable def f11_stocks_l7 (v1_i7 : Int32) : Int32 × OS → Option ((Int32 × OS) ⊕ (OS)) := fun t_7 => if (t_7.2.1 0 3) ≤ t_7.1 then (Option.map Sum.inr (f11_stocks_j70 t_7.2)) else (if (4 : Int32) ≤ (t_7.2.1 0 90) then (Option.map Sum.inr (f11_stocks_j70 t_7.2)) else (chk (inb t_7.1 150) (nm (t_7.2.1 12 t_7.1.toNatClampNeg) fun y_28 => if y_28 = v1_i7 then (Option.bind (f11_isOpen t_7.1 t_7.2) fun q_35 => if q_35 = 0 then (f11_stocks_j64 v1_i7 t_7.1 t_7.2) else (chk (inb ((t_7.2.1 0 90)) 4) (nm (wI t_7.2 88 ((t_7.2.1 0 90)).toNatClampNeg t_7.1) fun s11_53 => nm (wI s11_53 0 90 (((s11_53.1 0 90) + (1 : Int32)))) fun s11_61 => f11_stocks_j64 v1_i7 t_7.1 s11_61))) else (f11_stocks_j64 v1_i7 t_7.1 t_7.2))))
noncomputable def f11_stocks (a1 : Int32) (s11 : OS) : Option (OS) := nm (wI s11 0 90 ((0 : Int32))) fun s11_2 => loop (f11_stocks_l7 a1) ((0 : Int32), s11_2)
set_option maxHeartbeats 4000000 in
set_option maxRecDepth 100000 in
theorem m11_stocks (l : Launch) (D : va_G) (ad : Nat → Nat) (cy : Nat → ClassId) (sz : Nat) (s11 : OS) (a1 : Int32) (r : OS) (h : f11_stocks a1 s11 = some r) : Met l yX11_stocks (wsOf yX11_stocks cX11_stocks 3 none) (rmL 4) (va_Pc ([.ref (ad 0), .int a1] : List Value) (PreG D cy (cellsM ad cy s11) sz NM)) (QcV D ad 66 (cellsM ad cy r) sz) 0 0 (Afr ad 66 sz) := by
  refine metG (own := RX11) (by decide) rfl (Nat.le_of_ble_eq_true rfl) fstM ?_ sz
  intro p e s m below meth c ls C0 hw hl
  obtain ⟨hx, hb, hml, hown, hts, hr, hlk, hK, hN⟩ := C0
  have hl : lv_has ls 3 [(0, .ref (ad 0)), (1, .int a1)] := hl
  generalize hQ : MQ below (QcV D ad 66 (cellsM ad cy r) s.heap.size) ([.ref (ad 0), .int a1] : List Value).toArray s 0 0 (Afr ad 66 s.heap.size) = Q
  obtain ⟨H, hH⟩ : ∃ H : Heap, H = s.heap := ⟨_, rfl⟩
  obtain ⟨locs, hlc⟩ : ∃ L : List Loc, L = [] := ⟨_, rfl⟩
  have hw : Wd D (cellsM ad cy s11) (Afr ad 66 s.heap.size) s.heap H locs := by rw [hH, hlc]; exact hw
  suffices h0 : W p l e (rmL 4) s m ([.ref (ad 0), .int a1] : List Value).toArray below meth c H locs 0 0 Q (F0 m 0 ls []) by rw [hH, hlc] at h0; exact h0
  clear hH hlc
  unfold f11_stocks at h
  have hJ_70 : ∀ (s11_j70 : OS) (H : Heap) (locs : List Loc) (ls : Array Slot), f11_stocks_j70 s11_j70 = some r → Wd D (cellsM ad cy s11_j70) (Afr ad 66 s.heap.size) s.heap H locs → lv_has ls 3 [] → W p l e (rmL 4) s m ([.ref (ad 0), .int a1] : List Value).toArray below meth c H locs 0 0 Q (F0 m 70 ls []) := by
    intro s11_j70 H locs ls h hw hl
    unfold f11_stocks_j70 at h
    have h := Option.some.inj h
    subst h
    rw [← hQ]
    exact retV hx hb hr hlk hw dX11_stocks_70
  refine lv_aload_n hx hb dX11_stocks_0 rfl (lv_at hl 0 rfl) ?_
  refine lv_iconst (v := 0) hx hb dX11_stocks_1 (by decide) ?_
  obtain ⟨s11_2, e_2, h⟩ := nam_e h
  refine pX11_512 hx hb hts hown hK hw e_2 dX11_stocks_2 (fun H locs hw => ?_)
  refine lv_iconst (v := 0) hx hb dX11_stocks_5 (by decide) ?_
  refine lv_istore_n (lv' := [(2, .int ((0 : Int32))), (0, .ref (ad 0)), (1, .int a1)]) hx hb dX11_stocks_6 rfl hl (by decide) rfl (fun ls hl => ?_)
  obtain ⟨n_7, hn_7⟩ := loop_e h
  have hL_7 : ∀ (n : Nat) (t_7 : Int32 × OS) (H : Heap) (locs : List Loc) (ls : Array Slot), loopN (f11_stocks_l7 a1) n t_7 = some r → Wd D (cellsM ad cy t_7.2) (Afr ad 66 s.heap.size) s.heap H locs → lv_has ls 3 [(2, .int t_7.1), (1, .int a1), (0, .ref (ad 0))] → W p l e (rmL 4) s m ([.ref (ad 0), .int a1] : List Value).toArray below meth c H locs 0 0 Q (F0 m 7 ls []) := by
    intro n
    induction n with
    | zero => intro t_7 H locs ls hn; cases hn
    | succ n ih_7 =>
      intro t_7 H locs ls hn hw hl
      obtain ⟨x_7, h, hx_7⟩ := loopN_e hn
      unfold f11_stocks_l7 at h
      have hJ_64 : ∀ (v2_j64 : Int32) (s11_j64 : OS) (H : Heap) (locs : List Loc) (ls : Array Slot), f11_stocks_j64 a1 v2_j64 s11_j64 = some x_7 → Wd D (cellsM ad cy s11_j64) (Afr ad 66 s.heap.size) s.heap H locs → lv_has ls 3 [(0, .ref (ad 0)), (1, .int a1), (2, .int v2_j64)] → W p l e (rmL 4) s m ([.ref (ad 0), .int a1] : List Value).toArray below meth c H locs 0 0 Q (F0 m 64 ls []) := by
        intro v2_j64 s11_j64 H locs ls h hw hl
        unfold f11_stocks_j64 at h
        obtain ⟨n_64, e_64, h⟩ := nam_e h
        refine lv_iinc (v := n_64) (lv' := [(2, .int n_64), (0, .ref (ad 0)), (1, .int a1)]) hx hb dX11_stocks_64 hl (k := 2) rfl (by rw [e_64]; rfl) (by decide) rfl (fun ls hl => ?_)
        refine lv_goto (tgt := 7) hx hb dX11_stocks_67 (by decide) ?_
        exact ih_7 (n_64, s11_j64) H locs ls (nx_l hx_7 h) hw (lv_sub hl [0, 2, 1] rfl)
      refine lv_iload_n hx hb dX11_stocks_7 rfl (lv_at hl 0 rfl) ?_
      refine lv_aload_n hx hb dX11_stocks_8 rfl (lv_at hl 2 rfl) ?_
      refine gX11_235 hx hb hts hown hK hw dX11_stocks_9 ?_
      refine lv_icmp_ge (tgt := 70) hx hb dX11_stocks_12 (by decide) (fun c_12 => ?_) (fun c_12 => ?_)
      · have h := ite_t c_12 h
        have h := nx_m hx_7 h
        exact hJ_70 t_7.2 H locs ls h hw (lv_sub hl [] rfl)
      · have h := ite_f c_12 h
        refine lv_aload_n hx hb dX11_stocks_15 rfl (lv_at hl 2 rfl) ?_
        refine gX11_512 hx hb hts hown hK hw dX11_stocks_16 ?_
        refine lv_iconst (v := 4) hx hb dX11_stocks_19 (by decide) ?_
        refine lv_icmp_ge (tgt := 70) hx hb dX11_stocks_20 (by decide) (fun c_20 => ?_) (fun c_20 => ?_)
        · have h := ite_t c_20 h
          have h := nx_m hx_7 h
          exact hJ_70 t_7.2 H locs ls h hw (lv_sub hl [] rfl)
        · have h := ite_f c_20 h
          refine lv_aload_n hx hb dX11_stocks_23 rfl (lv_at hl 2 rfl) ?_
          refine gX11_13 hx hb hts hown hK hw dX11_stocks_24 ?_
          refine lv_iload_n hx hb dX11_stocks_27 rfl (lv_at hl 0 rfl) ?_
          obtain ⟨hi_28, h⟩ := chk_e h
          obtain ⟨y_28, e_28, h⟩ := nam_e h
          refine lM2 hx hb hK hw hi_28 e_28 dX11_stocks_28 ?_
          refine lv_iload_n hx hb dX11_stocks_29 rfl (lv_at hl 1 rfl) ?_
          refine lv_icmp_ne (tgt := 64) hx hb dX11_stocks_30 (by decide) (fun c_30 => ?_) (fun c_30 => ?_)
          · have h := ite_f c_30 h
            exact hJ_64 t_7.1 t_7.2 H locs ls h hw (lv_sub hl [2, 1, 0] rfl)
          · have h := ite_t c_30 h
            refine lv_aload_n hx hb dX11_stocks_33 rfl (lv_at hl 2 rfl) ?_
            refine lv_iload_n hx hb dX11_stocks_34 rfl (lv_at hl 0 rfl) ?_
            obtain ⟨q_35, h_35, h⟩ := bnd_e h
            have pg_35 := preG (av := [.ref (ad 0), .int t_7.1]) hK hw.1 hw.2.1 NM_keep NM_blind
            refine endI (mc := 0) (ms := 0) (va_runV (As := [.int t_7.1]) (rest := []) ⟨hx, hb, hml, hown, hts⟩ (m11_isOpen l D ad cy H.size t_7.2 t_7.1 q_35 h_35) (wX11_266 3 hts ⟨Nat.le_of_ble_eq_true rfl, Nat.le_of_ble_eq_true rfl⟩) ⟨pg_35.1, va_recv hK hw.1 (ci := 11) (q0 := 0) rfl eM_0, pg_35.2⟩ rfl rfl hl.1 rfl (lv_room (Nat.le_of_ble_eq_true rfl)) dX11_stocks_35 ⟨Nat.le_refl _, Nat.le_refl _⟩) hw.2.2 (afr_in hw.2.2) (fun H locs hw => ?_)
            refine lv_if_ne (tgt := 44) hx hb dX11_stocks_38 (by decide) (fun c_38 => ?_) (fun c_38 => ?_)
            · have h := ite_f c_38 h
              refine lv_aload_n hx hb dX11_stocks_44 rfl (lv_at hl 2 rfl) ?_
              refine gX11_202 hx hb hts hown hK hw dX11_stocks_45 ?_
              refine lv_aload_n hx hb dX11_stocks_48 rfl (lv_at hl 2 rfl) ?_
              refine gX11_512 hx hb hts hown hK hw dX11_stocks_49 ?_
              refine lv_iload_n hx hb dX11_stocks_52 rfl (lv_at hl 0 rfl) ?_
              obtain ⟨hi_53, h⟩ := chk_e h
              obtain ⟨s11_53, e_53, h⟩ := nam_e h
              refine aM64 hx hb hK hw hi_53 e_53 dX11_stocks_53 (fun H locs hw => ?_)
              refine lv_aload_n hx hb dX11_stocks_54 rfl (lv_at hl 2 rfl) ?_
              refine lv_dup hx hb dX11_stocks_55 rfl ?_
              refine gX11_512 hx hb hts hown hK hw dX11_stocks_56 ?_
              refine lv_iconst (v := 1) hx hb dX11_stocks_59 (by decide) ?_
              refine lv_iadd hx hb dX11_stocks_60 ?_
              obtain ⟨s11_61, e_61, h⟩ := nam_e h
              refine pX11_512 hx hb hts hown hK hw e_61 dX11_stocks_61 (fun H locs hw => ?_)
              exact hJ_64 t_7.1 s11_61 H locs ls h hw (lv_sub hl [2, 1, 0] rfl)
            · have h := ite_t c_38 h
              refine lv_goto (tgt := 64) hx hb dX11_stocks_41 (by decide) ?_
              exact hJ_64 t_7.1 t_7.2 H locs ls h hw (lv_sub hl [2, 1, 0] rfl)
  exact hL_7 n_7 ((0 : Int32), s11_2) H locs ls hn_7 hw (lv_sub hl [0, 2, 1] rfl)
theorem dX11_worthOfRow_0 : decode cX11_worthOfRow 0 = .ok (.aload_n 0, 1) := by decide +kernel
theorem dX11_worthOfRow_1 : decode cX11_worthOfRow 1 = .ok (.lconst 0, 1) := by decide +kernel
theorem dX11_worthOfRow_2 : decode cX11_worthOfRow 2 = .ok (.putfield 515, 3) := by decide +kernel
theorem dX11_worthOfRow_5 : decode cX11_worthOfRow 5 = .ok (.iconst 0, 1) := by decide +kernel
theorem dX11_worthOfRow_6 : decode cX11_worthOfRow 6 = .ok (.istore_n 1, 1) := by decide +kernel
theorem dX11_worthOfRow_7 : decode cX11_worthOfRow 7 = .ok (.iconst 0, 1) := by decide +kernel
theorem dX11_worthOfRow_8 : decode cX11_worthOfRow 8 = .ok (.istore_n 2, 1) := by decide +kernel
theorem dX11_worthOfRow_9 : decode cX11_worthOfRow 9 = .ok (.iload_n 2, 1) := by decide +kernel
theorem dX11_worthOfRow_10 : decode cX11_worthOfRow 10 = .ok (.iconst 4, 1) := by decide +kernel
theorem dX11_worthOfRow_11 : decode cX11_worthOfRow 11 = .ok (.if_icmp .ge 197, 3) := by decide +kernel
theorem dX11_worthOfRow_14 : decode cX11_worthOfRow 14 = .ok (.lconst 0, 1) := by decide +kernel
theorem dX11_worthOfRow_15 : decode cX11_worthOfRow 15 = .ok (.lstore_n 3, 1) := by decide +kernel
theorem dX11_worthOfRow_16 : decode cX11_worthOfRow 16 = .ok (.iconst 0, 1) := by decide +kernel
theorem dX11_worthOfRow_17 : decode cX11_worthOfRow 17 = .ok (.istore 5, 2) := by decide +kernel
theorem dX11_worthOfRow_19 : decode cX11_worthOfRow 19 = .ok (.iconst 0, 1) := by decide +kernel
theorem dX11_worthOfRow_20 : decode cX11_worthOfRow 20 = .ok (.istore 6, 2) := by decide +kernel
theorem dX11_worthOfRow_22 : decode cX11_worthOfRow 22 = .ok (.iload 6, 2) := by decide +kernel
theorem dX11_worthOfRow_24 : decode cX11_worthOfRow 24 = .ok (.aload_n 0, 1) := by decide +kernel
theorem dX11_worthOfRow_25 : decode cX11_worthOfRow 25 = .ok (.getfield 507, 3) := by decide +kernel
theorem dX11_worthOfRow_28 : decode cX11_worthOfRow 28 = .ok (.if_icmp .ge 79, 3) := by decide +kernel
theorem dX11_worthOfRow_31 : decode cX11_worthOfRow 31 = .ok (.aload_n 0, 1) := by decide +kernel
theorem dX11_worthOfRow_32 : decode cX11_worthOfRow 32 = .ok (.getfield 205, 3) := by decide +kernel
theorem dX11_worthOfRow_35 : decode cX11_worthOfRow 35 = .ok (.iload 6, 2) := by decide +kernel
theorem dX11_worthOfRow_37 : decode cX11_worthOfRow 37 = .ok (.iaload, 1) := by decide +kernel
theorem dX11_worthOfRow_38 : decode cX11_worthOfRow 38 = .ok (.iload_n 2, 1) := by decide +kernel
theorem dX11_worthOfRow_39 : decode cX11_worthOfRow 39 = .ok (.if_icmp .eq 6, 3) := by decide +kernel
theorem dX11_worthOfRow_42 : decode cX11_worthOfRow 42 = .ok (.goto 59, 3) := by decide +kernel
theorem dX11_worthOfRow_45 : decode cX11_worthOfRow 45 = .ok (.iload_n 2, 1) := by decide +kernel
theorem dX11_worthOfRow_46 : decode cX11_worthOfRow 46 = .ok (.aload_n 0, 1) := by decide +kernel
theorem dX11_worthOfRow_47 : decode cX11_worthOfRow 47 = .ok (.getfield 512, 3) := by decide +kernel
theorem dX11_worthOfRow_50 : decode cX11_worthOfRow 50 = .ok (.if_icmp .ge 25, 3) := by decide +kernel
theorem dX11_worthOfRow_53 : decode cX11_worthOfRow 53 = .ok (.aload_n 0, 1) := by decide +kernel
theorem dX11_worthOfRow_54 : decode cX11_worthOfRow 54 = .ok (.getfield 23, 3) := by decide +kernel
theorem dX11_worthOfRow_57 : decode cX11_worthOfRow 57 = .ok (.aload_n 0, 1) := by decide +kernel
theorem dX11_worthOfRow_58 : decode cX11_worthOfRow 58 = .ok (.getfield 202, 3) := by decide +kernel
theorem dX11_worthOfRow_61 : decode cX11_worthOfRow 61 = .ok (.iload_n 2, 1) := by decide +kernel
theorem dX11_worthOfRow_62 : decode cX11_worthOfRow 62 = .ok (.iaload, 1) := by decide +kernel
theorem dX11_worthOfRow_63 : decode cX11_worthOfRow 63 = .ok (.iaload, 1) := by decide +kernel
theorem dX11_worthOfRow_64 : decode cX11_worthOfRow 64 = .ok (.aload_n 0, 1) := by decide +kernel
theorem dX11_worthOfRow_65 : decode cX11_worthOfRow 65 = .ok (.getfield 199, 3) := by decide +kernel
theorem dX11_worthOfRow_68 : decode cX11_worthOfRow 68 = .ok (.iload 6, 2) := by decide +kernel
theorem dX11_worthOfRow_70 : decode cX11_worthOfRow 70 = .ok (.iaload, 1) := by decide +kernel
theorem dX11_worthOfRow_71 : decode cX11_worthOfRow 71 = .ok (.iand, 1) := by decide +kernel
theorem dX11_worthOfRow_72 : decode cX11_worthOfRow 72 = .ok (.ifCond .eq 5, 3) := by decide +kernel
theorem dX11_worthOfRow_75 : decode cX11_worthOfRow 75 = .ok (.iconst (-1), 1) := by decide +kernel
theorem dX11_worthOfRow_76 : decode cX11_worthOfRow 76 = .ok (.ireturn, 1) := by decide +kernel
theorem dX11_worthOfRow_77 : decode cX11_worthOfRow 77 = .ok (.lload_n 3, 1) := by decide +kernel
theorem dX11_worthOfRow_78 : decode cX11_worthOfRow 78 = .ok (.aload_n 0, 1) := by decide +kernel
theorem dX11_worthOfRow_79 : decode cX11_worthOfRow 79 = .ok (.getfield 193, 3) := by decide +kernel
theorem dX11_worthOfRow_82 : decode cX11_worthOfRow 82 = .ok (.iload 6, 2) := by decide +kernel
theorem dX11_worthOfRow_84 : decode cX11_worthOfRow 84 = .ok (.iaload, 1) := by decide +kernel
theorem dX11_worthOfRow_85 : decode cX11_worthOfRow 85 = .ok (.i2l, 1) := by decide +kernel
theorem dX11_worthOfRow_86 : decode cX11_worthOfRow 86 = .ok (.ladd, 1) := by decide +kernel
theorem dX11_worthOfRow_87 : decode cX11_worthOfRow 87 = .ok (.lstore_n 3, 1) := by decide +kernel
theorem dX11_worthOfRow_88 : decode cX11_worthOfRow 88 = .ok (.iinc 5 1, 3) := by decide +kernel
theorem dX11_worthOfRow_91 : decode cX11_worthOfRow 91 = .ok (.iload_n 1, 1) := by decide +kernel
theorem dX11_worthOfRow_92 : decode cX11_worthOfRow 92 = .ok (.aload_n 0, 1) := by decide +kernel
theorem dX11_worthOfRow_93 : decode cX11_worthOfRow 93 = .ok (.getfield 196, 3) := by decide +kernel
theorem dX11_worthOfRow_96 : decode cX11_worthOfRow 96 = .ok (.iload 6, 2) := by decide +kernel
theorem dX11_worthOfRow_98 : decode cX11_worthOfRow 98 = .ok (.iaload, 1) := by decide +kernel
theorem dX11_worthOfRow_99 : decode cX11_worthOfRow 99 = .ok (.iadd, 1) := by decide +kernel
theorem dX11_worthOfRow_100 : decode cX11_worthOfRow 100 = .ok (.istore_n 1, 1) := by decide +kernel
theorem dX11_worthOfRow_101 : decode cX11_worthOfRow 101 = .ok (.iinc 6 1, 3) := by decide +kernel
theorem dX11_worthOfRow_104 : decode cX11_worthOfRow 104 = .ok (.goto (-82), 3) := by decide +kernel
theorem dX11_worthOfRow_107 : decode cX11_worthOfRow 107 = .ok (.iload 5, 2) := by decide +kernel
theorem dX11_worthOfRow_109 : decode cX11_worthOfRow 109 = .ok (.ifCond .ne 6, 3) := by decide +kernel
theorem dX11_worthOfRow_112 : decode cX11_worthOfRow 112 = .ok (.goto 90, 3) := by decide +kernel
theorem dX11_worthOfRow_115 : decode cX11_worthOfRow 115 = .ok (.lload_n 3, 1) := by decide +kernel
theorem dX11_worthOfRow_116 : decode cX11_worthOfRow 116 = .ok (.iload 5, 2) := by decide +kernel
theorem dX11_worthOfRow_118 : decode cX11_worthOfRow 118 = .ok (.i2l, 1) := by decide +kernel
theorem dX11_worthOfRow_119 : decode cX11_worthOfRow 119 = .ok (.lconst 1, 1) := by decide +kernel
theorem dX11_worthOfRow_120 : decode cX11_worthOfRow 120 = .ok (.lsub, 1) := by decide +kernel
theorem dX11_worthOfRow_121 : decode cX11_worthOfRow 121 = .ok (.aload_n 0, 1) := by decide +kernel
theorem dX11_worthOfRow_122 : decode cX11_worthOfRow 122 = .ok (.getfield 208, 3) := by decide +kernel
theorem dX11_worthOfRow_125 : decode cX11_worthOfRow 125 = .ok (.i2l, 1) := by decide +kernel
theorem dX11_worthOfRow_126 : decode cX11_worthOfRow 126 = .ok (.lmul, 1) := by decide +kernel
theorem dX11_worthOfRow_127 : decode cX11_worthOfRow 127 = .ok (.ladd, 1) := by decide +kernel
theorem dX11_worthOfRow_128 : decode cX11_worthOfRow 128 = .ok (.aload_n 0, 1) := by decide +kernel
theorem dX11_worthOfRow_129 : decode cX11_worthOfRow 129 = .ok (.getfield 20, 3) := by decide +kernel
theorem dX11_worthOfRow_132 : decode cX11_worthOfRow 132 = .ok (.aload_n 0, 1) := by decide +kernel
theorem dX11_worthOfRow_133 : decode cX11_worthOfRow 133 = .ok (.getfield 202, 3) := by decide +kernel
theorem dX11_worthOfRow_136 : decode cX11_worthOfRow 136 = .ok (.iload_n 2, 1) := by decide +kernel
theorem dX11_worthOfRow_137 : decode cX11_worthOfRow 137 = .ok (.iaload, 1) := by decide +kernel
theorem dX11_worthOfRow_138 : decode cX11_worthOfRow 138 = .ok (.iaload, 1) := by decide +kernel
theorem dX11_worthOfRow_139 : decode cX11_worthOfRow 139 = .ok (.i2l, 1) := by decide +kernel
theorem dX11_worthOfRow_140 : decode cX11_worthOfRow 140 = .ok (.lcmp, 1) := by decide +kernel
theorem dX11_worthOfRow_141 : decode cX11_worthOfRow 141 = .ok (.ifCond .ne 10, 3) := by decide +kernel
theorem dX11_worthOfRow_144 : decode cX11_worthOfRow 144 = .ok (.iload 5, 2) := by decide +kernel
theorem dX11_worthOfRow_146 : decode cX11_worthOfRow 146 = .ok (.iconst 1, 1) := by decide +kernel
theorem dX11_worthOfRow_147 : decode cX11_worthOfRow 147 = .ok (.isub, 1) := by decide +kernel
theorem dX11_worthOfRow_148 : decode cX11_worthOfRow 148 = .ok (.goto 5, 3) := by decide +kernel
theorem dX11_worthOfRow_151 : decode cX11_worthOfRow 151 = .ok (.iload 5, 2) := by decide +kernel
theorem dX11_worthOfRow_153 : decode cX11_worthOfRow 153 = .ok (.istore 6, 2) := by decide +kernel
theorem dX11_worthOfRow_155 : decode cX11_worthOfRow 155 = .ok (.lload_n 3, 1) := by decide +kernel
theorem dX11_worthOfRow_156 : decode cX11_worthOfRow 156 = .ok (.iload 6, 2) := by decide +kernel
theorem dX11_worthOfRow_158 : decode cX11_worthOfRow 158 = .ok (.i2l, 1) := by decide +kernel
theorem dX11_worthOfRow_159 : decode cX11_worthOfRow 159 = .ok (.aload_n 0, 1) := by decide +kernel
theorem dX11_worthOfRow_160 : decode cX11_worthOfRow 160 = .ok (.getfield 208, 3) := by decide +kernel
theorem dX11_worthOfRow_163 : decode cX11_worthOfRow 163 = .ok (.i2l, 1) := by decide +kernel
theorem dX11_worthOfRow_164 : decode cX11_worthOfRow 164 = .ok (.lmul, 1) := by decide +kernel
theorem dX11_worthOfRow_165 : decode cX11_worthOfRow 165 = .ok (.ladd, 1) := by decide +kernel
theorem dX11_worthOfRow_166 : decode cX11_worthOfRow 166 = .ok (.aload_n 0, 1) := by decide +kernel
theorem dX11_worthOfRow_167 : decode cX11_worthOfRow 167 = .ok (.getfield 20, 3) := by decide +kernel
theorem dX11_worthOfRow_170 : decode cX11_worthOfRow 170 = .ok (.aload_n 0, 1) := by decide +kernel
theorem dX11_worthOfRow_171 : decode cX11_worthOfRow 171 = .ok (.getfield 202, 3) := by decide +kernel
theorem dX11_worthOfRow_174 : decode cX11_worthOfRow 174 = .ok (.iload_n 2, 1) := by decide +kernel
theorem dX11_worthOfRow_175 : decode cX11_worthOfRow 175 = .ok (.iaload, 1) := by decide +kernel
theorem dX11_worthOfRow_176 : decode cX11_worthOfRow 176 = .ok (.iaload, 1) := by decide +kernel
theorem dX11_worthOfRow_177 : decode cX11_worthOfRow 177 = .ok (.i2l, 1) := by decide +kernel
theorem dX11_worthOfRow_178 : decode cX11_worthOfRow 178 = .ok (.lcmp, 1) := by decide +kernel
theorem dX11_worthOfRow_179 : decode cX11_worthOfRow 179 = .ok (.ifCond .le 5, 3) := by decide +kernel
theorem dX11_worthOfRow_182 : decode cX11_worthOfRow 182 = .ok (.iconst (-1), 1) := by decide +kernel
theorem dX11_worthOfRow_183 : decode cX11_worthOfRow 183 = .ok (.ireturn, 1) := by decide +kernel
theorem dX11_worthOfRow_184 : decode cX11_worthOfRow 184 = .ok (.aload_n 0, 1) := by decide +kernel
theorem dX11_worthOfRow_185 : decode cX11_worthOfRow 185 = .ok (.dup, 1) := by decide +kernel
theorem dX11_worthOfRow_186 : decode cX11_worthOfRow 186 = .ok (.getfield 515, 3) := by decide +kernel
theorem dX11_worthOfRow_189 : decode cX11_worthOfRow 189 = .ok (.iload 6, 2) := by decide +kernel
theorem dX11_worthOfRow_191 : decode cX11_worthOfRow 191 = .ok (.i2l, 1) := by decide +kernel
theorem dX11_worthOfRow_192 : decode cX11_worthOfRow 192 = .ok (.aload_n 0, 1) := by decide +kernel
theorem dX11_worthOfRow_193 : decode cX11_worthOfRow 193 = .ok (.getfield 208, 3) := by decide +kernel
theorem dX11_worthOfRow_196 : decode cX11_worthOfRow 196 = .ok (.i2l, 1) := by decide +kernel
theorem dX11_worthOfRow_197 : decode cX11_worthOfRow 197 = .ok (.lmul, 1) := by decide +kernel
theorem dX11_worthOfRow_198 : decode cX11_worthOfRow 198 = .ok (.ladd, 1) := by decide +kernel
theorem dX11_worthOfRow_199 : decode cX11_worthOfRow 199 = .ok (.putfield 515, 3) := by decide +kernel
theorem dX11_worthOfRow_202 : decode cX11_worthOfRow 202 = .ok (.iinc 2 1, 3) := by decide +kernel
theorem dX11_worthOfRow_205 : decode cX11_worthOfRow 205 = .ok (.goto (-196), 3) := by decide +kernel
theorem dX11_worthOfRow_208 : decode cX11_worthOfRow 208 = .ok (.iload_n 1, 1) := by decide +kernel
theorem dX11_worthOfRow_209 : decode cX11_worthOfRow 209 = .ok (.ireturn, 1) := by decide +kernel
noncomputable def f11_worthOfRow_j75 (s11_j75 : OS) : Option (Int32 × OS) := some ((-1 : Int32), s11_j75)
noncomputable def f11_worthOfRow_j202 (v1_j202 : Int32) (v2_j202 : Int32) (s11_j202 : OS) : Option ((Int32 × Int32 × OS) ⊕ (Int32 × OS)) := nm (v2_j202 + (1 : Int32)) fun n_202 => some (Sum.inl (v1_j202, n_202, s11_j202))
noncomputable def f11_worthOfRow_j153 (v1_j153 : Int32) (v2_j153 : Int32) (v3_j153 : Int64) (k0_j153 : Int32) (s11_j153 : OS) : Option ((Int32 × Int32 × OS) ⊕ (Int32 × OS)) := chk (inb v2_j153 4) (nm (s11_j153.1 88 v2_j153.toNatClampNeg) fun y_175 => chk (inb y_175 150) (nm (s11_j153.1 14 y_175.toNatClampNeg) fun y_176 => if (lg_cmp ((v3_j153 + ((k0_j153).toInt64 * ((s11_j153.1 0 89)).toInt64))) ((y_176).toInt64)) ≤ 0 then (nm (wL s11_j153 0 91 (((s11_j153.2 0 91) + ((k0_j153).toInt64 * ((s11_j153.1 0 89)).toInt64)))) fun s11_199 => f11_worthOfRow_j202 v1_j153 v2_j153 s11_199) else (Option.map Sum.inr (some ((-1 : Int32), s11_j153)))))
noncomputable def f11_worthOfRow_j101 (v1_j101 : Int32) (v2_j101 : Int32) (v3_j101 : Int64) (v5_j101 : Int32) (v6_j101 : Int32) (s11_j101 : OS) : Option ((Int32 × Int64 × Int32 × Int32) ⊕ ((Int32 × Int32 × OS) ⊕ (Int32 × OS))) := nm (v6_j101 + (1 : Int32)) fun n_101 => some (Sum.inl (v1_j101, v3_j101, v5_j101, n_101))
noncomputable def f11_worthOfRow_l22 (v2_i22 : Int32) (s11_i22 : OS) : Int32 × Int64 × Int32 × Int32 → Option ((Int32 × Int64 × Int32 × Int32) ⊕ ((Int32 × Int32 × OS) ⊕ (Int32 × OS))) := fun t_22 => if (s11_i22.1 0 10) ≤ t_22.2.2.2 then (Option.map Sum.inr (if t_22.2.2.1 = 0 then (f11_worthOfRow_j202 t_22.1 v2_i22 s11_i22) else (chk (inb v2_i22 4) (nm (s11_i22.1 88 v2_i22.toNatClampNeg) fun y_137 => chk (inb y_137 150) (nm (s11_i22.1 14 y_137.toNatClampNeg) fun y_138 => if (lg_cmp ((t_22.2.1 + (((t_22.2.2.1).toInt64 - (1 : Int64)) * ((s11_i22.1 0 89)).toInt64))) ((y_138).toInt64)) = 0 then (f11_worthOfRow_j153 t_22.1 v2_i22 t_22.2.1 ((t_22.2.2.1 - (1 : Int32))) s11_i22) else (f11_worthOfRow_j153 t_22.1 v2_i22 t_22.2.1 t_22.2.2.1 s11_i22)))))) else (chk (inb t_22.2.2.2 6) (nm (s11_i22.1 89 t_22.2.2.2.toNatClampNeg) fun y_37 => if y_37 = v2_i22 then (if (s11_i22.1 0 90) ≤ v2_i22 then (Option.map Sum.inr (Option.map Sum.inr (f11_worthOfRow_j75 s11_i22))) else (chk (inb v2_i22 4) (nm (s11_i22.1 88 v2_i22.toNatClampNeg) fun y_62 => chk (inb y_62 150) (nm (s11_i22.1 15 y_62.toNatClampNeg) fun y_63 => chk (inb t_22.2.2.2 6) (nm (s11_i22.1 87 t_22.2.2.2.toNatClampNeg) fun y_70 => if (y_63 &&& y_70) = 0 then (chk (inb t_22.2.2.2 6) (nm (s11_i22.1 85 t_22.2.2.2.toNatClampNeg) fun y_84 => nm ((t_22.2.1 + (y_84).toInt64)) fun n_87 => nm (t_22.2.2.1 + (1 : Int32)) fun n_88 => chk (inb t_22.2.2.2 6) (nm (s11_i22.1 86 t_22.2.2.2.toNatClampNeg) fun y_98 => nm ((t_22.1 + y_98)) fun n_100 => f11_worthOfRow_j101 n_100 v2_i22 n_87 n_88 t_22.2.2.2 s11_i22))) else (Option.map Sum.inr (Option.map Sum.inr (f11_worthOfRow_j75 s11_i22)))))))) else (f11_worthOfRow_j101 t_22.1 v2_i22 t_22.2.1 t_22.2.2.1 t_22.2.2.2 s11_i22)))
noncomputable def f11_worthOfRow_l9  : Int32 × Int32 × OS → Option ((Int32 × Int32 × OS) ⊕ (Int32 × OS)) := fun t_9 => if (4 : Int32) ≤ t_9.2.1 then (Option.map Sum.inr (some (t_9.1, t_9.2.2))) else (loop (f11_worthOfRow_l22 t_9.2.1 t_9.2.2) (t_9.1, (0 : Int64), (0 : Int32), (0 : Int32)))
noncomputable def f11_worthOfRow (s11 : OS) : Option (Int32 × OS) := nm (wL s11 0 91 ((0 : Int64))) fun s11_2 => loop (f11_worthOfRow_l9) ((0 : Int32), (0 : Int32), s11_2)
set_option maxHeartbeats 4000000 in
set_option maxRecDepth 100000 in
theorem m11_worthOfRow (l : Launch) (D : va_G) (ad : Nat → Nat) (cy : Nat → ClassId) (sz : Nat) (s11 : OS) (r : Int32 × OS) (h : f11_worthOfRow s11 = some r) : Met l yX11_worthOfRow (wsOf yX11_worthOfRow cX11_worthOfRow 7 (some .int)) (rmL 0) (va_Pc ([.ref (ad 0)] : List Value) (PreG D cy (cellsM ad cy s11) sz NM)) (QcI D ad 66 (cellsM ad cy r.2) (r.1) sz) 0 0 (Afr ad 66 sz) := by
  refine metG (own := RX11) (by decide) rfl (Nat.le_of_ble_eq_true rfl) fstM ?_ sz
  intro p e s m below meth c ls C0 hw hl
  obtain ⟨hx, hb, hml, hown, hts, hr, hlk, hK, hN⟩ := C0
  have hl : lv_has ls 7 [(0, .ref (ad 0))] := hl
  generalize hQ : MQ below (QcI D ad 66 (cellsM ad cy r.2) (r.1) s.heap.size) ([.ref (ad 0)] : List Value).toArray s 0 0 (Afr ad 66 s.heap.size) = Q
  obtain ⟨H, hH⟩ : ∃ H : Heap, H = s.heap := ⟨_, rfl⟩
  obtain ⟨locs, hlc⟩ : ∃ L : List Loc, L = [] := ⟨_, rfl⟩
  have hw : Wd D (cellsM ad cy s11) (Afr ad 66 s.heap.size) s.heap H locs := by rw [hH, hlc]; exact hw
  suffices h0 : W p l e (rmL 0) s m ([.ref (ad 0)] : List Value).toArray below meth c H locs 0 0 Q (F0 m 0 ls []) by rw [hH, hlc] at h0; exact h0
  clear hH hlc
  unfold f11_worthOfRow at h
  have hJ_75 : ∀ (s11_j75 : OS) (H : Heap) (locs : List Loc) (ls : Array Slot), f11_worthOfRow_j75 s11_j75 = some r → Wd D (cellsM ad cy s11_j75) (Afr ad 66 s.heap.size) s.heap H locs → lv_has ls 7 [] → W p l e (rmL 0) s m ([.ref (ad 0)] : List Value).toArray below meth c H locs 0 0 Q (F0 m 75 ls []) := by
    intro s11_j75 H locs ls h hw hl
    unfold f11_worthOfRow_j75 at h
    refine lv_iconst (v := (-1)) hx hb dX11_worthOfRow_75 (by decide) ?_
    have h := Option.some.inj h
    subst h
    rw [← hQ]
    exact retI hx hb hr hlk hw rfl dX11_worthOfRow_76
  refine lv_aload_n hx hb dX11_worthOfRow_0 rfl (lv_at hl 0 rfl) ?_
  refine lv_lconst (v := 0) hx hb dX11_worthOfRow_1 (by decide) ?_
  obtain ⟨s11_2, e_2, h⟩ := nam_e h
  refine pX11_515 hx hb hts hown hK hw e_2 dX11_worthOfRow_2 (fun H locs hw => ?_)
  refine lv_iconst (v := 0) hx hb dX11_worthOfRow_5 (by decide) ?_
  refine lv_istore_n (lv' := [(1, .int ((0 : Int32))), (0, .ref (ad 0))]) hx hb dX11_worthOfRow_6 rfl hl (by decide) rfl (fun ls hl => ?_)
  refine lv_iconst (v := 0) hx hb dX11_worthOfRow_7 (by decide) ?_
  refine lv_istore_n (lv' := [(2, .int ((0 : Int32))), (1, .int ((0 : Int32))), (0, .ref (ad 0))]) hx hb dX11_worthOfRow_8 rfl hl (by decide) rfl (fun ls hl => ?_)
  obtain ⟨n_9, hn_9⟩ := loop_e h
  have hL_9 : ∀ (n : Nat) (t_9 : Int32 × Int32 × OS) (H : Heap) (locs : List Loc) (ls : Array Slot), loopN (f11_worthOfRow_l9) n t_9 = some r → Wd D (cellsM ad cy t_9.2.2) (Afr ad 66 s.heap.size) s.heap H locs → lv_has ls 7 [(1, .int t_9.1), (2, .int t_9.2.1), (0, .ref (ad 0))] → W p l e (rmL 0) s m ([.ref (ad 0)] : List Value).toArray below meth c H locs 0 0 Q (F0 m 9 ls []) := by
    intro n
    induction n with
    | zero => intro t_9 H locs ls hn; cases hn
    | succ n ih_9 =>
      intro t_9 H locs ls hn hw hl
      obtain ⟨x_9, h, hx_9⟩ := loopN_e hn
      unfold f11_worthOfRow_l9 at h
      have hJ_202 : ∀ (v1_j202 : Int32) (v2_j202 : Int32) (s11_j202 : OS) (H : Heap) (locs : List Loc) (ls : Array Slot), f11_worthOfRow_j202 v1_j202 v2_j202 s11_j202 = some x_9 → Wd D (cellsM ad cy s11_j202) (Afr ad 66 s.heap.size) s.heap H locs → lv_has ls 7 [(0, .ref (ad 0)), (1, .int v1_j202), (2, .int v2_j202)] → W p l e (rmL 0) s m ([.ref (ad 0)] : List Value).toArray below meth c H locs 0 0 Q (F0 m 202 ls []) := by
        intro v1_j202 v2_j202 s11_j202 H locs ls h hw hl
        unfold f11_worthOfRow_j202 at h
        obtain ⟨n_202, e_202, h⟩ := nam_e h
        refine lv_iinc (v := n_202) (lv' := [(2, .int n_202), (0, .ref (ad 0)), (1, .int v1_j202)]) hx hb dX11_worthOfRow_202 hl (k := 2) rfl (by rw [e_202]; rfl) (by decide) rfl (fun ls hl => ?_)
        refine lv_goto (tgt := 9) hx hb dX11_worthOfRow_205 (by decide) ?_
        exact ih_9 (v1_j202, n_202, s11_j202) H locs ls (nx_l hx_9 h) hw (lv_sub hl [2, 0, 1] rfl)
      have hJ_153 : ∀ (v1_j153 : Int32) (v2_j153 : Int32) (v3_j153 : Int64) (k0_j153 : Int32) (s11_j153 : OS) (H : Heap) (locs : List Loc) (ls : Array Slot), f11_worthOfRow_j153 v1_j153 v2_j153 v3_j153 k0_j153 s11_j153 = some x_9 → Wd D (cellsM ad cy s11_j153) (Afr ad 66 s.heap.size) s.heap H locs → lv_has ls 7 [(0, .ref (ad 0)), (1, .int v1_j153), (2, .int v2_j153), (3, .long v3_j153)] → W p l e (rmL 0) s m ([.ref (ad 0)] : List Value).toArray below meth c H locs 0 0 Q (F0 m 153 ls [.int k0_j153]) := by
        intro v1_j153 v2_j153 v3_j153 k0_j153 s11_j153 H locs ls h hw hl
        unfold f11_worthOfRow_j153 at h
        refine lv_istore (lv' := [(6, .int k0_j153), (0, .ref (ad 0)), (1, .int v1_j153), (2, .int v2_j153), (3, .long v3_j153)]) hx hb dX11_worthOfRow_153 hl (by decide) rfl (fun ls hl => ?_)
        refine lv_lload_n hx hb dX11_worthOfRow_155 rfl (lv_at hl 4 rfl) ?_
        refine lv_iload hx hb dX11_worthOfRow_156 (lv_at hl 0 rfl) ?_
        refine lv_i2l hx hb dX11_worthOfRow_158 rfl ?_
        refine lv_aload_n hx hb dX11_worthOfRow_159 rfl (lv_at hl 1 rfl) ?_
        refine gX11_208 hx hb hts hown hK hw dX11_worthOfRow_160 ?_
        refine lv_i2l hx hb dX11_worthOfRow_163 rfl ?_
        refine lv_lmul hx hb dX11_worthOfRow_164 ?_
        refine lv_ladd hx hb dX11_worthOfRow_165 ?_
        refine lv_aload_n hx hb dX11_worthOfRow_166 rfl (lv_at hl 1 rfl) ?_
        refine gX11_20 hx hb hts hown hK hw dX11_worthOfRow_167 ?_
        refine lv_aload_n hx hb dX11_worthOfRow_170 rfl (lv_at hl 1 rfl) ?_
        refine gX11_202 hx hb hts hown hK hw dX11_worthOfRow_171 ?_
        refine lv_iload_n hx hb dX11_worthOfRow_174 rfl (lv_at hl 3 rfl) ?_
        obtain ⟨hi_175, h⟩ := chk_e h
        obtain ⟨y_175, e_175, h⟩ := nam_e h
        refine lM64 hx hb hK hw hi_175 e_175 dX11_worthOfRow_175 ?_
        obtain ⟨hi_176, h⟩ := chk_e h
        obtain ⟨y_176, e_176, h⟩ := nam_e h
        refine lM4 hx hb hK hw hi_176 e_176 dX11_worthOfRow_176 ?_
        refine lv_i2l hx hb dX11_worthOfRow_177 rfl ?_
        refine W.lcmp hx hb dX11_worthOfRow_178 ?_
        refine lv_if_le (tgt := 184) hx hb dX11_worthOfRow_179 (by decide) (fun c_179 => ?_) (fun c_179 => ?_)
        · have h := ite_t c_179 h
          refine lv_aload_n hx hb dX11_worthOfRow_184 rfl (lv_at hl 1 rfl) ?_
          refine lv_dup hx hb dX11_worthOfRow_185 rfl ?_
          refine gX11_515 hx hb hts hown hK hw dX11_worthOfRow_186 ?_
          refine lv_iload hx hb dX11_worthOfRow_189 (lv_at hl 0 rfl) ?_
          refine lv_i2l hx hb dX11_worthOfRow_191 rfl ?_
          refine lv_aload_n hx hb dX11_worthOfRow_192 rfl (lv_at hl 1 rfl) ?_
          refine gX11_208 hx hb hts hown hK hw dX11_worthOfRow_193 ?_
          refine lv_i2l hx hb dX11_worthOfRow_196 rfl ?_
          refine lv_lmul hx hb dX11_worthOfRow_197 ?_
          refine lv_ladd hx hb dX11_worthOfRow_198 ?_
          obtain ⟨s11_199, e_199, h⟩ := nam_e h
          refine pX11_515 hx hb hts hown hK hw e_199 dX11_worthOfRow_199 (fun H locs hw => ?_)
          exact hJ_202 v1_j153 v2_j153 s11_199 H locs ls h hw (lv_sub hl [1, 2, 3] rfl)
        · have h := ite_f c_179 h
          have h := nx_m hx_9 h
          refine lv_iconst (v := (-1)) hx hb dX11_worthOfRow_182 (by decide) ?_
          have h := Option.some.inj h
          subst h
          rw [← hQ]
          exact retI hx hb hr hlk hw rfl dX11_worthOfRow_183
      refine lv_iload_n hx hb dX11_worthOfRow_9 rfl (lv_at hl 1 rfl) ?_
      refine lv_iconst (v := 4) hx hb dX11_worthOfRow_10 (by decide) ?_
      refine lv_icmp_ge (tgt := 208) hx hb dX11_worthOfRow_11 (by decide) (fun c_11 => ?_) (fun c_11 => ?_)
      · have h := ite_t c_11 h
        have h := nx_m hx_9 h
        refine lv_iload_n hx hb dX11_worthOfRow_208 rfl (lv_at hl 0 rfl) ?_
        have h := Option.some.inj h
        subst h
        rw [← hQ]
        exact retI hx hb hr hlk hw rfl dX11_worthOfRow_209
      · have h := ite_f c_11 h
        refine lv_lconst (v := 0) hx hb dX11_worthOfRow_14 (by decide) ?_
        refine lv_lstore_n (lv' := [(3, .long ((0 : Int64))), (1, .int t_9.1), (2, .int t_9.2.1), (0, .ref (ad 0))]) hx hb dX11_worthOfRow_15 rfl hl (by decide) rfl (fun ls hl => ?_)
        refine lv_iconst (v := 0) hx hb dX11_worthOfRow_16 (by decide) ?_
        refine lv_istore (lv' := [(5, .int ((0 : Int32))), (3, .long ((0 : Int64))), (1, .int t_9.1), (2, .int t_9.2.1), (0, .ref (ad 0))]) hx hb dX11_worthOfRow_17 hl (by decide) rfl (fun ls hl => ?_)
        refine lv_iconst (v := 0) hx hb dX11_worthOfRow_19 (by decide) ?_
        refine lv_istore (lv' := [(6, .int ((0 : Int32))), (5, .int ((0 : Int32))), (3, .long ((0 : Int64))), (1, .int t_9.1), (2, .int t_9.2.1), (0, .ref (ad 0))]) hx hb dX11_worthOfRow_20 hl (by decide) rfl (fun ls hl => ?_)
        obtain ⟨n_22, hn_22⟩ := loop_e h
        have hL_22 : ∀ (n : Nat) (t_22 : Int32 × Int64 × Int32 × Int32) (H : Heap) (locs : List Loc) (ls : Array Slot), loopN (f11_worthOfRow_l22 t_9.2.1 t_9.2.2) n t_22 = some x_9 → Wd D (cellsM ad cy t_9.2.2) (Afr ad 66 s.heap.size) s.heap H locs → lv_has ls 7 [(1, .int t_22.1), (3, .long t_22.2.1), (5, .int t_22.2.2.1), (6, .int t_22.2.2.2), (2, .int t_9.2.1), (0, .ref (ad 0))] → W p l e (rmL 0) s m ([.ref (ad 0)] : List Value).toArray below meth c H locs 0 0 Q (F0 m 22 ls []) := by
          intro n
          induction n with
          | zero => intro t_22 H locs ls hn; cases hn
          | succ n ih_22 =>
            intro t_22 H locs ls hn hw hl
            obtain ⟨x_22, h, hx_22⟩ := loopN_e hn
            unfold f11_worthOfRow_l22 at h
            have hJ_101 : ∀ (v1_j101 : Int32) (v3_j101 : Int64) (v5_j101 : Int32) (v6_j101 : Int32) (H : Heap) (locs : List Loc) (ls : Array Slot), f11_worthOfRow_j101 v1_j101 t_9.2.1 v3_j101 v5_j101 v6_j101 t_9.2.2 = some x_22 → Wd D (cellsM ad cy t_9.2.2) (Afr ad 66 s.heap.size) s.heap H locs → lv_has ls 7 [(0, .ref (ad 0)), (1, .int v1_j101), (2, .int t_9.2.1), (3, .long v3_j101), (5, .int v5_j101), (6, .int v6_j101)] → W p l e (rmL 0) s m ([.ref (ad 0)] : List Value).toArray below meth c H locs 0 0 Q (F0 m 101 ls []) := by
              intro v1_j101 v3_j101 v5_j101 v6_j101 H locs ls h hw hl
              unfold f11_worthOfRow_j101 at h
              obtain ⟨n_101, e_101, h⟩ := nam_e h
              refine lv_iinc (v := n_101) (lv' := [(6, .int n_101), (0, .ref (ad 0)), (1, .int v1_j101), (2, .int t_9.2.1), (3, .long v3_j101), (5, .int v5_j101)]) hx hb dX11_worthOfRow_101 hl (k := 5) rfl (by rw [e_101]; rfl) (by decide) rfl (fun ls hl => ?_)
              refine lv_goto (tgt := 22) hx hb dX11_worthOfRow_104 (by decide) ?_
              exact ih_22 (v1_j101, v3_j101, v5_j101, n_101) H locs ls (nx_l hx_22 h) hw (lv_sub hl [2, 4, 5, 0, 3, 1] rfl)
            refine lv_iload hx hb dX11_worthOfRow_22 (lv_at hl 3 rfl) ?_
            refine lv_aload_n hx hb dX11_worthOfRow_24 rfl (lv_at hl 5 rfl) ?_
            refine gX11_507 hx hb hts hown hK hw dX11_worthOfRow_25 ?_
            refine lv_icmp_ge (tgt := 107) hx hb dX11_worthOfRow_28 (by decide) (fun c_28 => ?_) (fun c_28 => ?_)
            · have h := ite_t c_28 h
              have h := nx_m hx_22 h
              refine lv_iload hx hb dX11_worthOfRow_107 (lv_at hl 2 rfl) ?_
              refine lv_if_ne (tgt := 115) hx hb dX11_worthOfRow_109 (by decide) (fun c_109 => ?_) (fun c_109 => ?_)
              · have h := ite_f c_109 h
                refine lv_lload_n hx hb dX11_worthOfRow_115 rfl (lv_at hl 1 rfl) ?_
                refine lv_iload hx hb dX11_worthOfRow_116 (lv_at hl 2 rfl) ?_
                refine lv_i2l hx hb dX11_worthOfRow_118 rfl ?_
                refine lv_lconst (v := 1) hx hb dX11_worthOfRow_119 (by decide) ?_
                refine lv_lsub hx hb dX11_worthOfRow_120 ?_
                refine lv_aload_n hx hb dX11_worthOfRow_121 rfl (lv_at hl 5 rfl) ?_
                refine gX11_208 hx hb hts hown hK hw dX11_worthOfRow_122 ?_
                refine lv_i2l hx hb dX11_worthOfRow_125 rfl ?_
                refine lv_lmul hx hb dX11_worthOfRow_126 ?_
                refine lv_ladd hx hb dX11_worthOfRow_127 ?_
                refine lv_aload_n hx hb dX11_worthOfRow_128 rfl (lv_at hl 5 rfl) ?_
                refine gX11_20 hx hb hts hown hK hw dX11_worthOfRow_129 ?_
                refine lv_aload_n hx hb dX11_worthOfRow_132 rfl (lv_at hl 5 rfl) ?_
                refine gX11_202 hx hb hts hown hK hw dX11_worthOfRow_133 ?_
                refine lv_iload_n hx hb dX11_worthOfRow_136 rfl (lv_at hl 4 rfl) ?_
                obtain ⟨hi_137, h⟩ := chk_e h
                obtain ⟨y_137, e_137, h⟩ := nam_e h
                refine lM64 hx hb hK hw hi_137 e_137 dX11_worthOfRow_137 ?_
                obtain ⟨hi_138, h⟩ := chk_e h
                obtain ⟨y_138, e_138, h⟩ := nam_e h
                refine lM4 hx hb hK hw hi_138 e_138 dX11_worthOfRow_138 ?_
                refine lv_i2l hx hb dX11_worthOfRow_139 rfl ?_
                refine W.lcmp hx hb dX11_worthOfRow_140 ?_
                refine lv_if_ne (tgt := 151) hx hb dX11_worthOfRow_141 (by decide) (fun c_141 => ?_) (fun c_141 => ?_)
                · have h := ite_f c_141 h
                  refine lv_iload hx hb dX11_worthOfRow_151 (lv_at hl 2 rfl) ?_
                  exact hJ_153 t_22.1 t_9.2.1 t_22.2.1 t_22.2.2.1 t_9.2.2 H locs ls h hw (lv_sub hl [5, 0, 4, 1] rfl)
                · have h := ite_t c_141 h
                  refine lv_iload hx hb dX11_worthOfRow_144 (lv_at hl 2 rfl) ?_
                  refine lv_iconst (v := 1) hx hb dX11_worthOfRow_146 (by decide) ?_
                  refine lv_isub hx hb dX11_worthOfRow_147 ?_
                  refine lv_goto (tgt := 153) hx hb dX11_worthOfRow_148 (by decide) ?_
                  exact hJ_153 t_22.1 t_9.2.1 t_22.2.1 ((t_22.2.2.1 - (1 : Int32))) t_9.2.2 H locs ls h hw (lv_sub hl [5, 0, 4, 1] rfl)
              · have h := ite_t c_109 h
                refine lv_goto (tgt := 202) hx hb dX11_worthOfRow_112 (by decide) ?_
                exact hJ_202 t_22.1 t_9.2.1 t_9.2.2 H locs ls h hw (lv_sub hl [5, 0, 4] rfl)
            · have h := ite_f c_28 h
              refine lv_aload_n hx hb dX11_worthOfRow_31 rfl (lv_at hl 5 rfl) ?_
              refine gX11_205 hx hb hts hown hK hw dX11_worthOfRow_32 ?_
              refine lv_iload hx hb dX11_worthOfRow_35 (lv_at hl 3 rfl) ?_
              obtain ⟨hi_37, h⟩ := chk_e h
              obtain ⟨y_37, e_37, h⟩ := nam_e h
              refine lM65 hx hb hK hw hi_37 e_37 dX11_worthOfRow_37 ?_
              refine lv_iload_n hx hb dX11_worthOfRow_38 rfl (lv_at hl 4 rfl) ?_
              refine lv_icmp_eq (tgt := 45) hx hb dX11_worthOfRow_39 (by decide) (fun c_39 => ?_) (fun c_39 => ?_)
              · have h := ite_t c_39 h
                refine lv_iload_n hx hb dX11_worthOfRow_45 rfl (lv_at hl 4 rfl) ?_
                refine lv_aload_n hx hb dX11_worthOfRow_46 rfl (lv_at hl 5 rfl) ?_
                refine gX11_512 hx hb hts hown hK hw dX11_worthOfRow_47 ?_
                refine lv_icmp_ge (tgt := 75) hx hb dX11_worthOfRow_50 (by decide) (fun c_50 => ?_) (fun c_50 => ?_)
                · have h := ite_t c_50 h
                  have h := nx_m hx_22 h
                  have h := nx_m hx_9 h
                  exact hJ_75 t_9.2.2 H locs ls h hw (lv_sub hl [] rfl)
                · have h := ite_f c_50 h
                  refine lv_aload_n hx hb dX11_worthOfRow_53 rfl (lv_at hl 5 rfl) ?_
                  refine gX11_23 hx hb hts hown hK hw dX11_worthOfRow_54 ?_
                  refine lv_aload_n hx hb dX11_worthOfRow_57 rfl (lv_at hl 5 rfl) ?_
                  refine gX11_202 hx hb hts hown hK hw dX11_worthOfRow_58 ?_
                  refine lv_iload_n hx hb dX11_worthOfRow_61 rfl (lv_at hl 4 rfl) ?_
                  obtain ⟨hi_62, h⟩ := chk_e h
                  obtain ⟨y_62, e_62, h⟩ := nam_e h
                  refine lM64 hx hb hK hw hi_62 e_62 dX11_worthOfRow_62 ?_
                  obtain ⟨hi_63, h⟩ := chk_e h
                  obtain ⟨y_63, e_63, h⟩ := nam_e h
                  refine lM5 hx hb hK hw hi_63 e_63 dX11_worthOfRow_63 ?_
                  refine lv_aload_n hx hb dX11_worthOfRow_64 rfl (lv_at hl 5 rfl) ?_
                  refine gX11_199 hx hb hts hown hK hw dX11_worthOfRow_65 ?_
                  refine lv_iload hx hb dX11_worthOfRow_68 (lv_at hl 3 rfl) ?_
                  obtain ⟨hi_70, h⟩ := chk_e h
                  obtain ⟨y_70, e_70, h⟩ := nam_e h
                  refine lM63 hx hb hK hw hi_70 e_70 dX11_worthOfRow_70 ?_
                  refine lv_iand hx hb dX11_worthOfRow_71 ?_
                  refine lv_if_eq (tgt := 77) hx hb dX11_worthOfRow_72 (by decide) (fun c_72 => ?_) (fun c_72 => ?_)
                  · have h := ite_t c_72 h
                    refine lv_lload_n hx hb dX11_worthOfRow_77 rfl (lv_at hl 1 rfl) ?_
                    refine lv_aload_n hx hb dX11_worthOfRow_78 rfl (lv_at hl 5 rfl) ?_
                    refine gX11_193 hx hb hts hown hK hw dX11_worthOfRow_79 ?_
                    refine lv_iload hx hb dX11_worthOfRow_82 (lv_at hl 3 rfl) ?_
                    obtain ⟨hi_84, h⟩ := chk_e h
                    obtain ⟨y_84, e_84, h⟩ := nam_e h
                    refine lM61 hx hb hK hw hi_84 e_84 dX11_worthOfRow_84 ?_
                    refine lv_i2l hx hb dX11_worthOfRow_85 rfl ?_
                    refine lv_ladd hx hb dX11_worthOfRow_86 ?_
                    obtain ⟨n_87, e_87, h⟩ := nam_e h
                    refine topL e_87 ?_
                    refine lv_lstore_n (lv' := [(3, .long n_87), (1, .int t_22.1), (5, .int t_22.2.2.1), (6, .int t_22.2.2.2), (2, .int t_9.2.1), (0, .ref (ad 0))]) hx hb dX11_worthOfRow_87 rfl hl (by decide) rfl (fun ls hl => ?_)
                    obtain ⟨n_88, e_88, h⟩ := nam_e h
                    refine lv_iinc (v := n_88) (lv' := [(5, .int n_88), (3, .long n_87), (1, .int t_22.1), (6, .int t_22.2.2.2), (2, .int t_9.2.1), (0, .ref (ad 0))]) hx hb dX11_worthOfRow_88 hl (k := 2) rfl (by rw [e_88]; rfl) (by decide) rfl (fun ls hl => ?_)
                    refine lv_iload_n hx hb dX11_worthOfRow_91 rfl (lv_at hl 2 rfl) ?_
                    refine lv_aload_n hx hb dX11_worthOfRow_92 rfl (lv_at hl 5 rfl) ?_
                    refine gX11_196 hx hb hts hown hK hw dX11_worthOfRow_93 ?_
                    refine lv_iload hx hb dX11_worthOfRow_96 (lv_at hl 3 rfl) ?_
                    obtain ⟨hi_98, h⟩ := chk_e h
                    obtain ⟨y_98, e_98, h⟩ := nam_e h
                    refine lM62 hx hb hK hw hi_98 e_98 dX11_worthOfRow_98 ?_
                    refine lv_iadd hx hb dX11_worthOfRow_99 ?_
                    obtain ⟨n_100, e_100, h⟩ := nam_e h
                    refine topI e_100 ?_
                    refine lv_istore_n (lv' := [(1, .int n_100), (5, .int n_88), (3, .long n_87), (6, .int t_22.2.2.2), (2, .int t_9.2.1), (0, .ref (ad 0))]) hx hb dX11_worthOfRow_100 rfl hl (by decide) rfl (fun ls hl => ?_)
                    exact hJ_101 n_100 n_87 n_88 t_22.2.2.2 H locs ls h hw (lv_sub hl [5, 0, 4, 2, 1, 3] rfl)
                  · have h := ite_f c_72 h
                    have h := nx_m hx_22 h
                    have h := nx_m hx_9 h
                    exact hJ_75 t_9.2.2 H locs ls h hw (lv_sub hl [] rfl)
              · have h := ite_f c_39 h
                refine lv_goto (tgt := 101) hx hb dX11_worthOfRow_42 (by decide) ?_
                exact hJ_101 t_22.1 t_22.2.1 t_22.2.2.1 t_22.2.2.2 H locs ls h hw (lv_sub hl [5, 0, 4, 1, 2, 3] rfl)
        exact hL_22 n_22 (t_9.1, (0 : Int64), (0 : Int32), (0 : Int32)) H locs ls hn_22 hw (lv_sub hl [3, 2, 1, 0, 4, 5] rfl)
  exact hL_9 n_9 ((0 : Int32), (0 : Int32), s11_2) H locs ls hn_9 hw (lv_sub hl [1, 0, 2] rfl)
theorem dX11_chooses_0 : decode cX11_chooses 0 = .ok (.aload_n 0, 1) := by decide +kernel
theorem dX11_chooses_1 : decode cX11_chooses 1 = .ok (.iload_n 1, 1) := by decide +kernel
theorem dX11_chooses_2 : decode cX11_chooses 2 = .ok (.invokevirtual 519, 3) := by decide +kernel
theorem dX11_chooses_5 : decode cX11_chooses 5 = .ok (.aload_n 0, 1) := by decide +kernel
theorem dX11_chooses_6 : decode cX11_chooses 6 = .ok (.iconst (-1), 1) := by decide +kernel
theorem dX11_chooses_7 : decode cX11_chooses 7 = .ok (.putfield 522, 3) := by decide +kernel
theorem dX11_chooses_10 : decode cX11_chooses 10 = .ok (.iconst 0, 1) := by decide +kernel
theorem dX11_chooses_11 : decode cX11_chooses 11 = .ok (.istore_n 2, 1) := by decide +kernel
theorem dX11_chooses_12 : decode cX11_chooses 12 = .ok (.iload_n 2, 1) := by decide +kernel
theorem dX11_chooses_13 : decode cX11_chooses 13 = .ok (.aload_n 0, 1) := by decide +kernel
theorem dX11_chooses_14 : decode cX11_chooses 14 = .ok (.aload_n 0, 1) := by decide +kernel
theorem dX11_chooses_15 : decode cX11_chooses 15 = .ok (.getfield 507, 3) := by decide +kernel
theorem dX11_chooses_18 : decode cX11_chooses 18 = .ok (.invokevirtual 525, 3) := by decide +kernel
theorem dX11_chooses_21 : decode cX11_chooses 21 = .ok (.if_icmp .ge 116, 3) := by decide +kernel
theorem dX11_chooses_24 : decode cX11_chooses 24 = .ok (.iload_n 2, 1) := by decide +kernel
theorem dX11_chooses_25 : decode cX11_chooses 25 = .ok (.istore_n 3, 1) := by decide +kernel
theorem dX11_chooses_26 : decode cX11_chooses 26 = .ok (.aload_n 0, 1) := by decide +kernel
theorem dX11_chooses_27 : decode cX11_chooses 27 = .ok (.getfield 507, 3) := by decide +kernel
theorem dX11_chooses_30 : decode cX11_chooses 30 = .ok (.iconst 1, 1) := by decide +kernel
theorem dX11_chooses_31 : decode cX11_chooses 31 = .ok (.isub, 1) := by decide +kernel
theorem dX11_chooses_32 : decode cX11_chooses 32 = .ok (.istore 4, 2) := by decide +kernel
theorem dX11_chooses_34 : decode cX11_chooses 34 = .ok (.iload 4, 2) := by decide +kernel
theorem dX11_chooses_36 : decode cX11_chooses 36 = .ok (.ifCond .lt 23, 3) := by decide +kernel
theorem dX11_chooses_39 : decode cX11_chooses 39 = .ok (.aload_n 0, 1) := by decide +kernel
theorem dX11_chooses_40 : decode cX11_chooses 40 = .ok (.getfield 205, 3) := by decide +kernel
theorem dX11_chooses_43 : decode cX11_chooses 43 = .ok (.iload 4, 2) := by decide +kernel
theorem dX11_chooses_45 : decode cX11_chooses 45 = .ok (.iload_n 3, 1) := by decide +kernel
theorem dX11_chooses_46 : decode cX11_chooses 46 = .ok (.iconst 5, 1) := by decide +kernel
theorem dX11_chooses_47 : decode cX11_chooses 47 = .ok (.irem, 1) := by decide +kernel
theorem dX11_chooses_48 : decode cX11_chooses 48 = .ok (.iastore, 1) := by decide +kernel
theorem dX11_chooses_49 : decode cX11_chooses 49 = .ok (.iload_n 3, 1) := by decide +kernel
theorem dX11_chooses_50 : decode cX11_chooses 50 = .ok (.iconst 5, 1) := by decide +kernel
theorem dX11_chooses_51 : decode cX11_chooses 51 = .ok (.idiv, 1) := by decide +kernel
theorem dX11_chooses_52 : decode cX11_chooses 52 = .ok (.istore_n 3, 1) := by decide +kernel
theorem dX11_chooses_53 : decode cX11_chooses 53 = .ok (.iinc 4 (-1), 3) := by decide +kernel
theorem dX11_chooses_56 : decode cX11_chooses 56 = .ok (.goto (-22), 3) := by decide +kernel
theorem dX11_chooses_59 : decode cX11_chooses 59 = .ok (.aload_n 0, 1) := by decide +kernel
theorem dX11_chooses_60 : decode cX11_chooses 60 = .ok (.invokevirtual 528, 3) := by decide +kernel
theorem dX11_chooses_63 : decode cX11_chooses 63 = .ok (.istore 4, 2) := by decide +kernel
theorem dX11_chooses_65 : decode cX11_chooses 65 = .ok (.iload 4, 2) := by decide +kernel
theorem dX11_chooses_67 : decode cX11_chooses 67 = .ok (.iconst (-1), 1) := by decide +kernel
theorem dX11_chooses_68 : decode cX11_chooses 68 = .ok (.if_icmp .eq 63, 3) := by decide +kernel
theorem dX11_chooses_71 : decode cX11_chooses 71 = .ok (.aload_n 0, 1) := by decide +kernel
theorem dX11_chooses_72 : decode cX11_chooses 72 = .ok (.getfield 522, 3) := by decide +kernel
theorem dX11_chooses_75 : decode cX11_chooses 75 = .ok (.iconst (-1), 1) := by decide +kernel
theorem dX11_chooses_76 : decode cX11_chooses 76 = .ok (.if_icmp .eq 36, 3) := by decide +kernel
theorem dX11_chooses_79 : decode cX11_chooses 79 = .ok (.iload 4, 2) := by decide +kernel
theorem dX11_chooses_81 : decode cX11_chooses 81 = .ok (.aload_n 0, 1) := by decide +kernel
theorem dX11_chooses_82 : decode cX11_chooses 82 = .ok (.getfield 531, 3) := by decide +kernel
theorem dX11_chooses_85 : decode cX11_chooses 85 = .ok (.if_icmp .lt 46, 3) := by decide +kernel
theorem dX11_chooses_88 : decode cX11_chooses 88 = .ok (.iload 4, 2) := by decide +kernel
theorem dX11_chooses_90 : decode cX11_chooses 90 = .ok (.aload_n 0, 1) := by decide +kernel
theorem dX11_chooses_91 : decode cX11_chooses 91 = .ok (.getfield 531, 3) := by decide +kernel
theorem dX11_chooses_94 : decode cX11_chooses 94 = .ok (.if_icmp .ne 18, 3) := by decide +kernel
theorem dX11_chooses_97 : decode cX11_chooses 97 = .ok (.aload_n 0, 1) := by decide +kernel
theorem dX11_chooses_98 : decode cX11_chooses 98 = .ok (.getfield 515, 3) := by decide +kernel
theorem dX11_chooses_101 : decode cX11_chooses 101 = .ok (.aload_n 0, 1) := by decide +kernel
theorem dX11_chooses_102 : decode cX11_chooses 102 = .ok (.getfield 534, 3) := by decide +kernel
theorem dX11_chooses_105 : decode cX11_chooses 105 = .ok (.lcmp, 1) := by decide +kernel
theorem dX11_chooses_106 : decode cX11_chooses 106 = .ok (.ifCond .lt 6, 3) := by decide +kernel
theorem dX11_chooses_109 : decode cX11_chooses 109 = .ok (.goto 22, 3) := by decide +kernel
theorem dX11_chooses_112 : decode cX11_chooses 112 = .ok (.aload_n 0, 1) := by decide +kernel
theorem dX11_chooses_113 : decode cX11_chooses 113 = .ok (.iload_n 2, 1) := by decide +kernel
theorem dX11_chooses_114 : decode cX11_chooses 114 = .ok (.putfield 522, 3) := by decide +kernel
theorem dX11_chooses_117 : decode cX11_chooses 117 = .ok (.aload_n 0, 1) := by decide +kernel
theorem dX11_chooses_118 : decode cX11_chooses 118 = .ok (.iload 4, 2) := by decide +kernel
theorem dX11_chooses_120 : decode cX11_chooses 120 = .ok (.putfield 531, 3) := by decide +kernel
theorem dX11_chooses_123 : decode cX11_chooses 123 = .ok (.aload_n 0, 1) := by decide +kernel
theorem dX11_chooses_124 : decode cX11_chooses 124 = .ok (.aload_n 0, 1) := by decide +kernel
theorem dX11_chooses_125 : decode cX11_chooses 125 = .ok (.getfield 515, 3) := by decide +kernel
theorem dX11_chooses_128 : decode cX11_chooses 128 = .ok (.putfield 534, 3) := by decide +kernel
theorem dX11_chooses_131 : decode cX11_chooses 131 = .ok (.iinc 2 1, 3) := by decide +kernel
theorem dX11_chooses_134 : decode cX11_chooses 134 = .ok (.goto (-122), 3) := by decide +kernel
theorem dX11_chooses_137 : decode cX11_chooses 137 = .ok (.return_, 1) := by decide +kernel
noncomputable def f11_chooses_j131 (v2_j131 : Int32) (s11_j131 : OS) : Option ((Int32 × OS) ⊕ (OS)) := nm (v2_j131 + (1 : Int32)) fun n_131 => some (Sum.inl (n_131, s11_j131))
noncomputable def f11_chooses_j112 (v2_j112 : Int32) (v4_j112 : Int32) (s11_j112 : OS) : Option ((Int32 × OS) ⊕ (OS)) := nm (wI s11_j112 0 92 v2_j112) fun s11_114 => nm (wI s11_114 0 93 v4_j112) fun s11_120 => nm (wL s11_120 0 94 ((s11_120.2 0 91))) fun s11_128 => f11_chooses_j131 v2_j112 s11_128
noncomputable def f11_chooses_l34 (v2_i34 : Int32) : Int32 × Int32 × OS → Option ((Int32 × Int32 × OS) ⊕ ((Int32 × OS) ⊕ (OS))) := fun t_34 => if t_34.2.1 < 0 then (Option.map Sum.inr (Option.bind (f11_worthOfRow t_34.2.2) fun q_60 => if q_60.1 = (-1 : Int32) then (f11_chooses_j131 v2_i34 q_60.2) else (if (q_60.2.1 0 92) = (-1 : Int32) then (f11_chooses_j112 v2_i34 q_60.1 q_60.2) else (if q_60.1 < (q_60.2.1 0 93) then (f11_chooses_j131 v2_i34 q_60.2) else (if q_60.1 = (q_60.2.1 0 93) then (if (lg_cmp ((q_60.2.2 0 91)) ((q_60.2.2 0 94))) < 0 then (f11_chooses_j112 v2_i34 q_60.1 q_60.2) else (f11_chooses_j131 v2_i34 q_60.2)) else (f11_chooses_j112 v2_i34 q_60.1 q_60.2)))))) else (chk (inb t_34.2.1 6) (nm (wI t_34.2.2 89 t_34.2.1.toNatClampNeg ((t_34.1 - t_34.1 / (5 : Int32) * (5 : Int32)))) fun s11_48 => nm ((t_34.1 / (5 : Int32))) fun n_52 => nm (t_34.2.1 + (-1 : Int32)) fun n_53 => some (Sum.inl (n_52, n_53, s11_48))))
noncomputable def f11_chooses_l12  : Int32 × OS → Option ((Int32 × OS) ⊕ (OS)) := fun t_12 => Option.bind (f11_rowsOf ((t_12.2.1 0 10))) fun q_18 => if q_18 ≤ t_12.1 then (Option.map Sum.inr (some t_12.2)) else (nm (((t_12.2.1 0 10) - (1 : Int32))) fun n_32 => loop (f11_chooses_l34 t_12.1) (t_12.1, n_32, t_12.2))
noncomputable def f11_chooses (a1 : Int32) (s11 : OS) : Option (OS) := Option.bind (f11_stocks a1 s11) fun q_2 => nm (wI q_2 0 92 ((-1 : Int32))) fun s11_7 => loop (f11_chooses_l12) ((0 : Int32), s11_7)
set_option maxHeartbeats 4000000 in
set_option maxRecDepth 100000 in
theorem m11_chooses (l : Launch) (D : va_G) (ad : Nat → Nat) (cy : Nat → ClassId) (sz : Nat) (s11 : OS) (a1 : Int32) (r : OS) (h : f11_chooses a1 s11 = some r) : Met l yX11_chooses (wsOf yX11_chooses cX11_chooses 5 none) (rmL 5) (va_Pc ([.ref (ad 0), .int a1] : List Value) (PreG D cy (cellsM ad cy s11) sz NM)) (QcV D ad 66 (cellsM ad cy r) sz) 0 0 (Afr ad 66 sz) := by
  refine metG (own := RX11) (by decide) rfl (Nat.le_of_ble_eq_true rfl) fstM ?_ sz
  intro p e s m below meth c ls C0 hw hl
  obtain ⟨hx, hb, hml, hown, hts, hr, hlk, hK, hN⟩ := C0
  have hl : lv_has ls 5 [(0, .ref (ad 0)), (1, .int a1)] := hl
  generalize hQ : MQ below (QcV D ad 66 (cellsM ad cy r) s.heap.size) ([.ref (ad 0), .int a1] : List Value).toArray s 0 0 (Afr ad 66 s.heap.size) = Q
  obtain ⟨H, hH⟩ : ∃ H : Heap, H = s.heap := ⟨_, rfl⟩
  obtain ⟨locs, hlc⟩ : ∃ L : List Loc, L = [] := ⟨_, rfl⟩
  have hw : Wd D (cellsM ad cy s11) (Afr ad 66 s.heap.size) s.heap H locs := by rw [hH, hlc]; exact hw
  suffices h0 : W p l e (rmL 5) s m ([.ref (ad 0), .int a1] : List Value).toArray below meth c H locs 0 0 Q (F0 m 0 ls []) by rw [hH, hlc] at h0; exact h0
  clear hH hlc
  unfold f11_chooses at h
  refine lv_aload_n hx hb dX11_chooses_0 rfl (lv_at hl 0 rfl) ?_
  refine lv_iload_n hx hb dX11_chooses_1 rfl (lv_at hl 1 rfl) ?_
  obtain ⟨q_2, h_2, h⟩ := bnd_e h
  have pg_2 := preG (av := [.ref (ad 0), .int a1]) hK hw.1 hw.2.1 NM_keep NM_blind
  refine endV (mc := 0) (ms := 0) (va_runV (As := [.int a1]) (rest := []) ⟨hx, hb, hml, hown, hts⟩ (m11_stocks l D ad cy H.size s11 a1 q_2 h_2) (wX11_519 4 hts ⟨Nat.le_of_ble_eq_true rfl, Nat.le_of_ble_eq_true rfl⟩) ⟨pg_2.1, va_recv hK hw.1 (ci := 11) (q0 := 0) rfl eM_0, pg_2.2⟩ rfl rfl hl.1 rfl (lv_room (Nat.le_of_ble_eq_true rfl)) dX11_chooses_2 ⟨Nat.le_refl _, Nat.le_refl _⟩) hw.2.2 (afr_in hw.2.2) (fun H locs hw => ?_)
  refine lv_aload_n hx hb dX11_chooses_5 rfl (lv_at hl 0 rfl) ?_
  refine lv_iconst (v := (-1)) hx hb dX11_chooses_6 (by decide) ?_
  obtain ⟨s11_7, e_7, h⟩ := nam_e h
  refine pX11_522 hx hb hts hown hK hw e_7 dX11_chooses_7 (fun H locs hw => ?_)
  refine lv_iconst (v := 0) hx hb dX11_chooses_10 (by decide) ?_
  refine lv_istore_n (lv' := [(2, .int ((0 : Int32))), (0, .ref (ad 0)), (1, .int a1)]) hx hb dX11_chooses_11 rfl hl (by decide) rfl (fun ls hl => ?_)
  obtain ⟨n_12, hn_12⟩ := loop_e h
  have hL_12 : ∀ (n : Nat) (t_12 : Int32 × OS) (H : Heap) (locs : List Loc) (ls : Array Slot), loopN (f11_chooses_l12) n t_12 = some r → Wd D (cellsM ad cy t_12.2) (Afr ad 66 s.heap.size) s.heap H locs → lv_has ls 5 [(2, .int t_12.1), (0, .ref (ad 0))] → W p l e (rmL 5) s m ([.ref (ad 0), .int a1] : List Value).toArray below meth c H locs 0 0 Q (F0 m 12 ls []) := by
    intro n
    induction n with
    | zero => intro t_12 H locs ls hn; cases hn
    | succ n ih_12 =>
      intro t_12 H locs ls hn hw hl
      obtain ⟨x_12, h, hx_12⟩ := loopN_e hn
      unfold f11_chooses_l12 at h
      have hJ_131 : ∀ (v2_j131 : Int32) (s11_j131 : OS) (H : Heap) (locs : List Loc) (ls : Array Slot), f11_chooses_j131 v2_j131 s11_j131 = some x_12 → Wd D (cellsM ad cy s11_j131) (Afr ad 66 s.heap.size) s.heap H locs → lv_has ls 5 [(0, .ref (ad 0)), (2, .int v2_j131)] → W p l e (rmL 5) s m ([.ref (ad 0), .int a1] : List Value).toArray below meth c H locs 0 0 Q (F0 m 131 ls []) := by
        intro v2_j131 s11_j131 H locs ls h hw hl
        unfold f11_chooses_j131 at h
        obtain ⟨n_131, e_131, h⟩ := nam_e h
        refine lv_iinc (v := n_131) (lv' := [(2, .int n_131), (0, .ref (ad 0))]) hx hb dX11_chooses_131 hl (k := 1) rfl (by rw [e_131]; rfl) (by decide) rfl (fun ls hl => ?_)
        refine lv_goto (tgt := 12) hx hb dX11_chooses_134 (by decide) ?_
        exact ih_12 (n_131, s11_j131) H locs ls (nx_l hx_12 h) hw (lv_sub hl [0, 1] rfl)
      have hJ_112 : ∀ (v2_j112 : Int32) (v4_j112 : Int32) (s11_j112 : OS) (H : Heap) (locs : List Loc) (ls : Array Slot), f11_chooses_j112 v2_j112 v4_j112 s11_j112 = some x_12 → Wd D (cellsM ad cy s11_j112) (Afr ad 66 s.heap.size) s.heap H locs → lv_has ls 5 [(0, .ref (ad 0)), (2, .int v2_j112), (4, .int v4_j112)] → W p l e (rmL 5) s m ([.ref (ad 0), .int a1] : List Value).toArray below meth c H locs 0 0 Q (F0 m 112 ls []) := by
        intro v2_j112 v4_j112 s11_j112 H locs ls h hw hl
        unfold f11_chooses_j112 at h
        refine lv_aload_n hx hb dX11_chooses_112 rfl (lv_at hl 0 rfl) ?_
        refine lv_iload_n hx hb dX11_chooses_113 rfl (lv_at hl 1 rfl) ?_
        obtain ⟨s11_114, e_114, h⟩ := nam_e h
        refine pX11_522 hx hb hts hown hK hw e_114 dX11_chooses_114 (fun H locs hw => ?_)
        refine lv_aload_n hx hb dX11_chooses_117 rfl (lv_at hl 0 rfl) ?_
        refine lv_iload hx hb dX11_chooses_118 (lv_at hl 2 rfl) ?_
        obtain ⟨s11_120, e_120, h⟩ := nam_e h
        refine pX11_531 hx hb hts hown hK hw e_120 dX11_chooses_120 (fun H locs hw => ?_)
        refine lv_aload_n hx hb dX11_chooses_123 rfl (lv_at hl 0 rfl) ?_
        refine lv_aload_n hx hb dX11_chooses_124 rfl (lv_at hl 0 rfl) ?_
        refine gX11_515 hx hb hts hown hK hw dX11_chooses_125 ?_
        obtain ⟨s11_128, e_128, h⟩ := nam_e h
        refine pX11_534 hx hb hts hown hK hw e_128 dX11_chooses_128 (fun H locs hw => ?_)
        exact hJ_131 v2_j112 s11_128 H locs ls h hw (lv_sub hl [0, 1] rfl)
      refine lv_iload_n hx hb dX11_chooses_12 rfl (lv_at hl 0 rfl) ?_
      refine lv_aload_n hx hb dX11_chooses_13 rfl (lv_at hl 1 rfl) ?_
      refine lv_aload_n hx hb dX11_chooses_14 rfl (lv_at hl 1 rfl) ?_
      refine gX11_507 hx hb hts hown hK hw dX11_chooses_15 ?_
      obtain ⟨q_18, h_18, h⟩ := bnd_e h
      have pg_18 := preG (av := [.ref (ad 0), .int ((t_12.2.1 0 10))]) hK hw.1 hw.2.1 NM_keep NM_blind
      refine endI (mc := 0) (ms := 0) (va_runV (As := [.int ((t_12.2.1 0 10))]) (rest := [.int t_12.1]) ⟨hx, hb, hml, hown, hts⟩ (m11_rowsOf l D ad cy H.size t_12.2 ((t_12.2.1 0 10)) q_18 h_18) (wX11_525 0 hts ⟨Nat.le_of_ble_eq_true rfl, Nat.le_of_ble_eq_true rfl⟩) ⟨pg_18.1, va_recv hK hw.1 (ci := 11) (q0 := 0) rfl eM_0, pg_18.2⟩ rfl rfl hl.1 rfl (lv_room (Nat.le_of_ble_eq_true rfl)) dX11_chooses_18 ⟨Nat.le_refl _, Nat.le_refl _⟩) hw.2.2 (afr_in hw.2.2) (fun H locs hw => ?_)
      refine lv_icmp_ge (tgt := 137) hx hb dX11_chooses_21 (by decide) (fun c_21 => ?_) (fun c_21 => ?_)
      · have h := ite_t c_21 h
        have h := nx_m hx_12 h
        have h := Option.some.inj h
        subst h
        rw [← hQ]
        exact retV hx hb hr hlk hw dX11_chooses_137
      · have h := ite_f c_21 h
        refine lv_iload_n hx hb dX11_chooses_24 rfl (lv_at hl 0 rfl) ?_
        refine lv_istore_n (lv' := [(3, .int t_12.1), (2, .int t_12.1), (0, .ref (ad 0))]) hx hb dX11_chooses_25 rfl hl (by decide) rfl (fun ls hl => ?_)
        refine lv_aload_n hx hb dX11_chooses_26 rfl (lv_at hl 2 rfl) ?_
        refine gX11_507 hx hb hts hown hK hw dX11_chooses_27 ?_
        refine lv_iconst (v := 1) hx hb dX11_chooses_30 (by decide) ?_
        refine lv_isub hx hb dX11_chooses_31 ?_
        obtain ⟨n_32, e_32, h⟩ := nam_e h
        refine topI e_32 ?_
        refine lv_istore (lv' := [(4, .int n_32), (3, .int t_12.1), (2, .int t_12.1), (0, .ref (ad 0))]) hx hb dX11_chooses_32 hl (by decide) rfl (fun ls hl => ?_)
        obtain ⟨n_34, hn_34⟩ := loop_e h
        have hL_34 : ∀ (n : Nat) (t_34 : Int32 × Int32 × OS) (H : Heap) (locs : List Loc) (ls : Array Slot), loopN (f11_chooses_l34 t_12.1) n t_34 = some x_12 → Wd D (cellsM ad cy t_34.2.2) (Afr ad 66 s.heap.size) s.heap H locs → lv_has ls 5 [(3, .int t_34.1), (4, .int t_34.2.1), (2, .int t_12.1), (0, .ref (ad 0))] → W p l e (rmL 5) s m ([.ref (ad 0), .int a1] : List Value).toArray below meth c H locs 0 0 Q (F0 m 34 ls []) := by
          intro n
          induction n with
          | zero => intro t_34 H locs ls hn; cases hn
          | succ n ih_34 =>
            intro t_34 H locs ls hn hw hl
            obtain ⟨x_34, h, hx_34⟩ := loopN_e hn
            unfold f11_chooses_l34 at h
            refine lv_iload hx hb dX11_chooses_34 (lv_at hl 1 rfl) ?_
            refine lv_if_lt (tgt := 59) hx hb dX11_chooses_36 (by decide) (fun c_36 => ?_) (fun c_36 => ?_)
            · have h := ite_t c_36 h
              have h := nx_m hx_34 h
              refine lv_aload_n hx hb dX11_chooses_59 rfl (lv_at hl 3 rfl) ?_
              obtain ⟨q_60, h_60, h⟩ := bnd_e h
              have pg_60 := preG (av := [.ref (ad 0)]) hK hw.1 hw.2.1 NM_keep NM_blind
              refine endI (mc := 0) (ms := 0) (va_runV (As := []) (rest := []) ⟨hx, hb, hml, hown, hts⟩ (m11_worthOfRow l D ad cy H.size t_34.2.2 q_60 h_60) (wX11_528 0 hts ⟨Nat.le_of_ble_eq_true rfl, Nat.le_of_ble_eq_true rfl⟩) ⟨pg_60.1, va_recv hK hw.1 (ci := 11) (q0 := 0) rfl eM_0, pg_60.2⟩ rfl rfl hl.1 rfl (lv_room (Nat.le_of_ble_eq_true rfl)) dX11_chooses_60 ⟨Nat.le_refl _, Nat.le_refl _⟩) hw.2.2 (afr_in hw.2.2) (fun H locs hw => ?_)
              refine lv_istore (lv' := [(4, .int q_60.1), (3, .int t_34.1), (2, .int t_12.1), (0, .ref (ad 0))]) hx hb dX11_chooses_63 hl (by decide) rfl (fun ls hl => ?_)
              refine lv_iload hx hb dX11_chooses_65 (lv_at hl 0 rfl) ?_
              refine lv_iconst (v := (-1)) hx hb dX11_chooses_67 (by decide) ?_
              refine lv_icmp_eq (tgt := 131) hx hb dX11_chooses_68 (by decide) (fun c_68 => ?_) (fun c_68 => ?_)
              · have h := ite_t c_68 h
                exact hJ_131 t_12.1 q_60.2 H locs ls h hw (lv_sub hl [3, 2] rfl)
              · have h := ite_f c_68 h
                refine lv_aload_n hx hb dX11_chooses_71 rfl (lv_at hl 3 rfl) ?_
                refine gX11_522 hx hb hts hown hK hw dX11_chooses_72 ?_
                refine lv_iconst (v := (-1)) hx hb dX11_chooses_75 (by decide) ?_
                refine lv_icmp_eq (tgt := 112) hx hb dX11_chooses_76 (by decide) (fun c_76 => ?_) (fun c_76 => ?_)
                · have h := ite_t c_76 h
                  exact hJ_112 t_12.1 q_60.1 q_60.2 H locs ls h hw (lv_sub hl [3, 2, 0] rfl)
                · have h := ite_f c_76 h
                  refine lv_iload hx hb dX11_chooses_79 (lv_at hl 0 rfl) ?_
                  refine lv_aload_n hx hb dX11_chooses_81 rfl (lv_at hl 3 rfl) ?_
                  refine gX11_531 hx hb hts hown hK hw dX11_chooses_82 ?_
                  refine lv_icmp_lt (tgt := 131) hx hb dX11_chooses_85 (by decide) (fun c_85 => ?_) (fun c_85 => ?_)
                  · have h := ite_t c_85 h
                    exact hJ_131 t_12.1 q_60.2 H locs ls h hw (lv_sub hl [3, 2] rfl)
                  · have h := ite_f c_85 h
                    refine lv_iload hx hb dX11_chooses_88 (lv_at hl 0 rfl) ?_
                    refine lv_aload_n hx hb dX11_chooses_90 rfl (lv_at hl 3 rfl) ?_
                    refine gX11_531 hx hb hts hown hK hw dX11_chooses_91 ?_
                    refine lv_icmp_ne (tgt := 112) hx hb dX11_chooses_94 (by decide) (fun c_94 => ?_) (fun c_94 => ?_)
                    · have h := ite_f c_94 h
                      exact hJ_112 t_12.1 q_60.1 q_60.2 H locs ls h hw (lv_sub hl [3, 2, 0] rfl)
                    · have h := ite_t c_94 h
                      refine lv_aload_n hx hb dX11_chooses_97 rfl (lv_at hl 3 rfl) ?_
                      refine gX11_515 hx hb hts hown hK hw dX11_chooses_98 ?_
                      refine lv_aload_n hx hb dX11_chooses_101 rfl (lv_at hl 3 rfl) ?_
                      refine gX11_534 hx hb hts hown hK hw dX11_chooses_102 ?_
                      refine W.lcmp hx hb dX11_chooses_105 ?_
                      refine lv_if_lt (tgt := 112) hx hb dX11_chooses_106 (by decide) (fun c_106 => ?_) (fun c_106 => ?_)
                      · have h := ite_t c_106 h
                        exact hJ_112 t_12.1 q_60.1 q_60.2 H locs ls h hw (lv_sub hl [3, 2, 0] rfl)
                      · have h := ite_f c_106 h
                        refine lv_goto (tgt := 131) hx hb dX11_chooses_109 (by decide) ?_
                        exact hJ_131 t_12.1 q_60.2 H locs ls h hw (lv_sub hl [3, 2] rfl)
            · have h := ite_f c_36 h
              refine lv_aload_n hx hb dX11_chooses_39 rfl (lv_at hl 3 rfl) ?_
              refine gX11_205 hx hb hts hown hK hw dX11_chooses_40 ?_
              refine lv_iload hx hb dX11_chooses_43 (lv_at hl 1 rfl) ?_
              refine lv_iload_n hx hb dX11_chooses_45 rfl (lv_at hl 0 rfl) ?_
              refine lv_iconst (v := 5) hx hb dX11_chooses_46 (by decide) ?_
              refine lv_irem hx hb dX11_chooses_47 (by decide) ?_
              obtain ⟨hi_48, h⟩ := chk_e h
              obtain ⟨s11_48, e_48, h⟩ := nam_e h
              refine aM65 hx hb hK hw hi_48 e_48 dX11_chooses_48 (fun H locs hw => ?_)
              refine lv_iload_n hx hb dX11_chooses_49 rfl (lv_at hl 0 rfl) ?_
              refine lv_iconst (v := 5) hx hb dX11_chooses_50 (by decide) ?_
              refine lv_idiv hx hb dX11_chooses_51 (by decide) ?_
              obtain ⟨n_52, e_52, h⟩ := nam_e h
              refine topI e_52 ?_
              refine lv_istore_n (lv' := [(3, .int n_52), (4, .int t_34.2.1), (2, .int t_12.1), (0, .ref (ad 0))]) hx hb dX11_chooses_52 rfl hl (by decide) rfl (fun ls hl => ?_)
              obtain ⟨n_53, e_53, h⟩ := nam_e h
              refine lv_iinc (v := n_53) (lv' := [(4, .int n_53), (3, .int n_52), (2, .int t_12.1), (0, .ref (ad 0))]) hx hb dX11_chooses_53 hl (k := 1) rfl (by rw [e_53]; rfl) (by decide) rfl (fun ls hl => ?_)
              refine lv_goto (tgt := 34) hx hb dX11_chooses_56 (by decide) ?_
              exact ih_34 (n_52, n_53, s11_48) H locs ls (nx_l hx_34 h) hw (lv_sub hl [1, 0, 2, 3] rfl)
        exact hL_34 n_34 (t_12.1, n_32, t_12.2) H locs ls hn_34 hw (lv_sub hl [1, 0, 2, 3] rfl)
  exact hL_12 n_12 ((0 : Int32), s11_7) H locs ls hn_12 hw (lv_sub hl [0, 1] rfl)
theorem dX11_isKind_0 : decode cX11_isKind 0 = .ok (.iload_n 0, 1) := by decide +kernel
theorem dX11_isKind_1 : decode cX11_isKind 1 = .ok (.i2l, 1) := by decide +kernel
theorem dX11_isKind_2 : decode cX11_isKind 2 = .ok (.lconst 0, 1) := by decide +kernel
theorem dX11_isKind_3 : decode cX11_isKind 3 = .ok (.ldc2_w 223, 3) := by decide +kernel
theorem dX11_isKind_6 : decode cX11_isKind 6 = .ok (.invokestatic 215, 3) := by decide +kernel
theorem dX11_isKind_9 : decode cX11_isKind 9 = .ok (.ireturn, 1) := by decide +kernel
def f11_isKind (a0 : Int32) : Option (Int32) := Option.bind (f11_lies ((a0).toInt64) ((0 : Int64)) ((7 : Int64))) fun q_6 => chk (isB q_6) (some q_6)
set_option maxHeartbeats 4000000 in
set_option maxRecDepth 100000 in
theorem m11_isKind (l : Launch) (D : va_G) (ad : Nat → Nat) (cy : Nat → ClassId) (sz : Nat) (s11 : OS) (a0 : Int32) (r : Int32) (h : f11_isKind a0 = some r) : Met l yX11_isKind (wsOf yX11_isKind cX11_isKind 1 (some .boolean)) (rmL 1) (va_Pc ([.int a0] : List Value) (PreG D cy (cellsM ad cy s11) sz NM)) (QcI D ad 66 (cellsM ad cy s11) (r) sz) 0 0 (Afr ad 66 sz) := by
  refine metG (own := RX11) (by decide) rfl (Nat.le_of_ble_eq_true rfl) fstM ?_ sz
  intro p e s m below meth c ls C0 hw hl
  obtain ⟨hx, hb, hml, hown, hts, hr, hlk, hK, hN⟩ := C0
  have hl : lv_has ls 1 [(0, .int a0)] := hl
  generalize hQ : MQ below (QcI D ad 66 (cellsM ad cy s11) (r) s.heap.size) ([.int a0] : List Value).toArray s 0 0 (Afr ad 66 s.heap.size) = Q
  obtain ⟨H, hH⟩ : ∃ H : Heap, H = s.heap := ⟨_, rfl⟩
  obtain ⟨locs, hlc⟩ : ∃ L : List Loc, L = [] := ⟨_, rfl⟩
  have hw : Wd D (cellsM ad cy s11) (Afr ad 66 s.heap.size) s.heap H locs := by rw [hH, hlc]; exact hw
  suffices h0 : W p l e (rmL 1) s m ([.int a0] : List Value).toArray below meth c H locs 0 0 Q (F0 m 0 ls []) by rw [hH, hlc] at h0; exact h0
  clear hH hlc
  unfold f11_isKind at h
  refine lv_iload_n hx hb dX11_isKind_0 rfl (lv_at hl 0 rfl) ?_
  refine lv_i2l hx hb dX11_isKind_1 rfl ?_
  refine lv_lconst (v := 0) hx hb dX11_isKind_2 (by decide) ?_
  refine lv_ldc2 (v := 7) hx hb hown (hts _ (wd_7 (w := .constantLong RX11 223 7) (i := 108) (by decide +kernel) rfl)) dX11_isKind_3 ?_
  obtain ⟨q_6, h_6, h⟩ := bnd_e h
  have pg_6 := preG (av := [.long ((a0).toInt64), .long ((0 : Int64)), .long ((7 : Int64))]) hK hw.1 hw.2.1 NM_keep NM_blind
  refine endI (mc := 0) (ms := 0) (va_runS (As := [.long ((a0).toInt64), .long ((0 : Int64)), .long ((7 : Int64))]) (rest := []) ⟨hx, hb, hml, hown, hts⟩ (m11_lies l D ad cy H.size s11 ((a0).toInt64) ((0 : Int64)) ((7 : Int64)) q_6 h_6) (wX11_215 0 hts ⟨Nat.le_of_ble_eq_true rfl, Nat.le_of_ble_eq_true rfl⟩) pg_6 rfl rfl hl.1 rfl (lv_room (Nat.le_of_ble_eq_true rfl)) dX11_isKind_6 ⟨Nat.le_refl _, Nat.le_refl _⟩) hw.2.2 (afr_in hw.2.2) (fun H locs hw => ?_)
  obtain ⟨hz_9, h⟩ := chk_e h
  have h := Option.some.inj h
  subst h
  rw [← hQ]
  exact retI hx hb hr hlk hw (narB hz_9) dX11_isKind_9
theorem dX11_best_0 : decode cX11_best 0 = .ok (.iload_n 1, 1) := by decide +kernel
theorem dX11_best_1 : decode cX11_best 1 = .ok (.invokestatic 254, 3) := by decide +kernel
theorem dX11_best_4 : decode cX11_best 4 = .ok (.ifCond .eq 30, 3) := by decide +kernel
theorem dX11_best_7 : decode cX11_best 7 = .ok (.iload_n 2, 1) := by decide +kernel
theorem dX11_best_8 : decode cX11_best 8 = .ok (.iconst (-1), 1) := by decide +kernel
theorem dX11_best_9 : decode cX11_best 9 = .ok (.if_icmp .eq 29, 3) := by decide +kernel
theorem dX11_best_12 : decode cX11_best 12 = .ok (.iload_n 2, 1) := by decide +kernel
theorem dX11_best_13 : decode cX11_best 13 = .ok (.bipush 10, 2) := by decide +kernel
theorem dX11_best_15 : decode cX11_best 15 = .ok (.if_icmp .eq 23, 3) := by decide +kernel
theorem dX11_best_18 : decode cX11_best 18 = .ok (.iload_n 2, 1) := by decide +kernel
theorem dX11_best_19 : decode cX11_best 19 = .ok (.i2l, 1) := by decide +kernel
theorem dX11_best_20 : decode cX11_best 20 = .ok (.lconst 0, 1) := by decide +kernel
theorem dX11_best_21 : decode cX11_best 21 = .ok (.aload_n 0, 1) := by decide +kernel
theorem dX11_best_22 : decode cX11_best 22 = .ok (.getfield 507, 3) := by decide +kernel
theorem dX11_best_25 : decode cX11_best 25 = .ok (.iconst 1, 1) := by decide +kernel
theorem dX11_best_26 : decode cX11_best 26 = .ok (.isub, 1) := by decide +kernel
theorem dX11_best_27 : decode cX11_best 27 = .ok (.i2l, 1) := by decide +kernel
theorem dX11_best_28 : decode cX11_best 28 = .ok (.invokestatic 215, 3) := by decide +kernel
theorem dX11_best_31 : decode cX11_best 31 = .ok (.ifCond .ne 7, 3) := by decide +kernel
theorem dX11_best_34 : decode cX11_best 34 = .ok (.ldc2_w 537, 3) := by decide +kernel
theorem dX11_best_37 : decode cX11_best 37 = .ok (.lreturn, 1) := by decide +kernel
theorem dX11_best_38 : decode cX11_best 38 = .ok (.aload_n 0, 1) := by decide +kernel
theorem dX11_best_39 : decode cX11_best 39 = .ok (.iload_n 1, 1) := by decide +kernel
theorem dX11_best_40 : decode cX11_best 40 = .ok (.invokevirtual 539, 3) := by decide +kernel
theorem dX11_best_43 : decode cX11_best 43 = .ok (.iload_n 2, 1) := by decide +kernel
theorem dX11_best_44 : decode cX11_best 44 = .ok (.iconst (-1), 1) := by decide +kernel
theorem dX11_best_45 : decode cX11_best 45 = .ok (.if_icmp .ne 9, 3) := by decide +kernel
theorem dX11_best_48 : decode cX11_best 48 = .ok (.aload_n 0, 1) := by decide +kernel
theorem dX11_best_49 : decode cX11_best 49 = .ok (.getfield 531, 3) := by decide +kernel
theorem dX11_best_52 : decode cX11_best 52 = .ok (.i2l, 1) := by decide +kernel
theorem dX11_best_53 : decode cX11_best 53 = .ok (.lreturn, 1) := by decide +kernel
theorem dX11_best_54 : decode cX11_best 54 = .ok (.iload_n 2, 1) := by decide +kernel
theorem dX11_best_55 : decode cX11_best 55 = .ok (.bipush 10, 2) := by decide +kernel
theorem dX11_best_57 : decode cX11_best 57 = .ok (.if_icmp .ne 8, 3) := by decide +kernel
theorem dX11_best_60 : decode cX11_best 60 = .ok (.aload_n 0, 1) := by decide +kernel
theorem dX11_best_61 : decode cX11_best 61 = .ok (.getfield 534, 3) := by decide +kernel
theorem dX11_best_64 : decode cX11_best 64 = .ok (.lreturn, 1) := by decide +kernel
theorem dX11_best_65 : decode cX11_best 65 = .ok (.aload_n 0, 1) := by decide +kernel
theorem dX11_best_66 : decode cX11_best 66 = .ok (.getfield 522, 3) := by decide +kernel
theorem dX11_best_69 : decode cX11_best 69 = .ok (.istore_n 3, 1) := by decide +kernel
theorem dX11_best_70 : decode cX11_best 70 = .ok (.aload_n 0, 1) := by decide +kernel
theorem dX11_best_71 : decode cX11_best 71 = .ok (.getfield 507, 3) := by decide +kernel
theorem dX11_best_74 : decode cX11_best 74 = .ok (.iconst 1, 1) := by decide +kernel
theorem dX11_best_75 : decode cX11_best 75 = .ok (.isub, 1) := by decide +kernel
theorem dX11_best_76 : decode cX11_best 76 = .ok (.istore 4, 2) := by decide +kernel
theorem dX11_best_78 : decode cX11_best 78 = .ok (.iload 4, 2) := by decide +kernel
theorem dX11_best_80 : decode cX11_best 80 = .ok (.iload_n 2, 1) := by decide +kernel
theorem dX11_best_81 : decode cX11_best 81 = .ok (.if_icmp .le 13, 3) := by decide +kernel
theorem dX11_best_84 : decode cX11_best 84 = .ok (.iload_n 3, 1) := by decide +kernel
theorem dX11_best_85 : decode cX11_best 85 = .ok (.iconst 5, 1) := by decide +kernel
theorem dX11_best_86 : decode cX11_best 86 = .ok (.idiv, 1) := by decide +kernel
theorem dX11_best_87 : decode cX11_best 87 = .ok (.istore_n 3, 1) := by decide +kernel
theorem dX11_best_88 : decode cX11_best 88 = .ok (.iinc 4 (-1), 3) := by decide +kernel
theorem dX11_best_91 : decode cX11_best 91 = .ok (.goto (-13), 3) := by decide +kernel
theorem dX11_best_94 : decode cX11_best 94 = .ok (.iload_n 3, 1) := by decide +kernel
theorem dX11_best_95 : decode cX11_best 95 = .ok (.iconst 5, 1) := by decide +kernel
theorem dX11_best_96 : decode cX11_best 96 = .ok (.irem, 1) := by decide +kernel
theorem dX11_best_97 : decode cX11_best 97 = .ok (.i2l, 1) := by decide +kernel
theorem dX11_best_98 : decode cX11_best 98 = .ok (.lreturn, 1) := by decide +kernel
noncomputable def f11_best_l78 (v2_i78 : Int32) (s11_i78 : OS) : Int32 × Int32 → Option ((Int32 × Int32) ⊕ (Int64 × OS)) := fun t_78 => if t_78.2 ≤ v2_i78 then (Option.map Sum.inr (some (((t_78.1 - t_78.1 / (5 : Int32) * (5 : Int32))).toInt64, s11_i78))) else (nm ((t_78.1 / (5 : Int32))) fun n_87 => nm (t_78.2 + (-1 : Int32)) fun n_88 => some (Sum.inl (n_87, n_88)))
noncomputable def f11_best_j38 (v1_j38 : Int32) (v2_j38 : Int32) (s11_j38 : OS) : Option (Int64 × OS) := Option.bind (f11_chooses v1_j38 s11_j38) fun q_40 => if v2_j38 = (-1 : Int32) then (some (((q_40.1 0 93)).toInt64, q_40)) else (if v2_j38 = (10 : Int32) then (some ((q_40.2 0 94), q_40)) else (nm ((q_40.1 0 92)) fun n_69 => nm (((q_40.1 0 10) - (1 : Int32))) fun n_76 => loop (f11_best_l78 v2_j38 q_40) (n_69, n_76)))
noncomputable def f11_best_j34 (s11_j34 : OS) : Option (Int64 × OS) := some ((-1 : Int64), s11_j34)
noncomputable def f11_best (a1 : Int32) (a2 : Int32) (s11 : OS) : Option (Int64 × OS) := Option.bind (f11_isKind a1) fun q_1 => if q_1 = 0 then (f11_best_j34 s11) else (if a2 = (-1 : Int32) then (f11_best_j38 a1 a2 s11) else (if a2 = (10 : Int32) then (f11_best_j38 a1 a2 s11) else (Option.bind (f11_lies ((a2).toInt64) ((0 : Int64)) ((((s11.1 0 10) - (1 : Int32))).toInt64)) fun q_28 => if q_28 = 0 then (f11_best_j34 s11) else (f11_best_j38 a1 a2 s11))))
set_option maxHeartbeats 4000000 in
set_option maxRecDepth 100000 in
theorem m11_best (l : Launch) (D : va_G) (ad : Nat → Nat) (cy : Nat → ClassId) (sz : Nat) (s11 : OS) (a1 : Int32) (a2 : Int32) (r : Int64 × OS) (h : f11_best a1 a2 s11 = some r) : Met l yX11_best (wsOf yX11_best cX11_best 5 (some .long)) (rmL 6) (va_Pc ([.ref (ad 0), .int a1, .int a2] : List Value) (PreG D cy (cellsM ad cy s11) sz NM)) (QcL D ad 66 (cellsM ad cy r.2) (r.1) sz) 0 0 (Afr ad 66 sz) := by
  refine metG (own := RX11) (by decide) rfl (Nat.le_of_ble_eq_true rfl) fstM ?_ sz
  intro p e s m below meth c ls C0 hw hl
  obtain ⟨hx, hb, hml, hown, hts, hr, hlk, hK, hN⟩ := C0
  have hl : lv_has ls 5 [(0, .ref (ad 0)), (1, .int a1), (2, .int a2)] := hl
  generalize hQ : MQ below (QcL D ad 66 (cellsM ad cy r.2) (r.1) s.heap.size) ([.ref (ad 0), .int a1, .int a2] : List Value).toArray s 0 0 (Afr ad 66 s.heap.size) = Q
  obtain ⟨H, hH⟩ : ∃ H : Heap, H = s.heap := ⟨_, rfl⟩
  obtain ⟨locs, hlc⟩ : ∃ L : List Loc, L = [] := ⟨_, rfl⟩
  have hw : Wd D (cellsM ad cy s11) (Afr ad 66 s.heap.size) s.heap H locs := by rw [hH, hlc]; exact hw
  suffices h0 : W p l e (rmL 6) s m ([.ref (ad 0), .int a1, .int a2] : List Value).toArray below meth c H locs 0 0 Q (F0 m 0 ls []) by rw [hH, hlc] at h0; exact h0
  clear hH hlc
  unfold f11_best at h
  have hJ_38 : ∀ (v1_j38 : Int32) (v2_j38 : Int32) (s11_j38 : OS) (H : Heap) (locs : List Loc) (ls : Array Slot), f11_best_j38 v1_j38 v2_j38 s11_j38 = some r → Wd D (cellsM ad cy s11_j38) (Afr ad 66 s.heap.size) s.heap H locs → lv_has ls 5 [(0, .ref (ad 0)), (1, .int v1_j38), (2, .int v2_j38)] → W p l e (rmL 6) s m ([.ref (ad 0), .int a1, .int a2] : List Value).toArray below meth c H locs 0 0 Q (F0 m 38 ls []) := by
    intro v1_j38 v2_j38 s11_j38 H locs ls h hw hl
    unfold f11_best_j38 at h
    refine lv_aload_n hx hb dX11_best_38 rfl (lv_at hl 0 rfl) ?_
    refine lv_iload_n hx hb dX11_best_39 rfl (lv_at hl 1 rfl) ?_
    obtain ⟨q_40, h_40, h⟩ := bnd_e h
    have pg_40 := preG (av := [.ref (ad 0), .int v1_j38]) hK hw.1 hw.2.1 NM_keep NM_blind
    refine endV (mc := 0) (ms := 0) (va_runV (As := [.int v1_j38]) (rest := []) ⟨hx, hb, hml, hown, hts⟩ (m11_chooses l D ad cy H.size s11_j38 v1_j38 q_40 h_40) (wX11_539 5 hts ⟨Nat.le_of_ble_eq_true rfl, Nat.le_of_ble_eq_true rfl⟩) ⟨pg_40.1, va_recv hK hw.1 (ci := 11) (q0 := 0) rfl eM_0, pg_40.2⟩ rfl rfl hl.1 rfl (lv_room (Nat.le_of_ble_eq_true rfl)) dX11_best_40 ⟨Nat.le_refl _, Nat.le_refl _⟩) hw.2.2 (afr_in hw.2.2) (fun H locs hw => ?_)
    refine lv_iload_n hx hb dX11_best_43 rfl (lv_at hl 2 rfl) ?_
    refine lv_iconst (v := (-1)) hx hb dX11_best_44 (by decide) ?_
    refine lv_icmp_ne (tgt := 54) hx hb dX11_best_45 (by decide) (fun c_45 => ?_) (fun c_45 => ?_)
    · have h := ite_f c_45 h
      refine lv_iload_n hx hb dX11_best_54 rfl (lv_at hl 2 rfl) ?_
      refine lv_bipush (v := 10) hx hb dX11_best_55 (by decide) ?_
      refine lv_icmp_ne (tgt := 65) hx hb dX11_best_57 (by decide) (fun c_57 => ?_) (fun c_57 => ?_)
      · have h := ite_f c_57 h
        refine lv_aload_n hx hb dX11_best_65 rfl (lv_at hl 0 rfl) ?_
        refine gX11_522 hx hb hts hown hK hw dX11_best_66 ?_
        obtain ⟨n_69, e_69, h⟩ := nam_e h
        refine topI e_69 ?_
        refine lv_istore_n (lv' := [(3, .int n_69), (0, .ref (ad 0)), (1, .int v1_j38), (2, .int v2_j38)]) hx hb dX11_best_69 rfl hl (by decide) rfl (fun ls hl => ?_)
        refine lv_aload_n hx hb dX11_best_70 rfl (lv_at hl 1 rfl) ?_
        refine gX11_507 hx hb hts hown hK hw dX11_best_71 ?_
        refine lv_iconst (v := 1) hx hb dX11_best_74 (by decide) ?_
        refine lv_isub hx hb dX11_best_75 ?_
        obtain ⟨n_76, e_76, h⟩ := nam_e h
        refine topI e_76 ?_
        refine lv_istore (lv' := [(4, .int n_76), (3, .int n_69), (0, .ref (ad 0)), (1, .int v1_j38), (2, .int v2_j38)]) hx hb dX11_best_76 hl (by decide) rfl (fun ls hl => ?_)
        obtain ⟨n_78, hn_78⟩ := loop_e h
        have hL_78 : ∀ (n : Nat) (t_78 : Int32 × Int32) (H : Heap) (locs : List Loc) (ls : Array Slot), loopN (f11_best_l78 v2_j38 q_40) n t_78 = some r → Wd D (cellsM ad cy q_40) (Afr ad 66 s.heap.size) s.heap H locs → lv_has ls 5 [(3, .int t_78.1), (4, .int t_78.2), (2, .int v2_j38)] → W p l e (rmL 6) s m ([.ref (ad 0), .int a1, .int a2] : List Value).toArray below meth c H locs 0 0 Q (F0 m 78 ls []) := by
          intro n
          induction n with
          | zero => intro t_78 H locs ls hn; cases hn
          | succ n ih_78 =>
            intro t_78 H locs ls hn hw hl
            obtain ⟨x_78, h, hx_78⟩ := loopN_e hn
            unfold f11_best_l78 at h
            refine lv_iload hx hb dX11_best_78 (lv_at hl 1 rfl) ?_
            refine lv_iload_n hx hb dX11_best_80 rfl (lv_at hl 2 rfl) ?_
            refine lv_icmp_le (tgt := 94) hx hb dX11_best_81 (by decide) (fun c_81 => ?_) (fun c_81 => ?_)
            · have h := ite_t c_81 h
              have h := nx_m hx_78 h
              refine lv_iload_n hx hb dX11_best_94 rfl (lv_at hl 0 rfl) ?_
              refine lv_iconst (v := 5) hx hb dX11_best_95 (by decide) ?_
              refine lv_irem hx hb dX11_best_96 (by decide) ?_
              refine lv_i2l hx hb dX11_best_97 rfl ?_
              have h := Option.some.inj h
              subst h
              rw [← hQ]
              exact retL hx hb hr hlk hw dX11_best_98
            · have h := ite_f c_81 h
              refine lv_iload_n hx hb dX11_best_84 rfl (lv_at hl 0 rfl) ?_
              refine lv_iconst (v := 5) hx hb dX11_best_85 (by decide) ?_
              refine lv_idiv hx hb dX11_best_86 (by decide) ?_
              obtain ⟨n_87, e_87, h⟩ := nam_e h
              refine topI e_87 ?_
              refine lv_istore_n (lv' := [(3, .int n_87), (4, .int t_78.2), (2, .int v2_j38)]) hx hb dX11_best_87 rfl hl (by decide) rfl (fun ls hl => ?_)
              obtain ⟨n_88, e_88, h⟩ := nam_e h
              refine lv_iinc (v := n_88) (lv' := [(4, .int n_88), (3, .int n_87), (2, .int v2_j38)]) hx hb dX11_best_88 hl (k := 1) rfl (by rw [e_88]; rfl) (by decide) rfl (fun ls hl => ?_)
              refine lv_goto (tgt := 78) hx hb dX11_best_91 (by decide) ?_
              exact ih_78 (n_87, n_88) H locs ls (nx_l hx_78 h) hw (lv_sub hl [1, 0, 2] rfl)
        exact hL_78 n_78 (n_69, n_76) H locs ls hn_78 hw (lv_sub hl [1, 0, 4] rfl)
      · have h := ite_t c_57 h
        refine lv_aload_n hx hb dX11_best_60 rfl (lv_at hl 0 rfl) ?_
        refine gX11_534 hx hb hts hown hK hw dX11_best_61 ?_
        have h := Option.some.inj h
        subst h
        rw [← hQ]
        exact retL hx hb hr hlk hw dX11_best_64
    · have h := ite_t c_45 h
      refine lv_aload_n hx hb dX11_best_48 rfl (lv_at hl 0 rfl) ?_
      refine gX11_531 hx hb hts hown hK hw dX11_best_49 ?_
      refine lv_i2l hx hb dX11_best_52 rfl ?_
      have h := Option.some.inj h
      subst h
      rw [← hQ]
      exact retL hx hb hr hlk hw dX11_best_53
  have hJ_34 : ∀ (s11_j34 : OS) (H : Heap) (locs : List Loc) (ls : Array Slot), f11_best_j34 s11_j34 = some r → Wd D (cellsM ad cy s11_j34) (Afr ad 66 s.heap.size) s.heap H locs → lv_has ls 5 [] → W p l e (rmL 6) s m ([.ref (ad 0), .int a1, .int a2] : List Value).toArray below meth c H locs 0 0 Q (F0 m 34 ls []) := by
    intro s11_j34 H locs ls h hw hl
    unfold f11_best_j34 at h
    refine lv_ldc2 (v := (-1)) hx hb hown (hts _ (wd_8 (w := .constantLong RX11 537 (-1)) (i := 179) (by decide +kernel) rfl)) dX11_best_34 ?_
    have h := Option.some.inj h
    subst h
    rw [← hQ]
    exact retL hx hb hr hlk hw dX11_best_37
  refine lv_iload_n hx hb dX11_best_0 rfl (lv_at hl 1 rfl) ?_
  obtain ⟨q_1, h_1, h⟩ := bnd_e h
  have pg_1 := preG (av := [.int a1]) hK hw.1 hw.2.1 NM_keep NM_blind
  refine endI (mc := 0) (ms := 0) (va_runS (As := [.int a1]) (rest := []) ⟨hx, hb, hml, hown, hts⟩ (m11_isKind l D ad cy H.size s11 a1 q_1 h_1) (wX11_254 1 hts ⟨Nat.le_of_ble_eq_true rfl, Nat.le_of_ble_eq_true rfl⟩) pg_1 rfl rfl hl.1 rfl (lv_room (Nat.le_of_ble_eq_true rfl)) dX11_best_1 ⟨Nat.le_refl _, Nat.le_refl _⟩) hw.2.2 (afr_in hw.2.2) (fun H locs hw => ?_)
  refine lv_if_eq (tgt := 34) hx hb dX11_best_4 (by decide) (fun c_4 => ?_) (fun c_4 => ?_)
  · have h := ite_t c_4 h
    exact hJ_34 s11 H locs ls h hw (lv_sub hl [] rfl)
  · have h := ite_f c_4 h
    refine lv_iload_n hx hb dX11_best_7 rfl (lv_at hl 2 rfl) ?_
    refine lv_iconst (v := (-1)) hx hb dX11_best_8 (by decide) ?_
    refine lv_icmp_eq (tgt := 38) hx hb dX11_best_9 (by decide) (fun c_9 => ?_) (fun c_9 => ?_)
    · have h := ite_t c_9 h
      exact hJ_38 a1 a2 s11 H locs ls h hw (lv_sub hl [0, 1, 2] rfl)
    · have h := ite_f c_9 h
      refine lv_iload_n hx hb dX11_best_12 rfl (lv_at hl 2 rfl) ?_
      refine lv_bipush (v := 10) hx hb dX11_best_13 (by decide) ?_
      refine lv_icmp_eq (tgt := 38) hx hb dX11_best_15 (by decide) (fun c_15 => ?_) (fun c_15 => ?_)
      · have h := ite_t c_15 h
        exact hJ_38 a1 a2 s11 H locs ls h hw (lv_sub hl [0, 1, 2] rfl)
      · have h := ite_f c_15 h
        refine lv_iload_n hx hb dX11_best_18 rfl (lv_at hl 2 rfl) ?_
        refine lv_i2l hx hb dX11_best_19 rfl ?_
        refine lv_lconst (v := 0) hx hb dX11_best_20 (by decide) ?_
        refine lv_aload_n hx hb dX11_best_21 rfl (lv_at hl 0 rfl) ?_
        refine gX11_507 hx hb hts hown hK hw dX11_best_22 ?_
        refine lv_iconst (v := 1) hx hb dX11_best_25 (by decide) ?_
        refine lv_isub hx hb dX11_best_26 ?_
        refine lv_i2l hx hb dX11_best_27 rfl ?_
        obtain ⟨q_28, h_28, h⟩ := bnd_e h
        have pg_28 := preG (av := [.long ((a2).toInt64), .long ((0 : Int64)), .long ((((s11.1 0 10) - (1 : Int32))).toInt64)]) hK hw.1 hw.2.1 NM_keep NM_blind
        refine endI (mc := 0) (ms := 0) (va_runS (As := [.long ((a2).toInt64), .long ((0 : Int64)), .long ((((s11.1 0 10) - (1 : Int32))).toInt64)]) (rest := []) ⟨hx, hb, hml, hown, hts⟩ (m11_lies l D ad cy H.size s11 ((a2).toInt64) ((0 : Int64)) ((((s11.1 0 10) - (1 : Int32))).toInt64) q_28 h_28) (wX11_215 0 hts ⟨Nat.le_of_ble_eq_true rfl, Nat.le_of_ble_eq_true rfl⟩) pg_28 rfl rfl hl.1 rfl (lv_room (Nat.le_of_ble_eq_true rfl)) dX11_best_28 ⟨Nat.le_refl _, Nat.le_refl _⟩) hw.2.2 (afr_in hw.2.2) (fun H locs hw => ?_)
        refine lv_if_ne (tgt := 38) hx hb dX11_best_31 (by decide) (fun c_31 => ?_) (fun c_31 => ?_)
        · have h := ite_f c_31 h
          exact hJ_38 a1 a2 s11 H locs ls h hw (lv_sub hl [0, 1, 2] rfl)
        · have h := ite_t c_31 h
          exact hJ_34 s11 H locs ls h hw (lv_sub hl [] rfl)
theorem dX11_numberAt_0 : decode cX11_numberAt 0 = .ok (.iconst 0, 1) := by decide +kernel
theorem dX11_numberAt_1 : decode cX11_numberAt 1 = .ok (.istore_n 2, 1) := by decide +kernel
theorem dX11_numberAt_2 : decode cX11_numberAt 2 = .ok (.iconst 0, 1) := by decide +kernel
theorem dX11_numberAt_3 : decode cX11_numberAt 3 = .ok (.istore_n 3, 1) := by decide +kernel
theorem dX11_numberAt_4 : decode cX11_numberAt 4 = .ok (.iload_n 3, 1) := by decide +kernel
theorem dX11_numberAt_5 : decode cX11_numberAt 5 = .ok (.iconst 4, 1) := by decide +kernel
theorem dX11_numberAt_6 : decode cX11_numberAt 6 = .ok (.if_icmp .ge 29, 3) := by decide +kernel
theorem dX11_numberAt_9 : decode cX11_numberAt 9 = .ok (.iload_n 2, 1) := by decide +kernel
theorem dX11_numberAt_10 : decode cX11_numberAt 10 = .ok (.bipush 8, 2) := by decide +kernel
theorem dX11_numberAt_12 : decode cX11_numberAt 12 = .ok (.ishl, 1) := by decide +kernel
theorem dX11_numberAt_13 : decode cX11_numberAt 13 = .ok (.aload_n 0, 1) := by decide +kernel
theorem dX11_numberAt_14 : decode cX11_numberAt 14 = .ok (.getfield 7, 3) := by decide +kernel
theorem dX11_numberAt_17 : decode cX11_numberAt 17 = .ok (.iconst 4, 1) := by decide +kernel
theorem dX11_numberAt_18 : decode cX11_numberAt 18 = .ok (.iload_n 1, 1) := by decide +kernel
theorem dX11_numberAt_19 : decode cX11_numberAt 19 = .ok (.imul, 1) := by decide +kernel
theorem dX11_numberAt_20 : decode cX11_numberAt 20 = .ok (.iload_n 3, 1) := by decide +kernel
theorem dX11_numberAt_21 : decode cX11_numberAt 21 = .ok (.iadd, 1) := by decide +kernel
theorem dX11_numberAt_22 : decode cX11_numberAt 22 = .ok (.baload, 1) := by decide +kernel
theorem dX11_numberAt_23 : decode cX11_numberAt 23 = .ok (.sipush 255, 3) := by decide +kernel
theorem dX11_numberAt_26 : decode cX11_numberAt 26 = .ok (.iand, 1) := by decide +kernel
theorem dX11_numberAt_27 : decode cX11_numberAt 27 = .ok (.ior, 1) := by decide +kernel
theorem dX11_numberAt_28 : decode cX11_numberAt 28 = .ok (.istore_n 2, 1) := by decide +kernel
theorem dX11_numberAt_29 : decode cX11_numberAt 29 = .ok (.iinc 3 1, 3) := by decide +kernel
theorem dX11_numberAt_32 : decode cX11_numberAt 32 = .ok (.goto (-28), 3) := by decide +kernel
theorem dX11_numberAt_35 : decode cX11_numberAt 35 = .ok (.iload_n 2, 1) := by decide +kernel
theorem dX11_numberAt_36 : decode cX11_numberAt 36 = .ok (.ireturn, 1) := by decide +kernel
noncomputable def f11_numberAt_l4 (v1_i4 : Int32) (s11_i4 : OS) : Int32 × Int32 → Option ((Int32 × Int32) ⊕ (Int32)) := fun t_4 => if (4 : Int32) ≤ t_4.2 then (Option.map Sum.inr (some t_4.1)) else (chk (inb ((((4 : Int32) * v1_i4) + t_4.2)) 400) (nm (s11_i4.1 1 ((((4 : Int32) * v1_i4) + t_4.2)).toNatClampNeg) fun y_22 => nm (((t_4.1 <<< ((8 : Int32) &&& 31)) ||| (y_22 &&& (255 : Int32)))) fun n_28 => nm (t_4.2 + (1 : Int32)) fun n_29 => some (Sum.inl (n_28, n_29))))
noncomputable def f11_numberAt (a1 : Int32) (s11 : OS) : Option (Int32) := loop (f11_numberAt_l4 a1 s11) ((0 : Int32), (0 : Int32))
set_option maxHeartbeats 4000000 in
set_option maxRecDepth 100000 in
theorem m11_numberAt (l : Launch) (D : va_G) (ad : Nat → Nat) (cy : Nat → ClassId) (sz : Nat) (s11 : OS) (a1 : Int32) (r : Int32) (h : f11_numberAt a1 s11 = some r) : Met l yX11_numberAt (wsOf yX11_numberAt cX11_numberAt 4 (some .int)) (rmL 0) (va_Pc ([.ref (ad 0), .int a1] : List Value) (PreG D cy (cellsM ad cy s11) sz NM)) (QcI D ad 66 (cellsM ad cy s11) (r) sz) 0 0 (Afr ad 66 sz) := by
  refine metG (own := RX11) (by decide) rfl (Nat.le_of_ble_eq_true rfl) fstM ?_ sz
  intro p e s m below meth c ls C0 hw hl
  obtain ⟨hx, hb, hml, hown, hts, hr, hlk, hK, hN⟩ := C0
  have hl : lv_has ls 4 [(0, .ref (ad 0)), (1, .int a1)] := hl
  generalize hQ : MQ below (QcI D ad 66 (cellsM ad cy s11) (r) s.heap.size) ([.ref (ad 0), .int a1] : List Value).toArray s 0 0 (Afr ad 66 s.heap.size) = Q
  obtain ⟨H, hH⟩ : ∃ H : Heap, H = s.heap := ⟨_, rfl⟩
  obtain ⟨locs, hlc⟩ : ∃ L : List Loc, L = [] := ⟨_, rfl⟩
  have hw : Wd D (cellsM ad cy s11) (Afr ad 66 s.heap.size) s.heap H locs := by rw [hH, hlc]; exact hw
  suffices h0 : W p l e (rmL 0) s m ([.ref (ad 0), .int a1] : List Value).toArray below meth c H locs 0 0 Q (F0 m 0 ls []) by rw [hH, hlc] at h0; exact h0
  clear hH hlc
  unfold f11_numberAt at h
  refine lv_iconst (v := 0) hx hb dX11_numberAt_0 (by decide) ?_
  refine lv_istore_n (lv' := [(2, .int ((0 : Int32))), (0, .ref (ad 0)), (1, .int a1)]) hx hb dX11_numberAt_1 rfl hl (by decide) rfl (fun ls hl => ?_)
  refine lv_iconst (v := 0) hx hb dX11_numberAt_2 (by decide) ?_
  refine lv_istore_n (lv' := [(3, .int ((0 : Int32))), (2, .int ((0 : Int32))), (0, .ref (ad 0)), (1, .int a1)]) hx hb dX11_numberAt_3 rfl hl (by decide) rfl (fun ls hl => ?_)
  obtain ⟨n_4, hn_4⟩ := loop_e h
  have hL_4 : ∀ (n : Nat) (t_4 : Int32 × Int32) (H : Heap) (locs : List Loc) (ls : Array Slot), loopN (f11_numberAt_l4 a1 s11) n t_4 = some r → Wd D (cellsM ad cy s11) (Afr ad 66 s.heap.size) s.heap H locs → lv_has ls 4 [(2, .int t_4.1), (3, .int t_4.2), (1, .int a1), (0, .ref (ad 0))] → W p l e (rmL 0) s m ([.ref (ad 0), .int a1] : List Value).toArray below meth c H locs 0 0 Q (F0 m 4 ls []) := by
    intro n
    induction n with
    | zero => intro t_4 H locs ls hn; cases hn
    | succ n ih_4 =>
      intro t_4 H locs ls hn hw hl
      obtain ⟨x_4, h, hx_4⟩ := loopN_e hn
      unfold f11_numberAt_l4 at h
      refine lv_iload_n hx hb dX11_numberAt_4 rfl (lv_at hl 1 rfl) ?_
      refine lv_iconst (v := 4) hx hb dX11_numberAt_5 (by decide) ?_
      refine lv_icmp_ge (tgt := 35) hx hb dX11_numberAt_6 (by decide) (fun c_6 => ?_) (fun c_6 => ?_)
      · have h := ite_t c_6 h
        have h := nx_m hx_4 h
        refine lv_iload_n hx hb dX11_numberAt_35 rfl (lv_at hl 0 rfl) ?_
        have h := Option.some.inj h
        subst h
        rw [← hQ]
        exact retI hx hb hr hlk hw rfl dX11_numberAt_36
      · have h := ite_f c_6 h
        refine lv_iload_n hx hb dX11_numberAt_9 rfl (lv_at hl 0 rfl) ?_
        refine lv_bipush (v := 8) hx hb dX11_numberAt_10 (by decide) ?_
        refine lv_ishl hx hb dX11_numberAt_12 ?_
        refine lv_aload_n hx hb dX11_numberAt_13 rfl (lv_at hl 3 rfl) ?_
        refine gX11_7 hx hb hts hown hK hw dX11_numberAt_14 ?_
        refine lv_iconst (v := 4) hx hb dX11_numberAt_17 (by decide) ?_
        refine lv_iload_n hx hb dX11_numberAt_18 rfl (lv_at hl 2 rfl) ?_
        refine lv_imul hx hb dX11_numberAt_19 ?_
        refine lv_iload_n hx hb dX11_numberAt_20 rfl (lv_at hl 1 rfl) ?_
        refine lv_iadd hx hb dX11_numberAt_21 ?_
        obtain ⟨hi_22, h⟩ := chk_e h
        obtain ⟨y_22, e_22, h⟩ := nam_e h
        refine lM1 hx hb hK hw hi_22 e_22 dX11_numberAt_22 ?_
        refine lv_sipush (v := 255) hx hb dX11_numberAt_23 (by decide) ?_
        refine lv_iand hx hb dX11_numberAt_26 ?_
        refine lv_ior hx hb dX11_numberAt_27 ?_
        obtain ⟨n_28, e_28, h⟩ := nam_e h
        refine topI e_28 ?_
        refine lv_istore_n (lv' := [(2, .int n_28), (3, .int t_4.2), (1, .int a1), (0, .ref (ad 0))]) hx hb dX11_numberAt_28 rfl hl (by decide) rfl (fun ls hl => ?_)
        obtain ⟨n_29, e_29, h⟩ := nam_e h
        refine lv_iinc (v := n_29) (lv' := [(3, .int n_29), (2, .int n_28), (1, .int a1), (0, .ref (ad 0))]) hx hb dX11_numberAt_29 hl (k := 1) rfl (by rw [e_29]; rfl) (by decide) rfl (fun ls hl => ?_)
        refine lv_goto (tgt := 4) hx hb dX11_numberAt_32 (by decide) ?_
        exact ih_4 (n_28, n_29) H locs ls (nx_l hx_4 h) hw (lv_sub hl [1, 0, 2, 3] rfl)
  exact hL_4 n_4 ((0 : Int32), (0 : Int32)) H locs ls hn_4 hw (lv_sub hl [1, 0, 3, 2] rfl)
theorem dX11_check_0 : decode cX11_check 0 = .ok (.iload_n 1, 1) := by decide +kernel
theorem dX11_check_1 : decode cX11_check 1 = .ok (.ifCond .lt 14, 3) := by decide +kernel
theorem dX11_check_4 : decode cX11_check 4 = .ok (.iload_n 1, 1) := by decide +kernel
theorem dX11_check_5 : decode cX11_check 5 = .ok (.aload_n 0, 1) := by decide +kernel
theorem dX11_check_6 : decode cX11_check 6 = .ok (.getfield 228, 3) := by decide +kernel
theorem dX11_check_9 : decode cX11_check 9 = .ok (.bipush 12, 2) := by decide +kernel
theorem dX11_check_11 : decode cX11_check 11 = .ok (.idiv, 1) := by decide +kernel
theorem dX11_check_12 : decode cX11_check 12 = .ok (.if_icmp .le 6, 3) := by decide +kernel
theorem dX11_check_15 : decode cX11_check 15 = .ok (.bipush (-2), 2) := by decide +kernel
theorem dX11_check_17 : decode cX11_check 17 = .ok (.ireturn, 1) := by decide +kernel
theorem dX11_check_18 : decode cX11_check 18 = .ok (.aload_n 0, 1) := by decide +kernel
theorem dX11_check_19 : decode cX11_check 19 = .ok (.iconst 0, 1) := by decide +kernel
theorem dX11_check_20 : decode cX11_check 20 = .ok (.putfield 228, 3) := by decide +kernel
theorem dX11_check_23 : decode cX11_check 23 = .ok (.iconst 0, 1) := by decide +kernel
theorem dX11_check_24 : decode cX11_check 24 = .ok (.istore_n 2, 1) := by decide +kernel
theorem dX11_check_25 : decode cX11_check 25 = .ok (.iconst 0, 1) := by decide +kernel
theorem dX11_check_26 : decode cX11_check 26 = .ok (.istore_n 3, 1) := by decide +kernel
theorem dX11_check_27 : decode cX11_check 27 = .ok (.iload_n 3, 1) := by decide +kernel
theorem dX11_check_28 : decode cX11_check 28 = .ok (.aload_n 0, 1) := by decide +kernel
theorem dX11_check_29 : decode cX11_check 29 = .ok (.getfield 235, 3) := by decide +kernel
theorem dX11_check_32 : decode cX11_check 32 = .ok (.if_icmp .ge 98, 3) := by decide +kernel
theorem dX11_check_35 : decode cX11_check 35 = .ok (.aload_n 0, 1) := by decide +kernel
theorem dX11_check_36 : decode cX11_check 36 = .ok (.getfield 26, 3) := by decide +kernel
theorem dX11_check_39 : decode cX11_check 39 = .ok (.iload_n 3, 1) := by decide +kernel
theorem dX11_check_40 : decode cX11_check 40 = .ok (.iaload, 1) := by decide +kernel
theorem dX11_check_41 : decode cX11_check 41 = .ok (.bipush 10, 2) := by decide +kernel
theorem dX11_check_43 : decode cX11_check 43 = .ok (.if_icmp .lt 6, 3) := by decide +kernel
theorem dX11_check_46 : decode cX11_check 46 = .ok (.goto 78, 3) := by decide +kernel
theorem dX11_check_49 : decode cX11_check 49 = .ok (.iload_n 2, 1) := by decide +kernel
theorem dX11_check_50 : decode cX11_check 50 = .ok (.iload_n 1, 1) := by decide +kernel
theorem dX11_check_51 : decode cX11_check 51 = .ok (.if_icmp .ne 7, 3) := by decide +kernel
theorem dX11_check_54 : decode cX11_check 54 = .ok (.iconst 3, 1) := by decide +kernel
theorem dX11_check_55 : decode cX11_check 55 = .ok (.iload_n 1, 1) := by decide +kernel
theorem dX11_check_56 : decode cX11_check 56 = .ok (.imul, 1) := by decide +kernel
theorem dX11_check_57 : decode cX11_check 57 = .ok (.ireturn, 1) := by decide +kernel
theorem dX11_check_58 : decode cX11_check 58 = .ok (.aload_n 0, 1) := by decide +kernel
theorem dX11_check_59 : decode cX11_check 59 = .ok (.iconst 3, 1) := by decide +kernel
theorem dX11_check_60 : decode cX11_check 60 = .ok (.iload_n 2, 1) := by decide +kernel
theorem dX11_check_61 : decode cX11_check 61 = .ok (.imul, 1) := by decide +kernel
theorem dX11_check_62 : decode cX11_check 62 = .ok (.invokevirtual 275, 3) := by decide +kernel
theorem dX11_check_65 : decode cX11_check 65 = .ok (.iload_n 3, 1) := by decide +kernel
theorem dX11_check_66 : decode cX11_check 66 = .ok (.if_icmp .eq 7, 3) := by decide +kernel
theorem dX11_check_69 : decode cX11_check 69 = .ok (.iconst 3, 1) := by decide +kernel
theorem dX11_check_70 : decode cX11_check 70 = .ok (.iload_n 2, 1) := by decide +kernel
theorem dX11_check_71 : decode cX11_check 71 = .ok (.imul, 1) := by decide +kernel
theorem dX11_check_72 : decode cX11_check 72 = .ok (.ireturn, 1) := by decide +kernel
theorem dX11_check_73 : decode cX11_check 73 = .ok (.aload_n 0, 1) := by decide +kernel
theorem dX11_check_74 : decode cX11_check 74 = .ok (.iconst 3, 1) := by decide +kernel
theorem dX11_check_75 : decode cX11_check 75 = .ok (.iload_n 2, 1) := by decide +kernel
theorem dX11_check_76 : decode cX11_check 76 = .ok (.imul, 1) := by decide +kernel
theorem dX11_check_77 : decode cX11_check 77 = .ok (.iconst 1, 1) := by decide +kernel
theorem dX11_check_78 : decode cX11_check 78 = .ok (.iadd, 1) := by decide +kernel
theorem dX11_check_79 : decode cX11_check 79 = .ok (.invokevirtual 275, 3) := by decide +kernel
theorem dX11_check_82 : decode cX11_check 82 = .ok (.aload_n 0, 1) := by decide +kernel
theorem dX11_check_83 : decode cX11_check 83 = .ok (.getfield 26, 3) := by decide +kernel
theorem dX11_check_86 : decode cX11_check 86 = .ok (.iload_n 3, 1) := by decide +kernel
theorem dX11_check_87 : decode cX11_check 87 = .ok (.iaload, 1) := by decide +kernel
theorem dX11_check_88 : decode cX11_check 88 = .ok (.if_icmp .eq 9, 3) := by decide +kernel
theorem dX11_check_91 : decode cX11_check 91 = .ok (.iconst 3, 1) := by decide +kernel
theorem dX11_check_92 : decode cX11_check 92 = .ok (.iload_n 2, 1) := by decide +kernel
theorem dX11_check_93 : decode cX11_check 93 = .ok (.imul, 1) := by decide +kernel
theorem dX11_check_94 : decode cX11_check 94 = .ok (.iconst 1, 1) := by decide +kernel
theorem dX11_check_95 : decode cX11_check 95 = .ok (.iadd, 1) := by decide +kernel
theorem dX11_check_96 : decode cX11_check 96 = .ok (.ireturn, 1) := by decide +kernel
theorem dX11_check_97 : decode cX11_check 97 = .ok (.aload_n 0, 1) := by decide +kernel
theorem dX11_check_98 : decode cX11_check 98 = .ok (.iconst 3, 1) := by decide +kernel
theorem dX11_check_99 : decode cX11_check 99 = .ok (.iload_n 2, 1) := by decide +kernel
theorem dX11_check_100 : decode cX11_check 100 = .ok (.imul, 1) := by decide +kernel
theorem dX11_check_101 : decode cX11_check 101 = .ok (.iconst 2, 1) := by decide +kernel
theorem dX11_check_102 : decode cX11_check 102 = .ok (.iadd, 1) := by decide +kernel
theorem dX11_check_103 : decode cX11_check 103 = .ok (.invokevirtual 275, 3) := by decide +kernel
theorem dX11_check_106 : decode cX11_check 106 = .ok (.aload_n 0, 1) := by decide +kernel
theorem dX11_check_107 : decode cX11_check 107 = .ok (.getfield 20, 3) := by decide +kernel
theorem dX11_check_110 : decode cX11_check 110 = .ok (.iload_n 3, 1) := by decide +kernel
theorem dX11_check_111 : decode cX11_check 111 = .ok (.iaload, 1) := by decide +kernel
theorem dX11_check_112 : decode cX11_check 112 = .ok (.if_icmp .eq 9, 3) := by decide +kernel
theorem dX11_check_115 : decode cX11_check 115 = .ok (.iconst 3, 1) := by decide +kernel
theorem dX11_check_116 : decode cX11_check 116 = .ok (.iload_n 2, 1) := by decide +kernel
theorem dX11_check_117 : decode cX11_check 117 = .ok (.imul, 1) := by decide +kernel
theorem dX11_check_118 : decode cX11_check 118 = .ok (.iconst 2, 1) := by decide +kernel
theorem dX11_check_119 : decode cX11_check 119 = .ok (.iadd, 1) := by decide +kernel
theorem dX11_check_120 : decode cX11_check 120 = .ok (.ireturn, 1) := by decide +kernel
theorem dX11_check_121 : decode cX11_check 121 = .ok (.iinc 2 1, 3) := by decide +kernel
theorem dX11_check_124 : decode cX11_check 124 = .ok (.iinc 3 1, 3) := by decide +kernel
theorem dX11_check_127 : decode cX11_check 127 = .ok (.goto (-100), 3) := by decide +kernel
theorem dX11_check_130 : decode cX11_check 130 = .ok (.iload_n 2, 1) := by decide +kernel
theorem dX11_check_131 : decode cX11_check 131 = .ok (.iload_n 1, 1) := by decide +kernel
theorem dX11_check_132 : decode cX11_check 132 = .ok (.if_icmp .ne 7, 3) := by decide +kernel
theorem dX11_check_135 : decode cX11_check 135 = .ok (.iconst (-1), 1) := by decide +kernel
theorem dX11_check_136 : decode cX11_check 136 = .ok (.goto 6, 3) := by decide +kernel
theorem dX11_check_139 : decode cX11_check 139 = .ok (.iconst 3, 1) := by decide +kernel
theorem dX11_check_140 : decode cX11_check 140 = .ok (.iload_n 2, 1) := by decide +kernel
theorem dX11_check_141 : decode cX11_check 141 = .ok (.imul, 1) := by decide +kernel
theorem dX11_check_142 : decode cX11_check 142 = .ok (.ireturn, 1) := by decide +kernel
noncomputable def f11_check_j142 (k0_j142 : Int32) (s11_j142 : OS) : Option (Int32 × OS) := some (k0_j142, s11_j142)
noncomputable def f11_check_j15 (s11_j15 : OS) : Option (Int32 × OS) := some ((-2 : Int32), s11_j15)
noncomputable def f11_check_j124 (v1_j124 : Int32) (v2_j124 : Int32) (v3_j124 : Int32) (s11_j124 : OS) : Option ((Int32 × Int32) ⊕ (Int32 × OS)) := nm (v3_j124 + (1 : Int32)) fun n_124 => some (Sum.inl (v2_j124, n_124))
noncomputable def f11_check_l27 (v1_i27 : Int32) (s11_i27 : OS) : Int32 × Int32 → Option ((Int32 × Int32) ⊕ (Int32 × OS)) := fun t_27 => if (s11_i27.1 0 3) ≤ t_27.2 then (Option.map Sum.inr (if t_27.1 = v1_i27 then (f11_check_j142 ((-1 : Int32)) s11_i27) else (f11_check_j142 (((3 : Int32) * t_27.1)) s11_i27))) else (chk (inb t_27.2 150) (nm (s11_i27.1 16 t_27.2.toNatClampNeg) fun y_40 => if y_40 < (10 : Int32) then (if t_27.1 = v1_i27 then (Option.map Sum.inr (some (((3 : Int32) * v1_i27), s11_i27))) else (Option.bind (f11_numberAt (((3 : Int32) * t_27.1)) s11_i27) fun q_62 => if q_62 = t_27.2 then (Option.bind (f11_numberAt ((((3 : Int32) * t_27.1) + (1 : Int32))) s11_i27) fun q_79 => chk (inb t_27.2 150) (nm (s11_i27.1 16 t_27.2.toNatClampNeg) fun y_87 => if q_79 = y_87 then (Option.bind (f11_numberAt ((((3 : Int32) * t_27.1) + (2 : Int32))) s11_i27) fun q_103 => chk (inb t_27.2 150) (nm (s11_i27.1 14 t_27.2.toNatClampNeg) fun y_111 => if q_103 = y_111 then (nm (t_27.1 + (1 : Int32)) fun n_121 => f11_check_j124 v1_i27 n_121 t_27.2 s11_i27) else (Option.map Sum.inr (some ((((3 : Int32) * t_27.1) + (2 : Int32)), s11_i27))))) else (Option.map Sum.inr (some ((((3 : Int32) * t_27.1) + (1 : Int32)), s11_i27))))) else (Option.map Sum.inr (some (((3 : Int32) * t_27.1), s11_i27))))) else (f11_check_j124 v1_i27 t_27.1 t_27.2 s11_i27)))
noncomputable def f11_check (a1 : Int32) (s11 : OS) : Option (Int32 × OS) := if a1 < 0 then (f11_check_j15 s11) else (if a1 ≤ ((s11.1 0 1) / (12 : Int32)) then (nm (wI s11 0 1 ((0 : Int32))) fun s11_20 => loop (f11_check_l27 a1 s11_20) ((0 : Int32), (0 : Int32))) else (f11_check_j15 s11))
set_option maxHeartbeats 4000000 in
set_option maxRecDepth 100000 in
theorem m11_check (l : Launch) (D : va_G) (ad : Nat → Nat) (cy : Nat → ClassId) (sz : Nat) (s11 : OS) (a1 : Int32) (r : Int32 × OS) (h : f11_check a1 s11 = some r) : Met l yX11_check (wsOf yX11_check cX11_check 4 (some .int)) (rmL 1) (va_Pc ([.ref (ad 0), .int a1] : List Value) (PreG D cy (cellsM ad cy s11) sz NM)) (QcI D ad 66 (cellsM ad cy r.2) (r.1) sz) 0 0 (Afr ad 66 sz) := by
  refine metG (own := RX11) (by decide) rfl (Nat.le_of_ble_eq_true rfl) fstM ?_ sz
  intro p e s m below meth c ls C0 hw hl
  obtain ⟨hx, hb, hml, hown, hts, hr, hlk, hK, hN⟩ := C0
  have hl : lv_has ls 4 [(0, .ref (ad 0)), (1, .int a1)] := hl
  generalize hQ : MQ below (QcI D ad 66 (cellsM ad cy r.2) (r.1) s.heap.size) ([.ref (ad 0), .int a1] : List Value).toArray s 0 0 (Afr ad 66 s.heap.size) = Q
  obtain ⟨H, hH⟩ : ∃ H : Heap, H = s.heap := ⟨_, rfl⟩
  obtain ⟨locs, hlc⟩ : ∃ L : List Loc, L = [] := ⟨_, rfl⟩
  have hw : Wd D (cellsM ad cy s11) (Afr ad 66 s.heap.size) s.heap H locs := by rw [hH, hlc]; exact hw
  suffices h0 : W p l e (rmL 1) s m ([.ref (ad 0), .int a1] : List Value).toArray below meth c H locs 0 0 Q (F0 m 0 ls []) by rw [hH, hlc] at h0; exact h0
  clear hH hlc
  unfold f11_check at h
  have hJ_142 : ∀ (k0_j142 : Int32) (s11_j142 : OS) (H : Heap) (locs : List Loc) (ls : Array Slot), f11_check_j142 k0_j142 s11_j142 = some r → Wd D (cellsM ad cy s11_j142) (Afr ad 66 s.heap.size) s.heap H locs → lv_has ls 4 [] → W p l e (rmL 1) s m ([.ref (ad 0), .int a1] : List Value).toArray below meth c H locs 0 0 Q (F0 m 142 ls [.int k0_j142]) := by
    intro k0_j142 s11_j142 H locs ls h hw hl
    unfold f11_check_j142 at h
    have h := Option.some.inj h
    subst h
    rw [← hQ]
    exact retI hx hb hr hlk hw rfl dX11_check_142
  have hJ_15 : ∀ (s11_j15 : OS) (H : Heap) (locs : List Loc) (ls : Array Slot), f11_check_j15 s11_j15 = some r → Wd D (cellsM ad cy s11_j15) (Afr ad 66 s.heap.size) s.heap H locs → lv_has ls 4 [] → W p l e (rmL 1) s m ([.ref (ad 0), .int a1] : List Value).toArray below meth c H locs 0 0 Q (F0 m 15 ls []) := by
    intro s11_j15 H locs ls h hw hl
    unfold f11_check_j15 at h
    refine lv_bipush (v := (-2)) hx hb dX11_check_15 (by decide) ?_
    have h := Option.some.inj h
    subst h
    rw [← hQ]
    exact retI hx hb hr hlk hw rfl dX11_check_17
  refine lv_iload_n hx hb dX11_check_0 rfl (lv_at hl 1 rfl) ?_
  refine lv_if_lt (tgt := 15) hx hb dX11_check_1 (by decide) (fun c_1 => ?_) (fun c_1 => ?_)
  · have h := ite_t c_1 h
    exact hJ_15 s11 H locs ls h hw (lv_sub hl [] rfl)
  · have h := ite_f c_1 h
    refine lv_iload_n hx hb dX11_check_4 rfl (lv_at hl 1 rfl) ?_
    refine lv_aload_n hx hb dX11_check_5 rfl (lv_at hl 0 rfl) ?_
    refine gX11_228 hx hb hts hown hK hw dX11_check_6 ?_
    refine lv_bipush (v := 12) hx hb dX11_check_9 (by decide) ?_
    refine lv_idiv hx hb dX11_check_11 (by decide) ?_
    refine lv_icmp_le (tgt := 18) hx hb dX11_check_12 (by decide) (fun c_12 => ?_) (fun c_12 => ?_)
    · have h := ite_t c_12 h
      refine lv_aload_n hx hb dX11_check_18 rfl (lv_at hl 0 rfl) ?_
      refine lv_iconst (v := 0) hx hb dX11_check_19 (by decide) ?_
      obtain ⟨s11_20, e_20, h⟩ := nam_e h
      refine pX11_228 hx hb hts hown hK hw e_20 dX11_check_20 (fun H locs hw => ?_)
      refine lv_iconst (v := 0) hx hb dX11_check_23 (by decide) ?_
      refine lv_istore_n (lv' := [(2, .int ((0 : Int32))), (0, .ref (ad 0)), (1, .int a1)]) hx hb dX11_check_24 rfl hl (by decide) rfl (fun ls hl => ?_)
      refine lv_iconst (v := 0) hx hb dX11_check_25 (by decide) ?_
      refine lv_istore_n (lv' := [(3, .int ((0 : Int32))), (2, .int ((0 : Int32))), (0, .ref (ad 0)), (1, .int a1)]) hx hb dX11_check_26 rfl hl (by decide) rfl (fun ls hl => ?_)
      obtain ⟨n_27, hn_27⟩ := loop_e h
      have hL_27 : ∀ (n : Nat) (t_27 : Int32 × Int32) (H : Heap) (locs : List Loc) (ls : Array Slot), loopN (f11_check_l27 a1 s11_20) n t_27 = some r → Wd D (cellsM ad cy s11_20) (Afr ad 66 s.heap.size) s.heap H locs → lv_has ls 4 [(2, .int t_27.1), (3, .int t_27.2), (1, .int a1), (0, .ref (ad 0))] → W p l e (rmL 1) s m ([.ref (ad 0), .int a1] : List Value).toArray below meth c H locs 0 0 Q (F0 m 27 ls []) := by
        intro n
        induction n with
        | zero => intro t_27 H locs ls hn; cases hn
        | succ n ih_27 =>
          intro t_27 H locs ls hn hw hl
          obtain ⟨x_27, h, hx_27⟩ := loopN_e hn
          unfold f11_check_l27 at h
          have hJ_124 : ∀ (v2_j124 : Int32) (v3_j124 : Int32) (H : Heap) (locs : List Loc) (ls : Array Slot), f11_check_j124 a1 v2_j124 v3_j124 s11_20 = some x_27 → Wd D (cellsM ad cy s11_20) (Afr ad 66 s.heap.size) s.heap H locs → lv_has ls 4 [(0, .ref (ad 0)), (1, .int a1), (2, .int v2_j124), (3, .int v3_j124)] → W p l e (rmL 1) s m ([.ref (ad 0), .int a1] : List Value).toArray below meth c H locs 0 0 Q (F0 m 124 ls []) := by
            intro v2_j124 v3_j124 H locs ls h hw hl
            unfold f11_check_j124 at h
            obtain ⟨n_124, e_124, h⟩ := nam_e h
            refine lv_iinc (v := n_124) (lv' := [(3, .int n_124), (0, .ref (ad 0)), (1, .int a1), (2, .int v2_j124)]) hx hb dX11_check_124 hl (k := 3) rfl (by rw [e_124]; rfl) (by decide) rfl (fun ls hl => ?_)
            refine lv_goto (tgt := 27) hx hb dX11_check_127 (by decide) ?_
            exact ih_27 (v2_j124, n_124) H locs ls (nx_l hx_27 h) hw (lv_sub hl [3, 0, 2, 1] rfl)
          refine lv_iload_n hx hb dX11_check_27 rfl (lv_at hl 1 rfl) ?_
          refine lv_aload_n hx hb dX11_check_28 rfl (lv_at hl 3 rfl) ?_
          refine gX11_235 hx hb hts hown hK hw dX11_check_29 ?_
          refine lv_icmp_ge (tgt := 130) hx hb dX11_check_32 (by decide) (fun c_32 => ?_) (fun c_32 => ?_)
          · have h := ite_t c_32 h
            have h := nx_m hx_27 h
            refine lv_iload_n hx hb dX11_check_130 rfl (lv_at hl 0 rfl) ?_
            refine lv_iload_n hx hb dX11_check_131 rfl (lv_at hl 2 rfl) ?_
            refine lv_icmp_ne (tgt := 139) hx hb dX11_check_132 (by decide) (fun c_132 => ?_) (fun c_132 => ?_)
            · have h := ite_f c_132 h
              refine lv_iconst (v := 3) hx hb dX11_check_139 (by decide) ?_
              refine lv_iload_n hx hb dX11_check_140 rfl (lv_at hl 0 rfl) ?_
              refine lv_imul hx hb dX11_check_141 ?_
              exact hJ_142 (((3 : Int32) * t_27.1)) s11_20 H locs ls h hw (lv_sub hl [] rfl)
            · have h := ite_t c_132 h
              refine lv_iconst (v := (-1)) hx hb dX11_check_135 (by decide) ?_
              refine lv_goto (tgt := 142) hx hb dX11_check_136 (by decide) ?_
              exact hJ_142 ((-1 : Int32)) s11_20 H locs ls h hw (lv_sub hl [] rfl)
          · have h := ite_f c_32 h
            refine lv_aload_n hx hb dX11_check_35 rfl (lv_at hl 3 rfl) ?_
            refine gX11_26 hx hb hts hown hK hw dX11_check_36 ?_
            refine lv_iload_n hx hb dX11_check_39 rfl (lv_at hl 1 rfl) ?_
            obtain ⟨hi_40, h⟩ := chk_e h
            obtain ⟨y_40, e_40, h⟩ := nam_e h
            refine lM6 hx hb hK hw hi_40 e_40 dX11_check_40 ?_
            refine lv_bipush (v := 10) hx hb dX11_check_41 (by decide) ?_
            refine lv_icmp_lt (tgt := 49) hx hb dX11_check_43 (by decide) (fun c_43 => ?_) (fun c_43 => ?_)
            · have h := ite_t c_43 h
              refine lv_iload_n hx hb dX11_check_49 rfl (lv_at hl 0 rfl) ?_
              refine lv_iload_n hx hb dX11_check_50 rfl (lv_at hl 2 rfl) ?_
              refine lv_icmp_ne (tgt := 58) hx hb dX11_check_51 (by decide) (fun c_51 => ?_) (fun c_51 => ?_)
              · have h := ite_f c_51 h
                refine lv_aload_n hx hb dX11_check_58 rfl (lv_at hl 3 rfl) ?_
                refine lv_iconst (v := 3) hx hb dX11_check_59 (by decide) ?_
                refine lv_iload_n hx hb dX11_check_60 rfl (lv_at hl 0 rfl) ?_
                refine lv_imul hx hb dX11_check_61 ?_
                obtain ⟨q_62, h_62, h⟩ := bnd_e h
                have pg_62 := preG (av := [.ref (ad 0), .int (((3 : Int32) * t_27.1))]) hK hw.1 hw.2.1 NM_keep NM_blind
                refine endI (mc := 0) (ms := 0) (va_runV (As := [.int (((3 : Int32) * t_27.1))]) (rest := []) ⟨hx, hb, hml, hown, hts⟩ (m11_numberAt l D ad cy H.size s11_20 (((3 : Int32) * t_27.1)) q_62 h_62) (wX11_275 0 hts ⟨Nat.le_of_ble_eq_true rfl, Nat.le_of_ble_eq_true rfl⟩) ⟨pg_62.1, va_recv hK hw.1 (ci := 11) (q0 := 0) rfl eM_0, pg_62.2⟩ rfl rfl hl.1 rfl (lv_room (Nat.le_of_ble_eq_true rfl)) dX11_check_62 ⟨Nat.le_refl _, Nat.le_refl _⟩) hw.2.2 (afr_in hw.2.2) (fun H locs hw => ?_)
                refine lv_iload_n hx hb dX11_check_65 rfl (lv_at hl 1 rfl) ?_
                refine lv_icmp_eq (tgt := 73) hx hb dX11_check_66 (by decide) (fun c_66 => ?_) (fun c_66 => ?_)
                · have h := ite_t c_66 h
                  refine lv_aload_n hx hb dX11_check_73 rfl (lv_at hl 3 rfl) ?_
                  refine lv_iconst (v := 3) hx hb dX11_check_74 (by decide) ?_
                  refine lv_iload_n hx hb dX11_check_75 rfl (lv_at hl 0 rfl) ?_
                  refine lv_imul hx hb dX11_check_76 ?_
                  refine lv_iconst (v := 1) hx hb dX11_check_77 (by decide) ?_
                  refine lv_iadd hx hb dX11_check_78 ?_
                  obtain ⟨q_79, h_79, h⟩ := bnd_e h
                  have pg_79 := preG (av := [.ref (ad 0), .int ((((3 : Int32) * t_27.1) + (1 : Int32)))]) hK hw.1 hw.2.1 NM_keep NM_blind
                  refine endI (mc := 0) (ms := 0) (va_runV (As := [.int ((((3 : Int32) * t_27.1) + (1 : Int32)))]) (rest := []) ⟨hx, hb, hml, hown, hts⟩ (m11_numberAt l D ad cy H.size s11_20 ((((3 : Int32) * t_27.1) + (1 : Int32))) q_79 h_79) (wX11_275 0 hts ⟨Nat.le_of_ble_eq_true rfl, Nat.le_of_ble_eq_true rfl⟩) ⟨pg_79.1, va_recv hK hw.1 (ci := 11) (q0 := 0) rfl eM_0, pg_79.2⟩ rfl rfl hl.1 rfl (lv_room (Nat.le_of_ble_eq_true rfl)) dX11_check_79 ⟨Nat.le_refl _, Nat.le_refl _⟩) hw.2.2 (afr_in hw.2.2) (fun H locs hw => ?_)
                  refine lv_aload_n hx hb dX11_check_82 rfl (lv_at hl 3 rfl) ?_
                  refine gX11_26 hx hb hts hown hK hw dX11_check_83 ?_
                  refine lv_iload_n hx hb dX11_check_86 rfl (lv_at hl 1 rfl) ?_
                  obtain ⟨hi_87, h⟩ := chk_e h
                  obtain ⟨y_87, e_87, h⟩ := nam_e h
                  refine lM6 hx hb hK hw hi_87 e_87 dX11_check_87 ?_
                  refine lv_icmp_eq (tgt := 97) hx hb dX11_check_88 (by decide) (fun c_88 => ?_) (fun c_88 => ?_)
                  · have h := ite_t c_88 h
                    refine lv_aload_n hx hb dX11_check_97 rfl (lv_at hl 3 rfl) ?_
                    refine lv_iconst (v := 3) hx hb dX11_check_98 (by decide) ?_
                    refine lv_iload_n hx hb dX11_check_99 rfl (lv_at hl 0 rfl) ?_
                    refine lv_imul hx hb dX11_check_100 ?_
                    refine lv_iconst (v := 2) hx hb dX11_check_101 (by decide) ?_
                    refine lv_iadd hx hb dX11_check_102 ?_
                    obtain ⟨q_103, h_103, h⟩ := bnd_e h
                    have pg_103 := preG (av := [.ref (ad 0), .int ((((3 : Int32) * t_27.1) + (2 : Int32)))]) hK hw.1 hw.2.1 NM_keep NM_blind
                    refine endI (mc := 0) (ms := 0) (va_runV (As := [.int ((((3 : Int32) * t_27.1) + (2 : Int32)))]) (rest := []) ⟨hx, hb, hml, hown, hts⟩ (m11_numberAt l D ad cy H.size s11_20 ((((3 : Int32) * t_27.1) + (2 : Int32))) q_103 h_103) (wX11_275 0 hts ⟨Nat.le_of_ble_eq_true rfl, Nat.le_of_ble_eq_true rfl⟩) ⟨pg_103.1, va_recv hK hw.1 (ci := 11) (q0 := 0) rfl eM_0, pg_103.2⟩ rfl rfl hl.1 rfl (lv_room (Nat.le_of_ble_eq_true rfl)) dX11_check_103 ⟨Nat.le_refl _, Nat.le_refl _⟩) hw.2.2 (afr_in hw.2.2) (fun H locs hw => ?_)
                    refine lv_aload_n hx hb dX11_check_106 rfl (lv_at hl 3 rfl) ?_
                    refine gX11_20 hx hb hts hown hK hw dX11_check_107 ?_
                    refine lv_iload_n hx hb dX11_check_110 rfl (lv_at hl 1 rfl) ?_
                    obtain ⟨hi_111, h⟩ := chk_e h
                    obtain ⟨y_111, e_111, h⟩ := nam_e h
                    refine lM4 hx hb hK hw hi_111 e_111 dX11_check_111 ?_
                    refine lv_icmp_eq (tgt := 121) hx hb dX11_check_112 (by decide) (fun c_112 => ?_) (fun c_112 => ?_)
                    · have h := ite_t c_112 h
                      obtain ⟨n_121, e_121, h⟩ := nam_e h
                      refine lv_iinc (v := n_121) (lv' := [(2, .int n_121), (3, .int t_27.2), (1, .int a1), (0, .ref (ad 0))]) hx hb dX11_check_121 hl (k := 0) rfl (by rw [e_121]; rfl) (by decide) rfl (fun ls hl => ?_)
                      exact hJ_124 n_121 t_27.2 H locs ls h hw (lv_sub hl [3, 2, 0, 1] rfl)
                    · have h := ite_f c_112 h
                      have h := nx_m hx_27 h
                      refine lv_iconst (v := 3) hx hb dX11_check_115 (by decide) ?_
                      refine lv_iload_n hx hb dX11_check_116 rfl (lv_at hl 0 rfl) ?_
                      refine lv_imul hx hb dX11_check_117 ?_
                      refine lv_iconst (v := 2) hx hb dX11_check_118 (by decide) ?_
                      refine lv_iadd hx hb dX11_check_119 ?_
                      have h := Option.some.inj h
                      subst h
                      rw [← hQ]
                      exact retI hx hb hr hlk hw rfl dX11_check_120
                  · have h := ite_f c_88 h
                    have h := nx_m hx_27 h
                    refine lv_iconst (v := 3) hx hb dX11_check_91 (by decide) ?_
                    refine lv_iload_n hx hb dX11_check_92 rfl (lv_at hl 0 rfl) ?_
                    refine lv_imul hx hb dX11_check_93 ?_
                    refine lv_iconst (v := 1) hx hb dX11_check_94 (by decide) ?_
                    refine lv_iadd hx hb dX11_check_95 ?_
                    have h := Option.some.inj h
                    subst h
                    rw [← hQ]
                    exact retI hx hb hr hlk hw rfl dX11_check_96
                · have h := ite_f c_66 h
                  have h := nx_m hx_27 h
                  refine lv_iconst (v := 3) hx hb dX11_check_69 (by decide) ?_
                  refine lv_iload_n hx hb dX11_check_70 rfl (lv_at hl 0 rfl) ?_
                  refine lv_imul hx hb dX11_check_71 ?_
                  have h := Option.some.inj h
                  subst h
                  rw [← hQ]
                  exact retI hx hb hr hlk hw rfl dX11_check_72
              · have h := ite_t c_51 h
                have h := nx_m hx_27 h
                refine lv_iconst (v := 3) hx hb dX11_check_54 (by decide) ?_
                refine lv_iload_n hx hb dX11_check_55 rfl (lv_at hl 2 rfl) ?_
                refine lv_imul hx hb dX11_check_56 ?_
                have h := Option.some.inj h
                subst h
                rw [← hQ]
                exact retI hx hb hr hlk hw rfl dX11_check_57
            · have h := ite_f c_43 h
              refine lv_goto (tgt := 124) hx hb dX11_check_46 (by decide) ?_
              exact hJ_124 t_27.1 t_27.2 H locs ls h hw (lv_sub hl [3, 2, 0, 1] rfl)
      exact hL_27 n_27 ((0 : Int32), (0 : Int32)) H locs ls hn_27 hw (lv_sub hl [1, 0, 3, 2] rfl)
    · have h := ite_f c_12 h
      exact hJ_15 s11 H locs ls h hw (lv_sub hl [] rfl)
theorem dX11_isGood_0 : decode cX11_isGood 0 = .ok (.aload_n 0, 1) := by decide +kernel
theorem dX11_isGood_1 : decode cX11_isGood 1 = .ok (.getfield 291, 3) := by decide +kernel
theorem dX11_isGood_4 : decode cX11_isGood 4 = .ok (.ifCond .ne 7, 3) := by decide +kernel
theorem dX11_isGood_7 : decode cX11_isGood 7 = .ok (.iconst 1, 1) := by decide +kernel
theorem dX11_isGood_8 : decode cX11_isGood 8 = .ok (.goto 4, 3) := by decide +kernel
theorem dX11_isGood_11 : decode cX11_isGood 11 = .ok (.iconst 0, 1) := by decide +kernel
theorem dX11_isGood_12 : decode cX11_isGood 12 = .ok (.ireturn, 1) := by decide +kernel
def f11_isGood_j12 (k0_j12 : Int32) (s11_j12 : OS) : Option (Int32) := chk (isB k0_j12) (some k0_j12)
def f11_isGood (s11 : OS) : Option (Int32) := if (s11.1 0 45) = 0 then (f11_isGood_j12 ((1 : Int32)) s11) else (f11_isGood_j12 ((0 : Int32)) s11)
set_option maxHeartbeats 4000000 in
set_option maxRecDepth 100000 in
theorem m11_isGood (l : Launch) (D : va_G) (ad : Nat → Nat) (cy : Nat → ClassId) (sz : Nat) (s11 : OS) (r : Int32) (h : f11_isGood s11 = some r) : Met l yX11_isGood (wsOf yX11_isGood cX11_isGood 1 (some .boolean)) (rmL 0) (va_Pc ([.ref (ad 0)] : List Value) (PreG D cy (cellsM ad cy s11) sz NM)) (QcI D ad 66 (cellsM ad cy s11) (r) sz) 0 0 (Afr ad 66 sz) := by
  refine metG (own := RX11) (by decide) rfl (Nat.le_of_ble_eq_true rfl) fstM ?_ sz
  intro p e s m below meth c ls C0 hw hl
  obtain ⟨hx, hb, hml, hown, hts, hr, hlk, hK, hN⟩ := C0
  have hl : lv_has ls 1 [(0, .ref (ad 0))] := hl
  generalize hQ : MQ below (QcI D ad 66 (cellsM ad cy s11) (r) s.heap.size) ([.ref (ad 0)] : List Value).toArray s 0 0 (Afr ad 66 s.heap.size) = Q
  obtain ⟨H, hH⟩ : ∃ H : Heap, H = s.heap := ⟨_, rfl⟩
  obtain ⟨locs, hlc⟩ : ∃ L : List Loc, L = [] := ⟨_, rfl⟩
  have hw : Wd D (cellsM ad cy s11) (Afr ad 66 s.heap.size) s.heap H locs := by rw [hH, hlc]; exact hw
  suffices h0 : W p l e (rmL 0) s m ([.ref (ad 0)] : List Value).toArray below meth c H locs 0 0 Q (F0 m 0 ls []) by rw [hH, hlc] at h0; exact h0
  clear hH hlc
  unfold f11_isGood at h
  have hJ_12 : ∀ (k0_j12 : Int32) (H : Heap) (locs : List Loc) (ls : Array Slot), f11_isGood_j12 k0_j12 s11 = some r → Wd D (cellsM ad cy s11) (Afr ad 66 s.heap.size) s.heap H locs → lv_has ls 1 [] → W p l e (rmL 0) s m ([.ref (ad 0)] : List Value).toArray below meth c H locs 0 0 Q (F0 m 12 ls [.int k0_j12]) := by
    intro k0_j12 H locs ls h hw hl
    unfold f11_isGood_j12 at h
    obtain ⟨hz_12, h⟩ := chk_e h
    have h := Option.some.inj h
    subst h
    rw [← hQ]
    exact retI hx hb hr hlk hw (narB hz_12) dX11_isGood_12
  refine lv_aload_n hx hb dX11_isGood_0 rfl (lv_at hl 0 rfl) ?_
  refine gX11_291 hx hb hts hown hK hw dX11_isGood_1 ?_
  refine lv_if_ne (tgt := 11) hx hb dX11_isGood_4 (by decide) (fun c_4 => ?_) (fun c_4 => ?_)
  · have h := ite_f c_4 h
    refine lv_iconst (v := 0) hx hb dX11_isGood_11 (by decide) ?_
    exact hJ_12 ((0 : Int32)) H locs ls h hw (lv_sub hl [] rfl)
  · have h := ite_t c_4 h
    refine lv_iconst (v := 1) hx hb dX11_isGood_7 (by decide) ?_
    refine lv_goto (tgt := 12) hx hb dX11_isGood_8 (by decide) ?_
    exact hJ_12 ((1 : Int32)) H locs ls h hw (lv_sub hl [] rfl)
theorem dX11_emit_0 : decode cX11_emit 0 = .ok (.aload_n 0, 1) := by decide +kernel
theorem dX11_emit_1 : decode cX11_emit 1 = .ok (.invokevirtual 294, 3) := by decide +kernel
theorem dX11_emit_4 : decode cX11_emit 4 = .ok (.ifCond .ne 4, 3) := by decide +kernel
theorem dX11_emit_7 : decode cX11_emit 7 = .ok (.return_, 1) := by decide +kernel
theorem dX11_emit_8 : decode cX11_emit 8 = .ok (.aload_n 0, 1) := by decide +kernel
theorem dX11_emit_9 : decode cX11_emit 9 = .ok (.getfield 103, 3) := by decide +kernel
theorem dX11_emit_12 : decode cX11_emit 12 = .ok (.sipush 160, 3) := by decide +kernel
theorem dX11_emit_15 : decode cX11_emit 15 = .ok (.aload_n 0, 1) := by decide +kernel
theorem dX11_emit_16 : decode cX11_emit 16 = .ok (.getfield 298, 3) := by decide +kernel
theorem dX11_emit_19 : decode cX11_emit 19 = .ok (.imul, 1) := by decide +kernel
theorem dX11_emit_20 : decode cX11_emit 20 = .ok (.aload_n 0, 1) := by decide +kernel
theorem dX11_emit_21 : decode cX11_emit 21 = .ok (.getfield 301, 3) := by decide +kernel
theorem dX11_emit_24 : decode cX11_emit 24 = .ok (.iadd, 1) := by decide +kernel
theorem dX11_emit_25 : decode cX11_emit 25 = .ok (.iload_n 1, 1) := by decide +kernel
theorem dX11_emit_26 : decode cX11_emit 26 = .ok (.iastore, 1) := by decide +kernel
theorem dX11_emit_27 : decode cX11_emit 27 = .ok (.aload_n 0, 1) := by decide +kernel
theorem dX11_emit_28 : decode cX11_emit 28 = .ok (.getfield 106, 3) := by decide +kernel
theorem dX11_emit_31 : decode cX11_emit 31 = .ok (.sipush 160, 3) := by decide +kernel
theorem dX11_emit_34 : decode cX11_emit 34 = .ok (.aload_n 0, 1) := by decide +kernel
theorem dX11_emit_35 : decode cX11_emit 35 = .ok (.getfield 298, 3) := by decide +kernel
theorem dX11_emit_38 : decode cX11_emit 38 = .ok (.imul, 1) := by decide +kernel
theorem dX11_emit_39 : decode cX11_emit 39 = .ok (.aload_n 0, 1) := by decide +kernel
theorem dX11_emit_40 : decode cX11_emit 40 = .ok (.getfield 301, 3) := by decide +kernel
theorem dX11_emit_43 : decode cX11_emit 43 = .ok (.iadd, 1) := by decide +kernel
theorem dX11_emit_44 : decode cX11_emit 44 = .ok (.iload_n 2, 1) := by decide +kernel
theorem dX11_emit_45 : decode cX11_emit 45 = .ok (.iastore, 1) := by decide +kernel
theorem dX11_emit_46 : decode cX11_emit 46 = .ok (.aload_n 0, 1) := by decide +kernel
theorem dX11_emit_47 : decode cX11_emit 47 = .ok (.dup, 1) := by decide +kernel
theorem dX11_emit_48 : decode cX11_emit 48 = .ok (.getfield 301, 3) := by decide +kernel
theorem dX11_emit_51 : decode cX11_emit 51 = .ok (.iconst 1, 1) := by decide +kernel
theorem dX11_emit_52 : decode cX11_emit 52 = .ok (.iadd, 1) := by decide +kernel
theorem dX11_emit_53 : decode cX11_emit 53 = .ok (.putfield 301, 3) := by decide +kernel
theorem dX11_emit_56 : decode cX11_emit 56 = .ok (.return_, 1) := by decide +kernel
def f11_emit (a1 : Int32) (a2 : Int32) (s11 : OS) : Option (OS) := Option.bind (f11_isGood s11) fun q_1 => if q_1 = 0 then (some s11) else (chk (inb ((((160 : Int32) * (s11.1 0 6)) + (s11.1 0 47))) 3200) (nm (wI s11 42 ((((160 : Int32) * (s11.1 0 6)) + (s11.1 0 47))).toNatClampNeg a1) fun s11_26 => chk (inb ((((160 : Int32) * (s11_26.1 0 6)) + (s11_26.1 0 47))) 3200) (nm (wI s11_26 43 ((((160 : Int32) * (s11_26.1 0 6)) + (s11_26.1 0 47))).toNatClampNeg a2) fun s11_45 => nm (wI s11_45 0 47 (((s11_45.1 0 47) + (1 : Int32)))) fun s11_53 => some s11_53)))
set_option maxHeartbeats 4000000 in
set_option maxRecDepth 100000 in
theorem m11_emit (l : Launch) (D : va_G) (ad : Nat → Nat) (cy : Nat → ClassId) (sz : Nat) (s11 : OS) (a1 : Int32) (a2 : Int32) (r : OS) (h : f11_emit a1 a2 s11 = some r) : Met l yX11_emit (wsOf yX11_emit cX11_emit 3 none) (rmL 1) (va_Pc ([.ref (ad 0), .int a1, .int a2] : List Value) (PreG D cy (cellsM ad cy s11) sz NM)) (QcV D ad 66 (cellsM ad cy r) sz) 0 0 (Afr ad 66 sz) := by
  refine metG (own := RX11) (by decide) rfl (Nat.le_of_ble_eq_true rfl) fstM ?_ sz
  intro p e s m below meth c ls C0 hw hl
  obtain ⟨hx, hb, hml, hown, hts, hr, hlk, hK, hN⟩ := C0
  have hl : lv_has ls 3 [(0, .ref (ad 0)), (1, .int a1), (2, .int a2)] := hl
  generalize hQ : MQ below (QcV D ad 66 (cellsM ad cy r) s.heap.size) ([.ref (ad 0), .int a1, .int a2] : List Value).toArray s 0 0 (Afr ad 66 s.heap.size) = Q
  obtain ⟨H, hH⟩ : ∃ H : Heap, H = s.heap := ⟨_, rfl⟩
  obtain ⟨locs, hlc⟩ : ∃ L : List Loc, L = [] := ⟨_, rfl⟩
  have hw : Wd D (cellsM ad cy s11) (Afr ad 66 s.heap.size) s.heap H locs := by rw [hH, hlc]; exact hw
  suffices h0 : W p l e (rmL 1) s m ([.ref (ad 0), .int a1, .int a2] : List Value).toArray below meth c H locs 0 0 Q (F0 m 0 ls []) by rw [hH, hlc] at h0; exact h0
  clear hH hlc
  unfold f11_emit at h
  refine lv_aload_n hx hb dX11_emit_0 rfl (lv_at hl 0 rfl) ?_
  obtain ⟨q_1, h_1, h⟩ := bnd_e h
  have pg_1 := preG (av := [.ref (ad 0)]) hK hw.1 hw.2.1 NM_keep NM_blind
  refine endI (mc := 0) (ms := 0) (va_runV (As := []) (rest := []) ⟨hx, hb, hml, hown, hts⟩ (m11_isGood l D ad cy H.size s11 q_1 h_1) (wX11_294 0 hts ⟨Nat.le_of_ble_eq_true rfl, Nat.le_of_ble_eq_true rfl⟩) ⟨pg_1.1, va_recv hK hw.1 (ci := 11) (q0 := 0) rfl eM_0, pg_1.2⟩ rfl rfl hl.1 rfl (lv_room (Nat.le_of_ble_eq_true rfl)) dX11_emit_1 ⟨Nat.le_refl _, Nat.le_refl _⟩) hw.2.2 (afr_in hw.2.2) (fun H locs hw => ?_)
  refine lv_if_ne (tgt := 8) hx hb dX11_emit_4 (by decide) (fun c_4 => ?_) (fun c_4 => ?_)
  · have h := ite_f c_4 h
    refine lv_aload_n hx hb dX11_emit_8 rfl (lv_at hl 0 rfl) ?_
    refine gX11_103 hx hb hts hown hK hw dX11_emit_9 ?_
    refine lv_sipush (v := 160) hx hb dX11_emit_12 (by decide) ?_
    refine lv_aload_n hx hb dX11_emit_15 rfl (lv_at hl 0 rfl) ?_
    refine gX11_298 hx hb hts hown hK hw dX11_emit_16 ?_
    refine lv_imul hx hb dX11_emit_19 ?_
    refine lv_aload_n hx hb dX11_emit_20 rfl (lv_at hl 0 rfl) ?_
    refine gX11_301 hx hb hts hown hK hw dX11_emit_21 ?_
    refine lv_iadd hx hb dX11_emit_24 ?_
    refine lv_iload_n hx hb dX11_emit_25 rfl (lv_at hl 1 rfl) ?_
    obtain ⟨hi_26, h⟩ := chk_e h
    obtain ⟨s11_26, e_26, h⟩ := nam_e h
    refine aM31 hx hb hK hw hi_26 e_26 dX11_emit_26 (fun H locs hw => ?_)
    refine lv_aload_n hx hb dX11_emit_27 rfl (lv_at hl 0 rfl) ?_
    refine gX11_106 hx hb hts hown hK hw dX11_emit_28 ?_
    refine lv_sipush (v := 160) hx hb dX11_emit_31 (by decide) ?_
    refine lv_aload_n hx hb dX11_emit_34 rfl (lv_at hl 0 rfl) ?_
    refine gX11_298 hx hb hts hown hK hw dX11_emit_35 ?_
    refine lv_imul hx hb dX11_emit_38 ?_
    refine lv_aload_n hx hb dX11_emit_39 rfl (lv_at hl 0 rfl) ?_
    refine gX11_301 hx hb hts hown hK hw dX11_emit_40 ?_
    refine lv_iadd hx hb dX11_emit_43 ?_
    refine lv_iload_n hx hb dX11_emit_44 rfl (lv_at hl 2 rfl) ?_
    obtain ⟨hi_45, h⟩ := chk_e h
    obtain ⟨s11_45, e_45, h⟩ := nam_e h
    refine aM32 hx hb hK hw hi_45 e_45 dX11_emit_45 (fun H locs hw => ?_)
    refine lv_aload_n hx hb dX11_emit_46 rfl (lv_at hl 0 rfl) ?_
    refine lv_dup hx hb dX11_emit_47 rfl ?_
    refine gX11_301 hx hb hts hown hK hw dX11_emit_48 ?_
    refine lv_iconst (v := 1) hx hb dX11_emit_51 (by decide) ?_
    refine lv_iadd hx hb dX11_emit_52 ?_
    obtain ⟨s11_53, e_53, h⟩ := nam_e h
    refine pX11_301 hx hb hts hown hK hw e_53 dX11_emit_53 (fun H locs hw => ?_)
    have h := Option.some.inj h
    subst h
    rw [← hQ]
    exact retV hx hb hr hlk hw dX11_emit_56
  · have h := ite_t c_4 h
    have h := Option.some.inj h
    subst h
    rw [← hQ]
    exact retV hx hb hr hlk hw dX11_emit_7
theorem dX11_top_0 : decode cX11_top 0 = .ok (.aload_n 0, 1) := by decide +kernel
theorem dX11_top_1 : decode cX11_top 1 = .ok (.getfield 304, 3) := by decide +kernel
theorem dX11_top_4 : decode cX11_top 4 = .ok (.ifCond .le 17, 3) := by decide +kernel
theorem dX11_top_7 : decode cX11_top 7 = .ok (.aload_n 0, 1) := by decide +kernel
theorem dX11_top_8 : decode cX11_top 8 = .ok (.getfield 109, 3) := by decide +kernel
theorem dX11_top_11 : decode cX11_top 11 = .ok (.aload_n 0, 1) := by decide +kernel
theorem dX11_top_12 : decode cX11_top 12 = .ok (.getfield 304, 3) := by decide +kernel
theorem dX11_top_15 : decode cX11_top 15 = .ok (.iconst 1, 1) := by decide +kernel
theorem dX11_top_16 : decode cX11_top 16 = .ok (.isub, 1) := by decide +kernel
theorem dX11_top_17 : decode cX11_top 17 = .ok (.iaload, 1) := by decide +kernel
theorem dX11_top_18 : decode cX11_top 18 = .ok (.goto 4, 3) := by decide +kernel
theorem dX11_top_21 : decode cX11_top 21 = .ok (.iconst 0, 1) := by decide +kernel
theorem dX11_top_22 : decode cX11_top 22 = .ok (.ireturn, 1) := by decide +kernel
def f11_top_j22 (k0_j22 : Int32) (s11_j22 : OS) : Option (Int32) := some k0_j22
def f11_top (s11 : OS) : Option (Int32) := if (s11.1 0 49) ≤ 0 then (f11_top_j22 ((0 : Int32)) s11) else (chk (inb (((s11.1 0 49) - (1 : Int32))) 200) (nm (s11.1 53 (((s11.1 0 49) - (1 : Int32))).toNatClampNeg) fun y_17 => f11_top_j22 y_17 s11))
set_option maxHeartbeats 4000000 in
set_option maxRecDepth 100000 in
theorem m11_top (l : Launch) (D : va_G) (ad : Nat → Nat) (cy : Nat → ClassId) (sz : Nat) (s11 : OS) (r : Int32) (h : f11_top s11 = some r) : Met l yX11_top (wsOf yX11_top cX11_top 1 (some .int)) (rmL 0) (va_Pc ([.ref (ad 0)] : List Value) (PreG D cy (cellsM ad cy s11) sz NM)) (QcI D ad 66 (cellsM ad cy s11) (r) sz) 0 0 (Afr ad 66 sz) := by
  refine metG (own := RX11) (by decide) rfl (Nat.le_of_ble_eq_true rfl) fstM ?_ sz
  intro p e s m below meth c ls C0 hw hl
  obtain ⟨hx, hb, hml, hown, hts, hr, hlk, hK, hN⟩ := C0
  have hl : lv_has ls 1 [(0, .ref (ad 0))] := hl
  generalize hQ : MQ below (QcI D ad 66 (cellsM ad cy s11) (r) s.heap.size) ([.ref (ad 0)] : List Value).toArray s 0 0 (Afr ad 66 s.heap.size) = Q
  obtain ⟨H, hH⟩ : ∃ H : Heap, H = s.heap := ⟨_, rfl⟩
  obtain ⟨locs, hlc⟩ : ∃ L : List Loc, L = [] := ⟨_, rfl⟩
  have hw : Wd D (cellsM ad cy s11) (Afr ad 66 s.heap.size) s.heap H locs := by rw [hH, hlc]; exact hw
  suffices h0 : W p l e (rmL 0) s m ([.ref (ad 0)] : List Value).toArray below meth c H locs 0 0 Q (F0 m 0 ls []) by rw [hH, hlc] at h0; exact h0
  clear hH hlc
  unfold f11_top at h
  have hJ_22 : ∀ (k0_j22 : Int32) (H : Heap) (locs : List Loc) (ls : Array Slot), f11_top_j22 k0_j22 s11 = some r → Wd D (cellsM ad cy s11) (Afr ad 66 s.heap.size) s.heap H locs → lv_has ls 1 [] → W p l e (rmL 0) s m ([.ref (ad 0)] : List Value).toArray below meth c H locs 0 0 Q (F0 m 22 ls [.int k0_j22]) := by
    intro k0_j22 H locs ls h hw hl
    unfold f11_top_j22 at h
    have h := Option.some.inj h
    subst h
    rw [← hQ]
    exact retI hx hb hr hlk hw rfl dX11_top_22
  refine lv_aload_n hx hb dX11_top_0 rfl (lv_at hl 0 rfl) ?_
  refine gX11_304 hx hb hts hown hK hw dX11_top_1 ?_
  refine lv_if_le (tgt := 21) hx hb dX11_top_4 (by decide) (fun c_4 => ?_) (fun c_4 => ?_)
  · have h := ite_t c_4 h
    refine lv_iconst (v := 0) hx hb dX11_top_21 (by decide) ?_
    exact hJ_22 ((0 : Int32)) H locs ls h hw (lv_sub hl [] rfl)
  · have h := ite_f c_4 h
    refine lv_aload_n hx hb dX11_top_7 rfl (lv_at hl 0 rfl) ?_
    refine gX11_109 hx hb hts hown hK hw dX11_top_8 ?_
    refine lv_aload_n hx hb dX11_top_11 rfl (lv_at hl 0 rfl) ?_
    refine gX11_304 hx hb hts hown hK hw dX11_top_12 ?_
    refine lv_iconst (v := 1) hx hb dX11_top_15 (by decide) ?_
    refine lv_isub hx hb dX11_top_16 ?_
    obtain ⟨hi_17, h⟩ := chk_e h
    obtain ⟨y_17, e_17, h⟩ := nam_e h
    refine lM33 hx hb hK hw hi_17 e_17 dX11_top_17 ?_
    refine lv_goto (tgt := 22) hx hb dX11_top_18 (by decide) ?_
    exact hJ_22 y_17 H locs ls h hw (lv_sub hl [] rfl)
theorem dX11_ends_0 : decode cX11_ends 0 = .ok (.aload_n 0, 1) := by decide +kernel
theorem dX11_ends_1 : decode cX11_ends 1 = .ok (.invokevirtual 328, 3) := by decide +kernel
theorem dX11_ends_4 : decode cX11_ends 4 = .ok (.bipush 33, 2) := by decide +kernel
theorem dX11_ends_6 : decode cX11_ends 6 = .ok (.if_icmp .ne 32, 3) := by decide +kernel
theorem dX11_ends_9 : decode cX11_ends 9 = .ok (.aload_n 0, 1) := by decide +kernel
theorem dX11_ends_10 : decode cX11_ends 10 = .ok (.iconst 2, 1) := by decide +kernel
theorem dX11_ends_11 : decode cX11_ends 11 = .ok (.iconst 0, 1) := by decide +kernel
theorem dX11_ends_12 : decode cX11_ends 12 = .ok (.invokevirtual 337, 3) := by decide +kernel
theorem dX11_ends_15 : decode cX11_ends 15 = .ok (.aload_n 0, 1) := by decide +kernel
theorem dX11_ends_16 : decode cX11_ends 16 = .ok (.dup, 1) := by decide +kernel
theorem dX11_ends_17 : decode cX11_ends 17 = .ok (.getfield 304, 3) := by decide +kernel
theorem dX11_ends_20 : decode cX11_ends 20 = .ok (.iconst 1, 1) := by decide +kernel
theorem dX11_ends_21 : decode cX11_ends 21 = .ok (.isub, 1) := by decide +kernel
theorem dX11_ends_22 : decode cX11_ends 22 = .ok (.putfield 304, 3) := by decide +kernel
theorem dX11_ends_25 : decode cX11_ends 25 = .ok (.aload_n 0, 1) := by decide +kernel
theorem dX11_ends_26 : decode cX11_ends 26 = .ok (.dup, 1) := by decide +kernel
theorem dX11_ends_27 : decode cX11_ends 27 = .ok (.getfield 307, 3) := by decide +kernel
theorem dX11_ends_30 : decode cX11_ends 30 = .ok (.iconst 1, 1) := by decide +kernel
theorem dX11_ends_31 : decode cX11_ends 31 = .ok (.isub, 1) := by decide +kernel
theorem dX11_ends_32 : decode cX11_ends 32 = .ok (.putfield 307, 3) := by decide +kernel
theorem dX11_ends_35 : decode cX11_ends 35 = .ok (.goto (-35), 3) := by decide +kernel
theorem dX11_ends_38 : decode cX11_ends 38 = .ok (.return_, 1) := by decide +kernel
noncomputable def f11_ends_l0  : OS → Option ((OS) ⊕ (OS)) := fun t_0 => Option.bind (f11_top t_0) fun q_1 => if q_1 = (33 : Int32) then (Option.bind (f11_emit ((2 : Int32)) ((0 : Int32)) t_0) fun q_12 => nm (wI q_12 0 49 (((q_12.1 0 49) - (1 : Int32)))) fun s11_22 => nm (wI s11_22 0 48 (((s11_22.1 0 48) - (1 : Int32)))) fun s11_32 => some (Sum.inl s11_32)) else (Option.map Sum.inr (some t_0))
noncomputable def f11_ends (s11 : OS) : Option (OS) := loop (f11_ends_l0) s11
set_option maxHeartbeats 4000000 in
set_option maxRecDepth 100000 in
theorem m11_ends (l : Launch) (D : va_G) (ad : Nat → Nat) (cy : Nat → ClassId) (sz : Nat) (s11 : OS) (r : OS) (h : f11_ends s11 = some r) : Met l yX11_ends (wsOf yX11_ends cX11_ends 1 none) (rmL 2) (va_Pc ([.ref (ad 0)] : List Value) (PreG D cy (cellsM ad cy s11) sz NM)) (QcV D ad 66 (cellsM ad cy r) sz) 0 0 (Afr ad 66 sz) := by
  refine metG (own := RX11) (by decide) rfl (Nat.le_of_ble_eq_true rfl) fstM ?_ sz
  intro p e s m below meth c ls C0 hw hl
  obtain ⟨hx, hb, hml, hown, hts, hr, hlk, hK, hN⟩ := C0
  have hl : lv_has ls 1 [(0, .ref (ad 0))] := hl
  generalize hQ : MQ below (QcV D ad 66 (cellsM ad cy r) s.heap.size) ([.ref (ad 0)] : List Value).toArray s 0 0 (Afr ad 66 s.heap.size) = Q
  obtain ⟨H, hH⟩ : ∃ H : Heap, H = s.heap := ⟨_, rfl⟩
  obtain ⟨locs, hlc⟩ : ∃ L : List Loc, L = [] := ⟨_, rfl⟩
  have hw : Wd D (cellsM ad cy s11) (Afr ad 66 s.heap.size) s.heap H locs := by rw [hH, hlc]; exact hw
  suffices h0 : W p l e (rmL 2) s m ([.ref (ad 0)] : List Value).toArray below meth c H locs 0 0 Q (F0 m 0 ls []) by rw [hH, hlc] at h0; exact h0
  clear hH hlc
  unfold f11_ends at h
  obtain ⟨n_0, hn_0⟩ := loop_e h
  have hL_0 : ∀ (n : Nat) (t_0 : OS) (H : Heap) (locs : List Loc) (ls : Array Slot), loopN (f11_ends_l0) n t_0 = some r → Wd D (cellsM ad cy t_0) (Afr ad 66 s.heap.size) s.heap H locs → lv_has ls 1 [(0, .ref (ad 0))] → W p l e (rmL 2) s m ([.ref (ad 0)] : List Value).toArray below meth c H locs 0 0 Q (F0 m 0 ls []) := by
    intro n
    induction n with
    | zero => intro t_0 H locs ls hn; cases hn
    | succ n ih_0 =>
      intro t_0 H locs ls hn hw hl
      obtain ⟨x_0, h, hx_0⟩ := loopN_e hn
      unfold f11_ends_l0 at h
      refine lv_aload_n hx hb dX11_ends_0 rfl (lv_at hl 0 rfl) ?_
      obtain ⟨q_1, h_1, h⟩ := bnd_e h
      have pg_1 := preG (av := [.ref (ad 0)]) hK hw.1 hw.2.1 NM_keep NM_blind
      refine endI (mc := 0) (ms := 0) (va_runV (As := []) (rest := []) ⟨hx, hb, hml, hown, hts⟩ (m11_top l D ad cy H.size t_0 q_1 h_1) (wX11_328 0 hts ⟨Nat.le_of_ble_eq_true rfl, Nat.le_of_ble_eq_true rfl⟩) ⟨pg_1.1, va_recv hK hw.1 (ci := 11) (q0 := 0) rfl eM_0, pg_1.2⟩ rfl rfl hl.1 rfl (lv_room (Nat.le_of_ble_eq_true rfl)) dX11_ends_1 ⟨Nat.le_refl _, Nat.le_refl _⟩) hw.2.2 (afr_in hw.2.2) (fun H locs hw => ?_)
      refine lv_bipush (v := 33) hx hb dX11_ends_4 (by decide) ?_
      refine lv_icmp_ne (tgt := 38) hx hb dX11_ends_6 (by decide) (fun c_6 => ?_) (fun c_6 => ?_)
      · have h := ite_f c_6 h
        have h := nx_m hx_0 h
        have h := Option.some.inj h
        subst h
        rw [← hQ]
        exact retV hx hb hr hlk hw dX11_ends_38
      · have h := ite_t c_6 h
        refine lv_aload_n hx hb dX11_ends_9 rfl (lv_at hl 0 rfl) ?_
        refine lv_iconst (v := 2) hx hb dX11_ends_10 (by decide) ?_
        refine lv_iconst (v := 0) hx hb dX11_ends_11 (by decide) ?_
        obtain ⟨q_12, h_12, h⟩ := bnd_e h
        have pg_12 := preG (av := [.ref (ad 0), .int ((2 : Int32)), .int ((0 : Int32))]) hK hw.1 hw.2.1 NM_keep NM_blind
        refine endV (mc := 0) (ms := 0) (va_runV (As := [.int ((2 : Int32)), .int ((0 : Int32))]) (rest := []) ⟨hx, hb, hml, hown, hts⟩ (m11_emit l D ad cy H.size t_0 ((2 : Int32)) ((0 : Int32)) q_12 h_12) (wX11_337 1 hts ⟨Nat.le_of_ble_eq_true rfl, Nat.le_of_ble_eq_true rfl⟩) ⟨pg_12.1, va_recv hK hw.1 (ci := 11) (q0 := 0) rfl eM_0, pg_12.2⟩ rfl rfl hl.1 rfl (lv_room (Nat.le_of_ble_eq_true rfl)) dX11_ends_12 ⟨Nat.le_refl _, Nat.le_refl _⟩) hw.2.2 (afr_in hw.2.2) (fun H locs hw => ?_)
        refine lv_aload_n hx hb dX11_ends_15 rfl (lv_at hl 0 rfl) ?_
        refine lv_dup hx hb dX11_ends_16 rfl ?_
        refine gX11_304 hx hb hts hown hK hw dX11_ends_17 ?_
        refine lv_iconst (v := 1) hx hb dX11_ends_20 (by decide) ?_
        refine lv_isub hx hb dX11_ends_21 ?_
        obtain ⟨s11_22, e_22, h⟩ := nam_e h
        refine pX11_304 hx hb hts hown hK hw e_22 dX11_ends_22 (fun H locs hw => ?_)
        refine lv_aload_n hx hb dX11_ends_25 rfl (lv_at hl 0 rfl) ?_
        refine lv_dup hx hb dX11_ends_26 rfl ?_
        refine gX11_307 hx hb hts hown hK hw dX11_ends_27 ?_
        refine lv_iconst (v := 1) hx hb dX11_ends_30 (by decide) ?_
        refine lv_isub hx hb dX11_ends_31 ?_
        obtain ⟨s11_32, e_32, h⟩ := nam_e h
        refine pX11_307 hx hb hts hown hK hw e_32 dX11_ends_32 (fun H locs hw => ?_)
        refine lv_goto (tgt := 0) hx hb dX11_ends_35 (by decide) ?_
        exact ih_0 s11_32 H locs ls (nx_l hx_0 h) hw (lv_sub hl [0] rfl)
  exact hL_0 n_0 s11 H locs ls hn_0 hw (lv_sub hl [0] rfl)
theorem dX11_here_0 : decode cX11_here 0 = .ok (.aload_n 0, 1) := by decide +kernel
theorem dX11_here_1 : decode cX11_here 1 = .ok (.getfield 285, 3) := by decide +kernel
theorem dX11_here_4 : decode cX11_here 4 = .ok (.aload_n 0, 1) := by decide +kernel
theorem dX11_here_5 : decode cX11_here 5 = .ok (.getfield 288, 3) := by decide +kernel
theorem dX11_here_8 : decode cX11_here 8 = .ok (.if_icmp .ge 19, 3) := by decide +kernel
theorem dX11_here_11 : decode cX11_here 11 = .ok (.aload_n 0, 1) := by decide +kernel
theorem dX11_here_12 : decode cX11_here 12 = .ok (.getfield 7, 3) := by decide +kernel
theorem dX11_here_15 : decode cX11_here 15 = .ok (.aload_n 0, 1) := by decide +kernel
theorem dX11_here_16 : decode cX11_here 16 = .ok (.getfield 285, 3) := by decide +kernel
theorem dX11_here_19 : decode cX11_here 19 = .ok (.baload, 1) := by decide +kernel
theorem dX11_here_20 : decode cX11_here 20 = .ok (.sipush 255, 3) := by decide +kernel
theorem dX11_here_23 : decode cX11_here 23 = .ok (.iand, 1) := by decide +kernel
theorem dX11_here_24 : decode cX11_here 24 = .ok (.goto 4, 3) := by decide +kernel
theorem dX11_here_27 : decode cX11_here 27 = .ok (.iconst 0, 1) := by decide +kernel
theorem dX11_here_28 : decode cX11_here 28 = .ok (.ireturn, 1) := by decide +kernel
def f11_here_j28 (k0_j28 : Int32) (s11_j28 : OS) : Option (Int32) := some k0_j28
def f11_here (s11 : OS) : Option (Int32) := if (s11.1 0 44) ≤ (s11.1 0 43) then (f11_here_j28 ((0 : Int32)) s11) else (chk (inb ((s11.1 0 43)) 400) (nm (s11.1 1 ((s11.1 0 43)).toNatClampNeg) fun y_19 => f11_here_j28 ((y_19 &&& (255 : Int32))) s11))
set_option maxHeartbeats 4000000 in
set_option maxRecDepth 100000 in
theorem m11_here (l : Launch) (D : va_G) (ad : Nat → Nat) (cy : Nat → ClassId) (sz : Nat) (s11 : OS) (r : Int32) (h : f11_here s11 = some r) : Met l yX11_here (wsOf yX11_here cX11_here 1 (some .int)) (rmL 0) (va_Pc ([.ref (ad 0)] : List Value) (PreG D cy (cellsM ad cy s11) sz NM)) (QcI D ad 66 (cellsM ad cy s11) (r) sz) 0 0 (Afr ad 66 sz) := by
  refine metG (own := RX11) (by decide) rfl (Nat.le_of_ble_eq_true rfl) fstM ?_ sz
  intro p e s m below meth c ls C0 hw hl
  obtain ⟨hx, hb, hml, hown, hts, hr, hlk, hK, hN⟩ := C0
  have hl : lv_has ls 1 [(0, .ref (ad 0))] := hl
  generalize hQ : MQ below (QcI D ad 66 (cellsM ad cy s11) (r) s.heap.size) ([.ref (ad 0)] : List Value).toArray s 0 0 (Afr ad 66 s.heap.size) = Q
  obtain ⟨H, hH⟩ : ∃ H : Heap, H = s.heap := ⟨_, rfl⟩
  obtain ⟨locs, hlc⟩ : ∃ L : List Loc, L = [] := ⟨_, rfl⟩
  have hw : Wd D (cellsM ad cy s11) (Afr ad 66 s.heap.size) s.heap H locs := by rw [hH, hlc]; exact hw
  suffices h0 : W p l e (rmL 0) s m ([.ref (ad 0)] : List Value).toArray below meth c H locs 0 0 Q (F0 m 0 ls []) by rw [hH, hlc] at h0; exact h0
  clear hH hlc
  unfold f11_here at h
  have hJ_28 : ∀ (k0_j28 : Int32) (H : Heap) (locs : List Loc) (ls : Array Slot), f11_here_j28 k0_j28 s11 = some r → Wd D (cellsM ad cy s11) (Afr ad 66 s.heap.size) s.heap H locs → lv_has ls 1 [] → W p l e (rmL 0) s m ([.ref (ad 0)] : List Value).toArray below meth c H locs 0 0 Q (F0 m 28 ls [.int k0_j28]) := by
    intro k0_j28 H locs ls h hw hl
    unfold f11_here_j28 at h
    have h := Option.some.inj h
    subst h
    rw [← hQ]
    exact retI hx hb hr hlk hw rfl dX11_here_28
  refine lv_aload_n hx hb dX11_here_0 rfl (lv_at hl 0 rfl) ?_
  refine gX11_285 hx hb hts hown hK hw dX11_here_1 ?_
  refine lv_aload_n hx hb dX11_here_4 rfl (lv_at hl 0 rfl) ?_
  refine gX11_288 hx hb hts hown hK hw dX11_here_5 ?_
  refine lv_icmp_ge (tgt := 27) hx hb dX11_here_8 (by decide) (fun c_8 => ?_) (fun c_8 => ?_)
  · have h := ite_t c_8 h
    refine lv_iconst (v := 0) hx hb dX11_here_27 (by decide) ?_
    exact hJ_28 ((0 : Int32)) H locs ls h hw (lv_sub hl [] rfl)
  · have h := ite_f c_8 h
    refine lv_aload_n hx hb dX11_here_11 rfl (lv_at hl 0 rfl) ?_
    refine gX11_7 hx hb hts hown hK hw dX11_here_12 ?_
    refine lv_aload_n hx hb dX11_here_15 rfl (lv_at hl 0 rfl) ?_
    refine gX11_285 hx hb hts hown hK hw dX11_here_16 ?_
    obtain ⟨hi_19, h⟩ := chk_e h
    obtain ⟨y_19, e_19, h⟩ := nam_e h
    refine lM1 hx hb hK hw hi_19 e_19 dX11_here_19 ?_
    refine lv_sipush (v := 255) hx hb dX11_here_20 (by decide) ?_
    refine lv_iand hx hb dX11_here_23 ?_
    refine lv_goto (tgt := 28) hx hb dX11_here_24 (by decide) ?_
    exact hJ_28 ((y_19 &&& (255 : Int32))) H locs ls h hw (lv_sub hl [] rfl)
theorem dX11_joins_0 : decode cX11_joins 0 = .ok (.aload_n 0, 1) := by decide +kernel
theorem dX11_joins_1 : decode cX11_joins 1 = .ok (.invokevirtual 328, 3) := by decide +kernel
theorem dX11_joins_4 : decode cX11_joins 4 = .ok (.bipush 38, 2) := by decide +kernel
theorem dX11_joins_6 : decode cX11_joins 6 = .ok (.if_icmp .eq 16, 3) := by decide +kernel
theorem dX11_joins_9 : decode cX11_joins 9 = .ok (.iload_n 1, 1) := by decide +kernel
theorem dX11_joins_10 : decode cX11_joins 10 = .ok (.ifCond .eq 34, 3) := by decide +kernel
theorem dX11_joins_13 : decode cX11_joins 13 = .ok (.aload_n 0, 1) := by decide +kernel
theorem dX11_joins_14 : decode cX11_joins 14 = .ok (.invokevirtual 328, 3) := by decide +kernel
theorem dX11_joins_17 : decode cX11_joins 17 = .ok (.bipush 124, 2) := by decide +kernel
theorem dX11_joins_19 : decode cX11_joins 19 = .ok (.if_icmp .ne 25, 3) := by decide +kernel
theorem dX11_joins_22 : decode cX11_joins 22 = .ok (.aload_n 0, 1) := by decide +kernel
theorem dX11_joins_23 : decode cX11_joins 23 = .ok (.aload_n 0, 1) := by decide +kernel
theorem dX11_joins_24 : decode cX11_joins 24 = .ok (.invokevirtual 328, 3) := by decide +kernel
theorem dX11_joins_27 : decode cX11_joins 27 = .ok (.iconst 0, 1) := by decide +kernel
theorem dX11_joins_28 : decode cX11_joins 28 = .ok (.invokevirtual 337, 3) := by decide +kernel
theorem dX11_joins_31 : decode cX11_joins 31 = .ok (.aload_n 0, 1) := by decide +kernel
theorem dX11_joins_32 : decode cX11_joins 32 = .ok (.dup, 1) := by decide +kernel
theorem dX11_joins_33 : decode cX11_joins 33 = .ok (.getfield 304, 3) := by decide +kernel
theorem dX11_joins_36 : decode cX11_joins 36 = .ok (.iconst 1, 1) := by decide +kernel
theorem dX11_joins_37 : decode cX11_joins 37 = .ok (.isub, 1) := by decide +kernel
theorem dX11_joins_38 : decode cX11_joins 38 = .ok (.putfield 304, 3) := by decide +kernel
theorem dX11_joins_41 : decode cX11_joins 41 = .ok (.goto (-41), 3) := by decide +kernel
theorem dX11_joins_44 : decode cX11_joins 44 = .ok (.return_, 1) := by decide +kernel
noncomputable def f11_joins_j44 (s11_j44 : OS) : Option (OS) := some s11_j44
noncomputable def f11_joins_j22 (v1_j22 : Int32) (s11_j22 : OS) : Option ((OS) ⊕ (OS)) := Option.bind (f11_top s11_j22) fun q_24 => Option.bind (f11_emit q_24 ((0 : Int32)) s11_j22) fun q_28 => nm (wI q_28 0 49 (((q_28.1 0 49) - (1 : Int32)))) fun s11_38 => some (Sum.inl s11_38)
noncomputable def f11_joins_l0 (v1_i0 : Int32) : OS → Option ((OS) ⊕ (OS)) := fun t_0 => Option.bind (f11_top t_0) fun q_1 => if q_1 = (38 : Int32) then (f11_joins_j22 v1_i0 t_0) else (if v1_i0 = 0 then (Option.map Sum.inr (f11_joins_j44 t_0)) else (Option.bind (f11_top t_0) fun q_14 => if q_14 = (124 : Int32) then (f11_joins_j22 v1_i0 t_0) else (Option.map Sum.inr (f11_joins_j44 t_0))))
noncomputable def f11_joins (a1 : Int32) (s11 : OS) : Option (OS) := loop (f11_joins_l0 a1) s11
set_option maxHeartbeats 4000000 in
set_option maxRecDepth 100000 in
theorem m11_joins (l : Launch) (D : va_G) (ad : Nat → Nat) (cy : Nat → ClassId) (sz : Nat) (s11 : OS) (a1 : Int32) (r : OS) (h : f11_joins a1 s11 = some r) : Met l yX11_joins (wsOf yX11_joins cX11_joins 2 none) (rmL 2) (va_Pc ([.ref (ad 0), .int a1] : List Value) (PreG D cy (cellsM ad cy s11) sz NM)) (QcV D ad 66 (cellsM ad cy r) sz) 0 0 (Afr ad 66 sz) := by
  refine metG (own := RX11) (by decide) rfl (Nat.le_of_ble_eq_true rfl) fstM ?_ sz
  intro p e s m below meth c ls C0 hw hl
  obtain ⟨hx, hb, hml, hown, hts, hr, hlk, hK, hN⟩ := C0
  have hl : lv_has ls 2 [(0, .ref (ad 0)), (1, .int a1)] := hl
  generalize hQ : MQ below (QcV D ad 66 (cellsM ad cy r) s.heap.size) ([.ref (ad 0), .int a1] : List Value).toArray s 0 0 (Afr ad 66 s.heap.size) = Q
  obtain ⟨H, hH⟩ : ∃ H : Heap, H = s.heap := ⟨_, rfl⟩
  obtain ⟨locs, hlc⟩ : ∃ L : List Loc, L = [] := ⟨_, rfl⟩
  have hw : Wd D (cellsM ad cy s11) (Afr ad 66 s.heap.size) s.heap H locs := by rw [hH, hlc]; exact hw
  suffices h0 : W p l e (rmL 2) s m ([.ref (ad 0), .int a1] : List Value).toArray below meth c H locs 0 0 Q (F0 m 0 ls []) by rw [hH, hlc] at h0; exact h0
  clear hH hlc
  unfold f11_joins at h
  have hJ_44 : ∀ (s11_j44 : OS) (H : Heap) (locs : List Loc) (ls : Array Slot), f11_joins_j44 s11_j44 = some r → Wd D (cellsM ad cy s11_j44) (Afr ad 66 s.heap.size) s.heap H locs → lv_has ls 2 [] → W p l e (rmL 2) s m ([.ref (ad 0), .int a1] : List Value).toArray below meth c H locs 0 0 Q (F0 m 44 ls []) := by
    intro s11_j44 H locs ls h hw hl
    unfold f11_joins_j44 at h
    have h := Option.some.inj h
    subst h
    rw [← hQ]
    exact retV hx hb hr hlk hw dX11_joins_44
  obtain ⟨n_0, hn_0⟩ := loop_e h
  have hL_0 : ∀ (n : Nat) (t_0 : OS) (H : Heap) (locs : List Loc) (ls : Array Slot), loopN (f11_joins_l0 a1) n t_0 = some r → Wd D (cellsM ad cy t_0) (Afr ad 66 s.heap.size) s.heap H locs → lv_has ls 2 [(1, .int a1), (0, .ref (ad 0))] → W p l e (rmL 2) s m ([.ref (ad 0), .int a1] : List Value).toArray below meth c H locs 0 0 Q (F0 m 0 ls []) := by
    intro n
    induction n with
    | zero => intro t_0 H locs ls hn; cases hn
    | succ n ih_0 =>
      intro t_0 H locs ls hn hw hl
      obtain ⟨x_0, h, hx_0⟩ := loopN_e hn
      unfold f11_joins_l0 at h
      have hJ_22 : ∀ (s11_j22 : OS) (H : Heap) (locs : List Loc) (ls : Array Slot), f11_joins_j22 a1 s11_j22 = some x_0 → Wd D (cellsM ad cy s11_j22) (Afr ad 66 s.heap.size) s.heap H locs → lv_has ls 2 [(0, .ref (ad 0)), (1, .int a1)] → W p l e (rmL 2) s m ([.ref (ad 0), .int a1] : List Value).toArray below meth c H locs 0 0 Q (F0 m 22 ls []) := by
        intro s11_j22 H locs ls h hw hl
        unfold f11_joins_j22 at h
        refine lv_aload_n hx hb dX11_joins_22 rfl (lv_at hl 0 rfl) ?_
        refine lv_aload_n hx hb dX11_joins_23 rfl (lv_at hl 0 rfl) ?_
        obtain ⟨q_24, h_24, h⟩ := bnd_e h
        have pg_24 := preG (av := [.ref (ad 0)]) hK hw.1 hw.2.1 NM_keep NM_blind
        refine endI (mc := 0) (ms := 0) (va_runV (As := []) (rest := [.ref (ad 0)]) ⟨hx, hb, hml, hown, hts⟩ (m11_top l D ad cy H.size s11_j22 q_24 h_24) (wX11_328 0 hts ⟨Nat.le_of_ble_eq_true rfl, Nat.le_of_ble_eq_true rfl⟩) ⟨pg_24.1, va_recv hK hw.1 (ci := 11) (q0 := 0) rfl eM_0, pg_24.2⟩ rfl rfl hl.1 rfl (lv_room (Nat.le_of_ble_eq_true rfl)) dX11_joins_24 ⟨Nat.le_refl _, Nat.le_refl _⟩) hw.2.2 (afr_in hw.2.2) (fun H locs hw => ?_)
        refine lv_iconst (v := 0) hx hb dX11_joins_27 (by decide) ?_
        obtain ⟨q_28, h_28, h⟩ := bnd_e h
        have pg_28 := preG (av := [.ref (ad 0), .int q_24, .int ((0 : Int32))]) hK hw.1 hw.2.1 NM_keep NM_blind
        refine endV (mc := 0) (ms := 0) (va_runV (As := [.int q_24, .int ((0 : Int32))]) (rest := []) ⟨hx, hb, hml, hown, hts⟩ (m11_emit l D ad cy H.size s11_j22 q_24 ((0 : Int32)) q_28 h_28) (wX11_337 1 hts ⟨Nat.le_of_ble_eq_true rfl, Nat.le_of_ble_eq_true rfl⟩) ⟨pg_28.1, va_recv hK hw.1 (ci := 11) (q0 := 0) rfl eM_0, pg_28.2⟩ rfl rfl hl.1 rfl (lv_room (Nat.le_of_ble_eq_true rfl)) dX11_joins_28 ⟨Nat.le_refl _, Nat.le_refl _⟩) hw.2.2 (afr_in hw.2.2) (fun H locs hw => ?_)
        refine lv_aload_n hx hb dX11_joins_31 rfl (lv_at hl 0 rfl) ?_
        refine lv_dup hx hb dX11_joins_32 rfl ?_
        refine gX11_304 hx hb hts hown hK hw dX11_joins_33 ?_
        refine lv_iconst (v := 1) hx hb dX11_joins_36 (by decide) ?_
        refine lv_isub hx hb dX11_joins_37 ?_
        obtain ⟨s11_38, e_38, h⟩ := nam_e h
        refine pX11_304 hx hb hts hown hK hw e_38 dX11_joins_38 (fun H locs hw => ?_)
        refine lv_goto (tgt := 0) hx hb dX11_joins_41 (by decide) ?_
        exact ih_0 s11_38 H locs ls (nx_l hx_0 h) hw (lv_sub hl [1, 0] rfl)
      refine lv_aload_n hx hb dX11_joins_0 rfl (lv_at hl 1 rfl) ?_
      obtain ⟨q_1, h_1, h⟩ := bnd_e h
      have pg_1 := preG (av := [.ref (ad 0)]) hK hw.1 hw.2.1 NM_keep NM_blind
      refine endI (mc := 0) (ms := 0) (va_runV (As := []) (rest := []) ⟨hx, hb, hml, hown, hts⟩ (m11_top l D ad cy H.size t_0 q_1 h_1) (wX11_328 0 hts ⟨Nat.le_of_ble_eq_true rfl, Nat.le_of_ble_eq_true rfl⟩) ⟨pg_1.1, va_recv hK hw.1 (ci := 11) (q0 := 0) rfl eM_0, pg_1.2⟩ rfl rfl hl.1 rfl (lv_room (Nat.le_of_ble_eq_true rfl)) dX11_joins_1 ⟨Nat.le_refl _, Nat.le_refl _⟩) hw.2.2 (afr_in hw.2.2) (fun H locs hw => ?_)
      refine lv_bipush (v := 38) hx hb dX11_joins_4 (by decide) ?_
      refine lv_icmp_eq (tgt := 22) hx hb dX11_joins_6 (by decide) (fun c_6 => ?_) (fun c_6 => ?_)
      · have h := ite_t c_6 h
        exact hJ_22 t_0 H locs ls h hw (lv_sub hl [1, 0] rfl)
      · have h := ite_f c_6 h
        refine lv_iload_n hx hb dX11_joins_9 rfl (lv_at hl 0 rfl) ?_
        refine lv_if_eq (tgt := 44) hx hb dX11_joins_10 (by decide) (fun c_10 => ?_) (fun c_10 => ?_)
        · have h := ite_t c_10 h
          have h := nx_m hx_0 h
          exact hJ_44 t_0 H locs ls h hw (lv_sub hl [] rfl)
        · have h := ite_f c_10 h
          refine lv_aload_n hx hb dX11_joins_13 rfl (lv_at hl 1 rfl) ?_
          obtain ⟨q_14, h_14, h⟩ := bnd_e h
          have pg_14 := preG (av := [.ref (ad 0)]) hK hw.1 hw.2.1 NM_keep NM_blind
          refine endI (mc := 0) (ms := 0) (va_runV (As := []) (rest := []) ⟨hx, hb, hml, hown, hts⟩ (m11_top l D ad cy H.size t_0 q_14 h_14) (wX11_328 0 hts ⟨Nat.le_of_ble_eq_true rfl, Nat.le_of_ble_eq_true rfl⟩) ⟨pg_14.1, va_recv hK hw.1 (ci := 11) (q0 := 0) rfl eM_0, pg_14.2⟩ rfl rfl hl.1 rfl (lv_room (Nat.le_of_ble_eq_true rfl)) dX11_joins_14 ⟨Nat.le_refl _, Nat.le_refl _⟩) hw.2.2 (afr_in hw.2.2) (fun H locs hw => ?_)
          refine lv_bipush (v := 124) hx hb dX11_joins_17 (by decide) ?_
          refine lv_icmp_ne (tgt := 44) hx hb dX11_joins_19 (by decide) (fun c_19 => ?_) (fun c_19 => ?_)
          · have h := ite_f c_19 h
            have h := nx_m hx_0 h
            exact hJ_44 t_0 H locs ls h hw (lv_sub hl [] rfl)
          · have h := ite_t c_19 h
            exact hJ_22 t_0 H locs ls h hw (lv_sub hl [1, 0] rfl)
  exact hL_0 n_0 s11 H locs ls hn_0 hw (lv_sub hl [1, 0] rfl)
theorem dX11_puts_0 : decode cX11_puts 0 = .ok (.aload_n 0, 1) := by decide +kernel
theorem dX11_puts_1 : decode cX11_puts 1 = .ok (.getfield 109, 3) := by decide +kernel
theorem dX11_puts_4 : decode cX11_puts 4 = .ok (.aload_n 0, 1) := by decide +kernel
theorem dX11_puts_5 : decode cX11_puts 5 = .ok (.getfield 304, 3) := by decide +kernel
theorem dX11_puts_8 : decode cX11_puts 8 = .ok (.iload_n 1, 1) := by decide +kernel
theorem dX11_puts_9 : decode cX11_puts 9 = .ok (.iastore, 1) := by decide +kernel
theorem dX11_puts_10 : decode cX11_puts 10 = .ok (.aload_n 0, 1) := by decide +kernel
theorem dX11_puts_11 : decode cX11_puts 11 = .ok (.dup, 1) := by decide +kernel
theorem dX11_puts_12 : decode cX11_puts 12 = .ok (.getfield 304, 3) := by decide +kernel
theorem dX11_puts_15 : decode cX11_puts 15 = .ok (.iconst 1, 1) := by decide +kernel
theorem dX11_puts_16 : decode cX11_puts 16 = .ok (.iadd, 1) := by decide +kernel
theorem dX11_puts_17 : decode cX11_puts 17 = .ok (.putfield 304, 3) := by decide +kernel
theorem dX11_puts_20 : decode cX11_puts 20 = .ok (.aload_n 0, 1) := by decide +kernel
theorem dX11_puts_21 : decode cX11_puts 21 = .ok (.dup, 1) := by decide +kernel
theorem dX11_puts_22 : decode cX11_puts 22 = .ok (.getfield 285, 3) := by decide +kernel
theorem dX11_puts_25 : decode cX11_puts 25 = .ok (.iconst 1, 1) := by decide +kernel
theorem dX11_puts_26 : decode cX11_puts 26 = .ok (.iadd, 1) := by decide +kernel
theorem dX11_puts_27 : decode cX11_puts 27 = .ok (.putfield 285, 3) := by decide +kernel
theorem dX11_puts_30 : decode cX11_puts 30 = .ok (.return_, 1) := by decide +kernel
def f11_puts (a1 : Int32) (s11 : OS) : Option (OS) := chk (inb ((s11.1 0 49)) 200) (nm (wI s11 53 ((s11.1 0 49)).toNatClampNeg a1) fun s11_9 => nm (wI s11_9 0 49 (((s11_9.1 0 49) + (1 : Int32)))) fun s11_17 => nm (wI s11_17 0 43 (((s11_17.1 0 43) + (1 : Int32)))) fun s11_27 => some s11_27)
set_option maxHeartbeats 4000000 in
set_option maxRecDepth 100000 in
theorem m11_puts (l : Launch) (D : va_G) (ad : Nat → Nat) (cy : Nat → ClassId) (sz : Nat) (s11 : OS) (a1 : Int32) (r : OS) (h : f11_puts a1 s11 = some r) : Met l yX11_puts (wsOf yX11_puts cX11_puts 2 none) (rmL 0) (va_Pc ([.ref (ad 0), .int a1] : List Value) (PreG D cy (cellsM ad cy s11) sz NM)) (QcV D ad 66 (cellsM ad cy r) sz) 0 0 (Afr ad 66 sz) := by
  refine metG (own := RX11) (by decide) rfl (Nat.le_of_ble_eq_true rfl) fstM ?_ sz
  intro p e s m below meth c ls C0 hw hl
  obtain ⟨hx, hb, hml, hown, hts, hr, hlk, hK, hN⟩ := C0
  have hl : lv_has ls 2 [(0, .ref (ad 0)), (1, .int a1)] := hl
  generalize hQ : MQ below (QcV D ad 66 (cellsM ad cy r) s.heap.size) ([.ref (ad 0), .int a1] : List Value).toArray s 0 0 (Afr ad 66 s.heap.size) = Q
  obtain ⟨H, hH⟩ : ∃ H : Heap, H = s.heap := ⟨_, rfl⟩
  obtain ⟨locs, hlc⟩ : ∃ L : List Loc, L = [] := ⟨_, rfl⟩
  have hw : Wd D (cellsM ad cy s11) (Afr ad 66 s.heap.size) s.heap H locs := by rw [hH, hlc]; exact hw
  suffices h0 : W p l e (rmL 0) s m ([.ref (ad 0), .int a1] : List Value).toArray below meth c H locs 0 0 Q (F0 m 0 ls []) by rw [hH, hlc] at h0; exact h0
  clear hH hlc
  unfold f11_puts at h
  refine lv_aload_n hx hb dX11_puts_0 rfl (lv_at hl 0 rfl) ?_
  refine gX11_109 hx hb hts hown hK hw dX11_puts_1 ?_
  refine lv_aload_n hx hb dX11_puts_4 rfl (lv_at hl 0 rfl) ?_
  refine gX11_304 hx hb hts hown hK hw dX11_puts_5 ?_
  refine lv_iload_n hx hb dX11_puts_8 rfl (lv_at hl 1 rfl) ?_
  obtain ⟨hi_9, h⟩ := chk_e h
  obtain ⟨s11_9, e_9, h⟩ := nam_e h
  refine aM33 hx hb hK hw hi_9 e_9 dX11_puts_9 (fun H locs hw => ?_)
  refine lv_aload_n hx hb dX11_puts_10 rfl (lv_at hl 0 rfl) ?_
  refine lv_dup hx hb dX11_puts_11 rfl ?_
  refine gX11_304 hx hb hts hown hK hw dX11_puts_12 ?_
  refine lv_iconst (v := 1) hx hb dX11_puts_15 (by decide) ?_
  refine lv_iadd hx hb dX11_puts_16 ?_
  obtain ⟨s11_17, e_17, h⟩ := nam_e h
  refine pX11_304 hx hb hts hown hK hw e_17 dX11_puts_17 (fun H locs hw => ?_)
  refine lv_aload_n hx hb dX11_puts_20 rfl (lv_at hl 0 rfl) ?_
  refine lv_dup hx hb dX11_puts_21 rfl ?_
  refine gX11_285 hx hb hts hown hK hw dX11_puts_22 ?_
  refine lv_iconst (v := 1) hx hb dX11_puts_25 (by decide) ?_
  refine lv_iadd hx hb dX11_puts_26 ?_
  obtain ⟨s11_27, e_27, h⟩ := nam_e h
  refine pX11_285 hx hb hts hown hK hw e_27 dX11_puts_27 (fun H locs hw => ?_)
  have h := Option.some.inj h
  subst h
  rw [← hQ]
  exact retV hx hb hr hlk hw dX11_puts_30
theorem dX11_wrongs_0 : decode cX11_wrongs 0 = .ok (.aload_n 0, 1) := by decide +kernel
theorem dX11_wrongs_1 : decode cX11_wrongs 1 = .ok (.aload_n 0, 1) := by decide +kernel
theorem dX11_wrongs_2 : decode cX11_wrongs 2 = .ok (.getfield 291, 3) := by decide +kernel
theorem dX11_wrongs_5 : decode cX11_wrongs 5 = .ok (.ifCond .ge 10, 3) := by decide +kernel
theorem dX11_wrongs_8 : decode cX11_wrongs 8 = .ok (.aload_n 0, 1) := by decide +kernel
theorem dX11_wrongs_9 : decode cX11_wrongs 9 = .ok (.getfield 291, 3) := by decide +kernel
theorem dX11_wrongs_12 : decode cX11_wrongs 12 = .ok (.goto 10, 3) := by decide +kernel
theorem dX11_wrongs_15 : decode cX11_wrongs 15 = .ok (.sipush (-1000), 3) := by decide +kernel
theorem dX11_wrongs_18 : decode cX11_wrongs 18 = .ok (.iload_n 1, 1) := by decide +kernel
theorem dX11_wrongs_19 : decode cX11_wrongs 19 = .ok (.imul, 1) := by decide +kernel
theorem dX11_wrongs_20 : decode cX11_wrongs 20 = .ok (.iload_n 2, 1) := by decide +kernel
theorem dX11_wrongs_21 : decode cX11_wrongs 21 = .ok (.isub, 1) := by decide +kernel
theorem dX11_wrongs_22 : decode cX11_wrongs 22 = .ok (.putfield 291, 3) := by decide +kernel
theorem dX11_wrongs_25 : decode cX11_wrongs 25 = .ok (.return_, 1) := by decide +kernel
def f11_wrongs_j22 (k1_j22 : Int32) (s11_j22 : OS) : Option (OS) := nm (wI s11_j22 0 45 k1_j22) fun s11_22 => some s11_22
def f11_wrongs (a1 : Int32) (a2 : Int32) (s11 : OS) : Option (OS) := if 0 ≤ (s11.1 0 45) then (f11_wrongs_j22 ((((-1000 : Int32) * a1) - a2)) s11) else (f11_wrongs_j22 ((s11.1 0 45)) s11)
set_option maxHeartbeats 4000000 in
set_option maxRecDepth 100000 in
theorem m11_wrongs (l : Launch) (D : va_G) (ad : Nat → Nat) (cy : Nat → ClassId) (sz : Nat) (s11 : OS) (a1 : Int32) (a2 : Int32) (r : OS) (h : f11_wrongs a1 a2 s11 = some r) : Met l yX11_wrongs (wsOf yX11_wrongs cX11_wrongs 3 none) (rmL 0) (va_Pc ([.ref (ad 0), .int a1, .int a2] : List Value) (PreG D cy (cellsM ad cy s11) sz NM)) (QcV D ad 66 (cellsM ad cy r) sz) 0 0 (Afr ad 66 sz) := by
  refine metG (own := RX11) (by decide) rfl (Nat.le_of_ble_eq_true rfl) fstM ?_ sz
  intro p e s m below meth c ls C0 hw hl
  obtain ⟨hx, hb, hml, hown, hts, hr, hlk, hK, hN⟩ := C0
  have hl : lv_has ls 3 [(0, .ref (ad 0)), (1, .int a1), (2, .int a2)] := hl
  generalize hQ : MQ below (QcV D ad 66 (cellsM ad cy r) s.heap.size) ([.ref (ad 0), .int a1, .int a2] : List Value).toArray s 0 0 (Afr ad 66 s.heap.size) = Q
  obtain ⟨H, hH⟩ : ∃ H : Heap, H = s.heap := ⟨_, rfl⟩
  obtain ⟨locs, hlc⟩ : ∃ L : List Loc, L = [] := ⟨_, rfl⟩
  have hw : Wd D (cellsM ad cy s11) (Afr ad 66 s.heap.size) s.heap H locs := by rw [hH, hlc]; exact hw
  suffices h0 : W p l e (rmL 0) s m ([.ref (ad 0), .int a1, .int a2] : List Value).toArray below meth c H locs 0 0 Q (F0 m 0 ls []) by rw [hH, hlc] at h0; exact h0
  clear hH hlc
  unfold f11_wrongs at h
  have hJ_22 : ∀ (k1_j22 : Int32) (s11_j22 : OS) (H : Heap) (locs : List Loc) (ls : Array Slot), f11_wrongs_j22 k1_j22 s11_j22 = some r → Wd D (cellsM ad cy s11_j22) (Afr ad 66 s.heap.size) s.heap H locs → lv_has ls 3 [] → W p l e (rmL 0) s m ([.ref (ad 0), .int a1, .int a2] : List Value).toArray below meth c H locs 0 0 Q (F0 m 22 ls [.int k1_j22, .ref (ad 0)]) := by
    intro k1_j22 s11_j22 H locs ls h hw hl
    unfold f11_wrongs_j22 at h
    obtain ⟨s11_22, e_22, h⟩ := nam_e h
    refine pX11_291 hx hb hts hown hK hw e_22 dX11_wrongs_22 (fun H locs hw => ?_)
    have h := Option.some.inj h
    subst h
    rw [← hQ]
    exact retV hx hb hr hlk hw dX11_wrongs_25
  refine lv_aload_n hx hb dX11_wrongs_0 rfl (lv_at hl 0 rfl) ?_
  refine lv_aload_n hx hb dX11_wrongs_1 rfl (lv_at hl 0 rfl) ?_
  refine gX11_291 hx hb hts hown hK hw dX11_wrongs_2 ?_
  refine lv_if_ge (tgt := 15) hx hb dX11_wrongs_5 (by decide) (fun c_5 => ?_) (fun c_5 => ?_)
  · have h := ite_t c_5 h
    refine lv_sipush (v := (-1000)) hx hb dX11_wrongs_15 (by decide) ?_
    refine lv_iload_n hx hb dX11_wrongs_18 rfl (lv_at hl 1 rfl) ?_
    refine lv_imul hx hb dX11_wrongs_19 ?_
    refine lv_iload_n hx hb dX11_wrongs_20 rfl (lv_at hl 2 rfl) ?_
    refine lv_isub hx hb dX11_wrongs_21 ?_
    exact hJ_22 ((((-1000 : Int32) * a1) - a2)) s11 H locs ls h hw (lv_sub hl [] rfl)
  · have h := ite_f c_5 h
    refine lv_aload_n hx hb dX11_wrongs_8 rfl (lv_at hl 0 rfl) ?_
    refine gX11_291 hx hb hts hown hK hw dX11_wrongs_9 ?_
    refine lv_goto (tgt := 22) hx hb dX11_wrongs_12 (by decide) ?_
    exact hJ_22 ((s11.1 0 45)) s11 H locs ls h hw (lv_sub hl [] rfl)
theorem dX11_goesBehind_0 : decode cX11_goesBehind 0 = .ok (.aload_n 0, 1) := by decide +kernel
theorem dX11_goesBehind_1 : decode cX11_goesBehind 1 = .ok (.invokevirtual 314, 3) := by decide +kernel
theorem dX11_goesBehind_4 : decode cX11_goesBehind 4 = .ok (.istore_n 1, 1) := by decide +kernel
theorem dX11_goesBehind_5 : decode cX11_goesBehind 5 = .ok (.iload_n 1, 1) := by decide +kernel
theorem dX11_goesBehind_6 : decode cX11_goesBehind 6 = .ok (.bipush 38, 2) := by decide +kernel
theorem dX11_goesBehind_8 : decode cX11_goesBehind 8 = .ok (.if_icmp .eq 9, 3) := by decide +kernel
theorem dX11_goesBehind_11 : decode cX11_goesBehind 11 = .ok (.iload_n 1, 1) := by decide +kernel
theorem dX11_goesBehind_12 : decode cX11_goesBehind 12 = .ok (.bipush 124, 2) := by decide +kernel
theorem dX11_goesBehind_14 : decode cX11_goesBehind 14 = .ok (.if_icmp .ne 25, 3) := by decide +kernel
theorem dX11_goesBehind_17 : decode cX11_goesBehind 17 = .ok (.aload_n 0, 1) := by decide +kernel
theorem dX11_goesBehind_18 : decode cX11_goesBehind 18 = .ok (.iload_n 1, 1) := by decide +kernel
theorem dX11_goesBehind_19 : decode cX11_goesBehind 19 = .ok (.bipush 124, 2) := by decide +kernel
theorem dX11_goesBehind_21 : decode cX11_goesBehind 21 = .ok (.if_icmp .ne 7, 3) := by decide +kernel
theorem dX11_goesBehind_24 : decode cX11_goesBehind 24 = .ok (.iconst 1, 1) := by decide +kernel
theorem dX11_goesBehind_25 : decode cX11_goesBehind 25 = .ok (.goto 4, 3) := by decide +kernel
theorem dX11_goesBehind_28 : decode cX11_goesBehind 28 = .ok (.iconst 0, 1) := by decide +kernel
theorem dX11_goesBehind_29 : decode cX11_goesBehind 29 = .ok (.invokevirtual 370, 3) := by decide +kernel
theorem dX11_goesBehind_32 : decode cX11_goesBehind 32 = .ok (.aload_n 0, 1) := by decide +kernel
theorem dX11_goesBehind_33 : decode cX11_goesBehind 33 = .ok (.iload_n 1, 1) := by decide +kernel
theorem dX11_goesBehind_34 : decode cX11_goesBehind 34 = .ok (.invokevirtual 318, 3) := by decide +kernel
theorem dX11_goesBehind_37 : decode cX11_goesBehind 37 = .ok (.iconst 1, 1) := by decide +kernel
theorem dX11_goesBehind_38 : decode cX11_goesBehind 38 = .ok (.ireturn, 1) := by decide +kernel
theorem dX11_goesBehind_39 : decode cX11_goesBehind 39 = .ok (.iload_n 1, 1) := by decide +kernel
theorem dX11_goesBehind_40 : decode cX11_goesBehind 40 = .ok (.bipush 41, 2) := by decide +kernel
theorem dX11_goesBehind_42 : decode cX11_goesBehind 42 = .ok (.if_icmp .eq 14, 3) := by decide +kernel
theorem dX11_goesBehind_45 : decode cX11_goesBehind 45 = .ok (.aload_n 0, 1) := by decide +kernel
theorem dX11_goesBehind_46 : decode cX11_goesBehind 46 = .ok (.iconst 1, 1) := by decide +kernel
theorem dX11_goesBehind_47 : decode cX11_goesBehind 47 = .ok (.aload_n 0, 1) := by decide +kernel
theorem dX11_goesBehind_48 : decode cX11_goesBehind 48 = .ok (.getfield 285, 3) := by decide +kernel
theorem dX11_goesBehind_51 : decode cX11_goesBehind 51 = .ok (.invokevirtual 310, 3) := by decide +kernel
theorem dX11_goesBehind_54 : decode cX11_goesBehind 54 = .ok (.iconst 0, 1) := by decide +kernel
theorem dX11_goesBehind_55 : decode cX11_goesBehind 55 = .ok (.ireturn, 1) := by decide +kernel
theorem dX11_goesBehind_56 : decode cX11_goesBehind 56 = .ok (.aload_n 0, 1) := by decide +kernel
theorem dX11_goesBehind_57 : decode cX11_goesBehind 57 = .ok (.iconst 1, 1) := by decide +kernel
theorem dX11_goesBehind_58 : decode cX11_goesBehind 58 = .ok (.invokevirtual 370, 3) := by decide +kernel
theorem dX11_goesBehind_61 : decode cX11_goesBehind 61 = .ok (.aload_n 0, 1) := by decide +kernel
theorem dX11_goesBehind_62 : decode cX11_goesBehind 62 = .ok (.dup, 1) := by decide +kernel
theorem dX11_goesBehind_63 : decode cX11_goesBehind 63 = .ok (.getfield 304, 3) := by decide +kernel
theorem dX11_goesBehind_66 : decode cX11_goesBehind 66 = .ok (.iconst 1, 1) := by decide +kernel
theorem dX11_goesBehind_67 : decode cX11_goesBehind 67 = .ok (.isub, 1) := by decide +kernel
theorem dX11_goesBehind_68 : decode cX11_goesBehind 68 = .ok (.putfield 304, 3) := by decide +kernel
theorem dX11_goesBehind_71 : decode cX11_goesBehind 71 = .ok (.aload_n 0, 1) := by decide +kernel
theorem dX11_goesBehind_72 : decode cX11_goesBehind 72 = .ok (.dup, 1) := by decide +kernel
theorem dX11_goesBehind_73 : decode cX11_goesBehind 73 = .ok (.getfield 307, 3) := by decide +kernel
theorem dX11_goesBehind_76 : decode cX11_goesBehind 76 = .ok (.iconst 1, 1) := by decide +kernel
theorem dX11_goesBehind_77 : decode cX11_goesBehind 77 = .ok (.isub, 1) := by decide +kernel
theorem dX11_goesBehind_78 : decode cX11_goesBehind 78 = .ok (.putfield 307, 3) := by decide +kernel
theorem dX11_goesBehind_81 : decode cX11_goesBehind 81 = .ok (.aload_n 0, 1) := by decide +kernel
theorem dX11_goesBehind_82 : decode cX11_goesBehind 82 = .ok (.dup, 1) := by decide +kernel
theorem dX11_goesBehind_83 : decode cX11_goesBehind 83 = .ok (.getfield 285, 3) := by decide +kernel
theorem dX11_goesBehind_86 : decode cX11_goesBehind 86 = .ok (.iconst 1, 1) := by decide +kernel
theorem dX11_goesBehind_87 : decode cX11_goesBehind 87 = .ok (.iadd, 1) := by decide +kernel
theorem dX11_goesBehind_88 : decode cX11_goesBehind 88 = .ok (.putfield 285, 3) := by decide +kernel
theorem dX11_goesBehind_91 : decode cX11_goesBehind 91 = .ok (.aload_n 0, 1) := by decide +kernel
theorem dX11_goesBehind_92 : decode cX11_goesBehind 92 = .ok (.aload_n 0, 1) := by decide +kernel
theorem dX11_goesBehind_93 : decode cX11_goesBehind 93 = .ok (.getfield 304, 3) := by decide +kernel
theorem dX11_goesBehind_96 : decode cX11_goesBehind 96 = .ok (.ifCond .ne 7, 3) := by decide +kernel
theorem dX11_goesBehind_99 : decode cX11_goesBehind 99 = .ok (.iconst 1, 1) := by decide +kernel
theorem dX11_goesBehind_100 : decode cX11_goesBehind 100 = .ok (.goto 4, 3) := by decide +kernel
theorem dX11_goesBehind_103 : decode cX11_goesBehind 103 = .ok (.iconst 0, 1) := by decide +kernel
theorem dX11_goesBehind_104 : decode cX11_goesBehind 104 = .ok (.putfield 373, 3) := by decide +kernel
theorem dX11_goesBehind_107 : decode cX11_goesBehind 107 = .ok (.aload_n 0, 1) := by decide +kernel
theorem dX11_goesBehind_108 : decode cX11_goesBehind 108 = .ok (.getfield 373, 3) := by decide +kernel
theorem dX11_goesBehind_111 : decode cX11_goesBehind 111 = .ok (.ifCond .ne 7, 3) := by decide +kernel
theorem dX11_goesBehind_114 : decode cX11_goesBehind 114 = .ok (.aload_n 0, 1) := by decide +kernel
theorem dX11_goesBehind_115 : decode cX11_goesBehind 115 = .ok (.invokevirtual 367, 3) := by decide +kernel
theorem dX11_goesBehind_118 : decode cX11_goesBehind 118 = .ok (.iconst 0, 1) := by decide +kernel
theorem dX11_goesBehind_119 : decode cX11_goesBehind 119 = .ok (.ireturn, 1) := by decide +kernel
noncomputable def f11_goesBehind_j118 (s11_j118 : OS) : Option (Int32 × OS) := some ((0 : Int32), s11_j118)
noncomputable def f11_goesBehind_j104 (k1_j104 : Int32) (s11_j104 : OS) : Option (Int32 × OS) := chk (isB k1_j104) (nm (wI s11_j104 0 50 k1_j104) fun s11_104 => if (s11_104.1 0 50) = 0 then (Option.bind (f11_ends s11_104) fun q_115 => f11_goesBehind_j118 q_115) else (f11_goesBehind_j118 s11_104))
noncomputable def f11_goesBehind_j29 (v1_j29 : Int32) (k1_j29 : Int32) (s11_j29 : OS) : Option (Int32 × OS) := Option.bind (f11_joins k1_j29 s11_j29) fun q_29 => Option.bind (f11_puts v1_j29 q_29) fun q_34 => some ((1 : Int32), q_34)
noncomputable def f11_goesBehind_j17 (v1_j17 : Int32) (s11_j17 : OS) : Option (Int32 × OS) := if v1_j17 = (124 : Int32) then (f11_goesBehind_j29 v1_j17 ((1 : Int32)) s11_j17) else (f11_goesBehind_j29 v1_j17 ((0 : Int32)) s11_j17)
noncomputable def f11_goesBehind (s11 : OS) : Option (Int32 × OS) := Option.bind (f11_here s11) fun q_1 => if q_1 = (38 : Int32) then (f11_goesBehind_j17 q_1 s11) else (if q_1 = (124 : Int32) then (f11_goesBehind_j17 q_1 s11) else (if q_1 = (41 : Int32) then (Option.bind (f11_joins ((1 : Int32)) s11) fun q_58 => nm (wI q_58 0 49 (((q_58.1 0 49) - (1 : Int32)))) fun s11_68 => nm (wI s11_68 0 48 (((s11_68.1 0 48) - (1 : Int32)))) fun s11_78 => nm (wI s11_78 0 43 (((s11_78.1 0 43) + (1 : Int32)))) fun s11_88 => if (s11_88.1 0 49) = 0 then (f11_goesBehind_j104 ((1 : Int32)) s11_88) else (f11_goesBehind_j104 ((0 : Int32)) s11_88)) else (Option.bind (f11_wrongs ((1 : Int32)) ((s11.1 0 43)) s11) fun q_51 => some ((0 : Int32), q_51))))
set_option maxHeartbeats 4000000 in
set_option maxRecDepth 100000 in
theorem m11_goesBehind (l : Launch) (D : va_G) (ad : Nat → Nat) (cy : Nat → ClassId) (sz : Nat) (s11 : OS) (r : Int32 × OS) (h : f11_goesBehind s11 = some r) : Met l yX11_goesBehind (wsOf yX11_goesBehind cX11_goesBehind 2 (some .boolean)) (rmL 3) (va_Pc ([.ref (ad 0)] : List Value) (PreG D cy (cellsM ad cy s11) sz NM)) (QcI D ad 66 (cellsM ad cy r.2) (r.1) sz) 0 0 (Afr ad 66 sz) := by
  refine metG (own := RX11) (by decide) rfl (Nat.le_of_ble_eq_true rfl) fstM ?_ sz
  intro p e s m below meth c ls C0 hw hl
  obtain ⟨hx, hb, hml, hown, hts, hr, hlk, hK, hN⟩ := C0
  have hl : lv_has ls 2 [(0, .ref (ad 0))] := hl
  generalize hQ : MQ below (QcI D ad 66 (cellsM ad cy r.2) (r.1) s.heap.size) ([.ref (ad 0)] : List Value).toArray s 0 0 (Afr ad 66 s.heap.size) = Q
  obtain ⟨H, hH⟩ : ∃ H : Heap, H = s.heap := ⟨_, rfl⟩
  obtain ⟨locs, hlc⟩ : ∃ L : List Loc, L = [] := ⟨_, rfl⟩
  have hw : Wd D (cellsM ad cy s11) (Afr ad 66 s.heap.size) s.heap H locs := by rw [hH, hlc]; exact hw
  suffices h0 : W p l e (rmL 3) s m ([.ref (ad 0)] : List Value).toArray below meth c H locs 0 0 Q (F0 m 0 ls []) by rw [hH, hlc] at h0; exact h0
  clear hH hlc
  unfold f11_goesBehind at h
  have hJ_118 : ∀ (s11_j118 : OS) (H : Heap) (locs : List Loc) (ls : Array Slot), f11_goesBehind_j118 s11_j118 = some r → Wd D (cellsM ad cy s11_j118) (Afr ad 66 s.heap.size) s.heap H locs → lv_has ls 2 [] → W p l e (rmL 3) s m ([.ref (ad 0)] : List Value).toArray below meth c H locs 0 0 Q (F0 m 118 ls []) := by
    intro s11_j118 H locs ls h hw hl
    unfold f11_goesBehind_j118 at h
    refine lv_iconst (v := 0) hx hb dX11_goesBehind_118 (by decide) ?_
    have h := Option.some.inj h
    subst h
    rw [← hQ]
    exact retI hx hb hr hlk hw (narB (v := (0 : Int32)) (by decide)) dX11_goesBehind_119
  have hJ_104 : ∀ (k1_j104 : Int32) (s11_j104 : OS) (H : Heap) (locs : List Loc) (ls : Array Slot), f11_goesBehind_j104 k1_j104 s11_j104 = some r → Wd D (cellsM ad cy s11_j104) (Afr ad 66 s.heap.size) s.heap H locs → lv_has ls 2 [(0, .ref (ad 0))] → W p l e (rmL 3) s m ([.ref (ad 0)] : List Value).toArray below meth c H locs 0 0 Q (F0 m 104 ls [.int k1_j104, .ref (ad 0)]) := by
    intro k1_j104 s11_j104 H locs ls h hw hl
    unfold f11_goesBehind_j104 at h
    obtain ⟨hz_104, h⟩ := chk_e h
    obtain ⟨s11_104, e_104, h⟩ := nam_e h
    refine pX11_373 hx hb hts hown hK hw e_104 hz_104 dX11_goesBehind_104 (fun H locs hw => ?_)
    refine lv_aload_n hx hb dX11_goesBehind_107 rfl (lv_at hl 0 rfl) ?_
    refine gX11_373 hx hb hts hown hK hw dX11_goesBehind_108 ?_
    refine lv_if_ne (tgt := 118) hx hb dX11_goesBehind_111 (by decide) (fun c_111 => ?_) (fun c_111 => ?_)
    · have h := ite_f c_111 h
      exact hJ_118 s11_104 H locs ls h hw (lv_sub hl [] rfl)
    · have h := ite_t c_111 h
      refine lv_aload_n hx hb dX11_goesBehind_114 rfl (lv_at hl 0 rfl) ?_
      obtain ⟨q_115, h_115, h⟩ := bnd_e h
      have pg_115 := preG (av := [.ref (ad 0)]) hK hw.1 hw.2.1 NM_keep NM_blind
      refine endV (mc := 0) (ms := 0) (va_runV (As := []) (rest := []) ⟨hx, hb, hml, hown, hts⟩ (m11_ends l D ad cy H.size s11_104 q_115 h_115) (wX11_367 2 hts ⟨Nat.le_of_ble_eq_true rfl, Nat.le_of_ble_eq_true rfl⟩) ⟨pg_115.1, va_recv hK hw.1 (ci := 11) (q0 := 0) rfl eM_0, pg_115.2⟩ rfl rfl hl.1 rfl (lv_room (Nat.le_of_ble_eq_true rfl)) dX11_goesBehind_115 ⟨Nat.le_refl _, Nat.le_refl _⟩) hw.2.2 (afr_in hw.2.2) (fun H locs hw => ?_)
      exact hJ_118 q_115 H locs ls h hw (lv_sub hl [] rfl)
  have hJ_29 : ∀ (v1_j29 : Int32) (k1_j29 : Int32) (s11_j29 : OS) (H : Heap) (locs : List Loc) (ls : Array Slot), f11_goesBehind_j29 v1_j29 k1_j29 s11_j29 = some r → Wd D (cellsM ad cy s11_j29) (Afr ad 66 s.heap.size) s.heap H locs → lv_has ls 2 [(0, .ref (ad 0)), (1, .int v1_j29)] → W p l e (rmL 3) s m ([.ref (ad 0)] : List Value).toArray below meth c H locs 0 0 Q (F0 m 29 ls [.int k1_j29, .ref (ad 0)]) := by
    intro v1_j29 k1_j29 s11_j29 H locs ls h hw hl
    unfold f11_goesBehind_j29 at h
    obtain ⟨q_29, h_29, h⟩ := bnd_e h
    have pg_29 := preG (av := [.ref (ad 0), .int k1_j29]) hK hw.1 hw.2.1 NM_keep NM_blind
    refine endV (mc := 0) (ms := 0) (va_runV (As := [.int k1_j29]) (rest := []) ⟨hx, hb, hml, hown, hts⟩ (m11_joins l D ad cy H.size s11_j29 k1_j29 q_29 h_29) (wX11_370 2 hts ⟨Nat.le_of_ble_eq_true rfl, Nat.le_of_ble_eq_true rfl⟩) ⟨pg_29.1, va_recv hK hw.1 (ci := 11) (q0 := 0) rfl eM_0, pg_29.2⟩ rfl rfl hl.1 rfl (lv_room (Nat.le_of_ble_eq_true rfl)) dX11_goesBehind_29 ⟨Nat.le_refl _, Nat.le_refl _⟩) hw.2.2 (afr_in hw.2.2) (fun H locs hw => ?_)
    refine lv_aload_n hx hb dX11_goesBehind_32 rfl (lv_at hl 0 rfl) ?_
    refine lv_iload_n hx hb dX11_goesBehind_33 rfl (lv_at hl 1 rfl) ?_
    obtain ⟨q_34, h_34, h⟩ := bnd_e h
    have pg_34 := preG (av := [.ref (ad 0), .int v1_j29]) hK hw.1 hw.2.1 NM_keep NM_blind
    refine endV (mc := 0) (ms := 0) (va_runV (As := [.int v1_j29]) (rest := []) ⟨hx, hb, hml, hown, hts⟩ (m11_puts l D ad cy H.size q_29 v1_j29 q_34 h_34) (wX11_318 0 hts ⟨Nat.le_of_ble_eq_true rfl, Nat.le_of_ble_eq_true rfl⟩) ⟨pg_34.1, va_recv hK hw.1 (ci := 11) (q0 := 0) rfl eM_0, pg_34.2⟩ rfl rfl hl.1 rfl (lv_room (Nat.le_of_ble_eq_true rfl)) dX11_goesBehind_34 ⟨Nat.le_refl _, Nat.le_refl _⟩) hw.2.2 (afr_in hw.2.2) (fun H locs hw => ?_)
    refine lv_iconst (v := 1) hx hb dX11_goesBehind_37 (by decide) ?_
    have h := Option.some.inj h
    subst h
    rw [← hQ]
    exact retI hx hb hr hlk hw (narB (v := (1 : Int32)) (by decide)) dX11_goesBehind_38
  have hJ_17 : ∀ (v1_j17 : Int32) (s11_j17 : OS) (H : Heap) (locs : List Loc) (ls : Array Slot), f11_goesBehind_j17 v1_j17 s11_j17 = some r → Wd D (cellsM ad cy s11_j17) (Afr ad 66 s.heap.size) s.heap H locs → lv_has ls 2 [(0, .ref (ad 0)), (1, .int v1_j17)] → W p l e (rmL 3) s m ([.ref (ad 0)] : List Value).toArray below meth c H locs 0 0 Q (F0 m 17 ls []) := by
    intro v1_j17 s11_j17 H locs ls h hw hl
    unfold f11_goesBehind_j17 at h
    refine lv_aload_n hx hb dX11_goesBehind_17 rfl (lv_at hl 0 rfl) ?_
    refine lv_iload_n hx hb dX11_goesBehind_18 rfl (lv_at hl 1 rfl) ?_
    refine lv_bipush (v := 124) hx hb dX11_goesBehind_19 (by decide) ?_
    refine lv_icmp_ne (tgt := 28) hx hb dX11_goesBehind_21 (by decide) (fun c_21 => ?_) (fun c_21 => ?_)
    · have h := ite_f c_21 h
      refine lv_iconst (v := 0) hx hb dX11_goesBehind_28 (by decide) ?_
      exact hJ_29 v1_j17 ((0 : Int32)) s11_j17 H locs ls h hw (lv_sub hl [0, 1] rfl)
    · have h := ite_t c_21 h
      refine lv_iconst (v := 1) hx hb dX11_goesBehind_24 (by decide) ?_
      refine lv_goto (tgt := 29) hx hb dX11_goesBehind_25 (by decide) ?_
      exact hJ_29 v1_j17 ((1 : Int32)) s11_j17 H locs ls h hw (lv_sub hl [0, 1] rfl)
  refine lv_aload_n hx hb dX11_goesBehind_0 rfl (lv_at hl 0 rfl) ?_
  obtain ⟨q_1, h_1, h⟩ := bnd_e h
  have pg_1 := preG (av := [.ref (ad 0)]) hK hw.1 hw.2.1 NM_keep NM_blind
  refine endI (mc := 0) (ms := 0) (va_runV (As := []) (rest := []) ⟨hx, hb, hml, hown, hts⟩ (m11_here l D ad cy H.size s11 q_1 h_1) (wX11_314 0 hts ⟨Nat.le_of_ble_eq_true rfl, Nat.le_of_ble_eq_true rfl⟩) ⟨pg_1.1, va_recv hK hw.1 (ci := 11) (q0 := 0) rfl eM_0, pg_1.2⟩ rfl rfl hl.1 rfl (lv_room (Nat.le_of_ble_eq_true rfl)) dX11_goesBehind_1 ⟨Nat.le_refl _, Nat.le_refl _⟩) hw.2.2 (afr_in hw.2.2) (fun H locs hw => ?_)
  refine lv_istore_n (lv' := [(1, .int q_1), (0, .ref (ad 0))]) hx hb dX11_goesBehind_4 rfl hl (by decide) rfl (fun ls hl => ?_)
  refine lv_iload_n hx hb dX11_goesBehind_5 rfl (lv_at hl 0 rfl) ?_
  refine lv_bipush (v := 38) hx hb dX11_goesBehind_6 (by decide) ?_
  refine lv_icmp_eq (tgt := 17) hx hb dX11_goesBehind_8 (by decide) (fun c_8 => ?_) (fun c_8 => ?_)
  · have h := ite_t c_8 h
    exact hJ_17 q_1 s11 H locs ls h hw (lv_sub hl [1, 0] rfl)
  · have h := ite_f c_8 h
    refine lv_iload_n hx hb dX11_goesBehind_11 rfl (lv_at hl 0 rfl) ?_
    refine lv_bipush (v := 124) hx hb dX11_goesBehind_12 (by decide) ?_
    refine lv_icmp_ne (tgt := 39) hx hb dX11_goesBehind_14 (by decide) (fun c_14 => ?_) (fun c_14 => ?_)
    · have h := ite_f c_14 h
      refine lv_iload_n hx hb dX11_goesBehind_39 rfl (lv_at hl 0 rfl) ?_
      refine lv_bipush (v := 41) hx hb dX11_goesBehind_40 (by decide) ?_
      refine lv_icmp_eq (tgt := 56) hx hb dX11_goesBehind_42 (by decide) (fun c_42 => ?_) (fun c_42 => ?_)
      · have h := ite_t c_42 h
        refine lv_aload_n hx hb dX11_goesBehind_56 rfl (lv_at hl 1 rfl) ?_
        refine lv_iconst (v := 1) hx hb dX11_goesBehind_57 (by decide) ?_
        obtain ⟨q_58, h_58, h⟩ := bnd_e h
        have pg_58 := preG (av := [.ref (ad 0), .int ((1 : Int32))]) hK hw.1 hw.2.1 NM_keep NM_blind
        refine endV (mc := 0) (ms := 0) (va_runV (As := [.int ((1 : Int32))]) (rest := []) ⟨hx, hb, hml, hown, hts⟩ (m11_joins l D ad cy H.size s11 ((1 : Int32)) q_58 h_58) (wX11_370 2 hts ⟨Nat.le_of_ble_eq_true rfl, Nat.le_of_ble_eq_true rfl⟩) ⟨pg_58.1, va_recv hK hw.1 (ci := 11) (q0 := 0) rfl eM_0, pg_58.2⟩ rfl rfl hl.1 rfl (lv_room (Nat.le_of_ble_eq_true rfl)) dX11_goesBehind_58 ⟨Nat.le_refl _, Nat.le_refl _⟩) hw.2.2 (afr_in hw.2.2) (fun H locs hw => ?_)
        refine lv_aload_n hx hb dX11_goesBehind_61 rfl (lv_at hl 1 rfl) ?_
        refine lv_dup hx hb dX11_goesBehind_62 rfl ?_
        refine gX11_304 hx hb hts hown hK hw dX11_goesBehind_63 ?_
        refine lv_iconst (v := 1) hx hb dX11_goesBehind_66 (by decide) ?_
        refine lv_isub hx hb dX11_goesBehind_67 ?_
        obtain ⟨s11_68, e_68, h⟩ := nam_e h
        refine pX11_304 hx hb hts hown hK hw e_68 dX11_goesBehind_68 (fun H locs hw => ?_)
        refine lv_aload_n hx hb dX11_goesBehind_71 rfl (lv_at hl 1 rfl) ?_
        refine lv_dup hx hb dX11_goesBehind_72 rfl ?_
        refine gX11_307 hx hb hts hown hK hw dX11_goesBehind_73 ?_
        refine lv_iconst (v := 1) hx hb dX11_goesBehind_76 (by decide) ?_
        refine lv_isub hx hb dX11_goesBehind_77 ?_
        obtain ⟨s11_78, e_78, h⟩ := nam_e h
        refine pX11_307 hx hb hts hown hK hw e_78 dX11_goesBehind_78 (fun H locs hw => ?_)
        refine lv_aload_n hx hb dX11_goesBehind_81 rfl (lv_at hl 1 rfl) ?_
        refine lv_dup hx hb dX11_goesBehind_82 rfl ?_
        refine gX11_285 hx hb hts hown hK hw dX11_goesBehind_83 ?_
        refine lv_iconst (v := 1) hx hb dX11_goesBehind_86 (by decide) ?_
        refine lv_iadd hx hb dX11_goesBehind_87 ?_
        obtain ⟨s11_88, e_88, h⟩ := nam_e h
        refine pX11_285 hx hb hts hown hK hw e_88 dX11_goesBehind_88 (fun H locs hw => ?_)
        refine lv_aload_n hx hb dX11_goesBehind_91 rfl (lv_at hl 1 rfl) ?_
        refine lv_aload_n hx hb dX11_goesBehind_92 rfl (lv_at hl 1 rfl) ?_
        refine gX11_304 hx hb hts hown hK hw dX11_goesBehind_93 ?_
        refine lv_if_ne (tgt := 103) hx hb dX11_goesBehind_96 (by decide) (fun c_96 => ?_) (fun c_96 => ?_)
        · have h := ite_f c_96 h
          refine lv_iconst (v := 0) hx hb dX11_goesBehind_103 (by decide) ?_
          exact hJ_104 ((0 : Int32)) s11_88 H locs ls h hw (lv_sub hl [1] rfl)
        · have h := ite_t c_96 h
          refine lv_iconst (v := 1) hx hb dX11_goesBehind_99 (by decide) ?_
          refine lv_goto (tgt := 104) hx hb dX11_goesBehind_100 (by decide) ?_
          exact hJ_104 ((1 : Int32)) s11_88 H locs ls h hw (lv_sub hl [1] rfl)
      · have h := ite_f c_42 h
        refine lv_aload_n hx hb dX11_goesBehind_45 rfl (lv_at hl 1 rfl) ?_
        refine lv_iconst (v := 1) hx hb dX11_goesBehind_46 (by decide) ?_
        refine lv_aload_n hx hb dX11_goesBehind_47 rfl (lv_at hl 1 rfl) ?_
        refine gX11_285 hx hb hts hown hK hw dX11_goesBehind_48 ?_
        obtain ⟨q_51, h_51, h⟩ := bnd_e h
        have pg_51 := preG (av := [.ref (ad 0), .int ((1 : Int32)), .int ((s11.1 0 43))]) hK hw.1 hw.2.1 NM_keep NM_blind
        refine endV (mc := 0) (ms := 0) (va_runV (As := [.int ((1 : Int32)), .int ((s11.1 0 43))]) (rest := []) ⟨hx, hb, hml, hown, hts⟩ (m11_wrongs l D ad cy H.size s11 ((1 : Int32)) ((s11.1 0 43)) q_51 h_51) (wX11_310 0 hts ⟨Nat.le_of_ble_eq_true rfl, Nat.le_of_ble_eq_true rfl⟩) ⟨pg_51.1, va_recv hK hw.1 (ci := 11) (q0 := 0) rfl eM_0, pg_51.2⟩ rfl rfl hl.1 rfl (lv_room (Nat.le_of_ble_eq_true rfl)) dX11_goesBehind_51 ⟨Nat.le_refl _, Nat.le_refl _⟩) hw.2.2 (afr_in hw.2.2) (fun H locs hw => ?_)
        refine lv_iconst (v := 0) hx hb dX11_goesBehind_54 (by decide) ?_
        have h := Option.some.inj h
        subst h
        rw [← hQ]
        exact retI hx hb hr hlk hw (narB (v := (0 : Int32)) (by decide)) dX11_goesBehind_55
    · have h := ite_t c_14 h
      exact hJ_17 q_1 s11 H locs ls h hw (lv_sub hl [1, 0] rfl)
theorem dX11_opens_0 : decode cX11_opens 0 = .ok (.aload_n 0, 1) := by decide +kernel
theorem dX11_opens_1 : decode cX11_opens 1 = .ok (.getfield 307, 3) := by decide +kernel
theorem dX11_opens_4 : decode cX11_opens 4 = .ok (.bipush 6, 2) := by decide +kernel
theorem dX11_opens_6 : decode cX11_opens 6 = .ok (.if_icmp .ne 12, 3) := by decide +kernel
theorem dX11_opens_9 : decode cX11_opens 9 = .ok (.aload_n 0, 1) := by decide +kernel
theorem dX11_opens_10 : decode cX11_opens 10 = .ok (.iconst 5, 1) := by decide +kernel
theorem dX11_opens_11 : decode cX11_opens 11 = .ok (.aload_n 0, 1) := by decide +kernel
theorem dX11_opens_12 : decode cX11_opens 12 = .ok (.getfield 285, 3) := by decide +kernel
theorem dX11_opens_15 : decode cX11_opens 15 = .ok (.invokevirtual 310, 3) := by decide +kernel
theorem dX11_opens_18 : decode cX11_opens 18 = .ok (.aload_n 0, 1) := by decide +kernel
theorem dX11_opens_19 : decode cX11_opens 19 = .ok (.dup, 1) := by decide +kernel
theorem dX11_opens_20 : decode cX11_opens 20 = .ok (.getfield 307, 3) := by decide +kernel
theorem dX11_opens_23 : decode cX11_opens 23 = .ok (.iconst 1, 1) := by decide +kernel
theorem dX11_opens_24 : decode cX11_opens 24 = .ok (.iadd, 1) := by decide +kernel
theorem dX11_opens_25 : decode cX11_opens 25 = .ok (.putfield 307, 3) := by decide +kernel
theorem dX11_opens_28 : decode cX11_opens 28 = .ok (.aload_n 0, 1) := by decide +kernel
theorem dX11_opens_29 : decode cX11_opens 29 = .ok (.aload_n 0, 1) := by decide +kernel
theorem dX11_opens_30 : decode cX11_opens 30 = .ok (.invokevirtual 314, 3) := by decide +kernel
theorem dX11_opens_33 : decode cX11_opens 33 = .ok (.invokevirtual 318, 3) := by decide +kernel
theorem dX11_opens_36 : decode cX11_opens 36 = .ok (.return_, 1) := by decide +kernel
def f11_opens_j18 (s11_j18 : OS) : Option (OS) := nm (wI s11_j18 0 48 (((s11_j18.1 0 48) + (1 : Int32)))) fun s11_25 => Option.bind (f11_here s11_25) fun q_30 => Option.bind (f11_puts q_30 s11_25) fun q_33 => some q_33
def f11_opens (s11 : OS) : Option (OS) := if (s11.1 0 48) = (6 : Int32) then (Option.bind (f11_wrongs ((5 : Int32)) ((s11.1 0 43)) s11) fun q_15 => f11_opens_j18 q_15) else (f11_opens_j18 s11)
set_option maxHeartbeats 4000000 in
set_option maxRecDepth 100000 in
theorem m11_opens (l : Launch) (D : va_G) (ad : Nat → Nat) (cy : Nat → ClassId) (sz : Nat) (s11 : OS) (r : OS) (h : f11_opens s11 = some r) : Met l yX11_opens (wsOf yX11_opens cX11_opens 1 none) (rmL 1) (va_Pc ([.ref (ad 0)] : List Value) (PreG D cy (cellsM ad cy s11) sz NM)) (QcV D ad 66 (cellsM ad cy r) sz) 0 0 (Afr ad 66 sz) := by
  refine metG (own := RX11) (by decide) rfl (Nat.le_of_ble_eq_true rfl) fstM ?_ sz
  intro p e s m below meth c ls C0 hw hl
  obtain ⟨hx, hb, hml, hown, hts, hr, hlk, hK, hN⟩ := C0
  have hl : lv_has ls 1 [(0, .ref (ad 0))] := hl
  generalize hQ : MQ below (QcV D ad 66 (cellsM ad cy r) s.heap.size) ([.ref (ad 0)] : List Value).toArray s 0 0 (Afr ad 66 s.heap.size) = Q
  obtain ⟨H, hH⟩ : ∃ H : Heap, H = s.heap := ⟨_, rfl⟩
  obtain ⟨locs, hlc⟩ : ∃ L : List Loc, L = [] := ⟨_, rfl⟩
  have hw : Wd D (cellsM ad cy s11) (Afr ad 66 s.heap.size) s.heap H locs := by rw [hH, hlc]; exact hw
  suffices h0 : W p l e (rmL 1) s m ([.ref (ad 0)] : List Value).toArray below meth c H locs 0 0 Q (F0 m 0 ls []) by rw [hH, hlc] at h0; exact h0
  clear hH hlc
  unfold f11_opens at h
  have hJ_18 : ∀ (s11_j18 : OS) (H : Heap) (locs : List Loc) (ls : Array Slot), f11_opens_j18 s11_j18 = some r → Wd D (cellsM ad cy s11_j18) (Afr ad 66 s.heap.size) s.heap H locs → lv_has ls 1 [(0, .ref (ad 0))] → W p l e (rmL 1) s m ([.ref (ad 0)] : List Value).toArray below meth c H locs 0 0 Q (F0 m 18 ls []) := by
    intro s11_j18 H locs ls h hw hl
    unfold f11_opens_j18 at h
    refine lv_aload_n hx hb dX11_opens_18 rfl (lv_at hl 0 rfl) ?_
    refine lv_dup hx hb dX11_opens_19 rfl ?_
    refine gX11_307 hx hb hts hown hK hw dX11_opens_20 ?_
    refine lv_iconst (v := 1) hx hb dX11_opens_23 (by decide) ?_
    refine lv_iadd hx hb dX11_opens_24 ?_
    obtain ⟨s11_25, e_25, h⟩ := nam_e h
    refine pX11_307 hx hb hts hown hK hw e_25 dX11_opens_25 (fun H locs hw => ?_)
    refine lv_aload_n hx hb dX11_opens_28 rfl (lv_at hl 0 rfl) ?_
    refine lv_aload_n hx hb dX11_opens_29 rfl (lv_at hl 0 rfl) ?_
    obtain ⟨q_30, h_30, h⟩ := bnd_e h
    have pg_30 := preG (av := [.ref (ad 0)]) hK hw.1 hw.2.1 NM_keep NM_blind
    refine endI (mc := 0) (ms := 0) (va_runV (As := []) (rest := [.ref (ad 0)]) ⟨hx, hb, hml, hown, hts⟩ (m11_here l D ad cy H.size s11_25 q_30 h_30) (wX11_314 0 hts ⟨Nat.le_of_ble_eq_true rfl, Nat.le_of_ble_eq_true rfl⟩) ⟨pg_30.1, va_recv hK hw.1 (ci := 11) (q0 := 0) rfl eM_0, pg_30.2⟩ rfl rfl hl.1 rfl (lv_room (Nat.le_of_ble_eq_true rfl)) dX11_opens_30 ⟨Nat.le_refl _, Nat.le_refl _⟩) hw.2.2 (afr_in hw.2.2) (fun H locs hw => ?_)
    obtain ⟨q_33, h_33, h⟩ := bnd_e h
    have pg_33 := preG (av := [.ref (ad 0), .int q_30]) hK hw.1 hw.2.1 NM_keep NM_blind
    refine endV (mc := 0) (ms := 0) (va_runV (As := [.int q_30]) (rest := []) ⟨hx, hb, hml, hown, hts⟩ (m11_puts l D ad cy H.size s11_25 q_30 q_33 h_33) (wX11_318 0 hts ⟨Nat.le_of_ble_eq_true rfl, Nat.le_of_ble_eq_true rfl⟩) ⟨pg_33.1, va_recv hK hw.1 (ci := 11) (q0 := 0) rfl eM_0, pg_33.2⟩ rfl rfl hl.1 rfl (lv_room (Nat.le_of_ble_eq_true rfl)) dX11_opens_33 ⟨Nat.le_refl _, Nat.le_refl _⟩) hw.2.2 (afr_in hw.2.2) (fun H locs hw => ?_)
    have h := Option.some.inj h
    subst h
    rw [← hQ]
    exact retV hx hb hr hlk hw dX11_opens_36
  refine lv_aload_n hx hb dX11_opens_0 rfl (lv_at hl 0 rfl) ?_
  refine gX11_307 hx hb hts hown hK hw dX11_opens_1 ?_
  refine lv_bipush (v := 6) hx hb dX11_opens_4 (by decide) ?_
  refine lv_icmp_ne (tgt := 18) hx hb dX11_opens_6 (by decide) (fun c_6 => ?_) (fun c_6 => ?_)
  · have h := ite_f c_6 h
    exact hJ_18 s11 H locs ls h hw (lv_sub hl [0] rfl)
  · have h := ite_t c_6 h
    refine lv_aload_n hx hb dX11_opens_9 rfl (lv_at hl 0 rfl) ?_
    refine lv_iconst (v := 5) hx hb dX11_opens_10 (by decide) ?_
    refine lv_aload_n hx hb dX11_opens_11 rfl (lv_at hl 0 rfl) ?_
    refine gX11_285 hx hb hts hown hK hw dX11_opens_12 ?_
    obtain ⟨q_15, h_15, h⟩ := bnd_e h
    have pg_15 := preG (av := [.ref (ad 0), .int ((5 : Int32)), .int ((s11.1 0 43))]) hK hw.1 hw.2.1 NM_keep NM_blind
    refine endV (mc := 0) (ms := 0) (va_runV (As := [.int ((5 : Int32)), .int ((s11.1 0 43))]) (rest := []) ⟨hx, hb, hml, hown, hts⟩ (m11_wrongs l D ad cy H.size s11 ((5 : Int32)) ((s11.1 0 43)) q_15 h_15) (wX11_310 0 hts ⟨Nat.le_of_ble_eq_true rfl, Nat.le_of_ble_eq_true rfl⟩) ⟨pg_15.1, va_recv hK hw.1 (ci := 11) (q0 := 0) rfl eM_0, pg_15.2⟩ rfl rfl hl.1 rfl (lv_room (Nat.le_of_ble_eq_true rfl)) dX11_opens_15 ⟨Nat.le_refl _, Nat.le_refl _⟩) hw.2.2 (afr_in hw.2.2) (fun H locs hw => ?_)
    exact hJ_18 q_15 H locs ls h hw (lv_sub hl [0] rfl)
theorem dX11_isValue_0 : decode cX11_isValue 0 = .ok (.iload_n 0, 1) := by decide +kernel
theorem dX11_isValue_1 : decode cX11_isValue 1 = .ok (.bipush 102, 2) := by decide +kernel
theorem dX11_isValue_3 : decode cX11_isValue 3 = .ok (.if_icmp .eq 51, 3) := by decide +kernel
theorem dX11_isValue_6 : decode cX11_isValue 6 = .ok (.iload_n 0, 1) := by decide +kernel
theorem dX11_isValue_7 : decode cX11_isValue 7 = .ok (.bipush 104, 2) := by decide +kernel
theorem dX11_isValue_9 : decode cX11_isValue 9 = .ok (.if_icmp .eq 45, 3) := by decide +kernel
theorem dX11_isValue_12 : decode cX11_isValue 12 = .ok (.iload_n 0, 1) := by decide +kernel
theorem dX11_isValue_13 : decode cX11_isValue 13 = .ok (.bipush 107, 2) := by decide +kernel
theorem dX11_isValue_15 : decode cX11_isValue 15 = .ok (.if_icmp .eq 39, 3) := by decide +kernel
theorem dX11_isValue_18 : decode cX11_isValue 18 = .ok (.iload_n 0, 1) := by decide +kernel
theorem dX11_isValue_19 : decode cX11_isValue 19 = .ok (.bipush 119, 2) := by decide +kernel
theorem dX11_isValue_21 : decode cX11_isValue 21 = .ok (.if_icmp .eq 33, 3) := by decide +kernel
theorem dX11_isValue_24 : decode cX11_isValue 24 = .ok (.iload_n 0, 1) := by decide +kernel
theorem dX11_isValue_25 : decode cX11_isValue 25 = .ok (.bipush 109, 2) := by decide +kernel
theorem dX11_isValue_27 : decode cX11_isValue 27 = .ok (.if_icmp .eq 27, 3) := by decide +kernel
theorem dX11_isValue_30 : decode cX11_isValue 30 = .ok (.iload_n 0, 1) := by decide +kernel
theorem dX11_isValue_31 : decode cX11_isValue 31 = .ok (.bipush 108, 2) := by decide +kernel
theorem dX11_isValue_33 : decode cX11_isValue 33 = .ok (.if_icmp .eq 21, 3) := by decide +kernel
theorem dX11_isValue_36 : decode cX11_isValue 36 = .ok (.iload_n 0, 1) := by decide +kernel
theorem dX11_isValue_37 : decode cX11_isValue 37 = .ok (.bipush 97, 2) := by decide +kernel
theorem dX11_isValue_39 : decode cX11_isValue 39 = .ok (.if_icmp .eq 15, 3) := by decide +kernel
theorem dX11_isValue_42 : decode cX11_isValue 42 = .ok (.iload_n 0, 1) := by decide +kernel
theorem dX11_isValue_43 : decode cX11_isValue 43 = .ok (.bipush 115, 2) := by decide +kernel
theorem dX11_isValue_45 : decode cX11_isValue 45 = .ok (.if_icmp .eq 9, 3) := by decide +kernel
theorem dX11_isValue_48 : decode cX11_isValue 48 = .ok (.iload_n 0, 1) := by decide +kernel
theorem dX11_isValue_49 : decode cX11_isValue 49 = .ok (.bipush 100, 2) := by decide +kernel
theorem dX11_isValue_51 : decode cX11_isValue 51 = .ok (.if_icmp .ne 7, 3) := by decide +kernel
theorem dX11_isValue_54 : decode cX11_isValue 54 = .ok (.iconst 1, 1) := by decide +kernel
theorem dX11_isValue_55 : decode cX11_isValue 55 = .ok (.goto 4, 3) := by decide +kernel
theorem dX11_isValue_58 : decode cX11_isValue 58 = .ok (.iconst 0, 1) := by decide +kernel
theorem dX11_isValue_59 : decode cX11_isValue 59 = .ok (.ireturn, 1) := by decide +kernel
def f11_isValue_j59 (k0_j59 : Int32) : Option (Int32) := chk (isB k0_j59) (some k0_j59)
def f11_isValue_j54  : Option (Int32) := f11_isValue_j59 ((1 : Int32))
def f11_isValue (a0 : Int32) : Option (Int32) := if a0 = (102 : Int32) then f11_isValue_j54 else (if a0 = (104 : Int32) then f11_isValue_j54 else (if a0 = (107 : Int32) then f11_isValue_j54 else (if a0 = (119 : Int32) then f11_isValue_j54 else (if a0 = (109 : Int32) then f11_isValue_j54 else (if a0 = (108 : Int32) then f11_isValue_j54 else (if a0 = (97 : Int32) then f11_isValue_j54 else (if a0 = (115 : Int32) then f11_isValue_j54 else (if a0 = (100 : Int32) then f11_isValue_j54 else (f11_isValue_j59 ((0 : Int32)))))))))))
set_option maxHeartbeats 4000000 in
set_option maxRecDepth 100000 in
theorem m11_isValue (l : Launch) (D : va_G) (ad : Nat → Nat) (cy : Nat → ClassId) (sz : Nat) (s11 : OS) (a0 : Int32) (r : Int32) (h : f11_isValue a0 = some r) : Met l yX11_isValue (wsOf yX11_isValue cX11_isValue 1 (some .boolean)) (rmL 0) (va_Pc ([.int a0] : List Value) (PreG D cy (cellsM ad cy s11) sz NM)) (QcI D ad 66 (cellsM ad cy s11) (r) sz) 0 0 (Afr ad 66 sz) := by
  refine metG (own := RX11) (by decide) rfl (Nat.le_of_ble_eq_true rfl) fstM ?_ sz
  intro p e s m below meth c ls C0 hw hl
  obtain ⟨hx, hb, hml, hown, hts, hr, hlk, hK, hN⟩ := C0
  have hl : lv_has ls 1 [(0, .int a0)] := hl
  generalize hQ : MQ below (QcI D ad 66 (cellsM ad cy s11) (r) s.heap.size) ([.int a0] : List Value).toArray s 0 0 (Afr ad 66 s.heap.size) = Q
  obtain ⟨H, hH⟩ : ∃ H : Heap, H = s.heap := ⟨_, rfl⟩
  obtain ⟨locs, hlc⟩ : ∃ L : List Loc, L = [] := ⟨_, rfl⟩
  have hw : Wd D (cellsM ad cy s11) (Afr ad 66 s.heap.size) s.heap H locs := by rw [hH, hlc]; exact hw
  suffices h0 : W p l e (rmL 0) s m ([.int a0] : List Value).toArray below meth c H locs 0 0 Q (F0 m 0 ls []) by rw [hH, hlc] at h0; exact h0
  clear hH hlc
  unfold f11_isValue at h
  have hJ_59 : ∀ (k0_j59 : Int32) (H : Heap) (locs : List Loc) (ls : Array Slot), f11_isValue_j59 k0_j59 = some r → Wd D (cellsM ad cy s11) (Afr ad 66 s.heap.size) s.heap H locs → lv_has ls 1 [] → W p l e (rmL 0) s m ([.int a0] : List Value).toArray below meth c H locs 0 0 Q (F0 m 59 ls [.int k0_j59]) := by
    intro k0_j59 H locs ls h hw hl
    unfold f11_isValue_j59 at h
    obtain ⟨hz_59, h⟩ := chk_e h
    have h := Option.some.inj h
    subst h
    rw [← hQ]
    exact retI hx hb hr hlk hw (narB hz_59) dX11_isValue_59
  have hJ_54 : ∀  (H : Heap) (locs : List Loc) (ls : Array Slot), f11_isValue_j54 = some r → Wd D (cellsM ad cy s11) (Afr ad 66 s.heap.size) s.heap H locs → lv_has ls 1 [] → W p l e (rmL 0) s m ([.int a0] : List Value).toArray below meth c H locs 0 0 Q (F0 m 54 ls []) := by
    intro  H locs ls h hw hl
    unfold f11_isValue_j54 at h
    refine lv_iconst (v := 1) hx hb dX11_isValue_54 (by decide) ?_
    refine lv_goto (tgt := 59) hx hb dX11_isValue_55 (by decide) ?_
    exact hJ_59 ((1 : Int32)) H locs ls h hw (lv_sub hl [] rfl)
  refine lv_iload_n hx hb dX11_isValue_0 rfl (lv_at hl 0 rfl) ?_
  refine lv_bipush (v := 102) hx hb dX11_isValue_1 (by decide) ?_
  refine lv_icmp_eq (tgt := 54) hx hb dX11_isValue_3 (by decide) (fun c_3 => ?_) (fun c_3 => ?_)
  · have h := ite_t c_3 h
    exact hJ_54  H locs ls h hw (lv_sub hl [] rfl)
  · have h := ite_f c_3 h
    refine lv_iload_n hx hb dX11_isValue_6 rfl (lv_at hl 0 rfl) ?_
    refine lv_bipush (v := 104) hx hb dX11_isValue_7 (by decide) ?_
    refine lv_icmp_eq (tgt := 54) hx hb dX11_isValue_9 (by decide) (fun c_9 => ?_) (fun c_9 => ?_)
    · have h := ite_t c_9 h
      exact hJ_54  H locs ls h hw (lv_sub hl [] rfl)
    · have h := ite_f c_9 h
      refine lv_iload_n hx hb dX11_isValue_12 rfl (lv_at hl 0 rfl) ?_
      refine lv_bipush (v := 107) hx hb dX11_isValue_13 (by decide) ?_
      refine lv_icmp_eq (tgt := 54) hx hb dX11_isValue_15 (by decide) (fun c_15 => ?_) (fun c_15 => ?_)
      · have h := ite_t c_15 h
        exact hJ_54  H locs ls h hw (lv_sub hl [] rfl)
      · have h := ite_f c_15 h
        refine lv_iload_n hx hb dX11_isValue_18 rfl (lv_at hl 0 rfl) ?_
        refine lv_bipush (v := 119) hx hb dX11_isValue_19 (by decide) ?_
        refine lv_icmp_eq (tgt := 54) hx hb dX11_isValue_21 (by decide) (fun c_21 => ?_) (fun c_21 => ?_)
        · have h := ite_t c_21 h
          exact hJ_54  H locs ls h hw (lv_sub hl [] rfl)
        · have h := ite_f c_21 h
          refine lv_iload_n hx hb dX11_isValue_24 rfl (lv_at hl 0 rfl) ?_
          refine lv_bipush (v := 109) hx hb dX11_isValue_25 (by decide) ?_
          refine lv_icmp_eq (tgt := 54) hx hb dX11_isValue_27 (by decide) (fun c_27 => ?_) (fun c_27 => ?_)
          · have h := ite_t c_27 h
            exact hJ_54  H locs ls h hw (lv_sub hl [] rfl)
          · have h := ite_f c_27 h
            refine lv_iload_n hx hb dX11_isValue_30 rfl (lv_at hl 0 rfl) ?_
            refine lv_bipush (v := 108) hx hb dX11_isValue_31 (by decide) ?_
            refine lv_icmp_eq (tgt := 54) hx hb dX11_isValue_33 (by decide) (fun c_33 => ?_) (fun c_33 => ?_)
            · have h := ite_t c_33 h
              exact hJ_54  H locs ls h hw (lv_sub hl [] rfl)
            · have h := ite_f c_33 h
              refine lv_iload_n hx hb dX11_isValue_36 rfl (lv_at hl 0 rfl) ?_
              refine lv_bipush (v := 97) hx hb dX11_isValue_37 (by decide) ?_
              refine lv_icmp_eq (tgt := 54) hx hb dX11_isValue_39 (by decide) (fun c_39 => ?_) (fun c_39 => ?_)
              · have h := ite_t c_39 h
                exact hJ_54  H locs ls h hw (lv_sub hl [] rfl)
              · have h := ite_f c_39 h
                refine lv_iload_n hx hb dX11_isValue_42 rfl (lv_at hl 0 rfl) ?_
                refine lv_bipush (v := 115) hx hb dX11_isValue_43 (by decide) ?_
                refine lv_icmp_eq (tgt := 54) hx hb dX11_isValue_45 (by decide) (fun c_45 => ?_) (fun c_45 => ?_)
                · have h := ite_t c_45 h
                  exact hJ_54  H locs ls h hw (lv_sub hl [] rfl)
                · have h := ite_f c_45 h
                  refine lv_iload_n hx hb dX11_isValue_48 rfl (lv_at hl 0 rfl) ?_
                  refine lv_bipush (v := 100) hx hb dX11_isValue_49 (by decide) ?_
                  refine lv_icmp_ne (tgt := 58) hx hb dX11_isValue_51 (by decide) (fun c_51 => ?_) (fun c_51 => ?_)
                  · have h := ite_f c_51 h
                    refine lv_iconst (v := 0) hx hb dX11_isValue_58 (by decide) ?_
                    exact hJ_59 ((0 : Int32)) H locs ls h hw (lv_sub hl [] rfl)
                  · have h := ite_t c_51 h
                    exact hJ_54  H locs ls h hw (lv_sub hl [] rfl)
theorem dX11_seesDigit_0 : decode cX11_seesDigit 0 = .ok (.aload_n 0, 1) := by decide +kernel
theorem dX11_seesDigit_1 : decode cX11_seesDigit 1 = .ok (.invokevirtual 314, 3) := by decide +kernel
theorem dX11_seesDigit_4 : decode cX11_seesDigit 4 = .ok (.i2l, 1) := by decide +kernel
theorem dX11_seesDigit_5 : decode cX11_seesDigit 5 = .ok (.ldc2_w 321, 3) := by decide +kernel
theorem dX11_seesDigit_8 : decode cX11_seesDigit 8 = .ok (.ldc2_w 323, 3) := by decide +kernel
theorem dX11_seesDigit_11 : decode cX11_seesDigit 11 = .ok (.invokestatic 215, 3) := by decide +kernel
theorem dX11_seesDigit_14 : decode cX11_seesDigit 14 = .ok (.ireturn, 1) := by decide +kernel
def f11_seesDigit (s11 : OS) : Option (Int32) := Option.bind (f11_here s11) fun q_1 => Option.bind (f11_lies ((q_1).toInt64) ((48 : Int64)) ((57 : Int64))) fun q_11 => chk (isB q_11) (some q_11)
set_option maxHeartbeats 4000000 in
set_option maxRecDepth 100000 in
theorem m11_seesDigit (l : Launch) (D : va_G) (ad : Nat → Nat) (cy : Nat → ClassId) (sz : Nat) (s11 : OS) (r : Int32) (h : f11_seesDigit s11 = some r) : Met l yX11_seesDigit (wsOf yX11_seesDigit cX11_seesDigit 1 (some .boolean)) (rmL 1) (va_Pc ([.ref (ad 0)] : List Value) (PreG D cy (cellsM ad cy s11) sz NM)) (QcI D ad 66 (cellsM ad cy s11) (r) sz) 0 0 (Afr ad 66 sz) := by
  refine metG (own := RX11) (by decide) rfl (Nat.le_of_ble_eq_true rfl) fstM ?_ sz
  intro p e s m below meth c ls C0 hw hl
  obtain ⟨hx, hb, hml, hown, hts, hr, hlk, hK, hN⟩ := C0
  have hl : lv_has ls 1 [(0, .ref (ad 0))] := hl
  generalize hQ : MQ below (QcI D ad 66 (cellsM ad cy s11) (r) s.heap.size) ([.ref (ad 0)] : List Value).toArray s 0 0 (Afr ad 66 s.heap.size) = Q
  obtain ⟨H, hH⟩ : ∃ H : Heap, H = s.heap := ⟨_, rfl⟩
  obtain ⟨locs, hlc⟩ : ∃ L : List Loc, L = [] := ⟨_, rfl⟩
  have hw : Wd D (cellsM ad cy s11) (Afr ad 66 s.heap.size) s.heap H locs := by rw [hH, hlc]; exact hw
  suffices h0 : W p l e (rmL 1) s m ([.ref (ad 0)] : List Value).toArray below meth c H locs 0 0 Q (F0 m 0 ls []) by rw [hH, hlc] at h0; exact h0
  clear hH hlc
  unfold f11_seesDigit at h
  refine lv_aload_n hx hb dX11_seesDigit_0 rfl (lv_at hl 0 rfl) ?_
  obtain ⟨q_1, h_1, h⟩ := bnd_e h
  have pg_1 := preG (av := [.ref (ad 0)]) hK hw.1 hw.2.1 NM_keep NM_blind
  refine endI (mc := 0) (ms := 0) (va_runV (As := []) (rest := []) ⟨hx, hb, hml, hown, hts⟩ (m11_here l D ad cy H.size s11 q_1 h_1) (wX11_314 0 hts ⟨Nat.le_of_ble_eq_true rfl, Nat.le_of_ble_eq_true rfl⟩) ⟨pg_1.1, va_recv hK hw.1 (ci := 11) (q0 := 0) rfl eM_0, pg_1.2⟩ rfl rfl hl.1 rfl (lv_room (Nat.le_of_ble_eq_true rfl)) dX11_seesDigit_1 ⟨Nat.le_refl _, Nat.le_refl _⟩) hw.2.2 (afr_in hw.2.2) (fun H locs hw => ?_)
  refine lv_i2l hx hb dX11_seesDigit_4 rfl ?_
  refine lv_ldc2 (v := 48) hx hb hown (hts _ (wd_7 (w := .constantLong RX11 321 48) (i := 202) (by decide +kernel) rfl)) dX11_seesDigit_5 ?_
  refine lv_ldc2 (v := 57) hx hb hown (hts _ (wd_7 (w := .constantLong RX11 323 57) (i := 203) (by decide +kernel) rfl)) dX11_seesDigit_8 ?_
  obtain ⟨q_11, h_11, h⟩ := bnd_e h
  have pg_11 := preG (av := [.long ((q_1).toInt64), .long ((48 : Int64)), .long ((57 : Int64))]) hK hw.1 hw.2.1 NM_keep NM_blind
  refine endI (mc := 0) (ms := 0) (va_runS (As := [.long ((q_1).toInt64), .long ((48 : Int64)), .long ((57 : Int64))]) (rest := []) ⟨hx, hb, hml, hown, hts⟩ (m11_lies l D ad cy H.size s11 ((q_1).toInt64) ((48 : Int64)) ((57 : Int64)) q_11 h_11) (wX11_215 0 hts ⟨Nat.le_of_ble_eq_true rfl, Nat.le_of_ble_eq_true rfl⟩) pg_11 rfl rfl hl.1 rfl (lv_room (Nat.le_of_ble_eq_true rfl)) dX11_seesDigit_11 ⟨Nat.le_refl _, Nat.le_refl _⟩) hw.2.2 (afr_in hw.2.2) (fun H locs hw => ?_)
  obtain ⟨hz_14, h⟩ := chk_e h
  have h := Option.some.inj h
  subst h
  rw [← hQ]
  exact retI hx hb hr hlk hw (narB hz_14) dX11_seesDigit_14
theorem dX11_reads_0 : decode cX11_reads 0 = .ok (.aload_n 0, 1) := by decide +kernel
theorem dX11_reads_1 : decode cX11_reads 1 = .ok (.getfield 285, 3) := by decide +kernel
theorem dX11_reads_4 : decode cX11_reads 4 = .ok (.istore_n 2, 1) := by decide +kernel
theorem dX11_reads_5 : decode cX11_reads 5 = .ok (.iconst 0, 1) := by decide +kernel
theorem dX11_reads_6 : decode cX11_reads 6 = .ok (.istore_n 3, 1) := by decide +kernel
theorem dX11_reads_7 : decode cX11_reads 7 = .ok (.aload_n 0, 1) := by decide +kernel
theorem dX11_reads_8 : decode cX11_reads 8 = .ok (.invokevirtual 325, 3) := by decide +kernel
theorem dX11_reads_11 : decode cX11_reads 11 = .ok (.ifCond .ne 12, 3) := by decide +kernel
theorem dX11_reads_14 : decode cX11_reads 14 = .ok (.aload_n 0, 1) := by decide +kernel
theorem dX11_reads_15 : decode cX11_reads 15 = .ok (.iconst 1, 1) := by decide +kernel
theorem dX11_reads_16 : decode cX11_reads 16 = .ok (.aload_n 0, 1) := by decide +kernel
theorem dX11_reads_17 : decode cX11_reads 17 = .ok (.getfield 285, 3) := by decide +kernel
theorem dX11_reads_20 : decode cX11_reads 20 = .ok (.invokevirtual 310, 3) := by decide +kernel
theorem dX11_reads_23 : decode cX11_reads 23 = .ok (.aload_n 0, 1) := by decide +kernel
theorem dX11_reads_24 : decode cX11_reads 24 = .ok (.invokevirtual 294, 3) := by decide +kernel
theorem dX11_reads_27 : decode cX11_reads 27 = .ok (.ifCond .eq 56, 3) := by decide +kernel
theorem dX11_reads_30 : decode cX11_reads 30 = .ok (.aload_n 0, 1) := by decide +kernel
theorem dX11_reads_31 : decode cX11_reads 31 = .ok (.invokevirtual 325, 3) := by decide +kernel
theorem dX11_reads_34 : decode cX11_reads 34 = .ok (.ifCond .eq 49, 3) := by decide +kernel
theorem dX11_reads_37 : decode cX11_reads 37 = .ok (.aload_n 0, 1) := by decide +kernel
theorem dX11_reads_38 : decode cX11_reads 38 = .ok (.getfield 285, 3) := by decide +kernel
theorem dX11_reads_41 : decode cX11_reads 41 = .ok (.iload_n 2, 1) := by decide +kernel
theorem dX11_reads_42 : decode cX11_reads 42 = .ok (.bipush 6, 2) := by decide +kernel
theorem dX11_reads_44 : decode cX11_reads 44 = .ok (.iadd, 1) := by decide +kernel
theorem dX11_reads_45 : decode cX11_reads 45 = .ok (.if_icmp .ne 12, 3) := by decide +kernel
theorem dX11_reads_48 : decode cX11_reads 48 = .ok (.aload_n 0, 1) := by decide +kernel
theorem dX11_reads_49 : decode cX11_reads 49 = .ok (.iconst 2, 1) := by decide +kernel
theorem dX11_reads_50 : decode cX11_reads 50 = .ok (.aload_n 0, 1) := by decide +kernel
theorem dX11_reads_51 : decode cX11_reads 51 = .ok (.getfield 285, 3) := by decide +kernel
theorem dX11_reads_54 : decode cX11_reads 54 = .ok (.invokevirtual 310, 3) := by decide +kernel
theorem dX11_reads_57 : decode cX11_reads 57 = .ok (.bipush 10, 2) := by decide +kernel
theorem dX11_reads_59 : decode cX11_reads 59 = .ok (.iload_n 3, 1) := by decide +kernel
theorem dX11_reads_60 : decode cX11_reads 60 = .ok (.imul, 1) := by decide +kernel
theorem dX11_reads_61 : decode cX11_reads 61 = .ok (.aload_n 0, 1) := by decide +kernel
theorem dX11_reads_62 : decode cX11_reads 62 = .ok (.invokevirtual 314, 3) := by decide +kernel
theorem dX11_reads_65 : decode cX11_reads 65 = .ok (.iadd, 1) := by decide +kernel
theorem dX11_reads_66 : decode cX11_reads 66 = .ok (.bipush 48, 2) := by decide +kernel
theorem dX11_reads_68 : decode cX11_reads 68 = .ok (.isub, 1) := by decide +kernel
theorem dX11_reads_69 : decode cX11_reads 69 = .ok (.istore_n 3, 1) := by decide +kernel
theorem dX11_reads_70 : decode cX11_reads 70 = .ok (.aload_n 0, 1) := by decide +kernel
theorem dX11_reads_71 : decode cX11_reads 71 = .ok (.dup, 1) := by decide +kernel
theorem dX11_reads_72 : decode cX11_reads 72 = .ok (.getfield 285, 3) := by decide +kernel
theorem dX11_reads_75 : decode cX11_reads 75 = .ok (.iconst 1, 1) := by decide +kernel
theorem dX11_reads_76 : decode cX11_reads 76 = .ok (.iadd, 1) := by decide +kernel
theorem dX11_reads_77 : decode cX11_reads 77 = .ok (.putfield 285, 3) := by decide +kernel
theorem dX11_reads_80 : decode cX11_reads 80 = .ok (.goto (-57), 3) := by decide +kernel
theorem dX11_reads_83 : decode cX11_reads 83 = .ok (.iload_n 3, 1) := by decide +kernel
theorem dX11_reads_84 : decode cX11_reads 84 = .ok (.iload_n 1, 1) := by decide +kernel
theorem dX11_reads_85 : decode cX11_reads 85 = .ok (.if_icmp .le 9, 3) := by decide +kernel
theorem dX11_reads_88 : decode cX11_reads 88 = .ok (.aload_n 0, 1) := by decide +kernel
theorem dX11_reads_89 : decode cX11_reads 89 = .ok (.iconst 3, 1) := by decide +kernel
theorem dX11_reads_90 : decode cX11_reads 90 = .ok (.iload_n 2, 1) := by decide +kernel
theorem dX11_reads_91 : decode cX11_reads 91 = .ok (.invokevirtual 310, 3) := by decide +kernel
theorem dX11_reads_94 : decode cX11_reads 94 = .ok (.iload_n 3, 1) := by decide +kernel
theorem dX11_reads_95 : decode cX11_reads 95 = .ok (.ireturn, 1) := by decide +kernel
noncomputable def f11_reads_j94 (v3_j94 : Int32) (s11_j94 : OS) : Option (Int32 × OS) := some (v3_j94, s11_j94)
noncomputable def f11_reads_j83 (v1_j83 : Int32) (v2_j83 : Int32) (v3_j83 : Int32) (s11_j83 : OS) : Option (Int32 × OS) := if v3_j83 ≤ v1_j83 then (f11_reads_j94 v3_j83 s11_j83) else (Option.bind (f11_wrongs ((3 : Int32)) v2_j83 s11_j83) fun q_91 => f11_reads_j94 v3_j83 q_91)
noncomputable def f11_reads_j57 (v1_j57 : Int32) (v2_j57 : Int32) (v3_j57 : Int32) (s11_j57 : OS) : Option ((Int32 × OS) ⊕ (Int32 × OS)) := Option.bind (f11_here s11_j57) fun q_62 => nm (((((10 : Int32) * v3_j57) + q_62) - (48 : Int32))) fun n_69 => nm (wI s11_j57 0 43 (((s11_j57.1 0 43) + (1 : Int32)))) fun s11_77 => some (Sum.inl (n_69, s11_77))
noncomputable def f11_reads_l23 (v1_i23 : Int32) (v2_i23 : Int32) : Int32 × OS → Option ((Int32 × OS) ⊕ (Int32 × OS)) := fun t_23 => Option.bind (f11_isGood t_23.2) fun q_24 => if q_24 = 0 then (Option.map Sum.inr (f11_reads_j83 v1_i23 v2_i23 t_23.1 t_23.2)) else (Option.bind (f11_seesDigit t_23.2) fun q_31 => if q_31 = 0 then (Option.map Sum.inr (f11_reads_j83 v1_i23 v2_i23 t_23.1 t_23.2)) else (if (t_23.2.1 0 43) = (v2_i23 + (6 : Int32)) then (Option.bind (f11_wrongs ((2 : Int32)) ((t_23.2.1 0 43)) t_23.2) fun q_54 => f11_reads_j57 v1_i23 v2_i23 t_23.1 q_54) else (f11_reads_j57 v1_i23 v2_i23 t_23.1 t_23.2)))
noncomputable def f11_reads_j23 (v1_j23 : Int32) (v2_j23 : Int32) (v3_j23 : Int32) (s11_j23 : OS) : Option (Int32 × OS) := loop (f11_reads_l23 v1_j23 v2_j23) (v3_j23, s11_j23)
noncomputable def f11_reads (a1 : Int32) (s11 : OS) : Option (Int32 × OS) := nm ((s11.1 0 43)) fun n_4 => Option.bind (f11_seesDigit s11) fun q_8 => if q_8 = 0 then (Option.bind (f11_wrongs ((1 : Int32)) ((s11.1 0 43)) s11) fun q_20 => f11_reads_j23 a1 n_4 ((0 : Int32)) q_20) else (f11_reads_j23 a1 n_4 ((0 : Int32)) s11)
set_option maxHeartbeats 4000000 in
set_option maxRecDepth 100000 in
theorem m11_reads (l : Launch) (D : va_G) (ad : Nat → Nat) (cy : Nat → ClassId) (sz : Nat) (s11 : OS) (a1 : Int32) (r : Int32 × OS) (h : f11_reads a1 s11 = some r) : Met l yX11_reads (wsOf yX11_reads cX11_reads 4 (some .int)) (rmL 2) (va_Pc ([.ref (ad 0), .int a1] : List Value) (PreG D cy (cellsM ad cy s11) sz NM)) (QcI D ad 66 (cellsM ad cy r.2) (r.1) sz) 0 0 (Afr ad 66 sz) := by
  refine metG (own := RX11) (by decide) rfl (Nat.le_of_ble_eq_true rfl) fstM ?_ sz
  intro p e s m below meth c ls C0 hw hl
  obtain ⟨hx, hb, hml, hown, hts, hr, hlk, hK, hN⟩ := C0
  have hl : lv_has ls 4 [(0, .ref (ad 0)), (1, .int a1)] := hl
  generalize hQ : MQ below (QcI D ad 66 (cellsM ad cy r.2) (r.1) s.heap.size) ([.ref (ad 0), .int a1] : List Value).toArray s 0 0 (Afr ad 66 s.heap.size) = Q
  obtain ⟨H, hH⟩ : ∃ H : Heap, H = s.heap := ⟨_, rfl⟩
  obtain ⟨locs, hlc⟩ : ∃ L : List Loc, L = [] := ⟨_, rfl⟩
  have hw : Wd D (cellsM ad cy s11) (Afr ad 66 s.heap.size) s.heap H locs := by rw [hH, hlc]; exact hw
  suffices h0 : W p l e (rmL 2) s m ([.ref (ad 0), .int a1] : List Value).toArray below meth c H locs 0 0 Q (F0 m 0 ls []) by rw [hH, hlc] at h0; exact h0
  clear hH hlc
  unfold f11_reads at h
  have hJ_94 : ∀ (v3_j94 : Int32) (s11_j94 : OS) (H : Heap) (locs : List Loc) (ls : Array Slot), f11_reads_j94 v3_j94 s11_j94 = some r → Wd D (cellsM ad cy s11_j94) (Afr ad 66 s.heap.size) s.heap H locs → lv_has ls 4 [(3, .int v3_j94)] → W p l e (rmL 2) s m ([.ref (ad 0), .int a1] : List Value).toArray below meth c H locs 0 0 Q (F0 m 94 ls []) := by
    intro v3_j94 s11_j94 H locs ls h hw hl
    unfold f11_reads_j94 at h
    refine lv_iload_n hx hb dX11_reads_94 rfl (lv_at hl 0 rfl) ?_
    have h := Option.some.inj h
    subst h
    rw [← hQ]
    exact retI hx hb hr hlk hw rfl dX11_reads_95
  have hJ_83 : ∀ (v1_j83 : Int32) (v2_j83 : Int32) (v3_j83 : Int32) (s11_j83 : OS) (H : Heap) (locs : List Loc) (ls : Array Slot), f11_reads_j83 v1_j83 v2_j83 v3_j83 s11_j83 = some r → Wd D (cellsM ad cy s11_j83) (Afr ad 66 s.heap.size) s.heap H locs → lv_has ls 4 [(0, .ref (ad 0)), (1, .int v1_j83), (2, .int v2_j83), (3, .int v3_j83)] → W p l e (rmL 2) s m ([.ref (ad 0), .int a1] : List Value).toArray below meth c H locs 0 0 Q (F0 m 83 ls []) := by
    intro v1_j83 v2_j83 v3_j83 s11_j83 H locs ls h hw hl
    unfold f11_reads_j83 at h
    refine lv_iload_n hx hb dX11_reads_83 rfl (lv_at hl 3 rfl) ?_
    refine lv_iload_n hx hb dX11_reads_84 rfl (lv_at hl 1 rfl) ?_
    refine lv_icmp_le (tgt := 94) hx hb dX11_reads_85 (by decide) (fun c_85 => ?_) (fun c_85 => ?_)
    · have h := ite_t c_85 h
      exact hJ_94 v3_j83 s11_j83 H locs ls h hw (lv_sub hl [3] rfl)
    · have h := ite_f c_85 h
      refine lv_aload_n hx hb dX11_reads_88 rfl (lv_at hl 0 rfl) ?_
      refine lv_iconst (v := 3) hx hb dX11_reads_89 (by decide) ?_
      refine lv_iload_n hx hb dX11_reads_90 rfl (lv_at hl 2 rfl) ?_
      obtain ⟨q_91, h_91, h⟩ := bnd_e h
      have pg_91 := preG (av := [.ref (ad 0), .int ((3 : Int32)), .int v2_j83]) hK hw.1 hw.2.1 NM_keep NM_blind
      refine endV (mc := 0) (ms := 0) (va_runV (As := [.int ((3 : Int32)), .int v2_j83]) (rest := []) ⟨hx, hb, hml, hown, hts⟩ (m11_wrongs l D ad cy H.size s11_j83 ((3 : Int32)) v2_j83 q_91 h_91) (wX11_310 0 hts ⟨Nat.le_of_ble_eq_true rfl, Nat.le_of_ble_eq_true rfl⟩) ⟨pg_91.1, va_recv hK hw.1 (ci := 11) (q0 := 0) rfl eM_0, pg_91.2⟩ rfl rfl hl.1 rfl (lv_room (Nat.le_of_ble_eq_true rfl)) dX11_reads_91 ⟨Nat.le_refl _, Nat.le_refl _⟩) hw.2.2 (afr_in hw.2.2) (fun H locs hw => ?_)
      exact hJ_94 v3_j83 q_91 H locs ls h hw (lv_sub hl [3] rfl)
  have hJ_23 : ∀ (v1_j23 : Int32) (v2_j23 : Int32) (v3_j23 : Int32) (s11_j23 : OS) (H : Heap) (locs : List Loc) (ls : Array Slot), f11_reads_j23 v1_j23 v2_j23 v3_j23 s11_j23 = some r → Wd D (cellsM ad cy s11_j23) (Afr ad 66 s.heap.size) s.heap H locs → lv_has ls 4 [(0, .ref (ad 0)), (1, .int v1_j23), (2, .int v2_j23), (3, .int v3_j23)] → W p l e (rmL 2) s m ([.ref (ad 0), .int a1] : List Value).toArray below meth c H locs 0 0 Q (F0 m 23 ls []) := by
    intro v1_j23 v2_j23 v3_j23 s11_j23 H locs ls h hw hl
    unfold f11_reads_j23 at h
    obtain ⟨n_23, hn_23⟩ := loop_e h
    have hL_23 : ∀ (n : Nat) (t_23 : Int32 × OS) (H : Heap) (locs : List Loc) (ls : Array Slot), loopN (f11_reads_l23 v1_j23 v2_j23) n t_23 = some r → Wd D (cellsM ad cy t_23.2) (Afr ad 66 s.heap.size) s.heap H locs → lv_has ls 4 [(3, .int t_23.1), (1, .int v1_j23), (2, .int v2_j23), (0, .ref (ad 0))] → W p l e (rmL 2) s m ([.ref (ad 0), .int a1] : List Value).toArray below meth c H locs 0 0 Q (F0 m 23 ls []) := by
      intro n
      induction n with
      | zero => intro t_23 H locs ls hn; cases hn
      | succ n ih_23 =>
        intro t_23 H locs ls hn hw hl
        obtain ⟨x_23, h, hx_23⟩ := loopN_e hn
        unfold f11_reads_l23 at h
        have hJ_57 : ∀ (v3_j57 : Int32) (s11_j57 : OS) (H : Heap) (locs : List Loc) (ls : Array Slot), f11_reads_j57 v1_j23 v2_j23 v3_j57 s11_j57 = some x_23 → Wd D (cellsM ad cy s11_j57) (Afr ad 66 s.heap.size) s.heap H locs → lv_has ls 4 [(0, .ref (ad 0)), (1, .int v1_j23), (2, .int v2_j23), (3, .int v3_j57)] → W p l e (rmL 2) s m ([.ref (ad 0), .int a1] : List Value).toArray below meth c H locs 0 0 Q (F0 m 57 ls []) := by
          intro v3_j57 s11_j57 H locs ls h hw hl
          unfold f11_reads_j57 at h
          refine lv_bipush (v := 10) hx hb dX11_reads_57 (by decide) ?_
          refine lv_iload_n hx hb dX11_reads_59 rfl (lv_at hl 3 rfl) ?_
          refine lv_imul hx hb dX11_reads_60 ?_
          refine lv_aload_n hx hb dX11_reads_61 rfl (lv_at hl 0 rfl) ?_
          obtain ⟨q_62, h_62, h⟩ := bnd_e h
          have pg_62 := preG (av := [.ref (ad 0)]) hK hw.1 hw.2.1 NM_keep NM_blind
          refine endI (mc := 0) (ms := 0) (va_runV (As := []) (rest := [.int (((10 : Int32) * v3_j57))]) ⟨hx, hb, hml, hown, hts⟩ (m11_here l D ad cy H.size s11_j57 q_62 h_62) (wX11_314 0 hts ⟨Nat.le_of_ble_eq_true rfl, Nat.le_of_ble_eq_true rfl⟩) ⟨pg_62.1, va_recv hK hw.1 (ci := 11) (q0 := 0) rfl eM_0, pg_62.2⟩ rfl rfl hl.1 rfl (lv_room (Nat.le_of_ble_eq_true rfl)) dX11_reads_62 ⟨Nat.le_refl _, Nat.le_refl _⟩) hw.2.2 (afr_in hw.2.2) (fun H locs hw => ?_)
          refine lv_iadd hx hb dX11_reads_65 ?_
          refine lv_bipush (v := 48) hx hb dX11_reads_66 (by decide) ?_
          refine lv_isub hx hb dX11_reads_68 ?_
          obtain ⟨n_69, e_69, h⟩ := nam_e h
          refine topI e_69 ?_
          refine lv_istore_n (lv' := [(3, .int n_69), (0, .ref (ad 0)), (1, .int v1_j23), (2, .int v2_j23)]) hx hb dX11_reads_69 rfl hl (by decide) rfl (fun ls hl => ?_)
          refine lv_aload_n hx hb dX11_reads_70 rfl (lv_at hl 1 rfl) ?_
          refine lv_dup hx hb dX11_reads_71 rfl ?_
          refine gX11_285 hx hb hts hown hK hw dX11_reads_72 ?_
          refine lv_iconst (v := 1) hx hb dX11_reads_75 (by decide) ?_
          refine lv_iadd hx hb dX11_reads_76 ?_
          obtain ⟨s11_77, e_77, h⟩ := nam_e h
          refine pX11_285 hx hb hts hown hK hw e_77 dX11_reads_77 (fun H locs hw => ?_)
          refine lv_goto (tgt := 23) hx hb dX11_reads_80 (by decide) ?_
          exact ih_23 (n_69, s11_77) H locs ls (nx_l hx_23 h) hw (lv_sub hl [0, 2, 3, 1] rfl)
        refine lv_aload_n hx hb dX11_reads_23 rfl (lv_at hl 3 rfl) ?_
        obtain ⟨q_24, h_24, h⟩ := bnd_e h
        have pg_24 := preG (av := [.ref (ad 0)]) hK hw.1 hw.2.1 NM_keep NM_blind
        refine endI (mc := 0) (ms := 0) (va_runV (As := []) (rest := []) ⟨hx, hb, hml, hown, hts⟩ (m11_isGood l D ad cy H.size t_23.2 q_24 h_24) (wX11_294 0 hts ⟨Nat.le_of_ble_eq_true rfl, Nat.le_of_ble_eq_true rfl⟩) ⟨pg_24.1, va_recv hK hw.1 (ci := 11) (q0 := 0) rfl eM_0, pg_24.2⟩ rfl rfl hl.1 rfl (lv_room (Nat.le_of_ble_eq_true rfl)) dX11_reads_24 ⟨Nat.le_refl _, Nat.le_refl _⟩) hw.2.2 (afr_in hw.2.2) (fun H locs hw => ?_)
        refine lv_if_eq (tgt := 83) hx hb dX11_reads_27 (by decide) (fun c_27 => ?_) (fun c_27 => ?_)
        · have h := ite_t c_27 h
          have h := nx_m hx_23 h
          exact hJ_83 v1_j23 v2_j23 t_23.1 t_23.2 H locs ls h hw (lv_sub hl [3, 1, 2, 0] rfl)
        · have h := ite_f c_27 h
          refine lv_aload_n hx hb dX11_reads_30 rfl (lv_at hl 3 rfl) ?_
          obtain ⟨q_31, h_31, h⟩ := bnd_e h
          have pg_31 := preG (av := [.ref (ad 0)]) hK hw.1 hw.2.1 NM_keep NM_blind
          refine endI (mc := 0) (ms := 0) (va_runV (As := []) (rest := []) ⟨hx, hb, hml, hown, hts⟩ (m11_seesDigit l D ad cy H.size t_23.2 q_31 h_31) (wX11_325 1 hts ⟨Nat.le_of_ble_eq_true rfl, Nat.le_of_ble_eq_true rfl⟩) ⟨pg_31.1, va_recv hK hw.1 (ci := 11) (q0 := 0) rfl eM_0, pg_31.2⟩ rfl rfl hl.1 rfl (lv_room (Nat.le_of_ble_eq_true rfl)) dX11_reads_31 ⟨Nat.le_refl _, Nat.le_refl _⟩) hw.2.2 (afr_in hw.2.2) (fun H locs hw => ?_)
          refine lv_if_eq (tgt := 83) hx hb dX11_reads_34 (by decide) (fun c_34 => ?_) (fun c_34 => ?_)
          · have h := ite_t c_34 h
            have h := nx_m hx_23 h
            exact hJ_83 v1_j23 v2_j23 t_23.1 t_23.2 H locs ls h hw (lv_sub hl [3, 1, 2, 0] rfl)
          · have h := ite_f c_34 h
            refine lv_aload_n hx hb dX11_reads_37 rfl (lv_at hl 3 rfl) ?_
            refine gX11_285 hx hb hts hown hK hw dX11_reads_38 ?_
            refine lv_iload_n hx hb dX11_reads_41 rfl (lv_at hl 2 rfl) ?_
            refine lv_bipush (v := 6) hx hb dX11_reads_42 (by decide) ?_
            refine lv_iadd hx hb dX11_reads_44 ?_
            refine lv_icmp_ne (tgt := 57) hx hb dX11_reads_45 (by decide) (fun c_45 => ?_) (fun c_45 => ?_)
            · have h := ite_f c_45 h
              exact hJ_57 t_23.1 t_23.2 H locs ls h hw (lv_sub hl [3, 1, 2, 0] rfl)
            · have h := ite_t c_45 h
              refine lv_aload_n hx hb dX11_reads_48 rfl (lv_at hl 3 rfl) ?_
              refine lv_iconst (v := 2) hx hb dX11_reads_49 (by decide) ?_
              refine lv_aload_n hx hb dX11_reads_50 rfl (lv_at hl 3 rfl) ?_
              refine gX11_285 hx hb hts hown hK hw dX11_reads_51 ?_
              obtain ⟨q_54, h_54, h⟩ := bnd_e h
              have pg_54 := preG (av := [.ref (ad 0), .int ((2 : Int32)), .int ((t_23.2.1 0 43))]) hK hw.1 hw.2.1 NM_keep NM_blind
              refine endV (mc := 0) (ms := 0) (va_runV (As := [.int ((2 : Int32)), .int ((t_23.2.1 0 43))]) (rest := []) ⟨hx, hb, hml, hown, hts⟩ (m11_wrongs l D ad cy H.size t_23.2 ((2 : Int32)) ((t_23.2.1 0 43)) q_54 h_54) (wX11_310 0 hts ⟨Nat.le_of_ble_eq_true rfl, Nat.le_of_ble_eq_true rfl⟩) ⟨pg_54.1, va_recv hK hw.1 (ci := 11) (q0 := 0) rfl eM_0, pg_54.2⟩ rfl rfl hl.1 rfl (lv_room (Nat.le_of_ble_eq_true rfl)) dX11_reads_54 ⟨Nat.le_refl _, Nat.le_refl _⟩) hw.2.2 (afr_in hw.2.2) (fun H locs hw => ?_)
              exact hJ_57 t_23.1 q_54 H locs ls h hw (lv_sub hl [3, 1, 2, 0] rfl)
    exact hL_23 n_23 (v3_j23, s11_j23) H locs ls hn_23 hw (lv_sub hl [3, 1, 2, 0] rfl)
  refine lv_aload_n hx hb dX11_reads_0 rfl (lv_at hl 0 rfl) ?_
  refine gX11_285 hx hb hts hown hK hw dX11_reads_1 ?_
  obtain ⟨n_4, e_4, h⟩ := nam_e h
  refine topI e_4 ?_
  refine lv_istore_n (lv' := [(2, .int n_4), (0, .ref (ad 0)), (1, .int a1)]) hx hb dX11_reads_4 rfl hl (by decide) rfl (fun ls hl => ?_)
  refine lv_iconst (v := 0) hx hb dX11_reads_5 (by decide) ?_
  refine lv_istore_n (lv' := [(3, .int ((0 : Int32))), (2, .int n_4), (0, .ref (ad 0)), (1, .int a1)]) hx hb dX11_reads_6 rfl hl (by decide) rfl (fun ls hl => ?_)
  refine lv_aload_n hx hb dX11_reads_7 rfl (lv_at hl 2 rfl) ?_
  obtain ⟨q_8, h_8, h⟩ := bnd_e h
  have pg_8 := preG (av := [.ref (ad 0)]) hK hw.1 hw.2.1 NM_keep NM_blind
  refine endI (mc := 0) (ms := 0) (va_runV (As := []) (rest := []) ⟨hx, hb, hml, hown, hts⟩ (m11_seesDigit l D ad cy H.size s11 q_8 h_8) (wX11_325 1 hts ⟨Nat.le_of_ble_eq_true rfl, Nat.le_of_ble_eq_true rfl⟩) ⟨pg_8.1, va_recv hK hw.1 (ci := 11) (q0 := 0) rfl eM_0, pg_8.2⟩ rfl rfl hl.1 rfl (lv_room (Nat.le_of_ble_eq_true rfl)) dX11_reads_8 ⟨Nat.le_refl _, Nat.le_refl _⟩) hw.2.2 (afr_in hw.2.2) (fun H locs hw => ?_)
  refine lv_if_ne (tgt := 23) hx hb dX11_reads_11 (by decide) (fun c_11 => ?_) (fun c_11 => ?_)
  · have h := ite_f c_11 h
    exact hJ_23 a1 n_4 ((0 : Int32)) s11 H locs ls h hw (lv_sub hl [2, 3, 1, 0] rfl)
  · have h := ite_t c_11 h
    refine lv_aload_n hx hb dX11_reads_14 rfl (lv_at hl 2 rfl) ?_
    refine lv_iconst (v := 1) hx hb dX11_reads_15 (by decide) ?_
    refine lv_aload_n hx hb dX11_reads_16 rfl (lv_at hl 2 rfl) ?_
    refine gX11_285 hx hb hts hown hK hw dX11_reads_17 ?_
    obtain ⟨q_20, h_20, h⟩ := bnd_e h
    have pg_20 := preG (av := [.ref (ad 0), .int ((1 : Int32)), .int ((s11.1 0 43))]) hK hw.1 hw.2.1 NM_keep NM_blind
    refine endV (mc := 0) (ms := 0) (va_runV (As := [.int ((1 : Int32)), .int ((s11.1 0 43))]) (rest := []) ⟨hx, hb, hml, hown, hts⟩ (m11_wrongs l D ad cy H.size s11 ((1 : Int32)) ((s11.1 0 43)) q_20 h_20) (wX11_310 0 hts ⟨Nat.le_of_ble_eq_true rfl, Nat.le_of_ble_eq_true rfl⟩) ⟨pg_20.1, va_recv hK hw.1 (ci := 11) (q0 := 0) rfl eM_0, pg_20.2⟩ rfl rfl hl.1 rfl (lv_room (Nat.le_of_ble_eq_true rfl)) dX11_reads_20 ⟨Nat.le_refl _, Nat.le_refl _⟩) hw.2.2 (afr_in hw.2.2) (fun H locs hw => ?_)
    exact hJ_23 a1 n_4 ((0 : Int32)) q_20 H locs ls h hw (lv_sub hl [2, 3, 1, 0] rfl)
