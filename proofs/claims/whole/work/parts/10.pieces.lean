theorem dX4_has_0 : decode cX4_has 0 = .ok (.iload_n 1, 1) := by decide +kernel
theorem dX4_has_1 : decode cX4_has 1 = .ok (.ifCond .lt 22, 3) := by decide +kernel
theorem dX4_has_4 : decode cX4_has 4 = .ok (.iload_n 1, 1) := by decide +kernel
theorem dX4_has_5 : decode cX4_has 5 = .ok (.aload_n 0, 1) := by decide +kernel
theorem dX4_has_6 : decode cX4_has 6 = .ok (.getfield 48, 3) := by decide +kernel
theorem dX4_has_9 : decode cX4_has 9 = .ok (.if_icmp .ge 14, 3) := by decide +kernel
theorem dX4_has_12 : decode cX4_has 12 = .ok (.iload_n 1, 1) := by decide +kernel
theorem dX4_has_13 : decode cX4_has 13 = .ok (.sipush 150, 3) := by decide +kernel
theorem dX4_has_16 : decode cX4_has 16 = .ok (.if_icmp .ge 7, 3) := by decide +kernel
theorem dX4_has_19 : decode cX4_has 19 = .ok (.iconst 1, 1) := by decide +kernel
theorem dX4_has_20 : decode cX4_has 20 = .ok (.goto 4, 3) := by decide +kernel
theorem dX4_has_23 : decode cX4_has 23 = .ok (.iconst 0, 1) := by decide +kernel
theorem dX4_has_24 : decode cX4_has 24 = .ok (.ireturn, 1) := by decide +kernel
def f4_has_j24 (k0_j24 : Int32) (s4_j24 : OS) : Option (Int32) := chk (isB k0_j24) (some k0_j24)
def f4_has_j23 (s4_j23 : OS) : Option (Int32) := f4_has_j24 ((0 : Int32)) s4_j23
def f4_has (a1 : Int32) (s4 : OS) : Option (Int32) := if a1 < 0 then (f4_has_j23 s4) else (if (s4.1 0 10) ≤ a1 then (f4_has_j23 s4) else (if (150 : Int32) ≤ a1 then (f4_has_j23 s4) else (f4_has_j24 ((1 : Int32)) s4)))
set_option maxHeartbeats 4000000 in
set_option maxRecDepth 100000 in
theorem m4_has (l : Launch) (D : va_G) (ad : Nat → Nat) (cy : Nat → ClassId) (sz : Nat) (s0 s1 s2 s3 s4 s5 s6 s7 s8 s9 s10 : OS) (a1 : Int32) (r : Int32) (h : f4_has a1 s4 = some r) : Met l yX4_has (wsOf yX4_has cX4_has 2 (some .boolean)) (rmL 0) (va_Pc ([.ref (ad 4), .int a1] : List Value) (PreG D cy (cellsC ad cy s0 s1 s2 s3 s4 s5 s6 s7 s8 s9 s10) sz (NC ad))) (QcI D ad 67 (cellsC ad cy s0 s1 s2 s3 s4 s5 s6 s7 s8 s9 s10) (r) sz) 0 0 (Afr ad 67 sz) := by
  refine metG (own := RX4) (by decide) rfl (Nat.le_of_ble_eq_true rfl) fstC ?_ sz
  intro p e s m below meth c ls C0 hw hl
  obtain ⟨hx, hb, hml, hown, hts, hr, hlk, hK, hN⟩ := C0
  have hl : lv_has ls 2 [(0, .ref (ad 4)), (1, .int a1)] := hl
  generalize hQ : MQ below (QcI D ad 67 (cellsC ad cy s0 s1 s2 s3 s4 s5 s6 s7 s8 s9 s10) (r) s.heap.size) ([.ref (ad 4), .int a1] : List Value).toArray s 0 0 (Afr ad 67 s.heap.size) = Q
  obtain ⟨H, hH⟩ : ∃ H : Heap, H = s.heap := ⟨_, rfl⟩
  obtain ⟨locs, hlc⟩ : ∃ L : List Loc, L = [] := ⟨_, rfl⟩
  have hw : Wd D (cellsC ad cy s0 s1 s2 s3 s4 s5 s6 s7 s8 s9 s10) (Afr ad 67 s.heap.size) s.heap H locs := by rw [hH, hlc]; exact hw
  suffices h0 : W p l e (rmL 0) s m ([.ref (ad 4), .int a1] : List Value).toArray below meth c H locs 0 0 Q (F0 m 0 ls []) by rw [hH, hlc] at h0; exact h0
  clear hH hlc
  unfold f4_has at h
  have hJ_24 : ∀ (k0_j24 : Int32) (H : Heap) (locs : List Loc) (ls : Array Slot), f4_has_j24 k0_j24 s4 = some r → Wd D (cellsC ad cy s0 s1 s2 s3 s4 s5 s6 s7 s8 s9 s10) (Afr ad 67 s.heap.size) s.heap H locs → lv_has ls 2 [] → W p l e (rmL 0) s m ([.ref (ad 4), .int a1] : List Value).toArray below meth c H locs 0 0 Q (F0 m 24 ls [.int k0_j24]) := by
    intro k0_j24 H locs ls h hw hl
    unfold f4_has_j24 at h
    obtain ⟨hz_24, h⟩ := chk_e h
    have h := Option.some.inj h
    subst h
    rw [← hQ]
    exact retI hx hb hr hlk hw (narB hz_24) dX4_has_24
  have hJ_23 : ∀  (H : Heap) (locs : List Loc) (ls : Array Slot), f4_has_j23 s4 = some r → Wd D (cellsC ad cy s0 s1 s2 s3 s4 s5 s6 s7 s8 s9 s10) (Afr ad 67 s.heap.size) s.heap H locs → lv_has ls 2 [] → W p l e (rmL 0) s m ([.ref (ad 4), .int a1] : List Value).toArray below meth c H locs 0 0 Q (F0 m 23 ls []) := by
    intro  H locs ls h hw hl
    unfold f4_has_j23 at h
    refine lv_iconst (v := 0) hx hb dX4_has_23 (by decide) ?_
    exact hJ_24 ((0 : Int32)) H locs ls h hw (lv_sub hl [] rfl)
  refine lv_iload_n hx hb dX4_has_0 rfl (lv_at hl 1 rfl) ?_
  refine lv_if_lt (tgt := 23) hx hb dX4_has_1 (by decide) (fun c_1 => ?_) (fun c_1 => ?_)
  · have h := ite_t c_1 h
    exact hJ_23  H locs ls h hw (lv_sub hl [] rfl)
  · have h := ite_f c_1 h
    refine lv_iload_n hx hb dX4_has_4 rfl (lv_at hl 1 rfl) ?_
    refine lv_aload_n hx hb dX4_has_5 rfl (lv_at hl 0 rfl) ?_
    refine gX4_48 hx hb hts hown hK hw dX4_has_6 ?_
    refine lv_icmp_ge (tgt := 23) hx hb dX4_has_9 (by decide) (fun c_9 => ?_) (fun c_9 => ?_)
    · have h := ite_t c_9 h
      exact hJ_23  H locs ls h hw (lv_sub hl [] rfl)
    · have h := ite_f c_9 h
      refine lv_iload_n hx hb dX4_has_12 rfl (lv_at hl 1 rfl) ?_
      refine lv_sipush (v := 150) hx hb dX4_has_13 (by decide) ?_
      refine lv_icmp_ge (tgt := 23) hx hb dX4_has_16 (by decide) (fun c_16 => ?_) (fun c_16 => ?_)
      · have h := ite_t c_16 h
        exact hJ_23  H locs ls h hw (lv_sub hl [] rfl)
      · have h := ite_f c_16 h
        refine lv_iconst (v := 1) hx hb dX4_has_19 (by decide) ?_
        refine lv_goto (tgt := 24) hx hb dX4_has_20 (by decide) ?_
        exact hJ_24 ((1 : Int32)) H locs ls h hw (lv_sub hl [] rfl)
theorem dX4_placeOf_0 : decode cX4_placeOf 0 = .ok (.aload_n 0, 1) := by decide +kernel
theorem dX4_placeOf_1 : decode cX4_placeOf 1 = .ok (.iload_n 1, 1) := by decide +kernel
theorem dX4_placeOf_2 : decode cX4_placeOf 2 = .ok (.invokevirtual 52, 3) := by decide +kernel
theorem dX4_placeOf_5 : decode cX4_placeOf 5 = .ok (.ifCond .eq 12, 3) := by decide +kernel
theorem dX4_placeOf_8 : decode cX4_placeOf 8 = .ok (.aload_n 0, 1) := by decide +kernel
theorem dX4_placeOf_9 : decode cX4_placeOf 9 = .ok (.getfield 24, 3) := by decide +kernel
theorem dX4_placeOf_12 : decode cX4_placeOf 12 = .ok (.iload_n 1, 1) := by decide +kernel
theorem dX4_placeOf_13 : decode cX4_placeOf 13 = .ok (.iaload, 1) := by decide +kernel
theorem dX4_placeOf_14 : decode cX4_placeOf 14 = .ok (.goto 4, 3) := by decide +kernel
theorem dX4_placeOf_17 : decode cX4_placeOf 17 = .ok (.iconst (-1), 1) := by decide +kernel
theorem dX4_placeOf_18 : decode cX4_placeOf 18 = .ok (.ireturn, 1) := by decide +kernel
def f4_placeOf_j18 (k0_j18 : Int32) (s4_j18 : OS) : Option (Int32) := some k0_j18
def f4_placeOf (a1 : Int32) (s4 : OS) : Option (Int32) := Option.bind (f4_has a1 s4) fun q_2 => if q_2 = 0 then (f4_placeOf_j18 ((-1 : Int32)) s4) else (chk (inb a1 150) (nm (s4.1 5 a1.toNatClampNeg) fun y_13 => f4_placeOf_j18 y_13 s4))
set_option maxHeartbeats 4000000 in
set_option maxRecDepth 100000 in
theorem m4_placeOf (l : Launch) (D : va_G) (ad : Nat → Nat) (cy : Nat → ClassId) (sz : Nat) (s0 s1 s2 s3 s4 s5 s6 s7 s8 s9 s10 : OS) (a1 : Int32) (r : Int32) (h : f4_placeOf a1 s4 = some r) : Met l yX4_placeOf (wsOf yX4_placeOf cX4_placeOf 2 (some .int)) (rmL 1) (va_Pc ([.ref (ad 4), .int a1] : List Value) (PreG D cy (cellsC ad cy s0 s1 s2 s3 s4 s5 s6 s7 s8 s9 s10) sz (NC ad))) (QcI D ad 67 (cellsC ad cy s0 s1 s2 s3 s4 s5 s6 s7 s8 s9 s10) (r) sz) 0 0 (Afr ad 67 sz) := by
  refine metG (own := RX4) (by decide) rfl (Nat.le_of_ble_eq_true rfl) fstC ?_ sz
  intro p e s m below meth c ls C0 hw hl
  obtain ⟨hx, hb, hml, hown, hts, hr, hlk, hK, hN⟩ := C0
  have hl : lv_has ls 2 [(0, .ref (ad 4)), (1, .int a1)] := hl
  generalize hQ : MQ below (QcI D ad 67 (cellsC ad cy s0 s1 s2 s3 s4 s5 s6 s7 s8 s9 s10) (r) s.heap.size) ([.ref (ad 4), .int a1] : List Value).toArray s 0 0 (Afr ad 67 s.heap.size) = Q
  obtain ⟨H, hH⟩ : ∃ H : Heap, H = s.heap := ⟨_, rfl⟩
  obtain ⟨locs, hlc⟩ : ∃ L : List Loc, L = [] := ⟨_, rfl⟩
  have hw : Wd D (cellsC ad cy s0 s1 s2 s3 s4 s5 s6 s7 s8 s9 s10) (Afr ad 67 s.heap.size) s.heap H locs := by rw [hH, hlc]; exact hw
  suffices h0 : W p l e (rmL 1) s m ([.ref (ad 4), .int a1] : List Value).toArray below meth c H locs 0 0 Q (F0 m 0 ls []) by rw [hH, hlc] at h0; exact h0
  clear hH hlc
  unfold f4_placeOf at h
  have hJ_18 : ∀ (k0_j18 : Int32) (H : Heap) (locs : List Loc) (ls : Array Slot), f4_placeOf_j18 k0_j18 s4 = some r → Wd D (cellsC ad cy s0 s1 s2 s3 s4 s5 s6 s7 s8 s9 s10) (Afr ad 67 s.heap.size) s.heap H locs → lv_has ls 2 [] → W p l e (rmL 1) s m ([.ref (ad 4), .int a1] : List Value).toArray below meth c H locs 0 0 Q (F0 m 18 ls [.int k0_j18]) := by
    intro k0_j18 H locs ls h hw hl
    unfold f4_placeOf_j18 at h
    have h := Option.some.inj h
    subst h
    rw [← hQ]
    exact retI hx hb hr hlk hw rfl dX4_placeOf_18
  refine lv_aload_n hx hb dX4_placeOf_0 rfl (lv_at hl 0 rfl) ?_
  refine lv_iload_n hx hb dX4_placeOf_1 rfl (lv_at hl 1 rfl) ?_
  obtain ⟨q_2, h_2, h⟩ := bnd_e h
  have pg_2 := preG (av := [.ref (ad 4), .int a1]) hK hw.1 hw.2.1 (NC_keep hN hw.2.2) NC_blind
  refine endI (mc := 0) (ms := 0) (va_runV (As := [.int a1]) (rest := []) ⟨hx, hb, hml, hown, hts⟩ (m4_has l D ad cy H.size s0 s1 s2 s3 s4 s5 s6 s7 s8 s9 s10 a1 q_2 h_2) (wX4_52 0 hts ⟨Nat.le_of_ble_eq_true rfl, Nat.le_of_ble_eq_true rfl⟩) ⟨pg_2.1, va_recv hK hw.1 (ci := 4) (q0 := 4) rfl eC_4, pg_2.2⟩ rfl rfl hl.1 rfl (lv_room (Nat.le_of_ble_eq_true rfl)) dX4_placeOf_2 ⟨Nat.le_refl _, Nat.le_refl _⟩) hw.2.2 (afr_in hw.2.2) (fun H locs hw => ?_)
  refine lv_if_eq (tgt := 17) hx hb dX4_placeOf_5 (by decide) (fun c_5 => ?_) (fun c_5 => ?_)
  · have h := ite_t c_5 h
    refine lv_iconst (v := (-1)) hx hb dX4_placeOf_17 (by decide) ?_
    exact hJ_18 ((-1 : Int32)) H locs ls h hw (lv_sub hl [] rfl)
  · have h := ite_f c_5 h
    refine lv_aload_n hx hb dX4_placeOf_8 rfl (lv_at hl 0 rfl) ?_
    refine gX4_24 hx hb hts hown hK hw dX4_placeOf_9 ?_
    refine lv_iload_n hx hb dX4_placeOf_12 rfl (lv_at hl 1 rfl) ?_
    obtain ⟨hi_13, h⟩ := chk_e h
    obtain ⟨y_13, e_13, h⟩ := nam_e h
    refine lC40 hx hb hK hw hi_13 e_13 dX4_placeOf_13 ?_
    refine lv_goto (tgt := 18) hx hb dX4_placeOf_14 (by decide) ?_
    exact hJ_18 y_13 H locs ls h hw (lv_sub hl [] rfl)
theorem dX4_change_0 : decode cX4_change 0 = .ok (.aload_n 0, 1) := by decide +kernel
theorem dX4_change_1 : decode cX4_change 1 = .ok (.iload_n 1, 1) := by decide +kernel
theorem dX4_change_2 : decode cX4_change 2 = .ok (.invokevirtual 52, 3) := by decide +kernel
theorem dX4_change_5 : decode cX4_change 5 = .ok (.ifCond .ne 4, 3) := by decide +kernel
theorem dX4_change_8 : decode cX4_change 8 = .ok (.return_, 1) := by decide +kernel
theorem dX4_change_9 : decode cX4_change 9 = .ok (.aload_n 0, 1) := by decide +kernel
theorem dX4_change_10 : decode cX4_change 10 = .ok (.getfield 18, 3) := by decide +kernel
theorem dX4_change_13 : decode cX4_change 13 = .ok (.iload_n 1, 1) := by decide +kernel
theorem dX4_change_14 : decode cX4_change 14 = .ok (.iload_n 2, 1) := by decide +kernel
theorem dX4_change_15 : decode cX4_change 15 = .ok (.iastore, 1) := by decide +kernel
theorem dX4_change_16 : decode cX4_change 16 = .ok (.aload_n 0, 1) := by decide +kernel
theorem dX4_change_17 : decode cX4_change 17 = .ok (.getfield 21, 3) := by decide +kernel
theorem dX4_change_20 : decode cX4_change 20 = .ok (.iload_n 1, 1) := by decide +kernel
theorem dX4_change_21 : decode cX4_change 21 = .ok (.dup2, 1) := by decide +kernel
theorem dX4_change_22 : decode cX4_change 22 = .ok (.iaload, 1) := by decide +kernel
theorem dX4_change_23 : decode cX4_change 23 = .ok (.iload_n 3, 1) := by decide +kernel
theorem dX4_change_24 : decode cX4_change 24 = .ok (.ior, 1) := by decide +kernel
theorem dX4_change_25 : decode cX4_change 25 = .ok (.iastore, 1) := by decide +kernel
theorem dX4_change_26 : decode cX4_change 26 = .ok (.aload_n 0, 1) := by decide +kernel
theorem dX4_change_27 : decode cX4_change 27 = .ok (.getfield 24, 3) := by decide +kernel
theorem dX4_change_30 : decode cX4_change 30 = .ok (.iload_n 1, 1) := by decide +kernel
theorem dX4_change_31 : decode cX4_change 31 = .ok (.iload 4, 2) := by decide +kernel
theorem dX4_change_33 : decode cX4_change 33 = .ok (.iastore, 1) := by decide +kernel
theorem dX4_change_34 : decode cX4_change 34 = .ok (.aload_n 0, 1) := by decide +kernel
theorem dX4_change_35 : decode cX4_change 35 = .ok (.getfield 44, 3) := by decide +kernel
theorem dX4_change_38 : decode cX4_change 38 = .ok (.iload_n 1, 1) := by decide +kernel
theorem dX4_change_39 : decode cX4_change 39 = .ok (.iload 5, 2) := by decide +kernel
theorem dX4_change_41 : decode cX4_change 41 = .ok (.iload_n 2, 1) := by decide +kernel
theorem dX4_change_42 : decode cX4_change 42 = .ok (.aload_n 0, 1) := by decide +kernel
theorem dX4_change_43 : decode cX4_change 43 = .ok (.getfield 21, 3) := by decide +kernel
theorem dX4_change_46 : decode cX4_change 46 = .ok (.iload_n 1, 1) := by decide +kernel
theorem dX4_change_47 : decode cX4_change 47 = .ok (.iaload, 1) := by decide +kernel
theorem dX4_change_48 : decode cX4_change 48 = .ok (.iload 4, 2) := by decide +kernel
theorem dX4_change_50 : decode cX4_change 50 = .ok (.invokevirtual 70, 3) := by decide +kernel
theorem dX4_change_53 : decode cX4_change 53 = .ok (.return_, 1) := by decide +kernel
def f4_change (a1 : Int32) (a2 : Int32) (a3 : Int32) (a4 : Int32) (a5 : Int32) (s1 : OS) (s4 : OS) : Option (OS × OS) := Option.bind (f4_has a1 s4) fun q_2 => if q_2 = 0 then (some (s1, s4)) else (chk (inb a1 150) (nm (wI s4 3 a1.toNatClampNeg a2) fun s4_15 => chk (inb a1 150) (nm (s4_15.1 4 a1.toNatClampNeg) fun y_22 => chk (inb a1 150) (nm (wI s4_15 4 a1.toNatClampNeg ((y_22 ||| a3))) fun s4_25 => chk (inb a1 150) (nm (wI s4_25 5 a1.toNatClampNeg a4) fun s4_33 => chk (inb a1 150) (nm (s4_33.1 4 a1.toNatClampNeg) fun y_47 => Option.bind (f1_write a1 a5 a2 y_47 a4 s1) fun q_50 => some (q_50, s4_33)))))))
set_option maxHeartbeats 4000000 in
set_option maxRecDepth 100000 in
theorem m4_change (l : Launch) (D : va_G) (ad : Nat → Nat) (cy : Nat → ClassId) (sz : Nat) (s0 s1 s2 s3 s4 s5 s6 s7 s8 s9 s10 : OS) (a1 : Int32) (a2 : Int32) (a3 : Int32) (a4 : Int32) (a5 : Int32) (r : OS × OS) (h : f4_change a1 a2 a3 a4 a5 s1 s4 = some r) : Met l yX4_change (wsOf yX4_change cX4_change 6 none) (rmL 1) (va_Pc ([.ref (ad 4), .int a1, .int a2, .int a3, .int a4, .int a5] : List Value) (PreG D cy (cellsC ad cy s0 s1 s2 s3 s4 s5 s6 s7 s8 s9 s10) sz (NC ad))) (QcV D ad 67 (cellsC ad cy s0 r.1 s2 s3 r.2 s5 s6 s7 s8 s9 s10) sz) 0 0 (Afr ad 67 sz) := by
  refine metG (own := RX4) (by decide) rfl (Nat.le_of_ble_eq_true rfl) fstC ?_ sz
  intro p e s m below meth c ls C0 hw hl
  obtain ⟨hx, hb, hml, hown, hts, hr, hlk, hK, hN⟩ := C0
  have hl : lv_has ls 6 [(0, .ref (ad 4)), (1, .int a1), (2, .int a2), (3, .int a3), (4, .int a4), (5, .int a5)] := hl
  generalize hQ : MQ below (QcV D ad 67 (cellsC ad cy s0 r.1 s2 s3 r.2 s5 s6 s7 s8 s9 s10) s.heap.size) ([.ref (ad 4), .int a1, .int a2, .int a3, .int a4, .int a5] : List Value).toArray s 0 0 (Afr ad 67 s.heap.size) = Q
  obtain ⟨H, hH⟩ : ∃ H : Heap, H = s.heap := ⟨_, rfl⟩
  obtain ⟨locs, hlc⟩ : ∃ L : List Loc, L = [] := ⟨_, rfl⟩
  have hw : Wd D (cellsC ad cy s0 s1 s2 s3 s4 s5 s6 s7 s8 s9 s10) (Afr ad 67 s.heap.size) s.heap H locs := by rw [hH, hlc]; exact hw
  suffices h0 : W p l e (rmL 1) s m ([.ref (ad 4), .int a1, .int a2, .int a3, .int a4, .int a5] : List Value).toArray below meth c H locs 0 0 Q (F0 m 0 ls []) by rw [hH, hlc] at h0; exact h0
  clear hH hlc
  unfold f4_change at h
  refine lv_aload_n hx hb dX4_change_0 rfl (lv_at hl 0 rfl) ?_
  refine lv_iload_n hx hb dX4_change_1 rfl (lv_at hl 1 rfl) ?_
  obtain ⟨q_2, h_2, h⟩ := bnd_e h
  have pg_2 := preG (av := [.ref (ad 4), .int a1]) hK hw.1 hw.2.1 (NC_keep hN hw.2.2) NC_blind
  refine endI (mc := 0) (ms := 0) (va_runV (As := [.int a1]) (rest := []) ⟨hx, hb, hml, hown, hts⟩ (m4_has l D ad cy H.size s0 s1 s2 s3 s4 s5 s6 s7 s8 s9 s10 a1 q_2 h_2) (wX4_52 0 hts ⟨Nat.le_of_ble_eq_true rfl, Nat.le_of_ble_eq_true rfl⟩) ⟨pg_2.1, va_recv hK hw.1 (ci := 4) (q0 := 4) rfl eC_4, pg_2.2⟩ rfl rfl hl.1 rfl (lv_room (Nat.le_of_ble_eq_true rfl)) dX4_change_2 ⟨Nat.le_refl _, Nat.le_refl _⟩) hw.2.2 (afr_in hw.2.2) (fun H locs hw => ?_)
  refine lv_if_ne (tgt := 9) hx hb dX4_change_5 (by decide) (fun c_5 => ?_) (fun c_5 => ?_)
  · have h := ite_f c_5 h
    refine lv_aload_n hx hb dX4_change_9 rfl (lv_at hl 0 rfl) ?_
    refine gX4_18 hx hb hts hown hK hw dX4_change_10 ?_
    refine lv_iload_n hx hb dX4_change_13 rfl (lv_at hl 1 rfl) ?_
    refine lv_iload_n hx hb dX4_change_14 rfl (lv_at hl 2 rfl) ?_
    obtain ⟨hi_15, h⟩ := chk_e h
    obtain ⟨s4_15, e_15, h⟩ := nam_e h
    refine aC38 hx hb hK hw hi_15 e_15 dX4_change_15 (fun H locs hw => ?_)
    refine lv_aload_n hx hb dX4_change_16 rfl (lv_at hl 0 rfl) ?_
    refine gX4_21 hx hb hts hown hK hw dX4_change_17 ?_
    refine lv_iload_n hx hb dX4_change_20 rfl (lv_at hl 1 rfl) ?_
    refine lv_dup2_11 hx hb dX4_change_21 rfl rfl ?_
    obtain ⟨hi_22, h⟩ := chk_e h
    obtain ⟨y_22, e_22, h⟩ := nam_e h
    refine lC39 hx hb hK hw hi_22 e_22 dX4_change_22 ?_
    refine lv_iload_n hx hb dX4_change_23 rfl (lv_at hl 3 rfl) ?_
    refine lv_ior hx hb dX4_change_24 ?_
    obtain ⟨hi_25, h⟩ := chk_e h
    obtain ⟨s4_25, e_25, h⟩ := nam_e h
    refine aC39 hx hb hK hw hi_25 e_25 dX4_change_25 (fun H locs hw => ?_)
    refine lv_aload_n hx hb dX4_change_26 rfl (lv_at hl 0 rfl) ?_
    refine gX4_24 hx hb hts hown hK hw dX4_change_27 ?_
    refine lv_iload_n hx hb dX4_change_30 rfl (lv_at hl 1 rfl) ?_
    refine lv_iload hx hb dX4_change_31 (lv_at hl 4 rfl) ?_
    obtain ⟨hi_33, h⟩ := chk_e h
    obtain ⟨s4_33, e_33, h⟩ := nam_e h
    refine aC40 hx hb hK hw hi_33 e_33 dX4_change_33 (fun H locs hw => ?_)
    refine lv_aload_n hx hb dX4_change_34 rfl (lv_at hl 0 rfl) ?_
    refine gX4_44 hx hb hts hown hK hw dX4_change_35 ?_
    refine lv_iload_n hx hb dX4_change_38 rfl (lv_at hl 1 rfl) ?_
    refine lv_iload hx hb dX4_change_39 (lv_at hl 5 rfl) ?_
    refine lv_iload_n hx hb dX4_change_41 rfl (lv_at hl 2 rfl) ?_
    refine lv_aload_n hx hb dX4_change_42 rfl (lv_at hl 0 rfl) ?_
    refine gX4_21 hx hb hts hown hK hw dX4_change_43 ?_
    refine lv_iload_n hx hb dX4_change_46 rfl (lv_at hl 1 rfl) ?_
    obtain ⟨hi_47, h⟩ := chk_e h
    obtain ⟨y_47, e_47, h⟩ := nam_e h
    refine lC39 hx hb hK hw hi_47 e_47 dX4_change_47 ?_
    refine lv_iload hx hb dX4_change_48 (lv_at hl 4 rfl) ?_
    obtain ⟨q_50, h_50, h⟩ := bnd_e h
    have pg_50 := preG (av := [.ref (ad 1), .int a1, .int a5, .int a2, .int y_47, .int a4]) hK hw.1 hw.2.1 (NC_keep hN hw.2.2) NC_blind
    refine endV (mc := 0) (ms := 0) (va_runV (As := [.int a1, .int a5, .int a2, .int y_47, .int a4]) (rest := []) ⟨hx, hb, hml, hown, hts⟩ (m1_write l D ad cy H.size s0 s1 s2 s3 s4_33 s5 s6 s7 s8 s9 s10 a1 a5 a2 y_47 a4 q_50 h_50) (wX4_70 0 hts ⟨Nat.le_of_ble_eq_true rfl, Nat.le_of_ble_eq_true rfl⟩) ⟨pg_50.1, va_recv hK hw.1 (ci := 1) (q0 := 1) rfl eC_1, pg_50.2⟩ rfl rfl hl.1 rfl (lv_room (Nat.le_of_ble_eq_true rfl)) dX4_change_50 ⟨Nat.le_refl _, Nat.le_refl _⟩) hw.2.2 (afr_in hw.2.2) (fun H locs hw => ?_)
    have h := Option.some.inj h
    subst h
    rw [← hQ]
    exact retV hx hb hr hlk hw dX4_change_53
  · have h := ite_t c_5 h
    have h := Option.some.inj h
    subst h
    rw [← hQ]
    exact retV hx hb hr hlk hw dX4_change_8
theorem dX4_kindOf_0 : decode cX4_kindOf 0 = .ok (.aload_n 0, 1) := by decide +kernel
theorem dX4_kindOf_1 : decode cX4_kindOf 1 = .ok (.iload_n 1, 1) := by decide +kernel
theorem dX4_kindOf_2 : decode cX4_kindOf 2 = .ok (.invokevirtual 52, 3) := by decide +kernel
theorem dX4_kindOf_5 : decode cX4_kindOf 5 = .ok (.ifCond .eq 12, 3) := by decide +kernel
theorem dX4_kindOf_8 : decode cX4_kindOf 8 = .ok (.aload_n 0, 1) := by decide +kernel
theorem dX4_kindOf_9 : decode cX4_kindOf 9 = .ok (.getfield 9, 3) := by decide +kernel
theorem dX4_kindOf_12 : decode cX4_kindOf 12 = .ok (.iload_n 1, 1) := by decide +kernel
theorem dX4_kindOf_13 : decode cX4_kindOf 13 = .ok (.iaload, 1) := by decide +kernel
theorem dX4_kindOf_14 : decode cX4_kindOf 14 = .ok (.goto 4, 3) := by decide +kernel
theorem dX4_kindOf_17 : decode cX4_kindOf 17 = .ok (.iconst (-1), 1) := by decide +kernel
theorem dX4_kindOf_18 : decode cX4_kindOf 18 = .ok (.ireturn, 1) := by decide +kernel
def f4_kindOf_j18 (k0_j18 : Int32) (s4_j18 : OS) : Option (Int32) := some k0_j18
def f4_kindOf (a1 : Int32) (s4 : OS) : Option (Int32) := Option.bind (f4_has a1 s4) fun q_2 => if q_2 = 0 then (f4_kindOf_j18 ((-1 : Int32)) s4) else (chk (inb a1 150) (nm (s4.1 1 a1.toNatClampNeg) fun y_13 => f4_kindOf_j18 y_13 s4))
set_option maxHeartbeats 4000000 in
set_option maxRecDepth 100000 in
theorem m4_kindOf (l : Launch) (D : va_G) (ad : Nat → Nat) (cy : Nat → ClassId) (sz : Nat) (s0 s1 s2 s3 s4 s5 s6 s7 s8 s9 s10 : OS) (a1 : Int32) (r : Int32) (h : f4_kindOf a1 s4 = some r) : Met l yX4_kindOf (wsOf yX4_kindOf cX4_kindOf 2 (some .int)) (rmL 1) (va_Pc ([.ref (ad 4), .int a1] : List Value) (PreG D cy (cellsC ad cy s0 s1 s2 s3 s4 s5 s6 s7 s8 s9 s10) sz (NC ad))) (QcI D ad 67 (cellsC ad cy s0 s1 s2 s3 s4 s5 s6 s7 s8 s9 s10) (r) sz) 0 0 (Afr ad 67 sz) := by
  refine metG (own := RX4) (by decide) rfl (Nat.le_of_ble_eq_true rfl) fstC ?_ sz
  intro p e s m below meth c ls C0 hw hl
  obtain ⟨hx, hb, hml, hown, hts, hr, hlk, hK, hN⟩ := C0
  have hl : lv_has ls 2 [(0, .ref (ad 4)), (1, .int a1)] := hl
  generalize hQ : MQ below (QcI D ad 67 (cellsC ad cy s0 s1 s2 s3 s4 s5 s6 s7 s8 s9 s10) (r) s.heap.size) ([.ref (ad 4), .int a1] : List Value).toArray s 0 0 (Afr ad 67 s.heap.size) = Q
  obtain ⟨H, hH⟩ : ∃ H : Heap, H = s.heap := ⟨_, rfl⟩
  obtain ⟨locs, hlc⟩ : ∃ L : List Loc, L = [] := ⟨_, rfl⟩
  have hw : Wd D (cellsC ad cy s0 s1 s2 s3 s4 s5 s6 s7 s8 s9 s10) (Afr ad 67 s.heap.size) s.heap H locs := by rw [hH, hlc]; exact hw
  suffices h0 : W p l e (rmL 1) s m ([.ref (ad 4), .int a1] : List Value).toArray below meth c H locs 0 0 Q (F0 m 0 ls []) by rw [hH, hlc] at h0; exact h0
  clear hH hlc
  unfold f4_kindOf at h
  have hJ_18 : ∀ (k0_j18 : Int32) (H : Heap) (locs : List Loc) (ls : Array Slot), f4_kindOf_j18 k0_j18 s4 = some r → Wd D (cellsC ad cy s0 s1 s2 s3 s4 s5 s6 s7 s8 s9 s10) (Afr ad 67 s.heap.size) s.heap H locs → lv_has ls 2 [] → W p l e (rmL 1) s m ([.ref (ad 4), .int a1] : List Value).toArray below meth c H locs 0 0 Q (F0 m 18 ls [.int k0_j18]) := by
    intro k0_j18 H locs ls h hw hl
    unfold f4_kindOf_j18 at h
    have h := Option.some.inj h
    subst h
    rw [← hQ]
    exact retI hx hb hr hlk hw rfl dX4_kindOf_18
  refine lv_aload_n hx hb dX4_kindOf_0 rfl (lv_at hl 0 rfl) ?_
  refine lv_iload_n hx hb dX4_kindOf_1 rfl (lv_at hl 1 rfl) ?_
  obtain ⟨q_2, h_2, h⟩ := bnd_e h
  have pg_2 := preG (av := [.ref (ad 4), .int a1]) hK hw.1 hw.2.1 (NC_keep hN hw.2.2) NC_blind
  refine endI (mc := 0) (ms := 0) (va_runV (As := [.int a1]) (rest := []) ⟨hx, hb, hml, hown, hts⟩ (m4_has l D ad cy H.size s0 s1 s2 s3 s4 s5 s6 s7 s8 s9 s10 a1 q_2 h_2) (wX4_52 0 hts ⟨Nat.le_of_ble_eq_true rfl, Nat.le_of_ble_eq_true rfl⟩) ⟨pg_2.1, va_recv hK hw.1 (ci := 4) (q0 := 4) rfl eC_4, pg_2.2⟩ rfl rfl hl.1 rfl (lv_room (Nat.le_of_ble_eq_true rfl)) dX4_kindOf_2 ⟨Nat.le_refl _, Nat.le_refl _⟩) hw.2.2 (afr_in hw.2.2) (fun H locs hw => ?_)
  refine lv_if_eq (tgt := 17) hx hb dX4_kindOf_5 (by decide) (fun c_5 => ?_) (fun c_5 => ?_)
  · have h := ite_t c_5 h
    refine lv_iconst (v := (-1)) hx hb dX4_kindOf_17 (by decide) ?_
    exact hJ_18 ((-1 : Int32)) H locs ls h hw (lv_sub hl [] rfl)
  · have h := ite_f c_5 h
    refine lv_aload_n hx hb dX4_kindOf_8 rfl (lv_at hl 0 rfl) ?_
    refine gX4_9 hx hb hts hown hK hw dX4_kindOf_9 ?_
    refine lv_iload_n hx hb dX4_kindOf_12 rfl (lv_at hl 1 rfl) ?_
    obtain ⟨hi_13, h⟩ := chk_e h
    obtain ⟨y_13, e_13, h⟩ := nam_e h
    refine lC36 hx hb hK hw hi_13 e_13 dX4_kindOf_13 ?_
    refine lv_goto (tgt := 18) hx hb dX4_kindOf_14 (by decide) ?_
    exact hJ_18 y_13 H locs ls h hw (lv_sub hl [] rfl)
theorem dX4_charge_0 : decode cX4_charge 0 = .ok (.iload_n 1, 1) := by decide +kernel
theorem dX4_charge_1 : decode cX4_charge 1 = .ok (.bipush 8, 2) := by decide +kernel
theorem dX4_charge_3 : decode cX4_charge 3 = .ok (.imul, 1) := by decide +kernel
theorem dX4_charge_4 : decode cX4_charge 4 = .ok (.aload_n 0, 1) := by decide +kernel
theorem dX4_charge_5 : decode cX4_charge 5 = .ok (.iload_n 2, 1) := by decide +kernel
theorem dX4_charge_6 : decode cX4_charge 6 = .ok (.invokevirtual 73, 3) := by decide +kernel
theorem dX4_charge_9 : decode cX4_charge 9 = .ok (.iadd, 1) := by decide +kernel
theorem dX4_charge_10 : decode cX4_charge 10 = .ok (.istore 5, 2) := by decide +kernel
theorem dX4_charge_12 : decode cX4_charge 12 = .ok (.iload 5, 2) := by decide +kernel
theorem dX4_charge_14 : decode cX4_charge 14 = .ok (.ifCond .lt 24, 3) := by decide +kernel
theorem dX4_charge_17 : decode cX4_charge 17 = .ok (.iload 5, 2) := by decide +kernel
theorem dX4_charge_19 : decode cX4_charge 19 = .ok (.aload_n 0, 1) := by decide +kernel
theorem dX4_charge_20 : decode cX4_charge 20 = .ok (.getfield 37, 3) := by decide +kernel
theorem dX4_charge_23 : decode cX4_charge 23 = .ok (.arraylength, 1) := by decide +kernel
theorem dX4_charge_24 : decode cX4_charge 24 = .ok (.if_icmp .ge 14, 3) := by decide +kernel
theorem dX4_charge_27 : decode cX4_charge 27 = .ok (.aload_n 0, 1) := by decide +kernel
theorem dX4_charge_28 : decode cX4_charge 28 = .ok (.getfield 37, 3) := by decide +kernel
theorem dX4_charge_31 : decode cX4_charge 31 = .ok (.iload 5, 2) := by decide +kernel
theorem dX4_charge_33 : decode cX4_charge 33 = .ok (.dup2, 1) := by decide +kernel
theorem dX4_charge_34 : decode cX4_charge 34 = .ok (.laload, 1) := by decide +kernel
theorem dX4_charge_35 : decode cX4_charge 35 = .ok (.lload_n 3, 1) := by decide +kernel
theorem dX4_charge_36 : decode cX4_charge 36 = .ok (.ladd, 1) := by decide +kernel
theorem dX4_charge_37 : decode cX4_charge 37 = .ok (.lastore, 1) := by decide +kernel
theorem dX4_charge_38 : decode cX4_charge 38 = .ok (.return_, 1) := by decide +kernel
def f4_charge_j38 (s4_j38 : OS) : Option (OS) := some s4_j38
def f4_charge (a1 : Int32) (a2 : Int32) (a3 : Int64) (s4 : OS) : Option (OS) := Option.bind (f4_kindOf a2 s4) fun q_6 => nm (((a1 * (8 : Int32)) + q_6)) fun n_10 => if n_10 < 0 then (f4_charge_j38 s4) else (if (32 : Int32) ≤ n_10 then (f4_charge_j38 s4) else (chk (inb n_10 32) (nm (s4.2 9 n_10.toNatClampNeg) fun y_34 => chk (inb n_10 32) (nm (wL s4 9 n_10.toNatClampNeg ((y_34 + a3))) fun s4_37 => f4_charge_j38 s4_37))))
set_option maxHeartbeats 4000000 in
set_option maxRecDepth 100000 in
theorem m4_charge (l : Launch) (D : va_G) (ad : Nat → Nat) (cy : Nat → ClassId) (sz : Nat) (s0 s1 s2 s3 s4 s5 s6 s7 s8 s9 s10 : OS) (a1 : Int32) (a2 : Int32) (a3 : Int64) (r : OS) (h : f4_charge a1 a2 a3 s4 = some r) : Met l yX4_charge (wsOf yX4_charge cX4_charge 6 none) (rmL 2) (va_Pc ([.ref (ad 4), .int a1, .int a2, .long a3] : List Value) (PreG D cy (cellsC ad cy s0 s1 s2 s3 s4 s5 s6 s7 s8 s9 s10) sz (NC ad))) (QcV D ad 67 (cellsC ad cy s0 s1 s2 s3 r s5 s6 s7 s8 s9 s10) sz) 0 0 (Afr ad 67 sz) := by
  refine metG (own := RX4) (by decide) rfl (Nat.le_of_ble_eq_true rfl) fstC ?_ sz
  intro p e s m below meth c ls C0 hw hl
  obtain ⟨hx, hb, hml, hown, hts, hr, hlk, hK, hN⟩ := C0
  have hl : lv_has ls 6 [(0, .ref (ad 4)), (1, .int a1), (2, .int a2), (3, .long a3)] := hl
  generalize hQ : MQ below (QcV D ad 67 (cellsC ad cy s0 s1 s2 s3 r s5 s6 s7 s8 s9 s10) s.heap.size) ([.ref (ad 4), .int a1, .int a2, .long a3] : List Value).toArray s 0 0 (Afr ad 67 s.heap.size) = Q
  obtain ⟨H, hH⟩ : ∃ H : Heap, H = s.heap := ⟨_, rfl⟩
  obtain ⟨locs, hlc⟩ : ∃ L : List Loc, L = [] := ⟨_, rfl⟩
  have hw : Wd D (cellsC ad cy s0 s1 s2 s3 s4 s5 s6 s7 s8 s9 s10) (Afr ad 67 s.heap.size) s.heap H locs := by rw [hH, hlc]; exact hw
  suffices h0 : W p l e (rmL 2) s m ([.ref (ad 4), .int a1, .int a2, .long a3] : List Value).toArray below meth c H locs 0 0 Q (F0 m 0 ls []) by rw [hH, hlc] at h0; exact h0
  clear hH hlc
  unfold f4_charge at h
  have hJ_38 : ∀ (s4_j38 : OS) (H : Heap) (locs : List Loc) (ls : Array Slot), f4_charge_j38 s4_j38 = some r → Wd D (cellsC ad cy s0 s1 s2 s3 s4_j38 s5 s6 s7 s8 s9 s10) (Afr ad 67 s.heap.size) s.heap H locs → lv_has ls 6 [] → W p l e (rmL 2) s m ([.ref (ad 4), .int a1, .int a2, .long a3] : List Value).toArray below meth c H locs 0 0 Q (F0 m 38 ls []) := by
    intro s4_j38 H locs ls h hw hl
    unfold f4_charge_j38 at h
    have h := Option.some.inj h
    subst h
    rw [← hQ]
    exact retV hx hb hr hlk hw dX4_charge_38
  refine lv_iload_n hx hb dX4_charge_0 rfl (lv_at hl 1 rfl) ?_
  refine lv_bipush (v := 8) hx hb dX4_charge_1 (by decide) ?_
  refine lv_imul hx hb dX4_charge_3 ?_
  refine lv_aload_n hx hb dX4_charge_4 rfl (lv_at hl 0 rfl) ?_
  refine lv_iload_n hx hb dX4_charge_5 rfl (lv_at hl 2 rfl) ?_
  obtain ⟨q_6, h_6, h⟩ := bnd_e h
  have pg_6 := preG (av := [.ref (ad 4), .int a2]) hK hw.1 hw.2.1 (NC_keep hN hw.2.2) NC_blind
  refine endI (mc := 0) (ms := 0) (va_runV (As := [.int a2]) (rest := [.int ((a1 * (8 : Int32)))]) ⟨hx, hb, hml, hown, hts⟩ (m4_kindOf l D ad cy H.size s0 s1 s2 s3 s4 s5 s6 s7 s8 s9 s10 a2 q_6 h_6) (wX4_73 1 hts ⟨Nat.le_of_ble_eq_true rfl, Nat.le_of_ble_eq_true rfl⟩) ⟨pg_6.1, va_recv hK hw.1 (ci := 4) (q0 := 4) rfl eC_4, pg_6.2⟩ rfl rfl hl.1 rfl (lv_room (Nat.le_of_ble_eq_true rfl)) dX4_charge_6 ⟨Nat.le_refl _, Nat.le_refl _⟩) hw.2.2 (afr_in hw.2.2) (fun H locs hw => ?_)
  refine lv_iadd hx hb dX4_charge_9 ?_
  obtain ⟨n_10, e_10, h⟩ := nam_e h
  refine topI e_10 ?_
  refine lv_istore (lv' := [(5, .int n_10), (0, .ref (ad 4)), (1, .int a1), (2, .int a2), (3, .long a3)]) hx hb dX4_charge_10 hl (by decide) rfl (fun ls hl => ?_)
  refine lv_iload hx hb dX4_charge_12 (lv_at hl 0 rfl) ?_
  refine lv_if_lt (tgt := 38) hx hb dX4_charge_14 (by decide) (fun c_14 => ?_) (fun c_14 => ?_)
  · have h := ite_t c_14 h
    exact hJ_38 s4 H locs ls h hw (lv_sub hl [] rfl)
  · have h := ite_f c_14 h
    refine lv_iload hx hb dX4_charge_17 (lv_at hl 0 rfl) ?_
    refine lv_aload_n hx hb dX4_charge_19 rfl (lv_at hl 1 rfl) ?_
    refine gX4_37 hx hb hts hown hK hw dX4_charge_20 ?_
    refine va_alen (v := 32) hx hb hK hw.1 44 1 eC_44 rfl rfl dX4_charge_23 ?_
    refine lv_icmp_ge (tgt := 38) hx hb dX4_charge_24 (by decide) (fun c_24 => ?_) (fun c_24 => ?_)
    · have h := ite_t c_24 h
      exact hJ_38 s4 H locs ls h hw (lv_sub hl [] rfl)
    · have h := ite_f c_24 h
      refine lv_aload_n hx hb dX4_charge_27 rfl (lv_at hl 1 rfl) ?_
      refine gX4_37 hx hb hts hown hK hw dX4_charge_28 ?_
      refine lv_iload hx hb dX4_charge_31 (lv_at hl 0 rfl) ?_
      refine lv_dup2_11 hx hb dX4_charge_33 rfl rfl ?_
      obtain ⟨hi_34, h⟩ := chk_e h
      obtain ⟨y_34, e_34, h⟩ := nam_e h
      refine lC44 hx hb hK hw hi_34 e_34 dX4_charge_34 ?_
      refine lv_lload_n hx hb dX4_charge_35 rfl (lv_at hl 4 rfl) ?_
      refine lv_ladd hx hb dX4_charge_36 ?_
      obtain ⟨hi_37, h⟩ := chk_e h
      obtain ⟨s4_37, e_37, h⟩ := nam_e h
      refine aC44 hx hb hK hw hi_37 e_37 dX4_charge_37 (fun H locs hw => ?_)
      exact hJ_38 s4_37 H locs ls h hw (lv_sub hl [] rfl)
theorem dX4_weightOf_0 : decode cX4_weightOf 0 = .ok (.aload_n 0, 1) := by decide +kernel
theorem dX4_weightOf_1 : decode cX4_weightOf 1 = .ok (.iload_n 1, 1) := by decide +kernel
theorem dX4_weightOf_2 : decode cX4_weightOf 2 = .ok (.invokevirtual 52, 3) := by decide +kernel
theorem dX4_weightOf_5 : decode cX4_weightOf 5 = .ok (.ifCond .eq 12, 3) := by decide +kernel
theorem dX4_weightOf_8 : decode cX4_weightOf 8 = .ok (.aload_n 0, 1) := by decide +kernel
theorem dX4_weightOf_9 : decode cX4_weightOf 9 = .ok (.getfield 18, 3) := by decide +kernel
theorem dX4_weightOf_12 : decode cX4_weightOf 12 = .ok (.iload_n 1, 1) := by decide +kernel
theorem dX4_weightOf_13 : decode cX4_weightOf 13 = .ok (.iaload, 1) := by decide +kernel
theorem dX4_weightOf_14 : decode cX4_weightOf 14 = .ok (.goto 4, 3) := by decide +kernel
theorem dX4_weightOf_17 : decode cX4_weightOf 17 = .ok (.iconst 0, 1) := by decide +kernel
theorem dX4_weightOf_18 : decode cX4_weightOf 18 = .ok (.ireturn, 1) := by decide +kernel
def f4_weightOf_j18 (k0_j18 : Int32) (s4_j18 : OS) : Option (Int32) := some k0_j18
def f4_weightOf (a1 : Int32) (s4 : OS) : Option (Int32) := Option.bind (f4_has a1 s4) fun q_2 => if q_2 = 0 then (f4_weightOf_j18 ((0 : Int32)) s4) else (chk (inb a1 150) (nm (s4.1 3 a1.toNatClampNeg) fun y_13 => f4_weightOf_j18 y_13 s4))
set_option maxHeartbeats 4000000 in
set_option maxRecDepth 100000 in
theorem m4_weightOf (l : Launch) (D : va_G) (ad : Nat → Nat) (cy : Nat → ClassId) (sz : Nat) (s0 s1 s2 s3 s4 s5 s6 s7 s8 s9 s10 : OS) (a1 : Int32) (r : Int32) (h : f4_weightOf a1 s4 = some r) : Met l yX4_weightOf (wsOf yX4_weightOf cX4_weightOf 2 (some .int)) (rmL 1) (va_Pc ([.ref (ad 4), .int a1] : List Value) (PreG D cy (cellsC ad cy s0 s1 s2 s3 s4 s5 s6 s7 s8 s9 s10) sz (NC ad))) (QcI D ad 67 (cellsC ad cy s0 s1 s2 s3 s4 s5 s6 s7 s8 s9 s10) (r) sz) 0 0 (Afr ad 67 sz) := by
  refine metG (own := RX4) (by decide) rfl (Nat.le_of_ble_eq_true rfl) fstC ?_ sz
  intro p e s m below meth c ls C0 hw hl
  obtain ⟨hx, hb, hml, hown, hts, hr, hlk, hK, hN⟩ := C0
  have hl : lv_has ls 2 [(0, .ref (ad 4)), (1, .int a1)] := hl
  generalize hQ : MQ below (QcI D ad 67 (cellsC ad cy s0 s1 s2 s3 s4 s5 s6 s7 s8 s9 s10) (r) s.heap.size) ([.ref (ad 4), .int a1] : List Value).toArray s 0 0 (Afr ad 67 s.heap.size) = Q
  obtain ⟨H, hH⟩ : ∃ H : Heap, H = s.heap := ⟨_, rfl⟩
  obtain ⟨locs, hlc⟩ : ∃ L : List Loc, L = [] := ⟨_, rfl⟩
  have hw : Wd D (cellsC ad cy s0 s1 s2 s3 s4 s5 s6 s7 s8 s9 s10) (Afr ad 67 s.heap.size) s.heap H locs := by rw [hH, hlc]; exact hw
  suffices h0 : W p l e (rmL 1) s m ([.ref (ad 4), .int a1] : List Value).toArray below meth c H locs 0 0 Q (F0 m 0 ls []) by rw [hH, hlc] at h0; exact h0
  clear hH hlc
  unfold f4_weightOf at h
  have hJ_18 : ∀ (k0_j18 : Int32) (H : Heap) (locs : List Loc) (ls : Array Slot), f4_weightOf_j18 k0_j18 s4 = some r → Wd D (cellsC ad cy s0 s1 s2 s3 s4 s5 s6 s7 s8 s9 s10) (Afr ad 67 s.heap.size) s.heap H locs → lv_has ls 2 [] → W p l e (rmL 1) s m ([.ref (ad 4), .int a1] : List Value).toArray below meth c H locs 0 0 Q (F0 m 18 ls [.int k0_j18]) := by
    intro k0_j18 H locs ls h hw hl
    unfold f4_weightOf_j18 at h
    have h := Option.some.inj h
    subst h
    rw [← hQ]
    exact retI hx hb hr hlk hw rfl dX4_weightOf_18
  refine lv_aload_n hx hb dX4_weightOf_0 rfl (lv_at hl 0 rfl) ?_
  refine lv_iload_n hx hb dX4_weightOf_1 rfl (lv_at hl 1 rfl) ?_
  obtain ⟨q_2, h_2, h⟩ := bnd_e h
  have pg_2 := preG (av := [.ref (ad 4), .int a1]) hK hw.1 hw.2.1 (NC_keep hN hw.2.2) NC_blind
  refine endI (mc := 0) (ms := 0) (va_runV (As := [.int a1]) (rest := []) ⟨hx, hb, hml, hown, hts⟩ (m4_has l D ad cy H.size s0 s1 s2 s3 s4 s5 s6 s7 s8 s9 s10 a1 q_2 h_2) (wX4_52 0 hts ⟨Nat.le_of_ble_eq_true rfl, Nat.le_of_ble_eq_true rfl⟩) ⟨pg_2.1, va_recv hK hw.1 (ci := 4) (q0 := 4) rfl eC_4, pg_2.2⟩ rfl rfl hl.1 rfl (lv_room (Nat.le_of_ble_eq_true rfl)) dX4_weightOf_2 ⟨Nat.le_refl _, Nat.le_refl _⟩) hw.2.2 (afr_in hw.2.2) (fun H locs hw => ?_)
  refine lv_if_eq (tgt := 17) hx hb dX4_weightOf_5 (by decide) (fun c_5 => ?_) (fun c_5 => ?_)
  · have h := ite_t c_5 h
    refine lv_iconst (v := 0) hx hb dX4_weightOf_17 (by decide) ?_
    exact hJ_18 ((0 : Int32)) H locs ls h hw (lv_sub hl [] rfl)
  · have h := ite_f c_5 h
    refine lv_aload_n hx hb dX4_weightOf_8 rfl (lv_at hl 0 rfl) ?_
    refine gX4_18 hx hb hts hown hK hw dX4_weightOf_9 ?_
    refine lv_iload_n hx hb dX4_weightOf_12 rfl (lv_at hl 1 rfl) ?_
    obtain ⟨hi_13, h⟩ := chk_e h
    obtain ⟨y_13, e_13, h⟩ := nam_e h
    refine lC38 hx hb hK hw hi_13 e_13 dX4_weightOf_13 ?_
    refine lv_goto (tgt := 18) hx hb dX4_weightOf_14 (by decide) ?_
    exact hJ_18 y_13 H locs ls h hw (lv_sub hl [] rfl)
theorem dX4_isSealed_0 : decode cX4_isSealed 0 = .ok (.aload_n 0, 1) := by decide +kernel
theorem dX4_isSealed_1 : decode cX4_isSealed 1 = .ok (.iload_n 1, 1) := by decide +kernel
theorem dX4_isSealed_2 : decode cX4_isSealed 2 = .ok (.invokevirtual 52, 3) := by decide +kernel
theorem dX4_isSealed_5 : decode cX4_isSealed 5 = .ok (.ifCond .eq 16, 3) := by decide +kernel
theorem dX4_isSealed_8 : decode cX4_isSealed 8 = .ok (.aload_n 0, 1) := by decide +kernel
theorem dX4_isSealed_9 : decode cX4_isSealed 9 = .ok (.getfield 33, 3) := by decide +kernel
theorem dX4_isSealed_12 : decode cX4_isSealed 12 = .ok (.iload_n 1, 1) := by decide +kernel
theorem dX4_isSealed_13 : decode cX4_isSealed 13 = .ok (.baload, 1) := by decide +kernel
theorem dX4_isSealed_14 : decode cX4_isSealed 14 = .ok (.ifCond .eq 7, 3) := by decide +kernel
theorem dX4_isSealed_17 : decode cX4_isSealed 17 = .ok (.iconst 1, 1) := by decide +kernel
theorem dX4_isSealed_18 : decode cX4_isSealed 18 = .ok (.goto 4, 3) := by decide +kernel
theorem dX4_isSealed_21 : decode cX4_isSealed 21 = .ok (.iconst 0, 1) := by decide +kernel
theorem dX4_isSealed_22 : decode cX4_isSealed 22 = .ok (.ireturn, 1) := by decide +kernel
def f4_isSealed_j22 (k0_j22 : Int32) (s4_j22 : OS) : Option (Int32) := chk (isB k0_j22) (some k0_j22)
def f4_isSealed_j21 (s4_j21 : OS) : Option (Int32) := f4_isSealed_j22 ((0 : Int32)) s4_j21
def f4_isSealed (a1 : Int32) (s4 : OS) : Option (Int32) := Option.bind (f4_has a1 s4) fun q_2 => if q_2 = 0 then (f4_isSealed_j21 s4) else (chk (inb a1 150) (nm (s4.1 8 a1.toNatClampNeg) fun y_13 => if y_13 = 0 then (f4_isSealed_j21 s4) else (f4_isSealed_j22 ((1 : Int32)) s4)))
set_option maxHeartbeats 4000000 in
set_option maxRecDepth 100000 in
theorem m4_isSealed (l : Launch) (D : va_G) (ad : Nat → Nat) (cy : Nat → ClassId) (sz : Nat) (s0 s1 s2 s3 s4 s5 s6 s7 s8 s9 s10 : OS) (a1 : Int32) (r : Int32) (h : f4_isSealed a1 s4 = some r) : Met l yX4_isSealed (wsOf yX4_isSealed cX4_isSealed 2 (some .boolean)) (rmL 1) (va_Pc ([.ref (ad 4), .int a1] : List Value) (PreG D cy (cellsC ad cy s0 s1 s2 s3 s4 s5 s6 s7 s8 s9 s10) sz (NC ad))) (QcI D ad 67 (cellsC ad cy s0 s1 s2 s3 s4 s5 s6 s7 s8 s9 s10) (r) sz) 0 0 (Afr ad 67 sz) := by
  refine metG (own := RX4) (by decide) rfl (Nat.le_of_ble_eq_true rfl) fstC ?_ sz
  intro p e s m below meth c ls C0 hw hl
  obtain ⟨hx, hb, hml, hown, hts, hr, hlk, hK, hN⟩ := C0
  have hl : lv_has ls 2 [(0, .ref (ad 4)), (1, .int a1)] := hl
  generalize hQ : MQ below (QcI D ad 67 (cellsC ad cy s0 s1 s2 s3 s4 s5 s6 s7 s8 s9 s10) (r) s.heap.size) ([.ref (ad 4), .int a1] : List Value).toArray s 0 0 (Afr ad 67 s.heap.size) = Q
  obtain ⟨H, hH⟩ : ∃ H : Heap, H = s.heap := ⟨_, rfl⟩
  obtain ⟨locs, hlc⟩ : ∃ L : List Loc, L = [] := ⟨_, rfl⟩
  have hw : Wd D (cellsC ad cy s0 s1 s2 s3 s4 s5 s6 s7 s8 s9 s10) (Afr ad 67 s.heap.size) s.heap H locs := by rw [hH, hlc]; exact hw
  suffices h0 : W p l e (rmL 1) s m ([.ref (ad 4), .int a1] : List Value).toArray below meth c H locs 0 0 Q (F0 m 0 ls []) by rw [hH, hlc] at h0; exact h0
  clear hH hlc
  unfold f4_isSealed at h
  have hJ_22 : ∀ (k0_j22 : Int32) (H : Heap) (locs : List Loc) (ls : Array Slot), f4_isSealed_j22 k0_j22 s4 = some r → Wd D (cellsC ad cy s0 s1 s2 s3 s4 s5 s6 s7 s8 s9 s10) (Afr ad 67 s.heap.size) s.heap H locs → lv_has ls 2 [] → W p l e (rmL 1) s m ([.ref (ad 4), .int a1] : List Value).toArray below meth c H locs 0 0 Q (F0 m 22 ls [.int k0_j22]) := by
    intro k0_j22 H locs ls h hw hl
    unfold f4_isSealed_j22 at h
    obtain ⟨hz_22, h⟩ := chk_e h
    have h := Option.some.inj h
    subst h
    rw [← hQ]
    exact retI hx hb hr hlk hw (narB hz_22) dX4_isSealed_22
  have hJ_21 : ∀  (H : Heap) (locs : List Loc) (ls : Array Slot), f4_isSealed_j21 s4 = some r → Wd D (cellsC ad cy s0 s1 s2 s3 s4 s5 s6 s7 s8 s9 s10) (Afr ad 67 s.heap.size) s.heap H locs → lv_has ls 2 [] → W p l e (rmL 1) s m ([.ref (ad 4), .int a1] : List Value).toArray below meth c H locs 0 0 Q (F0 m 21 ls []) := by
    intro  H locs ls h hw hl
    unfold f4_isSealed_j21 at h
    refine lv_iconst (v := 0) hx hb dX4_isSealed_21 (by decide) ?_
    exact hJ_22 ((0 : Int32)) H locs ls h hw (lv_sub hl [] rfl)
  refine lv_aload_n hx hb dX4_isSealed_0 rfl (lv_at hl 0 rfl) ?_
  refine lv_iload_n hx hb dX4_isSealed_1 rfl (lv_at hl 1 rfl) ?_
  obtain ⟨q_2, h_2, h⟩ := bnd_e h
  have pg_2 := preG (av := [.ref (ad 4), .int a1]) hK hw.1 hw.2.1 (NC_keep hN hw.2.2) NC_blind
  refine endI (mc := 0) (ms := 0) (va_runV (As := [.int a1]) (rest := []) ⟨hx, hb, hml, hown, hts⟩ (m4_has l D ad cy H.size s0 s1 s2 s3 s4 s5 s6 s7 s8 s9 s10 a1 q_2 h_2) (wX4_52 0 hts ⟨Nat.le_of_ble_eq_true rfl, Nat.le_of_ble_eq_true rfl⟩) ⟨pg_2.1, va_recv hK hw.1 (ci := 4) (q0 := 4) rfl eC_4, pg_2.2⟩ rfl rfl hl.1 rfl (lv_room (Nat.le_of_ble_eq_true rfl)) dX4_isSealed_2 ⟨Nat.le_refl _, Nat.le_refl _⟩) hw.2.2 (afr_in hw.2.2) (fun H locs hw => ?_)
  refine lv_if_eq (tgt := 21) hx hb dX4_isSealed_5 (by decide) (fun c_5 => ?_) (fun c_5 => ?_)
  · have h := ite_t c_5 h
    exact hJ_21  H locs ls h hw (lv_sub hl [] rfl)
  · have h := ite_f c_5 h
    refine lv_aload_n hx hb dX4_isSealed_8 rfl (lv_at hl 0 rfl) ?_
    refine gX4_33 hx hb hts hown hK hw dX4_isSealed_9 ?_
    refine lv_iload_n hx hb dX4_isSealed_12 rfl (lv_at hl 1 rfl) ?_
    obtain ⟨hi_13, h⟩ := chk_e h
    obtain ⟨y_13, e_13, h⟩ := nam_e h
    refine lC43 hx hb hK hw hi_13 e_13 dX4_isSealed_13 ?_
    refine lv_if_eq (tgt := 21) hx hb dX4_isSealed_14 (by decide) (fun c_14 => ?_) (fun c_14 => ?_)
    · have h := ite_t c_14 h
      exact hJ_21  H locs ls h hw (lv_sub hl [] rfl)
    · have h := ite_f c_14 h
      refine lv_iconst (v := 1) hx hb dX4_isSealed_17 (by decide) ?_
      refine lv_goto (tgt := 22) hx hb dX4_isSealed_18 (by decide) ?_
      exact hJ_22 ((1 : Int32)) H locs ls h hw (lv_sub hl [] rfl)
theorem dX4_lies_0 : decode cX4_lies 0 = .ok (.aload_n 0, 1) := by decide +kernel
theorem dX4_lies_1 : decode cX4_lies 1 = .ok (.iload_n 1, 1) := by decide +kernel
theorem dX4_lies_2 : decode cX4_lies 2 = .ok (.invokevirtual 52, 3) := by decide +kernel
theorem dX4_lies_5 : decode cX4_lies 5 = .ok (.ifCond .eq 18, 3) := by decide +kernel
theorem dX4_lies_8 : decode cX4_lies 8 = .ok (.aload_n 0, 1) := by decide +kernel
theorem dX4_lies_9 : decode cX4_lies 9 = .ok (.getfield 24, 3) := by decide +kernel
theorem dX4_lies_12 : decode cX4_lies 12 = .ok (.iload_n 1, 1) := by decide +kernel
theorem dX4_lies_13 : decode cX4_lies 13 = .ok (.iaload, 1) := by decide +kernel
theorem dX4_lies_14 : decode cX4_lies 14 = .ok (.bipush 10, 2) := by decide +kernel
theorem dX4_lies_16 : decode cX4_lies 16 = .ok (.if_icmp .ge 7, 3) := by decide +kernel
theorem dX4_lies_19 : decode cX4_lies 19 = .ok (.iconst 1, 1) := by decide +kernel
theorem dX4_lies_20 : decode cX4_lies 20 = .ok (.goto 4, 3) := by decide +kernel
theorem dX4_lies_23 : decode cX4_lies 23 = .ok (.iconst 0, 1) := by decide +kernel
theorem dX4_lies_24 : decode cX4_lies 24 = .ok (.ireturn, 1) := by decide +kernel
def f4_lies_j24 (k0_j24 : Int32) (s4_j24 : OS) : Option (Int32) := chk (isB k0_j24) (some k0_j24)
def f4_lies_j23 (s4_j23 : OS) : Option (Int32) := f4_lies_j24 ((0 : Int32)) s4_j23
def f4_lies (a1 : Int32) (s4 : OS) : Option (Int32) := Option.bind (f4_has a1 s4) fun q_2 => if q_2 = 0 then (f4_lies_j23 s4) else (chk (inb a1 150) (nm (s4.1 5 a1.toNatClampNeg) fun y_13 => if (10 : Int32) ≤ y_13 then (f4_lies_j23 s4) else (f4_lies_j24 ((1 : Int32)) s4)))
set_option maxHeartbeats 4000000 in
set_option maxRecDepth 100000 in
theorem m4_lies (l : Launch) (D : va_G) (ad : Nat → Nat) (cy : Nat → ClassId) (sz : Nat) (s0 s1 s2 s3 s4 s5 s6 s7 s8 s9 s10 : OS) (a1 : Int32) (r : Int32) (h : f4_lies a1 s4 = some r) : Met l yX4_lies (wsOf yX4_lies cX4_lies 2 (some .boolean)) (rmL 1) (va_Pc ([.ref (ad 4), .int a1] : List Value) (PreG D cy (cellsC ad cy s0 s1 s2 s3 s4 s5 s6 s7 s8 s9 s10) sz (NC ad))) (QcI D ad 67 (cellsC ad cy s0 s1 s2 s3 s4 s5 s6 s7 s8 s9 s10) (r) sz) 0 0 (Afr ad 67 sz) := by
  refine metG (own := RX4) (by decide) rfl (Nat.le_of_ble_eq_true rfl) fstC ?_ sz
  intro p e s m below meth c ls C0 hw hl
  obtain ⟨hx, hb, hml, hown, hts, hr, hlk, hK, hN⟩ := C0
  have hl : lv_has ls 2 [(0, .ref (ad 4)), (1, .int a1)] := hl
  generalize hQ : MQ below (QcI D ad 67 (cellsC ad cy s0 s1 s2 s3 s4 s5 s6 s7 s8 s9 s10) (r) s.heap.size) ([.ref (ad 4), .int a1] : List Value).toArray s 0 0 (Afr ad 67 s.heap.size) = Q
  obtain ⟨H, hH⟩ : ∃ H : Heap, H = s.heap := ⟨_, rfl⟩
  obtain ⟨locs, hlc⟩ : ∃ L : List Loc, L = [] := ⟨_, rfl⟩
  have hw : Wd D (cellsC ad cy s0 s1 s2 s3 s4 s5 s6 s7 s8 s9 s10) (Afr ad 67 s.heap.size) s.heap H locs := by rw [hH, hlc]; exact hw
  suffices h0 : W p l e (rmL 1) s m ([.ref (ad 4), .int a1] : List Value).toArray below meth c H locs 0 0 Q (F0 m 0 ls []) by rw [hH, hlc] at h0; exact h0
  clear hH hlc
  unfold f4_lies at h
  have hJ_24 : ∀ (k0_j24 : Int32) (H : Heap) (locs : List Loc) (ls : Array Slot), f4_lies_j24 k0_j24 s4 = some r → Wd D (cellsC ad cy s0 s1 s2 s3 s4 s5 s6 s7 s8 s9 s10) (Afr ad 67 s.heap.size) s.heap H locs → lv_has ls 2 [] → W p l e (rmL 1) s m ([.ref (ad 4), .int a1] : List Value).toArray below meth c H locs 0 0 Q (F0 m 24 ls [.int k0_j24]) := by
    intro k0_j24 H locs ls h hw hl
    unfold f4_lies_j24 at h
    obtain ⟨hz_24, h⟩ := chk_e h
    have h := Option.some.inj h
    subst h
    rw [← hQ]
    exact retI hx hb hr hlk hw (narB hz_24) dX4_lies_24
  have hJ_23 : ∀  (H : Heap) (locs : List Loc) (ls : Array Slot), f4_lies_j23 s4 = some r → Wd D (cellsC ad cy s0 s1 s2 s3 s4 s5 s6 s7 s8 s9 s10) (Afr ad 67 s.heap.size) s.heap H locs → lv_has ls 2 [] → W p l e (rmL 1) s m ([.ref (ad 4), .int a1] : List Value).toArray below meth c H locs 0 0 Q (F0 m 23 ls []) := by
    intro  H locs ls h hw hl
    unfold f4_lies_j23 at h
    refine lv_iconst (v := 0) hx hb dX4_lies_23 (by decide) ?_
    exact hJ_24 ((0 : Int32)) H locs ls h hw (lv_sub hl [] rfl)
  refine lv_aload_n hx hb dX4_lies_0 rfl (lv_at hl 0 rfl) ?_
  refine lv_iload_n hx hb dX4_lies_1 rfl (lv_at hl 1 rfl) ?_
  obtain ⟨q_2, h_2, h⟩ := bnd_e h
  have pg_2 := preG (av := [.ref (ad 4), .int a1]) hK hw.1 hw.2.1 (NC_keep hN hw.2.2) NC_blind
  refine endI (mc := 0) (ms := 0) (va_runV (As := [.int a1]) (rest := []) ⟨hx, hb, hml, hown, hts⟩ (m4_has l D ad cy H.size s0 s1 s2 s3 s4 s5 s6 s7 s8 s9 s10 a1 q_2 h_2) (wX4_52 0 hts ⟨Nat.le_of_ble_eq_true rfl, Nat.le_of_ble_eq_true rfl⟩) ⟨pg_2.1, va_recv hK hw.1 (ci := 4) (q0 := 4) rfl eC_4, pg_2.2⟩ rfl rfl hl.1 rfl (lv_room (Nat.le_of_ble_eq_true rfl)) dX4_lies_2 ⟨Nat.le_refl _, Nat.le_refl _⟩) hw.2.2 (afr_in hw.2.2) (fun H locs hw => ?_)
  refine lv_if_eq (tgt := 23) hx hb dX4_lies_5 (by decide) (fun c_5 => ?_) (fun c_5 => ?_)
  · have h := ite_t c_5 h
    exact hJ_23  H locs ls h hw (lv_sub hl [] rfl)
  · have h := ite_f c_5 h
    refine lv_aload_n hx hb dX4_lies_8 rfl (lv_at hl 0 rfl) ?_
    refine gX4_24 hx hb hts hown hK hw dX4_lies_9 ?_
    refine lv_iload_n hx hb dX4_lies_12 rfl (lv_at hl 1 rfl) ?_
    obtain ⟨hi_13, h⟩ := chk_e h
    obtain ⟨y_13, e_13, h⟩ := nam_e h
    refine lC40 hx hb hK hw hi_13 e_13 dX4_lies_13 ?_
    refine lv_bipush (v := 10) hx hb dX4_lies_14 (by decide) ?_
    refine lv_icmp_ge (tgt := 23) hx hb dX4_lies_16 (by decide) (fun c_16 => ?_) (fun c_16 => ?_)
    · have h := ite_t c_16 h
      exact hJ_23  H locs ls h hw (lv_sub hl [] rfl)
    · have h := ite_f c_16 h
      refine lv_iconst (v := 1) hx hb dX4_lies_19 (by decide) ?_
      refine lv_goto (tgt := 24) hx hb dX4_lies_20 (by decide) ?_
      exact hJ_24 ((1 : Int32)) H locs ls h hw (lv_sub hl [] rfl)
theorem dX4_isAtHand_0 : decode cX4_isAtHand 0 = .ok (.aload_n 0, 1) := by decide +kernel
theorem dX4_isAtHand_1 : decode cX4_isAtHand 1 = .ok (.iload_n 1, 1) := by decide +kernel
theorem dX4_isAtHand_2 : decode cX4_isAtHand 2 = .ok (.invokevirtual 56, 3) := by decide +kernel
theorem dX4_isAtHand_5 : decode cX4_isAtHand 5 = .ok (.ifCond .eq 15, 3) := by decide +kernel
theorem dX4_isAtHand_8 : decode cX4_isAtHand 8 = .ok (.aload_n 0, 1) := by decide +kernel
theorem dX4_isAtHand_9 : decode cX4_isAtHand 9 = .ok (.iload_n 1, 1) := by decide +kernel
theorem dX4_isAtHand_10 : decode cX4_isAtHand 10 = .ok (.invokevirtual 59, 3) := by decide +kernel
theorem dX4_isAtHand_13 : decode cX4_isAtHand 13 = .ok (.ifCond .ne 7, 3) := by decide +kernel
theorem dX4_isAtHand_16 : decode cX4_isAtHand 16 = .ok (.iconst 1, 1) := by decide +kernel
theorem dX4_isAtHand_17 : decode cX4_isAtHand 17 = .ok (.goto 4, 3) := by decide +kernel
theorem dX4_isAtHand_20 : decode cX4_isAtHand 20 = .ok (.iconst 0, 1) := by decide +kernel
theorem dX4_isAtHand_21 : decode cX4_isAtHand 21 = .ok (.ireturn, 1) := by decide +kernel
def f4_isAtHand_j21 (k0_j21 : Int32) (s4_j21 : OS) : Option (Int32) := chk (isB k0_j21) (some k0_j21)
def f4_isAtHand_j20 (s4_j20 : OS) : Option (Int32) := f4_isAtHand_j21 ((0 : Int32)) s4_j20
def f4_isAtHand (a1 : Int32) (s4 : OS) : Option (Int32) := Option.bind (f4_lies a1 s4) fun q_2 => if q_2 = 0 then (f4_isAtHand_j20 s4) else (Option.bind (f4_isSealed a1 s4) fun q_10 => if q_10 = 0 then (f4_isAtHand_j21 ((1 : Int32)) s4) else (f4_isAtHand_j20 s4))
set_option maxHeartbeats 4000000 in
set_option maxRecDepth 100000 in
theorem m4_isAtHand (l : Launch) (D : va_G) (ad : Nat → Nat) (cy : Nat → ClassId) (sz : Nat) (s0 s1 s2 s3 s4 s5 s6 s7 s8 s9 s10 : OS) (a1 : Int32) (r : Int32) (h : f4_isAtHand a1 s4 = some r) : Met l yX4_isAtHand (wsOf yX4_isAtHand cX4_isAtHand 2 (some .boolean)) (rmL 2) (va_Pc ([.ref (ad 4), .int a1] : List Value) (PreG D cy (cellsC ad cy s0 s1 s2 s3 s4 s5 s6 s7 s8 s9 s10) sz (NC ad))) (QcI D ad 67 (cellsC ad cy s0 s1 s2 s3 s4 s5 s6 s7 s8 s9 s10) (r) sz) 0 0 (Afr ad 67 sz) := by
  refine metG (own := RX4) (by decide) rfl (Nat.le_of_ble_eq_true rfl) fstC ?_ sz
  intro p e s m below meth c ls C0 hw hl
  obtain ⟨hx, hb, hml, hown, hts, hr, hlk, hK, hN⟩ := C0
  have hl : lv_has ls 2 [(0, .ref (ad 4)), (1, .int a1)] := hl
  generalize hQ : MQ below (QcI D ad 67 (cellsC ad cy s0 s1 s2 s3 s4 s5 s6 s7 s8 s9 s10) (r) s.heap.size) ([.ref (ad 4), .int a1] : List Value).toArray s 0 0 (Afr ad 67 s.heap.size) = Q
  obtain ⟨H, hH⟩ : ∃ H : Heap, H = s.heap := ⟨_, rfl⟩
  obtain ⟨locs, hlc⟩ : ∃ L : List Loc, L = [] := ⟨_, rfl⟩
  have hw : Wd D (cellsC ad cy s0 s1 s2 s3 s4 s5 s6 s7 s8 s9 s10) (Afr ad 67 s.heap.size) s.heap H locs := by rw [hH, hlc]; exact hw
  suffices h0 : W p l e (rmL 2) s m ([.ref (ad 4), .int a1] : List Value).toArray below meth c H locs 0 0 Q (F0 m 0 ls []) by rw [hH, hlc] at h0; exact h0
  clear hH hlc
  unfold f4_isAtHand at h
  have hJ_21 : ∀ (k0_j21 : Int32) (H : Heap) (locs : List Loc) (ls : Array Slot), f4_isAtHand_j21 k0_j21 s4 = some r → Wd D (cellsC ad cy s0 s1 s2 s3 s4 s5 s6 s7 s8 s9 s10) (Afr ad 67 s.heap.size) s.heap H locs → lv_has ls 2 [] → W p l e (rmL 2) s m ([.ref (ad 4), .int a1] : List Value).toArray below meth c H locs 0 0 Q (F0 m 21 ls [.int k0_j21]) := by
    intro k0_j21 H locs ls h hw hl
    unfold f4_isAtHand_j21 at h
    obtain ⟨hz_21, h⟩ := chk_e h
    have h := Option.some.inj h
    subst h
    rw [← hQ]
    exact retI hx hb hr hlk hw (narB hz_21) dX4_isAtHand_21
  have hJ_20 : ∀  (H : Heap) (locs : List Loc) (ls : Array Slot), f4_isAtHand_j20 s4 = some r → Wd D (cellsC ad cy s0 s1 s2 s3 s4 s5 s6 s7 s8 s9 s10) (Afr ad 67 s.heap.size) s.heap H locs → lv_has ls 2 [] → W p l e (rmL 2) s m ([.ref (ad 4), .int a1] : List Value).toArray below meth c H locs 0 0 Q (F0 m 20 ls []) := by
    intro  H locs ls h hw hl
    unfold f4_isAtHand_j20 at h
    refine lv_iconst (v := 0) hx hb dX4_isAtHand_20 (by decide) ?_
    exact hJ_21 ((0 : Int32)) H locs ls h hw (lv_sub hl [] rfl)
  refine lv_aload_n hx hb dX4_isAtHand_0 rfl (lv_at hl 0 rfl) ?_
  refine lv_iload_n hx hb dX4_isAtHand_1 rfl (lv_at hl 1 rfl) ?_
  obtain ⟨q_2, h_2, h⟩ := bnd_e h
  have pg_2 := preG (av := [.ref (ad 4), .int a1]) hK hw.1 hw.2.1 (NC_keep hN hw.2.2) NC_blind
  refine endI (mc := 0) (ms := 0) (va_runV (As := [.int a1]) (rest := []) ⟨hx, hb, hml, hown, hts⟩ (m4_lies l D ad cy H.size s0 s1 s2 s3 s4 s5 s6 s7 s8 s9 s10 a1 q_2 h_2) (wX4_56 1 hts ⟨Nat.le_of_ble_eq_true rfl, Nat.le_of_ble_eq_true rfl⟩) ⟨pg_2.1, va_recv hK hw.1 (ci := 4) (q0 := 4) rfl eC_4, pg_2.2⟩ rfl rfl hl.1 rfl (lv_room (Nat.le_of_ble_eq_true rfl)) dX4_isAtHand_2 ⟨Nat.le_refl _, Nat.le_refl _⟩) hw.2.2 (afr_in hw.2.2) (fun H locs hw => ?_)
  refine lv_if_eq (tgt := 20) hx hb dX4_isAtHand_5 (by decide) (fun c_5 => ?_) (fun c_5 => ?_)
  · have h := ite_t c_5 h
    exact hJ_20  H locs ls h hw (lv_sub hl [] rfl)
  · have h := ite_f c_5 h
    refine lv_aload_n hx hb dX4_isAtHand_8 rfl (lv_at hl 0 rfl) ?_
    refine lv_iload_n hx hb dX4_isAtHand_9 rfl (lv_at hl 1 rfl) ?_
    obtain ⟨q_10, h_10, h⟩ := bnd_e h
    have pg_10 := preG (av := [.ref (ad 4), .int a1]) hK hw.1 hw.2.1 (NC_keep hN hw.2.2) NC_blind
    refine endI (mc := 0) (ms := 0) (va_runV (As := [.int a1]) (rest := []) ⟨hx, hb, hml, hown, hts⟩ (m4_isSealed l D ad cy H.size s0 s1 s2 s3 s4 s5 s6 s7 s8 s9 s10 a1 q_10 h_10) (wX4_59 1 hts ⟨Nat.le_of_ble_eq_true rfl, Nat.le_of_ble_eq_true rfl⟩) ⟨pg_10.1, va_recv hK hw.1 (ci := 4) (q0 := 4) rfl eC_4, pg_10.2⟩ rfl rfl hl.1 rfl (lv_room (Nat.le_of_ble_eq_true rfl)) dX4_isAtHand_10 ⟨Nat.le_refl _, Nat.le_refl _⟩) hw.2.2 (afr_in hw.2.2) (fun H locs hw => ?_)
    refine lv_if_ne (tgt := 20) hx hb dX4_isAtHand_13 (by decide) (fun c_13 => ?_) (fun c_13 => ?_)
    · have h := ite_f c_13 h
      exact hJ_20  H locs ls h hw (lv_sub hl [] rfl)
    · have h := ite_t c_13 h
      refine lv_iconst (v := 1) hx hb dX4_isAtHand_16 (by decide) ?_
      refine lv_goto (tgt := 21) hx hb dX4_isAtHand_17 (by decide) ?_
      exact hJ_21 ((1 : Int32)) H locs ls h hw (lv_sub hl [] rfl)
theorem dX4_metOf_0 : decode cX4_metOf 0 = .ok (.aload_n 0, 1) := by decide +kernel
theorem dX4_metOf_1 : decode cX4_metOf 1 = .ok (.iload_n 1, 1) := by decide +kernel
theorem dX4_metOf_2 : decode cX4_metOf 2 = .ok (.invokevirtual 52, 3) := by decide +kernel
theorem dX4_metOf_5 : decode cX4_metOf 5 = .ok (.ifCond .eq 12, 3) := by decide +kernel
theorem dX4_metOf_8 : decode cX4_metOf 8 = .ok (.aload_n 0, 1) := by decide +kernel
theorem dX4_metOf_9 : decode cX4_metOf 9 = .ok (.getfield 21, 3) := by decide +kernel
theorem dX4_metOf_12 : decode cX4_metOf 12 = .ok (.iload_n 1, 1) := by decide +kernel
theorem dX4_metOf_13 : decode cX4_metOf 13 = .ok (.iaload, 1) := by decide +kernel
theorem dX4_metOf_14 : decode cX4_metOf 14 = .ok (.goto 4, 3) := by decide +kernel
theorem dX4_metOf_17 : decode cX4_metOf 17 = .ok (.iconst 0, 1) := by decide +kernel
theorem dX4_metOf_18 : decode cX4_metOf 18 = .ok (.ireturn, 1) := by decide +kernel
def f4_metOf_j18 (k0_j18 : Int32) (s4_j18 : OS) : Option (Int32) := some k0_j18
def f4_metOf (a1 : Int32) (s4 : OS) : Option (Int32) := Option.bind (f4_has a1 s4) fun q_2 => if q_2 = 0 then (f4_metOf_j18 ((0 : Int32)) s4) else (chk (inb a1 150) (nm (s4.1 4 a1.toNatClampNeg) fun y_13 => f4_metOf_j18 y_13 s4))
set_option maxHeartbeats 4000000 in
set_option maxRecDepth 100000 in
theorem m4_metOf (l : Launch) (D : va_G) (ad : Nat → Nat) (cy : Nat → ClassId) (sz : Nat) (s0 s1 s2 s3 s4 s5 s6 s7 s8 s9 s10 : OS) (a1 : Int32) (r : Int32) (h : f4_metOf a1 s4 = some r) : Met l yX4_metOf (wsOf yX4_metOf cX4_metOf 2 (some .int)) (rmL 1) (va_Pc ([.ref (ad 4), .int a1] : List Value) (PreG D cy (cellsC ad cy s0 s1 s2 s3 s4 s5 s6 s7 s8 s9 s10) sz (NC ad))) (QcI D ad 67 (cellsC ad cy s0 s1 s2 s3 s4 s5 s6 s7 s8 s9 s10) (r) sz) 0 0 (Afr ad 67 sz) := by
  refine metG (own := RX4) (by decide) rfl (Nat.le_of_ble_eq_true rfl) fstC ?_ sz
  intro p e s m below meth c ls C0 hw hl
  obtain ⟨hx, hb, hml, hown, hts, hr, hlk, hK, hN⟩ := C0
  have hl : lv_has ls 2 [(0, .ref (ad 4)), (1, .int a1)] := hl
  generalize hQ : MQ below (QcI D ad 67 (cellsC ad cy s0 s1 s2 s3 s4 s5 s6 s7 s8 s9 s10) (r) s.heap.size) ([.ref (ad 4), .int a1] : List Value).toArray s 0 0 (Afr ad 67 s.heap.size) = Q
  obtain ⟨H, hH⟩ : ∃ H : Heap, H = s.heap := ⟨_, rfl⟩
  obtain ⟨locs, hlc⟩ : ∃ L : List Loc, L = [] := ⟨_, rfl⟩
  have hw : Wd D (cellsC ad cy s0 s1 s2 s3 s4 s5 s6 s7 s8 s9 s10) (Afr ad 67 s.heap.size) s.heap H locs := by rw [hH, hlc]; exact hw
  suffices h0 : W p l e (rmL 1) s m ([.ref (ad 4), .int a1] : List Value).toArray below meth c H locs 0 0 Q (F0 m 0 ls []) by rw [hH, hlc] at h0; exact h0
  clear hH hlc
  unfold f4_metOf at h
  have hJ_18 : ∀ (k0_j18 : Int32) (H : Heap) (locs : List Loc) (ls : Array Slot), f4_metOf_j18 k0_j18 s4 = some r → Wd D (cellsC ad cy s0 s1 s2 s3 s4 s5 s6 s7 s8 s9 s10) (Afr ad 67 s.heap.size) s.heap H locs → lv_has ls 2 [] → W p l e (rmL 1) s m ([.ref (ad 4), .int a1] : List Value).toArray below meth c H locs 0 0 Q (F0 m 18 ls [.int k0_j18]) := by
    intro k0_j18 H locs ls h hw hl
    unfold f4_metOf_j18 at h
    have h := Option.some.inj h
    subst h
    rw [← hQ]
    exact retI hx hb hr hlk hw rfl dX4_metOf_18
  refine lv_aload_n hx hb dX4_metOf_0 rfl (lv_at hl 0 rfl) ?_
  refine lv_iload_n hx hb dX4_metOf_1 rfl (lv_at hl 1 rfl) ?_
  obtain ⟨q_2, h_2, h⟩ := bnd_e h
  have pg_2 := preG (av := [.ref (ad 4), .int a1]) hK hw.1 hw.2.1 (NC_keep hN hw.2.2) NC_blind
  refine endI (mc := 0) (ms := 0) (va_runV (As := [.int a1]) (rest := []) ⟨hx, hb, hml, hown, hts⟩ (m4_has l D ad cy H.size s0 s1 s2 s3 s4 s5 s6 s7 s8 s9 s10 a1 q_2 h_2) (wX4_52 0 hts ⟨Nat.le_of_ble_eq_true rfl, Nat.le_of_ble_eq_true rfl⟩) ⟨pg_2.1, va_recv hK hw.1 (ci := 4) (q0 := 4) rfl eC_4, pg_2.2⟩ rfl rfl hl.1 rfl (lv_room (Nat.le_of_ble_eq_true rfl)) dX4_metOf_2 ⟨Nat.le_refl _, Nat.le_refl _⟩) hw.2.2 (afr_in hw.2.2) (fun H locs hw => ?_)
  refine lv_if_eq (tgt := 17) hx hb dX4_metOf_5 (by decide) (fun c_5 => ?_) (fun c_5 => ?_)
  · have h := ite_t c_5 h
    refine lv_iconst (v := 0) hx hb dX4_metOf_17 (by decide) ?_
    exact hJ_18 ((0 : Int32)) H locs ls h hw (lv_sub hl [] rfl)
  · have h := ite_f c_5 h
    refine lv_aload_n hx hb dX4_metOf_8 rfl (lv_at hl 0 rfl) ?_
    refine gX4_21 hx hb hts hown hK hw dX4_metOf_9 ?_
    refine lv_iload_n hx hb dX4_metOf_12 rfl (lv_at hl 1 rfl) ?_
    obtain ⟨hi_13, h⟩ := chk_e h
    obtain ⟨y_13, e_13, h⟩ := nam_e h
    refine lC39 hx hb hK hw hi_13 e_13 dX4_metOf_13 ?_
    refine lv_goto (tgt := 18) hx hb dX4_metOf_14 (by decide) ?_
    exact hJ_18 y_13 H locs ls h hw (lv_sub hl [] rfl)
theorem dX4_size_0 : decode cX4_size 0 = .ok (.aload_n 0, 1) := by decide +kernel
theorem dX4_size_1 : decode cX4_size 1 = .ok (.getfield 48, 3) := by decide +kernel
theorem dX4_size_4 : decode cX4_size 4 = .ok (.ireturn, 1) := by decide +kernel
def f4_size (s4 : OS) : Option (Int32) := some ((s4.1 0 10))
set_option maxHeartbeats 4000000 in
set_option maxRecDepth 100000 in
theorem m4_size (l : Launch) (D : va_G) (ad : Nat → Nat) (cy : Nat → ClassId) (sz : Nat) (s0 s1 s2 s3 s4 s5 s6 s7 s8 s9 s10 : OS) (r : Int32) (h : f4_size s4 = some r) : Met l yX4_size (wsOf yX4_size cX4_size 1 (some .int)) (rmL 0) (va_Pc ([.ref (ad 4)] : List Value) (PreG D cy (cellsC ad cy s0 s1 s2 s3 s4 s5 s6 s7 s8 s9 s10) sz (NC ad))) (QcI D ad 67 (cellsC ad cy s0 s1 s2 s3 s4 s5 s6 s7 s8 s9 s10) (r) sz) 0 0 (Afr ad 67 sz) := by
  refine metG (own := RX4) (by decide) rfl (Nat.le_of_ble_eq_true rfl) fstC ?_ sz
  intro p e s m below meth c ls C0 hw hl
  obtain ⟨hx, hb, hml, hown, hts, hr, hlk, hK, hN⟩ := C0
  have hl : lv_has ls 1 [(0, .ref (ad 4))] := hl
  generalize hQ : MQ below (QcI D ad 67 (cellsC ad cy s0 s1 s2 s3 s4 s5 s6 s7 s8 s9 s10) (r) s.heap.size) ([.ref (ad 4)] : List Value).toArray s 0 0 (Afr ad 67 s.heap.size) = Q
  obtain ⟨H, hH⟩ : ∃ H : Heap, H = s.heap := ⟨_, rfl⟩
  obtain ⟨locs, hlc⟩ : ∃ L : List Loc, L = [] := ⟨_, rfl⟩
  have hw : Wd D (cellsC ad cy s0 s1 s2 s3 s4 s5 s6 s7 s8 s9 s10) (Afr ad 67 s.heap.size) s.heap H locs := by rw [hH, hlc]; exact hw
  suffices h0 : W p l e (rmL 0) s m ([.ref (ad 4)] : List Value).toArray below meth c H locs 0 0 Q (F0 m 0 ls []) by rw [hH, hlc] at h0; exact h0
  clear hH hlc
  unfold f4_size at h
  refine lv_aload_n hx hb dX4_size_0 rfl (lv_at hl 0 rfl) ?_
  refine gX4_48 hx hb hts hown hK hw dX4_size_1 ?_
  have h := Option.some.inj h
  subst h
  rw [← hQ]
  exact retI hx hb hr hlk hw rfl dX4_size_4
theorem dX4_addPart_0 : decode cX4_addPart 0 = .ok (.aload_n 0, 1) := by decide +kernel
theorem dX4_addPart_1 : decode cX4_addPart 1 = .ok (.getfield 48, 3) := by decide +kernel
theorem dX4_addPart_4 : decode cX4_addPart 4 = .ok (.istore 5, 2) := by decide +kernel
theorem dX4_addPart_6 : decode cX4_addPart 6 = .ok (.aload_n 0, 1) := by decide +kernel
theorem dX4_addPart_7 : decode cX4_addPart 7 = .ok (.iload_n 1, 1) := by decide +kernel
theorem dX4_addPart_8 : decode cX4_addPart 8 = .ok (.invokevirtual 52, 3) := by decide +kernel
theorem dX4_addPart_11 : decode cX4_addPart 11 = .ok (.ifCond .eq 11, 3) := by decide +kernel
theorem dX4_addPart_14 : decode cX4_addPart 14 = .ok (.iload 5, 2) := by decide +kernel
theorem dX4_addPart_16 : decode cX4_addPart 16 = .ok (.sipush 150, 3) := by decide +kernel
theorem dX4_addPart_19 : decode cX4_addPart 19 = .ok (.if_icmp .lt 4, 3) := by decide +kernel
theorem dX4_addPart_22 : decode cX4_addPart 22 = .ok (.return_, 1) := by decide +kernel
theorem dX4_addPart_23 : decode cX4_addPart 23 = .ok (.aload_n 0, 1) := by decide +kernel
theorem dX4_addPart_24 : decode cX4_addPart 24 = .ok (.dup, 1) := by decide +kernel
theorem dX4_addPart_25 : decode cX4_addPart 25 = .ok (.getfield 48, 3) := by decide +kernel
theorem dX4_addPart_28 : decode cX4_addPart 28 = .ok (.iconst 1, 1) := by decide +kernel
theorem dX4_addPart_29 : decode cX4_addPart 29 = .ok (.iadd, 1) := by decide +kernel
theorem dX4_addPart_30 : decode cX4_addPart 30 = .ok (.putfield 48, 3) := by decide +kernel
theorem dX4_addPart_33 : decode cX4_addPart 33 = .ok (.aload_n 0, 1) := by decide +kernel
theorem dX4_addPart_34 : decode cX4_addPart 34 = .ok (.getfield 9, 3) := by decide +kernel
theorem dX4_addPart_37 : decode cX4_addPart 37 = .ok (.iload 5, 2) := by decide +kernel
theorem dX4_addPart_39 : decode cX4_addPart 39 = .ok (.aload_n 0, 1) := by decide +kernel
theorem dX4_addPart_40 : decode cX4_addPart 40 = .ok (.getfield 9, 3) := by decide +kernel
theorem dX4_addPart_43 : decode cX4_addPart 43 = .ok (.iload_n 1, 1) := by decide +kernel
theorem dX4_addPart_44 : decode cX4_addPart 44 = .ok (.iaload, 1) := by decide +kernel
theorem dX4_addPart_45 : decode cX4_addPart 45 = .ok (.iastore, 1) := by decide +kernel
theorem dX4_addPart_46 : decode cX4_addPart 46 = .ok (.aload_n 0, 1) := by decide +kernel
theorem dX4_addPart_47 : decode cX4_addPart 47 = .ok (.getfield 15, 3) := by decide +kernel
theorem dX4_addPart_50 : decode cX4_addPart 50 = .ok (.iload 5, 2) := by decide +kernel
theorem dX4_addPart_52 : decode cX4_addPart 52 = .ok (.aload_n 0, 1) := by decide +kernel
theorem dX4_addPart_53 : decode cX4_addPart 53 = .ok (.getfield 15, 3) := by decide +kernel
theorem dX4_addPart_56 : decode cX4_addPart 56 = .ok (.iload_n 1, 1) := by decide +kernel
theorem dX4_addPart_57 : decode cX4_addPart 57 = .ok (.iaload, 1) := by decide +kernel
theorem dX4_addPart_58 : decode cX4_addPart 58 = .ok (.iastore, 1) := by decide +kernel
theorem dX4_addPart_59 : decode cX4_addPart 59 = .ok (.aload_n 0, 1) := by decide +kernel
theorem dX4_addPart_60 : decode cX4_addPart 60 = .ok (.getfield 21, 3) := by decide +kernel
theorem dX4_addPart_63 : decode cX4_addPart 63 = .ok (.iload 5, 2) := by decide +kernel
theorem dX4_addPart_65 : decode cX4_addPart 65 = .ok (.aload_n 0, 1) := by decide +kernel
theorem dX4_addPart_66 : decode cX4_addPart 66 = .ok (.getfield 21, 3) := by decide +kernel
theorem dX4_addPart_69 : decode cX4_addPart 69 = .ok (.iload_n 1, 1) := by decide +kernel
theorem dX4_addPart_70 : decode cX4_addPart 70 = .ok (.iaload, 1) := by decide +kernel
theorem dX4_addPart_71 : decode cX4_addPart 71 = .ok (.iastore, 1) := by decide +kernel
theorem dX4_addPart_72 : decode cX4_addPart 72 = .ok (.aload_n 0, 1) := by decide +kernel
theorem dX4_addPart_73 : decode cX4_addPart 73 = .ok (.getfield 33, 3) := by decide +kernel
theorem dX4_addPart_76 : decode cX4_addPart 76 = .ok (.iload 5, 2) := by decide +kernel
theorem dX4_addPart_78 : decode cX4_addPart 78 = .ok (.iconst 0, 1) := by decide +kernel
theorem dX4_addPart_79 : decode cX4_addPart 79 = .ok (.bastore, 1) := by decide +kernel
theorem dX4_addPart_80 : decode cX4_addPart 80 = .ok (.aload_n 0, 1) := by decide +kernel
theorem dX4_addPart_81 : decode cX4_addPart 81 = .ok (.getfield 27, 3) := by decide +kernel
theorem dX4_addPart_84 : decode cX4_addPart 84 = .ok (.iload 5, 2) := by decide +kernel
theorem dX4_addPart_86 : decode cX4_addPart 86 = .ok (.iload_n 1, 1) := by decide +kernel
theorem dX4_addPart_87 : decode cX4_addPart 87 = .ok (.iastore, 1) := by decide +kernel
theorem dX4_addPart_88 : decode cX4_addPart 88 = .ok (.aload_n 0, 1) := by decide +kernel
theorem dX4_addPart_89 : decode cX4_addPart 89 = .ok (.getfield 30, 3) := by decide +kernel
theorem dX4_addPart_92 : decode cX4_addPart 92 = .ok (.iload 5, 2) := by decide +kernel
theorem dX4_addPart_94 : decode cX4_addPart 94 = .ok (.aload_n 0, 1) := by decide +kernel
theorem dX4_addPart_95 : decode cX4_addPart 95 = .ok (.getfield 30, 3) := by decide +kernel
theorem dX4_addPart_98 : decode cX4_addPart 98 = .ok (.iload_n 1, 1) := by decide +kernel
theorem dX4_addPart_99 : decode cX4_addPart 99 = .ok (.iaload, 1) := by decide +kernel
theorem dX4_addPart_100 : decode cX4_addPart 100 = .ok (.iastore, 1) := by decide +kernel
theorem dX4_addPart_101 : decode cX4_addPart 101 = .ok (.aload_n 0, 1) := by decide +kernel
theorem dX4_addPart_102 : decode cX4_addPart 102 = .ok (.iload 5, 2) := by decide +kernel
theorem dX4_addPart_104 : decode cX4_addPart 104 = .ok (.iload_n 2, 1) := by decide +kernel
theorem dX4_addPart_105 : decode cX4_addPart 105 = .ok (.iload_n 3, 1) := by decide +kernel
theorem dX4_addPart_106 : decode cX4_addPart 106 = .ok (.aload_n 0, 1) := by decide +kernel
theorem dX4_addPart_107 : decode cX4_addPart 107 = .ok (.getfield 24, 3) := by decide +kernel
theorem dX4_addPart_110 : decode cX4_addPart 110 = .ok (.iload_n 1, 1) := by decide +kernel
theorem dX4_addPart_111 : decode cX4_addPart 111 = .ok (.iaload, 1) := by decide +kernel
theorem dX4_addPart_112 : decode cX4_addPart 112 = .ok (.iload 4, 2) := by decide +kernel
theorem dX4_addPart_114 : decode cX4_addPart 114 = .ok (.invokevirtual 66, 3) := by decide +kernel
theorem dX4_addPart_117 : decode cX4_addPart 117 = .ok (.return_, 1) := by decide +kernel
def f4_addPart_j22 (s1_j22 : OS) (s4_j22 : OS) : Option (OS × OS) := some (s1_j22, s4_j22)
def f4_addPart (a1 : Int32) (a2 : Int32) (a3 : Int32) (a4 : Int32) (s1 : OS) (s4 : OS) : Option (OS × OS) := nm ((s4.1 0 10)) fun n_4 => Option.bind (f4_has a1 s4) fun q_8 => if q_8 = 0 then (f4_addPart_j22 s1 s4) else (if n_4 < (150 : Int32) then (nm (wI s4 0 10 (((s4.1 0 10) + (1 : Int32)))) fun s4_30 => chk (inb a1 150) (nm (s4_30.1 1 a1.toNatClampNeg) fun y_44 => chk (inb n_4 150) (nm (wI s4_30 1 n_4.toNatClampNeg y_44) fun s4_45 => chk (inb a1 150) (nm (s4_45.1 2 a1.toNatClampNeg) fun y_57 => chk (inb n_4 150) (nm (wI s4_45 2 n_4.toNatClampNeg y_57) fun s4_58 => chk (inb a1 150) (nm (s4_58.1 4 a1.toNatClampNeg) fun y_70 => chk (inb n_4 150) (nm (wI s4_58 4 n_4.toNatClampNeg y_70) fun s4_71 => chk (inb n_4 150) (nm (wI s4_71 8 n_4.toNatClampNeg (vp_nar .boolean ((0 : Int32)))) fun s4_79 => chk (inb n_4 150) (nm (wI s4_79 6 n_4.toNatClampNeg a1) fun s4_87 => chk (inb a1 150) (nm (s4_87.1 7 a1.toNatClampNeg) fun y_99 => chk (inb n_4 150) (nm (wI s4_87 7 n_4.toNatClampNeg y_99) fun s4_100 => chk (inb a1 150) (nm (s4_100.1 5 a1.toNatClampNeg) fun y_111 => Option.bind (f4_change n_4 a2 a3 y_111 a4 s1 s4_100) fun q_114 => some (q_114.1, q_114.2))))))))))))) else (f4_addPart_j22 s1 s4))
set_option maxHeartbeats 4000000 in
set_option maxRecDepth 100000 in
theorem m4_addPart (l : Launch) (D : va_G) (ad : Nat → Nat) (cy : Nat → ClassId) (sz : Nat) (s0 s1 s2 s3 s4 s5 s6 s7 s8 s9 s10 : OS) (a1 : Int32) (a2 : Int32) (a3 : Int32) (a4 : Int32) (r : OS × OS) (h : f4_addPart a1 a2 a3 a4 s1 s4 = some r) : Met l yX4_addPart (wsOf yX4_addPart cX4_addPart 6 none) (rmL 2) (va_Pc ([.ref (ad 4), .int a1, .int a2, .int a3, .int a4] : List Value) (PreG D cy (cellsC ad cy s0 s1 s2 s3 s4 s5 s6 s7 s8 s9 s10) sz (NC ad))) (QcV D ad 67 (cellsC ad cy s0 r.1 s2 s3 r.2 s5 s6 s7 s8 s9 s10) sz) 0 0 (Afr ad 67 sz) := by
  refine metG (own := RX4) (by decide) rfl (Nat.le_of_ble_eq_true rfl) fstC ?_ sz
  intro p e s m below meth c ls C0 hw hl
  obtain ⟨hx, hb, hml, hown, hts, hr, hlk, hK, hN⟩ := C0
  have hl : lv_has ls 6 [(0, .ref (ad 4)), (1, .int a1), (2, .int a2), (3, .int a3), (4, .int a4)] := hl
  generalize hQ : MQ below (QcV D ad 67 (cellsC ad cy s0 r.1 s2 s3 r.2 s5 s6 s7 s8 s9 s10) s.heap.size) ([.ref (ad 4), .int a1, .int a2, .int a3, .int a4] : List Value).toArray s 0 0 (Afr ad 67 s.heap.size) = Q
  obtain ⟨H, hH⟩ : ∃ H : Heap, H = s.heap := ⟨_, rfl⟩
  obtain ⟨locs, hlc⟩ : ∃ L : List Loc, L = [] := ⟨_, rfl⟩
  have hw : Wd D (cellsC ad cy s0 s1 s2 s3 s4 s5 s6 s7 s8 s9 s10) (Afr ad 67 s.heap.size) s.heap H locs := by rw [hH, hlc]; exact hw
  suffices h0 : W p l e (rmL 2) s m ([.ref (ad 4), .int a1, .int a2, .int a3, .int a4] : List Value).toArray below meth c H locs 0 0 Q (F0 m 0 ls []) by rw [hH, hlc] at h0; exact h0
  clear hH hlc
  unfold f4_addPart at h
  have hJ_22 : ∀ (s1_j22 : OS) (s4_j22 : OS) (H : Heap) (locs : List Loc) (ls : Array Slot), f4_addPart_j22 s1_j22 s4_j22 = some r → Wd D (cellsC ad cy s0 s1_j22 s2 s3 s4_j22 s5 s6 s7 s8 s9 s10) (Afr ad 67 s.heap.size) s.heap H locs → lv_has ls 6 [] → W p l e (rmL 2) s m ([.ref (ad 4), .int a1, .int a2, .int a3, .int a4] : List Value).toArray below meth c H locs 0 0 Q (F0 m 22 ls []) := by
    intro s1_j22 s4_j22 H locs ls h hw hl
    unfold f4_addPart_j22 at h
    have h := Option.some.inj h
    subst h
    rw [← hQ]
    exact retV hx hb hr hlk hw dX4_addPart_22
  refine lv_aload_n hx hb dX4_addPart_0 rfl (lv_at hl 0 rfl) ?_
  refine gX4_48 hx hb hts hown hK hw dX4_addPart_1 ?_
  obtain ⟨n_4, e_4, h⟩ := nam_e h
  refine topI e_4 ?_
  refine lv_istore (lv' := [(5, .int n_4), (0, .ref (ad 4)), (1, .int a1), (2, .int a2), (3, .int a3), (4, .int a4)]) hx hb dX4_addPart_4 hl (by decide) rfl (fun ls hl => ?_)
  refine lv_aload_n hx hb dX4_addPart_6 rfl (lv_at hl 1 rfl) ?_
  refine lv_iload_n hx hb dX4_addPart_7 rfl (lv_at hl 2 rfl) ?_
  obtain ⟨q_8, h_8, h⟩ := bnd_e h
  have pg_8 := preG (av := [.ref (ad 4), .int a1]) hK hw.1 hw.2.1 (NC_keep hN hw.2.2) NC_blind
  refine endI (mc := 0) (ms := 0) (va_runV (As := [.int a1]) (rest := []) ⟨hx, hb, hml, hown, hts⟩ (m4_has l D ad cy H.size s0 s1 s2 s3 s4 s5 s6 s7 s8 s9 s10 a1 q_8 h_8) (wX4_52 0 hts ⟨Nat.le_of_ble_eq_true rfl, Nat.le_of_ble_eq_true rfl⟩) ⟨pg_8.1, va_recv hK hw.1 (ci := 4) (q0 := 4) rfl eC_4, pg_8.2⟩ rfl rfl hl.1 rfl (lv_room (Nat.le_of_ble_eq_true rfl)) dX4_addPart_8 ⟨Nat.le_refl _, Nat.le_refl _⟩) hw.2.2 (afr_in hw.2.2) (fun H locs hw => ?_)
  refine lv_if_eq (tgt := 22) hx hb dX4_addPart_11 (by decide) (fun c_11 => ?_) (fun c_11 => ?_)
  · have h := ite_t c_11 h
    exact hJ_22 s1 s4 H locs ls h hw (lv_sub hl [] rfl)
  · have h := ite_f c_11 h
    refine lv_iload hx hb dX4_addPart_14 (lv_at hl 0 rfl) ?_
    refine lv_sipush (v := 150) hx hb dX4_addPart_16 (by decide) ?_
    refine lv_icmp_lt (tgt := 23) hx hb dX4_addPart_19 (by decide) (fun c_19 => ?_) (fun c_19 => ?_)
    · have h := ite_t c_19 h
      refine lv_aload_n hx hb dX4_addPart_23 rfl (lv_at hl 1 rfl) ?_
      refine lv_dup hx hb dX4_addPart_24 rfl ?_
      refine gX4_48 hx hb hts hown hK hw dX4_addPart_25 ?_
      refine lv_iconst (v := 1) hx hb dX4_addPart_28 (by decide) ?_
      refine lv_iadd hx hb dX4_addPart_29 ?_
      obtain ⟨s4_30, e_30, h⟩ := nam_e h
      refine pX4_48 hx hb hts hown hK hw e_30 dX4_addPart_30 (fun H locs hw => ?_)
      refine lv_aload_n hx hb dX4_addPart_33 rfl (lv_at hl 1 rfl) ?_
      refine gX4_9 hx hb hts hown hK hw dX4_addPart_34 ?_
      refine lv_iload hx hb dX4_addPart_37 (lv_at hl 0 rfl) ?_
      refine lv_aload_n hx hb dX4_addPart_39 rfl (lv_at hl 1 rfl) ?_
      refine gX4_9 hx hb hts hown hK hw dX4_addPart_40 ?_
      refine lv_iload_n hx hb dX4_addPart_43 rfl (lv_at hl 2 rfl) ?_
      obtain ⟨hi_44, h⟩ := chk_e h
      obtain ⟨y_44, e_44, h⟩ := nam_e h
      refine lC36 hx hb hK hw hi_44 e_44 dX4_addPart_44 ?_
      obtain ⟨hi_45, h⟩ := chk_e h
      obtain ⟨s4_45, e_45, h⟩ := nam_e h
      refine aC36 hx hb hK hw hi_45 e_45 dX4_addPart_45 (fun H locs hw => ?_)
      refine lv_aload_n hx hb dX4_addPart_46 rfl (lv_at hl 1 rfl) ?_
      refine gX4_15 hx hb hts hown hK hw dX4_addPart_47 ?_
      refine lv_iload hx hb dX4_addPart_50 (lv_at hl 0 rfl) ?_
      refine lv_aload_n hx hb dX4_addPart_52 rfl (lv_at hl 1 rfl) ?_
      refine gX4_15 hx hb hts hown hK hw dX4_addPart_53 ?_
      refine lv_iload_n hx hb dX4_addPart_56 rfl (lv_at hl 2 rfl) ?_
      obtain ⟨hi_57, h⟩ := chk_e h
      obtain ⟨y_57, e_57, h⟩ := nam_e h
      refine lC37 hx hb hK hw hi_57 e_57 dX4_addPart_57 ?_
      obtain ⟨hi_58, h⟩ := chk_e h
      obtain ⟨s4_58, e_58, h⟩ := nam_e h
      refine aC37 hx hb hK hw hi_58 e_58 dX4_addPart_58 (fun H locs hw => ?_)
      refine lv_aload_n hx hb dX4_addPart_59 rfl (lv_at hl 1 rfl) ?_
      refine gX4_21 hx hb hts hown hK hw dX4_addPart_60 ?_
      refine lv_iload hx hb dX4_addPart_63 (lv_at hl 0 rfl) ?_
      refine lv_aload_n hx hb dX4_addPart_65 rfl (lv_at hl 1 rfl) ?_
      refine gX4_21 hx hb hts hown hK hw dX4_addPart_66 ?_
      refine lv_iload_n hx hb dX4_addPart_69 rfl (lv_at hl 2 rfl) ?_
      obtain ⟨hi_70, h⟩ := chk_e h
      obtain ⟨y_70, e_70, h⟩ := nam_e h
      refine lC39 hx hb hK hw hi_70 e_70 dX4_addPart_70 ?_
      obtain ⟨hi_71, h⟩ := chk_e h
      obtain ⟨s4_71, e_71, h⟩ := nam_e h
      refine aC39 hx hb hK hw hi_71 e_71 dX4_addPart_71 (fun H locs hw => ?_)
      refine lv_aload_n hx hb dX4_addPart_72 rfl (lv_at hl 1 rfl) ?_
      refine gX4_33 hx hb hts hown hK hw dX4_addPart_73 ?_
      refine lv_iload hx hb dX4_addPart_76 (lv_at hl 0 rfl) ?_
      refine lv_iconst (v := 0) hx hb dX4_addPart_78 (by decide) ?_
      obtain ⟨hi_79, h⟩ := chk_e h
      obtain ⟨s4_79, e_79, h⟩ := nam_e h
      refine aC43 hx hb hK hw hi_79 e_79 dX4_addPart_79 (fun H locs hw => ?_)
      refine lv_aload_n hx hb dX4_addPart_80 rfl (lv_at hl 1 rfl) ?_
      refine gX4_27 hx hb hts hown hK hw dX4_addPart_81 ?_
      refine lv_iload hx hb dX4_addPart_84 (lv_at hl 0 rfl) ?_
      refine lv_iload_n hx hb dX4_addPart_86 rfl (lv_at hl 2 rfl) ?_
      obtain ⟨hi_87, h⟩ := chk_e h
      obtain ⟨s4_87, e_87, h⟩ := nam_e h
      refine aC41 hx hb hK hw hi_87 e_87 dX4_addPart_87 (fun H locs hw => ?_)
      refine lv_aload_n hx hb dX4_addPart_88 rfl (lv_at hl 1 rfl) ?_
      refine gX4_30 hx hb hts hown hK hw dX4_addPart_89 ?_
      refine lv_iload hx hb dX4_addPart_92 (lv_at hl 0 rfl) ?_
      refine lv_aload_n hx hb dX4_addPart_94 rfl (lv_at hl 1 rfl) ?_
      refine gX4_30 hx hb hts hown hK hw dX4_addPart_95 ?_
      refine lv_iload_n hx hb dX4_addPart_98 rfl (lv_at hl 2 rfl) ?_
      obtain ⟨hi_99, h⟩ := chk_e h
      obtain ⟨y_99, e_99, h⟩ := nam_e h
      refine lC42 hx hb hK hw hi_99 e_99 dX4_addPart_99 ?_
      obtain ⟨hi_100, h⟩ := chk_e h
      obtain ⟨s4_100, e_100, h⟩ := nam_e h
      refine aC42 hx hb hK hw hi_100 e_100 dX4_addPart_100 (fun H locs hw => ?_)
      refine lv_aload_n hx hb dX4_addPart_101 rfl (lv_at hl 1 rfl) ?_
      refine lv_iload hx hb dX4_addPart_102 (lv_at hl 0 rfl) ?_
      refine lv_iload_n hx hb dX4_addPart_104 rfl (lv_at hl 3 rfl) ?_
      refine lv_iload_n hx hb dX4_addPart_105 rfl (lv_at hl 4 rfl) ?_
      refine lv_aload_n hx hb dX4_addPart_106 rfl (lv_at hl 1 rfl) ?_
      refine gX4_24 hx hb hts hown hK hw dX4_addPart_107 ?_
      refine lv_iload_n hx hb dX4_addPart_110 rfl (lv_at hl 2 rfl) ?_
      obtain ⟨hi_111, h⟩ := chk_e h
      obtain ⟨y_111, e_111, h⟩ := nam_e h
      refine lC40 hx hb hK hw hi_111 e_111 dX4_addPart_111 ?_
      refine lv_iload hx hb dX4_addPart_112 (lv_at hl 5 rfl) ?_
      obtain ⟨q_114, h_114, h⟩ := bnd_e h
      have pg_114 := preG (av := [.ref (ad 4), .int n_4, .int a2, .int a3, .int y_111, .int a4]) hK hw.1 hw.2.1 (NC_keep hN hw.2.2) NC_blind
      refine endV (mc := 0) (ms := 0) (va_runV (As := [.int n_4, .int a2, .int a3, .int y_111, .int a4]) (rest := []) ⟨hx, hb, hml, hown, hts⟩ (m4_change l D ad cy H.size s0 s1 s2 s3 s4_100 s5 s6 s7 s8 s9 s10 n_4 a2 a3 y_111 a4 q_114 h_114) (wX4_66 1 hts ⟨Nat.le_of_ble_eq_true rfl, Nat.le_of_ble_eq_true rfl⟩) ⟨pg_114.1, va_recv hK hw.1 (ci := 4) (q0 := 4) rfl eC_4, pg_114.2⟩ rfl rfl hl.1 rfl (lv_room (Nat.le_of_ble_eq_true rfl)) dX4_addPart_114 ⟨Nat.le_refl _, Nat.le_refl _⟩) hw.2.2 (afr_in hw.2.2) (fun H locs hw => ?_)
      have h := Option.some.inj h
      subst h
      rw [← hQ]
      exact retV hx hb hr hlk hw dX4_addPart_117
    · have h := ite_f c_19 h
      exact hJ_22 s1 s4 H locs ls h hw (lv_sub hl [] rfl)
theorem dX4_hasRoomFor_0 : decode cX4_hasRoomFor 0 = .ok (.aload_n 0, 1) := by decide +kernel
theorem dX4_hasRoomFor_1 : decode cX4_hasRoomFor 1 = .ok (.getfield 48, 3) := by decide +kernel
theorem dX4_hasRoomFor_4 : decode cX4_hasRoomFor 4 = .ok (.iload_n 1, 1) := by decide +kernel
theorem dX4_hasRoomFor_5 : decode cX4_hasRoomFor 5 = .ok (.iadd, 1) := by decide +kernel
theorem dX4_hasRoomFor_6 : decode cX4_hasRoomFor 6 = .ok (.sipush 150, 3) := by decide +kernel
theorem dX4_hasRoomFor_9 : decode cX4_hasRoomFor 9 = .ok (.if_icmp .gt 7, 3) := by decide +kernel
theorem dX4_hasRoomFor_12 : decode cX4_hasRoomFor 12 = .ok (.iconst 1, 1) := by decide +kernel
theorem dX4_hasRoomFor_13 : decode cX4_hasRoomFor 13 = .ok (.goto 4, 3) := by decide +kernel
theorem dX4_hasRoomFor_16 : decode cX4_hasRoomFor 16 = .ok (.iconst 0, 1) := by decide +kernel
theorem dX4_hasRoomFor_17 : decode cX4_hasRoomFor 17 = .ok (.ireturn, 1) := by decide +kernel
def f4_hasRoomFor_j17 (k0_j17 : Int32) (s4_j17 : OS) : Option (Int32) := chk (isB k0_j17) (some k0_j17)
def f4_hasRoomFor (a1 : Int32) (s4 : OS) : Option (Int32) := if (150 : Int32) < ((s4.1 0 10) + a1) then (f4_hasRoomFor_j17 ((0 : Int32)) s4) else (f4_hasRoomFor_j17 ((1 : Int32)) s4)
set_option maxHeartbeats 4000000 in
set_option maxRecDepth 100000 in
theorem m4_hasRoomFor (l : Launch) (D : va_G) (ad : Nat → Nat) (cy : Nat → ClassId) (sz : Nat) (s0 s1 s2 s3 s4 s5 s6 s7 s8 s9 s10 : OS) (a1 : Int32) (r : Int32) (h : f4_hasRoomFor a1 s4 = some r) : Met l yX4_hasRoomFor (wsOf yX4_hasRoomFor cX4_hasRoomFor 2 (some .boolean)) (rmL 0) (va_Pc ([.ref (ad 4), .int a1] : List Value) (PreG D cy (cellsC ad cy s0 s1 s2 s3 s4 s5 s6 s7 s8 s9 s10) sz (NC ad))) (QcI D ad 67 (cellsC ad cy s0 s1 s2 s3 s4 s5 s6 s7 s8 s9 s10) (r) sz) 0 0 (Afr ad 67 sz) := by
  refine metG (own := RX4) (by decide) rfl (Nat.le_of_ble_eq_true rfl) fstC ?_ sz
  intro p e s m below meth c ls C0 hw hl
  obtain ⟨hx, hb, hml, hown, hts, hr, hlk, hK, hN⟩ := C0
  have hl : lv_has ls 2 [(0, .ref (ad 4)), (1, .int a1)] := hl
  generalize hQ : MQ below (QcI D ad 67 (cellsC ad cy s0 s1 s2 s3 s4 s5 s6 s7 s8 s9 s10) (r) s.heap.size) ([.ref (ad 4), .int a1] : List Value).toArray s 0 0 (Afr ad 67 s.heap.size) = Q
  obtain ⟨H, hH⟩ : ∃ H : Heap, H = s.heap := ⟨_, rfl⟩
  obtain ⟨locs, hlc⟩ : ∃ L : List Loc, L = [] := ⟨_, rfl⟩
  have hw : Wd D (cellsC ad cy s0 s1 s2 s3 s4 s5 s6 s7 s8 s9 s10) (Afr ad 67 s.heap.size) s.heap H locs := by rw [hH, hlc]; exact hw
  suffices h0 : W p l e (rmL 0) s m ([.ref (ad 4), .int a1] : List Value).toArray below meth c H locs 0 0 Q (F0 m 0 ls []) by rw [hH, hlc] at h0; exact h0
  clear hH hlc
  unfold f4_hasRoomFor at h
  have hJ_17 : ∀ (k0_j17 : Int32) (H : Heap) (locs : List Loc) (ls : Array Slot), f4_hasRoomFor_j17 k0_j17 s4 = some r → Wd D (cellsC ad cy s0 s1 s2 s3 s4 s5 s6 s7 s8 s9 s10) (Afr ad 67 s.heap.size) s.heap H locs → lv_has ls 2 [] → W p l e (rmL 0) s m ([.ref (ad 4), .int a1] : List Value).toArray below meth c H locs 0 0 Q (F0 m 17 ls [.int k0_j17]) := by
    intro k0_j17 H locs ls h hw hl
    unfold f4_hasRoomFor_j17 at h
    obtain ⟨hz_17, h⟩ := chk_e h
    have h := Option.some.inj h
    subst h
    rw [← hQ]
    exact retI hx hb hr hlk hw (narB hz_17) dX4_hasRoomFor_17
  refine lv_aload_n hx hb dX4_hasRoomFor_0 rfl (lv_at hl 0 rfl) ?_
  refine gX4_48 hx hb hts hown hK hw dX4_hasRoomFor_1 ?_
  refine lv_iload_n hx hb dX4_hasRoomFor_4 rfl (lv_at hl 1 rfl) ?_
  refine lv_iadd hx hb dX4_hasRoomFor_5 ?_
  refine lv_sipush (v := 150) hx hb dX4_hasRoomFor_6 (by decide) ?_
  refine lv_icmp_gt (tgt := 16) hx hb dX4_hasRoomFor_9 (by decide) (fun c_9 => ?_) (fun c_9 => ?_)
  · have h := ite_t c_9 h
    refine lv_iconst (v := 0) hx hb dX4_hasRoomFor_16 (by decide) ?_
    exact hJ_17 ((0 : Int32)) H locs ls h hw (lv_sub hl [] rfl)
  · have h := ite_f c_9 h
    refine lv_iconst (v := 1) hx hb dX4_hasRoomFor_12 (by decide) ?_
    refine lv_goto (tgt := 17) hx hb dX4_hasRoomFor_13 (by decide) ?_
    exact hJ_17 ((1 : Int32)) H locs ls h hw (lv_sub hl [] rfl)
theorem dX4_charged_0 : decode cX4_charged 0 = .ok (.lconst 0, 1) := by decide +kernel
theorem dX4_charged_1 : decode cX4_charged 1 = .ok (.lstore_n 3, 1) := by decide +kernel
theorem dX4_charged_2 : decode cX4_charged 2 = .ok (.iconst 0, 1) := by decide +kernel
theorem dX4_charged_3 : decode cX4_charged 3 = .ok (.istore 5, 2) := by decide +kernel
theorem dX4_charged_5 : decode cX4_charged 5 = .ok (.iload 5, 2) := by decide +kernel
theorem dX4_charged_7 : decode cX4_charged 7 = .ok (.bipush 8, 2) := by decide +kernel
theorem dX4_charged_9 : decode cX4_charged 9 = .ok (.if_icmp .ge 54, 3) := by decide +kernel
theorem dX4_charged_12 : decode cX4_charged 12 = .ok (.iload_n 1, 1) := by decide +kernel
theorem dX4_charged_13 : decode cX4_charged 13 = .ok (.bipush 8, 2) := by decide +kernel
theorem dX4_charged_15 : decode cX4_charged 15 = .ok (.imul, 1) := by decide +kernel
theorem dX4_charged_16 : decode cX4_charged 16 = .ok (.iload 5, 2) := by decide +kernel
theorem dX4_charged_18 : decode cX4_charged 18 = .ok (.iadd, 1) := by decide +kernel
theorem dX4_charged_19 : decode cX4_charged 19 = .ok (.istore 6, 2) := by decide +kernel
theorem dX4_charged_21 : decode cX4_charged 21 = .ok (.iload_n 2, 1) := by decide +kernel
theorem dX4_charged_22 : decode cX4_charged 22 = .ok (.iconst (-1), 1) := by decide +kernel
theorem dX4_charged_23 : decode cX4_charged 23 = .ok (.if_icmp .eq 9, 3) := by decide +kernel
theorem dX4_charged_26 : decode cX4_charged 26 = .ok (.iload_n 2, 1) := by decide +kernel
theorem dX4_charged_27 : decode cX4_charged 27 = .ok (.iload 5, 2) := by decide +kernel
theorem dX4_charged_29 : decode cX4_charged 29 = .ok (.if_icmp .ne 28, 3) := by decide +kernel
theorem dX4_charged_32 : decode cX4_charged 32 = .ok (.iload 6, 2) := by decide +kernel
theorem dX4_charged_34 : decode cX4_charged 34 = .ok (.ifCond .lt 23, 3) := by decide +kernel
theorem dX4_charged_37 : decode cX4_charged 37 = .ok (.iload 6, 2) := by decide +kernel
theorem dX4_charged_39 : decode cX4_charged 39 = .ok (.aload_n 0, 1) := by decide +kernel
theorem dX4_charged_40 : decode cX4_charged 40 = .ok (.getfield 37, 3) := by decide +kernel
theorem dX4_charged_43 : decode cX4_charged 43 = .ok (.arraylength, 1) := by decide +kernel
theorem dX4_charged_44 : decode cX4_charged 44 = .ok (.if_icmp .ge 13, 3) := by decide +kernel
theorem dX4_charged_47 : decode cX4_charged 47 = .ok (.lload_n 3, 1) := by decide +kernel
theorem dX4_charged_48 : decode cX4_charged 48 = .ok (.aload_n 0, 1) := by decide +kernel
theorem dX4_charged_49 : decode cX4_charged 49 = .ok (.getfield 37, 3) := by decide +kernel
theorem dX4_charged_52 : decode cX4_charged 52 = .ok (.iload 6, 2) := by decide +kernel
theorem dX4_charged_54 : decode cX4_charged 54 = .ok (.laload, 1) := by decide +kernel
theorem dX4_charged_55 : decode cX4_charged 55 = .ok (.ladd, 1) := by decide +kernel
theorem dX4_charged_56 : decode cX4_charged 56 = .ok (.lstore_n 3, 1) := by decide +kernel
theorem dX4_charged_57 : decode cX4_charged 57 = .ok (.iinc 5 1, 3) := by decide +kernel
theorem dX4_charged_60 : decode cX4_charged 60 = .ok (.goto (-55), 3) := by decide +kernel
theorem dX4_charged_63 : decode cX4_charged 63 = .ok (.lload_n 3, 1) := by decide +kernel
theorem dX4_charged_64 : decode cX4_charged 64 = .ok (.lreturn, 1) := by decide +kernel
noncomputable def f4_charged_j57 (v1_j57 : Int32) (v2_j57 : Int32) (v3_j57 : Int64) (v5_j57 : Int32) (s4_j57 : OS) : Option ((Int64 × Int32) ⊕ (Int64)) := nm (v5_j57 + (1 : Int32)) fun n_57 => some (Sum.inl (v3_j57, n_57))
noncomputable def f4_charged_j32 (v1_j32 : Int32) (v2_j32 : Int32) (v3_j32 : Int64) (v5_j32 : Int32) (v6_j32 : Int32) (s4_j32 : OS) : Option ((Int64 × Int32) ⊕ (Int64)) := if v6_j32 < 0 then (f4_charged_j57 v1_j32 v2_j32 v3_j32 v5_j32 s4_j32) else (if (32 : Int32) ≤ v6_j32 then (f4_charged_j57 v1_j32 v2_j32 v3_j32 v5_j32 s4_j32) else (chk (inb v6_j32 32) (nm (s4_j32.2 9 v6_j32.toNatClampNeg) fun y_54 => nm ((v3_j32 + y_54)) fun n_56 => f4_charged_j57 v1_j32 v2_j32 n_56 v5_j32 s4_j32)))
noncomputable def f4_charged_l5 (v1_i5 : Int32) (v2_i5 : Int32) (s4_i5 : OS) : Int64 × Int32 → Option ((Int64 × Int32) ⊕ (Int64)) := fun t_5 => if (8 : Int32) ≤ t_5.2 then (Option.map Sum.inr (some t_5.1)) else (nm (((v1_i5 * (8 : Int32)) + t_5.2)) fun n_19 => if v2_i5 = (-1 : Int32) then (f4_charged_j32 v1_i5 v2_i5 t_5.1 t_5.2 n_19 s4_i5) else (if v2_i5 = t_5.2 then (f4_charged_j32 v1_i5 v2_i5 t_5.1 t_5.2 n_19 s4_i5) else (f4_charged_j57 v1_i5 v2_i5 t_5.1 t_5.2 s4_i5)))
noncomputable def f4_charged (a1 : Int32) (a2 : Int32) (s4 : OS) : Option (Int64) := loop (f4_charged_l5 a1 a2 s4) ((0 : Int64), (0 : Int32))
set_option maxHeartbeats 4000000 in
set_option maxRecDepth 100000 in
theorem m4_charged (l : Launch) (D : va_G) (ad : Nat → Nat) (cy : Nat → ClassId) (sz : Nat) (s0 s1 s2 s3 s4 s5 s6 s7 s8 s9 s10 : OS) (a1 : Int32) (a2 : Int32) (r : Int64) (h : f4_charged a1 a2 s4 = some r) : Met l yX4_charged (wsOf yX4_charged cX4_charged 7 (some .long)) (rmL 0) (va_Pc ([.ref (ad 4), .int a1, .int a2] : List Value) (PreG D cy (cellsC ad cy s0 s1 s2 s3 s4 s5 s6 s7 s8 s9 s10) sz (NC ad))) (QcL D ad 67 (cellsC ad cy s0 s1 s2 s3 s4 s5 s6 s7 s8 s9 s10) (r) sz) 0 0 (Afr ad 67 sz) := by
  refine metG (own := RX4) (by decide) rfl (Nat.le_of_ble_eq_true rfl) fstC ?_ sz
  intro p e s m below meth c ls C0 hw hl
  obtain ⟨hx, hb, hml, hown, hts, hr, hlk, hK, hN⟩ := C0
  have hl : lv_has ls 7 [(0, .ref (ad 4)), (1, .int a1), (2, .int a2)] := hl
  generalize hQ : MQ below (QcL D ad 67 (cellsC ad cy s0 s1 s2 s3 s4 s5 s6 s7 s8 s9 s10) (r) s.heap.size) ([.ref (ad 4), .int a1, .int a2] : List Value).toArray s 0 0 (Afr ad 67 s.heap.size) = Q
  obtain ⟨H, hH⟩ : ∃ H : Heap, H = s.heap := ⟨_, rfl⟩
  obtain ⟨locs, hlc⟩ : ∃ L : List Loc, L = [] := ⟨_, rfl⟩
  have hw : Wd D (cellsC ad cy s0 s1 s2 s3 s4 s5 s6 s7 s8 s9 s10) (Afr ad 67 s.heap.size) s.heap H locs := by rw [hH, hlc]; exact hw
  suffices h0 : W p l e (rmL 0) s m ([.ref (ad 4), .int a1, .int a2] : List Value).toArray below meth c H locs 0 0 Q (F0 m 0 ls []) by rw [hH, hlc] at h0; exact h0
  clear hH hlc
  unfold f4_charged at h
  refine lv_lconst (v := 0) hx hb dX4_charged_0 (by decide) ?_
  refine lv_lstore_n (lv' := [(3, .long ((0 : Int64))), (0, .ref (ad 4)), (1, .int a1), (2, .int a2)]) hx hb dX4_charged_1 rfl hl (by decide) rfl (fun ls hl => ?_)
  refine lv_iconst (v := 0) hx hb dX4_charged_2 (by decide) ?_
  refine lv_istore (lv' := [(5, .int ((0 : Int32))), (3, .long ((0 : Int64))), (0, .ref (ad 4)), (1, .int a1), (2, .int a2)]) hx hb dX4_charged_3 hl (by decide) rfl (fun ls hl => ?_)
  obtain ⟨n_5, hn_5⟩ := loop_e h
  have hL_5 : ∀ (n : Nat) (t_5 : Int64 × Int32) (H : Heap) (locs : List Loc) (ls : Array Slot), loopN (f4_charged_l5 a1 a2 s4) n t_5 = some r → Wd D (cellsC ad cy s0 s1 s2 s3 s4 s5 s6 s7 s8 s9 s10) (Afr ad 67 s.heap.size) s.heap H locs → lv_has ls 7 [(3, .long t_5.1), (5, .int t_5.2), (1, .int a1), (2, .int a2), (0, .ref (ad 4))] → W p l e (rmL 0) s m ([.ref (ad 4), .int a1, .int a2] : List Value).toArray below meth c H locs 0 0 Q (F0 m 5 ls []) := by
    intro n
    induction n with
    | zero => intro t_5 H locs ls hn; cases hn
    | succ n ih_5 =>
      intro t_5 H locs ls hn hw hl
      obtain ⟨x_5, h, hx_5⟩ := loopN_e hn
      unfold f4_charged_l5 at h
      have hJ_57 : ∀ (v3_j57 : Int64) (v5_j57 : Int32) (H : Heap) (locs : List Loc) (ls : Array Slot), f4_charged_j57 a1 a2 v3_j57 v5_j57 s4 = some x_5 → Wd D (cellsC ad cy s0 s1 s2 s3 s4 s5 s6 s7 s8 s9 s10) (Afr ad 67 s.heap.size) s.heap H locs → lv_has ls 7 [(0, .ref (ad 4)), (1, .int a1), (2, .int a2), (3, .long v3_j57), (5, .int v5_j57)] → W p l e (rmL 0) s m ([.ref (ad 4), .int a1, .int a2] : List Value).toArray below meth c H locs 0 0 Q (F0 m 57 ls []) := by
        intro v3_j57 v5_j57 H locs ls h hw hl
        unfold f4_charged_j57 at h
        obtain ⟨n_57, e_57, h⟩ := nam_e h
        refine lv_iinc (v := n_57) (lv' := [(5, .int n_57), (0, .ref (ad 4)), (1, .int a1), (2, .int a2), (3, .long v3_j57)]) hx hb dX4_charged_57 hl (k := 4) rfl (by rw [e_57]; rfl) (by decide) rfl (fun ls hl => ?_)
        refine lv_goto (tgt := 5) hx hb dX4_charged_60 (by decide) ?_
        exact ih_5 (v3_j57, n_57) H locs ls (nx_l hx_5 h) hw (lv_sub hl [4, 0, 2, 3, 1] rfl)
      have hJ_32 : ∀ (v3_j32 : Int64) (v5_j32 : Int32) (v6_j32 : Int32) (H : Heap) (locs : List Loc) (ls : Array Slot), f4_charged_j32 a1 a2 v3_j32 v5_j32 v6_j32 s4 = some x_5 → Wd D (cellsC ad cy s0 s1 s2 s3 s4 s5 s6 s7 s8 s9 s10) (Afr ad 67 s.heap.size) s.heap H locs → lv_has ls 7 [(0, .ref (ad 4)), (1, .int a1), (2, .int a2), (3, .long v3_j32), (5, .int v5_j32), (6, .int v6_j32)] → W p l e (rmL 0) s m ([.ref (ad 4), .int a1, .int a2] : List Value).toArray below meth c H locs 0 0 Q (F0 m 32 ls []) := by
        intro v3_j32 v5_j32 v6_j32 H locs ls h hw hl
        unfold f4_charged_j32 at h
        refine lv_iload hx hb dX4_charged_32 (lv_at hl 5 rfl) ?_
        refine lv_if_lt (tgt := 57) hx hb dX4_charged_34 (by decide) (fun c_34 => ?_) (fun c_34 => ?_)
        · have h := ite_t c_34 h
          exact hJ_57 v3_j32 v5_j32 H locs ls h hw (lv_sub hl [0, 1, 2, 3, 4] rfl)
        · have h := ite_f c_34 h
          refine lv_iload hx hb dX4_charged_37 (lv_at hl 5 rfl) ?_
          refine lv_aload_n hx hb dX4_charged_39 rfl (lv_at hl 0 rfl) ?_
          refine gX4_37 hx hb hts hown hK hw dX4_charged_40 ?_
          refine va_alen (v := 32) hx hb hK hw.1 44 1 eC_44 rfl rfl dX4_charged_43 ?_
          refine lv_icmp_ge (tgt := 57) hx hb dX4_charged_44 (by decide) (fun c_44 => ?_) (fun c_44 => ?_)
          · have h := ite_t c_44 h
            exact hJ_57 v3_j32 v5_j32 H locs ls h hw (lv_sub hl [0, 1, 2, 3, 4] rfl)
          · have h := ite_f c_44 h
            refine lv_lload_n hx hb dX4_charged_47 rfl (lv_at hl 3 rfl) ?_
            refine lv_aload_n hx hb dX4_charged_48 rfl (lv_at hl 0 rfl) ?_
            refine gX4_37 hx hb hts hown hK hw dX4_charged_49 ?_
            refine lv_iload hx hb dX4_charged_52 (lv_at hl 5 rfl) ?_
            obtain ⟨hi_54, h⟩ := chk_e h
            obtain ⟨y_54, e_54, h⟩ := nam_e h
            refine lC44 hx hb hK hw hi_54 e_54 dX4_charged_54 ?_
            refine lv_ladd hx hb dX4_charged_55 ?_
            obtain ⟨n_56, e_56, h⟩ := nam_e h
            refine topL e_56 ?_
            refine lv_lstore_n (lv' := [(3, .long n_56), (0, .ref (ad 4)), (1, .int a1), (2, .int a2), (5, .int v5_j32), (6, .int v6_j32)]) hx hb dX4_charged_56 rfl hl (by decide) rfl (fun ls hl => ?_)
            exact hJ_57 n_56 v5_j32 H locs ls h hw (lv_sub hl [1, 2, 3, 0, 4] rfl)
      refine lv_iload hx hb dX4_charged_5 (lv_at hl 1 rfl) ?_
      refine lv_bipush (v := 8) hx hb dX4_charged_7 (by decide) ?_
      refine lv_icmp_ge (tgt := 63) hx hb dX4_charged_9 (by decide) (fun c_9 => ?_) (fun c_9 => ?_)
      · have h := ite_t c_9 h
        have h := nx_m hx_5 h
        refine lv_lload_n hx hb dX4_charged_63 rfl (lv_at hl 0 rfl) ?_
        have h := Option.some.inj h
        subst h
        rw [← hQ]
        exact retL hx hb hr hlk hw dX4_charged_64
      · have h := ite_f c_9 h
        refine lv_iload_n hx hb dX4_charged_12 rfl (lv_at hl 2 rfl) ?_
        refine lv_bipush (v := 8) hx hb dX4_charged_13 (by decide) ?_
        refine lv_imul hx hb dX4_charged_15 ?_
        refine lv_iload hx hb dX4_charged_16 (lv_at hl 1 rfl) ?_
        refine lv_iadd hx hb dX4_charged_18 ?_
        obtain ⟨n_19, e_19, h⟩ := nam_e h
        refine topI e_19 ?_
        refine lv_istore (lv' := [(6, .int n_19), (3, .long t_5.1), (5, .int t_5.2), (1, .int a1), (2, .int a2), (0, .ref (ad 4))]) hx hb dX4_charged_19 hl (by decide) rfl (fun ls hl => ?_)
        refine lv_iload_n hx hb dX4_charged_21 rfl (lv_at hl 4 rfl) ?_
        refine lv_iconst (v := (-1)) hx hb dX4_charged_22 (by decide) ?_
        refine lv_icmp_eq (tgt := 32) hx hb dX4_charged_23 (by decide) (fun c_23 => ?_) (fun c_23 => ?_)
        · have h := ite_t c_23 h
          exact hJ_32 t_5.1 t_5.2 n_19 H locs ls h hw (lv_sub hl [5, 3, 4, 1, 2, 0] rfl)
        · have h := ite_f c_23 h
          refine lv_iload_n hx hb dX4_charged_26 rfl (lv_at hl 4 rfl) ?_
          refine lv_iload hx hb dX4_charged_27 (lv_at hl 2 rfl) ?_
          refine lv_icmp_ne (tgt := 57) hx hb dX4_charged_29 (by decide) (fun c_29 => ?_) (fun c_29 => ?_)
          · have h := ite_f c_29 h
            exact hJ_57 t_5.1 t_5.2 H locs ls h hw (lv_sub hl [5, 3, 4, 1, 2] rfl)
          · have h := ite_t c_29 h
            exact hJ_32 t_5.1 t_5.2 n_19 H locs ls h hw (lv_sub hl [5, 3, 4, 1, 2, 0] rfl)
  exact hL_5 n_5 ((0 : Int64), (0 : Int32)) H locs ls hn_5 hw (lv_sub hl [1, 0, 3, 4, 2] rfl)
theorem dX4_weightIn_0 : decode cX4_weightIn 0 = .ok (.lconst 0, 1) := by decide +kernel
theorem dX4_weightIn_1 : decode cX4_weightIn 1 = .ok (.lstore 5, 2) := by decide +kernel
theorem dX4_weightIn_3 : decode cX4_weightIn 3 = .ok (.iconst 0, 1) := by decide +kernel
theorem dX4_weightIn_4 : decode cX4_weightIn 4 = .ok (.istore 7, 2) := by decide +kernel
theorem dX4_weightIn_6 : decode cX4_weightIn 6 = .ok (.iload 7, 2) := by decide +kernel
theorem dX4_weightIn_8 : decode cX4_weightIn 8 = .ok (.aload_n 0, 1) := by decide +kernel
theorem dX4_weightIn_9 : decode cX4_weightIn 9 = .ok (.getfield 48, 3) := by decide +kernel
theorem dX4_weightIn_12 : decode cX4_weightIn 12 = .ok (.if_icmp .ge 76, 3) := by decide +kernel
theorem dX4_weightIn_15 : decode cX4_weightIn 15 = .ok (.iload_n 1, 1) := by decide +kernel
theorem dX4_weightIn_16 : decode cX4_weightIn 16 = .ok (.iconst (-1), 1) := by decide +kernel
theorem dX4_weightIn_17 : decode cX4_weightIn 17 = .ok (.if_icmp .eq 13, 3) := by decide +kernel
theorem dX4_weightIn_20 : decode cX4_weightIn 20 = .ok (.aload_n 0, 1) := by decide +kernel
theorem dX4_weightIn_21 : decode cX4_weightIn 21 = .ok (.iload 7, 2) := by decide +kernel
theorem dX4_weightIn_23 : decode cX4_weightIn 23 = .ok (.invokevirtual 73, 3) := by decide +kernel
theorem dX4_weightIn_26 : decode cX4_weightIn 26 = .ok (.iload_n 1, 1) := by decide +kernel
theorem dX4_weightIn_27 : decode cX4_weightIn 27 = .ok (.if_icmp .ne 35, 3) := by decide +kernel
theorem dX4_weightIn_30 : decode cX4_weightIn 30 = .ok (.aload_n 0, 1) := by decide +kernel
theorem dX4_weightIn_31 : decode cX4_weightIn 31 = .ok (.iload 7, 2) := by decide +kernel
theorem dX4_weightIn_33 : decode cX4_weightIn 33 = .ok (.invokevirtual 77, 3) := by decide +kernel
theorem dX4_weightIn_36 : decode cX4_weightIn 36 = .ok (.iload_n 2, 1) := by decide +kernel
theorem dX4_weightIn_37 : decode cX4_weightIn 37 = .ok (.iload_n 3, 1) := by decide +kernel
theorem dX4_weightIn_38 : decode cX4_weightIn 38 = .ok (.invokestatic 80, 3) := by decide +kernel
theorem dX4_weightIn_41 : decode cX4_weightIn 41 = .ok (.ifCond .eq 21, 3) := by decide +kernel
theorem dX4_weightIn_44 : decode cX4_weightIn 44 = .ok (.iload 4, 2) := by decide +kernel
theorem dX4_weightIn_46 : decode cX4_weightIn 46 = .ok (.ifCond .eq 12, 3) := by decide +kernel
theorem dX4_weightIn_49 : decode cX4_weightIn 49 = .ok (.aload_n 0, 1) := by decide +kernel
theorem dX4_weightIn_50 : decode cX4_weightIn 50 = .ok (.iload 7, 2) := by decide +kernel
theorem dX4_weightIn_52 : decode cX4_weightIn 52 = .ok (.invokevirtual 84, 3) := by decide +kernel
theorem dX4_weightIn_55 : decode cX4_weightIn 55 = .ok (.ifCond .ne 7, 3) := by decide +kernel
theorem dX4_weightIn_58 : decode cX4_weightIn 58 = .ok (.iconst 1, 1) := by decide +kernel
theorem dX4_weightIn_59 : decode cX4_weightIn 59 = .ok (.goto 4, 3) := by decide +kernel
theorem dX4_weightIn_62 : decode cX4_weightIn 62 = .ok (.iconst 0, 1) := by decide +kernel
theorem dX4_weightIn_63 : decode cX4_weightIn 63 = .ok (.istore 8, 2) := by decide +kernel
theorem dX4_weightIn_65 : decode cX4_weightIn 65 = .ok (.iload 8, 2) := by decide +kernel
theorem dX4_weightIn_67 : decode cX4_weightIn 67 = .ok (.ifCond .eq 15, 3) := by decide +kernel
theorem dX4_weightIn_70 : decode cX4_weightIn 70 = .ok (.lload 5, 2) := by decide +kernel
theorem dX4_weightIn_72 : decode cX4_weightIn 72 = .ok (.aload_n 0, 1) := by decide +kernel
theorem dX4_weightIn_73 : decode cX4_weightIn 73 = .ok (.iload 7, 2) := by decide +kernel
theorem dX4_weightIn_75 : decode cX4_weightIn 75 = .ok (.invokevirtual 87, 3) := by decide +kernel
theorem dX4_weightIn_78 : decode cX4_weightIn 78 = .ok (.i2l, 1) := by decide +kernel
theorem dX4_weightIn_79 : decode cX4_weightIn 79 = .ok (.ladd, 1) := by decide +kernel
theorem dX4_weightIn_80 : decode cX4_weightIn 80 = .ok (.lstore 5, 2) := by decide +kernel
theorem dX4_weightIn_82 : decode cX4_weightIn 82 = .ok (.iinc 7 1, 3) := by decide +kernel
theorem dX4_weightIn_85 : decode cX4_weightIn 85 = .ok (.goto (-79), 3) := by decide +kernel
theorem dX4_weightIn_88 : decode cX4_weightIn 88 = .ok (.lload 5, 2) := by decide +kernel
theorem dX4_weightIn_90 : decode cX4_weightIn 90 = .ok (.lreturn, 1) := by decide +kernel
noncomputable def f4_weightIn_j82 (v1_j82 : Int32) (v2_j82 : Int32) (v3_j82 : Int32) (v4_j82 : Int32) (v5_j82 : Int64) (v7_j82 : Int32) (s4_j82 : OS) : Option ((Int64 × Int32) ⊕ (Int64)) := nm (v7_j82 + (1 : Int32)) fun n_82 => some (Sum.inl (v5_j82, n_82))
noncomputable def f4_weightIn_j63 (v1_j63 : Int32) (v2_j63 : Int32) (v3_j63 : Int32) (v4_j63 : Int32) (v5_j63 : Int64) (v7_j63 : Int32) (k0_j63 : Int32) (s4_j63 : OS) : Option ((Int64 × Int32) ⊕ (Int64)) := if k0_j63 = 0 then (f4_weightIn_j82 v1_j63 v2_j63 v3_j63 v4_j63 v5_j63 v7_j63 s4_j63) else (Option.bind (f4_weightOf v7_j63 s4_j63) fun q_75 => nm ((v5_j63 + (q_75).toInt64)) fun n_80 => f4_weightIn_j82 v1_j63 v2_j63 v3_j63 v4_j63 n_80 v7_j63 s4_j63)
noncomputable def f4_weightIn_j62 (v1_j62 : Int32) (v2_j62 : Int32) (v3_j62 : Int32) (v4_j62 : Int32) (v5_j62 : Int64) (v7_j62 : Int32) (s4_j62 : OS) : Option ((Int64 × Int32) ⊕ (Int64)) := f4_weightIn_j63 v1_j62 v2_j62 v3_j62 v4_j62 v5_j62 v7_j62 ((0 : Int32)) s4_j62
noncomputable def f4_weightIn_j58 (v1_j58 : Int32) (v2_j58 : Int32) (v3_j58 : Int32) (v4_j58 : Int32) (v5_j58 : Int64) (v7_j58 : Int32) (s4_j58 : OS) : Option ((Int64 × Int32) ⊕ (Int64)) := f4_weightIn_j63 v1_j58 v2_j58 v3_j58 v4_j58 v5_j58 v7_j58 ((1 : Int32)) s4_j58
noncomputable def f4_weightIn_j30 (v1_j30 : Int32) (v2_j30 : Int32) (v3_j30 : Int32) (v4_j30 : Int32) (v5_j30 : Int64) (v7_j30 : Int32) (s4_j30 : OS) : Option ((Int64 × Int32) ⊕ (Int64)) := Option.bind (f4_placeOf v7_j30 s4_j30) fun q_33 => Option.bind (f10_isWithin q_33 v2_j30 v3_j30) fun q_38 => if q_38 = 0 then (f4_weightIn_j62 v1_j30 v2_j30 v3_j30 v4_j30 v5_j30 v7_j30 s4_j30) else (if v4_j30 = 0 then (f4_weightIn_j58 v1_j30 v2_j30 v3_j30 v4_j30 v5_j30 v7_j30 s4_j30) else (Option.bind (f4_metOf v7_j30 s4_j30) fun q_52 => if q_52 = 0 then (f4_weightIn_j58 v1_j30 v2_j30 v3_j30 v4_j30 v5_j30 v7_j30 s4_j30) else (f4_weightIn_j62 v1_j30 v2_j30 v3_j30 v4_j30 v5_j30 v7_j30 s4_j30)))
noncomputable def f4_weightIn_l6 (v1_i6 : Int32) (v2_i6 : Int32) (v3_i6 : Int32) (v4_i6 : Int32) (s4_i6 : OS) : Int64 × Int32 → Option ((Int64 × Int32) ⊕ (Int64)) := fun t_6 => if (s4_i6.1 0 10) ≤ t_6.2 then (Option.map Sum.inr (some t_6.1)) else (if v1_i6 = (-1 : Int32) then (f4_weightIn_j30 v1_i6 v2_i6 v3_i6 v4_i6 t_6.1 t_6.2 s4_i6) else (Option.bind (f4_kindOf t_6.2 s4_i6) fun q_23 => if q_23 = v1_i6 then (f4_weightIn_j30 v1_i6 v2_i6 v3_i6 v4_i6 t_6.1 t_6.2 s4_i6) else (f4_weightIn_j62 v1_i6 v2_i6 v3_i6 v4_i6 t_6.1 t_6.2 s4_i6)))
noncomputable def f4_weightIn (a1 : Int32) (a2 : Int32) (a3 : Int32) (a4 : Int32) (s4 : OS) : Option (Int64) := loop (f4_weightIn_l6 a1 a2 a3 a4 s4) ((0 : Int64), (0 : Int32))
set_option maxHeartbeats 4000000 in
set_option maxRecDepth 100000 in
theorem m4_weightIn (l : Launch) (D : va_G) (ad : Nat → Nat) (cy : Nat → ClassId) (sz : Nat) (s0 s1 s2 s3 s4 s5 s6 s7 s8 s9 s10 : OS) (a1 : Int32) (a2 : Int32) (a3 : Int32) (a4 : Int32) (r : Int64) (h : f4_weightIn a1 a2 a3 a4 s4 = some r) : Met l yX4_weightIn (wsOf yX4_weightIn cX4_weightIn 9 (some .long)) (rmL 2) (va_Pc ([.ref (ad 4), .int a1, .int a2, .int a3, .int a4] : List Value) (PreG D cy (cellsC ad cy s0 s1 s2 s3 s4 s5 s6 s7 s8 s9 s10) sz (NC ad))) (QcL D ad 67 (cellsC ad cy s0 s1 s2 s3 s4 s5 s6 s7 s8 s9 s10) (r) sz) 0 0 (Afr ad 67 sz) := by
  refine metG (own := RX4) (by decide) rfl (Nat.le_of_ble_eq_true rfl) fstC ?_ sz
  intro p e s m below meth c ls C0 hw hl
  obtain ⟨hx, hb, hml, hown, hts, hr, hlk, hK, hN⟩ := C0
  have hl : lv_has ls 9 [(0, .ref (ad 4)), (1, .int a1), (2, .int a2), (3, .int a3), (4, .int a4)] := hl
  generalize hQ : MQ below (QcL D ad 67 (cellsC ad cy s0 s1 s2 s3 s4 s5 s6 s7 s8 s9 s10) (r) s.heap.size) ([.ref (ad 4), .int a1, .int a2, .int a3, .int a4] : List Value).toArray s 0 0 (Afr ad 67 s.heap.size) = Q
  obtain ⟨H, hH⟩ : ∃ H : Heap, H = s.heap := ⟨_, rfl⟩
  obtain ⟨locs, hlc⟩ : ∃ L : List Loc, L = [] := ⟨_, rfl⟩
  have hw : Wd D (cellsC ad cy s0 s1 s2 s3 s4 s5 s6 s7 s8 s9 s10) (Afr ad 67 s.heap.size) s.heap H locs := by rw [hH, hlc]; exact hw
  suffices h0 : W p l e (rmL 2) s m ([.ref (ad 4), .int a1, .int a2, .int a3, .int a4] : List Value).toArray below meth c H locs 0 0 Q (F0 m 0 ls []) by rw [hH, hlc] at h0; exact h0
  clear hH hlc
  unfold f4_weightIn at h
  refine lv_lconst (v := 0) hx hb dX4_weightIn_0 (by decide) ?_
  refine lv_lstore (lv' := [(5, .long ((0 : Int64))), (0, .ref (ad 4)), (1, .int a1), (2, .int a2), (3, .int a3), (4, .int a4)]) hx hb dX4_weightIn_1 hl (by decide) rfl (fun ls hl => ?_)
  refine lv_iconst (v := 0) hx hb dX4_weightIn_3 (by decide) ?_
  refine lv_istore (lv' := [(7, .int ((0 : Int32))), (5, .long ((0 : Int64))), (0, .ref (ad 4)), (1, .int a1), (2, .int a2), (3, .int a3), (4, .int a4)]) hx hb dX4_weightIn_4 hl (by decide) rfl (fun ls hl => ?_)
  obtain ⟨n_6, hn_6⟩ := loop_e h
  have hL_6 : ∀ (n : Nat) (t_6 : Int64 × Int32) (H : Heap) (locs : List Loc) (ls : Array Slot), loopN (f4_weightIn_l6 a1 a2 a3 a4 s4) n t_6 = some r → Wd D (cellsC ad cy s0 s1 s2 s3 s4 s5 s6 s7 s8 s9 s10) (Afr ad 67 s.heap.size) s.heap H locs → lv_has ls 9 [(5, .long t_6.1), (7, .int t_6.2), (1, .int a1), (2, .int a2), (3, .int a3), (4, .int a4), (0, .ref (ad 4))] → W p l e (rmL 2) s m ([.ref (ad 4), .int a1, .int a2, .int a3, .int a4] : List Value).toArray below meth c H locs 0 0 Q (F0 m 6 ls []) := by
    intro n
    induction n with
    | zero => intro t_6 H locs ls hn; cases hn
    | succ n ih_6 =>
      intro t_6 H locs ls hn hw hl
      obtain ⟨x_6, h, hx_6⟩ := loopN_e hn
      unfold f4_weightIn_l6 at h
      have hJ_82 : ∀ (v5_j82 : Int64) (v7_j82 : Int32) (H : Heap) (locs : List Loc) (ls : Array Slot), f4_weightIn_j82 a1 a2 a3 a4 v5_j82 v7_j82 s4 = some x_6 → Wd D (cellsC ad cy s0 s1 s2 s3 s4 s5 s6 s7 s8 s9 s10) (Afr ad 67 s.heap.size) s.heap H locs → lv_has ls 9 [(0, .ref (ad 4)), (1, .int a1), (2, .int a2), (3, .int a3), (4, .int a4), (5, .long v5_j82), (7, .int v7_j82)] → W p l e (rmL 2) s m ([.ref (ad 4), .int a1, .int a2, .int a3, .int a4] : List Value).toArray below meth c H locs 0 0 Q (F0 m 82 ls []) := by
        intro v5_j82 v7_j82 H locs ls h hw hl
        unfold f4_weightIn_j82 at h
        obtain ⟨n_82, e_82, h⟩ := nam_e h
        refine lv_iinc (v := n_82) (lv' := [(7, .int n_82), (0, .ref (ad 4)), (1, .int a1), (2, .int a2), (3, .int a3), (4, .int a4), (5, .long v5_j82)]) hx hb dX4_weightIn_82 hl (k := 6) rfl (by rw [e_82]; rfl) (by decide) rfl (fun ls hl => ?_)
        refine lv_goto (tgt := 6) hx hb dX4_weightIn_85 (by decide) ?_
        exact ih_6 (v5_j82, n_82) H locs ls (nx_l hx_6 h) hw (lv_sub hl [6, 0, 2, 3, 4, 5, 1] rfl)
      have hJ_63 : ∀ (v5_j63 : Int64) (v7_j63 : Int32) (k0_j63 : Int32) (H : Heap) (locs : List Loc) (ls : Array Slot), f4_weightIn_j63 a1 a2 a3 a4 v5_j63 v7_j63 k0_j63 s4 = some x_6 → Wd D (cellsC ad cy s0 s1 s2 s3 s4 s5 s6 s7 s8 s9 s10) (Afr ad 67 s.heap.size) s.heap H locs → lv_has ls 9 [(0, .ref (ad 4)), (1, .int a1), (2, .int a2), (3, .int a3), (4, .int a4), (5, .long v5_j63), (7, .int v7_j63)] → W p l e (rmL 2) s m ([.ref (ad 4), .int a1, .int a2, .int a3, .int a4] : List Value).toArray below meth c H locs 0 0 Q (F0 m 63 ls [.int k0_j63]) := by
        intro v5_j63 v7_j63 k0_j63 H locs ls h hw hl
        unfold f4_weightIn_j63 at h
        refine lv_istore (lv' := [(8, .int k0_j63), (0, .ref (ad 4)), (1, .int a1), (2, .int a2), (3, .int a3), (4, .int a4), (5, .long v5_j63), (7, .int v7_j63)]) hx hb dX4_weightIn_63 hl (by decide) rfl (fun ls hl => ?_)
        refine lv_iload hx hb dX4_weightIn_65 (lv_at hl 0 rfl) ?_
        refine lv_if_eq (tgt := 82) hx hb dX4_weightIn_67 (by decide) (fun c_67 => ?_) (fun c_67 => ?_)
        · have h := ite_t c_67 h
          exact hJ_82 v5_j63 v7_j63 H locs ls h hw (lv_sub hl [1, 2, 3, 4, 5, 6, 7] rfl)
        · have h := ite_f c_67 h
          refine lv_lload hx hb dX4_weightIn_70 (lv_at hl 6 rfl) ?_
          refine lv_aload_n hx hb dX4_weightIn_72 rfl (lv_at hl 1 rfl) ?_
          refine lv_iload hx hb dX4_weightIn_73 (lv_at hl 7 rfl) ?_
          obtain ⟨q_75, h_75, h⟩ := bnd_e h
          have pg_75 := preG (av := [.ref (ad 4), .int v7_j63]) hK hw.1 hw.2.1 (NC_keep hN hw.2.2) NC_blind
          refine endI (mc := 0) (ms := 0) (va_runV (As := [.int v7_j63]) (rest := [.long v5_j63]) ⟨hx, hb, hml, hown, hts⟩ (m4_weightOf l D ad cy H.size s0 s1 s2 s3 s4 s5 s6 s7 s8 s9 s10 v7_j63 q_75 h_75) (wX4_87 1 hts ⟨Nat.le_of_ble_eq_true rfl, Nat.le_of_ble_eq_true rfl⟩) ⟨pg_75.1, va_recv hK hw.1 (ci := 4) (q0 := 4) rfl eC_4, pg_75.2⟩ rfl rfl hl.1 rfl (lv_room (Nat.le_of_ble_eq_true rfl)) dX4_weightIn_75 ⟨Nat.le_refl _, Nat.le_refl _⟩) hw.2.2 (afr_in hw.2.2) (fun H locs hw => ?_)
          refine lv_i2l hx hb dX4_weightIn_78 rfl ?_
          refine lv_ladd hx hb dX4_weightIn_79 ?_
          obtain ⟨n_80, e_80, h⟩ := nam_e h
          refine topL e_80 ?_
          refine lv_lstore (lv' := [(5, .long n_80), (8, .int k0_j63), (0, .ref (ad 4)), (1, .int a1), (2, .int a2), (3, .int a3), (4, .int a4), (7, .int v7_j63)]) hx hb dX4_weightIn_80 hl (by decide) rfl (fun ls hl => ?_)
          exact hJ_82 n_80 v7_j63 H locs ls h hw (lv_sub hl [2, 3, 4, 5, 6, 0, 7] rfl)
      have hJ_62 : ∀ (v5_j62 : Int64) (v7_j62 : Int32) (H : Heap) (locs : List Loc) (ls : Array Slot), f4_weightIn_j62 a1 a2 a3 a4 v5_j62 v7_j62 s4 = some x_6 → Wd D (cellsC ad cy s0 s1 s2 s3 s4 s5 s6 s7 s8 s9 s10) (Afr ad 67 s.heap.size) s.heap H locs → lv_has ls 9 [(0, .ref (ad 4)), (1, .int a1), (2, .int a2), (3, .int a3), (4, .int a4), (5, .long v5_j62), (7, .int v7_j62)] → W p l e (rmL 2) s m ([.ref (ad 4), .int a1, .int a2, .int a3, .int a4] : List Value).toArray below meth c H locs 0 0 Q (F0 m 62 ls []) := by
        intro v5_j62 v7_j62 H locs ls h hw hl
        unfold f4_weightIn_j62 at h
        refine lv_iconst (v := 0) hx hb dX4_weightIn_62 (by decide) ?_
        exact hJ_63 v5_j62 v7_j62 ((0 : Int32)) H locs ls h hw (lv_sub hl [0, 1, 2, 3, 4, 5, 6] rfl)
      have hJ_58 : ∀ (v5_j58 : Int64) (v7_j58 : Int32) (H : Heap) (locs : List Loc) (ls : Array Slot), f4_weightIn_j58 a1 a2 a3 a4 v5_j58 v7_j58 s4 = some x_6 → Wd D (cellsC ad cy s0 s1 s2 s3 s4 s5 s6 s7 s8 s9 s10) (Afr ad 67 s.heap.size) s.heap H locs → lv_has ls 9 [(0, .ref (ad 4)), (1, .int a1), (2, .int a2), (3, .int a3), (4, .int a4), (5, .long v5_j58), (7, .int v7_j58)] → W p l e (rmL 2) s m ([.ref (ad 4), .int a1, .int a2, .int a3, .int a4] : List Value).toArray below meth c H locs 0 0 Q (F0 m 58 ls []) := by
        intro v5_j58 v7_j58 H locs ls h hw hl
        unfold f4_weightIn_j58 at h
        refine lv_iconst (v := 1) hx hb dX4_weightIn_58 (by decide) ?_
        refine lv_goto (tgt := 63) hx hb dX4_weightIn_59 (by decide) ?_
        exact hJ_63 v5_j58 v7_j58 ((1 : Int32)) H locs ls h hw (lv_sub hl [0, 1, 2, 3, 4, 5, 6] rfl)
      have hJ_30 : ∀ (v5_j30 : Int64) (v7_j30 : Int32) (H : Heap) (locs : List Loc) (ls : Array Slot), f4_weightIn_j30 a1 a2 a3 a4 v5_j30 v7_j30 s4 = some x_6 → Wd D (cellsC ad cy s0 s1 s2 s3 s4 s5 s6 s7 s8 s9 s10) (Afr ad 67 s.heap.size) s.heap H locs → lv_has ls 9 [(0, .ref (ad 4)), (1, .int a1), (2, .int a2), (3, .int a3), (4, .int a4), (5, .long v5_j30), (7, .int v7_j30)] → W p l e (rmL 2) s m ([.ref (ad 4), .int a1, .int a2, .int a3, .int a4] : List Value).toArray below meth c H locs 0 0 Q (F0 m 30 ls []) := by
        intro v5_j30 v7_j30 H locs ls h hw hl
        unfold f4_weightIn_j30 at h
        refine lv_aload_n hx hb dX4_weightIn_30 rfl (lv_at hl 0 rfl) ?_
        refine lv_iload hx hb dX4_weightIn_31 (lv_at hl 6 rfl) ?_
        obtain ⟨q_33, h_33, h⟩ := bnd_e h
        have pg_33 := preG (av := [.ref (ad 4), .int v7_j30]) hK hw.1 hw.2.1 (NC_keep hN hw.2.2) NC_blind
        refine endI (mc := 0) (ms := 0) (va_runV (As := [.int v7_j30]) (rest := []) ⟨hx, hb, hml, hown, hts⟩ (m4_placeOf l D ad cy H.size s0 s1 s2 s3 s4 s5 s6 s7 s8 s9 s10 v7_j30 q_33 h_33) (wX4_77 1 hts ⟨Nat.le_of_ble_eq_true rfl, Nat.le_of_ble_eq_true rfl⟩) ⟨pg_33.1, va_recv hK hw.1 (ci := 4) (q0 := 4) rfl eC_4, pg_33.2⟩ rfl rfl hl.1 rfl (lv_room (Nat.le_of_ble_eq_true rfl)) dX4_weightIn_33 ⟨Nat.le_refl _, Nat.le_refl _⟩) hw.2.2 (afr_in hw.2.2) (fun H locs hw => ?_)
        refine lv_iload_n hx hb dX4_weightIn_36 rfl (lv_at hl 2 rfl) ?_
        refine lv_iload_n hx hb dX4_weightIn_37 rfl (lv_at hl 3 rfl) ?_
        obtain ⟨q_38, h_38, h⟩ := bnd_e h
        have pg_38 := preG (av := [.int q_33, .int a2, .int a3]) hK hw.1 hw.2.1 (NC_keep hN hw.2.2) NC_blind
        refine endI (mc := 0) (ms := 0) (va_runSN (As := [.int q_33, .int a2, .int a3]) (rest := []) ⟨hx, hb, hml, hown, hts⟩ (m10_isWithin l D ad cy H.size s0 s1 s2 s3 s4 s5 s6 s7 s8 s9 s10 q_33 a2 a3 q_38 h_38) (wX4_80 0 hts hN.1 ⟨Nat.le_of_ble_eq_true rfl, Nat.le_of_ble_eq_true rfl⟩) pg_38 rfl rfl hl.1 rfl (lv_room (Nat.le_of_ble_eq_true rfl)) dX4_weightIn_38 ⟨Nat.le_refl _, Nat.le_refl _⟩) hw.2.2 (afr_in hw.2.2) (fun H locs hw => ?_)
        refine lv_if_eq (tgt := 62) hx hb dX4_weightIn_41 (by decide) (fun c_41 => ?_) (fun c_41 => ?_)
        · have h := ite_t c_41 h
          exact hJ_62 v5_j30 v7_j30 H locs ls h hw (lv_sub hl [0, 1, 2, 3, 4, 5, 6] rfl)
        · have h := ite_f c_41 h
          refine lv_iload hx hb dX4_weightIn_44 (lv_at hl 4 rfl) ?_
          refine lv_if_eq (tgt := 58) hx hb dX4_weightIn_46 (by decide) (fun c_46 => ?_) (fun c_46 => ?_)
          · have h := ite_t c_46 h
            exact hJ_58 v5_j30 v7_j30 H locs ls h hw (lv_sub hl [0, 1, 2, 3, 4, 5, 6] rfl)
          · have h := ite_f c_46 h
            refine lv_aload_n hx hb dX4_weightIn_49 rfl (lv_at hl 0 rfl) ?_
            refine lv_iload hx hb dX4_weightIn_50 (lv_at hl 6 rfl) ?_
            obtain ⟨q_52, h_52, h⟩ := bnd_e h
            have pg_52 := preG (av := [.ref (ad 4), .int v7_j30]) hK hw.1 hw.2.1 (NC_keep hN hw.2.2) NC_blind
            refine endI (mc := 0) (ms := 0) (va_runV (As := [.int v7_j30]) (rest := []) ⟨hx, hb, hml, hown, hts⟩ (m4_metOf l D ad cy H.size s0 s1 s2 s3 s4 s5 s6 s7 s8 s9 s10 v7_j30 q_52 h_52) (wX4_84 1 hts ⟨Nat.le_of_ble_eq_true rfl, Nat.le_of_ble_eq_true rfl⟩) ⟨pg_52.1, va_recv hK hw.1 (ci := 4) (q0 := 4) rfl eC_4, pg_52.2⟩ rfl rfl hl.1 rfl (lv_room (Nat.le_of_ble_eq_true rfl)) dX4_weightIn_52 ⟨Nat.le_refl _, Nat.le_refl _⟩) hw.2.2 (afr_in hw.2.2) (fun H locs hw => ?_)
            refine lv_if_ne (tgt := 62) hx hb dX4_weightIn_55 (by decide) (fun c_55 => ?_) (fun c_55 => ?_)
            · have h := ite_f c_55 h
              exact hJ_62 v5_j30 v7_j30 H locs ls h hw (lv_sub hl [0, 1, 2, 3, 4, 5, 6] rfl)
            · have h := ite_t c_55 h
              exact hJ_58 v5_j30 v7_j30 H locs ls h hw (lv_sub hl [0, 1, 2, 3, 4, 5, 6] rfl)
      refine lv_iload hx hb dX4_weightIn_6 (lv_at hl 1 rfl) ?_
      refine lv_aload_n hx hb dX4_weightIn_8 rfl (lv_at hl 6 rfl) ?_
      refine gX4_48 hx hb hts hown hK hw dX4_weightIn_9 ?_
      refine lv_icmp_ge (tgt := 88) hx hb dX4_weightIn_12 (by decide) (fun c_12 => ?_) (fun c_12 => ?_)
      · have h := ite_t c_12 h
        have h := nx_m hx_6 h
        refine lv_lload hx hb dX4_weightIn_88 (lv_at hl 0 rfl) ?_
        have h := Option.some.inj h
        subst h
        rw [← hQ]
        exact retL hx hb hr hlk hw dX4_weightIn_90
      · have h := ite_f c_12 h
        refine lv_iload_n hx hb dX4_weightIn_15 rfl (lv_at hl 2 rfl) ?_
        refine lv_iconst (v := (-1)) hx hb dX4_weightIn_16 (by decide) ?_
        refine lv_icmp_eq (tgt := 30) hx hb dX4_weightIn_17 (by decide) (fun c_17 => ?_) (fun c_17 => ?_)
        · have h := ite_t c_17 h
          exact hJ_30 t_6.1 t_6.2 H locs ls h hw (lv_sub hl [6, 2, 3, 4, 5, 0, 1] rfl)
        · have h := ite_f c_17 h
          refine lv_aload_n hx hb dX4_weightIn_20 rfl (lv_at hl 6 rfl) ?_
          refine lv_iload hx hb dX4_weightIn_21 (lv_at hl 1 rfl) ?_
          obtain ⟨q_23, h_23, h⟩ := bnd_e h
          have pg_23 := preG (av := [.ref (ad 4), .int t_6.2]) hK hw.1 hw.2.1 (NC_keep hN hw.2.2) NC_blind
          refine endI (mc := 0) (ms := 0) (va_runV (As := [.int t_6.2]) (rest := []) ⟨hx, hb, hml, hown, hts⟩ (m4_kindOf l D ad cy H.size s0 s1 s2 s3 s4 s5 s6 s7 s8 s9 s10 t_6.2 q_23 h_23) (wX4_73 1 hts ⟨Nat.le_of_ble_eq_true rfl, Nat.le_of_ble_eq_true rfl⟩) ⟨pg_23.1, va_recv hK hw.1 (ci := 4) (q0 := 4) rfl eC_4, pg_23.2⟩ rfl rfl hl.1 rfl (lv_room (Nat.le_of_ble_eq_true rfl)) dX4_weightIn_23 ⟨Nat.le_refl _, Nat.le_refl _⟩) hw.2.2 (afr_in hw.2.2) (fun H locs hw => ?_)
          refine lv_iload_n hx hb dX4_weightIn_26 rfl (lv_at hl 2 rfl) ?_
          refine lv_icmp_ne (tgt := 62) hx hb dX4_weightIn_27 (by decide) (fun c_27 => ?_) (fun c_27 => ?_)
          · have h := ite_f c_27 h
            exact hJ_62 t_6.1 t_6.2 H locs ls h hw (lv_sub hl [6, 2, 3, 4, 5, 0, 1] rfl)
          · have h := ite_t c_27 h
            exact hJ_30 t_6.1 t_6.2 H locs ls h hw (lv_sub hl [6, 2, 3, 4, 5, 0, 1] rfl)
  exact hL_6 n_6 ((0 : Int64), (0 : Int32)) H locs ls hn_6 hw (lv_sub hl [1, 0, 3, 4, 5, 6, 2] rfl)
theorem dX4_unseal_0 : decode cX4_unseal 0 = .ok (.aload_n 0, 1) := by decide +kernel
theorem dX4_unseal_1 : decode cX4_unseal 1 = .ok (.iload_n 1, 1) := by decide +kernel
theorem dX4_unseal_2 : decode cX4_unseal 2 = .ok (.invokevirtual 52, 3) := by decide +kernel
theorem dX4_unseal_5 : decode cX4_unseal 5 = .ok (.ifCond .eq 10, 3) := by decide +kernel
theorem dX4_unseal_8 : decode cX4_unseal 8 = .ok (.aload_n 0, 1) := by decide +kernel
theorem dX4_unseal_9 : decode cX4_unseal 9 = .ok (.getfield 33, 3) := by decide +kernel
theorem dX4_unseal_12 : decode cX4_unseal 12 = .ok (.iload_n 1, 1) := by decide +kernel
theorem dX4_unseal_13 : decode cX4_unseal 13 = .ok (.iconst 0, 1) := by decide +kernel
theorem dX4_unseal_14 : decode cX4_unseal 14 = .ok (.bastore, 1) := by decide +kernel
theorem dX4_unseal_15 : decode cX4_unseal 15 = .ok (.return_, 1) := by decide +kernel
def f4_unseal_j15 (s4_j15 : OS) : Option (OS) := some s4_j15
def f4_unseal (a1 : Int32) (s4 : OS) : Option (OS) := Option.bind (f4_has a1 s4) fun q_2 => if q_2 = 0 then (f4_unseal_j15 s4) else (chk (inb a1 150) (nm (wI s4 8 a1.toNatClampNeg (vp_nar .boolean ((0 : Int32)))) fun s4_14 => f4_unseal_j15 s4_14))
set_option maxHeartbeats 4000000 in
set_option maxRecDepth 100000 in
theorem m4_unseal (l : Launch) (D : va_G) (ad : Nat → Nat) (cy : Nat → ClassId) (sz : Nat) (s0 s1 s2 s3 s4 s5 s6 s7 s8 s9 s10 : OS) (a1 : Int32) (r : OS) (h : f4_unseal a1 s4 = some r) : Met l yX4_unseal (wsOf yX4_unseal cX4_unseal 2 none) (rmL 1) (va_Pc ([.ref (ad 4), .int a1] : List Value) (PreG D cy (cellsC ad cy s0 s1 s2 s3 s4 s5 s6 s7 s8 s9 s10) sz (NC ad))) (QcV D ad 67 (cellsC ad cy s0 s1 s2 s3 r s5 s6 s7 s8 s9 s10) sz) 0 0 (Afr ad 67 sz) := by
  refine metG (own := RX4) (by decide) rfl (Nat.le_of_ble_eq_true rfl) fstC ?_ sz
  intro p e s m below meth c ls C0 hw hl
  obtain ⟨hx, hb, hml, hown, hts, hr, hlk, hK, hN⟩ := C0
  have hl : lv_has ls 2 [(0, .ref (ad 4)), (1, .int a1)] := hl
  generalize hQ : MQ below (QcV D ad 67 (cellsC ad cy s0 s1 s2 s3 r s5 s6 s7 s8 s9 s10) s.heap.size) ([.ref (ad 4), .int a1] : List Value).toArray s 0 0 (Afr ad 67 s.heap.size) = Q
  obtain ⟨H, hH⟩ : ∃ H : Heap, H = s.heap := ⟨_, rfl⟩
  obtain ⟨locs, hlc⟩ : ∃ L : List Loc, L = [] := ⟨_, rfl⟩
  have hw : Wd D (cellsC ad cy s0 s1 s2 s3 s4 s5 s6 s7 s8 s9 s10) (Afr ad 67 s.heap.size) s.heap H locs := by rw [hH, hlc]; exact hw
  suffices h0 : W p l e (rmL 1) s m ([.ref (ad 4), .int a1] : List Value).toArray below meth c H locs 0 0 Q (F0 m 0 ls []) by rw [hH, hlc] at h0; exact h0
  clear hH hlc
  unfold f4_unseal at h
  have hJ_15 : ∀ (s4_j15 : OS) (H : Heap) (locs : List Loc) (ls : Array Slot), f4_unseal_j15 s4_j15 = some r → Wd D (cellsC ad cy s0 s1 s2 s3 s4_j15 s5 s6 s7 s8 s9 s10) (Afr ad 67 s.heap.size) s.heap H locs → lv_has ls 2 [] → W p l e (rmL 1) s m ([.ref (ad 4), .int a1] : List Value).toArray below meth c H locs 0 0 Q (F0 m 15 ls []) := by
    intro s4_j15 H locs ls h hw hl
    unfold f4_unseal_j15 at h
    have h := Option.some.inj h
    subst h
    rw [← hQ]
    exact retV hx hb hr hlk hw dX4_unseal_15
  refine lv_aload_n hx hb dX4_unseal_0 rfl (lv_at hl 0 rfl) ?_
  refine lv_iload_n hx hb dX4_unseal_1 rfl (lv_at hl 1 rfl) ?_
  obtain ⟨q_2, h_2, h⟩ := bnd_e h
  have pg_2 := preG (av := [.ref (ad 4), .int a1]) hK hw.1 hw.2.1 (NC_keep hN hw.2.2) NC_blind
  refine endI (mc := 0) (ms := 0) (va_runV (As := [.int a1]) (rest := []) ⟨hx, hb, hml, hown, hts⟩ (m4_has l D ad cy H.size s0 s1 s2 s3 s4 s5 s6 s7 s8 s9 s10 a1 q_2 h_2) (wX4_52 0 hts ⟨Nat.le_of_ble_eq_true rfl, Nat.le_of_ble_eq_true rfl⟩) ⟨pg_2.1, va_recv hK hw.1 (ci := 4) (q0 := 4) rfl eC_4, pg_2.2⟩ rfl rfl hl.1 rfl (lv_room (Nat.le_of_ble_eq_true rfl)) dX4_unseal_2 ⟨Nat.le_refl _, Nat.le_refl _⟩) hw.2.2 (afr_in hw.2.2) (fun H locs hw => ?_)
  refine lv_if_eq (tgt := 15) hx hb dX4_unseal_5 (by decide) (fun c_5 => ?_) (fun c_5 => ?_)
  · have h := ite_t c_5 h
    exact hJ_15 s4 H locs ls h hw (lv_sub hl [] rfl)
  · have h := ite_f c_5 h
    refine lv_aload_n hx hb dX4_unseal_8 rfl (lv_at hl 0 rfl) ?_
    refine gX4_33 hx hb hts hown hK hw dX4_unseal_9 ?_
    refine lv_iload_n hx hb dX4_unseal_12 rfl (lv_at hl 1 rfl) ?_
    refine lv_iconst (v := 0) hx hb dX4_unseal_13 (by decide) ?_
    obtain ⟨hi_14, h⟩ := chk_e h
    obtain ⟨s4_14, e_14, h⟩ := nam_e h
    refine aC43 hx hb hK hw hi_14 e_14 dX4_unseal_14 (fun H locs hw => ?_)
    exact hJ_15 s4_14 H locs ls h hw (lv_sub hl [] rfl)
theorem dX4_tell_0 : decode cX4_tell 0 = .ok (.aload_n 0, 1) := by decide +kernel
theorem dX4_tell_1 : decode cX4_tell 1 = .ok (.iload_n 1, 1) := by decide +kernel
theorem dX4_tell_2 : decode cX4_tell 2 = .ok (.invokevirtual 52, 3) := by decide +kernel
theorem dX4_tell_5 : decode cX4_tell 5 = .ok (.ifCond .ne 5, 3) := by decide +kernel
theorem dX4_tell_8 : decode cX4_tell 8 = .ok (.iconst (-1), 1) := by decide +kernel
theorem dX4_tell_9 : decode cX4_tell 9 = .ok (.ireturn, 1) := by decide +kernel
theorem dX4_tell_10 : decode cX4_tell 10 = .ok (.iload_n 2, 1) := by decide +kernel
theorem dX4_tell_11 : decode cX4_tell 11 = .ok (.tableswitch 109 0 7 #[45, 52, 59, 66, 73, 80, 87, 94], 45) := by decide +kernel
theorem dX4_tell_56 : decode cX4_tell 56 = .ok (.aload_n 0, 1) := by decide +kernel
theorem dX4_tell_57 : decode cX4_tell 57 = .ok (.getfield 9, 3) := by decide +kernel
theorem dX4_tell_60 : decode cX4_tell 60 = .ok (.iload_n 1, 1) := by decide +kernel
theorem dX4_tell_61 : decode cX4_tell 61 = .ok (.iaload, 1) := by decide +kernel
theorem dX4_tell_62 : decode cX4_tell 62 = .ok (.ireturn, 1) := by decide +kernel
theorem dX4_tell_63 : decode cX4_tell 63 = .ok (.aload_n 0, 1) := by decide +kernel
theorem dX4_tell_64 : decode cX4_tell 64 = .ok (.getfield 15, 3) := by decide +kernel
theorem dX4_tell_67 : decode cX4_tell 67 = .ok (.iload_n 1, 1) := by decide +kernel
theorem dX4_tell_68 : decode cX4_tell 68 = .ok (.iaload, 1) := by decide +kernel
theorem dX4_tell_69 : decode cX4_tell 69 = .ok (.ireturn, 1) := by decide +kernel
theorem dX4_tell_70 : decode cX4_tell 70 = .ok (.aload_n 0, 1) := by decide +kernel
theorem dX4_tell_71 : decode cX4_tell 71 = .ok (.getfield 18, 3) := by decide +kernel
theorem dX4_tell_74 : decode cX4_tell 74 = .ok (.iload_n 1, 1) := by decide +kernel
theorem dX4_tell_75 : decode cX4_tell 75 = .ok (.iaload, 1) := by decide +kernel
theorem dX4_tell_76 : decode cX4_tell 76 = .ok (.ireturn, 1) := by decide +kernel
theorem dX4_tell_77 : decode cX4_tell 77 = .ok (.aload_n 0, 1) := by decide +kernel
theorem dX4_tell_78 : decode cX4_tell 78 = .ok (.getfield 21, 3) := by decide +kernel
theorem dX4_tell_81 : decode cX4_tell 81 = .ok (.iload_n 1, 1) := by decide +kernel
theorem dX4_tell_82 : decode cX4_tell 82 = .ok (.iaload, 1) := by decide +kernel
theorem dX4_tell_83 : decode cX4_tell 83 = .ok (.ireturn, 1) := by decide +kernel
theorem dX4_tell_84 : decode cX4_tell 84 = .ok (.aload_n 0, 1) := by decide +kernel
theorem dX4_tell_85 : decode cX4_tell 85 = .ok (.getfield 24, 3) := by decide +kernel
theorem dX4_tell_88 : decode cX4_tell 88 = .ok (.iload_n 1, 1) := by decide +kernel
theorem dX4_tell_89 : decode cX4_tell 89 = .ok (.iaload, 1) := by decide +kernel
theorem dX4_tell_90 : decode cX4_tell 90 = .ok (.ireturn, 1) := by decide +kernel
theorem dX4_tell_91 : decode cX4_tell 91 = .ok (.aload_n 0, 1) := by decide +kernel
theorem dX4_tell_92 : decode cX4_tell 92 = .ok (.getfield 27, 3) := by decide +kernel
theorem dX4_tell_95 : decode cX4_tell 95 = .ok (.iload_n 1, 1) := by decide +kernel
theorem dX4_tell_96 : decode cX4_tell 96 = .ok (.iaload, 1) := by decide +kernel
theorem dX4_tell_97 : decode cX4_tell 97 = .ok (.ireturn, 1) := by decide +kernel
theorem dX4_tell_98 : decode cX4_tell 98 = .ok (.aload_n 0, 1) := by decide +kernel
theorem dX4_tell_99 : decode cX4_tell 99 = .ok (.getfield 30, 3) := by decide +kernel
theorem dX4_tell_102 : decode cX4_tell 102 = .ok (.iload_n 1, 1) := by decide +kernel
theorem dX4_tell_103 : decode cX4_tell 103 = .ok (.iaload, 1) := by decide +kernel
theorem dX4_tell_104 : decode cX4_tell 104 = .ok (.ireturn, 1) := by decide +kernel
theorem dX4_tell_105 : decode cX4_tell 105 = .ok (.aload_n 0, 1) := by decide +kernel
theorem dX4_tell_106 : decode cX4_tell 106 = .ok (.getfield 33, 3) := by decide +kernel
theorem dX4_tell_109 : decode cX4_tell 109 = .ok (.iload_n 1, 1) := by decide +kernel
theorem dX4_tell_110 : decode cX4_tell 110 = .ok (.baload, 1) := by decide +kernel
theorem dX4_tell_111 : decode cX4_tell 111 = .ok (.ifCond .eq 7, 3) := by decide +kernel
theorem dX4_tell_114 : decode cX4_tell 114 = .ok (.iconst 1, 1) := by decide +kernel
theorem dX4_tell_115 : decode cX4_tell 115 = .ok (.goto 4, 3) := by decide +kernel
theorem dX4_tell_118 : decode cX4_tell 118 = .ok (.iconst 0, 1) := by decide +kernel
theorem dX4_tell_119 : decode cX4_tell 119 = .ok (.ireturn, 1) := by decide +kernel
theorem dX4_tell_120 : decode cX4_tell 120 = .ok (.iconst (-1), 1) := by decide +kernel
theorem dX4_tell_121 : decode cX4_tell 121 = .ok (.ireturn, 1) := by decide +kernel
def f4_tell_j119 (k0_j119 : Int32) (s4_j119 : OS) : Option (Int32) := some k0_j119
def f4_tell (a1 : Int32) (a2 : Int32) (s4 : OS) : Option (Int32) := Option.bind (f4_has a1 s4) fun q_2 => if q_2 = 0 then (some ((-1 : Int32))) else (if a2 = 0 then (chk (inb a1 150) (nm (s4.1 1 a1.toNatClampNeg) fun y_61 => some y_61)) else if a2 = 1 then (chk (inb a1 150) (nm (s4.1 2 a1.toNatClampNeg) fun y_68 => some y_68)) else if a2 = 2 then (chk (inb a1 150) (nm (s4.1 3 a1.toNatClampNeg) fun y_75 => some y_75)) else if a2 = 3 then (chk (inb a1 150) (nm (s4.1 4 a1.toNatClampNeg) fun y_82 => some y_82)) else if a2 = 4 then (chk (inb a1 150) (nm (s4.1 5 a1.toNatClampNeg) fun y_89 => some y_89)) else if a2 = 5 then (chk (inb a1 150) (nm (s4.1 6 a1.toNatClampNeg) fun y_96 => some y_96)) else if a2 = 6 then (chk (inb a1 150) (nm (s4.1 7 a1.toNatClampNeg) fun y_103 => some y_103)) else if a2 = 7 then (chk (inb a1 150) (nm (s4.1 8 a1.toNatClampNeg) fun y_110 => if y_110 = 0 then (f4_tell_j119 ((0 : Int32)) s4) else (f4_tell_j119 ((1 : Int32)) s4))) else (some ((-1 : Int32))))
set_option maxHeartbeats 4000000 in
set_option maxRecDepth 100000 in
theorem m4_tell (l : Launch) (D : va_G) (ad : Nat → Nat) (cy : Nat → ClassId) (sz : Nat) (s0 s1 s2 s3 s4 s5 s6 s7 s8 s9 s10 : OS) (a1 : Int32) (a2 : Int32) (r : Int32) (h : f4_tell a1 a2 s4 = some r) : Met l yX4_tell (wsOf yX4_tell cX4_tell 3 (some .int)) (rmL 1) (va_Pc ([.ref (ad 4), .int a1, .int a2] : List Value) (PreG D cy (cellsC ad cy s0 s1 s2 s3 s4 s5 s6 s7 s8 s9 s10) sz (NC ad))) (QcI D ad 67 (cellsC ad cy s0 s1 s2 s3 s4 s5 s6 s7 s8 s9 s10) (r) sz) 0 0 (Afr ad 67 sz) := by
  refine metG (own := RX4) (by decide) rfl (Nat.le_of_ble_eq_true rfl) fstC ?_ sz
  intro p e s m below meth c ls C0 hw hl
  obtain ⟨hx, hb, hml, hown, hts, hr, hlk, hK, hN⟩ := C0
  have hl : lv_has ls 3 [(0, .ref (ad 4)), (1, .int a1), (2, .int a2)] := hl
  generalize hQ : MQ below (QcI D ad 67 (cellsC ad cy s0 s1 s2 s3 s4 s5 s6 s7 s8 s9 s10) (r) s.heap.size) ([.ref (ad 4), .int a1, .int a2] : List Value).toArray s 0 0 (Afr ad 67 s.heap.size) = Q
  obtain ⟨H, hH⟩ : ∃ H : Heap, H = s.heap := ⟨_, rfl⟩
  obtain ⟨locs, hlc⟩ : ∃ L : List Loc, L = [] := ⟨_, rfl⟩
  have hw : Wd D (cellsC ad cy s0 s1 s2 s3 s4 s5 s6 s7 s8 s9 s10) (Afr ad 67 s.heap.size) s.heap H locs := by rw [hH, hlc]; exact hw
  suffices h0 : W p l e (rmL 1) s m ([.ref (ad 4), .int a1, .int a2] : List Value).toArray below meth c H locs 0 0 Q (F0 m 0 ls []) by rw [hH, hlc] at h0; exact h0
  clear hH hlc
  unfold f4_tell at h
  have hJ_119 : ∀ (k0_j119 : Int32) (H : Heap) (locs : List Loc) (ls : Array Slot), f4_tell_j119 k0_j119 s4 = some r → Wd D (cellsC ad cy s0 s1 s2 s3 s4 s5 s6 s7 s8 s9 s10) (Afr ad 67 s.heap.size) s.heap H locs → lv_has ls 3 [] → W p l e (rmL 1) s m ([.ref (ad 4), .int a1, .int a2] : List Value).toArray below meth c H locs 0 0 Q (F0 m 119 ls [.int k0_j119]) := by
    intro k0_j119 H locs ls h hw hl
    unfold f4_tell_j119 at h
    have h := Option.some.inj h
    subst h
    rw [← hQ]
    exact retI hx hb hr hlk hw rfl dX4_tell_119
  refine lv_aload_n hx hb dX4_tell_0 rfl (lv_at hl 0 rfl) ?_
  refine lv_iload_n hx hb dX4_tell_1 rfl (lv_at hl 1 rfl) ?_
  obtain ⟨q_2, h_2, h⟩ := bnd_e h
  have pg_2 := preG (av := [.ref (ad 4), .int a1]) hK hw.1 hw.2.1 (NC_keep hN hw.2.2) NC_blind
  refine endI (mc := 0) (ms := 0) (va_runV (As := [.int a1]) (rest := []) ⟨hx, hb, hml, hown, hts⟩ (m4_has l D ad cy H.size s0 s1 s2 s3 s4 s5 s6 s7 s8 s9 s10 a1 q_2 h_2) (wX4_52 0 hts ⟨Nat.le_of_ble_eq_true rfl, Nat.le_of_ble_eq_true rfl⟩) ⟨pg_2.1, va_recv hK hw.1 (ci := 4) (q0 := 4) rfl eC_4, pg_2.2⟩ rfl rfl hl.1 rfl (lv_room (Nat.le_of_ble_eq_true rfl)) dX4_tell_2 ⟨Nat.le_refl _, Nat.le_refl _⟩) hw.2.2 (afr_in hw.2.2) (fun H locs hw => ?_)
  refine lv_if_ne (tgt := 10) hx hb dX4_tell_5 (by decide) (fun c_5 => ?_) (fun c_5 => ?_)
  · have h := ite_f c_5 h
    refine lv_iload_n hx hb dX4_tell_10 rfl (lv_at hl 2 rfl) ?_
    have q_11 : ∀ tgt : Nat, W p l e (rmL 1) s m ([.ref (ad 4), .int a1, .int a2] : List Value).toArray below meth c H locs 0 0 Q (F0 m tgt ls []) → W p l e (rmL 1) s m ([.ref (ad 4), .int a1, .int a2] : List Value).toArray below meth c H locs 0 0 Q (F0 m tgt ls []) := fun _ z => z
    by_cases c_11_0 : a2 = 0
    · have h := ite_t c_11_0 h
      refine lv_tableIn (off := 45) (tgt := 56) hx hb dX4_tell_11 (by rw [c_11_0]; decide) (by rw [c_11_0]; decide) (by rw [c_11_0]; rfl) (by decide) ?_
      refine lv_aload_n hx hb dX4_tell_56 rfl (lv_at hl 0 rfl) ?_
      refine gX4_9 hx hb hts hown hK hw dX4_tell_57 ?_
      refine lv_iload_n hx hb dX4_tell_60 rfl (lv_at hl 1 rfl) ?_
      obtain ⟨hi_61, h⟩ := chk_e h
      obtain ⟨y_61, e_61, h⟩ := nam_e h
      refine lC36 hx hb hK hw hi_61 e_61 dX4_tell_61 ?_
      have h := Option.some.inj h
      subst h
      rw [← hQ]
      exact retI hx hb hr hlk hw rfl dX4_tell_62
    have h := ite_f c_11_0 h
    by_cases c_11_1 : a2 = 1
    · have h := ite_t c_11_1 h
      refine lv_tableIn (off := 52) (tgt := 63) hx hb dX4_tell_11 (by rw [c_11_1]; decide) (by rw [c_11_1]; decide) (by rw [c_11_1]; rfl) (by decide) ?_
      refine lv_aload_n hx hb dX4_tell_63 rfl (lv_at hl 0 rfl) ?_
      refine gX4_15 hx hb hts hown hK hw dX4_tell_64 ?_
      refine lv_iload_n hx hb dX4_tell_67 rfl (lv_at hl 1 rfl) ?_
      obtain ⟨hi_68, h⟩ := chk_e h
      obtain ⟨y_68, e_68, h⟩ := nam_e h
      refine lC37 hx hb hK hw hi_68 e_68 dX4_tell_68 ?_
      have h := Option.some.inj h
      subst h
      rw [← hQ]
      exact retI hx hb hr hlk hw rfl dX4_tell_69
    have h := ite_f c_11_1 h
    by_cases c_11_2 : a2 = 2
    · have h := ite_t c_11_2 h
      refine lv_tableIn (off := 59) (tgt := 70) hx hb dX4_tell_11 (by rw [c_11_2]; decide) (by rw [c_11_2]; decide) (by rw [c_11_2]; rfl) (by decide) ?_
      refine lv_aload_n hx hb dX4_tell_70 rfl (lv_at hl 0 rfl) ?_
      refine gX4_18 hx hb hts hown hK hw dX4_tell_71 ?_
      refine lv_iload_n hx hb dX4_tell_74 rfl (lv_at hl 1 rfl) ?_
      obtain ⟨hi_75, h⟩ := chk_e h
      obtain ⟨y_75, e_75, h⟩ := nam_e h
      refine lC38 hx hb hK hw hi_75 e_75 dX4_tell_75 ?_
      have h := Option.some.inj h
      subst h
      rw [← hQ]
      exact retI hx hb hr hlk hw rfl dX4_tell_76
    have h := ite_f c_11_2 h
    by_cases c_11_3 : a2 = 3
    · have h := ite_t c_11_3 h
      refine lv_tableIn (off := 66) (tgt := 77) hx hb dX4_tell_11 (by rw [c_11_3]; decide) (by rw [c_11_3]; decide) (by rw [c_11_3]; rfl) (by decide) ?_
      refine lv_aload_n hx hb dX4_tell_77 rfl (lv_at hl 0 rfl) ?_
      refine gX4_21 hx hb hts hown hK hw dX4_tell_78 ?_
      refine lv_iload_n hx hb dX4_tell_81 rfl (lv_at hl 1 rfl) ?_
      obtain ⟨hi_82, h⟩ := chk_e h
      obtain ⟨y_82, e_82, h⟩ := nam_e h
      refine lC39 hx hb hK hw hi_82 e_82 dX4_tell_82 ?_
      have h := Option.some.inj h
      subst h
      rw [← hQ]
      exact retI hx hb hr hlk hw rfl dX4_tell_83
    have h := ite_f c_11_3 h
    by_cases c_11_4 : a2 = 4
    · have h := ite_t c_11_4 h
      refine lv_tableIn (off := 73) (tgt := 84) hx hb dX4_tell_11 (by rw [c_11_4]; decide) (by rw [c_11_4]; decide) (by rw [c_11_4]; rfl) (by decide) ?_
      refine lv_aload_n hx hb dX4_tell_84 rfl (lv_at hl 0 rfl) ?_
      refine gX4_24 hx hb hts hown hK hw dX4_tell_85 ?_
      refine lv_iload_n hx hb dX4_tell_88 rfl (lv_at hl 1 rfl) ?_
      obtain ⟨hi_89, h⟩ := chk_e h
      obtain ⟨y_89, e_89, h⟩ := nam_e h
      refine lC40 hx hb hK hw hi_89 e_89 dX4_tell_89 ?_
      have h := Option.some.inj h
      subst h
      rw [← hQ]
      exact retI hx hb hr hlk hw rfl dX4_tell_90
    have h := ite_f c_11_4 h
    by_cases c_11_5 : a2 = 5
    · have h := ite_t c_11_5 h
      refine lv_tableIn (off := 80) (tgt := 91) hx hb dX4_tell_11 (by rw [c_11_5]; decide) (by rw [c_11_5]; decide) (by rw [c_11_5]; rfl) (by decide) ?_
      refine lv_aload_n hx hb dX4_tell_91 rfl (lv_at hl 0 rfl) ?_
      refine gX4_27 hx hb hts hown hK hw dX4_tell_92 ?_
      refine lv_iload_n hx hb dX4_tell_95 rfl (lv_at hl 1 rfl) ?_
      obtain ⟨hi_96, h⟩ := chk_e h
      obtain ⟨y_96, e_96, h⟩ := nam_e h
      refine lC41 hx hb hK hw hi_96 e_96 dX4_tell_96 ?_
      have h := Option.some.inj h
      subst h
      rw [← hQ]
      exact retI hx hb hr hlk hw rfl dX4_tell_97
    have h := ite_f c_11_5 h
    by_cases c_11_6 : a2 = 6
    · have h := ite_t c_11_6 h
      refine lv_tableIn (off := 87) (tgt := 98) hx hb dX4_tell_11 (by rw [c_11_6]; decide) (by rw [c_11_6]; decide) (by rw [c_11_6]; rfl) (by decide) ?_
      refine lv_aload_n hx hb dX4_tell_98 rfl (lv_at hl 0 rfl) ?_
      refine gX4_30 hx hb hts hown hK hw dX4_tell_99 ?_
      refine lv_iload_n hx hb dX4_tell_102 rfl (lv_at hl 1 rfl) ?_
      obtain ⟨hi_103, h⟩ := chk_e h
      obtain ⟨y_103, e_103, h⟩ := nam_e h
      refine lC42 hx hb hK hw hi_103 e_103 dX4_tell_103 ?_
      have h := Option.some.inj h
      subst h
      rw [← hQ]
      exact retI hx hb hr hlk hw rfl dX4_tell_104
    have h := ite_f c_11_6 h
    by_cases c_11_7 : a2 = 7
    · have h := ite_t c_11_7 h
      refine lv_tableIn (off := 94) (tgt := 105) hx hb dX4_tell_11 (by rw [c_11_7]; decide) (by rw [c_11_7]; decide) (by rw [c_11_7]; rfl) (by decide) ?_
      refine lv_aload_n hx hb dX4_tell_105 rfl (lv_at hl 0 rfl) ?_
      refine gX4_33 hx hb hts hown hK hw dX4_tell_106 ?_
      refine lv_iload_n hx hb dX4_tell_109 rfl (lv_at hl 1 rfl) ?_
      obtain ⟨hi_110, h⟩ := chk_e h
      obtain ⟨y_110, e_110, h⟩ := nam_e h
      refine lC43 hx hb hK hw hi_110 e_110 dX4_tell_110 ?_
      refine lv_if_eq (tgt := 118) hx hb dX4_tell_111 (by decide) (fun c_111 => ?_) (fun c_111 => ?_)
      · have h := ite_t c_111 h
        refine lv_iconst (v := 0) hx hb dX4_tell_118 (by decide) ?_
        exact hJ_119 ((0 : Int32)) H locs ls h hw (lv_sub hl [] rfl)
      · have h := ite_f c_111 h
        refine lv_iconst (v := 1) hx hb dX4_tell_114 (by decide) ?_
        refine lv_goto (tgt := 119) hx hb dX4_tell_115 (by decide) ?_
        exact hJ_119 ((1 : Int32)) H locs ls h hw (lv_sub hl [] rfl)
    have h := ite_f c_11_7 h
    refine lv_tableOut (tgt := 120) hx hb dX4_tell_11 (by have := lv_neT c_11_0 (a := 0) rfl; have := lv_neT c_11_1 (a := 1) rfl; have := lv_neT c_11_2 (a := 2) rfl; have := lv_neT c_11_3 (a := 3) rfl; have := lv_neT c_11_4 (a := 4) rfl; have := lv_neT c_11_5 (a := 5) rfl; have := lv_neT c_11_6 (a := 6) rfl; have := lv_neT c_11_7 (a := 7) rfl; omega) (by decide) ?_
    refine lv_iconst (v := (-1)) hx hb dX4_tell_120 (by decide) ?_
    have h := Option.some.inj h
    subst h
    rw [← hQ]
    exact retI hx hb hr hlk hw rfl dX4_tell_121
  · have h := ite_t c_5 h
    refine lv_iconst (v := (-1)) hx hb dX4_tell_8 (by decide) ?_
    have h := Option.some.inj h
    subst h
    rw [← hQ]
    exact retI hx hb hr hlk hw rfl dX4_tell_9
theorem dX4_bring_0 : decode cX4_bring 0 = .ok (.aload_n 0, 1) := by decide +kernel
theorem dX4_bring_1 : decode cX4_bring 1 = .ok (.getfield 48, 3) := by decide +kernel
theorem dX4_bring_4 : decode cX4_bring 4 = .ok (.istore 7, 2) := by decide +kernel
theorem dX4_bring_6 : decode cX4_bring 6 = .ok (.iload 7, 2) := by decide +kernel
theorem dX4_bring_8 : decode cX4_bring 8 = .ok (.ifCond .lt 11, 3) := by decide +kernel
theorem dX4_bring_11 : decode cX4_bring 11 = .ok (.iload 7, 2) := by decide +kernel
theorem dX4_bring_13 : decode cX4_bring 13 = .ok (.sipush 150, 3) := by decide +kernel
theorem dX4_bring_16 : decode cX4_bring 16 = .ok (.if_icmp .lt 5, 3) := by decide +kernel
theorem dX4_bring_19 : decode cX4_bring 19 = .ok (.iconst (-1), 1) := by decide +kernel
theorem dX4_bring_20 : decode cX4_bring 20 = .ok (.ireturn, 1) := by decide +kernel
theorem dX4_bring_21 : decode cX4_bring 21 = .ok (.aload_n 0, 1) := by decide +kernel
theorem dX4_bring_22 : decode cX4_bring 22 = .ok (.dup, 1) := by decide +kernel
theorem dX4_bring_23 : decode cX4_bring 23 = .ok (.getfield 48, 3) := by decide +kernel
theorem dX4_bring_26 : decode cX4_bring 26 = .ok (.iconst 1, 1) := by decide +kernel
theorem dX4_bring_27 : decode cX4_bring 27 = .ok (.iadd, 1) := by decide +kernel
theorem dX4_bring_28 : decode cX4_bring 28 = .ok (.putfield 48, 3) := by decide +kernel
theorem dX4_bring_31 : decode cX4_bring 31 = .ok (.aload_n 0, 1) := by decide +kernel
theorem dX4_bring_32 : decode cX4_bring 32 = .ok (.getfield 9, 3) := by decide +kernel
theorem dX4_bring_35 : decode cX4_bring 35 = .ok (.iload 7, 2) := by decide +kernel
theorem dX4_bring_37 : decode cX4_bring 37 = .ok (.iload_n 1, 1) := by decide +kernel
theorem dX4_bring_38 : decode cX4_bring 38 = .ok (.iastore, 1) := by decide +kernel
theorem dX4_bring_39 : decode cX4_bring 39 = .ok (.aload_n 0, 1) := by decide +kernel
theorem dX4_bring_40 : decode cX4_bring 40 = .ok (.getfield 15, 3) := by decide +kernel
theorem dX4_bring_43 : decode cX4_bring 43 = .ok (.iload 7, 2) := by decide +kernel
theorem dX4_bring_45 : decode cX4_bring 45 = .ok (.iload_n 2, 1) := by decide +kernel
theorem dX4_bring_46 : decode cX4_bring 46 = .ok (.iastore, 1) := by decide +kernel
theorem dX4_bring_47 : decode cX4_bring 47 = .ok (.aload_n 0, 1) := by decide +kernel
theorem dX4_bring_48 : decode cX4_bring 48 = .ok (.getfield 21, 3) := by decide +kernel
theorem dX4_bring_51 : decode cX4_bring 51 = .ok (.iload 7, 2) := by decide +kernel
theorem dX4_bring_53 : decode cX4_bring 53 = .ok (.iconst 0, 1) := by decide +kernel
theorem dX4_bring_54 : decode cX4_bring 54 = .ok (.iastore, 1) := by decide +kernel
theorem dX4_bring_55 : decode cX4_bring 55 = .ok (.aload_n 0, 1) := by decide +kernel
theorem dX4_bring_56 : decode cX4_bring 56 = .ok (.getfield 33, 3) := by decide +kernel
theorem dX4_bring_59 : decode cX4_bring 59 = .ok (.iload 7, 2) := by decide +kernel
theorem dX4_bring_61 : decode cX4_bring 61 = .ok (.iload 5, 2) := by decide +kernel
theorem dX4_bring_63 : decode cX4_bring 63 = .ok (.bastore, 1) := by decide +kernel
theorem dX4_bring_64 : decode cX4_bring 64 = .ok (.aload_n 0, 1) := by decide +kernel
theorem dX4_bring_65 : decode cX4_bring 65 = .ok (.getfield 27, 3) := by decide +kernel
theorem dX4_bring_68 : decode cX4_bring 68 = .ok (.iload 7, 2) := by decide +kernel
theorem dX4_bring_70 : decode cX4_bring 70 = .ok (.iconst (-1), 1) := by decide +kernel
theorem dX4_bring_71 : decode cX4_bring 71 = .ok (.iastore, 1) := by decide +kernel
theorem dX4_bring_72 : decode cX4_bring 72 = .ok (.aload_n 0, 1) := by decide +kernel
theorem dX4_bring_73 : decode cX4_bring 73 = .ok (.getfield 30, 3) := by decide +kernel
theorem dX4_bring_76 : decode cX4_bring 76 = .ok (.iload 7, 2) := by decide +kernel
theorem dX4_bring_78 : decode cX4_bring 78 = .ok (.iload 7, 2) := by decide +kernel
theorem dX4_bring_80 : decode cX4_bring 80 = .ok (.iastore, 1) := by decide +kernel
theorem dX4_bring_81 : decode cX4_bring 81 = .ok (.aload_n 0, 1) := by decide +kernel
theorem dX4_bring_82 : decode cX4_bring 82 = .ok (.iconst 0, 1) := by decide +kernel
theorem dX4_bring_83 : decode cX4_bring 83 = .ok (.iload 7, 2) := by decide +kernel
theorem dX4_bring_85 : decode cX4_bring 85 = .ok (.iload_n 3, 1) := by decide +kernel
theorem dX4_bring_86 : decode cX4_bring 86 = .ok (.i2l, 1) := by decide +kernel
theorem dX4_bring_87 : decode cX4_bring 87 = .ok (.invokevirtual 62, 3) := by decide +kernel
theorem dX4_bring_90 : decode cX4_bring 90 = .ok (.aload_n 0, 1) := by decide +kernel
theorem dX4_bring_91 : decode cX4_bring 91 = .ok (.iload 7, 2) := by decide +kernel
theorem dX4_bring_93 : decode cX4_bring 93 = .ok (.iload_n 3, 1) := by decide +kernel
theorem dX4_bring_94 : decode cX4_bring 94 = .ok (.iconst 0, 1) := by decide +kernel
theorem dX4_bring_95 : decode cX4_bring 95 = .ok (.iload 4, 2) := by decide +kernel
theorem dX4_bring_97 : decode cX4_bring 97 = .ok (.iload 6, 2) := by decide +kernel
theorem dX4_bring_99 : decode cX4_bring 99 = .ok (.invokevirtual 66, 3) := by decide +kernel
theorem dX4_bring_102 : decode cX4_bring 102 = .ok (.iload 7, 2) := by decide +kernel
theorem dX4_bring_104 : decode cX4_bring 104 = .ok (.ireturn, 1) := by decide +kernel
def f4_bring_j19 (s1_j19 : OS) (s4_j19 : OS) : Option (Int32 × OS × OS) := some ((-1 : Int32), s1_j19, s4_j19)
def f4_bring (a1 : Int32) (a2 : Int32) (a3 : Int32) (a4 : Int32) (a5 : Int32) (a6 : Int32) (s1 : OS) (s4 : OS) : Option (Int32 × OS × OS) := nm ((s4.1 0 10)) fun n_4 => if n_4 < 0 then (f4_bring_j19 s1 s4) else (if n_4 < (150 : Int32) then (nm (wI s4 0 10 (((s4.1 0 10) + (1 : Int32)))) fun s4_28 => chk (inb n_4 150) (nm (wI s4_28 1 n_4.toNatClampNeg a1) fun s4_38 => chk (inb n_4 150) (nm (wI s4_38 2 n_4.toNatClampNeg a2) fun s4_46 => chk (inb n_4 150) (nm (wI s4_46 4 n_4.toNatClampNeg ((0 : Int32))) fun s4_54 => chk (inb n_4 150) (nm (wI s4_54 8 n_4.toNatClampNeg (vp_nar .boolean a5)) fun s4_63 => chk (inb n_4 150) (nm (wI s4_63 6 n_4.toNatClampNeg ((-1 : Int32))) fun s4_71 => chk (inb n_4 150) (nm (wI s4_71 7 n_4.toNatClampNeg n_4) fun s4_80 => Option.bind (f4_charge ((0 : Int32)) n_4 ((a3).toInt64) s4_80) fun q_87 => Option.bind (f4_change n_4 a3 ((0 : Int32)) a4 a6 s1 q_87) fun q_99 => some (n_4, q_99.1, q_99.2)))))))) else (f4_bring_j19 s1 s4))
set_option maxHeartbeats 4000000 in
set_option maxRecDepth 100000 in
theorem m4_bring (l : Launch) (D : va_G) (ad : Nat → Nat) (cy : Nat → ClassId) (sz : Nat) (s0 s1 s2 s3 s4 s5 s6 s7 s8 s9 s10 : OS) (a1 : Int32) (a2 : Int32) (a3 : Int32) (a4 : Int32) (a5 : Int32) (a6 : Int32) (r : Int32 × OS × OS) (h : f4_bring a1 a2 a3 a4 a5 a6 s1 s4 = some r) : Met l yX4_bring (wsOf yX4_bring cX4_bring 8 (some .int)) (rmL 3) (va_Pc ([.ref (ad 4), .int a1, .int a2, .int a3, .int a4, .int a5, .int a6] : List Value) (PreG D cy (cellsC ad cy s0 s1 s2 s3 s4 s5 s6 s7 s8 s9 s10) sz (NC ad))) (QcI D ad 67 (cellsC ad cy s0 r.2.1 s2 s3 r.2.2 s5 s6 s7 s8 s9 s10) (r.1) sz) 0 0 (Afr ad 67 sz) := by
  refine metG (own := RX4) (by decide) rfl (Nat.le_of_ble_eq_true rfl) fstC ?_ sz
  intro p e s m below meth c ls C0 hw hl
  obtain ⟨hx, hb, hml, hown, hts, hr, hlk, hK, hN⟩ := C0
  have hl : lv_has ls 8 [(0, .ref (ad 4)), (1, .int a1), (2, .int a2), (3, .int a3), (4, .int a4), (5, .int a5), (6, .int a6)] := hl
  generalize hQ : MQ below (QcI D ad 67 (cellsC ad cy s0 r.2.1 s2 s3 r.2.2 s5 s6 s7 s8 s9 s10) (r.1) s.heap.size) ([.ref (ad 4), .int a1, .int a2, .int a3, .int a4, .int a5, .int a6] : List Value).toArray s 0 0 (Afr ad 67 s.heap.size) = Q
  obtain ⟨H, hH⟩ : ∃ H : Heap, H = s.heap := ⟨_, rfl⟩
  obtain ⟨locs, hlc⟩ : ∃ L : List Loc, L = [] := ⟨_, rfl⟩
  have hw : Wd D (cellsC ad cy s0 s1 s2 s3 s4 s5 s6 s7 s8 s9 s10) (Afr ad 67 s.heap.size) s.heap H locs := by rw [hH, hlc]; exact hw
  suffices h0 : W p l e (rmL 3) s m ([.ref (ad 4), .int a1, .int a2, .int a3, .int a4, .int a5, .int a6] : List Value).toArray below meth c H locs 0 0 Q (F0 m 0 ls []) by rw [hH, hlc] at h0; exact h0
  clear hH hlc
  unfold f4_bring at h
  have hJ_19 : ∀ (s1_j19 : OS) (s4_j19 : OS) (H : Heap) (locs : List Loc) (ls : Array Slot), f4_bring_j19 s1_j19 s4_j19 = some r → Wd D (cellsC ad cy s0 s1_j19 s2 s3 s4_j19 s5 s6 s7 s8 s9 s10) (Afr ad 67 s.heap.size) s.heap H locs → lv_has ls 8 [] → W p l e (rmL 3) s m ([.ref (ad 4), .int a1, .int a2, .int a3, .int a4, .int a5, .int a6] : List Value).toArray below meth c H locs 0 0 Q (F0 m 19 ls []) := by
    intro s1_j19 s4_j19 H locs ls h hw hl
    unfold f4_bring_j19 at h
    refine lv_iconst (v := (-1)) hx hb dX4_bring_19 (by decide) ?_
    have h := Option.some.inj h
    subst h
    rw [← hQ]
    exact retI hx hb hr hlk hw rfl dX4_bring_20
  refine lv_aload_n hx hb dX4_bring_0 rfl (lv_at hl 0 rfl) ?_
  refine gX4_48 hx hb hts hown hK hw dX4_bring_1 ?_
  obtain ⟨n_4, e_4, h⟩ := nam_e h
  refine topI e_4 ?_
  refine lv_istore (lv' := [(7, .int n_4), (0, .ref (ad 4)), (1, .int a1), (2, .int a2), (3, .int a3), (4, .int a4), (5, .int a5), (6, .int a6)]) hx hb dX4_bring_4 hl (by decide) rfl (fun ls hl => ?_)
  refine lv_iload hx hb dX4_bring_6 (lv_at hl 0 rfl) ?_
  refine lv_if_lt (tgt := 19) hx hb dX4_bring_8 (by decide) (fun c_8 => ?_) (fun c_8 => ?_)
  · have h := ite_t c_8 h
    exact hJ_19 s1 s4 H locs ls h hw (lv_sub hl [] rfl)
  · have h := ite_f c_8 h
    refine lv_iload hx hb dX4_bring_11 (lv_at hl 0 rfl) ?_
    refine lv_sipush (v := 150) hx hb dX4_bring_13 (by decide) ?_
    refine lv_icmp_lt (tgt := 21) hx hb dX4_bring_16 (by decide) (fun c_16 => ?_) (fun c_16 => ?_)
    · have h := ite_t c_16 h
      refine lv_aload_n hx hb dX4_bring_21 rfl (lv_at hl 1 rfl) ?_
      refine lv_dup hx hb dX4_bring_22 rfl ?_
      refine gX4_48 hx hb hts hown hK hw dX4_bring_23 ?_
      refine lv_iconst (v := 1) hx hb dX4_bring_26 (by decide) ?_
      refine lv_iadd hx hb dX4_bring_27 ?_
      obtain ⟨s4_28, e_28, h⟩ := nam_e h
      refine pX4_48 hx hb hts hown hK hw e_28 dX4_bring_28 (fun H locs hw => ?_)
      refine lv_aload_n hx hb dX4_bring_31 rfl (lv_at hl 1 rfl) ?_
      refine gX4_9 hx hb hts hown hK hw dX4_bring_32 ?_
      refine lv_iload hx hb dX4_bring_35 (lv_at hl 0 rfl) ?_
      refine lv_iload_n hx hb dX4_bring_37 rfl (lv_at hl 2 rfl) ?_
      obtain ⟨hi_38, h⟩ := chk_e h
      obtain ⟨s4_38, e_38, h⟩ := nam_e h
      refine aC36 hx hb hK hw hi_38 e_38 dX4_bring_38 (fun H locs hw => ?_)
      refine lv_aload_n hx hb dX4_bring_39 rfl (lv_at hl 1 rfl) ?_
      refine gX4_15 hx hb hts hown hK hw dX4_bring_40 ?_
      refine lv_iload hx hb dX4_bring_43 (lv_at hl 0 rfl) ?_
      refine lv_iload_n hx hb dX4_bring_45 rfl (lv_at hl 3 rfl) ?_
      obtain ⟨hi_46, h⟩ := chk_e h
      obtain ⟨s4_46, e_46, h⟩ := nam_e h
      refine aC37 hx hb hK hw hi_46 e_46 dX4_bring_46 (fun H locs hw => ?_)
      refine lv_aload_n hx hb dX4_bring_47 rfl (lv_at hl 1 rfl) ?_
      refine gX4_21 hx hb hts hown hK hw dX4_bring_48 ?_
      refine lv_iload hx hb dX4_bring_51 (lv_at hl 0 rfl) ?_
      refine lv_iconst (v := 0) hx hb dX4_bring_53 (by decide) ?_
      obtain ⟨hi_54, h⟩ := chk_e h
      obtain ⟨s4_54, e_54, h⟩ := nam_e h
      refine aC39 hx hb hK hw hi_54 e_54 dX4_bring_54 (fun H locs hw => ?_)
      refine lv_aload_n hx hb dX4_bring_55 rfl (lv_at hl 1 rfl) ?_
      refine gX4_33 hx hb hts hown hK hw dX4_bring_56 ?_
      refine lv_iload hx hb dX4_bring_59 (lv_at hl 0 rfl) ?_
      refine lv_iload hx hb dX4_bring_61 (lv_at hl 6 rfl) ?_
      obtain ⟨hi_63, h⟩ := chk_e h
      obtain ⟨s4_63, e_63, h⟩ := nam_e h
      refine aC43 hx hb hK hw hi_63 e_63 dX4_bring_63 (fun H locs hw => ?_)
      refine lv_aload_n hx hb dX4_bring_64 rfl (lv_at hl 1 rfl) ?_
      refine gX4_27 hx hb hts hown hK hw dX4_bring_65 ?_
      refine lv_iload hx hb dX4_bring_68 (lv_at hl 0 rfl) ?_
      refine lv_iconst (v := (-1)) hx hb dX4_bring_70 (by decide) ?_
      obtain ⟨hi_71, h⟩ := chk_e h
      obtain ⟨s4_71, e_71, h⟩ := nam_e h
      refine aC41 hx hb hK hw hi_71 e_71 dX4_bring_71 (fun H locs hw => ?_)
      refine lv_aload_n hx hb dX4_bring_72 rfl (lv_at hl 1 rfl) ?_
      refine gX4_30 hx hb hts hown hK hw dX4_bring_73 ?_
      refine lv_iload hx hb dX4_bring_76 (lv_at hl 0 rfl) ?_
      refine lv_iload hx hb dX4_bring_78 (lv_at hl 0 rfl) ?_
      obtain ⟨hi_80, h⟩ := chk_e h
      obtain ⟨s4_80, e_80, h⟩ := nam_e h
      refine aC42 hx hb hK hw hi_80 e_80 dX4_bring_80 (fun H locs hw => ?_)
      refine lv_aload_n hx hb dX4_bring_81 rfl (lv_at hl 1 rfl) ?_
      refine lv_iconst (v := 0) hx hb dX4_bring_82 (by decide) ?_
      refine lv_iload hx hb dX4_bring_83 (lv_at hl 0 rfl) ?_
      refine lv_iload_n hx hb dX4_bring_85 rfl (lv_at hl 4 rfl) ?_
      refine lv_i2l hx hb dX4_bring_86 rfl ?_
      obtain ⟨q_87, h_87, h⟩ := bnd_e h
      have pg_87 := preG (av := [.ref (ad 4), .int ((0 : Int32)), .int n_4, .long ((a3).toInt64)]) hK hw.1 hw.2.1 (NC_keep hN hw.2.2) NC_blind
      refine endV (mc := 0) (ms := 0) (va_runV (As := [.int ((0 : Int32)), .int n_4, .long ((a3).toInt64)]) (rest := []) ⟨hx, hb, hml, hown, hts⟩ (m4_charge l D ad cy H.size s0 s1 s2 s3 s4_80 s5 s6 s7 s8 s9 s10 ((0 : Int32)) n_4 ((a3).toInt64) q_87 h_87) (wX4_62 2 hts ⟨Nat.le_of_ble_eq_true rfl, Nat.le_of_ble_eq_true rfl⟩) ⟨pg_87.1, va_recv hK hw.1 (ci := 4) (q0 := 4) rfl eC_4, pg_87.2⟩ rfl rfl hl.1 rfl (lv_room (Nat.le_of_ble_eq_true rfl)) dX4_bring_87 ⟨Nat.le_refl _, Nat.le_refl _⟩) hw.2.2 (afr_in hw.2.2) (fun H locs hw => ?_)
      refine lv_aload_n hx hb dX4_bring_90 rfl (lv_at hl 1 rfl) ?_
      refine lv_iload hx hb dX4_bring_91 (lv_at hl 0 rfl) ?_
      refine lv_iload_n hx hb dX4_bring_93 rfl (lv_at hl 4 rfl) ?_
      refine lv_iconst (v := 0) hx hb dX4_bring_94 (by decide) ?_
      refine lv_iload hx hb dX4_bring_95 (lv_at hl 5 rfl) ?_
      refine lv_iload hx hb dX4_bring_97 (lv_at hl 7 rfl) ?_
      obtain ⟨q_99, h_99, h⟩ := bnd_e h
      have pg_99 := preG (av := [.ref (ad 4), .int n_4, .int a3, .int ((0 : Int32)), .int a4, .int a6]) hK hw.1 hw.2.1 (NC_keep hN hw.2.2) NC_blind
      refine endV (mc := 0) (ms := 0) (va_runV (As := [.int n_4, .int a3, .int ((0 : Int32)), .int a4, .int a6]) (rest := []) ⟨hx, hb, hml, hown, hts⟩ (m4_change l D ad cy H.size s0 s1 s2 s3 q_87 s5 s6 s7 s8 s9 s10 n_4 a3 ((0 : Int32)) a4 a6 q_99 h_99) (wX4_66 1 hts ⟨Nat.le_of_ble_eq_true rfl, Nat.le_of_ble_eq_true rfl⟩) ⟨pg_99.1, va_recv hK hw.1 (ci := 4) (q0 := 4) rfl eC_4, pg_99.2⟩ rfl rfl hl.1 rfl (lv_room (Nat.le_of_ble_eq_true rfl)) dX4_bring_99 ⟨Nat.le_refl _, Nat.le_refl _⟩) hw.2.2 (afr_in hw.2.2) (fun H locs hw => ?_)
      refine lv_iload hx hb dX4_bring_102 (lv_at hl 0 rfl) ?_
      have h := Option.some.inj h
      subst h
      rw [← hQ]
      exact retI hx hb hr hlk hw rfl dX4_bring_104
    · have h := ite_f c_16 h
      exact hJ_19 s1 s4 H locs ls h hw (lv_sub hl [] rfl)
theorem dX4_tellPast_0 : decode cX4_tellPast 0 = .ok (.aload_n 0, 1) := by decide +kernel
theorem dX4_tellPast_1 : decode cX4_tellPast 1 = .ok (.getfield 44, 3) := by decide +kernel
theorem dX4_tellPast_4 : decode cX4_tellPast 4 = .ok (.iload_n 1, 1) := by decide +kernel
theorem dX4_tellPast_5 : decode cX4_tellPast 5 = .ok (.iload_n 2, 1) := by decide +kernel
theorem dX4_tellPast_6 : decode cX4_tellPast 6 = .ok (.iload_n 3, 1) := by decide +kernel
theorem dX4_tellPast_7 : decode cX4_tellPast 7 = .ok (.invokevirtual 90, 3) := by decide +kernel
theorem dX4_tellPast_10 : decode cX4_tellPast 10 = .ok (.ireturn, 1) := by decide +kernel
noncomputable def f4_tellPast (a1 : Int32) (a2 : Int32) (a3 : Int32) (s1 : OS) : Option (Int32) := Option.bind (f1_tell a1 a2 a3 s1) fun q_7 => some q_7
set_option maxHeartbeats 4000000 in
set_option maxRecDepth 100000 in
theorem m4_tellPast (l : Launch) (D : va_G) (ad : Nat → Nat) (cy : Nat → ClassId) (sz : Nat) (s0 s1 s2 s3 s4 s5 s6 s7 s8 s9 s10 : OS) (a1 : Int32) (a2 : Int32) (a3 : Int32) (r : Int32) (h : f4_tellPast a1 a2 a3 s1 = some r) : Met l yX4_tellPast (wsOf yX4_tellPast cX4_tellPast 4 (some .int)) (rmL 2) (va_Pc ([.ref (ad 4), .int a1, .int a2, .int a3] : List Value) (PreG D cy (cellsC ad cy s0 s1 s2 s3 s4 s5 s6 s7 s8 s9 s10) sz (NC ad))) (QcI D ad 67 (cellsC ad cy s0 s1 s2 s3 s4 s5 s6 s7 s8 s9 s10) (r) sz) 0 0 (Afr ad 67 sz) := by
  refine metG (own := RX4) (by decide) rfl (Nat.le_of_ble_eq_true rfl) fstC ?_ sz
  intro p e s m below meth c ls C0 hw hl
  obtain ⟨hx, hb, hml, hown, hts, hr, hlk, hK, hN⟩ := C0
  have hl : lv_has ls 4 [(0, .ref (ad 4)), (1, .int a1), (2, .int a2), (3, .int a3)] := hl
  generalize hQ : MQ below (QcI D ad 67 (cellsC ad cy s0 s1 s2 s3 s4 s5 s6 s7 s8 s9 s10) (r) s.heap.size) ([.ref (ad 4), .int a1, .int a2, .int a3] : List Value).toArray s 0 0 (Afr ad 67 s.heap.size) = Q
  obtain ⟨H, hH⟩ : ∃ H : Heap, H = s.heap := ⟨_, rfl⟩
  obtain ⟨locs, hlc⟩ : ∃ L : List Loc, L = [] := ⟨_, rfl⟩
  have hw : Wd D (cellsC ad cy s0 s1 s2 s3 s4 s5 s6 s7 s8 s9 s10) (Afr ad 67 s.heap.size) s.heap H locs := by rw [hH, hlc]; exact hw
  suffices h0 : W p l e (rmL 2) s m ([.ref (ad 4), .int a1, .int a2, .int a3] : List Value).toArray below meth c H locs 0 0 Q (F0 m 0 ls []) by rw [hH, hlc] at h0; exact h0
  clear hH hlc
  unfold f4_tellPast at h
  refine lv_aload_n hx hb dX4_tellPast_0 rfl (lv_at hl 0 rfl) ?_
  refine gX4_44 hx hb hts hown hK hw dX4_tellPast_1 ?_
  refine lv_iload_n hx hb dX4_tellPast_4 rfl (lv_at hl 1 rfl) ?_
  refine lv_iload_n hx hb dX4_tellPast_5 rfl (lv_at hl 2 rfl) ?_
  refine lv_iload_n hx hb dX4_tellPast_6 rfl (lv_at hl 3 rfl) ?_
  obtain ⟨q_7, h_7, h⟩ := bnd_e h
  have pg_7 := preG (av := [.ref (ad 1), .int a1, .int a2, .int a3]) hK hw.1 hw.2.1 (NC_keep hN hw.2.2) NC_blind
  refine endI (mc := 0) (ms := 0) (va_runV (As := [.int a1, .int a2, .int a3]) (rest := []) ⟨hx, hb, hml, hown, hts⟩ (m1_tell l D ad cy H.size s0 s1 s2 s3 s4 s5 s6 s7 s8 s9 s10 a1 a2 a3 q_7 h_7) (wX4_90 1 hts ⟨Nat.le_of_ble_eq_true rfl, Nat.le_of_ble_eq_true rfl⟩) ⟨pg_7.1, va_recv hK hw.1 (ci := 1) (q0 := 1) rfl eC_1, pg_7.2⟩ rfl rfl hl.1 rfl (lv_room (Nat.le_of_ble_eq_true rfl)) dX4_tellPast_7 ⟨Nat.le_refl _, Nat.le_refl _⟩) hw.2.2 (afr_in hw.2.2) (fun H locs hw => ?_)
  have h := Option.some.inj h
  subst h
  rw [← hQ]
  exact retI hx hb hr hlk hw rfl dX4_tellPast_10
