theorem dX5_has_0 : decode cX5_has 0 = .ok (.iload_n 1, 1) := by decide +kernel
theorem dX5_has_1 : decode cX5_has 1 = .ok (.ifCond .lt 21, 3) := by decide +kernel
theorem dX5_has_4 : decode cX5_has 4 = .ok (.iload_n 1, 1) := by decide +kernel
theorem dX5_has_5 : decode cX5_has 5 = .ok (.aload_n 0, 1) := by decide +kernel
theorem dX5_has_6 : decode cX5_has 6 = .ok (.getfield 41, 3) := by decide +kernel
theorem dX5_has_9 : decode cX5_has 9 = .ok (.if_icmp .ge 13, 3) := by decide +kernel
theorem dX5_has_12 : decode cX5_has 12 = .ok (.iload_n 1, 1) := by decide +kernel
theorem dX5_has_13 : decode cX5_has 13 = .ok (.bipush 20, 2) := by decide +kernel
theorem dX5_has_15 : decode cX5_has 15 = .ok (.if_icmp .ge 7, 3) := by decide +kernel
theorem dX5_has_18 : decode cX5_has 18 = .ok (.iconst 1, 1) := by decide +kernel
theorem dX5_has_19 : decode cX5_has 19 = .ok (.goto 4, 3) := by decide +kernel
theorem dX5_has_22 : decode cX5_has 22 = .ok (.iconst 0, 1) := by decide +kernel
theorem dX5_has_23 : decode cX5_has 23 = .ok (.ireturn, 1) := by decide +kernel
def f5_has_j23 (k0_j23 : Int32) (s5_j23 : OS) : Option (Int32) := chk (isB k0_j23) (some k0_j23)
def f5_has_j22 (s5_j22 : OS) : Option (Int32) := f5_has_j23 ((0 : Int32)) s5_j22
def f5_has (a1 : Int32) (s5 : OS) : Option (Int32) := if a1 < 0 then (f5_has_j22 s5) else (if (s5.1 0 8) ≤ a1 then (f5_has_j22 s5) else (if (20 : Int32) ≤ a1 then (f5_has_j22 s5) else (f5_has_j23 ((1 : Int32)) s5)))
set_option maxHeartbeats 4000000 in
set_option maxRecDepth 100000 in
theorem m5_has (l : Launch) (D : va_G) (ad : Nat → Nat) (cy : Nat → ClassId) (sz : Nat) (s0 s1 s2 s3 s4 s5 s6 s7 s8 s9 s10 : OS) (a1 : Int32) (r : Int32) (h : f5_has a1 s5 = some r) : Met l yX5_has (wsOf yX5_has cX5_has 2 (some .boolean)) (rmL 0) (va_Pc ([.ref (ad 5), .int a1] : List Value) (PreG D cy (cellsC ad cy s0 s1 s2 s3 s4 s5 s6 s7 s8 s9 s10) sz (NC ad))) (QcI D ad 67 (cellsC ad cy s0 s1 s2 s3 s4 s5 s6 s7 s8 s9 s10) (r) sz) 0 0 (Afr ad 67 sz) := by
  refine metG (own := RX5) (by decide) rfl (Nat.le_of_ble_eq_true rfl) fstC ?_ sz
  intro p e s m below meth c ls C0 hw hl
  obtain ⟨hx, hb, hml, hown, hts, hr, hlk, hK, hN⟩ := C0
  have hl : lv_has ls 2 [(0, .ref (ad 5)), (1, .int a1)] := hl
  generalize hQ : MQ below (QcI D ad 67 (cellsC ad cy s0 s1 s2 s3 s4 s5 s6 s7 s8 s9 s10) (r) s.heap.size) ([.ref (ad 5), .int a1] : List Value).toArray s 0 0 (Afr ad 67 s.heap.size) = Q
  obtain ⟨H, hH⟩ : ∃ H : Heap, H = s.heap := ⟨_, rfl⟩
  obtain ⟨locs, hlc⟩ : ∃ L : List Loc, L = [] := ⟨_, rfl⟩
  have hw : Wd D (cellsC ad cy s0 s1 s2 s3 s4 s5 s6 s7 s8 s9 s10) (Afr ad 67 s.heap.size) s.heap H locs := by rw [hH, hlc]; exact hw
  suffices h0 : W p l e (rmL 0) s m ([.ref (ad 5), .int a1] : List Value).toArray below meth c H locs 0 0 Q (F0 m 0 ls []) by rw [hH, hlc] at h0; exact h0
  clear hH hlc
  unfold f5_has at h
  have hJ_23 : ∀ (k0_j23 : Int32) (H : Heap) (locs : List Loc) (ls : Array Slot), f5_has_j23 k0_j23 s5 = some r → Wd D (cellsC ad cy s0 s1 s2 s3 s4 s5 s6 s7 s8 s9 s10) (Afr ad 67 s.heap.size) s.heap H locs → lv_has ls 2 [] → W p l e (rmL 0) s m ([.ref (ad 5), .int a1] : List Value).toArray below meth c H locs 0 0 Q (F0 m 23 ls [.int k0_j23]) := by
    intro k0_j23 H locs ls h hw hl
    unfold f5_has_j23 at h
    obtain ⟨hz_23, h⟩ := chk_e h
    have h := Option.some.inj h
    subst h
    rw [← hQ]
    exact retI hx hb hr hlk hw (narB hz_23) dX5_has_23
  have hJ_22 : ∀  (H : Heap) (locs : List Loc) (ls : Array Slot), f5_has_j22 s5 = some r → Wd D (cellsC ad cy s0 s1 s2 s3 s4 s5 s6 s7 s8 s9 s10) (Afr ad 67 s.heap.size) s.heap H locs → lv_has ls 2 [] → W p l e (rmL 0) s m ([.ref (ad 5), .int a1] : List Value).toArray below meth c H locs 0 0 Q (F0 m 22 ls []) := by
    intro  H locs ls h hw hl
    unfold f5_has_j22 at h
    refine lv_iconst (v := 0) hx hb dX5_has_22 (by decide) ?_
    exact hJ_23 ((0 : Int32)) H locs ls h hw (lv_sub hl [] rfl)
  refine lv_iload_n hx hb dX5_has_0 rfl (lv_at hl 1 rfl) ?_
  refine lv_if_lt (tgt := 22) hx hb dX5_has_1 (by decide) (fun c_1 => ?_) (fun c_1 => ?_)
  · have h := ite_t c_1 h
    exact hJ_22  H locs ls h hw (lv_sub hl [] rfl)
  · have h := ite_f c_1 h
    refine lv_iload_n hx hb dX5_has_4 rfl (lv_at hl 1 rfl) ?_
    refine lv_aload_n hx hb dX5_has_5 rfl (lv_at hl 0 rfl) ?_
    refine gX5_41 hx hb hts hown hK hw dX5_has_6 ?_
    refine lv_icmp_ge (tgt := 22) hx hb dX5_has_9 (by decide) (fun c_9 => ?_) (fun c_9 => ?_)
    · have h := ite_t c_9 h
      exact hJ_22  H locs ls h hw (lv_sub hl [] rfl)
    · have h := ite_f c_9 h
      refine lv_iload_n hx hb dX5_has_12 rfl (lv_at hl 1 rfl) ?_
      refine lv_bipush (v := 20) hx hb dX5_has_13 (by decide) ?_
      refine lv_icmp_ge (tgt := 22) hx hb dX5_has_15 (by decide) (fun c_15 => ?_) (fun c_15 => ?_)
      · have h := ite_t c_15 h
        exact hJ_22  H locs ls h hw (lv_sub hl [] rfl)
      · have h := ite_f c_15 h
        refine lv_iconst (v := 1) hx hb dX5_has_18 (by decide) ?_
        refine lv_goto (tgt := 23) hx hb dX5_has_19 (by decide) ?_
        exact hJ_23 ((1 : Int32)) H locs ls h hw (lv_sub hl [] rfl)
theorem dX5_clausesOf_0 : decode cX5_clausesOf 0 = .ok (.aload_n 0, 1) := by decide +kernel
theorem dX5_clausesOf_1 : decode cX5_clausesOf 1 = .ok (.iload_n 1, 1) := by decide +kernel
theorem dX5_clausesOf_2 : decode cX5_clausesOf 2 = .ok (.invokevirtual 55, 3) := by decide +kernel
theorem dX5_clausesOf_5 : decode cX5_clausesOf 5 = .ok (.ifCond .eq 12, 3) := by decide +kernel
theorem dX5_clausesOf_8 : decode cX5_clausesOf 8 = .ok (.aload_n 0, 1) := by decide +kernel
theorem dX5_clausesOf_9 : decode cX5_clausesOf 9 = .ok (.getfield 27, 3) := by decide +kernel
theorem dX5_clausesOf_12 : decode cX5_clausesOf 12 = .ok (.iload_n 1, 1) := by decide +kernel
theorem dX5_clausesOf_13 : decode cX5_clausesOf 13 = .ok (.iaload, 1) := by decide +kernel
theorem dX5_clausesOf_14 : decode cX5_clausesOf 14 = .ok (.goto 4, 3) := by decide +kernel
theorem dX5_clausesOf_17 : decode cX5_clausesOf 17 = .ok (.iconst (-1), 1) := by decide +kernel
theorem dX5_clausesOf_18 : decode cX5_clausesOf 18 = .ok (.ireturn, 1) := by decide +kernel
def f5_clausesOf_j18 (k0_j18 : Int32) (s5_j18 : OS) : Option (Int32) := some k0_j18
def f5_clausesOf (a1 : Int32) (s5 : OS) : Option (Int32) := Option.bind (f5_has a1 s5) fun q_2 => if q_2 = 0 then (f5_clausesOf_j18 ((-1 : Int32)) s5) else (chk (inb a1 20) (nm (s5.1 5 a1.toNatClampNeg) fun y_13 => f5_clausesOf_j18 y_13 s5))
set_option maxHeartbeats 4000000 in
set_option maxRecDepth 100000 in
theorem m5_clausesOf (l : Launch) (D : va_G) (ad : Nat → Nat) (cy : Nat → ClassId) (sz : Nat) (s0 s1 s2 s3 s4 s5 s6 s7 s8 s9 s10 : OS) (a1 : Int32) (r : Int32) (h : f5_clausesOf a1 s5 = some r) : Met l yX5_clausesOf (wsOf yX5_clausesOf cX5_clausesOf 2 (some .int)) (rmL 1) (va_Pc ([.ref (ad 5), .int a1] : List Value) (PreG D cy (cellsC ad cy s0 s1 s2 s3 s4 s5 s6 s7 s8 s9 s10) sz (NC ad))) (QcI D ad 67 (cellsC ad cy s0 s1 s2 s3 s4 s5 s6 s7 s8 s9 s10) (r) sz) 0 0 (Afr ad 67 sz) := by
  refine metG (own := RX5) (by decide) rfl (Nat.le_of_ble_eq_true rfl) fstC ?_ sz
  intro p e s m below meth c ls C0 hw hl
  obtain ⟨hx, hb, hml, hown, hts, hr, hlk, hK, hN⟩ := C0
  have hl : lv_has ls 2 [(0, .ref (ad 5)), (1, .int a1)] := hl
  generalize hQ : MQ below (QcI D ad 67 (cellsC ad cy s0 s1 s2 s3 s4 s5 s6 s7 s8 s9 s10) (r) s.heap.size) ([.ref (ad 5), .int a1] : List Value).toArray s 0 0 (Afr ad 67 s.heap.size) = Q
  obtain ⟨H, hH⟩ : ∃ H : Heap, H = s.heap := ⟨_, rfl⟩
  obtain ⟨locs, hlc⟩ : ∃ L : List Loc, L = [] := ⟨_, rfl⟩
  have hw : Wd D (cellsC ad cy s0 s1 s2 s3 s4 s5 s6 s7 s8 s9 s10) (Afr ad 67 s.heap.size) s.heap H locs := by rw [hH, hlc]; exact hw
  suffices h0 : W p l e (rmL 1) s m ([.ref (ad 5), .int a1] : List Value).toArray below meth c H locs 0 0 Q (F0 m 0 ls []) by rw [hH, hlc] at h0; exact h0
  clear hH hlc
  unfold f5_clausesOf at h
  have hJ_18 : ∀ (k0_j18 : Int32) (H : Heap) (locs : List Loc) (ls : Array Slot), f5_clausesOf_j18 k0_j18 s5 = some r → Wd D (cellsC ad cy s0 s1 s2 s3 s4 s5 s6 s7 s8 s9 s10) (Afr ad 67 s.heap.size) s.heap H locs → lv_has ls 2 [] → W p l e (rmL 1) s m ([.ref (ad 5), .int a1] : List Value).toArray below meth c H locs 0 0 Q (F0 m 18 ls [.int k0_j18]) := by
    intro k0_j18 H locs ls h hw hl
    unfold f5_clausesOf_j18 at h
    have h := Option.some.inj h
    subst h
    rw [← hQ]
    exact retI hx hb hr hlk hw rfl dX5_clausesOf_18
  refine lv_aload_n hx hb dX5_clausesOf_0 rfl (lv_at hl 0 rfl) ?_
  refine lv_iload_n hx hb dX5_clausesOf_1 rfl (lv_at hl 1 rfl) ?_
  obtain ⟨q_2, h_2, h⟩ := bnd_e h
  have pg_2 := preG (av := [.ref (ad 5), .int a1]) hK hw.1 hw.2.1 (NC_keep hN hw.2.2) NC_blind
  refine endI (mc := 0) (ms := 0) (va_runV (As := [.int a1]) (rest := []) ⟨hx, hb, hml, hown, hts⟩ (m5_has l D ad cy H.size s0 s1 s2 s3 s4 s5 s6 s7 s8 s9 s10 a1 q_2 h_2) (wX5_55 0 hts ⟨Nat.le_of_ble_eq_true rfl, Nat.le_of_ble_eq_true rfl⟩) ⟨pg_2.1, va_recv hK hw.1 (ci := 5) (q0 := 5) rfl eC_5, pg_2.2⟩ rfl rfl hl.1 rfl (lv_room (Nat.le_of_ble_eq_true rfl)) dX5_clausesOf_2 ⟨Nat.le_refl _, Nat.le_refl _⟩) hw.2.2 (afr_in hw.2.2) (fun H locs hw => ?_)
  refine lv_if_eq (tgt := 17) hx hb dX5_clausesOf_5 (by decide) (fun c_5 => ?_) (fun c_5 => ?_)
  · have h := ite_t c_5 h
    refine lv_iconst (v := (-1)) hx hb dX5_clausesOf_17 (by decide) ?_
    exact hJ_18 ((-1 : Int32)) H locs ls h hw (lv_sub hl [] rfl)
  · have h := ite_f c_5 h
    refine lv_aload_n hx hb dX5_clausesOf_8 rfl (lv_at hl 0 rfl) ?_
    refine gX5_27 hx hb hts hown hK hw dX5_clausesOf_9 ?_
    refine lv_iload_n hx hb dX5_clausesOf_12 rfl (lv_at hl 1 rfl) ?_
    obtain ⟨hi_13, h⟩ := chk_e h
    obtain ⟨y_13, e_13, h⟩ := nam_e h
    refine lC49 hx hb hK hw hi_13 e_13 dX5_clausesOf_13 ?_
    refine lv_goto (tgt := 18) hx hb dX5_clausesOf_14 (by decide) ?_
    exact hJ_18 y_13 H locs ls h hw (lv_sub hl [] rfl)
theorem dX5_size_0 : decode cX5_size 0 = .ok (.aload_n 0, 1) := by decide +kernel
theorem dX5_size_1 : decode cX5_size 1 = .ok (.getfield 41, 3) := by decide +kernel
theorem dX5_size_4 : decode cX5_size 4 = .ok (.ireturn, 1) := by decide +kernel
def f5_size (s5 : OS) : Option (Int32) := some ((s5.1 0 8))
set_option maxHeartbeats 4000000 in
set_option maxRecDepth 100000 in
theorem m5_size (l : Launch) (D : va_G) (ad : Nat → Nat) (cy : Nat → ClassId) (sz : Nat) (s0 s1 s2 s3 s4 s5 s6 s7 s8 s9 s10 : OS) (r : Int32) (h : f5_size s5 = some r) : Met l yX5_size (wsOf yX5_size cX5_size 1 (some .int)) (rmL 0) (va_Pc ([.ref (ad 5)] : List Value) (PreG D cy (cellsC ad cy s0 s1 s2 s3 s4 s5 s6 s7 s8 s9 s10) sz (NC ad))) (QcI D ad 67 (cellsC ad cy s0 s1 s2 s3 s4 s5 s6 s7 s8 s9 s10) (r) sz) 0 0 (Afr ad 67 sz) := by
  refine metG (own := RX5) (by decide) rfl (Nat.le_of_ble_eq_true rfl) fstC ?_ sz
  intro p e s m below meth c ls C0 hw hl
  obtain ⟨hx, hb, hml, hown, hts, hr, hlk, hK, hN⟩ := C0
  have hl : lv_has ls 1 [(0, .ref (ad 5))] := hl
  generalize hQ : MQ below (QcI D ad 67 (cellsC ad cy s0 s1 s2 s3 s4 s5 s6 s7 s8 s9 s10) (r) s.heap.size) ([.ref (ad 5)] : List Value).toArray s 0 0 (Afr ad 67 s.heap.size) = Q
  obtain ⟨H, hH⟩ : ∃ H : Heap, H = s.heap := ⟨_, rfl⟩
  obtain ⟨locs, hlc⟩ : ∃ L : List Loc, L = [] := ⟨_, rfl⟩
  have hw : Wd D (cellsC ad cy s0 s1 s2 s3 s4 s5 s6 s7 s8 s9 s10) (Afr ad 67 s.heap.size) s.heap H locs := by rw [hH, hlc]; exact hw
  suffices h0 : W p l e (rmL 0) s m ([.ref (ad 5)] : List Value).toArray below meth c H locs 0 0 Q (F0 m 0 ls []) by rw [hH, hlc] at h0; exact h0
  clear hH hlc
  unfold f5_size at h
  refine lv_aload_n hx hb dX5_size_0 rfl (lv_at hl 0 rfl) ?_
  refine gX5_41 hx hb hts hown hK hw dX5_size_1 ?_
  have h := Option.some.inj h
  subst h
  rw [← hQ]
  exact retI hx hb hr hlk hw rfl dX5_size_4
theorem dX5_tell_0 : decode cX5_tell 0 = .ok (.aload_n 0, 1) := by decide +kernel
theorem dX5_tell_1 : decode cX5_tell 1 = .ok (.getfield 37, 3) := by decide +kernel
theorem dX5_tell_4 : decode cX5_tell 4 = .ok (.iload_n 1, 1) := by decide +kernel
theorem dX5_tell_5 : decode cX5_tell 5 = .ok (.lload_n 2, 1) := by decide +kernel
theorem dX5_tell_6 : decode cX5_tell 6 = .ok (.invokevirtual 87, 3) := by decide +kernel
theorem dX5_tell_9 : decode cX5_tell 9 = .ok (.return_, 1) := by decide +kernel
def f5_tell (a1 : Int32) (a2 : Int64) (s6 : OS) : Option (OS) := Option.bind (f6_setLetter a1 a2 s6) fun q_6 => some q_6
set_option maxHeartbeats 4000000 in
set_option maxRecDepth 100000 in
theorem m5_tell (l : Launch) (D : va_G) (ad : Nat → Nat) (cy : Nat → ClassId) (sz : Nat) (s0 s1 s2 s3 s4 s5 s6 s7 s8 s9 s10 : OS) (a1 : Int32) (a2 : Int64) (r : OS) (h : f5_tell a1 a2 s6 = some r) : Met l yX5_tell (wsOf yX5_tell cX5_tell 4 none) (rmL 11) (va_Pc ([.ref (ad 5), .int a1, .long a2] : List Value) (PreG D cy (cellsC ad cy s0 s1 s2 s3 s4 s5 s6 s7 s8 s9 s10) sz (NC ad))) (QcV D ad 67 (cellsC ad cy s0 s1 s2 s3 s4 s5 r s7 s8 s9 s10) sz) 0 0 (Afr ad 67 sz) := by
  refine metG (own := RX5) (by decide) rfl (Nat.le_of_ble_eq_true rfl) fstC ?_ sz
  intro p e s m below meth c ls C0 hw hl
  obtain ⟨hx, hb, hml, hown, hts, hr, hlk, hK, hN⟩ := C0
  have hl : lv_has ls 4 [(0, .ref (ad 5)), (1, .int a1), (2, .long a2)] := hl
  generalize hQ : MQ below (QcV D ad 67 (cellsC ad cy s0 s1 s2 s3 s4 s5 r s7 s8 s9 s10) s.heap.size) ([.ref (ad 5), .int a1, .long a2] : List Value).toArray s 0 0 (Afr ad 67 s.heap.size) = Q
  obtain ⟨H, hH⟩ : ∃ H : Heap, H = s.heap := ⟨_, rfl⟩
  obtain ⟨locs, hlc⟩ : ∃ L : List Loc, L = [] := ⟨_, rfl⟩
  have hw : Wd D (cellsC ad cy s0 s1 s2 s3 s4 s5 s6 s7 s8 s9 s10) (Afr ad 67 s.heap.size) s.heap H locs := by rw [hH, hlc]; exact hw
  suffices h0 : W p l e (rmL 11) s m ([.ref (ad 5), .int a1, .long a2] : List Value).toArray below meth c H locs 0 0 Q (F0 m 0 ls []) by rw [hH, hlc] at h0; exact h0
  clear hH hlc
  unfold f5_tell at h
  refine lv_aload_n hx hb dX5_tell_0 rfl (lv_at hl 0 rfl) ?_
  refine gX5_37 hx hb hts hown hK hw dX5_tell_1 ?_
  refine lv_iload_n hx hb dX5_tell_4 rfl (lv_at hl 1 rfl) ?_
  refine lv_lload_n hx hb dX5_tell_5 rfl (lv_at hl 2 rfl) ?_
  obtain ⟨q_6, h_6, h⟩ := bnd_e h
  have pg_6 := preG (av := [.ref (ad 6), .int a1, .long a2]) hK hw.1 hw.2.1 (NC_keep hN hw.2.2) NC_blind
  refine endV (mc := 0) (ms := 0) (va_runV (As := [.int a1, .long a2]) (rest := []) ⟨hx, hb, hml, hown, hts⟩ (m6_setLetter l D ad cy H.size s0 s1 s2 s3 s4 s5 s6 s7 s8 s9 s10 a1 a2 q_6 h_6) (wX5_87 10 hts ⟨Nat.le_of_ble_eq_true rfl, Nat.le_of_ble_eq_true rfl⟩) ⟨pg_6.1, va_recv hK hw.1 (ci := 6) (q0 := 6) rfl eC_6, pg_6.2⟩ rfl rfl hl.1 rfl (lv_room (Nat.le_of_ble_eq_true rfl)) dX5_tell_6 ⟨Nat.le_refl _, Nat.le_refl _⟩) hw.2.2 (afr_in hw.2.2) (fun H locs hw => ?_)
  have h := Option.some.inj h
  subst h
  rw [← hQ]
  exact retV hx hb hr hlk hw dX5_tell_9
theorem dX5_isInForce_0 : decode cX5_isInForce 0 = .ok (.aload_n 0, 1) := by decide +kernel
theorem dX5_isInForce_1 : decode cX5_isInForce 1 = .ok (.iload_n 1, 1) := by decide +kernel
theorem dX5_isInForce_2 : decode cX5_isInForce 2 = .ok (.invokevirtual 55, 3) := by decide +kernel
theorem dX5_isInForce_5 : decode cX5_isInForce 5 = .ok (.ifCond .eq 26, 3) := by decide +kernel
theorem dX5_isInForce_8 : decode cX5_isInForce 8 = .ok (.iload_n 2, 1) := by decide +kernel
theorem dX5_isInForce_9 : decode cX5_isInForce 9 = .ok (.aload_n 0, 1) := by decide +kernel
theorem dX5_isInForce_10 : decode cX5_isInForce 10 = .ok (.getfield 21, 3) := by decide +kernel
theorem dX5_isInForce_13 : decode cX5_isInForce 13 = .ok (.iload_n 1, 1) := by decide +kernel
theorem dX5_isInForce_14 : decode cX5_isInForce 14 = .ok (.iaload, 1) := by decide +kernel
theorem dX5_isInForce_15 : decode cX5_isInForce 15 = .ok (.aload_n 0, 1) := by decide +kernel
theorem dX5_isInForce_16 : decode cX5_isInForce 16 = .ok (.getfield 24, 3) := by decide +kernel
theorem dX5_isInForce_19 : decode cX5_isInForce 19 = .ok (.iload_n 1, 1) := by decide +kernel
theorem dX5_isInForce_20 : decode cX5_isInForce 20 = .ok (.iaload, 1) := by decide +kernel
theorem dX5_isInForce_21 : decode cX5_isInForce 21 = .ok (.invokestatic 99, 3) := by decide +kernel
theorem dX5_isInForce_24 : decode cX5_isInForce 24 = .ok (.ifCond .eq 7, 3) := by decide +kernel
theorem dX5_isInForce_27 : decode cX5_isInForce 27 = .ok (.iconst 1, 1) := by decide +kernel
theorem dX5_isInForce_28 : decode cX5_isInForce 28 = .ok (.goto 4, 3) := by decide +kernel
theorem dX5_isInForce_31 : decode cX5_isInForce 31 = .ok (.iconst 0, 1) := by decide +kernel
theorem dX5_isInForce_32 : decode cX5_isInForce 32 = .ok (.ireturn, 1) := by decide +kernel
def f5_isInForce_j32 (k0_j32 : Int32) (s5_j32 : OS) : Option (Int32) := chk (isB k0_j32) (some k0_j32)
def f5_isInForce_j31 (s5_j31 : OS) : Option (Int32) := f5_isInForce_j32 ((0 : Int32)) s5_j31
def f5_isInForce (a1 : Int32) (a2 : Int32) (s5 : OS) : Option (Int32) := Option.bind (f5_has a1 s5) fun q_2 => if q_2 = 0 then (f5_isInForce_j31 s5) else (chk (inb a1 20) (nm (s5.1 3 a1.toNatClampNeg) fun y_14 => chk (inb a1 20) (nm (s5.1 4 a1.toNatClampNeg) fun y_20 => Option.bind (f10_isWithin a2 y_14 y_20) fun q_21 => if q_21 = 0 then (f5_isInForce_j31 s5) else (f5_isInForce_j32 ((1 : Int32)) s5))))
set_option maxHeartbeats 4000000 in
set_option maxRecDepth 100000 in
theorem m5_isInForce (l : Launch) (D : va_G) (ad : Nat → Nat) (cy : Nat → ClassId) (sz : Nat) (s0 s1 s2 s3 s4 s5 s6 s7 s8 s9 s10 : OS) (a1 : Int32) (a2 : Int32) (r : Int32) (h : f5_isInForce a1 a2 s5 = some r) : Met l yX5_isInForce (wsOf yX5_isInForce cX5_isInForce 3 (some .boolean)) (rmL 1) (va_Pc ([.ref (ad 5), .int a1, .int a2] : List Value) (PreG D cy (cellsC ad cy s0 s1 s2 s3 s4 s5 s6 s7 s8 s9 s10) sz (NC ad))) (QcI D ad 67 (cellsC ad cy s0 s1 s2 s3 s4 s5 s6 s7 s8 s9 s10) (r) sz) 0 0 (Afr ad 67 sz) := by
  refine metG (own := RX5) (by decide) rfl (Nat.le_of_ble_eq_true rfl) fstC ?_ sz
  intro p e s m below meth c ls C0 hw hl
  obtain ⟨hx, hb, hml, hown, hts, hr, hlk, hK, hN⟩ := C0
  have hl : lv_has ls 3 [(0, .ref (ad 5)), (1, .int a1), (2, .int a2)] := hl
  generalize hQ : MQ below (QcI D ad 67 (cellsC ad cy s0 s1 s2 s3 s4 s5 s6 s7 s8 s9 s10) (r) s.heap.size) ([.ref (ad 5), .int a1, .int a2] : List Value).toArray s 0 0 (Afr ad 67 s.heap.size) = Q
  obtain ⟨H, hH⟩ : ∃ H : Heap, H = s.heap := ⟨_, rfl⟩
  obtain ⟨locs, hlc⟩ : ∃ L : List Loc, L = [] := ⟨_, rfl⟩
  have hw : Wd D (cellsC ad cy s0 s1 s2 s3 s4 s5 s6 s7 s8 s9 s10) (Afr ad 67 s.heap.size) s.heap H locs := by rw [hH, hlc]; exact hw
  suffices h0 : W p l e (rmL 1) s m ([.ref (ad 5), .int a1, .int a2] : List Value).toArray below meth c H locs 0 0 Q (F0 m 0 ls []) by rw [hH, hlc] at h0; exact h0
  clear hH hlc
  unfold f5_isInForce at h
  have hJ_32 : ∀ (k0_j32 : Int32) (H : Heap) (locs : List Loc) (ls : Array Slot), f5_isInForce_j32 k0_j32 s5 = some r → Wd D (cellsC ad cy s0 s1 s2 s3 s4 s5 s6 s7 s8 s9 s10) (Afr ad 67 s.heap.size) s.heap H locs → lv_has ls 3 [] → W p l e (rmL 1) s m ([.ref (ad 5), .int a1, .int a2] : List Value).toArray below meth c H locs 0 0 Q (F0 m 32 ls [.int k0_j32]) := by
    intro k0_j32 H locs ls h hw hl
    unfold f5_isInForce_j32 at h
    obtain ⟨hz_32, h⟩ := chk_e h
    have h := Option.some.inj h
    subst h
    rw [← hQ]
    exact retI hx hb hr hlk hw (narB hz_32) dX5_isInForce_32
  have hJ_31 : ∀  (H : Heap) (locs : List Loc) (ls : Array Slot), f5_isInForce_j31 s5 = some r → Wd D (cellsC ad cy s0 s1 s2 s3 s4 s5 s6 s7 s8 s9 s10) (Afr ad 67 s.heap.size) s.heap H locs → lv_has ls 3 [] → W p l e (rmL 1) s m ([.ref (ad 5), .int a1, .int a2] : List Value).toArray below meth c H locs 0 0 Q (F0 m 31 ls []) := by
    intro  H locs ls h hw hl
    unfold f5_isInForce_j31 at h
    refine lv_iconst (v := 0) hx hb dX5_isInForce_31 (by decide) ?_
    exact hJ_32 ((0 : Int32)) H locs ls h hw (lv_sub hl [] rfl)
  refine lv_aload_n hx hb dX5_isInForce_0 rfl (lv_at hl 0 rfl) ?_
  refine lv_iload_n hx hb dX5_isInForce_1 rfl (lv_at hl 1 rfl) ?_
  obtain ⟨q_2, h_2, h⟩ := bnd_e h
  have pg_2 := preG (av := [.ref (ad 5), .int a1]) hK hw.1 hw.2.1 (NC_keep hN hw.2.2) NC_blind
  refine endI (mc := 0) (ms := 0) (va_runV (As := [.int a1]) (rest := []) ⟨hx, hb, hml, hown, hts⟩ (m5_has l D ad cy H.size s0 s1 s2 s3 s4 s5 s6 s7 s8 s9 s10 a1 q_2 h_2) (wX5_55 0 hts ⟨Nat.le_of_ble_eq_true rfl, Nat.le_of_ble_eq_true rfl⟩) ⟨pg_2.1, va_recv hK hw.1 (ci := 5) (q0 := 5) rfl eC_5, pg_2.2⟩ rfl rfl hl.1 rfl (lv_room (Nat.le_of_ble_eq_true rfl)) dX5_isInForce_2 ⟨Nat.le_refl _, Nat.le_refl _⟩) hw.2.2 (afr_in hw.2.2) (fun H locs hw => ?_)
  refine lv_if_eq (tgt := 31) hx hb dX5_isInForce_5 (by decide) (fun c_5 => ?_) (fun c_5 => ?_)
  · have h := ite_t c_5 h
    exact hJ_31  H locs ls h hw (lv_sub hl [] rfl)
  · have h := ite_f c_5 h
    refine lv_iload_n hx hb dX5_isInForce_8 rfl (lv_at hl 2 rfl) ?_
    refine lv_aload_n hx hb dX5_isInForce_9 rfl (lv_at hl 0 rfl) ?_
    refine gX5_21 hx hb hts hown hK hw dX5_isInForce_10 ?_
    refine lv_iload_n hx hb dX5_isInForce_13 rfl (lv_at hl 1 rfl) ?_
    obtain ⟨hi_14, h⟩ := chk_e h
    obtain ⟨y_14, e_14, h⟩ := nam_e h
    refine lC47 hx hb hK hw hi_14 e_14 dX5_isInForce_14 ?_
    refine lv_aload_n hx hb dX5_isInForce_15 rfl (lv_at hl 0 rfl) ?_
    refine gX5_24 hx hb hts hown hK hw dX5_isInForce_16 ?_
    refine lv_iload_n hx hb dX5_isInForce_19 rfl (lv_at hl 1 rfl) ?_
    obtain ⟨hi_20, h⟩ := chk_e h
    obtain ⟨y_20, e_20, h⟩ := nam_e h
    refine lC48 hx hb hK hw hi_20 e_20 dX5_isInForce_20 ?_
    obtain ⟨q_21, h_21, h⟩ := bnd_e h
    have pg_21 := preG (av := [.int a2, .int y_14, .int y_20]) hK hw.1 hw.2.1 (NC_keep hN hw.2.2) NC_blind
    refine endI (mc := 0) (ms := 0) (va_runSN (As := [.int a2, .int y_14, .int y_20]) (rest := []) ⟨hx, hb, hml, hown, hts⟩ (m10_isWithin l D ad cy H.size s0 s1 s2 s3 s4 s5 s6 s7 s8 s9 s10 a2 y_14 y_20 q_21 h_21) (wX5_99 0 hts hN.2.1 ⟨Nat.le_of_ble_eq_true rfl, Nat.le_of_ble_eq_true rfl⟩) pg_21 rfl rfl hl.1 rfl (lv_room (Nat.le_of_ble_eq_true rfl)) dX5_isInForce_21 ⟨Nat.le_refl _, Nat.le_refl _⟩) hw.2.2 (afr_in hw.2.2) (fun H locs hw => ?_)
    refine lv_if_eq (tgt := 31) hx hb dX5_isInForce_24 (by decide) (fun c_24 => ?_) (fun c_24 => ?_)
    · have h := ite_t c_24 h
      exact hJ_31  H locs ls h hw (lv_sub hl [] rfl)
    · have h := ite_f c_24 h
      refine lv_iconst (v := 1) hx hb dX5_isInForce_27 (by decide) ?_
      refine lv_goto (tgt := 32) hx hb dX5_isInForce_28 (by decide) ?_
      exact hJ_32 ((1 : Int32)) H locs ls h hw (lv_sub hl [] rfl)
theorem dX5_strike_0 : decode cX5_strike 0 = .ok (.aload_n 0, 1) := by decide +kernel
theorem dX5_strike_1 : decode cX5_strike 1 = .ok (.getfield 37, 3) := by decide +kernel
theorem dX5_strike_4 : decode cX5_strike 4 = .ok (.invokevirtual 117, 3) := by decide +kernel
theorem dX5_strike_7 : decode cX5_strike 7 = .ok (.istore_n 3, 1) := by decide +kernel
theorem dX5_strike_8 : decode cX5_strike 8 = .ok (.iload_n 3, 1) := by decide +kernel
theorem dX5_strike_9 : decode cX5_strike 9 = .ok (.iload_n 1, 1) := by decide +kernel
theorem dX5_strike_10 : decode cX5_strike 10 = .ok (.if_icmp .ge 30, 3) := by decide +kernel
theorem dX5_strike_13 : decode cX5_strike 13 = .ok (.aload_n 0, 1) := by decide +kernel
theorem dX5_strike_14 : decode cX5_strike 14 = .ok (.iload_n 3, 1) := by decide +kernel
theorem dX5_strike_15 : decode cX5_strike 15 = .ok (.iload_n 2, 1) := by decide +kernel
theorem dX5_strike_16 : decode cX5_strike 16 = .ok (.invokevirtual 91, 3) := by decide +kernel
theorem dX5_strike_19 : decode cX5_strike 19 = .ok (.ifCond .eq 21, 3) := by decide +kernel
theorem dX5_strike_22 : decode cX5_strike 22 = .ok (.aload_n 0, 1) := by decide +kernel
theorem dX5_strike_23 : decode cX5_strike 23 = .ok (.getfield 33, 3) := by decide +kernel
theorem dX5_strike_26 : decode cX5_strike 26 = .ok (.iload_n 3, 1) := by decide +kernel
theorem dX5_strike_27 : decode cX5_strike 27 = .ok (.dup2, 1) := by decide +kernel
theorem dX5_strike_28 : decode cX5_strike 28 = .ok (.iaload, 1) := by decide +kernel
theorem dX5_strike_29 : decode cX5_strike 29 = .ok (.iconst 1, 1) := by decide +kernel
theorem dX5_strike_30 : decode cX5_strike 30 = .ok (.aload_n 0, 1) := by decide +kernel
theorem dX5_strike_31 : decode cX5_strike 31 = .ok (.getfield 37, 3) := by decide +kernel
theorem dX5_strike_34 : decode cX5_strike 34 = .ok (.invokevirtual 120, 3) := by decide +kernel
theorem dX5_strike_37 : decode cX5_strike 37 = .ok (.ishl, 1) := by decide +kernel
theorem dX5_strike_38 : decode cX5_strike 38 = .ok (.ior, 1) := by decide +kernel
theorem dX5_strike_39 : decode cX5_strike 39 = .ok (.iastore, 1) := by decide +kernel
theorem dX5_strike_40 : decode cX5_strike 40 = .ok (.return_, 1) := by decide +kernel
def f5_strike_j40 (s5_j40 : OS) (s6_j40 : OS) : Option (OS) := some s5_j40
def f5_strike (a1 : Int32) (a2 : Int32) (s5 : OS) (s6 : OS) : Option (OS) := Option.bind (f6_first s6) fun q_4 => if a1 ≤ q_4 then (f5_strike_j40 s5 s6) else (Option.bind (f5_isInForce q_4 a2 s5) fun q_16 => if q_16 = 0 then (f5_strike_j40 s5 s6) else (chk (inb q_4 20) (nm (s5.1 7 q_4.toNatClampNeg) fun y_28 => Option.bind (f6_second s6) fun q_34 => chk (inb q_4 20) (nm (wI s5 7 q_4.toNatClampNeg ((y_28 ||| ((1 : Int32) <<< (q_34 &&& 31))))) fun s5_39 => f5_strike_j40 s5_39 s6))))
set_option maxHeartbeats 4000000 in
set_option maxRecDepth 100000 in
theorem m5_strike (l : Launch) (D : va_G) (ad : Nat → Nat) (cy : Nat → ClassId) (sz : Nat) (s0 s1 s2 s3 s4 s5 s6 s7 s8 s9 s10 : OS) (a1 : Int32) (a2 : Int32) (r : OS) (h : f5_strike a1 a2 s5 s6 = some r) : Met l yX5_strike (wsOf yX5_strike cX5_strike 4 none) (rmL 2) (va_Pc ([.ref (ad 5), .int a1, .int a2] : List Value) (PreG D cy (cellsC ad cy s0 s1 s2 s3 s4 s5 s6 s7 s8 s9 s10) sz (NC ad))) (QcV D ad 67 (cellsC ad cy s0 s1 s2 s3 s4 r s6 s7 s8 s9 s10) sz) 0 0 (Afr ad 67 sz) := by
  refine metG (own := RX5) (by decide) rfl (Nat.le_of_ble_eq_true rfl) fstC ?_ sz
  intro p e s m below meth c ls C0 hw hl
  obtain ⟨hx, hb, hml, hown, hts, hr, hlk, hK, hN⟩ := C0
  have hl : lv_has ls 4 [(0, .ref (ad 5)), (1, .int a1), (2, .int a2)] := hl
  generalize hQ : MQ below (QcV D ad 67 (cellsC ad cy s0 s1 s2 s3 s4 r s6 s7 s8 s9 s10) s.heap.size) ([.ref (ad 5), .int a1, .int a2] : List Value).toArray s 0 0 (Afr ad 67 s.heap.size) = Q
  obtain ⟨H, hH⟩ : ∃ H : Heap, H = s.heap := ⟨_, rfl⟩
  obtain ⟨locs, hlc⟩ : ∃ L : List Loc, L = [] := ⟨_, rfl⟩
  have hw : Wd D (cellsC ad cy s0 s1 s2 s3 s4 s5 s6 s7 s8 s9 s10) (Afr ad 67 s.heap.size) s.heap H locs := by rw [hH, hlc]; exact hw
  suffices h0 : W p l e (rmL 2) s m ([.ref (ad 5), .int a1, .int a2] : List Value).toArray below meth c H locs 0 0 Q (F0 m 0 ls []) by rw [hH, hlc] at h0; exact h0
  clear hH hlc
  unfold f5_strike at h
  have hJ_40 : ∀ (s5_j40 : OS) (H : Heap) (locs : List Loc) (ls : Array Slot), f5_strike_j40 s5_j40 s6 = some r → Wd D (cellsC ad cy s0 s1 s2 s3 s4 s5_j40 s6 s7 s8 s9 s10) (Afr ad 67 s.heap.size) s.heap H locs → lv_has ls 4 [] → W p l e (rmL 2) s m ([.ref (ad 5), .int a1, .int a2] : List Value).toArray below meth c H locs 0 0 Q (F0 m 40 ls []) := by
    intro s5_j40 H locs ls h hw hl
    unfold f5_strike_j40 at h
    have h := Option.some.inj h
    subst h
    rw [← hQ]
    exact retV hx hb hr hlk hw dX5_strike_40
  refine lv_aload_n hx hb dX5_strike_0 rfl (lv_at hl 0 rfl) ?_
  refine gX5_37 hx hb hts hown hK hw dX5_strike_1 ?_
  obtain ⟨q_4, h_4, h⟩ := bnd_e h
  have pg_4 := preG (av := [.ref (ad 6)]) hK hw.1 hw.2.1 (NC_keep hN hw.2.2) NC_blind
  refine endI (mc := 0) (ms := 0) (va_runV (As := []) (rest := []) ⟨hx, hb, hml, hown, hts⟩ (m6_first l D ad cy H.size s0 s1 s2 s3 s4 s5 s6 s7 s8 s9 s10 q_4 h_4) (wX5_117 0 hts ⟨Nat.le_of_ble_eq_true rfl, Nat.le_of_ble_eq_true rfl⟩) ⟨pg_4.1, va_recv hK hw.1 (ci := 6) (q0 := 6) rfl eC_6, pg_4.2⟩ rfl rfl hl.1 rfl (lv_room (Nat.le_of_ble_eq_true rfl)) dX5_strike_4 ⟨Nat.le_refl _, Nat.le_refl _⟩) hw.2.2 (afr_in hw.2.2) (fun H locs hw => ?_)
  refine lv_istore_n (lv' := [(3, .int q_4), (0, .ref (ad 5)), (1, .int a1), (2, .int a2)]) hx hb dX5_strike_7 rfl hl (by decide) rfl (fun ls hl => ?_)
  refine lv_iload_n hx hb dX5_strike_8 rfl (lv_at hl 0 rfl) ?_
  refine lv_iload_n hx hb dX5_strike_9 rfl (lv_at hl 2 rfl) ?_
  refine lv_icmp_ge (tgt := 40) hx hb dX5_strike_10 (by decide) (fun c_10 => ?_) (fun c_10 => ?_)
  · have h := ite_t c_10 h
    exact hJ_40 s5 H locs ls h hw (lv_sub hl [] rfl)
  · have h := ite_f c_10 h
    refine lv_aload_n hx hb dX5_strike_13 rfl (lv_at hl 1 rfl) ?_
    refine lv_iload_n hx hb dX5_strike_14 rfl (lv_at hl 0 rfl) ?_
    refine lv_iload_n hx hb dX5_strike_15 rfl (lv_at hl 3 rfl) ?_
    obtain ⟨q_16, h_16, h⟩ := bnd_e h
    have pg_16 := preG (av := [.ref (ad 5), .int q_4, .int a2]) hK hw.1 hw.2.1 (NC_keep hN hw.2.2) NC_blind
    refine endI (mc := 0) (ms := 0) (va_runV (As := [.int q_4, .int a2]) (rest := []) ⟨hx, hb, hml, hown, hts⟩ (m5_isInForce l D ad cy H.size s0 s1 s2 s3 s4 s5 s6 s7 s8 s9 s10 q_4 a2 q_16 h_16) (wX5_91 1 hts ⟨Nat.le_of_ble_eq_true rfl, Nat.le_of_ble_eq_true rfl⟩) ⟨pg_16.1, va_recv hK hw.1 (ci := 5) (q0 := 5) rfl eC_5, pg_16.2⟩ rfl rfl hl.1 rfl (lv_room (Nat.le_of_ble_eq_true rfl)) dX5_strike_16 ⟨Nat.le_refl _, Nat.le_refl _⟩) hw.2.2 (afr_in hw.2.2) (fun H locs hw => ?_)
    refine lv_if_eq (tgt := 40) hx hb dX5_strike_19 (by decide) (fun c_19 => ?_) (fun c_19 => ?_)
    · have h := ite_t c_19 h
      exact hJ_40 s5 H locs ls h hw (lv_sub hl [] rfl)
    · have h := ite_f c_19 h
      refine lv_aload_n hx hb dX5_strike_22 rfl (lv_at hl 1 rfl) ?_
      refine gX5_33 hx hb hts hown hK hw dX5_strike_23 ?_
      refine lv_iload_n hx hb dX5_strike_26 rfl (lv_at hl 0 rfl) ?_
      refine lv_dup2_11 hx hb dX5_strike_27 rfl rfl ?_
      obtain ⟨hi_28, h⟩ := chk_e h
      obtain ⟨y_28, e_28, h⟩ := nam_e h
      refine lC51 hx hb hK hw hi_28 e_28 dX5_strike_28 ?_
      refine lv_iconst (v := 1) hx hb dX5_strike_29 (by decide) ?_
      refine lv_aload_n hx hb dX5_strike_30 rfl (lv_at hl 1 rfl) ?_
      refine gX5_37 hx hb hts hown hK hw dX5_strike_31 ?_
      obtain ⟨q_34, h_34, h⟩ := bnd_e h
      have pg_34 := preG (av := [.ref (ad 6)]) hK hw.1 hw.2.1 (NC_keep hN hw.2.2) NC_blind
      refine endI (mc := 0) (ms := 0) (va_runV (As := []) (rest := [.int ((1 : Int32)), .int y_28, .int q_4, .ref (ad 51)]) ⟨hx, hb, hml, hown, hts⟩ (m6_second l D ad cy H.size s0 s1 s2 s3 s4 s5 s6 s7 s8 s9 s10 q_34 h_34) (wX5_120 0 hts ⟨Nat.le_of_ble_eq_true rfl, Nat.le_of_ble_eq_true rfl⟩) ⟨pg_34.1, va_recv hK hw.1 (ci := 6) (q0 := 6) rfl eC_6, pg_34.2⟩ rfl rfl hl.1 rfl (lv_room (Nat.le_of_ble_eq_true rfl)) dX5_strike_34 ⟨Nat.le_refl _, Nat.le_refl _⟩) hw.2.2 (afr_in hw.2.2) (fun H locs hw => ?_)
      refine lv_ishl hx hb dX5_strike_37 ?_
      refine lv_ior hx hb dX5_strike_38 ?_
      obtain ⟨hi_39, h⟩ := chk_e h
      obtain ⟨s5_39, e_39, h⟩ := nam_e h
      refine aC51 hx hb hK hw hi_39 e_39 dX5_strike_39 (fun H locs hw => ?_)
      exact hJ_40 s5_39 H locs ls h hw (lv_sub hl [] rfl)
theorem dX5_applyOne_0 : decode cX5_applyOne 0 = .ok (.aload_n 0, 1) := by decide +kernel
theorem dX5_applyOne_1 : decode cX5_applyOne 1 = .ok (.iload_n 1, 1) := by decide +kernel
theorem dX5_applyOne_2 : decode cX5_applyOne 2 = .ok (.invokevirtual 55, 3) := by decide +kernel
theorem dX5_applyOne_5 : decode cX5_applyOne 5 = .ok (.ifCond .ne 4, 3) := by decide +kernel
theorem dX5_applyOne_8 : decode cX5_applyOne 8 = .ok (.return_, 1) := by decide +kernel
theorem dX5_applyOne_9 : decode cX5_applyOne 9 = .ok (.iconst (-1), 1) := by decide +kernel
theorem dX5_applyOne_10 : decode cX5_applyOne 10 = .ok (.istore_n 3, 1) := by decide +kernel
theorem dX5_applyOne_11 : decode cX5_applyOne 11 = .ok (.iconst (-1), 1) := by decide +kernel
theorem dX5_applyOne_12 : decode cX5_applyOne 12 = .ok (.istore 4, 2) := by decide +kernel
theorem dX5_applyOne_14 : decode cX5_applyOne 14 = .ok (.aload_n 0, 1) := by decide +kernel
theorem dX5_applyOne_15 : decode cX5_applyOne 15 = .ok (.getfield 37, 3) := by decide +kernel
theorem dX5_applyOne_18 : decode cX5_applyOne 18 = .ok (.aload_n 0, 1) := by decide +kernel
theorem dX5_applyOne_19 : decode cX5_applyOne 19 = .ok (.getfield 13, 3) := by decide +kernel
theorem dX5_applyOne_22 : decode cX5_applyOne 22 = .ok (.iload_n 1, 1) := by decide +kernel
theorem dX5_applyOne_23 : decode cX5_applyOne 23 = .ok (.sipush 160, 3) := by decide +kernel
theorem dX5_applyOne_26 : decode cX5_applyOne 26 = .ok (.imul, 1) := by decide +kernel
theorem dX5_applyOne_27 : decode cX5_applyOne 27 = .ok (.aload_n 0, 1) := by decide +kernel
theorem dX5_applyOne_28 : decode cX5_applyOne 28 = .ok (.getfield 17, 3) := by decide +kernel
theorem dX5_applyOne_31 : decode cX5_applyOne 31 = .ok (.iload_n 1, 1) := by decide +kernel
theorem dX5_applyOne_32 : decode cX5_applyOne 32 = .ok (.iaload, 1) := by decide +kernel
theorem dX5_applyOne_33 : decode cX5_applyOne 33 = .ok (.invokevirtual 65, 3) := by decide +kernel
theorem dX5_applyOne_36 : decode cX5_applyOne 36 = .ok (.iconst 0, 1) := by decide +kernel
theorem dX5_applyOne_37 : decode cX5_applyOne 37 = .ok (.istore 5, 2) := by decide +kernel
theorem dX5_applyOne_39 : decode cX5_applyOne 39 = .ok (.iload 5, 2) := by decide +kernel
theorem dX5_applyOne_41 : decode cX5_applyOne 41 = .ok (.aload_n 0, 1) := by decide +kernel
theorem dX5_applyOne_42 : decode cX5_applyOne 42 = .ok (.getfield 27, 3) := by decide +kernel
theorem dX5_applyOne_45 : decode cX5_applyOne 45 = .ok (.iload_n 1, 1) := by decide +kernel
theorem dX5_applyOne_46 : decode cX5_applyOne 46 = .ok (.iaload, 1) := by decide +kernel
theorem dX5_applyOne_47 : decode cX5_applyOne 47 = .ok (.if_icmp .ge 186, 3) := by decide +kernel
theorem dX5_applyOne_50 : decode cX5_applyOne 50 = .ok (.iload 5, 2) := by decide +kernel
theorem dX5_applyOne_52 : decode cX5_applyOne 52 = .ok (.bipush 12, 2) := by decide +kernel
theorem dX5_applyOne_54 : decode cX5_applyOne 54 = .ok (.if_icmp .ge 179, 3) := by decide +kernel
theorem dX5_applyOne_57 : decode cX5_applyOne 57 = .ok (.aload_n 0, 1) := by decide +kernel
theorem dX5_applyOne_58 : decode cX5_applyOne 58 = .ok (.getfield 33, 3) := by decide +kernel
theorem dX5_applyOne_61 : decode cX5_applyOne 61 = .ok (.iload_n 1, 1) := by decide +kernel
theorem dX5_applyOne_62 : decode cX5_applyOne 62 = .ok (.iaload, 1) := by decide +kernel
theorem dX5_applyOne_63 : decode cX5_applyOne 63 = .ok (.iload 5, 2) := by decide +kernel
theorem dX5_applyOne_65 : decode cX5_applyOne 65 = .ok (.ishr, 1) := by decide +kernel
theorem dX5_applyOne_66 : decode cX5_applyOne 66 = .ok (.iconst 1, 1) := by decide +kernel
theorem dX5_applyOne_67 : decode cX5_applyOne 67 = .ok (.iand, 1) := by decide +kernel
theorem dX5_applyOne_68 : decode cX5_applyOne 68 = .ok (.ifCond .eq 6, 3) := by decide +kernel
theorem dX5_applyOne_71 : decode cX5_applyOne 71 = .ok (.goto 156, 3) := by decide +kernel
theorem dX5_applyOne_74 : decode cX5_applyOne 74 = .ok (.aload_n 0, 1) := by decide +kernel
theorem dX5_applyOne_75 : decode cX5_applyOne 75 = .ok (.getfield 37, 3) := by decide +kernel
theorem dX5_applyOne_78 : decode cX5_applyOne 78 = .ok (.aload_n 0, 1) := by decide +kernel
theorem dX5_applyOne_79 : decode cX5_applyOne 79 = .ok (.getfield 30, 3) := by decide +kernel
theorem dX5_applyOne_82 : decode cX5_applyOne 82 = .ok (.iload_n 1, 1) := by decide +kernel
theorem dX5_applyOne_83 : decode cX5_applyOne 83 = .ok (.bipush 12, 2) := by decide +kernel
theorem dX5_applyOne_85 : decode cX5_applyOne 85 = .ok (.imul, 1) := by decide +kernel
theorem dX5_applyOne_86 : decode cX5_applyOne 86 = .ok (.iload 5, 2) := by decide +kernel
theorem dX5_applyOne_88 : decode cX5_applyOne 88 = .ok (.iadd, 1) := by decide +kernel
theorem dX5_applyOne_89 : decode cX5_applyOne 89 = .ok (.iaload, 1) := by decide +kernel
theorem dX5_applyOne_90 : decode cX5_applyOne 90 = .ok (.invokevirtual 103, 3) := by decide +kernel
theorem dX5_applyOne_93 : decode cX5_applyOne 93 = .ok (.aload_n 0, 1) := by decide +kernel
theorem dX5_applyOne_94 : decode cX5_applyOne 94 = .ok (.getfield 37, 3) := by decide +kernel
theorem dX5_applyOne_97 : decode cX5_applyOne 97 = .ok (.iconst 1, 1) := by decide +kernel
theorem dX5_applyOne_98 : decode cX5_applyOne 98 = .ok (.invokevirtual 107, 3) := by decide +kernel
theorem dX5_applyOne_101 : decode cX5_applyOne 101 = .ok (.istore 6, 2) := by decide +kernel
theorem dX5_applyOne_103 : decode cX5_applyOne 103 = .ok (.aload_n 0, 1) := by decide +kernel
theorem dX5_applyOne_104 : decode cX5_applyOne 104 = .ok (.getfield 37, 3) := by decide +kernel
theorem dX5_applyOne_107 : decode cX5_applyOne 107 = .ok (.invokevirtual 111, 3) := by decide +kernel
theorem dX5_applyOne_110 : decode cX5_applyOne 110 = .ok (.lookupswitch 117 #[(98, 51), (100, 75), (116, 95), (120, 42)], 42) := by decide +kernel
theorem dX5_applyOne_152 : decode cX5_applyOne 152 = .ok (.aload_n 0, 1) := by decide +kernel
theorem dX5_applyOne_153 : decode cX5_applyOne 153 = .ok (.iload_n 1, 1) := by decide +kernel
theorem dX5_applyOne_154 : decode cX5_applyOne 154 = .ok (.iload_n 2, 1) := by decide +kernel
theorem dX5_applyOne_155 : decode cX5_applyOne 155 = .ok (.invokevirtual 114, 3) := by decide +kernel
theorem dX5_applyOne_158 : decode cX5_applyOne 158 = .ok (.goto 69, 3) := by decide +kernel
theorem dX5_applyOne_161 : decode cX5_applyOne 161 = .ok (.aload_n 0, 1) := by decide +kernel
theorem dX5_applyOne_162 : decode cX5_applyOne 162 = .ok (.aload_n 0, 1) := by decide +kernel
theorem dX5_applyOne_163 : decode cX5_applyOne 163 = .ok (.getfield 45, 3) := by decide +kernel
theorem dX5_applyOne_166 : decode cX5_applyOne 166 = .ok (.ifCond .ne 8, 3) := by decide +kernel
theorem dX5_applyOne_169 : decode cX5_applyOne 169 = .ok (.iload 6, 2) := by decide +kernel
theorem dX5_applyOne_171 : decode cX5_applyOne 171 = .ok (.ifCond .eq 7, 3) := by decide +kernel
theorem dX5_applyOne_174 : decode cX5_applyOne 174 = .ok (.iconst 1, 1) := by decide +kernel
theorem dX5_applyOne_175 : decode cX5_applyOne 175 = .ok (.goto 4, 3) := by decide +kernel
theorem dX5_applyOne_178 : decode cX5_applyOne 178 = .ok (.iconst 0, 1) := by decide +kernel
theorem dX5_applyOne_179 : decode cX5_applyOne 179 = .ok (.putfield 45, 3) := by decide +kernel
theorem dX5_applyOne_182 : decode cX5_applyOne 182 = .ok (.goto 45, 3) := by decide +kernel
theorem dX5_applyOne_185 : decode cX5_applyOne 185 = .ok (.iload 6, 2) := by decide +kernel
theorem dX5_applyOne_187 : decode cX5_applyOne 187 = .ok (.ifCond .eq 13, 3) := by decide +kernel
theorem dX5_applyOne_190 : decode cX5_applyOne 190 = .ok (.aload_n 0, 1) := by decide +kernel
theorem dX5_applyOne_191 : decode cX5_applyOne 191 = .ok (.getfield 37, 3) := by decide +kernel
theorem dX5_applyOne_194 : decode cX5_applyOne 194 = .ok (.invokevirtual 117, 3) := by decide +kernel
theorem dX5_applyOne_197 : decode cX5_applyOne 197 = .ok (.goto 4, 3) := by decide +kernel
theorem dX5_applyOne_200 : decode cX5_applyOne 200 = .ok (.iload_n 3, 1) := by decide +kernel
theorem dX5_applyOne_201 : decode cX5_applyOne 201 = .ok (.istore_n 3, 1) := by decide +kernel
theorem dX5_applyOne_202 : decode cX5_applyOne 202 = .ok (.goto 25, 3) := by decide +kernel
theorem dX5_applyOne_205 : decode cX5_applyOne 205 = .ok (.iload 6, 2) := by decide +kernel
theorem dX5_applyOne_207 : decode cX5_applyOne 207 = .ok (.ifCond .eq 13, 3) := by decide +kernel
theorem dX5_applyOne_210 : decode cX5_applyOne 210 = .ok (.aload_n 0, 1) := by decide +kernel
theorem dX5_applyOne_211 : decode cX5_applyOne 211 = .ok (.getfield 37, 3) := by decide +kernel
theorem dX5_applyOne_214 : decode cX5_applyOne 214 = .ok (.invokevirtual 117, 3) := by decide +kernel
theorem dX5_applyOne_217 : decode cX5_applyOne 217 = .ok (.goto 5, 3) := by decide +kernel
theorem dX5_applyOne_220 : decode cX5_applyOne 220 = .ok (.iload 4, 2) := by decide +kernel
theorem dX5_applyOne_222 : decode cX5_applyOne 222 = .ok (.istore 4, 2) := by decide +kernel
theorem dX5_applyOne_224 : decode cX5_applyOne 224 = .ok (.goto 3, 3) := by decide +kernel
theorem dX5_applyOne_227 : decode cX5_applyOne 227 = .ok (.iinc 5 1, 3) := by decide +kernel
theorem dX5_applyOne_230 : decode cX5_applyOne 230 = .ok (.goto (-191), 3) := by decide +kernel
theorem dX5_applyOne_233 : decode cX5_applyOne 233 = .ok (.aload_n 0, 1) := by decide +kernel
theorem dX5_applyOne_234 : decode cX5_applyOne 234 = .ok (.aload_n 0, 1) := by decide +kernel
theorem dX5_applyOne_235 : decode cX5_applyOne 235 = .ok (.getfield 49, 3) := by decide +kernel
theorem dX5_applyOne_238 : decode cX5_applyOne 238 = .ok (.iconst (-1), 1) := by decide +kernel
theorem dX5_applyOne_239 : decode cX5_applyOne 239 = .ok (.if_icmp .ne 7, 3) := by decide +kernel
theorem dX5_applyOne_242 : decode cX5_applyOne 242 = .ok (.iload_n 3, 1) := by decide +kernel
theorem dX5_applyOne_243 : decode cX5_applyOne 243 = .ok (.goto 7, 3) := by decide +kernel
theorem dX5_applyOne_246 : decode cX5_applyOne 246 = .ok (.aload_n 0, 1) := by decide +kernel
theorem dX5_applyOne_247 : decode cX5_applyOne 247 = .ok (.getfield 49, 3) := by decide +kernel
theorem dX5_applyOne_250 : decode cX5_applyOne 250 = .ok (.putfield 49, 3) := by decide +kernel
theorem dX5_applyOne_253 : decode cX5_applyOne 253 = .ok (.aload_n 0, 1) := by decide +kernel
theorem dX5_applyOne_254 : decode cX5_applyOne 254 = .ok (.aload_n 0, 1) := by decide +kernel
theorem dX5_applyOne_255 : decode cX5_applyOne 255 = .ok (.getfield 52, 3) := by decide +kernel
theorem dX5_applyOne_258 : decode cX5_applyOne 258 = .ok (.iconst (-1), 1) := by decide +kernel
theorem dX5_applyOne_259 : decode cX5_applyOne 259 = .ok (.if_icmp .ne 8, 3) := by decide +kernel
theorem dX5_applyOne_262 : decode cX5_applyOne 262 = .ok (.iload 4, 2) := by decide +kernel
theorem dX5_applyOne_264 : decode cX5_applyOne 264 = .ok (.goto 7, 3) := by decide +kernel
theorem dX5_applyOne_267 : decode cX5_applyOne 267 = .ok (.aload_n 0, 1) := by decide +kernel
theorem dX5_applyOne_268 : decode cX5_applyOne 268 = .ok (.getfield 52, 3) := by decide +kernel
theorem dX5_applyOne_271 : decode cX5_applyOne 271 = .ok (.putfield 52, 3) := by decide +kernel
theorem dX5_applyOne_274 : decode cX5_applyOne 274 = .ok (.return_, 1) := by decide +kernel
noncomputable def f5_applyOne_j271 (k1_j271 : Int32) (s5_j271 : OS) (s6_j271 : OS) : Option (OS × OS) := nm (wI s5_j271 0 11 k1_j271) fun s5_271 => some (s5_271, s6_j271)
noncomputable def f5_applyOne_j250 (v4_j250 : Int32) (k1_j250 : Int32) (s5_j250 : OS) (s6_j250 : OS) : Option (OS × OS) := nm (wI s5_j250 0 10 k1_j250) fun s5_250 => if (s5_250.1 0 11) = (-1 : Int32) then (f5_applyOne_j271 v4_j250 s5_250 s6_j250) else (f5_applyOne_j271 ((s5_250.1 0 11)) s5_250 s6_j250)
noncomputable def f5_applyOne_j233 (v3_j233 : Int32) (v4_j233 : Int32) (s5_j233 : OS) (s6_j233 : OS) : Option (OS × OS) := if (s5_j233.1 0 10) = (-1 : Int32) then (f5_applyOne_j250 v4_j233 v3_j233 s5_j233 s6_j233) else (f5_applyOne_j250 v4_j233 ((s5_j233.1 0 10)) s5_j233 s6_j233)
noncomputable def f5_applyOne_j227 (v1_j227 : Int32) (v2_j227 : Int32) (v3_j227 : Int32) (v4_j227 : Int32) (v5_j227 : Int32) (s5_j227 : OS) (s6_j227 : OS) : Option ((Int32 × Int32 × Int32 × OS × OS) ⊕ (OS × OS)) := nm (v5_j227 + (1 : Int32)) fun n_227 => some (Sum.inl (v3_j227, v4_j227, n_227, s5_j227, s6_j227))
noncomputable def f5_applyOne_j222 (v1_j222 : Int32) (v2_j222 : Int32) (v3_j222 : Int32) (v5_j222 : Int32) (k0_j222 : Int32) (s5_j222 : OS) (s6_j222 : OS) : Option ((Int32 × Int32 × Int32 × OS × OS) ⊕ (OS × OS)) := f5_applyOne_j227 v1_j222 v2_j222 v3_j222 k0_j222 v5_j222 s5_j222 s6_j222
noncomputable def f5_applyOne_j201 (v1_j201 : Int32) (v2_j201 : Int32) (v4_j201 : Int32) (v5_j201 : Int32) (k0_j201 : Int32) (s5_j201 : OS) (s6_j201 : OS) : Option ((Int32 × Int32 × Int32 × OS × OS) ⊕ (OS × OS)) := f5_applyOne_j227 v1_j201 v2_j201 k0_j201 v4_j201 v5_j201 s5_j201 s6_j201
noncomputable def f5_applyOne_j179 (v1_j179 : Int32) (v2_j179 : Int32) (v3_j179 : Int32) (v4_j179 : Int32) (v5_j179 : Int32) (k1_j179 : Int32) (s5_j179 : OS) (s6_j179 : OS) : Option ((Int32 × Int32 × Int32 × OS × OS) ⊕ (OS × OS)) := chk (isB k1_j179) (nm (wI s5_j179 0 9 k1_j179) fun s5_179 => f5_applyOne_j227 v1_j179 v2_j179 v3_j179 v4_j179 v5_j179 s5_179 s6_j179)
noncomputable def f5_applyOne_j174 (v1_j174 : Int32) (v2_j174 : Int32) (v3_j174 : Int32) (v4_j174 : Int32) (v5_j174 : Int32) (s5_j174 : OS) (s6_j174 : OS) : Option ((Int32 × Int32 × Int32 × OS × OS) ⊕ (OS × OS)) := f5_applyOne_j179 v1_j174 v2_j174 v3_j174 v4_j174 v5_j174 ((1 : Int32)) s5_j174 s6_j174
noncomputable def f5_applyOne_l39 (v1_i39 : Int32) (v2_i39 : Int32) : Int32 × Int32 × Int32 × OS × OS → Option ((Int32 × Int32 × Int32 × OS × OS) ⊕ (OS × OS)) := fun t_39 => chk (inb v1_i39 20) (nm (t_39.2.2.2.1.1 5 v1_i39.toNatClampNeg) fun y_46 => if y_46 ≤ t_39.2.2.1 then (Option.map Sum.inr (f5_applyOne_j233 t_39.1 t_39.2.1 t_39.2.2.2.1 t_39.2.2.2.2)) else (if (12 : Int32) ≤ t_39.2.2.1 then (Option.map Sum.inr (f5_applyOne_j233 t_39.1 t_39.2.1 t_39.2.2.2.1 t_39.2.2.2.2)) else (chk (inb v1_i39 20) (nm (t_39.2.2.2.1.1 7 v1_i39.toNatClampNeg) fun y_62 => if ((y_62 >>> (t_39.2.2.1 &&& 31)) &&& (1 : Int32)) = 0 then (chk (inb (((v1_i39 * (12 : Int32)) + t_39.2.2.1)) 240) (nm (t_39.2.2.2.1.1 6 (((v1_i39 * (12 : Int32)) + t_39.2.2.1)).toNatClampNeg) fun y_89 => Option.bind (f6_goTo y_89 t_39.2.2.2.2) fun q_90 => Option.bind (f6_readClause ((1 : Int32)) q_90) fun q_98 => Option.bind (f6_letter q_98.2) fun q_107 => if q_107 = 98 then (if (t_39.2.2.2.1.1 0 9) = 0 then (if q_98.1 = 0 then (f5_applyOne_j179 v1_i39 v2_i39 t_39.1 t_39.2.1 t_39.2.2.1 ((0 : Int32)) t_39.2.2.2.1 q_98.2) else (f5_applyOne_j174 v1_i39 v2_i39 t_39.1 t_39.2.1 t_39.2.2.1 t_39.2.2.2.1 q_98.2)) else (f5_applyOne_j174 v1_i39 v2_i39 t_39.1 t_39.2.1 t_39.2.2.1 t_39.2.2.2.1 q_98.2)) else if q_107 = 100 then (if q_98.1 = 0 then (f5_applyOne_j201 v1_i39 v2_i39 t_39.2.1 t_39.2.2.1 t_39.1 t_39.2.2.2.1 q_98.2) else (Option.bind (f6_first q_98.2) fun q_194 => f5_applyOne_j201 v1_i39 v2_i39 t_39.2.1 t_39.2.2.1 q_194 t_39.2.2.2.1 q_98.2)) else if q_107 = 116 then (if q_98.1 = 0 then (f5_applyOne_j222 v1_i39 v2_i39 t_39.1 t_39.2.2.1 t_39.2.1 t_39.2.2.2.1 q_98.2) else (Option.bind (f6_first q_98.2) fun q_214 => f5_applyOne_j222 v1_i39 v2_i39 t_39.1 t_39.2.2.1 q_214 t_39.2.2.2.1 q_98.2)) else if q_107 = 120 then (Option.bind (f5_strike v1_i39 v2_i39 t_39.2.2.2.1 q_98.2) fun q_155 => f5_applyOne_j227 v1_i39 v2_i39 t_39.1 t_39.2.1 t_39.2.2.1 q_155 q_98.2) else (f5_applyOne_j227 v1_i39 v2_i39 t_39.1 t_39.2.1 t_39.2.2.1 t_39.2.2.2.1 q_98.2))) else (f5_applyOne_j227 v1_i39 v2_i39 t_39.1 t_39.2.1 t_39.2.2.1 t_39.2.2.2.1 t_39.2.2.2.2)))))
noncomputable def f5_applyOne (a1 : Int32) (a2 : Int32) (s5 : OS) (s6 : OS) : Option (OS × OS) := Option.bind (f5_has a1 s5) fun q_2 => if q_2 = 0 then (some (s5, s6)) else (chk (inb a1 20) (nm (s5.1 2 a1.toNatClampNeg) fun y_32 => Option.bind (f6_turnTo ((a1 * (160 : Int32))) y_32 s5 s6) fun q_33 => loop (f5_applyOne_l39 a1 a2) ((-1 : Int32), (-1 : Int32), (0 : Int32), s5, q_33)))
set_option maxHeartbeats 4000000 in
set_option maxRecDepth 100000 in
theorem m5_applyOne (l : Launch) (D : va_G) (ad : Nat → Nat) (cy : Nat → ClassId) (sz : Nat) (s0 s1 s2 s3 s4 s5 s6 s7 s8 s9 s10 : OS) (a1 : Int32) (a2 : Int32) (r : OS × OS) (h : f5_applyOne a1 a2 s5 s6 = some r) : Met l yX5_applyOne (wsOf yX5_applyOne cX5_applyOne 7 none) (rmL 68) (va_Pc ([.ref (ad 5), .int a1, .int a2] : List Value) (PreG D cy (cellsC ad cy s0 s1 s2 s3 s4 s5 s6 s7 s8 s9 s10) sz (NC ad))) (QcV D ad 67 (cellsC ad cy s0 s1 s2 s3 s4 r.1 r.2 s7 s8 s9 s10) sz) 0 0 (Afr ad 67 sz) := by
  refine metG (own := RX5) (by decide) rfl (Nat.le_of_ble_eq_true rfl) fstC ?_ sz
  intro p e s m below meth c ls C0 hw hl
  obtain ⟨hx, hb, hml, hown, hts, hr, hlk, hK, hN⟩ := C0
  have hl : lv_has ls 7 [(0, .ref (ad 5)), (1, .int a1), (2, .int a2)] := hl
  generalize hQ : MQ below (QcV D ad 67 (cellsC ad cy s0 s1 s2 s3 s4 r.1 r.2 s7 s8 s9 s10) s.heap.size) ([.ref (ad 5), .int a1, .int a2] : List Value).toArray s 0 0 (Afr ad 67 s.heap.size) = Q
  obtain ⟨H, hH⟩ : ∃ H : Heap, H = s.heap := ⟨_, rfl⟩
  obtain ⟨locs, hlc⟩ : ∃ L : List Loc, L = [] := ⟨_, rfl⟩
  have hw : Wd D (cellsC ad cy s0 s1 s2 s3 s4 s5 s6 s7 s8 s9 s10) (Afr ad 67 s.heap.size) s.heap H locs := by rw [hH, hlc]; exact hw
  suffices h0 : W p l e (rmL 68) s m ([.ref (ad 5), .int a1, .int a2] : List Value).toArray below meth c H locs 0 0 Q (F0 m 0 ls []) by rw [hH, hlc] at h0; exact h0
  clear hH hlc
  unfold f5_applyOne at h
  have hJ_271 : ∀ (k1_j271 : Int32) (s5_j271 : OS) (s6_j271 : OS) (H : Heap) (locs : List Loc) (ls : Array Slot), f5_applyOne_j271 k1_j271 s5_j271 s6_j271 = some r → Wd D (cellsC ad cy s0 s1 s2 s3 s4 s5_j271 s6_j271 s7 s8 s9 s10) (Afr ad 67 s.heap.size) s.heap H locs → lv_has ls 7 [] → W p l e (rmL 68) s m ([.ref (ad 5), .int a1, .int a2] : List Value).toArray below meth c H locs 0 0 Q (F0 m 271 ls [.int k1_j271, .ref (ad 5)]) := by
    intro k1_j271 s5_j271 s6_j271 H locs ls h hw hl
    unfold f5_applyOne_j271 at h
    obtain ⟨s5_271, e_271, h⟩ := nam_e h
    refine pX5_52 hx hb hts hown hK hw e_271 dX5_applyOne_271 (fun H locs hw => ?_)
    have h := Option.some.inj h
    subst h
    rw [← hQ]
    exact retV hx hb hr hlk hw dX5_applyOne_274
  have hJ_250 : ∀ (v4_j250 : Int32) (k1_j250 : Int32) (s5_j250 : OS) (s6_j250 : OS) (H : Heap) (locs : List Loc) (ls : Array Slot), f5_applyOne_j250 v4_j250 k1_j250 s5_j250 s6_j250 = some r → Wd D (cellsC ad cy s0 s1 s2 s3 s4 s5_j250 s6_j250 s7 s8 s9 s10) (Afr ad 67 s.heap.size) s.heap H locs → lv_has ls 7 [(0, .ref (ad 5)), (4, .int v4_j250)] → W p l e (rmL 68) s m ([.ref (ad 5), .int a1, .int a2] : List Value).toArray below meth c H locs 0 0 Q (F0 m 250 ls [.int k1_j250, .ref (ad 5)]) := by
    intro v4_j250 k1_j250 s5_j250 s6_j250 H locs ls h hw hl
    unfold f5_applyOne_j250 at h
    obtain ⟨s5_250, e_250, h⟩ := nam_e h
    refine pX5_49 hx hb hts hown hK hw e_250 dX5_applyOne_250 (fun H locs hw => ?_)
    refine lv_aload_n hx hb dX5_applyOne_253 rfl (lv_at hl 0 rfl) ?_
    refine lv_aload_n hx hb dX5_applyOne_254 rfl (lv_at hl 0 rfl) ?_
    refine gX5_52 hx hb hts hown hK hw dX5_applyOne_255 ?_
    refine lv_iconst (v := (-1)) hx hb dX5_applyOne_258 (by decide) ?_
    refine lv_icmp_ne (tgt := 267) hx hb dX5_applyOne_259 (by decide) (fun c_259 => ?_) (fun c_259 => ?_)
    · have h := ite_f c_259 h
      refine lv_aload_n hx hb dX5_applyOne_267 rfl (lv_at hl 0 rfl) ?_
      refine gX5_52 hx hb hts hown hK hw dX5_applyOne_268 ?_
      exact hJ_271 ((s5_250.1 0 11)) s5_250 s6_j250 H locs ls h hw (lv_sub hl [] rfl)
    · have h := ite_t c_259 h
      refine lv_iload hx hb dX5_applyOne_262 (lv_at hl 1 rfl) ?_
      refine lv_goto (tgt := 271) hx hb dX5_applyOne_264 (by decide) ?_
      exact hJ_271 v4_j250 s5_250 s6_j250 H locs ls h hw (lv_sub hl [] rfl)
  have hJ_233 : ∀ (v3_j233 : Int32) (v4_j233 : Int32) (s5_j233 : OS) (s6_j233 : OS) (H : Heap) (locs : List Loc) (ls : Array Slot), f5_applyOne_j233 v3_j233 v4_j233 s5_j233 s6_j233 = some r → Wd D (cellsC ad cy s0 s1 s2 s3 s4 s5_j233 s6_j233 s7 s8 s9 s10) (Afr ad 67 s.heap.size) s.heap H locs → lv_has ls 7 [(0, .ref (ad 5)), (3, .int v3_j233), (4, .int v4_j233)] → W p l e (rmL 68) s m ([.ref (ad 5), .int a1, .int a2] : List Value).toArray below meth c H locs 0 0 Q (F0 m 233 ls []) := by
    intro v3_j233 v4_j233 s5_j233 s6_j233 H locs ls h hw hl
    unfold f5_applyOne_j233 at h
    refine lv_aload_n hx hb dX5_applyOne_233 rfl (lv_at hl 0 rfl) ?_
    refine lv_aload_n hx hb dX5_applyOne_234 rfl (lv_at hl 0 rfl) ?_
    refine gX5_49 hx hb hts hown hK hw dX5_applyOne_235 ?_
    refine lv_iconst (v := (-1)) hx hb dX5_applyOne_238 (by decide) ?_
    refine lv_icmp_ne (tgt := 246) hx hb dX5_applyOne_239 (by decide) (fun c_239 => ?_) (fun c_239 => ?_)
    · have h := ite_f c_239 h
      refine lv_aload_n hx hb dX5_applyOne_246 rfl (lv_at hl 0 rfl) ?_
      refine gX5_49 hx hb hts hown hK hw dX5_applyOne_247 ?_
      exact hJ_250 v4_j233 ((s5_j233.1 0 10)) s5_j233 s6_j233 H locs ls h hw (lv_sub hl [0, 2] rfl)
    · have h := ite_t c_239 h
      refine lv_iload_n hx hb dX5_applyOne_242 rfl (lv_at hl 1 rfl) ?_
      refine lv_goto (tgt := 250) hx hb dX5_applyOne_243 (by decide) ?_
      exact hJ_250 v4_j233 v3_j233 s5_j233 s6_j233 H locs ls h hw (lv_sub hl [0, 2] rfl)
  refine lv_aload_n hx hb dX5_applyOne_0 rfl (lv_at hl 0 rfl) ?_
  refine lv_iload_n hx hb dX5_applyOne_1 rfl (lv_at hl 1 rfl) ?_
  obtain ⟨q_2, h_2, h⟩ := bnd_e h
  have pg_2 := preG (av := [.ref (ad 5), .int a1]) hK hw.1 hw.2.1 (NC_keep hN hw.2.2) NC_blind
  refine endI (mc := 0) (ms := 0) (va_runV (As := [.int a1]) (rest := []) ⟨hx, hb, hml, hown, hts⟩ (m5_has l D ad cy H.size s0 s1 s2 s3 s4 s5 s6 s7 s8 s9 s10 a1 q_2 h_2) (wX5_55 0 hts ⟨Nat.le_of_ble_eq_true rfl, Nat.le_of_ble_eq_true rfl⟩) ⟨pg_2.1, va_recv hK hw.1 (ci := 5) (q0 := 5) rfl eC_5, pg_2.2⟩ rfl rfl hl.1 rfl (lv_room (Nat.le_of_ble_eq_true rfl)) dX5_applyOne_2 ⟨Nat.le_refl _, Nat.le_refl _⟩) hw.2.2 (afr_in hw.2.2) (fun H locs hw => ?_)
  refine lv_if_ne (tgt := 9) hx hb dX5_applyOne_5 (by decide) (fun c_5 => ?_) (fun c_5 => ?_)
  · have h := ite_f c_5 h
    refine lv_iconst (v := (-1)) hx hb dX5_applyOne_9 (by decide) ?_
    refine lv_istore_n (lv' := [(3, .int ((-1 : Int32))), (0, .ref (ad 5)), (1, .int a1), (2, .int a2)]) hx hb dX5_applyOne_10 rfl hl (by decide) rfl (fun ls hl => ?_)
    refine lv_iconst (v := (-1)) hx hb dX5_applyOne_11 (by decide) ?_
    refine lv_istore (lv' := [(4, .int ((-1 : Int32))), (3, .int ((-1 : Int32))), (0, .ref (ad 5)), (1, .int a1), (2, .int a2)]) hx hb dX5_applyOne_12 hl (by decide) rfl (fun ls hl => ?_)
    refine lv_aload_n hx hb dX5_applyOne_14 rfl (lv_at hl 2 rfl) ?_
    refine gX5_37 hx hb hts hown hK hw dX5_applyOne_15 ?_
    refine lv_aload_n hx hb dX5_applyOne_18 rfl (lv_at hl 2 rfl) ?_
    refine gX5_13 hx hb hts hown hK hw dX5_applyOne_19 ?_
    refine lv_iload_n hx hb dX5_applyOne_22 rfl (lv_at hl 3 rfl) ?_
    refine lv_sipush (v := 160) hx hb dX5_applyOne_23 (by decide) ?_
    refine lv_imul hx hb dX5_applyOne_26 ?_
    refine lv_aload_n hx hb dX5_applyOne_27 rfl (lv_at hl 2 rfl) ?_
    refine gX5_17 hx hb hts hown hK hw dX5_applyOne_28 ?_
    refine lv_iload_n hx hb dX5_applyOne_31 rfl (lv_at hl 3 rfl) ?_
    obtain ⟨hi_32, h⟩ := chk_e h
    obtain ⟨y_32, e_32, h⟩ := nam_e h
    refine lC46 hx hb hK hw hi_32 e_32 dX5_applyOne_32 ?_
    obtain ⟨q_33, h_33, h⟩ := bnd_e h
    have pg_33 := preG (av := [.ref (ad 6), .ref (ad 45), .int ((a1 * (160 : Int32))), .int y_32]) hK hw.1 hw.2.1 (NC_keep hN hw.2.2) NC_blind
    refine endV (mc := 0) (ms := 0) (va_runV (As := [.ref (ad 45), .int ((a1 * (160 : Int32))), .int y_32]) (rest := []) ⟨hx, hb, hml, hown, hts⟩ (m6_turnTo l D ad cy H.size s0 s1 s2 s3 s4 s5 s6 s7 s8 s9 s10 ((a1 * (160 : Int32))) y_32 q_33 h_33) (wX5_65 0 hts ⟨Nat.le_of_ble_eq_true rfl, Nat.le_of_ble_eq_true rfl⟩) ⟨pg_33.1, va_recv hK hw.1 (ci := 6) (q0 := 6) rfl eC_6, pg_33.2⟩ rfl rfl hl.1 rfl (lv_room (Nat.le_of_ble_eq_true rfl)) dX5_applyOne_33 ⟨Nat.le_refl _, Nat.le_refl _⟩) hw.2.2 (afr_in hw.2.2) (fun H locs hw => ?_)
    refine lv_iconst (v := 0) hx hb dX5_applyOne_36 (by decide) ?_
    refine lv_istore (lv' := [(5, .int ((0 : Int32))), (4, .int ((-1 : Int32))), (3, .int ((-1 : Int32))), (0, .ref (ad 5)), (1, .int a1), (2, .int a2)]) hx hb dX5_applyOne_37 hl (by decide) rfl (fun ls hl => ?_)
    obtain ⟨n_39, hn_39⟩ := loop_e h
    have hL_39 : ∀ (n : Nat) (t_39 : Int32 × Int32 × Int32 × OS × OS) (H : Heap) (locs : List Loc) (ls : Array Slot), loopN (f5_applyOne_l39 a1 a2) n t_39 = some r → Wd D (cellsC ad cy s0 s1 s2 s3 s4 t_39.2.2.2.1 t_39.2.2.2.2 s7 s8 s9 s10) (Afr ad 67 s.heap.size) s.heap H locs → lv_has ls 7 [(3, .int t_39.1), (4, .int t_39.2.1), (5, .int t_39.2.2.1), (1, .int a1), (2, .int a2), (0, .ref (ad 5))] → W p l e (rmL 68) s m ([.ref (ad 5), .int a1, .int a2] : List Value).toArray below meth c H locs 0 0 Q (F0 m 39 ls []) := by
      intro n
      induction n with
      | zero => intro t_39 H locs ls hn; cases hn
      | succ n ih_39 =>
        intro t_39 H locs ls hn hw hl
        obtain ⟨x_39, h, hx_39⟩ := loopN_e hn
        unfold f5_applyOne_l39 at h
        have hJ_227 : ∀ (v3_j227 : Int32) (v4_j227 : Int32) (v5_j227 : Int32) (s5_j227 : OS) (s6_j227 : OS) (H : Heap) (locs : List Loc) (ls : Array Slot), f5_applyOne_j227 a1 a2 v3_j227 v4_j227 v5_j227 s5_j227 s6_j227 = some x_39 → Wd D (cellsC ad cy s0 s1 s2 s3 s4 s5_j227 s6_j227 s7 s8 s9 s10) (Afr ad 67 s.heap.size) s.heap H locs → lv_has ls 7 [(0, .ref (ad 5)), (1, .int a1), (2, .int a2), (3, .int v3_j227), (4, .int v4_j227), (5, .int v5_j227)] → W p l e (rmL 68) s m ([.ref (ad 5), .int a1, .int a2] : List Value).toArray below meth c H locs 0 0 Q (F0 m 227 ls []) := by
          intro v3_j227 v4_j227 v5_j227 s5_j227 s6_j227 H locs ls h hw hl
          unfold f5_applyOne_j227 at h
          obtain ⟨n_227, e_227, h⟩ := nam_e h
          refine lv_iinc (v := n_227) (lv' := [(5, .int n_227), (0, .ref (ad 5)), (1, .int a1), (2, .int a2), (3, .int v3_j227), (4, .int v4_j227)]) hx hb dX5_applyOne_227 hl (k := 5) rfl (by rw [e_227]; rfl) (by decide) rfl (fun ls hl => ?_)
          refine lv_goto (tgt := 39) hx hb dX5_applyOne_230 (by decide) ?_
          exact ih_39 (v3_j227, v4_j227, n_227, s5_j227, s6_j227) H locs ls (nx_l hx_39 h) hw (lv_sub hl [4, 5, 0, 2, 3, 1] rfl)
        have hJ_222 : ∀ (v3_j222 : Int32) (v5_j222 : Int32) (k0_j222 : Int32) (s5_j222 : OS) (s6_j222 : OS) (H : Heap) (locs : List Loc) (ls : Array Slot), f5_applyOne_j222 a1 a2 v3_j222 v5_j222 k0_j222 s5_j222 s6_j222 = some x_39 → Wd D (cellsC ad cy s0 s1 s2 s3 s4 s5_j222 s6_j222 s7 s8 s9 s10) (Afr ad 67 s.heap.size) s.heap H locs → lv_has ls 7 [(0, .ref (ad 5)), (1, .int a1), (2, .int a2), (3, .int v3_j222), (5, .int v5_j222)] → W p l e (rmL 68) s m ([.ref (ad 5), .int a1, .int a2] : List Value).toArray below meth c H locs 0 0 Q (F0 m 222 ls [.int k0_j222]) := by
          intro v3_j222 v5_j222 k0_j222 s5_j222 s6_j222 H locs ls h hw hl
          unfold f5_applyOne_j222 at h
          refine lv_istore (lv' := [(4, .int k0_j222), (0, .ref (ad 5)), (1, .int a1), (2, .int a2), (3, .int v3_j222), (5, .int v5_j222)]) hx hb dX5_applyOne_222 hl (by decide) rfl (fun ls hl => ?_)
          refine lv_goto (tgt := 227) hx hb dX5_applyOne_224 (by decide) ?_
          exact hJ_227 v3_j222 k0_j222 v5_j222 s5_j222 s6_j222 H locs ls h hw (lv_sub hl [1, 2, 3, 4, 0, 5] rfl)
        have hJ_201 : ∀ (v4_j201 : Int32) (v5_j201 : Int32) (k0_j201 : Int32) (s5_j201 : OS) (s6_j201 : OS) (H : Heap) (locs : List Loc) (ls : Array Slot), f5_applyOne_j201 a1 a2 v4_j201 v5_j201 k0_j201 s5_j201 s6_j201 = some x_39 → Wd D (cellsC ad cy s0 s1 s2 s3 s4 s5_j201 s6_j201 s7 s8 s9 s10) (Afr ad 67 s.heap.size) s.heap H locs → lv_has ls 7 [(0, .ref (ad 5)), (1, .int a1), (2, .int a2), (4, .int v4_j201), (5, .int v5_j201)] → W p l e (rmL 68) s m ([.ref (ad 5), .int a1, .int a2] : List Value).toArray below meth c H locs 0 0 Q (F0 m 201 ls [.int k0_j201]) := by
          intro v4_j201 v5_j201 k0_j201 s5_j201 s6_j201 H locs ls h hw hl
          unfold f5_applyOne_j201 at h
          refine lv_istore_n (lv' := [(3, .int k0_j201), (0, .ref (ad 5)), (1, .int a1), (2, .int a2), (4, .int v4_j201), (5, .int v5_j201)]) hx hb dX5_applyOne_201 rfl hl (by decide) rfl (fun ls hl => ?_)
          refine lv_goto (tgt := 227) hx hb dX5_applyOne_202 (by decide) ?_
          exact hJ_227 k0_j201 v4_j201 v5_j201 s5_j201 s6_j201 H locs ls h hw (lv_sub hl [1, 2, 3, 0, 4, 5] rfl)
        have hJ_179 : ∀ (v3_j179 : Int32) (v4_j179 : Int32) (v5_j179 : Int32) (k1_j179 : Int32) (s5_j179 : OS) (s6_j179 : OS) (H : Heap) (locs : List Loc) (ls : Array Slot), f5_applyOne_j179 a1 a2 v3_j179 v4_j179 v5_j179 k1_j179 s5_j179 s6_j179 = some x_39 → Wd D (cellsC ad cy s0 s1 s2 s3 s4 s5_j179 s6_j179 s7 s8 s9 s10) (Afr ad 67 s.heap.size) s.heap H locs → lv_has ls 7 [(0, .ref (ad 5)), (1, .int a1), (2, .int a2), (3, .int v3_j179), (4, .int v4_j179), (5, .int v5_j179)] → W p l e (rmL 68) s m ([.ref (ad 5), .int a1, .int a2] : List Value).toArray below meth c H locs 0 0 Q (F0 m 179 ls [.int k1_j179, .ref (ad 5)]) := by
          intro v3_j179 v4_j179 v5_j179 k1_j179 s5_j179 s6_j179 H locs ls h hw hl
          unfold f5_applyOne_j179 at h
          obtain ⟨hz_179, h⟩ := chk_e h
          obtain ⟨s5_179, e_179, h⟩ := nam_e h
          refine pX5_45 hx hb hts hown hK hw e_179 hz_179 dX5_applyOne_179 (fun H locs hw => ?_)
          refine lv_goto (tgt := 227) hx hb dX5_applyOne_182 (by decide) ?_
          exact hJ_227 v3_j179 v4_j179 v5_j179 s5_179 s6_j179 H locs ls h hw (lv_sub hl [0, 1, 2, 3, 4, 5] rfl)
        have hJ_174 : ∀ (v3_j174 : Int32) (v4_j174 : Int32) (v5_j174 : Int32) (s5_j174 : OS) (s6_j174 : OS) (H : Heap) (locs : List Loc) (ls : Array Slot), f5_applyOne_j174 a1 a2 v3_j174 v4_j174 v5_j174 s5_j174 s6_j174 = some x_39 → Wd D (cellsC ad cy s0 s1 s2 s3 s4 s5_j174 s6_j174 s7 s8 s9 s10) (Afr ad 67 s.heap.size) s.heap H locs → lv_has ls 7 [(0, .ref (ad 5)), (1, .int a1), (2, .int a2), (3, .int v3_j174), (4, .int v4_j174), (5, .int v5_j174)] → W p l e (rmL 68) s m ([.ref (ad 5), .int a1, .int a2] : List Value).toArray below meth c H locs 0 0 Q (F0 m 174 ls [.ref (ad 5)]) := by
          intro v3_j174 v4_j174 v5_j174 s5_j174 s6_j174 H locs ls h hw hl
          unfold f5_applyOne_j174 at h
          refine lv_iconst (v := 1) hx hb dX5_applyOne_174 (by decide) ?_
          refine lv_goto (tgt := 179) hx hb dX5_applyOne_175 (by decide) ?_
          exact hJ_179 v3_j174 v4_j174 v5_j174 ((1 : Int32)) s5_j174 s6_j174 H locs ls h hw (lv_sub hl [0, 1, 2, 3, 4, 5] rfl)
        refine lv_iload hx hb dX5_applyOne_39 (lv_at hl 2 rfl) ?_
        refine lv_aload_n hx hb dX5_applyOne_41 rfl (lv_at hl 5 rfl) ?_
        refine gX5_27 hx hb hts hown hK hw dX5_applyOne_42 ?_
        refine lv_iload_n hx hb dX5_applyOne_45 rfl (lv_at hl 3 rfl) ?_
        obtain ⟨hi_46, h⟩ := chk_e h
        obtain ⟨y_46, e_46, h⟩ := nam_e h
        refine lC49 hx hb hK hw hi_46 e_46 dX5_applyOne_46 ?_
        refine lv_icmp_ge (tgt := 233) hx hb dX5_applyOne_47 (by decide) (fun c_47 => ?_) (fun c_47 => ?_)
        · have h := ite_t c_47 h
          have h := nx_m hx_39 h
          exact hJ_233 t_39.1 t_39.2.1 t_39.2.2.2.1 t_39.2.2.2.2 H locs ls h hw (lv_sub hl [5, 0, 1] rfl)
        · have h := ite_f c_47 h
          refine lv_iload hx hb dX5_applyOne_50 (lv_at hl 2 rfl) ?_
          refine lv_bipush (v := 12) hx hb dX5_applyOne_52 (by decide) ?_
          refine lv_icmp_ge (tgt := 233) hx hb dX5_applyOne_54 (by decide) (fun c_54 => ?_) (fun c_54 => ?_)
          · have h := ite_t c_54 h
            have h := nx_m hx_39 h
            exact hJ_233 t_39.1 t_39.2.1 t_39.2.2.2.1 t_39.2.2.2.2 H locs ls h hw (lv_sub hl [5, 0, 1] rfl)
          · have h := ite_f c_54 h
            refine lv_aload_n hx hb dX5_applyOne_57 rfl (lv_at hl 5 rfl) ?_
            refine gX5_33 hx hb hts hown hK hw dX5_applyOne_58 ?_
            refine lv_iload_n hx hb dX5_applyOne_61 rfl (lv_at hl 3 rfl) ?_
            obtain ⟨hi_62, h⟩ := chk_e h
            obtain ⟨y_62, e_62, h⟩ := nam_e h
            refine lC51 hx hb hK hw hi_62 e_62 dX5_applyOne_62 ?_
            refine lv_iload hx hb dX5_applyOne_63 (lv_at hl 2 rfl) ?_
            refine lv_ishr hx hb dX5_applyOne_65 ?_
            refine lv_iconst (v := 1) hx hb dX5_applyOne_66 (by decide) ?_
            refine lv_iand hx hb dX5_applyOne_67 ?_
            refine lv_if_eq (tgt := 74) hx hb dX5_applyOne_68 (by decide) (fun c_68 => ?_) (fun c_68 => ?_)
            · have h := ite_t c_68 h
              refine lv_aload_n hx hb dX5_applyOne_74 rfl (lv_at hl 5 rfl) ?_
              refine gX5_37 hx hb hts hown hK hw dX5_applyOne_75 ?_
              refine lv_aload_n hx hb dX5_applyOne_78 rfl (lv_at hl 5 rfl) ?_
              refine gX5_30 hx hb hts hown hK hw dX5_applyOne_79 ?_
              refine lv_iload_n hx hb dX5_applyOne_82 rfl (lv_at hl 3 rfl) ?_
              refine lv_bipush (v := 12) hx hb dX5_applyOne_83 (by decide) ?_
              refine lv_imul hx hb dX5_applyOne_85 ?_
              refine lv_iload hx hb dX5_applyOne_86 (lv_at hl 2 rfl) ?_
              refine lv_iadd hx hb dX5_applyOne_88 ?_
              obtain ⟨hi_89, h⟩ := chk_e h
              obtain ⟨y_89, e_89, h⟩ := nam_e h
              refine lC50 hx hb hK hw hi_89 e_89 dX5_applyOne_89 ?_
              obtain ⟨q_90, h_90, h⟩ := bnd_e h
              have pg_90 := preG (av := [.ref (ad 6), .int y_89]) hK hw.1 hw.2.1 (NC_keep hN hw.2.2) NC_blind
              refine endV (mc := 0) (ms := 0) (va_runV (As := [.int y_89]) (rest := []) ⟨hx, hb, hml, hown, hts⟩ (m6_goTo l D ad cy H.size s0 s1 s2 s3 s4 t_39.2.2.2.1 t_39.2.2.2.2 s7 s8 s9 s10 y_89 q_90 h_90) (wX5_103 0 hts ⟨Nat.le_of_ble_eq_true rfl, Nat.le_of_ble_eq_true rfl⟩) ⟨pg_90.1, va_recv hK hw.1 (ci := 6) (q0 := 6) rfl eC_6, pg_90.2⟩ rfl rfl hl.1 rfl (lv_room (Nat.le_of_ble_eq_true rfl)) dX5_applyOne_90 ⟨Nat.le_refl _, Nat.le_refl _⟩) hw.2.2 (afr_in hw.2.2) (fun H locs hw => ?_)
              refine lv_aload_n hx hb dX5_applyOne_93 rfl (lv_at hl 5 rfl) ?_
              refine gX5_37 hx hb hts hown hK hw dX5_applyOne_94 ?_
              refine lv_iconst (v := 1) hx hb dX5_applyOne_97 (by decide) ?_
              obtain ⟨q_98, h_98, h⟩ := bnd_e h
              have pg_98 := preG (av := [.ref (ad 6), .int ((1 : Int32))]) hK hw.1 hw.2.1 (NC_keep hN hw.2.2) NC_blind
              refine endI (mc := 0) (ms := 0) (va_runV (As := [.int ((1 : Int32))]) (rest := []) ⟨hx, hb, hml, hown, hts⟩ (m6_readClause l D ad cy H.size s0 s1 s2 s3 s4 t_39.2.2.2.1 q_90 s7 s8 s9 s10 ((1 : Int32)) q_98 h_98) (wX5_107 67 hts ⟨Nat.le_of_ble_eq_true rfl, Nat.le_of_ble_eq_true rfl⟩) ⟨pg_98.1, va_recv hK hw.1 (ci := 6) (q0 := 6) rfl eC_6, pg_98.2⟩ rfl rfl hl.1 rfl (lv_room (Nat.le_of_ble_eq_true rfl)) dX5_applyOne_98 ⟨Nat.le_refl _, Nat.le_refl _⟩) hw.2.2 (afr_in hw.2.2) (fun H locs hw => ?_)
              refine lv_istore (lv' := [(6, .int q_98.1), (3, .int t_39.1), (4, .int t_39.2.1), (5, .int t_39.2.2.1), (1, .int a1), (2, .int a2), (0, .ref (ad 5))]) hx hb dX5_applyOne_101 hl (by decide) rfl (fun ls hl => ?_)
              refine lv_aload_n hx hb dX5_applyOne_103 rfl (lv_at hl 6 rfl) ?_
              refine gX5_37 hx hb hts hown hK hw dX5_applyOne_104 ?_
              obtain ⟨q_107, h_107, h⟩ := bnd_e h
              have pg_107 := preG (av := [.ref (ad 6)]) hK hw.1 hw.2.1 (NC_keep hN hw.2.2) NC_blind
              refine endI (mc := 0) (ms := 0) (va_runV (As := []) (rest := []) ⟨hx, hb, hml, hown, hts⟩ (m6_letter l D ad cy H.size s0 s1 s2 s3 s4 t_39.2.2.2.1 q_98.2 s7 s8 s9 s10 q_107 h_107) (wX5_111 0 hts ⟨Nat.le_of_ble_eq_true rfl, Nat.le_of_ble_eq_true rfl⟩) ⟨pg_107.1, va_recv hK hw.1 (ci := 6) (q0 := 6) rfl eC_6, pg_107.2⟩ rfl rfl hl.1 rfl (lv_room (Nat.le_of_ble_eq_true rfl)) dX5_applyOne_107 ⟨Nat.le_refl _, Nat.le_refl _⟩) hw.2.2 (afr_in hw.2.2) (fun H locs hw => ?_)
              have q_110 : ∀ tgt : Nat, W p l e (rmL 68) s m ([.ref (ad 5), .int a1, .int a2] : List Value).toArray below meth c H locs 0 0 Q (F0 m tgt ls []) → W p l e (rmL 68) s m ([.ref (ad 5), .int a1, .int a2] : List Value).toArray below meth c H locs 0 0 Q (F0 m tgt ls []) := fun _ z => z
              by_cases c_110_98 : q_107 = 98
              · have h := ite_t c_110_98 h
                refine lv_lookup (off := 51) (tgt := 161) hx hb dX5_applyOne_110 (by decide) (by rw [c_110_98]; rfl) (by decide) ?_
                refine lv_aload_n hx hb dX5_applyOne_161 rfl (lv_at hl 6 rfl) ?_
                refine lv_aload_n hx hb dX5_applyOne_162 rfl (lv_at hl 6 rfl) ?_
                refine gX5_45 hx hb hts hown hK hw dX5_applyOne_163 ?_
                refine lv_if_ne (tgt := 174) hx hb dX5_applyOne_166 (by decide) (fun c_166 => ?_) (fun c_166 => ?_)
                · have h := ite_f c_166 h
                  exact hJ_174 t_39.1 t_39.2.1 t_39.2.2.1 t_39.2.2.2.1 q_98.2 H locs ls h hw (lv_sub hl [6, 4, 5, 1, 2, 3] rfl)
                · have h := ite_t c_166 h
                  refine lv_iload hx hb dX5_applyOne_169 (lv_at hl 0 rfl) ?_
                  refine lv_if_eq (tgt := 178) hx hb dX5_applyOne_171 (by decide) (fun c_171 => ?_) (fun c_171 => ?_)
                  · have h := ite_t c_171 h
                    refine lv_iconst (v := 0) hx hb dX5_applyOne_178 (by decide) ?_
                    exact hJ_179 t_39.1 t_39.2.1 t_39.2.2.1 ((0 : Int32)) t_39.2.2.2.1 q_98.2 H locs ls h hw (lv_sub hl [6, 4, 5, 1, 2, 3] rfl)
                  · have h := ite_f c_171 h
                    exact hJ_174 t_39.1 t_39.2.1 t_39.2.2.1 t_39.2.2.2.1 q_98.2 H locs ls h hw (lv_sub hl [6, 4, 5, 1, 2, 3] rfl)
              have h := ite_f c_110_98 h
              by_cases c_110_100 : q_107 = 100
              · have h := ite_t c_110_100 h
                refine lv_lookup (off := 75) (tgt := 185) hx hb dX5_applyOne_110 (by decide) (by rw [c_110_100]; rfl) (by decide) ?_
                refine lv_iload hx hb dX5_applyOne_185 (lv_at hl 0 rfl) ?_
                refine lv_if_eq (tgt := 200) hx hb dX5_applyOne_187 (by decide) (fun c_187 => ?_) (fun c_187 => ?_)
                · have h := ite_t c_187 h
                  refine lv_iload_n hx hb dX5_applyOne_200 rfl (lv_at hl 1 rfl) ?_
                  exact hJ_201 t_39.2.1 t_39.2.2.1 t_39.1 t_39.2.2.2.1 q_98.2 H locs ls h hw (lv_sub hl [6, 4, 5, 2, 3] rfl)
                · have h := ite_f c_187 h
                  refine lv_aload_n hx hb dX5_applyOne_190 rfl (lv_at hl 6 rfl) ?_
                  refine gX5_37 hx hb hts hown hK hw dX5_applyOne_191 ?_
                  obtain ⟨q_194, h_194, h⟩ := bnd_e h
                  have pg_194 := preG (av := [.ref (ad 6)]) hK hw.1 hw.2.1 (NC_keep hN hw.2.2) NC_blind
                  refine endI (mc := 0) (ms := 0) (va_runV (As := []) (rest := []) ⟨hx, hb, hml, hown, hts⟩ (m6_first l D ad cy H.size s0 s1 s2 s3 s4 t_39.2.2.2.1 q_98.2 s7 s8 s9 s10 q_194 h_194) (wX5_117 0 hts ⟨Nat.le_of_ble_eq_true rfl, Nat.le_of_ble_eq_true rfl⟩) ⟨pg_194.1, va_recv hK hw.1 (ci := 6) (q0 := 6) rfl eC_6, pg_194.2⟩ rfl rfl hl.1 rfl (lv_room (Nat.le_of_ble_eq_true rfl)) dX5_applyOne_194 ⟨Nat.le_refl _, Nat.le_refl _⟩) hw.2.2 (afr_in hw.2.2) (fun H locs hw => ?_)
                  refine lv_goto (tgt := 201) hx hb dX5_applyOne_197 (by decide) ?_
                  exact hJ_201 t_39.2.1 t_39.2.2.1 q_194 t_39.2.2.2.1 q_98.2 H locs ls h hw (lv_sub hl [6, 4, 5, 2, 3] rfl)
              have h := ite_f c_110_100 h
              by_cases c_110_116 : q_107 = 116
              · have h := ite_t c_110_116 h
                refine lv_lookup (off := 95) (tgt := 205) hx hb dX5_applyOne_110 (by decide) (by rw [c_110_116]; rfl) (by decide) ?_
                refine lv_iload hx hb dX5_applyOne_205 (lv_at hl 0 rfl) ?_
                refine lv_if_eq (tgt := 220) hx hb dX5_applyOne_207 (by decide) (fun c_207 => ?_) (fun c_207 => ?_)
                · have h := ite_t c_207 h
                  refine lv_iload hx hb dX5_applyOne_220 (lv_at hl 2 rfl) ?_
                  exact hJ_222 t_39.1 t_39.2.2.1 t_39.2.1 t_39.2.2.2.1 q_98.2 H locs ls h hw (lv_sub hl [6, 4, 5, 1, 3] rfl)
                · have h := ite_f c_207 h
                  refine lv_aload_n hx hb dX5_applyOne_210 rfl (lv_at hl 6 rfl) ?_
                  refine gX5_37 hx hb hts hown hK hw dX5_applyOne_211 ?_
                  obtain ⟨q_214, h_214, h⟩ := bnd_e h
                  have pg_214 := preG (av := [.ref (ad 6)]) hK hw.1 hw.2.1 (NC_keep hN hw.2.2) NC_blind
                  refine endI (mc := 0) (ms := 0) (va_runV (As := []) (rest := []) ⟨hx, hb, hml, hown, hts⟩ (m6_first l D ad cy H.size s0 s1 s2 s3 s4 t_39.2.2.2.1 q_98.2 s7 s8 s9 s10 q_214 h_214) (wX5_117 0 hts ⟨Nat.le_of_ble_eq_true rfl, Nat.le_of_ble_eq_true rfl⟩) ⟨pg_214.1, va_recv hK hw.1 (ci := 6) (q0 := 6) rfl eC_6, pg_214.2⟩ rfl rfl hl.1 rfl (lv_room (Nat.le_of_ble_eq_true rfl)) dX5_applyOne_214 ⟨Nat.le_refl _, Nat.le_refl _⟩) hw.2.2 (afr_in hw.2.2) (fun H locs hw => ?_)
                  refine lv_goto (tgt := 222) hx hb dX5_applyOne_217 (by decide) ?_
                  exact hJ_222 t_39.1 t_39.2.2.1 q_214 t_39.2.2.2.1 q_98.2 H locs ls h hw (lv_sub hl [6, 4, 5, 1, 3] rfl)
              have h := ite_f c_110_116 h
              by_cases c_110_120 : q_107 = 120
              · have h := ite_t c_110_120 h
                refine lv_lookup (off := 42) (tgt := 152) hx hb dX5_applyOne_110 (by decide) (by rw [c_110_120]; rfl) (by decide) ?_
                refine lv_aload_n hx hb dX5_applyOne_152 rfl (lv_at hl 6 rfl) ?_
                refine lv_iload_n hx hb dX5_applyOne_153 rfl (lv_at hl 4 rfl) ?_
                refine lv_iload_n hx hb dX5_applyOne_154 rfl (lv_at hl 5 rfl) ?_
                obtain ⟨q_155, h_155, h⟩ := bnd_e h
                have pg_155 := preG (av := [.ref (ad 5), .int a1, .int a2]) hK hw.1 hw.2.1 (NC_keep hN hw.2.2) NC_blind
                refine endV (mc := 0) (ms := 0) (va_runV (As := [.int a1, .int a2]) (rest := []) ⟨hx, hb, hml, hown, hts⟩ (m5_strike l D ad cy H.size s0 s1 s2 s3 s4 t_39.2.2.2.1 q_98.2 s7 s8 s9 s10 a1 a2 q_155 h_155) (wX5_114 2 hts ⟨Nat.le_of_ble_eq_true rfl, Nat.le_of_ble_eq_true rfl⟩) ⟨pg_155.1, va_recv hK hw.1 (ci := 5) (q0 := 5) rfl eC_5, pg_155.2⟩ rfl rfl hl.1 rfl (lv_room (Nat.le_of_ble_eq_true rfl)) dX5_applyOne_155 ⟨Nat.le_refl _, Nat.le_refl _⟩) hw.2.2 (afr_in hw.2.2) (fun H locs hw => ?_)
                refine lv_goto (tgt := 227) hx hb dX5_applyOne_158 (by decide) ?_
                exact hJ_227 t_39.1 t_39.2.1 t_39.2.2.1 q_155 q_98.2 H locs ls h hw (lv_sub hl [6, 4, 5, 1, 2, 3] rfl)
              have h := ite_f c_110_120 h
              refine lv_lookup (off := 117) (tgt := 227) hx hb dX5_applyOne_110 (by decide) (by show Op.lookupswitch.offset [(98, 51), (100, 75), (116, 95), (120, 42)] 117 _ = _; rw [lv_osw (a := 98) c_110_98 rfl, lv_osw (a := 100) c_110_100 rfl, lv_osw (a := 116) c_110_116 rfl, lv_osw (a := 120) c_110_120 rfl]; rfl) (by decide) ?_
              exact hJ_227 t_39.1 t_39.2.1 t_39.2.2.1 t_39.2.2.2.1 q_98.2 H locs ls h hw (lv_sub hl [6, 4, 5, 1, 2, 3] rfl)
            · have h := ite_f c_68 h
              refine lv_goto (tgt := 227) hx hb dX5_applyOne_71 (by decide) ?_
              exact hJ_227 t_39.1 t_39.2.1 t_39.2.2.1 t_39.2.2.2.1 t_39.2.2.2.2 H locs ls h hw (lv_sub hl [5, 3, 4, 0, 1, 2] rfl)
    exact hL_39 n_39 ((-1 : Int32), (-1 : Int32), (0 : Int32), s5, q_33) H locs ls hn_39 hw (lv_sub hl [2, 1, 0, 4, 5, 3] rfl)
  · have h := ite_t c_5 h
    have h := Option.some.inj h
    subst h
    rw [← hQ]
    exact retV hx hb hr hlk hw dX5_applyOne_8
theorem dX5_apply_0 : decode cX5_apply 0 = .ok (.aload_n 0, 1) := by decide +kernel
theorem dX5_apply_1 : decode cX5_apply 1 = .ok (.iconst 0, 1) := by decide +kernel
theorem dX5_apply_2 : decode cX5_apply 2 = .ok (.putfield 45, 3) := by decide +kernel
theorem dX5_apply_5 : decode cX5_apply 5 = .ok (.aload_n 0, 1) := by decide +kernel
theorem dX5_apply_6 : decode cX5_apply 6 = .ok (.iconst (-1), 1) := by decide +kernel
theorem dX5_apply_7 : decode cX5_apply 7 = .ok (.putfield 49, 3) := by decide +kernel
theorem dX5_apply_10 : decode cX5_apply 10 = .ok (.aload_n 0, 1) := by decide +kernel
theorem dX5_apply_11 : decode cX5_apply 11 = .ok (.iconst (-1), 1) := by decide +kernel
theorem dX5_apply_12 : decode cX5_apply 12 = .ok (.putfield 52, 3) := by decide +kernel
theorem dX5_apply_15 : decode cX5_apply 15 = .ok (.iconst 0, 1) := by decide +kernel
theorem dX5_apply_16 : decode cX5_apply 16 = .ok (.istore_n 2, 1) := by decide +kernel
theorem dX5_apply_17 : decode cX5_apply 17 = .ok (.iload_n 2, 1) := by decide +kernel
theorem dX5_apply_18 : decode cX5_apply 18 = .ok (.bipush 20, 2) := by decide +kernel
theorem dX5_apply_20 : decode cX5_apply 20 = .ok (.if_icmp .ge 16, 3) := by decide +kernel
theorem dX5_apply_23 : decode cX5_apply 23 = .ok (.aload_n 0, 1) := by decide +kernel
theorem dX5_apply_24 : decode cX5_apply 24 = .ok (.getfield 33, 3) := by decide +kernel
theorem dX5_apply_27 : decode cX5_apply 27 = .ok (.iload_n 2, 1) := by decide +kernel
theorem dX5_apply_28 : decode cX5_apply 28 = .ok (.iconst 0, 1) := by decide +kernel
theorem dX5_apply_29 : decode cX5_apply 29 = .ok (.iastore, 1) := by decide +kernel
theorem dX5_apply_30 : decode cX5_apply 30 = .ok (.iinc 2 1, 3) := by decide +kernel
theorem dX5_apply_33 : decode cX5_apply 33 = .ok (.goto (-16), 3) := by decide +kernel
theorem dX5_apply_36 : decode cX5_apply 36 = .ok (.aload_n 0, 1) := by decide +kernel
theorem dX5_apply_37 : decode cX5_apply 37 = .ok (.getfield 41, 3) := by decide +kernel
theorem dX5_apply_40 : decode cX5_apply 40 = .ok (.iconst 1, 1) := by decide +kernel
theorem dX5_apply_41 : decode cX5_apply 41 = .ok (.isub, 1) := by decide +kernel
theorem dX5_apply_42 : decode cX5_apply 42 = .ok (.istore_n 2, 1) := by decide +kernel
theorem dX5_apply_43 : decode cX5_apply 43 = .ok (.iload_n 2, 1) := by decide +kernel
theorem dX5_apply_44 : decode cX5_apply 44 = .ok (.ifCond .lt 24, 3) := by decide +kernel
theorem dX5_apply_47 : decode cX5_apply 47 = .ok (.aload_n 0, 1) := by decide +kernel
theorem dX5_apply_48 : decode cX5_apply 48 = .ok (.iload_n 2, 1) := by decide +kernel
theorem dX5_apply_49 : decode cX5_apply 49 = .ok (.iload_n 1, 1) := by decide +kernel
theorem dX5_apply_50 : decode cX5_apply 50 = .ok (.invokevirtual 91, 3) := by decide +kernel
theorem dX5_apply_53 : decode cX5_apply 53 = .ok (.ifCond .eq 9, 3) := by decide +kernel
theorem dX5_apply_56 : decode cX5_apply 56 = .ok (.aload_n 0, 1) := by decide +kernel
theorem dX5_apply_57 : decode cX5_apply 57 = .ok (.iload_n 2, 1) := by decide +kernel
theorem dX5_apply_58 : decode cX5_apply 58 = .ok (.iload_n 1, 1) := by decide +kernel
theorem dX5_apply_59 : decode cX5_apply 59 = .ok (.invokevirtual 95, 3) := by decide +kernel
theorem dX5_apply_62 : decode cX5_apply 62 = .ok (.iinc 2 (-1), 3) := by decide +kernel
theorem dX5_apply_65 : decode cX5_apply 65 = .ok (.goto (-22), 3) := by decide +kernel
theorem dX5_apply_68 : decode cX5_apply 68 = .ok (.return_, 1) := by decide +kernel
noncomputable def f5_apply_j62 (v1_j62 : Int32) (v2_j62 : Int32) (s5_j62 : OS) (s6_j62 : OS) : Option ((Int32 × OS × OS) ⊕ (OS × OS)) := nm (v2_j62 + (-1 : Int32)) fun n_62 => some (Sum.inl (n_62, s5_j62, s6_j62))
noncomputable def f5_apply_l43 (v1_i43 : Int32) : Int32 × OS × OS → Option ((Int32 × OS × OS) ⊕ (OS × OS)) := fun t_43 => if t_43.1 < 0 then (Option.map Sum.inr (some (t_43.2.1, t_43.2.2))) else (Option.bind (f5_isInForce t_43.1 v1_i43 t_43.2.1) fun q_50 => if q_50 = 0 then (f5_apply_j62 v1_i43 t_43.1 t_43.2.1 t_43.2.2) else (Option.bind (f5_applyOne t_43.1 v1_i43 t_43.2.1 t_43.2.2) fun q_59 => f5_apply_j62 v1_i43 t_43.1 q_59.1 q_59.2))
noncomputable def f5_apply_l17 (v1_i17 : Int32) (s6_i17 : OS) : Int32 × OS → Option ((Int32 × OS) ⊕ (OS × OS)) := fun t_17 => if (20 : Int32) ≤ t_17.1 then (Option.map Sum.inr (nm (((t_17.2.1 0 8) - (1 : Int32))) fun n_42 => loop (f5_apply_l43 v1_i17) (n_42, t_17.2, s6_i17))) else (chk (inb t_17.1 20) (nm (wI t_17.2 7 t_17.1.toNatClampNeg ((0 : Int32))) fun s5_29 => nm (t_17.1 + (1 : Int32)) fun n_30 => some (Sum.inl (n_30, s5_29))))
noncomputable def f5_apply (a1 : Int32) (s5 : OS) (s6 : OS) : Option (OS × OS) := nm (wI s5 0 9 ((0 : Int32))) fun s5_2 => nm (wI s5_2 0 10 ((-1 : Int32))) fun s5_7 => nm (wI s5_7 0 11 ((-1 : Int32))) fun s5_12 => loop (f5_apply_l17 a1 s6) ((0 : Int32), s5_12)
set_option maxHeartbeats 4000000 in
set_option maxRecDepth 100000 in
theorem m5_apply (l : Launch) (D : va_G) (ad : Nat → Nat) (cy : Nat → ClassId) (sz : Nat) (s0 s1 s2 s3 s4 s5 s6 s7 s8 s9 s10 : OS) (a1 : Int32) (r : OS × OS) (h : f5_apply a1 s5 s6 = some r) : Met l yX5_apply (wsOf yX5_apply cX5_apply 3 none) (rmL 69) (va_Pc ([.ref (ad 5), .int a1] : List Value) (PreG D cy (cellsC ad cy s0 s1 s2 s3 s4 s5 s6 s7 s8 s9 s10) sz (NC ad))) (QcV D ad 67 (cellsC ad cy s0 s1 s2 s3 s4 r.1 r.2 s7 s8 s9 s10) sz) 0 0 (Afr ad 67 sz) := by
  refine metG (own := RX5) (by decide) rfl (Nat.le_of_ble_eq_true rfl) fstC ?_ sz
  intro p e s m below meth c ls C0 hw hl
  obtain ⟨hx, hb, hml, hown, hts, hr, hlk, hK, hN⟩ := C0
  have hl : lv_has ls 3 [(0, .ref (ad 5)), (1, .int a1)] := hl
  generalize hQ : MQ below (QcV D ad 67 (cellsC ad cy s0 s1 s2 s3 s4 r.1 r.2 s7 s8 s9 s10) s.heap.size) ([.ref (ad 5), .int a1] : List Value).toArray s 0 0 (Afr ad 67 s.heap.size) = Q
  obtain ⟨H, hH⟩ : ∃ H : Heap, H = s.heap := ⟨_, rfl⟩
  obtain ⟨locs, hlc⟩ : ∃ L : List Loc, L = [] := ⟨_, rfl⟩
  have hw : Wd D (cellsC ad cy s0 s1 s2 s3 s4 s5 s6 s7 s8 s9 s10) (Afr ad 67 s.heap.size) s.heap H locs := by rw [hH, hlc]; exact hw
  suffices h0 : W p l e (rmL 69) s m ([.ref (ad 5), .int a1] : List Value).toArray below meth c H locs 0 0 Q (F0 m 0 ls []) by rw [hH, hlc] at h0; exact h0
  clear hH hlc
  unfold f5_apply at h
  refine lv_aload_n hx hb dX5_apply_0 rfl (lv_at hl 0 rfl) ?_
  refine lv_iconst (v := 0) hx hb dX5_apply_1 (by decide) ?_
  obtain ⟨s5_2, e_2, h⟩ := nam_e h
  refine pX5_45 hx hb hts hown hK hw e_2 rfl dX5_apply_2 (fun H locs hw => ?_)
  refine lv_aload_n hx hb dX5_apply_5 rfl (lv_at hl 0 rfl) ?_
  refine lv_iconst (v := (-1)) hx hb dX5_apply_6 (by decide) ?_
  obtain ⟨s5_7, e_7, h⟩ := nam_e h
  refine pX5_49 hx hb hts hown hK hw e_7 dX5_apply_7 (fun H locs hw => ?_)
  refine lv_aload_n hx hb dX5_apply_10 rfl (lv_at hl 0 rfl) ?_
  refine lv_iconst (v := (-1)) hx hb dX5_apply_11 (by decide) ?_
  obtain ⟨s5_12, e_12, h⟩ := nam_e h
  refine pX5_52 hx hb hts hown hK hw e_12 dX5_apply_12 (fun H locs hw => ?_)
  refine lv_iconst (v := 0) hx hb dX5_apply_15 (by decide) ?_
  refine lv_istore_n (lv' := [(2, .int ((0 : Int32))), (0, .ref (ad 5)), (1, .int a1)]) hx hb dX5_apply_16 rfl hl (by decide) rfl (fun ls hl => ?_)
  obtain ⟨n_17, hn_17⟩ := loop_e h
  have hL_17 : ∀ (n : Nat) (t_17 : Int32 × OS) (H : Heap) (locs : List Loc) (ls : Array Slot), loopN (f5_apply_l17 a1 s6) n t_17 = some r → Wd D (cellsC ad cy s0 s1 s2 s3 s4 t_17.2 s6 s7 s8 s9 s10) (Afr ad 67 s.heap.size) s.heap H locs → lv_has ls 3 [(2, .int t_17.1), (1, .int a1), (0, .ref (ad 5))] → W p l e (rmL 69) s m ([.ref (ad 5), .int a1] : List Value).toArray below meth c H locs 0 0 Q (F0 m 17 ls []) := by
    intro n
    induction n with
    | zero => intro t_17 H locs ls hn; cases hn
    | succ n ih_17 =>
      intro t_17 H locs ls hn hw hl
      obtain ⟨x_17, h, hx_17⟩ := loopN_e hn
      unfold f5_apply_l17 at h
      refine lv_iload_n hx hb dX5_apply_17 rfl (lv_at hl 0 rfl) ?_
      refine lv_bipush (v := 20) hx hb dX5_apply_18 (by decide) ?_
      refine lv_icmp_ge (tgt := 36) hx hb dX5_apply_20 (by decide) (fun c_20 => ?_) (fun c_20 => ?_)
      · have h := ite_t c_20 h
        have h := nx_m hx_17 h
        refine lv_aload_n hx hb dX5_apply_36 rfl (lv_at hl 2 rfl) ?_
        refine gX5_41 hx hb hts hown hK hw dX5_apply_37 ?_
        refine lv_iconst (v := 1) hx hb dX5_apply_40 (by decide) ?_
        refine lv_isub hx hb dX5_apply_41 ?_
        obtain ⟨n_42, e_42, h⟩ := nam_e h
        refine topI e_42 ?_
        refine lv_istore_n (lv' := [(2, .int n_42), (1, .int a1), (0, .ref (ad 5))]) hx hb dX5_apply_42 rfl hl (by decide) rfl (fun ls hl => ?_)
        obtain ⟨n_43, hn_43⟩ := loop_e h
        have hL_43 : ∀ (n : Nat) (t_43 : Int32 × OS × OS) (H : Heap) (locs : List Loc) (ls : Array Slot), loopN (f5_apply_l43 a1) n t_43 = some r → Wd D (cellsC ad cy s0 s1 s2 s3 s4 t_43.2.1 t_43.2.2 s7 s8 s9 s10) (Afr ad 67 s.heap.size) s.heap H locs → lv_has ls 3 [(2, .int t_43.1), (1, .int a1), (0, .ref (ad 5))] → W p l e (rmL 69) s m ([.ref (ad 5), .int a1] : List Value).toArray below meth c H locs 0 0 Q (F0 m 43 ls []) := by
          intro n
          induction n with
          | zero => intro t_43 H locs ls hn; cases hn
          | succ n ih_43 =>
            intro t_43 H locs ls hn hw hl
            obtain ⟨x_43, h, hx_43⟩ := loopN_e hn
            unfold f5_apply_l43 at h
            have hJ_62 : ∀ (v2_j62 : Int32) (s5_j62 : OS) (s6_j62 : OS) (H : Heap) (locs : List Loc) (ls : Array Slot), f5_apply_j62 a1 v2_j62 s5_j62 s6_j62 = some x_43 → Wd D (cellsC ad cy s0 s1 s2 s3 s4 s5_j62 s6_j62 s7 s8 s9 s10) (Afr ad 67 s.heap.size) s.heap H locs → lv_has ls 3 [(0, .ref (ad 5)), (1, .int a1), (2, .int v2_j62)] → W p l e (rmL 69) s m ([.ref (ad 5), .int a1] : List Value).toArray below meth c H locs 0 0 Q (F0 m 62 ls []) := by
              intro v2_j62 s5_j62 s6_j62 H locs ls h hw hl
              unfold f5_apply_j62 at h
              obtain ⟨n_62, e_62, h⟩ := nam_e h
              refine lv_iinc (v := n_62) (lv' := [(2, .int n_62), (0, .ref (ad 5)), (1, .int a1)]) hx hb dX5_apply_62 hl (k := 2) rfl (by rw [e_62]; rfl) (by decide) rfl (fun ls hl => ?_)
              refine lv_goto (tgt := 43) hx hb dX5_apply_65 (by decide) ?_
              exact ih_43 (n_62, s5_j62, s6_j62) H locs ls (nx_l hx_43 h) hw (lv_sub hl [0, 2, 1] rfl)
            refine lv_iload_n hx hb dX5_apply_43 rfl (lv_at hl 0 rfl) ?_
            refine lv_if_lt (tgt := 68) hx hb dX5_apply_44 (by decide) (fun c_44 => ?_) (fun c_44 => ?_)
            · have h := ite_t c_44 h
              have h := nx_m hx_43 h
              have h := Option.some.inj h
              subst h
              rw [← hQ]
              exact retV hx hb hr hlk hw dX5_apply_68
            · have h := ite_f c_44 h
              refine lv_aload_n hx hb dX5_apply_47 rfl (lv_at hl 2 rfl) ?_
              refine lv_iload_n hx hb dX5_apply_48 rfl (lv_at hl 0 rfl) ?_
              refine lv_iload_n hx hb dX5_apply_49 rfl (lv_at hl 1 rfl) ?_
              obtain ⟨q_50, h_50, h⟩ := bnd_e h
              have pg_50 := preG (av := [.ref (ad 5), .int t_43.1, .int a1]) hK hw.1 hw.2.1 (NC_keep hN hw.2.2) NC_blind
              refine endI (mc := 0) (ms := 0) (va_runV (As := [.int t_43.1, .int a1]) (rest := []) ⟨hx, hb, hml, hown, hts⟩ (m5_isInForce l D ad cy H.size s0 s1 s2 s3 s4 t_43.2.1 t_43.2.2 s7 s8 s9 s10 t_43.1 a1 q_50 h_50) (wX5_91 1 hts ⟨Nat.le_of_ble_eq_true rfl, Nat.le_of_ble_eq_true rfl⟩) ⟨pg_50.1, va_recv hK hw.1 (ci := 5) (q0 := 5) rfl eC_5, pg_50.2⟩ rfl rfl hl.1 rfl (lv_room (Nat.le_of_ble_eq_true rfl)) dX5_apply_50 ⟨Nat.le_refl _, Nat.le_refl _⟩) hw.2.2 (afr_in hw.2.2) (fun H locs hw => ?_)
              refine lv_if_eq (tgt := 62) hx hb dX5_apply_53 (by decide) (fun c_53 => ?_) (fun c_53 => ?_)
              · have h := ite_t c_53 h
                exact hJ_62 t_43.1 t_43.2.1 t_43.2.2 H locs ls h hw (lv_sub hl [2, 1, 0] rfl)
              · have h := ite_f c_53 h
                refine lv_aload_n hx hb dX5_apply_56 rfl (lv_at hl 2 rfl) ?_
                refine lv_iload_n hx hb dX5_apply_57 rfl (lv_at hl 0 rfl) ?_
                refine lv_iload_n hx hb dX5_apply_58 rfl (lv_at hl 1 rfl) ?_
                obtain ⟨q_59, h_59, h⟩ := bnd_e h
                have pg_59 := preG (av := [.ref (ad 5), .int t_43.1, .int a1]) hK hw.1 hw.2.1 (NC_keep hN hw.2.2) NC_blind
                refine endV (mc := 0) (ms := 0) (va_runV (As := [.int t_43.1, .int a1]) (rest := []) ⟨hx, hb, hml, hown, hts⟩ (m5_applyOne l D ad cy H.size s0 s1 s2 s3 s4 t_43.2.1 t_43.2.2 s7 s8 s9 s10 t_43.1 a1 q_59 h_59) (wX5_95 68 hts ⟨Nat.le_of_ble_eq_true rfl, Nat.le_of_ble_eq_true rfl⟩) ⟨pg_59.1, va_recv hK hw.1 (ci := 5) (q0 := 5) rfl eC_5, pg_59.2⟩ rfl rfl hl.1 rfl (lv_room (Nat.le_of_ble_eq_true rfl)) dX5_apply_59 ⟨Nat.le_refl _, Nat.le_refl _⟩) hw.2.2 (afr_in hw.2.2) (fun H locs hw => ?_)
                exact hJ_62 t_43.1 q_59.1 q_59.2 H locs ls h hw (lv_sub hl [2, 1, 0] rfl)
        exact hL_43 n_43 (n_42, t_17.2, s6) H locs ls hn_43 hw (lv_sub hl [0, 1, 2] rfl)
      · have h := ite_f c_20 h
        refine lv_aload_n hx hb dX5_apply_23 rfl (lv_at hl 2 rfl) ?_
        refine gX5_33 hx hb hts hown hK hw dX5_apply_24 ?_
        refine lv_iload_n hx hb dX5_apply_27 rfl (lv_at hl 0 rfl) ?_
        refine lv_iconst (v := 0) hx hb dX5_apply_28 (by decide) ?_
        obtain ⟨hi_29, h⟩ := chk_e h
        obtain ⟨s5_29, e_29, h⟩ := nam_e h
        refine aC51 hx hb hK hw hi_29 e_29 dX5_apply_29 (fun H locs hw => ?_)
        obtain ⟨n_30, e_30, h⟩ := nam_e h
        refine lv_iinc (v := n_30) (lv' := [(2, .int n_30), (1, .int a1), (0, .ref (ad 5))]) hx hb dX5_apply_30 hl (k := 0) rfl (by rw [e_30]; rfl) (by decide) rfl (fun ls hl => ?_)
        refine lv_goto (tgt := 17) hx hb dX5_apply_33 (by decide) ?_
        exact ih_17 (n_30, s5_29) H locs ls (nx_l hx_17 h) hw (lv_sub hl [0, 1, 2] rfl)
  exact hL_17 n_17 ((0 : Int32), s5_12) H locs ls hn_17 hw (lv_sub hl [0, 2, 1] rfl)
theorem dX5_days_0 : decode cX5_days 0 = .ok (.aload_n 0, 1) := by decide +kernel
theorem dX5_days_1 : decode cX5_days 1 = .ok (.getfield 49, 3) := by decide +kernel
theorem dX5_days_4 : decode cX5_days 4 = .ok (.iconst (-1), 1) := by decide +kernel
theorem dX5_days_5 : decode cX5_days 5 = .ok (.if_icmp .ne 8, 3) := by decide +kernel
theorem dX5_days_8 : decode cX5_days 8 = .ok (.bipush 30, 2) := by decide +kernel
theorem dX5_days_10 : decode cX5_days 10 = .ok (.goto 7, 3) := by decide +kernel
theorem dX5_days_13 : decode cX5_days 13 = .ok (.aload_n 0, 1) := by decide +kernel
theorem dX5_days_14 : decode cX5_days 14 = .ok (.getfield 49, 3) := by decide +kernel
theorem dX5_days_17 : decode cX5_days 17 = .ok (.ireturn, 1) := by decide +kernel
def f5_days_j17 (k0_j17 : Int32) (s5_j17 : OS) : Option (Int32) := some k0_j17
def f5_days (s5 : OS) : Option (Int32) := if (s5.1 0 10) = (-1 : Int32) then (f5_days_j17 ((30 : Int32)) s5) else (f5_days_j17 ((s5.1 0 10)) s5)
set_option maxHeartbeats 4000000 in
set_option maxRecDepth 100000 in
theorem m5_days (l : Launch) (D : va_G) (ad : Nat → Nat) (cy : Nat → ClassId) (sz : Nat) (s0 s1 s2 s3 s4 s5 s6 s7 s8 s9 s10 : OS) (r : Int32) (h : f5_days s5 = some r) : Met l yX5_days (wsOf yX5_days cX5_days 1 (some .int)) (rmL 0) (va_Pc ([.ref (ad 5)] : List Value) (PreG D cy (cellsC ad cy s0 s1 s2 s3 s4 s5 s6 s7 s8 s9 s10) sz (NC ad))) (QcI D ad 67 (cellsC ad cy s0 s1 s2 s3 s4 s5 s6 s7 s8 s9 s10) (r) sz) 0 0 (Afr ad 67 sz) := by
  refine metG (own := RX5) (by decide) rfl (Nat.le_of_ble_eq_true rfl) fstC ?_ sz
  intro p e s m below meth c ls C0 hw hl
  obtain ⟨hx, hb, hml, hown, hts, hr, hlk, hK, hN⟩ := C0
  have hl : lv_has ls 1 [(0, .ref (ad 5))] := hl
  generalize hQ : MQ below (QcI D ad 67 (cellsC ad cy s0 s1 s2 s3 s4 s5 s6 s7 s8 s9 s10) (r) s.heap.size) ([.ref (ad 5)] : List Value).toArray s 0 0 (Afr ad 67 s.heap.size) = Q
  obtain ⟨H, hH⟩ : ∃ H : Heap, H = s.heap := ⟨_, rfl⟩
  obtain ⟨locs, hlc⟩ : ∃ L : List Loc, L = [] := ⟨_, rfl⟩
  have hw : Wd D (cellsC ad cy s0 s1 s2 s3 s4 s5 s6 s7 s8 s9 s10) (Afr ad 67 s.heap.size) s.heap H locs := by rw [hH, hlc]; exact hw
  suffices h0 : W p l e (rmL 0) s m ([.ref (ad 5)] : List Value).toArray below meth c H locs 0 0 Q (F0 m 0 ls []) by rw [hH, hlc] at h0; exact h0
  clear hH hlc
  unfold f5_days at h
  have hJ_17 : ∀ (k0_j17 : Int32) (H : Heap) (locs : List Loc) (ls : Array Slot), f5_days_j17 k0_j17 s5 = some r → Wd D (cellsC ad cy s0 s1 s2 s3 s4 s5 s6 s7 s8 s9 s10) (Afr ad 67 s.heap.size) s.heap H locs → lv_has ls 1 [] → W p l e (rmL 0) s m ([.ref (ad 5)] : List Value).toArray below meth c H locs 0 0 Q (F0 m 17 ls [.int k0_j17]) := by
    intro k0_j17 H locs ls h hw hl
    unfold f5_days_j17 at h
    have h := Option.some.inj h
    subst h
    rw [← hQ]
    exact retI hx hb hr hlk hw rfl dX5_days_17
  refine lv_aload_n hx hb dX5_days_0 rfl (lv_at hl 0 rfl) ?_
  refine gX5_49 hx hb hts hown hK hw dX5_days_1 ?_
  refine lv_iconst (v := (-1)) hx hb dX5_days_4 (by decide) ?_
  refine lv_icmp_ne (tgt := 13) hx hb dX5_days_5 (by decide) (fun c_5 => ?_) (fun c_5 => ?_)
  · have h := ite_f c_5 h
    refine lv_aload_n hx hb dX5_days_13 rfl (lv_at hl 0 rfl) ?_
    refine gX5_49 hx hb hts hown hK hw dX5_days_14 ?_
    exact hJ_17 ((s5.1 0 10)) H locs ls h hw (lv_sub hl [] rfl)
  · have h := ite_t c_5 h
    refine lv_bipush (v := 30) hx hb dX5_days_8 (by decide) ?_
    refine lv_goto (tgt := 17) hx hb dX5_days_10 (by decide) ?_
    exact hJ_17 ((30 : Int32)) H locs ls h hw (lv_sub hl [] rfl)
theorem dX5_isBarred_0 : decode cX5_isBarred 0 = .ok (.aload_n 0, 1) := by decide +kernel
theorem dX5_isBarred_1 : decode cX5_isBarred 1 = .ok (.getfield 45, 3) := by decide +kernel
theorem dX5_isBarred_4 : decode cX5_isBarred 4 = .ok (.ireturn, 1) := by decide +kernel
def f5_isBarred (s5 : OS) : Option (Int32) := chk (isB ((s5.1 0 9))) (some ((s5.1 0 9)))
set_option maxHeartbeats 4000000 in
set_option maxRecDepth 100000 in
theorem m5_isBarred (l : Launch) (D : va_G) (ad : Nat → Nat) (cy : Nat → ClassId) (sz : Nat) (s0 s1 s2 s3 s4 s5 s6 s7 s8 s9 s10 : OS) (r : Int32) (h : f5_isBarred s5 = some r) : Met l yX5_isBarred (wsOf yX5_isBarred cX5_isBarred 1 (some .boolean)) (rmL 0) (va_Pc ([.ref (ad 5)] : List Value) (PreG D cy (cellsC ad cy s0 s1 s2 s3 s4 s5 s6 s7 s8 s9 s10) sz (NC ad))) (QcI D ad 67 (cellsC ad cy s0 s1 s2 s3 s4 s5 s6 s7 s8 s9 s10) (r) sz) 0 0 (Afr ad 67 sz) := by
  refine metG (own := RX5) (by decide) rfl (Nat.le_of_ble_eq_true rfl) fstC ?_ sz
  intro p e s m below meth c ls C0 hw hl
  obtain ⟨hx, hb, hml, hown, hts, hr, hlk, hK, hN⟩ := C0
  have hl : lv_has ls 1 [(0, .ref (ad 5))] := hl
  generalize hQ : MQ below (QcI D ad 67 (cellsC ad cy s0 s1 s2 s3 s4 s5 s6 s7 s8 s9 s10) (r) s.heap.size) ([.ref (ad 5)] : List Value).toArray s 0 0 (Afr ad 67 s.heap.size) = Q
  obtain ⟨H, hH⟩ : ∃ H : Heap, H = s.heap := ⟨_, rfl⟩
  obtain ⟨locs, hlc⟩ : ∃ L : List Loc, L = [] := ⟨_, rfl⟩
  have hw : Wd D (cellsC ad cy s0 s1 s2 s3 s4 s5 s6 s7 s8 s9 s10) (Afr ad 67 s.heap.size) s.heap H locs := by rw [hH, hlc]; exact hw
  suffices h0 : W p l e (rmL 0) s m ([.ref (ad 5)] : List Value).toArray below meth c H locs 0 0 Q (F0 m 0 ls []) by rw [hH, hlc] at h0; exact h0
  clear hH hlc
  unfold f5_isBarred at h
  refine lv_aload_n hx hb dX5_isBarred_0 rfl (lv_at hl 0 rfl) ?_
  refine gX5_45 hx hb hts hown hK hw dX5_isBarred_1 ?_
  obtain ⟨hz_4, h⟩ := chk_e h
  have h := Option.some.inj h
  subst h
  rw [← hQ]
  exact retI hx hb hr hlk hw (narB hz_4) dX5_isBarred_4
theorem dX5_thousandths_0 : decode cX5_thousandths 0 = .ok (.aload_n 0, 1) := by decide +kernel
theorem dX5_thousandths_1 : decode cX5_thousandths 1 = .ok (.getfield 52, 3) := by decide +kernel
theorem dX5_thousandths_4 : decode cX5_thousandths 4 = .ok (.iconst (-1), 1) := by decide +kernel
theorem dX5_thousandths_5 : decode cX5_thousandths 5 = .ok (.if_icmp .ne 7, 3) := by decide +kernel
theorem dX5_thousandths_8 : decode cX5_thousandths 8 = .ok (.iconst 0, 1) := by decide +kernel
theorem dX5_thousandths_9 : decode cX5_thousandths 9 = .ok (.goto 7, 3) := by decide +kernel
theorem dX5_thousandths_12 : decode cX5_thousandths 12 = .ok (.aload_n 0, 1) := by decide +kernel
theorem dX5_thousandths_13 : decode cX5_thousandths 13 = .ok (.getfield 52, 3) := by decide +kernel
theorem dX5_thousandths_16 : decode cX5_thousandths 16 = .ok (.ireturn, 1) := by decide +kernel
def f5_thousandths_j16 (k0_j16 : Int32) (s5_j16 : OS) : Option (Int32) := some k0_j16
def f5_thousandths (s5 : OS) : Option (Int32) := if (s5.1 0 11) = (-1 : Int32) then (f5_thousandths_j16 ((0 : Int32)) s5) else (f5_thousandths_j16 ((s5.1 0 11)) s5)
set_option maxHeartbeats 4000000 in
set_option maxRecDepth 100000 in
theorem m5_thousandths (l : Launch) (D : va_G) (ad : Nat → Nat) (cy : Nat → ClassId) (sz : Nat) (s0 s1 s2 s3 s4 s5 s6 s7 s8 s9 s10 : OS) (r : Int32) (h : f5_thousandths s5 = some r) : Met l yX5_thousandths (wsOf yX5_thousandths cX5_thousandths 1 (some .int)) (rmL 0) (va_Pc ([.ref (ad 5)] : List Value) (PreG D cy (cellsC ad cy s0 s1 s2 s3 s4 s5 s6 s7 s8 s9 s10) sz (NC ad))) (QcI D ad 67 (cellsC ad cy s0 s1 s2 s3 s4 s5 s6 s7 s8 s9 s10) (r) sz) 0 0 (Afr ad 67 sz) := by
  refine metG (own := RX5) (by decide) rfl (Nat.le_of_ble_eq_true rfl) fstC ?_ sz
  intro p e s m below meth c ls C0 hw hl
  obtain ⟨hx, hb, hml, hown, hts, hr, hlk, hK, hN⟩ := C0
  have hl : lv_has ls 1 [(0, .ref (ad 5))] := hl
  generalize hQ : MQ below (QcI D ad 67 (cellsC ad cy s0 s1 s2 s3 s4 s5 s6 s7 s8 s9 s10) (r) s.heap.size) ([.ref (ad 5)] : List Value).toArray s 0 0 (Afr ad 67 s.heap.size) = Q
  obtain ⟨H, hH⟩ : ∃ H : Heap, H = s.heap := ⟨_, rfl⟩
  obtain ⟨locs, hlc⟩ : ∃ L : List Loc, L = [] := ⟨_, rfl⟩
  have hw : Wd D (cellsC ad cy s0 s1 s2 s3 s4 s5 s6 s7 s8 s9 s10) (Afr ad 67 s.heap.size) s.heap H locs := by rw [hH, hlc]; exact hw
  suffices h0 : W p l e (rmL 0) s m ([.ref (ad 5)] : List Value).toArray below meth c H locs 0 0 Q (F0 m 0 ls []) by rw [hH, hlc] at h0; exact h0
  clear hH hlc
  unfold f5_thousandths at h
  have hJ_16 : ∀ (k0_j16 : Int32) (H : Heap) (locs : List Loc) (ls : Array Slot), f5_thousandths_j16 k0_j16 s5 = some r → Wd D (cellsC ad cy s0 s1 s2 s3 s4 s5 s6 s7 s8 s9 s10) (Afr ad 67 s.heap.size) s.heap H locs → lv_has ls 1 [] → W p l e (rmL 0) s m ([.ref (ad 5)] : List Value).toArray below meth c H locs 0 0 Q (F0 m 16 ls [.int k0_j16]) := by
    intro k0_j16 H locs ls h hw hl
    unfold f5_thousandths_j16 at h
    have h := Option.some.inj h
    subst h
    rw [← hQ]
    exact retI hx hb hr hlk hw rfl dX5_thousandths_16
  refine lv_aload_n hx hb dX5_thousandths_0 rfl (lv_at hl 0 rfl) ?_
  refine gX5_52 hx hb hts hown hK hw dX5_thousandths_1 ?_
  refine lv_iconst (v := (-1)) hx hb dX5_thousandths_4 (by decide) ?_
  refine lv_icmp_ne (tgt := 12) hx hb dX5_thousandths_5 (by decide) (fun c_5 => ?_) (fun c_5 => ?_)
  · have h := ite_f c_5 h
    refine lv_aload_n hx hb dX5_thousandths_12 rfl (lv_at hl 0 rfl) ?_
    refine gX5_52 hx hb hts hown hK hw dX5_thousandths_13 ?_
    exact hJ_16 ((s5.1 0 11)) H locs ls h hw (lv_sub hl [] rfl)
  · have h := ite_t c_5 h
    refine lv_iconst (v := 0) hx hb dX5_thousandths_8 (by decide) ?_
    refine lv_goto (tgt := 16) hx hb dX5_thousandths_9 (by decide) ?_
    exact hJ_16 ((0 : Int32)) H locs ls h hw (lv_sub hl [] rfl)
theorem dX5_add_0 : decode cX5_add 0 = .ok (.aload_n 0, 1) := by decide +kernel
theorem dX5_add_1 : decode cX5_add 1 = .ok (.getfield 41, 3) := by decide +kernel
theorem dX5_add_4 : decode cX5_add 4 = .ok (.istore 5, 2) := by decide +kernel
theorem dX5_add_6 : decode cX5_add 6 = .ok (.aload_n 1, 1) := by decide +kernel
theorem dX5_add_7 : decode cX5_add 7 = .ok (.ifnull 22, 3) := by decide +kernel
theorem dX5_add_10 : decode cX5_add 10 = .ok (.iload 5, 2) := by decide +kernel
theorem dX5_add_12 : decode cX5_add 12 = .ok (.ifCond .lt 17, 3) := by decide +kernel
theorem dX5_add_15 : decode cX5_add 15 = .ok (.iload 5, 2) := by decide +kernel
theorem dX5_add_17 : decode cX5_add 17 = .ok (.bipush 20, 2) := by decide +kernel
theorem dX5_add_19 : decode cX5_add 19 = .ok (.if_icmp .ge 10, 3) := by decide +kernel
theorem dX5_add_22 : decode cX5_add 22 = .ok (.iload_n 2, 1) := by decide +kernel
theorem dX5_add_23 : decode cX5_add 23 = .ok (.sipush 160, 3) := by decide +kernel
theorem dX5_add_26 : decode cX5_add 26 = .ok (.if_icmp .le 5, 3) := by decide +kernel
theorem dX5_add_29 : decode cX5_add 29 = .ok (.iconst (-1), 1) := by decide +kernel
theorem dX5_add_30 : decode cX5_add 30 = .ok (.ireturn, 1) := by decide +kernel
theorem dX5_add_31 : decode cX5_add 31 = .ok (.iconst 0, 1) := by decide +kernel
theorem dX5_add_32 : decode cX5_add 32 = .ok (.istore 6, 2) := by decide +kernel
theorem dX5_add_34 : decode cX5_add 34 = .ok (.iload 6, 2) := by decide +kernel
theorem dX5_add_36 : decode cX5_add 36 = .ok (.iload_n 2, 1) := by decide +kernel
theorem dX5_add_37 : decode cX5_add 37 = .ok (.if_icmp .ge 29, 3) := by decide +kernel
theorem dX5_add_40 : decode cX5_add 40 = .ok (.aload_n 0, 1) := by decide +kernel
theorem dX5_add_41 : decode cX5_add 41 = .ok (.getfield 13, 3) := by decide +kernel
theorem dX5_add_44 : decode cX5_add 44 = .ok (.iload 5, 2) := by decide +kernel
theorem dX5_add_46 : decode cX5_add 46 = .ok (.sipush 160, 3) := by decide +kernel
theorem dX5_add_49 : decode cX5_add 49 = .ok (.imul, 1) := by decide +kernel
theorem dX5_add_50 : decode cX5_add 50 = .ok (.iload 6, 2) := by decide +kernel
theorem dX5_add_52 : decode cX5_add 52 = .ok (.iadd, 1) := by decide +kernel
theorem dX5_add_53 : decode cX5_add 53 = .ok (.aload_n 1, 1) := by decide +kernel
theorem dX5_add_54 : decode cX5_add 54 = .ok (.iload 6, 2) := by decide +kernel
theorem dX5_add_56 : decode cX5_add 56 = .ok (.invokevirtual 59, 3) := by decide +kernel
theorem dX5_add_59 : decode cX5_add 59 = .ok (.castore, 1) := by decide +kernel
theorem dX5_add_60 : decode cX5_add 60 = .ok (.iinc 6 1, 3) := by decide +kernel
theorem dX5_add_63 : decode cX5_add 63 = .ok (.goto (-29), 3) := by decide +kernel
theorem dX5_add_66 : decode cX5_add 66 = .ok (.aload_n 0, 1) := by decide +kernel
theorem dX5_add_67 : decode cX5_add 67 = .ok (.getfield 37, 3) := by decide +kernel
theorem dX5_add_70 : decode cX5_add 70 = .ok (.aload_n 0, 1) := by decide +kernel
theorem dX5_add_71 : decode cX5_add 71 = .ok (.getfield 13, 3) := by decide +kernel
theorem dX5_add_74 : decode cX5_add 74 = .ok (.iload 5, 2) := by decide +kernel
theorem dX5_add_76 : decode cX5_add 76 = .ok (.sipush 160, 3) := by decide +kernel
theorem dX5_add_79 : decode cX5_add 79 = .ok (.imul, 1) := by decide +kernel
theorem dX5_add_80 : decode cX5_add 80 = .ok (.iload_n 2, 1) := by decide +kernel
theorem dX5_add_81 : decode cX5_add 81 = .ok (.invokevirtual 65, 3) := by decide +kernel
theorem dX5_add_84 : decode cX5_add 84 = .ok (.aload_n 0, 1) := by decide +kernel
theorem dX5_add_85 : decode cX5_add 85 = .ok (.getfield 37, 3) := by decide +kernel
theorem dX5_add_88 : decode cX5_add 88 = .ok (.invokevirtual 69, 3) := by decide +kernel
theorem dX5_add_91 : decode cX5_add 91 = .ok (.aload_n 0, 1) := by decide +kernel
theorem dX5_add_92 : decode cX5_add 92 = .ok (.getfield 37, 3) := by decide +kernel
theorem dX5_add_95 : decode cX5_add 95 = .ok (.invokevirtual 72, 3) := by decide +kernel
theorem dX5_add_98 : decode cX5_add 98 = .ok (.ifCond .eq 11, 3) := by decide +kernel
theorem dX5_add_101 : decode cX5_add 101 = .ok (.aload_n 0, 1) := by decide +kernel
theorem dX5_add_102 : decode cX5_add 102 = .ok (.getfield 37, 3) := by decide +kernel
theorem dX5_add_105 : decode cX5_add 105 = .ok (.invokevirtual 76, 3) := by decide +kernel
theorem dX5_add_108 : decode cX5_add 108 = .ok (.ireturn, 1) := by decide +kernel
theorem dX5_add_109 : decode cX5_add 109 = .ok (.aload_n 0, 1) := by decide +kernel
theorem dX5_add_110 : decode cX5_add 110 = .ok (.getfield 17, 3) := by decide +kernel
theorem dX5_add_113 : decode cX5_add 113 = .ok (.iload 5, 2) := by decide +kernel
theorem dX5_add_115 : decode cX5_add 115 = .ok (.iload_n 2, 1) := by decide +kernel
theorem dX5_add_116 : decode cX5_add 116 = .ok (.iastore, 1) := by decide +kernel
theorem dX5_add_117 : decode cX5_add 117 = .ok (.aload_n 0, 1) := by decide +kernel
theorem dX5_add_118 : decode cX5_add 118 = .ok (.getfield 21, 3) := by decide +kernel
theorem dX5_add_121 : decode cX5_add 121 = .ok (.iload 5, 2) := by decide +kernel
theorem dX5_add_123 : decode cX5_add 123 = .ok (.iload_n 3, 1) := by decide +kernel
theorem dX5_add_124 : decode cX5_add 124 = .ok (.iastore, 1) := by decide +kernel
theorem dX5_add_125 : decode cX5_add 125 = .ok (.aload_n 0, 1) := by decide +kernel
theorem dX5_add_126 : decode cX5_add 126 = .ok (.getfield 24, 3) := by decide +kernel
theorem dX5_add_129 : decode cX5_add 129 = .ok (.iload 5, 2) := by decide +kernel
theorem dX5_add_131 : decode cX5_add 131 = .ok (.iload 4, 2) := by decide +kernel
theorem dX5_add_133 : decode cX5_add 133 = .ok (.iastore, 1) := by decide +kernel
theorem dX5_add_134 : decode cX5_add 134 = .ok (.aload_n 0, 1) := by decide +kernel
theorem dX5_add_135 : decode cX5_add 135 = .ok (.getfield 27, 3) := by decide +kernel
theorem dX5_add_138 : decode cX5_add 138 = .ok (.iload 5, 2) := by decide +kernel
theorem dX5_add_140 : decode cX5_add 140 = .ok (.aload_n 0, 1) := by decide +kernel
theorem dX5_add_141 : decode cX5_add 141 = .ok (.getfield 37, 3) := by decide +kernel
theorem dX5_add_144 : decode cX5_add 144 = .ok (.invokevirtual 80, 3) := by decide +kernel
theorem dX5_add_147 : decode cX5_add 147 = .ok (.iastore, 1) := by decide +kernel
theorem dX5_add_148 : decode cX5_add 148 = .ok (.iconst 0, 1) := by decide +kernel
theorem dX5_add_149 : decode cX5_add 149 = .ok (.istore 6, 2) := by decide +kernel
theorem dX5_add_151 : decode cX5_add 151 = .ok (.iload 6, 2) := by decide +kernel
theorem dX5_add_153 : decode cX5_add 153 = .ok (.bipush 12, 2) := by decide +kernel
theorem dX5_add_155 : decode cX5_add 155 = .ok (.if_icmp .ge 31, 3) := by decide +kernel
theorem dX5_add_158 : decode cX5_add 158 = .ok (.aload_n 0, 1) := by decide +kernel
theorem dX5_add_159 : decode cX5_add 159 = .ok (.getfield 30, 3) := by decide +kernel
theorem dX5_add_162 : decode cX5_add 162 = .ok (.iload 5, 2) := by decide +kernel
theorem dX5_add_164 : decode cX5_add 164 = .ok (.bipush 12, 2) := by decide +kernel
theorem dX5_add_166 : decode cX5_add 166 = .ok (.imul, 1) := by decide +kernel
theorem dX5_add_167 : decode cX5_add 167 = .ok (.iload 6, 2) := by decide +kernel
theorem dX5_add_169 : decode cX5_add 169 = .ok (.iadd, 1) := by decide +kernel
theorem dX5_add_170 : decode cX5_add 170 = .ok (.aload_n 0, 1) := by decide +kernel
theorem dX5_add_171 : decode cX5_add 171 = .ok (.getfield 37, 3) := by decide +kernel
theorem dX5_add_174 : decode cX5_add 174 = .ok (.iload 6, 2) := by decide +kernel
theorem dX5_add_176 : decode cX5_add 176 = .ok (.invokevirtual 83, 3) := by decide +kernel
theorem dX5_add_179 : decode cX5_add 179 = .ok (.iastore, 1) := by decide +kernel
theorem dX5_add_180 : decode cX5_add 180 = .ok (.iinc 6 1, 3) := by decide +kernel
theorem dX5_add_183 : decode cX5_add 183 = .ok (.goto (-32), 3) := by decide +kernel
theorem dX5_add_186 : decode cX5_add 186 = .ok (.aload_n 0, 1) := by decide +kernel
theorem dX5_add_187 : decode cX5_add 187 = .ok (.dup, 1) := by decide +kernel
theorem dX5_add_188 : decode cX5_add 188 = .ok (.getfield 41, 3) := by decide +kernel
theorem dX5_add_191 : decode cX5_add 191 = .ok (.iconst 1, 1) := by decide +kernel
theorem dX5_add_192 : decode cX5_add 192 = .ok (.iadd, 1) := by decide +kernel
theorem dX5_add_193 : decode cX5_add 193 = .ok (.putfield 41, 3) := by decide +kernel
theorem dX5_add_196 : decode cX5_add 196 = .ok (.iload 5, 2) := by decide +kernel
theorem dX5_add_198 : decode cX5_add 198 = .ok (.ireturn, 1) := by decide +kernel
noncomputable def f5_add_j29 (s5_j29 : OS) (s6_j29 : OS) (s8_j29 : OS) : Option (Int32 × OS × OS) := some ((-1 : Int32), s5_j29, s6_j29)
noncomputable def f5_add_l151 (v5_i151 : Int32) (s6_i151 : OS) (s8_i151 : OS) : Int32 × OS → Option ((Int32 × OS) ⊕ (Int32 × OS × OS)) := fun t_151 => if (12 : Int32) ≤ t_151.1 then (Option.map Sum.inr (nm (wI t_151.2 0 8 (((t_151.2.1 0 8) + (1 : Int32)))) fun s5_193 => some (v5_i151, s5_193, s6_i151))) else (Option.bind (f6_startOf t_151.1 s6_i151) fun q_176 => chk (inb (((v5_i151 * (12 : Int32)) + t_151.1)) 240) (nm (wI t_151.2 6 (((v5_i151 * (12 : Int32)) + t_151.1)).toNatClampNeg q_176) fun s5_179 => nm (t_151.1 + (1 : Int32)) fun n_180 => some (Sum.inl (n_180, s5_179))))
noncomputable def f5_add_l34 (v2_i34 : Int32) (v3_i34 : Int32) (v4_i34 : Int32) (v5_i34 : Int32) (s6_i34 : OS) (s8_i34 : OS) : Int32 × OS → Option ((Int32 × OS) ⊕ (Int32 × OS × OS)) := fun t_34 => if v2_i34 ≤ t_34.1 then (Option.map Sum.inr (Option.bind (f6_turnTo ((v5_i34 * (160 : Int32))) v2_i34 t_34.2 s6_i34) fun q_81 => Option.bind (f6_survey q_81) fun q_88 => Option.bind (f6_hasFault q_88) fun q_95 => if q_95 = 0 then (chk (inb v5_i34 20) (nm (wI t_34.2 2 v5_i34.toNatClampNeg v2_i34) fun s5_116 => chk (inb v5_i34 20) (nm (wI s5_116 3 v5_i34.toNatClampNeg v3_i34) fun s5_124 => chk (inb v5_i34 20) (nm (wI s5_124 4 v5_i34.toNatClampNeg v4_i34) fun s5_133 => Option.bind (f6_clauseCount q_88) fun q_144 => chk (inb v5_i34 20) (nm (wI s5_133 5 v5_i34.toNatClampNeg q_144) fun s5_147 => loop (f5_add_l151 v5_i34 q_88 s8_i34) ((0 : Int32), s5_147)))))) else (Option.bind (f6_faultAnswer q_88) fun q_105 => some (q_105, t_34.2, q_88)))) else (Option.bind (f8_byteAt t_34.1 s8_i34) fun q_56 => chk (inb (((v5_i34 * (160 : Int32)) + t_34.1)) 3200) (nm (wI t_34.2 1 (((v5_i34 * (160 : Int32)) + t_34.1)).toNatClampNeg (vp_nar .char q_56)) fun s5_59 => nm (t_34.1 + (1 : Int32)) fun n_60 => some (Sum.inl (n_60, s5_59))))
noncomputable def f5_add (a2 : Int32) (a3 : Int32) (a4 : Int32) (s5 : OS) (s6 : OS) (s8 : OS) : Option (Int32 × OS × OS) := nm ((s5.1 0 8)) fun n_4 => if n_4 < 0 then (f5_add_j29 s5 s6 s8) else (if (20 : Int32) ≤ n_4 then (f5_add_j29 s5 s6 s8) else (if a2 ≤ (160 : Int32) then (loop (f5_add_l34 a2 a3 a4 n_4 s6 s8) ((0 : Int32), s5)) else (f5_add_j29 s5 s6 s8)))
set_option maxHeartbeats 4000000 in
set_option maxRecDepth 100000 in
theorem m5_add (l : Launch) (D : va_G) (ad : Nat → Nat) (cy : Nat → ClassId) (sz : Nat) (s0 s1 s2 s3 s4 s5 s6 s7 s8 s9 s10 : OS) (a2 : Int32) (a3 : Int32) (a4 : Int32) (r : Int32 × OS × OS) (h : f5_add a2 a3 a4 s5 s6 s8 = some r) : Met l yX5_add (wsOf yX5_add cX5_add 7 (some .int)) (rmL 69) (va_Pc ([.ref (ad 5), .ref (ad 8), .int a2, .int a3, .int a4] : List Value) (PreG D cy (cellsC ad cy s0 s1 s2 s3 s4 s5 s6 s7 s8 s9 s10) sz (NC ad))) (QcI D ad 67 (cellsC ad cy s0 s1 s2 s3 s4 r.2.1 r.2.2 s7 s8 s9 s10) (r.1) sz) 0 0 (Afr ad 67 sz) := by
  refine metG (own := RX5) (by decide) rfl (Nat.le_of_ble_eq_true rfl) fstC ?_ sz
  intro p e s m below meth c ls C0 hw hl
  obtain ⟨hx, hb, hml, hown, hts, hr, hlk, hK, hN⟩ := C0
  have hl : lv_has ls 7 [(0, .ref (ad 5)), (1, .ref (ad 8)), (2, .int a2), (3, .int a3), (4, .int a4)] := hl
  generalize hQ : MQ below (QcI D ad 67 (cellsC ad cy s0 s1 s2 s3 s4 r.2.1 r.2.2 s7 s8 s9 s10) (r.1) s.heap.size) ([.ref (ad 5), .ref (ad 8), .int a2, .int a3, .int a4] : List Value).toArray s 0 0 (Afr ad 67 s.heap.size) = Q
  obtain ⟨H, hH⟩ : ∃ H : Heap, H = s.heap := ⟨_, rfl⟩
  obtain ⟨locs, hlc⟩ : ∃ L : List Loc, L = [] := ⟨_, rfl⟩
  have hw : Wd D (cellsC ad cy s0 s1 s2 s3 s4 s5 s6 s7 s8 s9 s10) (Afr ad 67 s.heap.size) s.heap H locs := by rw [hH, hlc]; exact hw
  suffices h0 : W p l e (rmL 69) s m ([.ref (ad 5), .ref (ad 8), .int a2, .int a3, .int a4] : List Value).toArray below meth c H locs 0 0 Q (F0 m 0 ls []) by rw [hH, hlc] at h0; exact h0
  clear hH hlc
  unfold f5_add at h
  have hJ_29 : ∀ (s5_j29 : OS) (s6_j29 : OS) (H : Heap) (locs : List Loc) (ls : Array Slot), f5_add_j29 s5_j29 s6_j29 s8 = some r → Wd D (cellsC ad cy s0 s1 s2 s3 s4 s5_j29 s6_j29 s7 s8 s9 s10) (Afr ad 67 s.heap.size) s.heap H locs → lv_has ls 7 [] → W p l e (rmL 69) s m ([.ref (ad 5), .ref (ad 8), .int a2, .int a3, .int a4] : List Value).toArray below meth c H locs 0 0 Q (F0 m 29 ls []) := by
    intro s5_j29 s6_j29 H locs ls h hw hl
    unfold f5_add_j29 at h
    refine lv_iconst (v := (-1)) hx hb dX5_add_29 (by decide) ?_
    have h := Option.some.inj h
    subst h
    rw [← hQ]
    exact retI hx hb hr hlk hw rfl dX5_add_30
  refine lv_aload_n hx hb dX5_add_0 rfl (lv_at hl 0 rfl) ?_
  refine gX5_41 hx hb hts hown hK hw dX5_add_1 ?_
  obtain ⟨n_4, e_4, h⟩ := nam_e h
  refine topI e_4 ?_
  refine lv_istore (lv' := [(5, .int n_4), (0, .ref (ad 5)), (1, .ref (ad 8)), (2, .int a2), (3, .int a3), (4, .int a4)]) hx hb dX5_add_4 hl (by decide) rfl (fun ls hl => ?_)
  refine lv_aload_n hx hb dX5_add_6 rfl (lv_at hl 2 rfl) ?_
  refine lv_ifnull hx hb dX5_add_7 ?_
  refine lv_iload hx hb dX5_add_10 (lv_at hl 0 rfl) ?_
  refine lv_if_lt (tgt := 29) hx hb dX5_add_12 (by decide) (fun c_12 => ?_) (fun c_12 => ?_)
  · have h := ite_t c_12 h
    exact hJ_29 s5 s6 H locs ls h hw (lv_sub hl [] rfl)
  · have h := ite_f c_12 h
    refine lv_iload hx hb dX5_add_15 (lv_at hl 0 rfl) ?_
    refine lv_bipush (v := 20) hx hb dX5_add_17 (by decide) ?_
    refine lv_icmp_ge (tgt := 29) hx hb dX5_add_19 (by decide) (fun c_19 => ?_) (fun c_19 => ?_)
    · have h := ite_t c_19 h
      exact hJ_29 s5 s6 H locs ls h hw (lv_sub hl [] rfl)
    · have h := ite_f c_19 h
      refine lv_iload_n hx hb dX5_add_22 rfl (lv_at hl 3 rfl) ?_
      refine lv_sipush (v := 160) hx hb dX5_add_23 (by decide) ?_
      refine lv_icmp_le (tgt := 31) hx hb dX5_add_26 (by decide) (fun c_26 => ?_) (fun c_26 => ?_)
      · have h := ite_t c_26 h
        refine lv_iconst (v := 0) hx hb dX5_add_31 (by decide) ?_
        refine lv_istore (lv' := [(6, .int ((0 : Int32))), (5, .int n_4), (0, .ref (ad 5)), (1, .ref (ad 8)), (2, .int a2), (3, .int a3), (4, .int a4)]) hx hb dX5_add_32 hl (by decide) rfl (fun ls hl => ?_)
        obtain ⟨n_34, hn_34⟩ := loop_e h
        have hL_34 : ∀ (n : Nat) (t_34 : Int32 × OS) (H : Heap) (locs : List Loc) (ls : Array Slot), loopN (f5_add_l34 a2 a3 a4 n_4 s6 s8) n t_34 = some r → Wd D (cellsC ad cy s0 s1 s2 s3 s4 t_34.2 s6 s7 s8 s9 s10) (Afr ad 67 s.heap.size) s.heap H locs → lv_has ls 7 [(6, .int t_34.1), (2, .int a2), (3, .int a3), (4, .int a4), (5, .int n_4), (0, .ref (ad 5)), (1, .ref (ad 8))] → W p l e (rmL 69) s m ([.ref (ad 5), .ref (ad 8), .int a2, .int a3, .int a4] : List Value).toArray below meth c H locs 0 0 Q (F0 m 34 ls []) := by
          intro n
          induction n with
          | zero => intro t_34 H locs ls hn; cases hn
          | succ n ih_34 =>
            intro t_34 H locs ls hn hw hl
            obtain ⟨x_34, h, hx_34⟩ := loopN_e hn
            unfold f5_add_l34 at h
            refine lv_iload hx hb dX5_add_34 (lv_at hl 0 rfl) ?_
            refine lv_iload_n hx hb dX5_add_36 rfl (lv_at hl 1 rfl) ?_
            refine lv_icmp_ge (tgt := 66) hx hb dX5_add_37 (by decide) (fun c_37 => ?_) (fun c_37 => ?_)
            · have h := ite_t c_37 h
              have h := nx_m hx_34 h
              refine lv_aload_n hx hb dX5_add_66 rfl (lv_at hl 5 rfl) ?_
              refine gX5_37 hx hb hts hown hK hw dX5_add_67 ?_
              refine lv_aload_n hx hb dX5_add_70 rfl (lv_at hl 5 rfl) ?_
              refine gX5_13 hx hb hts hown hK hw dX5_add_71 ?_
              refine lv_iload hx hb dX5_add_74 (lv_at hl 4 rfl) ?_
              refine lv_sipush (v := 160) hx hb dX5_add_76 (by decide) ?_
              refine lv_imul hx hb dX5_add_79 ?_
              refine lv_iload_n hx hb dX5_add_80 rfl (lv_at hl 1 rfl) ?_
              obtain ⟨q_81, h_81, h⟩ := bnd_e h
              have pg_81 := preG (av := [.ref (ad 6), .ref (ad 45), .int ((n_4 * (160 : Int32))), .int a2]) hK hw.1 hw.2.1 (NC_keep hN hw.2.2) NC_blind
              refine endV (mc := 0) (ms := 0) (va_runV (As := [.ref (ad 45), .int ((n_4 * (160 : Int32))), .int a2]) (rest := []) ⟨hx, hb, hml, hown, hts⟩ (m6_turnTo l D ad cy H.size s0 s1 s2 s3 s4 t_34.2 s6 s7 s8 s9 s10 ((n_4 * (160 : Int32))) a2 q_81 h_81) (wX5_65 0 hts ⟨Nat.le_of_ble_eq_true rfl, Nat.le_of_ble_eq_true rfl⟩) ⟨pg_81.1, va_recv hK hw.1 (ci := 6) (q0 := 6) rfl eC_6, pg_81.2⟩ rfl rfl hl.1 rfl (lv_room (Nat.le_of_ble_eq_true rfl)) dX5_add_81 ⟨Nat.le_refl _, Nat.le_refl _⟩) hw.2.2 (afr_in hw.2.2) (fun H locs hw => ?_)
              refine lv_aload_n hx hb dX5_add_84 rfl (lv_at hl 5 rfl) ?_
              refine gX5_37 hx hb hts hown hK hw dX5_add_85 ?_
              obtain ⟨q_88, h_88, h⟩ := bnd_e h
              have pg_88 := preG (av := [.ref (ad 6)]) hK hw.1 hw.2.1 (NC_keep hN hw.2.2) NC_blind
              refine endV (mc := 0) (ms := 0) (va_runV (As := []) (rest := []) ⟨hx, hb, hml, hown, hts⟩ (m6_survey l D ad cy H.size s0 s1 s2 s3 s4 t_34.2 q_81 s7 s8 s9 s10 q_88 h_88) (wX5_69 68 hts ⟨Nat.le_of_ble_eq_true rfl, Nat.le_of_ble_eq_true rfl⟩) ⟨pg_88.1, va_recv hK hw.1 (ci := 6) (q0 := 6) rfl eC_6, pg_88.2⟩ rfl rfl hl.1 rfl (lv_room (Nat.le_of_ble_eq_true rfl)) dX5_add_88 ⟨Nat.le_refl _, Nat.le_refl _⟩) hw.2.2 (afr_in hw.2.2) (fun H locs hw => ?_)
              refine lv_aload_n hx hb dX5_add_91 rfl (lv_at hl 5 rfl) ?_
              refine gX5_37 hx hb hts hown hK hw dX5_add_92 ?_
              obtain ⟨q_95, h_95, h⟩ := bnd_e h
              have pg_95 := preG (av := [.ref (ad 6)]) hK hw.1 hw.2.1 (NC_keep hN hw.2.2) NC_blind
              refine endI (mc := 0) (ms := 0) (va_runV (As := []) (rest := []) ⟨hx, hb, hml, hown, hts⟩ (m6_hasFault l D ad cy H.size s0 s1 s2 s3 s4 t_34.2 q_88 s7 s8 s9 s10 q_95 h_95) (wX5_72 0 hts ⟨Nat.le_of_ble_eq_true rfl, Nat.le_of_ble_eq_true rfl⟩) ⟨pg_95.1, va_recv hK hw.1 (ci := 6) (q0 := 6) rfl eC_6, pg_95.2⟩ rfl rfl hl.1 rfl (lv_room (Nat.le_of_ble_eq_true rfl)) dX5_add_95 ⟨Nat.le_refl _, Nat.le_refl _⟩) hw.2.2 (afr_in hw.2.2) (fun H locs hw => ?_)
              refine lv_if_eq (tgt := 109) hx hb dX5_add_98 (by decide) (fun c_98 => ?_) (fun c_98 => ?_)
              · have h := ite_t c_98 h
                refine lv_aload_n hx hb dX5_add_109 rfl (lv_at hl 5 rfl) ?_
                refine gX5_17 hx hb hts hown hK hw dX5_add_110 ?_
                refine lv_iload hx hb dX5_add_113 (lv_at hl 4 rfl) ?_
                refine lv_iload_n hx hb dX5_add_115 rfl (lv_at hl 1 rfl) ?_
                obtain ⟨hi_116, h⟩ := chk_e h
                obtain ⟨s5_116, e_116, h⟩ := nam_e h
                refine aC46 hx hb hK hw hi_116 e_116 dX5_add_116 (fun H locs hw => ?_)
                refine lv_aload_n hx hb dX5_add_117 rfl (lv_at hl 5 rfl) ?_
                refine gX5_21 hx hb hts hown hK hw dX5_add_118 ?_
                refine lv_iload hx hb dX5_add_121 (lv_at hl 4 rfl) ?_
                refine lv_iload_n hx hb dX5_add_123 rfl (lv_at hl 2 rfl) ?_
                obtain ⟨hi_124, h⟩ := chk_e h
                obtain ⟨s5_124, e_124, h⟩ := nam_e h
                refine aC47 hx hb hK hw hi_124 e_124 dX5_add_124 (fun H locs hw => ?_)
                refine lv_aload_n hx hb dX5_add_125 rfl (lv_at hl 5 rfl) ?_
                refine gX5_24 hx hb hts hown hK hw dX5_add_126 ?_
                refine lv_iload hx hb dX5_add_129 (lv_at hl 4 rfl) ?_
                refine lv_iload hx hb dX5_add_131 (lv_at hl 3 rfl) ?_
                obtain ⟨hi_133, h⟩ := chk_e h
                obtain ⟨s5_133, e_133, h⟩ := nam_e h
                refine aC48 hx hb hK hw hi_133 e_133 dX5_add_133 (fun H locs hw => ?_)
                refine lv_aload_n hx hb dX5_add_134 rfl (lv_at hl 5 rfl) ?_
                refine gX5_27 hx hb hts hown hK hw dX5_add_135 ?_
                refine lv_iload hx hb dX5_add_138 (lv_at hl 4 rfl) ?_
                refine lv_aload_n hx hb dX5_add_140 rfl (lv_at hl 5 rfl) ?_
                refine gX5_37 hx hb hts hown hK hw dX5_add_141 ?_
                obtain ⟨q_144, h_144, h⟩ := bnd_e h
                have pg_144 := preG (av := [.ref (ad 6)]) hK hw.1 hw.2.1 (NC_keep hN hw.2.2) NC_blind
                refine endI (mc := 0) (ms := 0) (va_runV (As := []) (rest := [.int n_4, .ref (ad 49)]) ⟨hx, hb, hml, hown, hts⟩ (m6_clauseCount l D ad cy H.size s0 s1 s2 s3 s4 s5_133 q_88 s7 s8 s9 s10 q_144 h_144) (wX5_80 0 hts ⟨Nat.le_of_ble_eq_true rfl, Nat.le_of_ble_eq_true rfl⟩) ⟨pg_144.1, va_recv hK hw.1 (ci := 6) (q0 := 6) rfl eC_6, pg_144.2⟩ rfl rfl hl.1 rfl (lv_room (Nat.le_of_ble_eq_true rfl)) dX5_add_144 ⟨Nat.le_refl _, Nat.le_refl _⟩) hw.2.2 (afr_in hw.2.2) (fun H locs hw => ?_)
                obtain ⟨hi_147, h⟩ := chk_e h
                obtain ⟨s5_147, e_147, h⟩ := nam_e h
                refine aC49 hx hb hK hw hi_147 e_147 dX5_add_147 (fun H locs hw => ?_)
                refine lv_iconst (v := 0) hx hb dX5_add_148 (by decide) ?_
                refine lv_istore (lv' := [(6, .int ((0 : Int32))), (2, .int a2), (3, .int a3), (4, .int a4), (5, .int n_4), (0, .ref (ad 5)), (1, .ref (ad 8))]) hx hb dX5_add_149 hl (by decide) rfl (fun ls hl => ?_)
                obtain ⟨n_151, hn_151⟩ := loop_e h
                have hL_151 : ∀ (n : Nat) (t_151 : Int32 × OS) (H : Heap) (locs : List Loc) (ls : Array Slot), loopN (f5_add_l151 n_4 q_88 s8) n t_151 = some r → Wd D (cellsC ad cy s0 s1 s2 s3 s4 t_151.2 q_88 s7 s8 s9 s10) (Afr ad 67 s.heap.size) s.heap H locs → lv_has ls 7 [(6, .int t_151.1), (5, .int n_4), (0, .ref (ad 5))] → W p l e (rmL 69) s m ([.ref (ad 5), .ref (ad 8), .int a2, .int a3, .int a4] : List Value).toArray below meth c H locs 0 0 Q (F0 m 151 ls []) := by
                  intro n
                  induction n with
                  | zero => intro t_151 H locs ls hn; cases hn
                  | succ n ih_151 =>
                    intro t_151 H locs ls hn hw hl
                    obtain ⟨x_151, h, hx_151⟩ := loopN_e hn
                    unfold f5_add_l151 at h
                    refine lv_iload hx hb dX5_add_151 (lv_at hl 0 rfl) ?_
                    refine lv_bipush (v := 12) hx hb dX5_add_153 (by decide) ?_
                    refine lv_icmp_ge (tgt := 186) hx hb dX5_add_155 (by decide) (fun c_155 => ?_) (fun c_155 => ?_)
                    · have h := ite_t c_155 h
                      have h := nx_m hx_151 h
                      refine lv_aload_n hx hb dX5_add_186 rfl (lv_at hl 2 rfl) ?_
                      refine lv_dup hx hb dX5_add_187 rfl ?_
                      refine gX5_41 hx hb hts hown hK hw dX5_add_188 ?_
                      refine lv_iconst (v := 1) hx hb dX5_add_191 (by decide) ?_
                      refine lv_iadd hx hb dX5_add_192 ?_
                      obtain ⟨s5_193, e_193, h⟩ := nam_e h
                      refine pX5_41 hx hb hts hown hK hw e_193 dX5_add_193 (fun H locs hw => ?_)
                      refine lv_iload hx hb dX5_add_196 (lv_at hl 1 rfl) ?_
                      have h := Option.some.inj h
                      subst h
                      rw [← hQ]
                      exact retI hx hb hr hlk hw rfl dX5_add_198
                    · have h := ite_f c_155 h
                      refine lv_aload_n hx hb dX5_add_158 rfl (lv_at hl 2 rfl) ?_
                      refine gX5_30 hx hb hts hown hK hw dX5_add_159 ?_
                      refine lv_iload hx hb dX5_add_162 (lv_at hl 1 rfl) ?_
                      refine lv_bipush (v := 12) hx hb dX5_add_164 (by decide) ?_
                      refine lv_imul hx hb dX5_add_166 ?_
                      refine lv_iload hx hb dX5_add_167 (lv_at hl 0 rfl) ?_
                      refine lv_iadd hx hb dX5_add_169 ?_
                      refine lv_aload_n hx hb dX5_add_170 rfl (lv_at hl 2 rfl) ?_
                      refine gX5_37 hx hb hts hown hK hw dX5_add_171 ?_
                      refine lv_iload hx hb dX5_add_174 (lv_at hl 0 rfl) ?_
                      obtain ⟨q_176, h_176, h⟩ := bnd_e h
                      have pg_176 := preG (av := [.ref (ad 6), .int t_151.1]) hK hw.1 hw.2.1 (NC_keep hN hw.2.2) NC_blind
                      refine endI (mc := 0) (ms := 0) (va_runV (As := [.int t_151.1]) (rest := [.int (((n_4 * (12 : Int32)) + t_151.1)), .ref (ad 50)]) ⟨hx, hb, hml, hown, hts⟩ (m6_startOf l D ad cy H.size s0 s1 s2 s3 s4 t_151.2 q_88 s7 s8 s9 s10 t_151.1 q_176 h_176) (wX5_83 0 hts ⟨Nat.le_of_ble_eq_true rfl, Nat.le_of_ble_eq_true rfl⟩) ⟨pg_176.1, va_recv hK hw.1 (ci := 6) (q0 := 6) rfl eC_6, pg_176.2⟩ rfl rfl hl.1 rfl (lv_room (Nat.le_of_ble_eq_true rfl)) dX5_add_176 ⟨Nat.le_refl _, Nat.le_refl _⟩) hw.2.2 (afr_in hw.2.2) (fun H locs hw => ?_)
                      obtain ⟨hi_179, h⟩ := chk_e h
                      obtain ⟨s5_179, e_179, h⟩ := nam_e h
                      refine aC50 hx hb hK hw hi_179 e_179 dX5_add_179 (fun H locs hw => ?_)
                      obtain ⟨n_180, e_180, h⟩ := nam_e h
                      refine lv_iinc (v := n_180) (lv' := [(6, .int n_180), (5, .int n_4), (0, .ref (ad 5))]) hx hb dX5_add_180 hl (k := 0) rfl (by rw [e_180]; rfl) (by decide) rfl (fun ls hl => ?_)
                      refine lv_goto (tgt := 151) hx hb dX5_add_183 (by decide) ?_
                      exact ih_151 (n_180, s5_179) H locs ls (nx_l hx_151 h) hw (lv_sub hl [0, 1, 2] rfl)
                exact hL_151 n_151 ((0 : Int32), s5_147) H locs ls hn_151 hw (lv_sub hl [0, 4, 5] rfl)
              · have h := ite_f c_98 h
                refine lv_aload_n hx hb dX5_add_101 rfl (lv_at hl 5 rfl) ?_
                refine gX5_37 hx hb hts hown hK hw dX5_add_102 ?_
                obtain ⟨q_105, h_105, h⟩ := bnd_e h
                have pg_105 := preG (av := [.ref (ad 6)]) hK hw.1 hw.2.1 (NC_keep hN hw.2.2) NC_blind
                refine endI (mc := 0) (ms := 0) (va_runV (As := []) (rest := []) ⟨hx, hb, hml, hown, hts⟩ (m6_faultAnswer l D ad cy H.size s0 s1 s2 s3 s4 t_34.2 q_88 s7 s8 s9 s10 q_105 h_105) (wX5_76 0 hts ⟨Nat.le_of_ble_eq_true rfl, Nat.le_of_ble_eq_true rfl⟩) ⟨pg_105.1, va_recv hK hw.1 (ci := 6) (q0 := 6) rfl eC_6, pg_105.2⟩ rfl rfl hl.1 rfl (lv_room (Nat.le_of_ble_eq_true rfl)) dX5_add_105 ⟨Nat.le_refl _, Nat.le_refl _⟩) hw.2.2 (afr_in hw.2.2) (fun H locs hw => ?_)
                have h := Option.some.inj h
                subst h
                rw [← hQ]
                exact retI hx hb hr hlk hw rfl dX5_add_108
            · have h := ite_f c_37 h
              refine lv_aload_n hx hb dX5_add_40 rfl (lv_at hl 5 rfl) ?_
              refine gX5_13 hx hb hts hown hK hw dX5_add_41 ?_
              refine lv_iload hx hb dX5_add_44 (lv_at hl 4 rfl) ?_
              refine lv_sipush (v := 160) hx hb dX5_add_46 (by decide) ?_
              refine lv_imul hx hb dX5_add_49 ?_
              refine lv_iload hx hb dX5_add_50 (lv_at hl 0 rfl) ?_
              refine lv_iadd hx hb dX5_add_52 ?_
              refine lv_aload_n hx hb dX5_add_53 rfl (lv_at hl 6 rfl) ?_
              refine lv_iload hx hb dX5_add_54 (lv_at hl 0 rfl) ?_
              obtain ⟨q_56, h_56, h⟩ := bnd_e h
              have pg_56 := preG (av := [.ref (ad 8), .int t_34.1]) hK hw.1 hw.2.1 (NC_keep hN hw.2.2) NC_blind
              refine endI (mc := 0) (ms := 0) (va_runV (As := [.int t_34.1]) (rest := [.int (((n_4 * (160 : Int32)) + t_34.1)), .ref (ad 45)]) ⟨hx, hb, hml, hown, hts⟩ (m8_byteAt l D ad cy H.size s0 s1 s2 s3 s4 t_34.2 s6 s7 s8 s9 s10 t_34.1 q_56 h_56) (wX5_59 0 hts ⟨Nat.le_of_ble_eq_true rfl, Nat.le_of_ble_eq_true rfl⟩) ⟨pg_56.1, va_recv hK hw.1 (ci := 8) (q0 := 8) rfl eC_8, pg_56.2⟩ rfl rfl hl.1 rfl (lv_room (Nat.le_of_ble_eq_true rfl)) dX5_add_56 ⟨Nat.le_refl _, Nat.le_refl _⟩) hw.2.2 (afr_in hw.2.2) (fun H locs hw => ?_)
              obtain ⟨hi_59, h⟩ := chk_e h
              obtain ⟨s5_59, e_59, h⟩ := nam_e h
              refine aC45 hx hb hK hw hi_59 e_59 dX5_add_59 (fun H locs hw => ?_)
              obtain ⟨n_60, e_60, h⟩ := nam_e h
              refine lv_iinc (v := n_60) (lv' := [(6, .int n_60), (2, .int a2), (3, .int a3), (4, .int a4), (5, .int n_4), (0, .ref (ad 5)), (1, .ref (ad 8))]) hx hb dX5_add_60 hl (k := 0) rfl (by rw [e_60]; rfl) (by decide) rfl (fun ls hl => ?_)
              refine lv_goto (tgt := 34) hx hb dX5_add_63 (by decide) ?_
              exact ih_34 (n_60, s5_59) H locs ls (nx_l hx_34 h) hw (lv_sub hl [0, 1, 2, 3, 4, 5, 6] rfl)
        exact hL_34 n_34 ((0 : Int32), s5) H locs ls hn_34 hw (lv_sub hl [0, 4, 5, 6, 1, 2, 3] rfl)
      · have h := ite_f c_26 h
        exact hJ_29 s5 s6 H locs ls h hw (lv_sub hl [] rfl)
theorem dX5_hasRoom_0 : decode cX5_hasRoom 0 = .ok (.aload_n 0, 1) := by decide +kernel
theorem dX5_hasRoom_1 : decode cX5_hasRoom 1 = .ok (.getfield 41, 3) := by decide +kernel
theorem dX5_hasRoom_4 : decode cX5_hasRoom 4 = .ok (.bipush 20, 2) := by decide +kernel
theorem dX5_hasRoom_6 : decode cX5_hasRoom 6 = .ok (.if_icmp .ge 7, 3) := by decide +kernel
theorem dX5_hasRoom_9 : decode cX5_hasRoom 9 = .ok (.iconst 1, 1) := by decide +kernel
theorem dX5_hasRoom_10 : decode cX5_hasRoom 10 = .ok (.goto 4, 3) := by decide +kernel
theorem dX5_hasRoom_13 : decode cX5_hasRoom 13 = .ok (.iconst 0, 1) := by decide +kernel
theorem dX5_hasRoom_14 : decode cX5_hasRoom 14 = .ok (.ireturn, 1) := by decide +kernel
def f5_hasRoom_j14 (k0_j14 : Int32) (s5_j14 : OS) : Option (Int32) := chk (isB k0_j14) (some k0_j14)
def f5_hasRoom (s5 : OS) : Option (Int32) := if (20 : Int32) ≤ (s5.1 0 8) then (f5_hasRoom_j14 ((0 : Int32)) s5) else (f5_hasRoom_j14 ((1 : Int32)) s5)
set_option maxHeartbeats 4000000 in
set_option maxRecDepth 100000 in
theorem m5_hasRoom (l : Launch) (D : va_G) (ad : Nat → Nat) (cy : Nat → ClassId) (sz : Nat) (s0 s1 s2 s3 s4 s5 s6 s7 s8 s9 s10 : OS) (r : Int32) (h : f5_hasRoom s5 = some r) : Met l yX5_hasRoom (wsOf yX5_hasRoom cX5_hasRoom 1 (some .boolean)) (rmL 0) (va_Pc ([.ref (ad 5)] : List Value) (PreG D cy (cellsC ad cy s0 s1 s2 s3 s4 s5 s6 s7 s8 s9 s10) sz (NC ad))) (QcI D ad 67 (cellsC ad cy s0 s1 s2 s3 s4 s5 s6 s7 s8 s9 s10) (r) sz) 0 0 (Afr ad 67 sz) := by
  refine metG (own := RX5) (by decide) rfl (Nat.le_of_ble_eq_true rfl) fstC ?_ sz
  intro p e s m below meth c ls C0 hw hl
  obtain ⟨hx, hb, hml, hown, hts, hr, hlk, hK, hN⟩ := C0
  have hl : lv_has ls 1 [(0, .ref (ad 5))] := hl
  generalize hQ : MQ below (QcI D ad 67 (cellsC ad cy s0 s1 s2 s3 s4 s5 s6 s7 s8 s9 s10) (r) s.heap.size) ([.ref (ad 5)] : List Value).toArray s 0 0 (Afr ad 67 s.heap.size) = Q
  obtain ⟨H, hH⟩ : ∃ H : Heap, H = s.heap := ⟨_, rfl⟩
  obtain ⟨locs, hlc⟩ : ∃ L : List Loc, L = [] := ⟨_, rfl⟩
  have hw : Wd D (cellsC ad cy s0 s1 s2 s3 s4 s5 s6 s7 s8 s9 s10) (Afr ad 67 s.heap.size) s.heap H locs := by rw [hH, hlc]; exact hw
  suffices h0 : W p l e (rmL 0) s m ([.ref (ad 5)] : List Value).toArray below meth c H locs 0 0 Q (F0 m 0 ls []) by rw [hH, hlc] at h0; exact h0
  clear hH hlc
  unfold f5_hasRoom at h
  have hJ_14 : ∀ (k0_j14 : Int32) (H : Heap) (locs : List Loc) (ls : Array Slot), f5_hasRoom_j14 k0_j14 s5 = some r → Wd D (cellsC ad cy s0 s1 s2 s3 s4 s5 s6 s7 s8 s9 s10) (Afr ad 67 s.heap.size) s.heap H locs → lv_has ls 1 [] → W p l e (rmL 0) s m ([.ref (ad 5)] : List Value).toArray below meth c H locs 0 0 Q (F0 m 14 ls [.int k0_j14]) := by
    intro k0_j14 H locs ls h hw hl
    unfold f5_hasRoom_j14 at h
    obtain ⟨hz_14, h⟩ := chk_e h
    have h := Option.some.inj h
    subst h
    rw [← hQ]
    exact retI hx hb hr hlk hw (narB hz_14) dX5_hasRoom_14
  refine lv_aload_n hx hb dX5_hasRoom_0 rfl (lv_at hl 0 rfl) ?_
  refine gX5_41 hx hb hts hown hK hw dX5_hasRoom_1 ?_
  refine lv_bipush (v := 20) hx hb dX5_hasRoom_4 (by decide) ?_
  refine lv_icmp_ge (tgt := 13) hx hb dX5_hasRoom_6 (by decide) (fun c_6 => ?_) (fun c_6 => ?_)
  · have h := ite_t c_6 h
    refine lv_iconst (v := 0) hx hb dX5_hasRoom_13 (by decide) ?_
    exact hJ_14 ((0 : Int32)) H locs ls h hw (lv_sub hl [] rfl)
  · have h := ite_f c_6 h
    refine lv_iconst (v := 1) hx hb dX5_hasRoom_9 (by decide) ?_
    refine lv_goto (tgt := 14) hx hb dX5_hasRoom_10 (by decide) ?_
    exact hJ_14 ((1 : Int32)) H locs ls h hw (lv_sub hl [] rfl)
